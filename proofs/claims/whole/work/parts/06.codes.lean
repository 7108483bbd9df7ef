set_option maxRecDepth 100000 in
theorem xcodes_0 : (List.range' 0 20).all xokM = true := by decide +kernel
set_option maxRecDepth 100000 in
theorem xcodes_20 : (List.range' 20 20).all xokM = true := by decide +kernel
set_option maxRecDepth 100000 in
theorem xcodes_40 : (List.range' 40 20).all xokM = true := by decide +kernel
set_option maxRecDepth 100000 in
theorem xcodes_60 : (List.range' 60 20).all xokM = true := by decide +kernel
set_option maxRecDepth 100000 in
theorem xcodes_80 : (List.range' 80 20).all xokM = true := by decide +kernel
set_option maxRecDepth 100000 in
theorem xcodes_100 : (List.range' 100 20).all xokM = true := by decide +kernel
set_option maxRecDepth 100000 in
theorem xcodes_120 : (List.range' 120 20).all xokM = true := by decide +kernel
set_option maxRecDepth 100000 in
theorem xcodes_140 : (List.range' 140 20).all xokM = true := by decide +kernel
set_option maxRecDepth 100000 in
theorem xcodes_160 : (List.range' 160 20).all xokM = true := by decide +kernel
set_option maxRecDepth 100000 in
theorem xcodes_180 : (List.range' 180 20).all xokM = true := by decide +kernel
set_option maxRecDepth 100000 in
theorem xcodes_200 : (List.range' 200 20).all xokM = true := by decide +kernel
set_option maxRecDepth 100000 in
theorem xcodes_220 : (List.range' 220 19).all xokM = true := by decide +kernel
set_option maxRecDepth 100000 in
theorem xcodes_240 : (List.range' 240 2).all xokM = true := by decide +kernel
set_option maxRecDepth 100000 in
theorem xlawc_0 : (List.range' 0 150).all (xokP 239) = true := by decide +kernel
set_option maxRecDepth 100000 in
theorem xlawc_150 : (List.range' 150 150).all (xokP 239) = true := by decide +kernel
set_option maxRecDepth 100000 in
theorem xlawc_300 : (List.range' 300 150).all (xokP 239) = true := by decide +kernel
set_option maxRecDepth 100000 in
theorem xlawc_450 : (List.range' 450 150).all (xokP 239) = true := by decide +kernel
set_option maxRecDepth 100000 in
theorem xlawc_600 : (List.range' 600 150).all (xokP 239) = true := by decide +kernel
set_option maxRecDepth 100000 in
theorem xlawc_750 : (List.range' 750 150).all (xokP 239) = true := by decide +kernel
set_option maxRecDepth 100000 in
theorem xlawc_900 : (List.range' 900 150).all (xokP 239) = true := by decide +kernel
set_option maxRecDepth 100000 in
theorem xlawc_1050 : (List.range' 1050 33).all (xokP 239) = true := by decide +kernel
theorem xlaw_len : xlen 239 = 1083 := by decide +kernel
