/-! bits (the first rows began as rows of the BITS laws) -/
def bt (x : Int32) (i : Nat) : Bool := x.toBitVec.getLsbD i
theorem b_ext {x y : Int32} (h : ∀ i, i < 32 → bt x i = bt y i) : x = y := Int32.toBitVec_inj.mp (BitVec.eq_of_getLsbD_eq (fun i hi => h i hi))
theorem b_or (x y : Int32) (i : Nat) : bt (x ||| y) i = (bt x i || bt y i) := by unfold bt; rw [Int32.toBitVec_or, BitVec.getLsbD_or]
theorem b_and (x y : Int32) (i : Nat) : bt (x &&& y) i = (bt x i && bt y i) := by unfold bt; rw [Int32.toBitVec_and, BitVec.getLsbD_and]
theorem b_xor (x y : Int32) (i : Nat) : bt (x ^^^ y) i = (bt x i ^^ bt y i) := by unfold bt; rw [Int32.toBitVec_xor, BitVec.getLsbD_xor]
theorem b_big {x : Int32} {i : Nat} (h : 32 ≤ i) : bt x i = false := BitVec.getLsbD_of_ge _ _ h
theorem b_255 (i : Nat) : bt 255 i = decide (i < 8) := by
  rcases Nat.lt_or_ge i 32 with h | h
  · exact (by decide +kernel : ∀ i, i < 32 → bt 255 i = decide (i < 8)) i h
  · rw [b_big h, decide_eq_false (by omega)]
theorem b_65535 (i : Nat) : bt 65535 i = decide (i < 16) := by
  rcases Nat.lt_or_ge i 32 with h | h
  · exact (by decide +kernel : ∀ i, i < 32 → bt 65535 i = decide (i < 16)) i h
  · rw [b_big h, decide_eq_false (by omega)]
theorem b_m1 : ∀ i, i < 32 → bt (-1) i = true := by decide +kernel
theorem b_0 (i : Nat) : bt 0 i = false := BitVec.getLsbD_zero
theorem s_l : ∀ n, n < 32 → ((nI n &&& 31).toBitVec.smod 32).toNat = n := by decide +kernel
theorem s_u : ∀ n, n < 32 → (((nI n).toUInt32 &&& Int32.toUInt32 31).toBitVec % 32).toNat = n := by decide +kernel
theorem b_shl (n : Nat) (hn : n < 32) (x : Int32) {i : Nat} (hi : i < 32) : bt (x <<< (nI n &&& 31)) i = (decide (n ≤ i) && bt x (i - n)) := by
  unfold bt
  rw [Int32.toBitVec_shiftLeft]
  show (x.toBitVec <<< ((nI n &&& 31).toBitVec.smod 32).toNat).getLsbD i = _
  rw [s_l n hn, BitVec.getLsbD_shiftLeft]
  rcases Nat.lt_or_ge i n with h | h
  · simp [h, Nat.not_le.mpr h]
  · simp [hi, h, Nat.not_lt.mpr h]
theorem b_ushr (n : Nat) (hn : n < 32) (x : Int32) (i : Nat) : bt ((x.toUInt32 >>> ((nI n).toUInt32 &&& Int32.toUInt32 31)).toInt32) i = bt x (n + i) := by
  show (x.toUInt32 >>> ((nI n).toUInt32 &&& Int32.toUInt32 31)).toBitVec.getLsbD i = x.toUInt32.toBitVec.getLsbD (n + i)
  rw [UInt32.toBitVec_shiftRight]
  show (x.toUInt32.toBitVec >>> (((nI n).toUInt32 &&& Int32.toUInt32 31).toBitVec % 32).toNat).getLsbD i = _
  rw [s_u n hn, BitVec.getLsbD_ushiftRight]
theorem b_sshr (n : Nat) (hn : n < 32) (x : Int32) {i : Nat} (hi : i < 32) : bt (x >>> (nI n &&& 31)) i = if n + i < 32 then bt x (n + i) else bt x 31 := by
  unfold bt
  rw [Int32.toBitVec_shiftRight]
  show (x.toBitVec.sshiftRight ((nI n &&& 31).toBitVec.smod 32).toNat).getLsbD i = _
  rw [s_l n hn, BitVec.getLsbD_sshiftRight, BitVec.msb_eq_getLsbD_last]
  simp [hi]
def bI (x : Int) (i : Nat) : Bool := bt (Int32.ofInt x) i
theorem of_iand (a b : Int) : Int32.ofInt (iand a b) = Int32.ofInt a &&& Int32.ofInt b := Int32.ofInt_toInt _
theorem of_ior (a b : Int) : Int32.ofInt (ior a b) = Int32.ofInt a ||| Int32.ofInt b := Int32.ofInt_toInt _
theorem of_ixor (a b : Int) : Int32.ofInt (ixor a b) = Int32.ofInt a ^^^ Int32.ofInt b := Int32.ofInt_toInt _
theorem of_ishl (a b : Int) : Int32.ofInt (ishl a b) = Int32.ofInt a <<< (Int32.ofInt b &&& 31) := Int32.ofInt_toInt _
theorem of_ishr (a b : Int) : Int32.ofInt (ishr a b) = Int32.ofInt a >>> (Int32.ofInt b &&& 31) := Int32.ofInt_toInt _
theorem of_iushr (a b : Int) : Int32.ofInt (iushr a b) = ((Int32.ofInt a).toUInt32 >>> ((Int32.ofInt b).toUInt32 &&& Int32.toUInt32 31)).toInt32 := Int32.ofInt_toInt _
theorem of_nat (n : Nat) : Int32.ofInt (n : Int) = nI n := rfl
theorem bI_iand (a b : Int) (i : Nat) : bI (iand a b) i = (bI a i && bI b i) := by unfold bI; rw [of_iand, b_and]
theorem bI_ior (a b : Int) (i : Nat) : bI (ior a b) i = (bI a i || bI b i) := by unfold bI; rw [of_ior, b_or]
theorem bI_ixor (a b : Int) (i : Nat) : bI (ixor a b) i = (bI a i ^^ bI b i) := by unfold bI; rw [of_ixor, b_xor]
theorem bI_ishl (a : Int) (k : Nat) (hk : k < 32) {i : Nat} (hi : i < 32) : bI (ishl a k) i = (decide (k ≤ i) && bI a (i - k)) := by unfold bI; rw [of_ishl, of_nat, b_shl k hk _ hi]
theorem bI_ishr (a : Int) (k : Nat) (hk : k < 32) {i : Nat} (hi : i < 32) : bI (ishr a k) i = if k + i < 32 then bI a (k + i) else bI a 31 := by unfold bI; rw [of_ishr, of_nat, b_sshr k hk _ hi]
theorem bI_iushr (a : Int) (k : Nat) (hk : k < 32) (i : Nat) : bI (iushr a k) i = bI a (k + i) := by unfold bI; rw [of_iushr, of_nat, b_ushr k hk]
theorem bI_big {a : Int} {i : Nat} (h : 32 ≤ i) : bI a i = false := b_big h
theorem i32_ext {a b : Int32} (h : ∀ i, i < 32 → bt a i = bt b i) : a.toInt = b.toInt := by rw [b_ext h]
theorem bI_1 {i : Nat} (h : i < 32) : bI 1 i = decide (i = 0) := (by decide +kernel : ∀ i, i < 32 → bI 1 i = decide (i = 0)) i h
theorem bI_255 {i : Nat} (h : i < 32) : bI 255 i = decide (i < 8) := (by decide +kernel : ∀ i, i < 32 → bI 255 i = decide (i < 8)) i h
theorem iu_255 (x : Int) (k : Nat) (hk : k ≤ 24) : iand (iushr x k) 255 = iand (ishr x k) 255 := by
  unfold iand
  refine i32_ext fun i hi => ?_
  rw [b_and, b_and]
  show (bI (iushr x k) i && bI 255 i) = (bI (ishr x k) i && bI 255 i)
  rw [bI_255 hi, bI_iushr x k (by omega), bI_ishr x k (by omega) hi]
  by_cases h : i < 8
  · rw [if_pos (by omega)]
  · simp [h]
/-- one bit -/
theorem bit_eq (x : Int) (k : Nat) (hk : k < 32) : iand (ishr x k) 1 = if bI x k then 1 else 0 := by
  cases h : bI x k with
  | true =>
    show (Int32.ofInt (ishr x k) &&& Int32.ofInt 1).toInt = (Int32.ofInt 1).toInt
    refine i32_ext fun i hi => ?_
    rw [b_and]
    show (bI (ishr x k) i && bI 1 i) = bI 1 i
    rw [bI_1 hi, bI_ishr x k hk hi]
    by_cases h0 : i = 0
    · subst h0; simp [h, hk]
    · simp [h0]
  | false =>
    show (Int32.ofInt (ishr x k) &&& Int32.ofInt 1).toInt = (Int32.ofInt 0).toInt
    refine i32_ext fun i hi => ?_
    rw [b_and]
    show (bI (ishr x k) i && bI 1 i) = bt 0 i
    rw [bI_1 hi, bI_ishr x k hk hi, b_0]
    by_cases h0 : i = 0
    · subst h0; simp [h, hk]
    · simp [h0]
theorem bit_01 (x : Int) (k : Nat) (hk : k < 32) : iand (ishr x k) 1 = 0 ∨ iand (ishr x k) 1 = 1 := by
  rw [bit_eq x k hk]
  cases bI x k <;> simp
