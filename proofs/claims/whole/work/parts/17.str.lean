/-! String.length, String.charAt of the constants -/
section XZ
variable {p : Program} {l : Launch} {e : Env} {R : Room} {s : State} {m : MethodId} {args : Array Value} {below : List Frame} {meth : Method} {c : Code} {cells slots : Nat} {Q : State → Prop}
variable {r : Nat → Nat} {nL : Nat} {dd : va_G} {kI kZ : ClassId} {n : Nat} {F : Nat → Nat → Bool} {A : Nat → Prop} {xs : Int → Int} {lo : Option Nat} {adV : Nat → Nat}
variable {y pc : Nat} {ls : xls} {st : xst} {D : xD}

theorem xs_strlen (hf : xFix p R s m args c y nL n r dd kI kZ A xs lo adV) {idx pos a : Nat} (he : ((xsg y).2.2.2.1, idx, 38, pos) ∈ xll) (hdg : decode (xmb y) pc = .ok (.invokevirtual idx, 3)) (h1 : 1000 ≤ a) (h2 : a < 1007) (hc : xcat st ≤ 8) (hr1 : 5 ≤ (xroom y).1) (hr2 : 125 ≤ (xroom y).2) (hcs : cells ≤ R.cells ∧ slots ≤ R.slots) (k : xW p l e R s m args below meth c cells slots Q r nL dd kI kZ n F A xs (pc + 3) ls (.inl ((xstr (a - 1000)).length : Int) :: st) D) : xW p l e R s m args below meth c cells slots Q r nL dd kI kZ n F A xs pc ls (.inr (.inr (some a)) :: st) D := sorry
theorem xs_charAt (hf : xFix p R s m args c y nL n r dd kI kZ A xs lo adV) {idx pos a : Nat} {j : Int} (he : ((xsg y).2.2.2.1, idx, 39, pos) ∈ xll) (hdg : decode (xmb y) pc = .ok (.invokevirtual idx, 3)) (h1 : 1000 ≤ a) (h2 : a < 1007) (h3 : 0 ≤ j) (h4 : j < ((xstr (a - 1000)).length : Int)) (hc : xcat st ≤ 8) (hr1 : 5 ≤ (xroom y).1) (hr2 : 125 ≤ (xroom y).2) (hcs : cells ≤ R.cells ∧ slots ≤ R.slots) (k : xW p l e R s m args below meth c cells slots Q r nL dd kI kZ n F A xs (pc + 3) ls (.inl ((xstr (a - 1000)).getD j.toNat 0) :: st) D) : xW p l e R s m args below meth c cells slots Q r nL dd kI kZ n F A xs pc ls (.inl j :: .inr (.inr (some a)) :: st) D := sorry
end XZ
