/-! helps for the equations -/
def xF1 : Nat → Nat → Bool := fun _ _ => true
theorem cn_eq {P A B : Prop} (h : A = B) : (P ∧ A) = (P ∧ B) := by rw [h]
theorem br_eq {P A A' B B' : Prop} (h1 : A = A') (h2 : B = B') : ((P → A) ∧ (¬ P → B)) = ((P → A') ∧ (¬ P → B')) := by rw [h1, h2]
theorem crv {r b c d : Bool} (h : r = true) (hb : b = true) (hc : c = true) (hd : d = true) : (r && b && c && d) = true := by rw [h, hb, hc, hd]; rfl
theorem xr_n {D : xD} {a b : Nat} {j v k : Int} (h : b ≠ a) : xup D a j v b k = D b k := by simp [xup, h]
theorem xr_k {D : xD} {a : Nat} {j v k : Int} (h : k ≠ j) : xup D a j v a k = D a k := by simp [xup, h]
theorem xr_s {D : xD} {a : Nat} {j v : Int} : xup D a j v a j = v := by simp [xup]
theorem xr_c {D : xD} {a b c : Nat} {sp dp n k : Int} (h : c ≠ b) : xcpy D a b sp dp n c k = D c k := by simp [xcpy, h]
section WPX
variable {n : Nat} {F : Nat → Nat → Bool} {lo : Option Nat} {y p p' nx u c k : Nat} {x : Int} {mo : List Nat} {ls ls' : xls} {st st' : xst} {D D' : xD} {Q : Option xv → xD → Prop} {i : xi}
theorem WP.kI (hi : xcd y p = (0, x, u, nx, mo)) : WP n F lo y p ls st D Q = WP n F lo y nx ls (.inl x :: st) D Q := WP.step hi rfl rfl rfl
theorem WP.kL (hi : xcd y p = (1, x, u, nx, mo)) : WP n F lo y p ls st D Q = WP n F lo y nx ls (.inr (.inl x) :: st) D Q := WP.step hi rfl rfl rfl
theorem WP.kS (hi : xcd y p = (37, x, u, nx, mo)) : WP n F lo y p ls st D Q = WP n F lo y nx ls (.inr (.inr (some (1000 + x.toNat))) :: st) D Q := WP.step hi rfl rfl rfl
theorem WP.ldI {v : Int} (hi : xcd y p = (2, x, u, nx, mo)) (hl : ls[u]? = some (some (.inl v))) : WP n F lo y p ls st D Q = WP n F lo y nx ls (.inl v :: st) D Q := WP.step hi rfl rfl (by show xo2 u nx ls st D = _; unfold xo2; rw [hl])
theorem WP.ldR {v : Nat} (hi : xcd y p = (3, x, u, nx, mo)) (hl : ls[u]? = some (some (.inr (.inr (some v))))) : WP n F lo y p ls st D Q = WP n F lo y nx ls (.inr (.inr (some v)) :: st) D Q := WP.step hi rfl rfl (by show xo3 u nx ls st D = _; unfold xo3; rw [hl])
theorem WP.ldL {v : Int} (hi : xcd y p = (4, x, u, nx, mo)) (hl : ls[u]? = some (some (.inr (.inl v)))) : WP n F lo y p ls st D Q = WP n F lo y nx ls (.inr (.inl v) :: st) D Q := WP.step hi rfl rfl (by show xo4 u nx ls st D = _; unfold xo4; rw [hl])
theorem WP.stI {v : Int} (hi : xcd y p = (5, x, u, nx, mo)) (hp : xput ls u (.inl v) = some ls') : WP n F lo y p ls (.inl v :: st) D Q = WP n F lo y nx ls' st D Q := WP.step hi rfl rfl (by show xo5 u nx ls (.inl v :: st) D = _; unfold xo5; dsimp only; rw [hp])
theorem WP.stR {v : Nat} (hi : xcd y p = (6, x, u, nx, mo)) (hp : xput ls u (.inr (.inr (some v))) = some ls') : WP n F lo y p ls (.inr (.inr (some v)) :: st) D Q = WP n F lo y nx ls' st D Q := WP.step hi rfl rfl (by show xo6 u nx ls (.inr (.inr (some v)) :: st) D = _; unfold xo6; dsimp only; rw [hp])
theorem WP.dup {v : xv} (hi : xcd y p = (10, x, u, nx, mo)) (h : x1 v = true) : WP n F lo y p ls (v :: st) D Q = WP n F lo y nx ls (v :: v :: st) D Q := WP.step hi rfl rfl (by show (bif x1 v then some (nx, ls, v :: v :: st, D) else none) = _; rw [h]; rfl)
theorem WP.dup2 {v w : xv} (hi : xcd y p = (11, x, u, nx, mo)) (h : x1 v = true) (h2 : x1 w = true) : WP n F lo y p ls (v :: w :: st) D Q = WP n F lo y nx ls (v :: w :: v :: w :: st) D Q := WP.step hi rfl rfl (by show (bif x1 v && x1 w then some (nx, ls, v :: w :: v :: w :: st, D) else none) = _; rw [h, h2]; rfl)
theorem WP.pop {v : xv} (hi : xcd y p = (12, x, u, nx, mo)) (h : x1 v = true) : WP n F lo y p ls (v :: st) D Q = WP n F lo y nx ls st D Q := WP.step hi rfl rfl (by show (bif x1 v then some (nx, ls, st, D) else none) = _; rw [h]; rfl)
theorem WP.getI2 {a : Nat} {v : Int} (hi : xcd y p = (14, x, c, nx, [k])) (ho : xisO n a c = true) (hv : D a k = v) : WP n F lo y p ls (.inr (.inr (some a)) :: st) D Q = WP n F lo y nx ls (.inl v :: st) D Q := by rw [WP.getI hi ho, hv]
theorem WP.getL2 {a : Nat} {v : Int} (hi : xcd y p = (16, x, c, nx, [k])) (ho : xisO n a c = true) (hv : D a k = v) : WP n F lo y p ls (.inr (.inr (some a)) :: st) D Q = WP n F lo y nx ls (.inr (.inl v) :: st) D Q := by rw [WP.getL hi ho, hv]
theorem WP.putZ0 {a : Nat} (hi : xcd y p = (17, 1, c, nx, [k])) (ho : xisO n a c = true) : WP n F lo y p ls (.inl 0 :: .inr (.inr (some a)) :: st) D Q = WP n F lo y nx ls st (xup D a k 0) Q := by rw [WP.putZ hi ho]; exact propext ⟨fun h => h.2, fun h => ⟨Or.inl rfl, h⟩⟩
theorem WP.putZ1 {a : Nat} (hi : xcd y p = (17, 1, c, nx, [k])) (ho : xisO n a c = true) : WP n F lo y p ls (.inl 1 :: .inr (.inr (some a)) :: st) D Q = WP n F lo y nx ls st (xup D a k 1) Q := by rw [WP.putZ hi ho]; exact propext ⟨fun h => h.2, fun h => ⟨Or.inr rfl, h⟩⟩
theorem WP.iald2 {a L : Nat} {j v : Int} (hi : xcd y p = (20, 0, 0, nx, [])) (hL : xalen lo n a = some L) (hv : D a j = v) : WP n F lo y p ls (.inl j :: .inr (.inr (some a)) :: st) D Q = ((0 ≤ j ∧ j < (L : Int)) ∧ WP n F lo y nx ls (.inl v :: st) D Q) := by rw [WP.iald hi hL, hv]
theorem WP.bald2 {a L : Nat} {j v : Int} (hi : xcd y p = (22, 0, 0, nx, [])) (hL : xzlen n a = some L) (hv : D a j = v) : WP n F lo y p ls (.inl j :: .inr (.inr (some a)) :: st) D Q = ((0 ≤ j ∧ j < (L : Int)) ∧ WP n F lo y nx ls (.inl v :: st) D Q) := by rw [WP.bald hi hL, hv]
theorem WP.alen2 {a L : Nat} (hi : xcd y p = (24, 0, 0, nx, [])) (hL : xalen lo n a = some L) : WP n F lo y p ls (.inr (.inr (some a)) :: st) D Q = ((L : Int) ≤ 2147483647 ∧ WP n F lo y nx ls (.inl (L : Int) :: st) D Q) := by
  refine WP.cnd hi rfl rfl (fun h => ?_) (fun h => ?_)
  · show (match xalen lo n a with | some m => bif xib (m : Int) then some (nx, ls, .inl (m : Int) :: st, D) else none | none => none : Option xcf) = _
    rw [hL]
    dsimp only
    rw [xib_t ⟨by omega, h⟩]
    rfl
  · show (match xalen lo n a with | some m => bif xib (m : Int) then some (nx, ls, .inl (m : Int) :: st, D) else none | none => none : Option xcf) = _
    rw [hL]
    dsimp only
    rw [xib_f (fun z => h z.2)]
    rfl
theorem WP.slen2 {a : Nat} (hi : xcd y p = (38, 0, 0, nx, [])) (ha : (Nat.ble 1000 a && Nat.blt a 1007) = true) (hc : Nat.ble (xcat st) 8 = true) : WP n F lo y p ls (.inr (.inr (some a)) :: st) D Q = WP n F lo y nx ls (.inl ((xstr (a - 1000)).length : Int) :: st) D Q := WP.slen hi (by rw [hc]; simpa using ha)
theorem WP.chr2 {a : Nat} {j : Int} (hi : xcd y p = (39, 0, 0, nx, [])) (ha : (Nat.ble 1000 a && Nat.blt a 1007) = true) (hc : Nat.ble (xcat st) 8 = true) : WP n F lo y p ls (.inl j :: .inr (.inr (some a)) :: st) D Q = ((0 ≤ j ∧ j < ((xstr (a - 1000)).length : Int)) ∧ WP n F lo y nx ls (.inl ((xstr (a - 1000)).getD j.toNat 0) :: st) D Q) := WP.chr hi (by simpa using ha) hc
theorem WP.lshl {a b : Int} (hi : xcd y p = (42, 0, 0, nx, [])) : WP n F lo y p ls (.inl b :: .inr (.inl a) :: st) D Q = WP n F lo y nx ls (.inr (.inl (lshl a b)) :: st) D Q := WP.step hi rfl rfl rfl
theorem WP.lor {a b : Int} (hi : xcd y p = (42, 0, 1, nx, [])) : WP n F lo y p ls (.inr (.inl b) :: .inr (.inl a) :: st) D Q = WP n F lo y nx ls (.inr (.inl (lor a b)) :: st) D Q := WP.step hi rfl rfl rfl
theorem WP.lcmp {a b : Int} (hi : xcd y p = (42, 0, 2, nx, [])) : WP n F lo y p ls (.inr (.inl b) :: .inr (.inl a) :: st) D Q = WP n F lo y nx ls (.inl (if a < b then -1 else if a = b then 0 else 1) :: st) D Q := WP.step hi rfl rfl rfl
theorem WP.i2l {a : Int} (hi : xcd y p = (42, 0, 3, nx, [])) : WP n F lo y p ls (.inl a :: st) D Q = WP n F lo y nx ls (.inr (.inl a) :: st) D Q := WP.step hi rfl rfl rfl
end WPX
theorem so_all {a : Nat} {c : Nat} {f : Nat → Bool} (h : xisO 124 a c = true) (hf : (List.range 124).all (fun a => !(xisO 124 a c) || f a) = true) : f a = true := by
  have h2 := List.all_eq_true.mp hf a (List.mem_range.mpr (xisO_iff.mp h).2.1)
  rw [h] at h2
  simpa using h2
theorem so_0_0 {a : Nat} (h : xisO 124 a 0 = true) : xalen none 124 (a + 1) = some 208 := of_decide_eq_true (so_all (f := fun a => decide (xalen none 124 (a + 1) = some 208)) h (by decide +kernel))
theorem so_0_1 {a : Nat} (h : xisO 124 a 0 = true) : xalen none 124 (a + 2) = some 13 := of_decide_eq_true (so_all (f := fun a => decide (xalen none 124 (a + 2) = some 13)) h (by decide +kernel))
theorem so_1_1 {a : Nat} (h : xisO 124 a 1 = true) : xalen none 124 (a + 1) = some 8 := of_decide_eq_true (so_all (f := fun a => decide (xalen none 124 (a + 1) = some 8)) h (by decide +kernel))
theorem so_1_3 {a : Nat} (h : xisO 124 a 1 = true) : xalen none 124 (a + 2) = some 8 := of_decide_eq_true (so_all (f := fun a => decide (xalen none 124 (a + 2) = some 8)) h (by decide +kernel))
theorem so_1_4 {a : Nat} (h : xisO 124 a 1 = true) : xalen none 124 (a + 3) = some 8 := of_decide_eq_true (so_all (f := fun a => decide (xalen none 124 (a + 3) = some 8)) h (by decide +kernel))
theorem so_2_5 {a : Nat} (h : xisO 124 a 2 = true) : xalen none 124 (a + 1) = some 13 := of_decide_eq_true (so_all (f := fun a => decide (xalen none 124 (a + 1) = some 13)) h (by decide +kernel))
theorem so_2_6 {a : Nat} (h : xisO 124 a 2 = true) : xalen none 124 (a + 2) = some 13 := of_decide_eq_true (so_all (f := fun a => decide (xalen none 124 (a + 2) = some 13)) h (by decide +kernel))
theorem so_2_7 {a : Nat} (h : xisO 124 a 2 = true) : xalen none 124 (a + 3) = some 8 := of_decide_eq_true (so_all (f := fun a => decide (xalen none 124 (a + 3) = some 8)) h (by decide +kernel))
theorem so_2_8 {a : Nat} (h : xisO 124 a 2 = true) : xalen none 124 (a + 4) = some 8 := of_decide_eq_true (so_all (f := fun a => decide (xalen none 124 (a + 4) = some 8)) h (by decide +kernel))
theorem so_2_9 {a : Nat} (h : xisO 124 a 2 = true) : xalen none 124 (a + 5) = some 8 := of_decide_eq_true (so_all (f := fun a => decide (xalen none 124 (a + 5) = some 8)) h (by decide +kernel))
theorem so_2_10 {a : Nat} (h : xisO 124 a 2 = true) : xalen none 124 (a + 6) = some 8 := of_decide_eq_true (so_all (f := fun a => decide (xalen none 124 (a + 6) = some 8)) h (by decide +kernel))
theorem so_2_11 {a : Nat} (h : xisO 124 a 2 = true) : xalen none 124 (a + 7) = some 8 := of_decide_eq_true (so_all (f := fun a => decide (xalen none 124 (a + 7) = some 8)) h (by decide +kernel))
theorem so_2_12 {a : Nat} (h : xisO 124 a 2 = true) : xalen none 124 (a + 8) = some 6 := of_decide_eq_true (so_all (f := fun a => decide (xalen none 124 (a + 8) = some 6)) h (by decide +kernel))
theorem so_3_1 {a : Nat} (h : xisO 124 a 3 = true) : xalen none 124 (a + 1) = some 120 := of_decide_eq_true (so_all (f := fun a => decide (xalen none 124 (a + 1) = some 120)) h (by decide +kernel))
theorem so_3_2 {a : Nat} (h : xisO 124 a 3 = true) : xalen none 124 (a + 2) = some 1016 := of_decide_eq_true (so_all (f := fun a => decide (xalen none 124 (a + 2) = some 1016)) h (by decide +kernel))
theorem so_3_3 {a : Nat} (h : xisO 124 a 3 = true) : xalen none 124 (a + 3) = some 1016 := of_decide_eq_true (so_all (f := fun a => decide (xalen none 124 (a + 3) = some 1016)) h (by decide +kernel))
theorem so_3_4 {a : Nat} (h : xisO 124 a 3 = true) : xalen none 124 (a + 4) = some 1016 := of_decide_eq_true (so_all (f := fun a => decide (xalen none 124 (a + 4) = some 1016)) h (by decide +kernel))
theorem so_3_5 {a : Nat} (h : xisO 124 a 3 = true) : xalen none 124 (a + 5) = some 1016 := of_decide_eq_true (so_all (f := fun a => decide (xalen none 124 (a + 5) = some 1016)) h (by decide +kernel))
theorem so_3_6 {a : Nat} (h : xisO 124 a 3 = true) : xalen none 124 (a + 6) = some 1016 := of_decide_eq_true (so_all (f := fun a => decide (xalen none 124 (a + 6) = some 1016)) h (by decide +kernel))
theorem so_3_7 {a : Nat} (h : xisO 124 a 3 = true) : xalen none 124 (a + 7) = some 1016 := of_decide_eq_true (so_all (f := fun a => decide (xalen none 124 (a + 7) = some 1016)) h (by decide +kernel))
theorem so_3_8 {a : Nat} (h : xisO 124 a 3 = true) : xalen none 124 (a + 8) = some 120 := of_decide_eq_true (so_all (f := fun a => decide (xalen none 124 (a + 8) = some 120)) h (by decide +kernel))
theorem so_3_9 {a : Nat} (h : xisO 124 a 3 = true) : xalen none 124 (a + 9) = some 120 := of_decide_eq_true (so_all (f := fun a => decide (xalen none 124 (a + 9) = some 120)) h (by decide +kernel))
theorem so_3_10 {a : Nat} (h : xisO 124 a 3 = true) : xalen none 124 (a + 10) = some 120 := of_decide_eq_true (so_all (f := fun a => decide (xalen none 124 (a + 10) = some 120)) h (by decide +kernel))
theorem so_4_0 {a : Nat} (h : xisO 124 a 4 = true) : xisO 124 (a + 1) 3 = true := of_decide_eq_true (so_all (f := fun a => decide (xisO 124 (a + 1) 3 = true)) h (by decide +kernel))
theorem so_4_2 {a : Nat} (h : xisO 124 a 4 = true) : xalen none 124 (a + 12) = some 13 := of_decide_eq_true (so_all (f := fun a => decide (xalen none 124 (a + 12) = some 13)) h (by decide +kernel))
theorem so_4_3 {a : Nat} (h : xisO 124 a 4 = true) : xalen none 124 (a + 13) = some 104 := of_decide_eq_true (so_all (f := fun a => decide (xalen none 124 (a + 13) = some 104)) h (by decide +kernel))
theorem so_4_4 {a : Nat} (h : xisO 124 a 4 = true) : xalen none 124 (a + 14) = some 13 := of_decide_eq_true (so_all (f := fun a => decide (xalen none 124 (a + 14) = some 13)) h (by decide +kernel))
theorem so_4_5 {a : Nat} (h : xisO 124 a 4 = true) : xalen none 124 (a + 15) = some 169 := of_decide_eq_true (so_all (f := fun a => decide (xalen none 124 (a + 15) = some 169)) h (by decide +kernel))
theorem so_4_6 {a : Nat} (h : xisO 124 a 4 = true) : xalen none 124 (a + 16) = some 13 := of_decide_eq_true (so_all (f := fun a => decide (xalen none 124 (a + 16) = some 13)) h (by decide +kernel))
theorem so_5_0 {a : Nat} (h : xisO 124 a 5 = true) : xisO 124 (a + 1) 7 = true := of_decide_eq_true (so_all (f := fun a => decide (xisO 124 (a + 1) 7 = true)) h (by decide +kernel))
theorem so_5_1 {a : Nat} (h : xisO 124 a 5 = true) : xalen none 124 (a + 13) = some 300 := of_decide_eq_true (so_all (f := fun a => decide (xalen none 124 (a + 13) = some 300)) h (by decide +kernel))
theorem so_6_0 {a : Nat} (h : xisO 124 a 6 = true) : xisO 124 (a + 1) 7 = true := of_decide_eq_true (so_all (f := fun a => decide (xisO 124 (a + 1) 7 = true)) h (by decide +kernel))
theorem so_6_2 {a : Nat} (h : xisO 124 a 6 = true) : xalen none 124 (a + 13) = some 8 := of_decide_eq_true (so_all (f := fun a => decide (xalen none 124 (a + 13) = some 8)) h (by decide +kernel))
theorem so_6_4 {a : Nat} (h : xisO 124 a 6 = true) : xalen none 124 (a + 14) = some 8 := of_decide_eq_true (so_all (f := fun a => decide (xalen none 124 (a + 14) = some 8)) h (by decide +kernel))
theorem so_6_5 {a : Nat} (h : xisO 124 a 6 = true) : xalen none 124 (a + 15) = some 8 := of_decide_eq_true (so_all (f := fun a => decide (xalen none 124 (a + 15) = some 8)) h (by decide +kernel))
theorem so_6_6 {a : Nat} (h : xisO 124 a 6 = true) : xalen none 124 (a + 16) = some 8 := of_decide_eq_true (so_all (f := fun a => decide (xalen none 124 (a + 16) = some 8)) h (by decide +kernel))
theorem so_6_7 {a : Nat} (h : xisO 124 a 6 = true) : xalen none 124 (a + 17) = some 208 := of_decide_eq_true (so_all (f := fun a => decide (xalen none 124 (a + 17) = some 208)) h (by decide +kernel))
theorem so_6_8 {a : Nat} (h : xisO 124 a 6 = true) : xalen none 124 (a + 18) = some 208 := of_decide_eq_true (so_all (f := fun a => decide (xalen none 124 (a + 18) = some 208)) h (by decide +kernel))
theorem so_7_0 {a : Nat} (h : xisO 124 a 7 = true) : xalen none 124 (a + 1) = some 16 := of_decide_eq_true (so_all (f := fun a => decide (xalen none 124 (a + 1) = some 16)) h (by decide +kernel))
theorem so_7_1 {a : Nat} (h : xisO 124 a 7 = true) : xalen none 124 (a + 2) = some 16 := of_decide_eq_true (so_all (f := fun a => decide (xalen none 124 (a + 2) = some 16)) h (by decide +kernel))
theorem so_7_2 {a : Nat} (h : xisO 124 a 7 = true) : xalen none 124 (a + 3) = some 16 := of_decide_eq_true (so_all (f := fun a => decide (xalen none 124 (a + 3) = some 16)) h (by decide +kernel))
theorem so_7_3 {a : Nat} (h : xisO 124 a 7 = true) : xalen none 124 (a + 4) = some 16 := of_decide_eq_true (so_all (f := fun a => decide (xalen none 124 (a + 4) = some 16)) h (by decide +kernel))
theorem so_7_4 {a : Nat} (h : xisO 124 a 7 = true) : xalen none 124 (a + 5) = some 16 := of_decide_eq_true (so_all (f := fun a => decide (xalen none 124 (a + 5) = some 16)) h (by decide +kernel))
theorem so_7_5 {a : Nat} (h : xisO 124 a 7 = true) : xalen none 124 (a + 6) = some 16 := of_decide_eq_true (so_all (f := fun a => decide (xalen none 124 (a + 6) = some 16)) h (by decide +kernel))
theorem so_7_6 {a : Nat} (h : xisO 124 a 7 = true) : xalen none 124 (a + 7) = some 8 := of_decide_eq_true (so_all (f := fun a => decide (xalen none 124 (a + 7) = some 8)) h (by decide +kernel))
theorem so_7_7 {a : Nat} (h : xisO 124 a 7 = true) : xalen none 124 (a + 8) = some 8 := of_decide_eq_true (so_all (f := fun a => decide (xalen none 124 (a + 8) = some 8)) h (by decide +kernel))
theorem so_7_8 {a : Nat} (h : xisO 124 a 7 = true) : xalen none 124 (a + 9) = some 6 := of_decide_eq_true (so_all (f := fun a => decide (xalen none 124 (a + 9) = some 6)) h (by decide +kernel))
theorem so_7_9 {a : Nat} (h : xisO 124 a 7 = true) : xalen none 124 (a + 10) = some 6 := of_decide_eq_true (so_all (f := fun a => decide (xalen none 124 (a + 10) = some 6)) h (by decide +kernel))
theorem so_7_10 {a : Nat} (h : xisO 124 a 7 = true) : xalen none 124 (a + 11) = some 6 := of_decide_eq_true (so_all (f := fun a => decide (xalen none 124 (a + 11) = some 6)) h (by decide +kernel))
theorem so_8_0 {a : Nat} (h : xisO 124 a 8 = true) : xalen none 124 (a + 1) = some 104 := of_decide_eq_true (so_all (f := fun a => decide (xalen none 124 (a + 1) = some 104)) h (by decide +kernel))
theorem so_8_1 {a : Nat} (h : xisO 124 a 8 = true) : xalen none 124 (a + 2) = some 8 := of_decide_eq_true (so_all (f := fun a => decide (xalen none 124 (a + 2) = some 8)) h (by decide +kernel))
theorem so_8_2 {a : Nat} (h : xisO 124 a 8 = true) : xalen none 124 (a + 3) = some 8 := of_decide_eq_true (so_all (f := fun a => decide (xalen none 124 (a + 3) = some 8)) h (by decide +kernel))
theorem so_8_3 {a : Nat} (h : xisO 124 a 8 = true) : xalen none 124 (a + 4) = some 144 := of_decide_eq_true (so_all (f := fun a => decide (xalen none 124 (a + 4) = some 144)) h (by decide +kernel))
theorem so_8_4 {a : Nat} (h : xisO 124 a 8 = true) : xalen none 124 (a + 5) = some 13 := of_decide_eq_true (so_all (f := fun a => decide (xalen none 124 (a + 5) = some 13)) h (by decide +kernel))
theorem so_9_0 {a : Nat} (h : xisO 124 a 9 = true) : xalen none 124 (a + 1) = some 300 := of_decide_eq_true (so_all (f := fun a => decide (xalen none 124 (a + 1) = some 300)) h (by decide +kernel))
theorem so_9_4 {a : Nat} (h : xisO 124 a 9 = true) : xisO 124 (a + 2) 6 = true := of_decide_eq_true (so_all (f := fun a => decide (xisO 124 (a + 2) 6 = true)) h (by decide +kernel))
theorem so_9_5 {a : Nat} (h : xisO 124 a 9 = true) : xisO 124 (a + 21) 6 = true := of_decide_eq_true (so_all (f := fun a => decide (xisO 124 (a + 21) 6 = true)) h (by decide +kernel))
theorem so_9_6 {a : Nat} (h : xisO 124 a 9 = true) : xalen none 124 (a + 40) = some 208 := of_decide_eq_true (so_all (f := fun a => decide (xalen none 124 (a + 40) = some 208)) h (by decide +kernel))
theorem so_9_7 {a : Nat} (h : xisO 124 a 9 = true) : xisO 124 (a + 41) 5 = true := of_decide_eq_true (so_all (f := fun a => decide (xisO 124 (a + 41) 5 = true)) h (by decide +kernel))
theorem so_9_8 {a : Nat} (h : xisO 124 a 9 = true) : xisO 124 (a + 55) 4 = true := of_decide_eq_true (so_all (f := fun a => decide (xisO 124 (a + 55) 4 = true)) h (by decide +kernel))
theorem so_9_9 {a : Nat} (h : xisO 124 a 9 = true) : xisO 124 (a + 72) 2 = true := of_decide_eq_true (so_all (f := fun a => decide (xisO 124 (a + 72) 2 = true)) h (by decide +kernel))
theorem so_9_10 {a : Nat} (h : xisO 124 a 9 = true) : xisO 124 (a + 81) 0 = true := of_decide_eq_true (so_all (f := fun a => decide (xisO 124 (a + 81) 0 = true)) h (by decide +kernel))
theorem so_9_11 {a : Nat} (h : xisO 124 a 9 = true) : xisO 124 (a + 84) 8 = true := of_decide_eq_true (so_all (f := fun a => decide (xisO 124 (a + 84) 8 = true)) h (by decide +kernel))
theorem so_9_12 {a : Nat} (h : xisO 124 a 9 = true) : xisO 124 (a + 90) 1 = true := of_decide_eq_true (so_all (f := fun a => decide (xisO 124 (a + 90) 1 = true)) h (by decide +kernel))
theorem so_10_0 {a : Nat} (h : xisO 124 a 10 = true) : xalen none 124 (a + 1) = some 640 := of_decide_eq_true (so_all (f := fun a => decide (xalen none 124 (a + 1) = some 640)) h (by decide +kernel))
theorem so_10_1 {a : Nat} (h : xisO 124 a 10 = true) : xalen none 124 (a + 2) = some 640 := of_decide_eq_true (so_all (f := fun a => decide (xalen none 124 (a + 2) = some 640)) h (by decide +kernel))
theorem so_10_2 {a : Nat} (h : xisO 124 a 10 = true) : xalen none 124 (a + 3) = some 640 := of_decide_eq_true (so_all (f := fun a => decide (xalen none 124 (a + 3) = some 640)) h (by decide +kernel))
theorem so_10_3 {a : Nat} (h : xisO 124 a 10 = true) : xalen none 124 (a + 4) = some 300 := of_decide_eq_true (so_all (f := fun a => decide (xalen none 124 (a + 4) = some 300)) h (by decide +kernel))
theorem so_10_15 {a : Nat} (h : xisO 124 a 10 = true) : xalen none 124 (a + 5) = some 1400 := of_decide_eq_true (so_all (f := fun a => decide (xalen none 124 (a + 5) = some 1400)) h (by decide +kernel))
theorem so_10_16 {a : Nat} (h : xisO 124 a 10 = true) : xalen none 124 (a + 6) = some 1400 := of_decide_eq_true (so_all (f := fun a => decide (xalen none 124 (a + 6) = some 1400)) h (by decide +kernel))
theorem so_10_17 {a : Nat} (h : xisO 124 a 10 = true) : xalen none 124 (a + 7) = some 1400 := of_decide_eq_true (so_all (f := fun a => decide (xalen none 124 (a + 7) = some 1400)) h (by decide +kernel))
theorem so_10_18 {a : Nat} (h : xisO 124 a 10 = true) : xalen none 124 (a + 8) = some 1400 := of_decide_eq_true (so_all (f := fun a => decide (xalen none 124 (a + 8) = some 1400)) h (by decide +kernel))
theorem so_10_19 {a : Nat} (h : xisO 124 a 10 = true) : xalen none 124 (a + 9) = some 120 := of_decide_eq_true (so_all (f := fun a => decide (xalen none 124 (a + 9) = some 120)) h (by decide +kernel))
theorem so_10_20 {a : Nat} (h : xisO 124 a 10 = true) : xalen none 124 (a + 10) = some 1400 := of_decide_eq_true (so_all (f := fun a => decide (xalen none 124 (a + 10) = some 1400)) h (by decide +kernel))
theorem so_10_24 {a : Nat} (h : xisO 124 a 10 = true) : xalen none 124 (a + 11) = some 13 := of_decide_eq_true (so_all (f := fun a => decide (xalen none 124 (a + 11) = some 13)) h (by decide +kernel))
theorem so_10_25 {a : Nat} (h : xisO 124 a 10 = true) : xalen none 124 (a + 12) = some 120 := of_decide_eq_true (so_all (f := fun a => decide (xalen none 124 (a + 12) = some 120)) h (by decide +kernel))
theorem so_10_26 {a : Nat} (h : xisO 124 a 10 = true) : xalen none 124 (a + 13) = some 120 := of_decide_eq_true (so_all (f := fun a => decide (xalen none 124 (a + 13) = some 120)) h (by decide +kernel))
theorem so_10_27 {a : Nat} (h : xisO 124 a 10 = true) : xalen none 124 (a + 14) = some 128 := of_decide_eq_true (so_all (f := fun a => decide (xalen none 124 (a + 14) = some 128)) h (by decide +kernel))
theorem so_10_28 {a : Nat} (h : xisO 124 a 10 = true) : xzlen 124 (a + 15) = some 120 := of_decide_eq_true (so_all (f := fun a => decide (xzlen 124 (a + 15) = some 120)) h (by decide +kernel))
theorem so_10_29 {a : Nat} (h : xisO 124 a 10 = true) : xalen none 124 (a + 16) = some 13 := of_decide_eq_true (so_all (f := fun a => decide (xalen none 124 (a + 16) = some 13)) h (by decide +kernel))
theorem so_10_30 {a : Nat} (h : xisO 124 a 10 = true) : xalen none 124 (a + 17) = some 208 := of_decide_eq_true (so_all (f := fun a => decide (xalen none 124 (a + 17) = some 208)) h (by decide +kernel))
theorem so_10_31 {a : Nat} (h : xisO 124 a 10 = true) : xalen none 124 (a + 18) = some 13 := of_decide_eq_true (so_all (f := fun a => decide (xalen none 124 (a + 18) = some 13)) h (by decide +kernel))
theorem so_10_35 {a : Nat} (h : xisO 124 a 10 = true) : xalen none 124 (a + 19) = some 16 := of_decide_eq_true (so_all (f := fun a => decide (xalen none 124 (a + 19) = some 16)) h (by decide +kernel))
theorem so_10_36 {a : Nat} (h : xisO 124 a 10 = true) : xalen none 124 (a + 20) = some 6 := of_decide_eq_true (so_all (f := fun a => decide (xalen none 124 (a + 20) = some 6)) h (by decide +kernel))
theorem so_10_37 {a : Nat} (h : xisO 124 a 10 = true) : xalen none 124 (a + 21) = some 208 := of_decide_eq_true (so_all (f := fun a => decide (xalen none 124 (a + 21) = some 208)) h (by decide +kernel))
theorem so_10_38 {a : Nat} (h : xisO 124 a 10 = true) : xalen none 124 (a + 22) = some 8 := of_decide_eq_true (so_all (f := fun a => decide (xalen none 124 (a + 22) = some 8)) h (by decide +kernel))
theorem so_10_39 {a : Nat} (h : xisO 124 a 10 = true) : xalen none 124 (a + 23) = some 13 := of_decide_eq_true (so_all (f := fun a => decide (xalen none 124 (a + 23) = some 13)) h (by decide +kernel))
theorem so_10_40 {a : Nat} (h : xisO 124 a 10 = true) : xalen none 124 (a + 24) = some 13 := of_decide_eq_true (so_all (f := fun a => decide (xalen none 124 (a + 24) = some 13)) h (by decide +kernel))
theorem so_10_43 {a : Nat} (h : xisO 124 a 10 = true) : xalen none 124 (a + 25) = some 104 := of_decide_eq_true (so_all (f := fun a => decide (xalen none 124 (a + 25) = some 104)) h (by decide +kernel))
theorem so_10_50 {a : Nat} (h : xisO 124 a 10 = true) : xalen none 124 (a + 26) = some 8 := of_decide_eq_true (so_all (f := fun a => decide (xalen none 124 (a + 26) = some 8)) h (by decide +kernel))
theorem so_10_51 {a : Nat} (h : xisO 124 a 10 = true) : xalen none 124 (a + 27) = some 8 := of_decide_eq_true (so_all (f := fun a => decide (xalen none 124 (a + 27) = some 8)) h (by decide +kernel))
theorem so_10_52 {a : Nat} (h : xisO 124 a 10 = true) : xalen none 124 (a + 28) = some 8 := of_decide_eq_true (so_all (f := fun a => decide (xalen none 124 (a + 28) = some 8)) h (by decide +kernel))
