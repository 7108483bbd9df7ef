/-! turn -/
/-- f on the places of row a that c names -/
def xmp (D : xD) (a : Nat) (c : Int → Bool) (f : Int → Int) : xD := fun b j => if b = a ∧ c j = true then f (D b j) else D b j
/-- a sign that points into a street turned round is taken away -/
def uI (x v : Int) : Int := if v ≠ -1 ∧ iand (ishr x v) 1 = 1 then -1 else v
section M45
variable {K : (Int → Int) → (Int → Int) → (Int → Int) → (Int → Int) → (Int → Int) → (Int → Int) → (Int → Int) → (Int → Int) → Prop}
variable {x0 x1 x2 x3 s z v : Int} {a b : Nat} {D D' : xD} {Q : Option xv → xD → Prop}
theorem xmp_ne {c : Int → Bool} {f : Int → Int} (h : b ≠ a) : xmp D a c f b = D b := by
  funext j
  unfold xmp
  rw [if_neg (fun q => h q.1)]
theorem xmp_at {c : Int → Bool} {f : Int → Int} {j : Int} : xmp D a c f a j = if c j = true then f (D a j) else D a j := by
  unfold xmp
  by_cases h : c j = true
  · rw [if_pos ⟨rfl, h⟩, if_pos h]
  · rw [if_neg (fun q => h q.2), if_neg h]
theorem xmp_0 {c : Int → Bool} {f : Int → Int} (h : ∀ j, c j = false) : xmp D a c f = D := by
  funext b j
  unfold xmp
  rw [if_neg (fun q => by rw [h j] at q; exact absurd q.2 (by decide))]
theorem xmp_up {c c' : Int → Bool} {f : Int → Int} {i : Int} (h : c i = true ∧ c' i = false) (g : ∀ j, j ≠ i → c' j = c j) : xmp (xup D a i (f (D a i))) a c' f = xmp D a c f := by
  funext b j
  unfold xmp xup
  by_cases e : b = a
  · subst e
    by_cases e2 : j = i
    · subst e2
      simp [h.1, h.2]
    · simp [e2, g j e2]
  · simp [e]
theorem xmp_id {c c' : Int → Bool} {f : Int → Int} {i : Int} (h : f (D a i) = D a i) (g : ∀ j, j ≠ i → c' j = c j) (h2 : c' i = false) : xmp D a c' f = xmp D a c f := by
  funext b j
  unfold xmp
  by_cases e : b = a
  · subst e
    by_cases e2 : j = i
    · subst e2
      rw [h2, if_neg (by simp), h]
      simp
    · rw [g j e2]
  · simp [e]
theorem hl16 : xalen none 124 16 = some 8 := rfl
theorem hl19 : xalen none 124 19 = some 8 := rfl
theorem l80 : ∀ (k : Nat) (x3 : Int) (D : xD), 8 = x3 + k → 0 ≤ x3 → WP 124 xF1 none 80 14 [some (.inr (.inr (some 3))), some (.inl x1), some (.inl x2), some (.inl x3)] [] D Q = WP 124 xF1 none 80 44 [some (.inr (.inr (some 3))), some (.inl x1), some (.inl x2), some (.inl 0)] [] (xmp D 16 (fun j => decide (x3 ≤ j ∧ j < 8)) (uI x2)) Q := by
  intro k
  induction k with
  | zero =>
    intro x3 D h1 h2
    rw [seg80_14 (ha0 := ho3), brT (c := 8 ≤ x3) (by omega), xmp_0 (fun j => decide_eq_false (by omega))]
  | succ k ih =>
    intro x3 D h1 h2
    rw [seg80_14 (ha0 := ho3), brF (c := 8 ≤ x3) (by omega), cnB (by omega), m81]
    simp only [Option.toList_some, Option.toList_none, List.cons_append, List.nil_append, Nat.reduceAdd]
    rw [seg80_35 (ha0 := ho3) (hb2 := hl16), cnB (by omega), cnX (by omega), ih (x3 + 1) _ (by omega) (by omega)]
    rw [← xmp_up (f := uI x2) (c' := fun j => decide (x3 + 1 ≤ j ∧ j < 8)) (c := fun j => decide (x3 ≤ j ∧ j < 8)) (i := x3) ⟨decide_eq_true (by omega), decide_eq_false (by omega)⟩ (fun j hj => by simp only [decide_eq_decide]; omega)]
    rfl
theorem l80b : ∀ (k : Nat) (x3 : Int) (D : xD), D 3 3 = x3 + k → 0 ≤ x3 → D 3 3 ≤ 8 → WP 124 xF1 none 80 44 [some (.inr (.inr (some 3))), some (.inl x1), some (.inl x2), some (.inl x3)] [] D Q = Q none (xmp D 19 (fun j => decide (x3 ≤ j ∧ j < D 3 3)) (uI x2)) := by
  intro k
  induction k with
  | zero =>
    intro x3 D h1 h2 h3
    rw [seg80_44 (ha0 := ho3), brT (c := D 3 3 ≤ x3) (by omega), xmp_0 (fun j => decide_eq_false (by omega))]
  | succ k ih =>
    intro x3 D h1 h2 h3
    rw [seg80_44 (ha0 := ho3), brF (c := D 3 3 ≤ x3) (by omega), cnB (by omega), m81]
    simp only [Option.toList_some, Option.toList_none, List.cons_append, List.nil_append, Nat.reduceAdd]
    have e : ∀ v, xup D 19 x3 v 3 3 = D 3 3 := fun v => by rw [up_ne (by decide)]
    rw [seg80_67 (ha0 := ho3) (hb2 := hl19), cnB (by omega), cnX (by omega), ih (x3 + 1) _ (by rw [e]; omega) (by omega) (by rw [e]; omega), e]
    rw [← xmp_up (f := uI x2) (c' := fun j => decide (x3 + 1 ≤ j ∧ j < D 3 3)) (c := fun j => decide (x3 ≤ j ∧ j < D 3 3)) (i := x3) ⟨decide_eq_true (by omega), decide_eq_false (by omega)⟩ (fun j hj => by simp only [decide_eq_decide]; omega)]
    rfl
theorem m80 (h : 0 ≤ D 3 3 ∧ D 3 3 ≤ 8) : WP 124 xF1 none 80 0 [some (.inr (.inr (some 3))), some (.inl x1), none, none] [] D Q = Q none (xmp (xmp (xup D 3 1 x1) 16 (fun j => decide (0 ≤ j ∧ j < 8)) (uI (ixor (D 3 1) x1))) 19 (fun j => decide (0 ≤ j ∧ j < D 3 3)) (uI (ixor (D 3 1) x1))) := by
  have e : xmp (xup D 3 1 x1) 16 (fun j => decide (0 ≤ j ∧ j < 8)) (uI (ixor (D 3 1) x1)) 3 3 = D 3 3 := by rw [xmp_ne (by decide), up_ne2 (by decide)]
  rw [seg80_0 (ha0 := ho3), l80 8 0 _ (by omega) (by omega), l80b (D 3 3).toNat 0 _ (by rw [e]; omega) (by omega) (by rw [e]; omega), e]
theorem uI_0 (h : v < 0) (h2 : -1 ≤ v) : uI x2 v = v := by
  unfold uI
  rw [if_neg (by omega)]
theorem l184 : ∀ (k : Nat) (x3 : Int) (D : xD), 8 = x3 + k → 0 ≤ x3 → (∀ j, x3 ≤ j → j < 8 → -1 ≤ D 96 (176 + j)) → WP 124 xF1 none 184 31 [some (.inr (.inr (some 95))), some (.inl x1), some (.inl x2), some (.inl x3)] [] D Q = WP 124 xF1 none 184 87 [some (.inr (.inr (some 95))), some (.inl x1), some (.inl x2), some (.inl 0)] [] (xmp D 96 (fun j => decide (176 + x3 ≤ j ∧ j < 184)) (uI x2)) Q := by
  intro k
  induction k with
  | zero =>
    intro x3 D h1 h2 hj
    rw [seg184_31 (ha0 := ho95), brT (c := 8 ≤ x3) (by omega), xmp_0 (fun j => decide_eq_false (by omega))]
  | succ k ih =>
    intro x3 D h1 h2 hj
    have h0 := hj x3 (by omega) (by omega)
    rw [seg184_31 (ha0 := ho95), brF (c := 8 ≤ x3) (by omega)]
    simp (disch := omega) only [cnX, cnB, Nat.reduceAdd]
    have gg : ∀ j, j ≠ 176 + x3 → decide (176 + (x3 + 1) ≤ j ∧ j < 184) = decide (176 + x3 ≤ j ∧ j < 184) := fun j hj => by simp only [decide_eq_decide]; omega
    have same : uI x2 (D 96 (176 + x3)) = D 96 (176 + x3) → WP 124 xF1 none 184 79 [some (.inr (.inr (some 95))), some (.inl x1), some (.inl x2), some (.inl x3)] [] D Q = WP 124 xF1 none 184 87 [some (.inr (.inr (some 95))), some (.inl x1), some (.inl x2), some (.inl 0)] [] (xmp D 96 (fun j => decide (176 + x3 ≤ j ∧ j < 184)) (uI x2)) Q := fun hu => by
      rw [seg184_79 (ha0 := ho95), cnX (by omega), ih (x3 + 1) _ (by omega) (by omega) (fun j a b => hj j (by omega) b), xmp_id hu gg (decide_eq_false (by omega))]
    by_cases c1 : D 96 (176 + x3) < 0
    · rw [brT c1]
      exact same (uI_0 c1 h0)
    · rw [brF c1]
      by_cases c2 : iand (ishr x2 (D 96 (176 + x3))) 1 = 1
      · rw [brF (c := iand (ishr x2 (D 96 (176 + x3))) 1 ≠ 1) (fun q => q c2)]
        have hu : uI x2 (D 96 (176 + x3)) = -1 := by unfold uI; rw [if_pos ⟨by omega, c2⟩]
        have hm := xmp_up (D := D) (a := 96) (f := uI x2) (c' := fun j => decide (176 + (x3 + 1) ≤ j ∧ j < 184)) (c := fun j => decide (176 + x3 ≤ j ∧ j < 184)) (i := 176 + x3) ⟨decide_eq_true (by omega), decide_eq_false (by omega)⟩ gg
        rw [hu] at hm
        rw [seg184_79 (ha0 := ho95), cnX (by omega), ih (x3 + 1) _ (by omega) (by omega) (fun j a b => by rw [up_ne2 (by omega)]; exact hj j (by omega) b), hm]
      · rw [brT (c := iand (ishr x2 (D 96 (176 + x3))) 1 ≠ 1) c2]
        exact same (by unfold uI; rw [if_neg (fun q => c2 q.2)])
theorem l184b : ∀ (k : Nat) (x3 : Int) (D : xD), D 96 6 = x3 + k → 0 ≤ x3 → D 96 6 ≤ 8 → (∀ j, x3 ≤ j → j < D 96 6 → -1 ≤ D 96 (190 + 3 * j + 2)) → WP 124 xF1 none 184 87 [some (.inr (.inr (some 95))), some (.inl x1), some (.inl x2), some (.inl x3)] [] D Q = Q (some (.inl 1)) (xmp D 96 (fun j => decide (190 + 3 * x3 ≤ j ∧ j < 190 + 3 * D 96 6 ∧ (j - 192) % 3 = 0)) (uI x2)) := by
  intro k
  induction k with
  | zero =>
    intro x3 D h1 h2 h3 hj
    rw [seg184_87 (ha0 := ho95), cnB (by omega)]
    simp only [Nat.reduceAdd]
    rw [brT (c := D 96 6 ≤ x3) (by omega), xmp_0 (fun j => decide_eq_false (by omega))]
  | succ k ih =>
    intro x3 D h1 h2 h3 hj
    have h0 := hj x3 (by omega) (by omega)
    rw [seg184_87 (ha0 := ho95), cnB (by omega)]
    simp only [Nat.reduceAdd]
    rw [brF (c := D 96 6 ≤ x3) (by omega)]
    simp (disch := omega) only [cnX, cnB]
    have gg : ∀ j, j ≠ 190 + 3 * x3 + 2 → decide (190 + 3 * (x3 + 1) ≤ j ∧ j < 190 + 3 * D 96 6 ∧ (j - 192) % 3 = 0) = decide (190 + 3 * x3 ≤ j ∧ j < 190 + 3 * D 96 6 ∧ (j - 192) % 3 = 0) := fun j hj => by simp only [decide_eq_decide]; omega
    have same : uI x2 (D 96 (190 + 3 * x3 + 2)) = D 96 (190 + 3 * x3 + 2) → WP 124 xF1 none 184 152 [some (.inr (.inr (some 95))), some (.inl x1), some (.inl x2), some (.inl x3)] [] D Q = Q (some (.inl 1)) (xmp D 96 (fun j => decide (190 + 3 * x3 ≤ j ∧ j < 190 + 3 * D 96 6 ∧ (j - 192) % 3 = 0)) (uI x2)) := fun hu => by
      rw [seg184_152 (ha0 := ho95), cnX (by omega), ih (x3 + 1) _ (by omega) (by omega) h3 (fun j a b => hj j (by omega) b), xmp_id hu gg (decide_eq_false (by omega))]
    by_cases c1 : D 96 (190 + 3 * x3 + 2) < 0
    · rw [brT c1]
      exact same (uI_0 c1 h0)
    · rw [brF c1]
      by_cases c2 : iand (ishr x2 (D 96 (190 + 3 * x3 + 2))) 1 = 1
      · rw [brF (c := iand (ishr x2 (D 96 (190 + 3 * x3 + 2))) 1 ≠ 1) (fun q => q c2)]
        have hu : uI x2 (D 96 (190 + 3 * x3 + 2)) = -1 := by unfold uI; rw [if_pos ⟨by omega, c2⟩]
        have hm := xmp_up (D := D) (a := 96) (f := uI x2) (c' := fun j => decide (190 + 3 * (x3 + 1) ≤ j ∧ j < 190 + 3 * D 96 6 ∧ (j - 192) % 3 = 0)) (c := fun j => decide (190 + 3 * x3 ≤ j ∧ j < 190 + 3 * D 96 6 ∧ (j - 192) % 3 = 0)) (i := 190 + 3 * x3 + 2) ⟨decide_eq_true (by omega), decide_eq_false (by omega)⟩ gg
        rw [hu] at hm
        have e : ∀ v, xup D 96 (190 + 3 * x3 + 2) v 96 6 = D 96 6 := fun v => up_ne2 (by omega)
        rw [seg184_152 (ha0 := ho95), cnX (by omega), ih (x3 + 1) _ (by rw [e]; omega) (by omega) (by rw [e]; omega) (fun j a b => by rw [e] at b; rw [up_ne2 (by omega)]; exact hj j (by omega) b), e, hm]
      · rw [brT (c := iand (ishr x2 (D 96 (190 + 3 * x3 + 2))) 1 ≠ 1) c2]
        exact same (by unfold uI; rw [if_neg (fun q => c2 q.2)])
/-- the sets of streets as bits -/
theorem l183 (hA : ∀ k, 0 ≤ k → k < D 96 0 → D 96 (30 + 7 * k + 6) = 0 ∨ D 96 (30 + 7 * k + 6) = 1) : ∀ (k : Nat) (x1 x2 : Int), D 96 0 = x2 + k → 0 ≤ x2 → D 96 0 ≤ 16 → (∀ i : Nat, i < 32 → bI x1 i = decide ((i : Int) < x2 ∧ D 96 (30 + 7 * i + 6) = 1)) → (∀ x, (∀ i : Nat, i < 32 → bI x i = decide ((i : Int) < D 96 0 ∧ D 96 (30 + 7 * i + 6) = 1)) → Q (some (.inl x)) D) → WP 124 xF1 none 183 4 [some (.inr (.inr (some 95))), some (.inl x1), some (.inl x2)] [] D Q := by
  intro k
  induction k with
  | zero =>
    intro x1 x2 h1 h2 h3 hb hQ
    rw [seg183_4 (ha0 := ho95), cnB (by omega)]
    simp only [Nat.reduceAdd]
    rw [brT (c := D 96 0 ≤ x2) (by omega)]
    exact hQ x1 (by rw [show D 96 0 = x2 by omega]; exact hb)
  | succ k ih =>
    intro x1 x2 h1 h2 h3 hb hQ
    rw [seg183_4 (ha0 := ho95), cnB (by omega)]
    simp only [Nat.reduceAdd]
    rw [brF (c := D 96 0 ≤ x2) (by omega)]
    simp (disch := omega) only [cnX, cnB]
    refine ih _ _ (by omega) (by omega) h3 (fun i hi => ?_) hQ
    obtain ⟨n, rfl⟩ : ∃ n : Nat, x2 = n := ⟨x2.toNat, by omega⟩
    rw [bI_ior, hb i hi, bI_ishl _ n (by omega) hi]
    rcases hA n (by omega) (by omega) with h | h <;> rw [h]
    · have z : bI 0 (i - n) = false := b_0 _
      rw [z, Bool.and_false, Bool.or_false, decide_eq_decide]
      constructor
      · rintro ⟨a, b⟩
        exact ⟨by omega, b⟩
      · rintro ⟨a, b⟩
        refine ⟨?_, b⟩
        by_cases e : (i : Int) = n
        · rw [e, h] at b; exact absurd b (by decide)
        · omega
    · rw [bI_1 (by omega)]
      by_cases e : i = n
      · subst e
        simp [h]
        omega
      · by_cases e2 : i < n
        · simp [show ¬ n ≤ i by omega, show (i : Int) < n by omega, show (i : Int) < n + 1 by omega]
        · simp [show ¬ i - n = 0 by omega, show ¬ (i : Int) < n by omega, show ¬ (i : Int) < n + 1 by omega]
theorem iand_cg {x y : Int} (h : ∀ i, i < 32 → bI x i = bI y i) : iand z (ixor x (-1)) = iand z (ixor y (-1)) := by
  unfold iand
  rw [of_ixor, of_ixor]
  refine i32_ext (fun i hi => ?_)
  rw [b_and, b_and, b_xor, b_xor, show bt (Int32.ofInt x) i = bt (Int32.ofInt y) i from h i hi]
theorem tn_bits (H : IS D 3 (D 96)) (W : WfA (D 96)) : ∀ i : Nat, i < 32 → bI (D 4 13) i = decide ((i : Int) < D 96 0 ∧ D 96 (30 + 7 * i + 6) = 1) := by
  intro i hi
  obtain ⟨-, ⟨e1, e2, eb⟩, -⟩ := H
  obtain ⟨⟨w0, w1, -⟩, ws, -⟩ := W
  simp only [Nat.reduceAdd] at e1 e2 eb
  by_cases c : i < 16
  · have h := eb i (by omega) (by omega)
    rw [bit_eq _ _ hi] at h
    by_cases c2 : (i : Int) < D 96 0
    · rw [if_pos c2] at h
      rw [← h]
      cases bI (D 4 13) i <;> simp [c2]
    · rw [if_neg c2] at h
      cases q : bI (D 4 13) i
      · simp [c2]
      · rw [q] at h; exact absurd h (by decide)
  · obtain ⟨n, hn⟩ : ∃ n : Nat, D 4 13 = n := ⟨(D 4 13).toNat, by omega⟩
    rw [hn, bI_nat n i (by omega), Nat.testBit_lt_two_pow (show n < 2 ^ i from Nat.lt_of_lt_of_le (show n < 2 ^ 16 by omega) (Nat.pow_le_pow_right (by decide) (by omega)))]
    simp [show ¬ (i : Int) < D 96 0 by omega]
/-- a street whose bit does not change goes as it went -/
theorem un_frM {A B : Int → Int} {x : Int} (h : ∀ j, (0 ≤ j ∧ j < 176 ∧ j ≠ 5 ∧ j ≠ 6) → B j = A j) (h5 : B 5 = x) (hs : 0 ≤ s ∧ s < 16) (hb : iand (ishr (ixor (A 5) x) s) 1 ≠ 1) : frM B s = frM A s := by
  obtain ⟨n, rfl⟩ : ∃ n : Nat, s = n := ⟨s.toNat, by omega⟩
  have e : bI x n = bI (A 5) n := by
    rw [bit_eq _ _ (by omega), bI_ixor] at hb
    revert hb
    cases bI x n <;> cases bI (A 5) n <;> simp
  unfold frM
  rw [h5, bit_eq _ _ (by omega), bit_eq _ _ (by omega), e, h (30 + 7 * (n : Int) + 1) (by omega), h (30 + 7 * (n : Int)) (by omega)]
theorem uI_rg {x : Int} (h : v = -1 ∨ (0 ≤ v ∧ v < z)) : uI x v = -1 ∨ ((0 ≤ v ∧ v < z) ∧ uI x v = v ∧ iand (ishr x v) 1 ≠ 1) := by
  unfold uI
  by_cases c : v ≠ -1 ∧ iand (ishr x v) 1 = 1
  · rw [if_pos c]; exact .inl rfl
  · rw [if_neg c]
    rcases h with h | h
    · exact .inl h
    · exact .inr ⟨h, rfl, fun q => c ⟨by omega, q⟩⟩
theorem pair6 (hKF : KF K) : ∀ (z1 : Int), xinP z1 → xpr (Inv K) 120 [some (.inr (.inr (some 1))), some (.inl z1)] 184 [some (.inr (.inr (some 95))), some (.inl z1), none, none] := by
  intro z1 y1 D H
  obtain ⟨ht, hs, hw, hs2, hw2, hK, hf⟩ := id H
  obtain ⟨⟨e1, e2, e3, e4, e5⟩, hb, hsl, hst, hp, hd, hcc, hk⟩ := id hs
  obtain ⟨⟨w0, w1, w2, w3, w4, w5⟩, ws, wd, wsum, wp, wc, wk, wx1, wx2, wx3⟩ := id hw
  simp only [Nat.reduceAdd] at e1 e2 e3 e4 e5 hb hsl hst hp hd hcc hk
  rw [seg120_0 (ha0 := ho1)]
  simp only [Nat.reduceAdd]
  by_cases h : iand z1 (ixor (D 4 13) (-1)) = 0
  · rw [brT h, m80 (by omega)]
    simp only [Option.toList_some, Option.toList_none, List.cons_append, List.nil_append]
    rw [seg120_27 (ha0 := ho1), m116]
    simp only [Option.toList_some, Option.toList_none, List.cons_append, List.nil_append]
    rw [seg120_31 (ha0 := ho1)]
    obtain ⟨x, hx⟩ : ∃ x, x = ixor (D 3 1) z1 := ⟨_, rfl⟩
    rw [← hx]
    obtain ⟨D1, hD1⟩ : ∃ D1, D1 = fgt (xmp (xmp (xup D 3 1 z1) 16 (fun j => decide (0 ≤ j ∧ j < 8)) (uI x)) 19 (fun j => decide (0 ≤ j ∧ j < D 3 3)) (uI x)) := ⟨_, rfl⟩
    rw [← hD1]
    have d1 : ∀ a, (a ≠ 3 ∧ a ≠ 16 ∧ a ≠ 19 ∧ a ≠ 56 ∧ a ≠ 70 ∧ a ≠ 71 ∧ a ≠ 91) → D1 a = D a := fun a ha => by
      rw [hD1, fgt_ne (by omega), xmp_ne ha.2.2.1, xmp_ne ha.2.1, up_ne ha.1]
    have d3 : ∀ j, D1 3 j = if j = 1 then z1 else D 3 j := fun j => by
      rw [hD1, fgt_ne (by omega), xmp_ne (by decide), xmp_ne (by decide), up_at]
    have d16 : ∀ j, 0 ≤ j → j < 8 → D1 16 j = uI x (D 16 j) := fun j j1 j2 => by
      rw [hD1, fgt_ne (by omega), xmp_ne (by decide), xmp_at, if_pos (decide_eq_true ⟨j1, j2⟩), up_ne (by decide)]
    have d19 : ∀ j, 0 ≤ j → j < D 3 3 → D1 19 j = uI x (D 19 j) := fun j j1 j2 => by
      rw [hD1, fgt_ne (by omega), xmp_at, if_pos (decide_eq_true ⟨j1, j2⟩), xmp_ne (by decide), up_ne (by decide)]
    have dF : ∀ {T c2 c3 c7 : Int → Int}, K T (D1 56) c2 c3 (D1 70) (D1 71) (D1 91) c7 := fun {_ _ _ _} => fgt_K hKF (fun a _ => by rw [hD1])
    clear hD1
    refine ⟨1, rfl, d1 0 (by decide), ?_⟩
    have e96 : D1 96 = D 96 := d1 96 (by decide)
    rw [seg184_0 (ha0 := ho95), seg183_0 (ha0 := ho95)]
    refine l183 (fun k k1 k2 => by rw [e96] at k2 ⊢; exact (ws k k1 k2).2.2.2.2.2) (D1 96 0).toNat 0 0 (by rw [e96]; omega) (by omega) (by rw [e96]; omega) (fun i hi => ?_) (fun y hy => ?_)
    · rw [show bI 0 i = false from b_0 i, decide_eq_false (by omega)]
    simp only [Option.toList_some, Option.toList_none, List.cons_append, List.nil_append]
    rw [seg184_5 (ha0 := ho95), iand_cg (y := D 4 13) (fun i hi => by rw [hy i hi, tn_bits hs hw i hi, e96]), brT h, cnB (by omega), cnB (by omega)]
    simp only [Nat.reduceAdd]
    rw [e96, ← e4, ← hx]
    have s1 : ∀ j, 0 ≤ j → j < 8 → -1 ≤ D 96 (176 + j) := fun j a b => by
      rcases (wp j a b).2.2 with q | ⟨q, -⟩ <;> omega
    have s2 : ∀ j, 0 ≤ j → j < D 96 6 → -1 ≤ D 96 (190 + 3 * j + 2) := fun j a b => by
      rcases (wc j a b).2.2 with q | ⟨q, -⟩ <;> omega
    have u : ∀ j, j ≠ 5 → xup D1 96 5 z1 96 j = D 96 j := fun j hj => by rw [up_ne2 hj, e96]
    rw [l184 8 0 _ (by omega) (by omega) (fun j a b => by rw [u _ (by omega)]; exact s1 j a b)]
    have u2 : ∀ j, (j < 176 ∨ 184 ≤ j) → j ≠ 5 → xmp (xup D1 96 5 z1) 96 (fun j => decide (176 + 0 ≤ j ∧ j < 184)) (uI x) 96 j = D 96 j := fun j hj hj2 => by
      rw [xmp_at, if_neg (by simp; omega), u j hj2]
    rw [l184b (D 96 6).toNat 0 _ (by rw [u2 6 (by omega) (by decide)]; omega) (by omega) (by rw [u2 6 (by omega) (by decide)]; omega) (fun j a b => by rw [u2 6 (by omega) (by decide)] at b; rw [u2 _ (by omega) (by omega)]; exact s2 j a b), u2 6 (by omega) (by decide)]
    obtain ⟨D2, hD2⟩ : ∃ D2, D2 = xmp (xmp (xup D1 96 5 z1) 96 (fun j => decide (176 + 0 ≤ j ∧ j < 184)) (uI x)) 96 (fun j => decide (190 + 3 * 0 ≤ j ∧ j < 190 + 3 * D 96 6 ∧ (j - 192) % 3 = 0)) (uI x) := ⟨_, rfl⟩
    rw [← hD2]
    have f1 : ∀ a, a ≠ 96 → D2 a = D1 a := fun a ha => by rw [hD2, xmp_ne ha, xmp_ne ha, up_ne ha]
    have fA : ∀ j, (j < 176 ∨ 184 ≤ j) → (j < 190 ∨ 190 + 3 * D 96 6 ≤ j ∨ (j - 192) % 3 ≠ 0) → j ≠ 5 → D2 96 j = D 96 j := fun j a b c => by
      rw [hD2, xmp_at, if_neg (by simp; omega), u2 j a c]
    have f5 : D2 96 5 = z1 := by
      rw [hD2, xmp_at, if_neg (by simp), xmp_at, if_neg (by simp), up_eq]
    have fS : ∀ p, 0 ≤ p → p < 8 → D2 96 (176 + p) = uI x (D 96 (176 + p)) := fun p p1 p2 => by
      rw [hD2, xmp_at, if_neg (by simp; omega), xmp_at, if_pos (decide_eq_true (by omega)), u _ (by omega)]
    have fC : ∀ c, 0 ≤ c → c < D 96 6 → D2 96 (190 + 3 * c + 2) = uI x (D 96 (190 + 3 * c + 2)) := fun c c1 c2 => by
      rw [hD2, xmp_at, if_pos (decide_eq_true (by omega)), u2 _ (by omega) (by omega)]
    clear hD2
    have fn : ∀ a, (a ≠ 3 ∧ a ≠ 16 ∧ a ≠ 19 ∧ a ≠ 56 ∧ a ≠ 70 ∧ a ≠ 71 ∧ a ≠ 91) → a ≠ 96 → D2 a = D a := fun a a1 a2 => by rw [f1 a a2, d1 a a1]
    have fk : ∀ j, (0 ≤ j ∧ j < 176 ∧ j ≠ 5 ∧ j ≠ 6) → D2 96 j = D 96 j := fun j hj => fA j (by omega) (by omega) (by omega)
    refine ⟨rfl, fn 0 (by decide) (by decide), ?_, ?_, ?_, ?_, ?_, ?_, ?_⟩
    · rw [fn 1 (by decide) (by decide), fn 2 (by decide) (by decide), fn 95 (by decide) (by decide), fn 99 (by decide) (by decide)]; exact ht
    · refine IS_of hs (fun a a1 a2 => fn a (by omega) (by omega)) fk ⟨w1, w3⟩ ?_ ?_ (fun p p1 p2 => ?_) (fun c c1 c2 => ?_) (fun k k1 k2 => ?_)
      · rw [f1 3 (by decide), d3, if_pos rfl, f5]
      · rw [f1 3 (by decide), d3, if_neg (by decide), fA 6 (by omega) (by omega) (by decide)]; exact e5
      · simp only [Nat.reduceAdd]
        rw [f1 16 (by decide), d16 p p1 p2, fS p p1 p2, (hp p p1 p2).2.2]
      · rw [fA 6 (by omega) (by omega) (by decide)] at c2
        simp only [Nat.reduceAdd]
        obtain ⟨q1, q2, q3⟩ := hcc c c1 c2
        rw [fn 17 (by decide) (by decide), fn 18 (by decide) (by decide), f1 19 (by decide), d19 c c1 (by omega), fC c c1 c2, fA (190 + 3 * c) (by omega) (by omega) (by omega), fA (190 + 3 * c + 1) (by omega) (by omega) (by omega), q3]
        exact ⟨q1, q2, rfl⟩
      · simp only [Nat.reduceAdd]
        rw [fn 20 (by decide) (by decide), fn 21 (by decide) (by decide), fA _ (by omega) (by omega) (by omega), fA _ (by omega) (by omega) (by omega)]; exact hk k k1 k2
    · refine Wf_of hw fk (by rw [f5]; exact y1) (by rw [fA 6 (by omega) (by omega) (by decide)]; exact ⟨w4, w5⟩) (fun p p1 p2 => ?_) (fun c c1 c2 => ?_) (fun k k1 k2 => ?_)
      · rw [fS p p1 p2]
        have v3 := (wp p p1 p2).2.2
        rcases uI_rg (x := x) (z := D 96 0) (show D 96 (176 + p) = -1 ∨ (0 ≤ D 96 (176 + p) ∧ D 96 (176 + p) < D 96 0) by rcases v3 with q | ⟨q, r, -⟩ <;> omega) with q | ⟨q, r, t⟩
        · exact .inl q
        · refine .inr ?_
          rw [r]
          refine ⟨q.1, q.2, ?_⟩
          rw [un_frM fk f5 ⟨q.1, by omega⟩ (by rw [← e4, ← hx]; exact t)]
          rcases v3 with q2 | ⟨-, -, q2⟩
          · omega
          · exact q2
      · rw [fA 6 (by omega) (by omega) (by decide)] at c2
        rw [fA (190 + 3 * c) (by omega) (by omega) (by omega), fA (190 + 3 * c + 1) (by omega) (by omega) (by omega), fC c c1 c2]
        obtain ⟨v1, v2, v3⟩ := wc c c1 c2
        refine ⟨v1, v2, ?_⟩
        rcases uI_rg (x := x) (z := D 96 0) (show D 96 (190 + 3 * c + 2) = -1 ∨ (0 ≤ D 96 (190 + 3 * c + 2) ∧ D 96 (190 + 3 * c + 2) < D 96 0) by rcases v3 with q | ⟨q, r, -⟩ <;> omega) with q | ⟨q, r, t⟩
        · exact .inl q
        · refine .inr ?_
          rw [r]
          refine ⟨q.1, q.2, ?_⟩
          rw [un_frM fk f5 ⟨q.1, by omega⟩ (by rw [← e4, ← hx]; exact t)]
          rcases v3 with q2 | ⟨-, -, q2⟩
          · omega
          · exact q2
      · rw [fA _ (by omega) (by omega) (by omega), fA _ (by omega) (by omega) (by omega)]; exact wk k k1 k2
    · rw [fn 97 (by decide) (by decide)]
      exact IS_congr (fun a a1 a2 => fn a (by omega) (by omega)) hs2
    · rw [fn 97 (by decide) (by decide)]; exact hw2
    · rw [f1 56 (by decide), f1 70 (by decide), f1 71 (by decide), f1 91 (by decide)]; exact dF
    · rw [fn 85 (by decide) (by decide)]; exact hf
  · rw [brF h]
    refine ⟨0, rfl, trivial, ?_⟩
    rw [seg184_0 (ha0 := ho95), seg183_0 (ha0 := ho95)]
    refine l183 (fun k k1 k2 => (ws k k1 k2).2.2.2.2.2) (D 96 0).toNat 0 0 (by omega) (by omega) (by omega) (fun i hi => ?_) (fun y hy => ?_)
    · rw [show bI 0 i = false from b_0 i, decide_eq_false (by omega)]
    simp only [Option.toList_some, Option.toList_none, List.cons_append, List.nil_append]
    rw [seg184_5 (ha0 := ho95), iand_cg (y := D 4 13) (fun i hi => by rw [hy i hi, tn_bits hs hw i hi]), brF h]
    exact ⟨rfl, rfl, H⟩

end M45
