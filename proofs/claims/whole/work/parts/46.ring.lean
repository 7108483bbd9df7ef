/-! ring -/
def itI (f : Int → Int) : Nat → Int → Int
  | 0, p => p
  | k + 1, p => itI f k (f p)
/-- is x one of p, f p, .., k of them -/
def rgI (f : Int → Int) (x : Int) : Nat → Int → Bool
  | 0, _ => false
  | k + 1, p => if p = x then true else rgI f x k (f p)
def exI (P : Int → Bool) (i : Int) : Nat → Bool
  | 0 => false
  | k + 1 => if P i = true then true else exI P (i + 1) k
def boI (b : Bool) : Int := bif b then 1 else 0
/-- where the sign of a place leads to -/
def ldC (D : xD) (p : Int) : Int := if p = -1 then -1 else if D 16 p = -1 then -1 else toC D (D 16 p)
section M46
variable {K : (Int → Int) → (Int → Int) → (Int → Int) → (Int → Int) → (Int → Int) → (Int → Int) → (Int → Int) → (Int → Int) → Prop}
variable {x0 x1 x2 x3 s z v : Int} {a b : Nat} {D D' : xD} {Q : Option xv → xD → Prop}
theorem itI_m1 {f : Int → Int} (h : f (-1) = -1) : ∀ k, itI f k (-1) = -1 := by
  intro k
  induction k with
  | zero => rfl
  | succ k ih => simp only [itI]; rw [h, ih]
theorem itI_rg {f : Int → Int} (h : ∀ p, -1 ≤ p ∧ p ≤ 7 → -1 ≤ f p ∧ f p ≤ 7) : ∀ k p, -1 ≤ p ∧ p ≤ 7 → -1 ≤ itI f k p ∧ itI f k p ≤ 7 := by
  intro k
  induction k with
  | zero => intro p hp; exact hp
  | succ k ih => intro p hp; simp only [itI]; exact ih _ (h p hp)
theorem rgI_m1 {f : Int → Int} {x : Int} (h : f (-1) = -1) (hx : 0 ≤ x) : ∀ k, rgI f x k (-1) = false := by
  intro k
  induction k with
  | zero => rfl
  | succ k ih => simp only [rgI]; rw [if_neg (by omega), h, ih]
theorem exI_congr {P P' : Int → Bool} : ∀ (k : Nat) (i : Int), (∀ j, i ≤ j → j < i + k → P j = P' j) → exI P i k = exI P' i k := by
  intro k
  induction k with
  | zero => intro i h; rfl
  | succ k ih =>
    intro i h
    simp only [exI]
    rw [h i (by omega) (by omega), ih (i + 1) (fun j a b => h j (by omega) (by omega))]
theorem ld_m1 : ldC D (-1) = -1 := by unfold ldC; rw [if_pos rfl]
theorem ld_rg (H : IS D 3 (D 96)) (W : WfA (D 96)) : ∀ p, -1 ≤ p ∧ p ≤ 7 → -1 ≤ ldC D p ∧ ldC D p ≤ 7 := by
  intro p hp
  obtain ⟨-, -, -, -, hpl, -⟩ := id H
  obtain ⟨⟨w0, w1, -⟩, ws, -, -, wp, -⟩ := id W
  simp only [Nat.reduceAdd] at hpl
  unfold ldC
  by_cases c : p = -1
  · rw [if_pos c]; omega
  · rw [if_neg c]
    by_cases c2 : D 16 p = -1
    · rw [if_pos c2]; omega
    · rw [if_neg c2]
      have e := (hpl p (by omega) (by omega)).2.2
      rcases (wp p (by omega) (by omega)).2.2 with q | ⟨q, r, -⟩
      · rw [e] at c2; exact absurd q c2
      · rw [(fr_eq H W (s := D 16 p) (by rw [e]; exact ⟨q, r⟩)).2]
        have g := ws (D 16 p) (by rw [e]; exact q) (by rw [e]; exact r)
        unfold toM
        split <;> omega
theorem m89 (H : IS D 3 (D 96)) (W : WfA (D 96)) (hp : -1 ≤ x1 ∧ x1 ≤ 7) : WP 124 xF1 none 89 0 [some (.inr (.inr (some 3))), some (.inl x1)] [] D Q = Q (some (.inl (ldC D x1))) D := by
  obtain ⟨-, -, -, -, hpl, -⟩ := id H
  obtain ⟨⟨w0, w1, -⟩, ws, -, -, wp, -⟩ := id W
  simp only [Nat.reduceAdd] at hpl
  rw [seg89_0 (ha0 := ho3)]
  unfold ldC
  by_cases c : x1 = -1
  · rw [brT c, if_pos c, seg89_15 (ha0 := ho3), seg89_29 (ha0 := ho3)]
  · rw [brF c, if_neg c, cnB (by omega)]
    simp only [Nat.reduceAdd]
    by_cases c2 : D 16 x1 = -1
    · rw [brF (c := D 16 x1 ≠ -1) (fun q => q c2), if_pos c2, seg89_15 (ha0 := ho3), seg89_29 (ha0 := ho3)]
    · have e := (hpl x1 (by omega) (by omega)).2.2
      have r : 0 ≤ D 16 x1 ∧ D 16 x1 < 16 := by
        rcases (wp x1 (by omega) (by omega)).2.2 with q | ⟨q, r, -⟩ <;> omega
      rw [brT (c := D 16 x1 ≠ -1) c2, if_neg c2, cnB (by omega), n79 r]
      simp only [Option.toList_some, Option.toList_none, List.cons_append, List.nil_append]
      rw [seg89_29 (ha0 := ho3)]
theorem m228 (H : IS D 3 (D 96)) (W : WfA (D 96)) (hp : 0 ≤ x1 ∧ x1 ≤ 7) : WP 124 xF1 none 228 0 [some (.inr (.inr (some 95))), some (.inl x1)] [] D Q = Q (some (.inl (ldC D x1))) D := by
  obtain ⟨-, -, -, -, hpl, -⟩ := id H
  obtain ⟨⟨w0, w1, -⟩, ws, -, -, wp, -⟩ := id W
  simp only [Nat.reduceAdd] at hpl
  have e := (hpl x1 (by omega) (by omega)).2.2
  have v3 := (wp x1 (by omega) (by omega)).2.2
  rw [seg228_0 (ha0 := ho95), cnX (by omega), cnB (by omega)]
  simp only [Nat.reduceAdd]
  unfold ldC
  rw [if_neg (by omega), e]
  by_cases c : D 96 (176 + x1) = -1
  · rw [if_pos c, brF (c := 0 ≤ D 96 (176 + x1)) (by omega), seg228_31 (ha0 := ho95)]
  · rw [if_neg c, brT (c := 0 ≤ D 96 (176 + x1)) (by omega), cnX (by omega), cnB (by omega), n178 (by omega)]
    simp only [Option.toList_some, Option.toList_none, List.cons_append, List.nil_append]
    rw [seg228_31 (ha0 := ho95), (fr_eq H W (by omega)).2]
theorem l90 (H : IS D 3 (D 96)) (W : WfA (D 96)) : ∀ (k : Nat) (x3 x4 : Int), 8 = x4 + k → 0 ≤ x4 → -1 ≤ x3 ∧ x3 ≤ 7 → WP 124 xF1 none 90 5 [some (.inr (.inr (some 3))), some (.inl x1), some (.inl x2), some (.inl x3), some (.inl x4)] [] D Q = WP 124 xF1 none 90 27 [some (.inr (.inr (some 3))), some (.inl x1), some (.inl x2), some (.inl (itI (ldC D) k x3)), some (.inl 0)] [] D Q := by
  intro k
  induction k with
  | zero =>
    intro x3 x4 h1 h2 h3
    rw [seg90_5 (ha0 := ho3), brT (c := 8 ≤ x4) (by omega)]
    all_goals rfl
  | succ k ih =>
    intro x3 x4 h1 h2 h3
    rw [seg90_5 (ha0 := ho3), brF (c := 8 ≤ x4) (by omega), m89 H W h3]
    simp only [Option.toList_some, Option.toList_none, List.cons_append, List.nil_append]
    rw [seg90_17 (ha0 := ho3), cnX (by omega), ih _ _ (by omega) (by omega) (ld_rg H W x3 h3)]
    all_goals rfl
theorem l90b (H : IS D 3 (D 96)) (W : WfA (D 96)) : ∀ (k : Nat) (x3 x4 : Int), 8 = x4 + k → 0 ≤ x4 → -1 ≤ x3 ∧ x3 ≤ 7 → WP 124 xF1 none 90 27 [some (.inr (.inr (some 3))), some (.inl x1), some (.inl x2), some (.inl x3), some (.inl x4)] [] D Q = Q (some (.inl (boI (rgI (ldC D) x2 k x3)))) D := by
  intro k
  induction k with
  | zero =>
    intro x3 x4 h1 h2 h3
    rw [seg90_27 (ha0 := ho3), brT (c := 8 ≤ x4) (by omega)]
    all_goals rfl
  | succ k ih =>
    intro x3 x4 h1 h2 h3
    rw [seg90_27 (ha0 := ho3), brF (c := 8 ≤ x4) (by omega)]
    simp only [rgI]
    by_cases c : x3 = x2
    · rw [brF (c := x3 ≠ x2) (fun q => q c), if_pos c]
      rfl
    · rw [brT (c := x3 ≠ x2) c, if_neg c, m89 H W h3]
      simp only [Option.toList_some, Option.toList_none, List.cons_append, List.nil_append]
      rw [seg90_46 (ha0 := ho3), cnX (by omega), ih _ _ (by omega) (by omega) (ld_rg H W x3 h3)]
theorem l139 (H : IS D 3 (D 96)) (W : WfA (D 96)) : ∀ (k : Nat) (x2 : Int), D 96 1 = x2 + k → 0 ≤ x2 → WP 124 xF1 none 139 11 [some (.inr (.inr (some 1))), some (.inl x1), some (.inl x2)] [] D Q = Q (some (.inl (boI (exI (fun d => rgI (ldC D) x1 8 (itI (ldC D) 8 (D 96 (150 + 4 * d)))) x2 k)))) D := by
  obtain ⟨⟨-, e2, -⟩, -, -, -, -, hd, -⟩ := id H
  obtain ⟨⟨w0, w1, w2, w3, -⟩, ws, wd, -⟩ := id W
  simp only [Nat.reduceAdd] at e2 hd
  intro k
  induction k with
  | zero =>
    intro x2 h1 h2
    rw [seg139_11 (ha0 := ho1)]
    simp only [Nat.reduceAdd]
    rw [brT (c := D 4 12 ≤ x2) (by omega)]
    all_goals rfl
  | succ k ih =>
    intro x2 h1 h2
    obtain ⟨d1, -⟩ := hd x2 h2 (by omega)
    obtain ⟨d2, -⟩ := wd x2 h2 (by omega)
    have r := itI_rg (ld_rg H W) 8 (D 96 (150 + 4 * x2)) (by omega)
    rw [seg139_11 (ha0 := ho1)]
    simp only [Nat.reduceAdd]
    rw [brF (c := D 4 12 ≤ x2) (by omega), cnB (by omega), d1, seg90_0 (ha0 := ho3), l90 H W 8 _ 0 (by omega) (by omega) (by omega), l90b H W 8 _ 0 (by omega) (by omega) r]
    simp only [Option.toList_some, Option.toList_none, List.cons_append, List.nil_append, exI]
    rw [seg139_45 (ha0 := ho1)]
    by_cases c : rgI (ldC D) x1 8 (itI (ldC D) 8 (D 96 (150 + 4 * x2))) = true
    · rw [if_pos c, c, brF (c := boI true = 0) (by decide)]
      rfl
    · rw [if_neg c, Bool.eq_false_iff.mpr c, brT (c := boI false = 0) rfl, cnX (by omega), ih _ (by omega) (by omega)]
theorem l229 (H : IS D 3 (D 96)) (W : WfA (D 96)) : ∀ (k : Nat) (x3 x4 : Int), 8 = x4 + k → 0 ≤ x4 → -1 ≤ x3 ∧ x3 ≤ 7 → WP 124 xF1 none 229 37 [some (.inr (.inr (some 95))), some (.inl x1), some (.inl x2), some (.inl x3), some (.inl x4)] [] D Q = WP 124 xF1 none 229 63 [some (.inr (.inr (some 95))), some (.inl x1), some (.inl x2), some (.inl (itI (ldC D) k x3)), some (.inl 0)] [] D Q := by
  intro k
  induction k with
  | zero =>
    intro x3 x4 h1 h2 h3
    rw [seg229_37 (ha0 := ho95), brT (c := 8 ≤ x4) (by omega), seg229_60 (ha0 := ho95)]
    all_goals rfl
  | succ k ih =>
    intro x3 x4 h1 h2 h3
    rw [seg229_37 (ha0 := ho95), brF (c := 8 ≤ x4) (by omega)]
    by_cases c : x3 < 0
    · rw [brT c, seg229_60 (ha0 := ho95), show x3 = -1 by omega, itI_m1 ld_m1]
    · rw [brF c, m228 H W (by omega)]
      simp only [Option.toList_some, Option.toList_none, List.cons_append, List.nil_append]
      rw [seg229_53 (ha0 := ho95), cnX (by omega), ih _ _ (by omega) (by omega) (ld_rg H W x3 h3)]
      all_goals rfl
theorem l229b (H : IS D 3 (D 96)) (W : WfA (D 96)) {X : Prop} (hx : 0 ≤ x1) (h6 : x2 < 100 ∧ 0 ≤ x2) (hX : ∀ o3 o4, WP 124 xF1 none 229 11 [some (.inr (.inr (some 95))), some (.inl x1), some (.inl (x2 + 1)), o3, o4] [] D Q = X) : ∀ (k : Nat) (x3 x4 : Int), 8 = x4 + k → 0 ≤ x4 → -1 ≤ x3 ∧ x3 ≤ 7 → WP 124 xF1 none 229 63 [some (.inr (.inr (some 95))), some (.inl x1), some (.inl x2), some (.inl x3), some (.inl x4)] [] D Q = ((rgI (ldC D) x1 k x3 = true → Q (some (.inl 1)) D) ∧ (¬ rgI (ldC D) x1 k x3 = true → X)) := by
  intro k
  induction k with
  | zero =>
    intro x3 x4 h1 h2 h3
    rw [seg229_63 (ha0 := ho95), brT (c := 8 ≤ x4) (by omega), seg229_93 (ha0 := ho95), cnX (by omega), hX, brF (c := rgI (ldC D) x1 0 x3 = true) (by simp [rgI])]
  | succ k ih =>
    intro x3 x4 h1 h2 h3
    rw [seg229_63 (ha0 := ho95), brF (c := 8 ≤ x4) (by omega)]
    by_cases c : x3 < 0
    · rw [brT c, seg229_93 (ha0 := ho95), cnX (by omega), hX, show x3 = -1 by omega, rgI_m1 ld_m1 hx, brF (by decide)]
    · rw [brF c]
      simp only [rgI]
      by_cases e : x3 = x1
      · rw [brF (c := x3 ≠ x1) (fun q => q e), if_pos e, brT rfl]
      · rw [brT (c := x3 ≠ x1) e, if_neg e, m228 H W (by omega)]
        simp only [Option.toList_some, Option.toList_none, List.cons_append, List.nil_append]
        rw [seg229_86 (ha0 := ho95), cnX (by omega), ih _ _ (by omega) (by omega) (ld_rg H W x3 h3)]
theorem l229c (H : IS D 3 (D 96)) (W : WfA (D 96)) (hx : 0 ≤ x1) : ∀ (k : Nat) (x2 : Int) (o3 o4 : Option xv), D 96 1 = x2 + k → 0 ≤ x2 → WP 124 xF1 none 229 11 [some (.inr (.inr (some 95))), some (.inl x1), some (.inl x2), o3, o4] [] D Q = Q (some (.inl (boI (exI (fun d => rgI (ldC D) x1 8 (itI (ldC D) 8 (D 96 (150 + 4 * d)))) x2 k)))) D := by
  obtain ⟨⟨w0, w1, w2, w3, -⟩, ws, wd, -⟩ := id W
  intro k
  induction k with
  | zero =>
    intro x2 o3 o4 h1 h2
    rw [seg229_11 (ha0 := ho95), cnB (by omega)]
    simp only [Nat.reduceAdd]
    rw [brT (c := D 96 1 ≤ x2) (by omega)]
    all_goals rfl
  | succ k ih =>
    intro x2 o3 o4 h1 h2
    obtain ⟨d2, -⟩ := wd x2 h2 (by omega)
    have r := itI_rg (ld_rg H W) 8 (D 96 (150 + 4 * x2)) (by omega)
    rw [seg229_11 (ha0 := ho95), cnB (by omega)]
    simp only [Nat.reduceAdd]
    rw [brF (c := D 96 1 ≤ x2) (by omega), cnX (by omega), cnX (by omega), cnB (by omega), l229 H W 8 _ 0 (by omega) (by omega) (by omega), l229b H W hx (by omega) (fun o3 o4 => ih (x2 + 1) o3 o4 (by omega) (by omega)) 8 _ 0 (by omega) (by omega) r]
    simp only [exI]
    by_cases c : rgI (ldC D) x1 8 (itI (ldC D) 8 (D 96 (150 + 4 * x2))) = true
    · rw [brT c, if_pos c]
      rfl
    · rw [brF c, if_neg c]
theorem pair24 : ∀ (z1 : Int), xinP z1 → xpr (Inv K) 139 [some (.inr (.inr (some 1))), some (.inl z1), none] 229 [some (.inr (.inr (some 95))), some (.inl z1), none, none, none] := by
  intro z1 y1 D H
  obtain ⟨-, hs, hw, -⟩ := id H
  obtain ⟨⟨w0, w1, w2, w3, -⟩, -⟩ := id hw
  rw [seg139_0 (ha0 := ho1), m145]
  simp only [Option.toList_some, Option.toList_none, List.cons_append, List.nil_append]
  rw [seg139_4 (ha0 := ho1)]
  by_cases h : 0 ≤ z1 ∧ z1 ≤ 7
  · rw [if_pos h, brT (by decide), l139 hs hw (D 96 1).toNat 0 (by omega) (by omega)]
    refine ⟨_, rfl, rfl, ?_⟩
    rw [seg229_0 (ha0 := ho95), m175]
    simp only [Option.toList_some, Option.toList_none, List.cons_append, List.nil_append]
    rw [seg229_4 (ha0 := ho95), if_pos h, brT (by decide), l229c hs hw h.1 (D 96 1).toNat 0 _ _ (by omega) (by omega)]
    exact ⟨rfl, rfl, H⟩
  · rw [if_neg h, brF (by decide)]
    refine ⟨_, rfl, rfl, ?_⟩
    rw [seg229_0 (ha0 := ho95), m175]
    simp only [Option.toList_some, Option.toList_none, List.cons_append, List.nil_append]
    rw [seg229_4 (ha0 := ho95), if_neg h, brF (by decide)]
    exact ⟨rfl, rfl, H⟩

end M46
