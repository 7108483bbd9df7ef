/-! plans of signs, in both -/
/-- the class's signs and changes are A's -/
def chC (D : xD) (A : Int → Int) : Prop := (D 3 3 = A 6 ∧ 0 ≤ A 6 ∧ A 6 ≤ 8) ∧ (∀ p, 0 ≤ p → p < 8 → D 16 p = A (176 + p)) ∧ ∀ c, 0 ≤ c → c < A 6 → D 17 c = A (190 + 3 * c) ∧ D 18 c = A (190 + 3 * c + 1) ∧ D 19 c = A (190 + 3 * c + 2)
def plG (A : Int → Int) (p : Int) (t : Nat) (g : Int → Int) : Int → Int := fun c => if 13 * p ≤ c ∧ c < 13 * p + 13 then shV A p (min (c - 13 * p) t).toNat else g c
section M53
variable {x1 x2 x3 x4 x5 p t : Int} {D D' : xD} {A g : Int → Int} {Q : Option xv → xD → Prop}
theorem chC_of (hs : IS D 3 (D 96)) (hw : WfA (D 96)) : chC D (D 96) := by
  obtain ⟨⟨e1, e2, e3, e4, e5⟩, hb, hsl, hst, hp, hd, hcc, hk⟩ := id hs
  obtain ⟨⟨w0, w1, w2, w3, w4, w5⟩, -⟩ := id hw
  simp only [Nat.reduceAdd] at e1 e2 e3 e4 e5 hb hsl hst hp hd hcc hk
  exact ⟨⟨e5, w4, w5⟩, fun p p1 p2 => (hp p p1 p2).2.2, hcc⟩
theorem chC_fr (h : ∀ a, 3 ≤ a → a ≤ 19 → D' a = D a) (H : chC D A) : chC D' A := by
  unfold chC at H ⊢
  rw [h 3 (by decide) (by decide), h 16 (by decide) (by decide), h 17 (by decide) (by decide), h 18 (by decide) (by decide), h 19 (by decide) (by decide)]
  exact H
theorem m87 (H : chC D A) : WP 124 xF1 none 87 0 [some (.inr (.inr (some 3))), some (.inl x1), some (.inl x2), none] [] D Q = Q (some (.inl (chA A x1 x2))) D := by
  obtain ⟨⟨h1, h2, h3⟩, h4, h5⟩ := H
  rw [seg87_0 (ha0 := ho3), l87 (A 6).toNat 0 (by omega) (by omega) (by omega)]
  refine cgQ (fsI_congr _ _ (fun j j1 j2 => ?_))
  obtain ⟨u1, u2, -⟩ := h5 j j1 (by omega)
  rw [u1, u2]
theorem m218 (he : D 96 = A) (h : 0 ≤ A 6 ∧ A 6 ≤ 8) : WP 124 xF1 none 218 0 [some (.inr (.inr (some 95))), some (.inl x1), some (.inl x2), none] [] D Q = Q (some (.inl (chA A x1 x2))) D := by
  subst he
  rw [seg218_0 (ha0 := ho95), l218 (D 96 6).toNat 0 (by omega) (by omega) (by omega)]
  rfl
theorem fil_set {a : Nat} {lo hi v : Int} : xfil D a lo hi v = xset D a (fun c => if lo ≤ c ∧ c < hi then v else D a c) := by
  funext b c
  unfold xfil xset
  by_cases h : b = a
  · subst h; simp
  · simp [h]
theorem plG_up {k : Nat} (hp : 0 ≤ p ∧ p < 8) (hk : k < 12) : plG A p (k + 1) g = if chA A p (k + 1 : Nat) = -1 then plG A p k g else fun c => if 13 * p + (k + 1 : Nat) ≤ c ∧ c < 13 * p + 13 then A (190 + 3 * chA A p (k + 1 : Nat) + 2) else plG A p k g c := by
  by_cases h : chA A p (k + 1 : Nat) = -1
  · rw [if_pos h]
    funext c
    unfold plG
    by_cases h1 : 13 * p ≤ c ∧ c < 13 * p + 13
    · rw [if_pos h1, if_pos h1]
      by_cases h2 : c - 13 * p ≤ k
      · rw [show min (c - 13 * p) ((k + 1 : Nat) : Int) = min (c - 13 * p) (k : Int) by omega]
      · rw [show (min (c - 13 * p) ((k + 1 : Nat) : Int)).toNat = k + 1 by omega, show (min (c - 13 * p) (k : Int)).toNat = k by omega]
        simp only [shV]
        rw [if_pos h]
    · rw [if_neg h1, if_neg h1]
  · rw [if_neg h]
    funext c
    unfold plG
    by_cases h1 : 13 * p ≤ c ∧ c < 13 * p + 13
    · rw [if_pos h1]
      by_cases h2 : c - 13 * p ≤ k
      · rw [if_neg (by omega), if_pos h1, show min (c - 13 * p) ((k + 1 : Nat) : Int) = min (c - 13 * p) (k : Int) by omega]
      · rw [if_pos (by omega), show (min (c - 13 * p) ((k + 1 : Nat) : Int)).toNat = k + 1 by omega]
        simp only [shV]
        rw [if_neg h]
    · rw [if_neg h1, if_neg (by omega), if_neg h1]
theorem plG_0 : plG A p 0 g = fun c => if 13 * p + 0 ≤ c ∧ c < 13 * p + 13 then A (176 + p) else g c := by
  funext c
  unfold plG
  by_cases h1 : 13 * p ≤ c ∧ c < 13 * p + 13
  · rw [if_pos h1, if_pos (by omega), show (min (c - 13 * p) ((0 : Nat) : Int)).toNat = 0 by omega]
    rfl
  · rw [if_neg h1, if_neg (by omega)]
theorem l106 (H : chC D A) (hp : 0 ≤ x2 ∧ x2 < 8) : ∀ (m k : Nat) (o4 : Option xv), k + m = 12 → WP 124 xF1 none 106 14 [some (.inr (.inr (some 85))), some (.inr (.inr (some 3))), some (.inl x2), some (.inl ((k : Int) + 1)), o4] [] (xset D 86 (plG A x2 k g)) Q = Q none (xset D 86 (plG A x2 12 g)) := by
  intro m
  induction m with
  | zero =>
    intro k o4 h
    rw [seg106_14 (ha0 := ho85) (ha1 := ho3), brT (c := 13 ≤ (k : Int) + 1) (by omega), show k = 12 by omega]
  | succ m ih =>
    intro k o4 h
    have H' : chC (xset D 86 (plG A x2 k g)) A := chC_fr (fun a a1 a2 => set_ne (by omega)) H
    rw [seg106_14 (ha0 := ho85) (ha1 := ho3), brF (c := 13 ≤ (k : Int) + 1) (by omega), m87 H']
    simp only [Option.toList_some, Option.toList_none, List.cons_append, List.nil_append]
    rw [seg106_26 (ha0 := ho85) (ha1 := ho3)]
    have e : (k : Int) + 1 = ((k + 1 : Nat) : Int) := by omega
    rw [e]
    by_cases c : chA A x2 (k + 1 : Nat) = -1
    · rw [brT c, seg106_47 (ha0 := ho85) (ha1 := ho3), cnX (by omega)]
      have u := plG_up (A := A) (g := g) (k := k) hp (by omega)
      rw [if_pos c] at u
      rw [← u]
      exact ih (k + 1) _ (by omega)
    · rw [brF c]
      obtain ⟨r1, r2, -⟩ := (chA_rg A x2 (k + 1 : Nat) H.1.2.1).resolve_left c
      obtain ⟨-, -, h3⟩ := H'.2.2 _ r1 r2
      have w := H.1.2.2
      rw [cnB (by omega)]
      simp only [Nat.reduceAdd]
      rw [h3, m104 (by omega) (by omega)]
      simp only [Option.toList_some, Option.toList_none, List.cons_append, List.nil_append]
      rw [seg106_47 (ha0 := ho85) (ha1 := ho3), cnX (by omega), fil_set, set_set, set_eq]
      have u := plG_up (A := A) (g := g) (k := k) hp (by omega)
      rw [if_neg c] at u
      rw [show x2 * 13 = 13 * x2 by omega, ← u]
      exact ih (k + 1) _ (by omega)
theorem m106 (H : chC D A) (hp : 0 ≤ x2 ∧ x2 < 8) : WP 124 xF1 none 106 0 [some (.inr (.inr (some 85))), some (.inr (.inr (some 3))), some (.inl x2), none, none] [] D Q = Q none (xset D 86 (plG A x2 12 (D 86))) := by
  rw [seg106_0 (ha0 := ho85) (ha1 := ho3), cnB (by omega)]
  simp only [Nat.reduceAdd]
  rw [H.2.1 x2 hp.1 hp.2, m104 (by omega) (by omega)]
  simp only [Option.toList_some, Option.toList_none, List.cons_append, List.nil_append]
  rw [seg106_12 (ha0 := ho85) (ha1 := ho3), fil_set, show x2 * 13 = 13 * x2 by omega, ← plG_0 (A := A) (p := x2) (g := D 86)]
  exact l106 (g := D 86) H hp 12 0 _ (by omega)
theorem l105 (H : chC D A) : ∀ (k : Nat) (x2 : Int) (g : Int → Int), 8 = x2 + k → 0 ≤ x2 → (∀ q t, 0 ≤ q → q < x2 → 0 ≤ t → t ≤ 12 → g (13 * q + t) = shP A q t) → (∀ g' : Int → Int, (∀ q t, 0 ≤ q → q < 8 → 0 ≤ t → t ≤ 12 → g' (13 * q + t) = shP A q t) → Q none (xset D 86 g')) → WP 124 xF1 none 105 2 [some (.inr (.inr (some 85))), some (.inr (.inr (some 3))), some (.inl x2)] [] (xset D 86 g) Q := by
  intro k
  induction k with
  | zero =>
    intro x2 g h1 h2 hg hc
    rw [seg105_2 (ha0 := ho85) (ha1 := ho3), brT (c := 8 ≤ x2) (by omega)]
    exact hc g (fun q t q1 q2 => hg q t q1 (by omega))
  | succ k ih =>
    intro x2 g h1 h2 hg hc
    have H' : chC (xset D 86 g) A := chC_fr (fun a a1 a2 => set_ne (by omega)) H
    rw [seg105_2 (ha0 := ho85) (ha1 := ho3), brF (c := 8 ≤ x2) (by omega), m106 H' (by omega)]
    simp only [Option.toList_some, Option.toList_none, List.cons_append, List.nil_append]
    rw [seg105_14 (ha0 := ho85) (ha1 := ho3), cnX (by omega), set_set, set_eq]
    refine ih (x2 + 1) _ (by omega) (by omega) (fun q t q1 q2 t1 t2 => ?_) hc
    unfold plG
    by_cases e : q = x2
    · subst e
      rw [if_pos (by omega), show (min (13 * q + t - 13 * q) ((12 : Nat) : Int)) = t by omega]
      rfl
    · rw [if_neg (by omega)]
      exact hg q t q1 (by omega) t1 t2
theorem m105 (H : chC D A) (hc : ∀ g' : Int → Int, (∀ q t, 0 ≤ q → q < 8 → 0 ≤ t → t ≤ 12 → g' (13 * q + t) = shP A q t) → Q none (xset D 86 g')) : WP 124 xF1 none 105 0 [some (.inr (.inr (some 85))), some (.inr (.inr (some 3))), none] [] D Q := by
  rw [seg105_0 (ha0 := ho85) (ha1 := ho3), ← set_id (D := D) (a := 86)]
  exact l105 H 8 0 _ (by omega) (by omega) (fun q t q1 q2 => by omega) hc
theorem l221 (he : D 96 = A) (h6 : 0 ≤ A 6 ∧ A 6 ≤ 8) (hp : 0 ≤ x1 ∧ x1 < 8) : ∀ (m k : Nat), k + m = 12 → WP 124 xF1 none 221 26 [some (.inr (.inr (some 95))), some (.inl x1), some (.inl ((k : Int) + 1))] [] (xset D 120 (plG A x1 k g)) Q = WP 124 xF1 none 221 2 [some (.inr (.inr (some 95))), some (.inl (x1 + 1)), some (.inl 13)] [] (xset D 120 (plG A x1 12 g)) Q := by
  intro m
  induction m with
  | zero =>
    intro k h
    rw [seg221_26 (ha0 := ho95), brT (c := 12 < (k : Int) + 1) (by omega), cnX (by omega), show k = 12 by omega]
    rfl
  | succ m ih =>
    intro k h
    have e96 : (xset D 120 (plG A x1 k g)) 96 = A := by rw [set_ne (by decide)]; exact he
    rw [seg221_26 (ha0 := ho95), brF (c := 12 < (k : Int) + 1) (by omega), m218 e96 h6]
    simp only [Option.toList_some, Option.toList_none, List.cons_append, List.nil_append]
    rw [seg221_38 (ha0 := ho95)]
    have e : (k : Int) + 1 = ((k + 1 : Nat) : Int) := by omega
    rw [e]
    by_cases c : chA A x1 (k + 1 : Nat) = -1
    · rw [brT (c := chA A x1 (k + 1 : Nat) < 0) (by omega), seg221_66 (ha0 := ho95), cnX (by omega)]
      have u := plG_up (A := A) (g := g) (k := k) hp (by omega)
      rw [if_pos c] at u
      rw [← u]
      exact ih (k + 1) (by omega)
    · obtain ⟨r1, r2, -⟩ := (chA_rg A x1 (k + 1 : Nat) h6.1).resolve_left c
      rw [brF (c := chA A x1 (k + 1 : Nat) < 0) (by omega), m218 e96 h6]
      simp only [Option.toList_some, Option.toList_none, List.cons_append, List.nil_append, Nat.reduceAdd]
      rw [seg221_58 (ha0 := ho95) (hb3 := hl96) (hb6 := ho95), cnX (by omega), cnX (by omega), cnX (by omega), cnB (by omega), e96, m220 (by omega) (by omega)]
      simp only [Option.toList_some, Option.toList_none, List.cons_append, List.nil_append]
      rw [seg221_66 (ha0 := ho95), cnX (by omega), fil_set, set_set, set_eq]
      have u := plG_up (A := A) (g := g) (k := k) hp (by omega)
      rw [if_neg c] at u
      rw [← u]
      exact ih (k + 1) (by omega)
theorem l221o (he : D 96 = A) (h6 : 0 ≤ A 6 ∧ A 6 ≤ 8) : ∀ (k : Nat) (x1 : Int) (g : Int → Int) (o2 : Option xv), 8 = x1 + k → 0 ≤ x1 → (∀ q t, 0 ≤ q → q < x1 → 0 ≤ t → t ≤ 12 → g (13 * q + t) = shP A q t) → (∀ g' : Int → Int, (∀ q t, 0 ≤ q → q < 8 → 0 ≤ t → t ≤ 12 → g' (13 * q + t) = shP A q t) → Q none (xset D 120 g')) → WP 124 xF1 none 221 2 [some (.inr (.inr (some 95))), some (.inl x1), o2] [] (xset D 120 g) Q := by
  intro k
  induction k with
  | zero =>
    intro x1 g o2 h1 h2 hg hc
    rw [seg221_2 (ha0 := ho95), brT (c := 8 ≤ x1) (by omega)]
    exact hc g (fun q t q1 q2 => hg q t q1 (by omega))
  | succ k ih =>
    intro x1 g o2 h1 h2 hg hc
    have e96 : (xset D 120 g) 96 = A := by rw [set_ne (by decide)]; exact he
    rw [seg221_2 (ha0 := ho95), brF (c := 8 ≤ x1) (by omega), cnX (by omega), cnB (by omega)]
    simp only [Nat.reduceAdd]
    rw [e96, m220 (by omega) (by omega)]
    simp only [Option.toList_some, Option.toList_none, List.cons_append, List.nil_append]
    rw [seg221_24 (ha0 := ho95), fil_set, set_set, set_eq, ← plG_0 (A := A) (p := x1) (g := g)]
    have l := l221 (D := D) (A := A) (Q := Q) (g := g) he h6 (x1 := x1) ⟨h2, by omega⟩ 12 0 (by omega)
    have l' : WP 124 xF1 none 221 26 [some (.inr (.inr (some 95))), some (.inl x1), some (.inl 1)] [] (xset D 120 (plG A x1 0 g)) Q = _ := l
    rw [l']
    refine ih (x1 + 1) _ _ (by omega) (by omega) (fun q t q1 q2 t1 t2 => ?_) hc
    unfold plG
    by_cases e : q = x1
    · subst e
      rw [if_pos (by omega), show (min (13 * q + t - 13 * q) ((12 : Nat) : Int)) = t by omega]
      rfl
    · rw [if_neg (by omega)]
      exact hg q t q1 (by omega) t1 t2
theorem m221 (he : D 96 = A) (h6 : 0 ≤ A 6 ∧ A 6 ≤ 8) (hc : ∀ g' : Int → Int, (∀ q t, 0 ≤ q → q < 8 → 0 ≤ t → t ≤ 12 → g' (13 * q + t) = shP A q t) → Q none (xset D 120 g')) : WP 124 xF1 none 221 0 [some (.inr (.inr (some 95))), none, none] [] D Q := by
  rw [seg221_0 (ha0 := ho95), ← set_id (D := D) (a := 120)]
  exact l221o he h6 8 0 _ _ (by omega) (by omega) (fun q t q1 q2 => by omega) hc
end M53
