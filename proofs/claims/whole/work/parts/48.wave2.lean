/-! wave, second half -/
/-- a wave can go on from a street into another -/
def gon (A : Int → Int) (p c : Int) : Prop := c = -1 ∨ ((0 ≤ p ∧ p < A 0) ∧ (0 ≤ c ∧ c < A 0) ∧ toM A p = frM A c)
def wvG (A : Int → Int) (x1 x2 x3 x4 x5 x6 x7 : Int) : Prop := ((0 ≤ x5 ∧ x5 ≤ x6 ∧ x6 ≤ 12) ∧ (1 ≤ x7 ∧ x7 ≤ 30)) ∧ (0 ≤ x1 ∧ x1 < A 0) ∧ gon A x1 x2 ∧ gon A x2 x3 ∧ gon A x3 x4
/-- the list ws stands in W from i on -/
def wyAt (W : Int → Int) : List Int → Int → Prop
  | [], i => 4 ≤ i ∨ (i < 4 ∧ W i < 0)
  | s :: r, i => i < 4 ∧ W i = s ∧ wyAt W r (i + 1)
section M48
variable {K : (Int → Int) → (Int → Int) → (Int → Int) → (Int → Int) → (Int → Int) → (Int → Int) → (Int → Int) → (Int → Int) → Prop}
variable {x0 x1 x2 x3 x4 x5 x6 x7 x8 n s z v : Int} {a b : Nat} {D D' : xD} {Q : Option xv → xD → Prop}
theorem m84 (H : IS D 3 (D 96)) (W : WfA (D 96)) : WP 124 xF1 none 84 0 [some (.inr (.inr (some 3))), some (.inl x1), some (.inl x2)] [] D Q = ((gon (D 96) x1 x2 → Q (some (.inl 1)) D) ∧ (¬ gon (D 96) x1 x2 → Q (some (.inl 0)) D)) := by
  have e1 : D 4 11 = D 96 0 := H.1.1
  have w1 := W.1.2.1
  rw [seg84_0 (ha0 := ho3)]
  simp only [Nat.reduceAdd]
  by_cases c : x2 = -1
  · rw [brF (c := x2 ≠ -1) (fun q => q c), brT (c := gon (D 96) x1 x2) (.inl c)]
  · rw [brT (c := x2 ≠ -1) c, m94]
    simp only [Option.toList_some, Option.toList_none, List.cons_append, List.nil_append]
    rw [seg84_15 (ha0 := ho3)]
    simp only [Nat.reduceAdd]
    by_cases h1 : 0 ≤ x1 ∧ x1 < D 4 11
    · rw [if_pos h1, brF (by decide), m94]
      simp only [Option.toList_some, Option.toList_none, List.cons_append, List.nil_append]
      rw [seg84_26 (ha0 := ho3)]
      by_cases h2 : 0 ≤ x2 ∧ x2 < D 4 11
      · rw [if_pos h2, brF (by decide), n79 (by omega)]
        simp only [Option.toList_some, Option.toList_none, List.cons_append, List.nil_append]
        rw [seg84_34 (ha0 := ho3), n78 (by omega)]
        simp only [Option.toList_some, Option.toList_none, List.cons_append, List.nil_append]
        rw [seg84_39 (ha0 := ho3), (fr_eq H W (s := x1) (by omega)).2, (fr_eq H W (s := x2) (by omega)).1]
        by_cases h3 : toM (D 96) x1 = frM (D 96) x2
        · rw [brF (c := toM (D 96) x1 ≠ frM (D 96) x2) (fun q => q h3), seg84_47 (ha0 := ho3), cnT (.inr rfl), brT (c := gon (D 96) x1 x2) (.inr ⟨by omega, by omega, h3⟩)]
        · rw [brT (c := toM (D 96) x1 ≠ frM (D 96) x2) h3, seg84_46 (ha0 := ho3), seg84_47 (ha0 := ho3), cnT (.inl rfl), brF (c := gon (D 96) x1 x2) (fun q => q.elim c (fun r => h3 r.2.2))]
      · rw [if_neg h2, brT rfl, seg84_46 (ha0 := ho3), seg84_47 (ha0 := ho3), cnT (.inl rfl), brF (c := gon (D 96) x1 x2) (fun q => q.elim c (fun r => h2 (by omega)))]
    · rw [if_neg h1, brT rfl, seg84_46 (ha0 := ho3), seg84_47 (ha0 := ho3), cnT (.inl rfl), brF (c := gon (D 96) x1 x2) (fun q => q.elim c (fun r => h1 (by omega)))]
theorem m129 (H : IS D 3 (D 96)) (W : WfA (D 96)) (hs : wvG (D 96) x1 x2 x3 x4 x5 x6 x7 → WP 124 xF1 none 130 0 [some (.inr (.inr (some 1))), some (.inl x1), some (.inl x5), some (.inl x6), some (.inl x7), none, none] [] (xcpy D 20 41 0 0 208) (fun v D9 => WP 124 xF1 none 129 121 [some (.inr (.inr (some 1))), some (.inl x1), some (.inl x2), some (.inl x3), some (.inl x4), some (.inl x5), some (.inl x6), some (.inl x7), none] (v.toList ++ []) D9 Q)) (hf : ¬ wvG (D 96) x1 x2 x3 x4 x5 x6 x7 → Q (some (.inl 0)) D) : WP 124 xF1 none 129 0 [some (.inr (.inr (some 1))), some (.inl x1), some (.inl x2), some (.inl x3), some (.inl x4), some (.inl x5), some (.inl x6), some (.inl x7), none] [] D Q := by
  have e1 : D 4 11 = D 96 0 := H.1.1
  rw [seg129_0 (ha0 := ho1), m144]
  simp only [Option.toList_some, Option.toList_none, List.cons_append, List.nil_append]
  rw [seg129_5 (ha0 := ho1)]
  have no : ¬ wvG (D 96) x1 x2 x3 x4 x5 x6 x7 → WP 124 xF1 none 129 36 [some (.inr (.inr (some 1))), some (.inl x1), some (.inl x2), some (.inl x3), some (.inl x4), some (.inl x5), some (.inl x6), some (.inl x7), none] [] D Q := fun h => by
    rw [seg129_36 (ha0 := ho1)]; exact hf h
  have no2 : ¬ wvG (D 96) x1 x2 x3 x4 x5 x6 x7 → WP 124 xF1 none 129 89 [some (.inr (.inr (some 1))), some (.inl x1), some (.inl x2), some (.inl x3), some (.inl x4), some (.inl x5), some (.inl x6), some (.inl x7), none] [] D Q := fun h => by
    rw [seg129_89 (ha0 := ho1)]; exact hf h
  by_cases h5 : 0 ≤ x5 ∧ x5 ≤ 12
  · rw [if_pos h5, brF (by decide), m144]
    simp only [Option.toList_some, Option.toList_none, List.cons_append, List.nil_append]
    rw [seg129_13 (ha0 := ho1)]
    by_cases h6 : 0 ≤ x6 ∧ x6 ≤ 12
    · rw [if_pos h6, brF (by decide)]
      by_cases h56 : x6 < x5
      · rw [brT h56]; exact no (fun q => by have := q.1; omega)
      · rw [brF h56]
        by_cases h7 : x7 < 1
        · rw [brT h7]; exact no (fun q => by have := q.1; omega)
        · rw [brF h7]
          by_cases h8 : x7 ≤ 30
          · rw [brT h8]
            simp only [Nat.reduceAdd]
            rw [m94]
            simp only [Option.toList_some, Option.toList_none, List.cons_append, List.nil_append]
            rw [seg129_49 (ha0 := ho1)]
            simp only [Nat.reduceAdd]
            by_cases h1 : 0 ≤ x1 ∧ x1 < D 4 11
            · rw [if_pos h1, brF (by decide), m84 H W]
              simp only [Option.toList_some, Option.toList_none, List.cons_append, List.nil_append]
              by_cases g1 : gon (D 96) x1 x2
              · rw [brT g1, seg129_61 (ha0 := ho1), brF (by decide)]
                simp only [Nat.reduceAdd]
                rw [m84 H W]
                simp only [Option.toList_some, Option.toList_none, List.cons_append, List.nil_append]
                by_cases g2 : gon (D 96) x2 x3
                · rw [brT g2, seg129_73 (ha0 := ho1), brF (by decide)]
                  simp only [Nat.reduceAdd]
                  rw [m84 H W]
                  simp only [Option.toList_some, Option.toList_none, List.cons_append, List.nil_append]
                  by_cases g3 : gon (D 96) x3 x4
                  · rw [brT g3, seg129_86 (ha0 := ho1), brT (by decide), cnT (by decide)]
                    simp only [Nat.reduceAdd]
                    exact hs ⟨⟨by omega, by omega⟩, by omega, g1, g2, g3⟩
                  · rw [brF g3, seg129_86 (ha0 := ho1), brF (by decide)]
                    exact no2 (fun q => g3 q.2.2.2.2)
                · rw [brF g2, seg129_73 (ha0 := ho1), brT rfl]
                  exact no2 (fun q => g2 q.2.2.2.1)
              · rw [brF g1, seg129_61 (ha0 := ho1), brT rfl]
                exact no2 (fun q => g1 q.2.2.1)
            · rw [if_neg h1, brT rfl]
              exact no2 (fun q => h1 (by have := q.2.1; omega))
          · rw [brF h8]; exact no (fun q => by have := q.1; omega)
    · rw [if_neg h6, brT rfl]; exact no (fun q => by have := q.1; omega)
  · rw [if_neg h5, brT rfl]; exact no (fun q => by have := q.1; omega)
/-- one step of the model's look at the way -/
theorem l203v (H : WfA (D 96)) {o9 o10 : Option xv} (h8 : 1 ≤ x8 ∧ x8 < 4) (hp : D 113 (x8 - 1) = -1 ∨ (0 ≤ D 113 (x8 - 1) ∧ D 113 (x8 - 1) < D 96 0)) : WP 124 xF1 none 203 73 [some (.inr (.inr (some 95))), some (.inl x1), some (.inl x2), some (.inl x3), some (.inl x4), some (.inl x5), some (.inl x6), some (.inl x7), some (.inl x8), o9, o10] [] D Q = ((gon (D 96) (D 113 (x8 - 1)) (D 113 x8) → WP 124 xF1 none 203 73 [some (.inr (.inr (some 95))), some (.inl x1), some (.inl x2), some (.inl x3), some (.inl x4), some (.inl x5), some (.inl x6), some (.inl x7), some (.inl (x8 + 1)), o9, o10] [] D Q) ∧ (¬ gon (D 96) (D 113 (x8 - 1)) (D 113 x8) → Q (some (.inl 0)) D)) := by
  obtain ⟨⟨w0, w1, -⟩, -⟩ := H
  rw [seg203_73 (ha0 := ho95), brF (c := 4 ≤ x8) (by omega), cnB (by omega)]
  simp only [Nat.reduceAdd]
  by_cases c : D 113 x8 = -1
  · rw [brT c, seg203_146 (ha0 := ho95), cnX (by omega), brT (c := gon (D 96) (D 113 (x8 - 1)) (D 113 x8)) (.inl c)]
  · rw [brF c, cnX (by omega), cnB (by omega)]
    by_cases c2 : D 113 (x8 - 1) = -1
    · rw [brT c2, seg203_144 (ha0 := ho95), brF (c := gon (D 96) (D 113 (x8 - 1)) (D 113 x8)) (fun q => q.elim c (fun r => by have := r.1; omega))]
    · rw [brF c2, cnB (by omega), m174 ⟨w0, w1⟩]
      simp only [Option.toList_some, Option.toList_none, List.cons_append, List.nil_append]
      rw [seg203_114 (ha0 := ho95)]
      simp only [Nat.reduceAdd]
      by_cases h1 : 0 ≤ D 113 x8 ∧ D 113 x8 < D 96 0
      · rw [if_pos h1, brF (by decide), cnB (by omega), n177 (by omega)]
        simp only [Option.toList_some, Option.toList_none, List.cons_append, List.nil_append]
        rw [seg203_128 (ha0 := ho95)]
        simp only [Nat.reduceAdd]
        rw [cnX (by omega), cnB (by omega), n178 (by omega)]
        simp only [Option.toList_some, Option.toList_none, List.cons_append, List.nil_append]
        rw [seg203_141 (ha0 := ho95)]
        by_cases h3 : frM (D 96) (D 113 x8) = toM (D 96) (D 113 (x8 - 1))
        · rw [brT h3, seg203_146 (ha0 := ho95), cnX (by omega), brT (c := gon (D 96) (D 113 (x8 - 1)) (D 113 x8)) (.inr ⟨by omega, h1, h3.symm⟩)]
        · rw [brF h3, seg203_144 (ha0 := ho95), brF (c := gon (D 96) (D 113 (x8 - 1)) (D 113 x8)) (fun q => q.elim c (fun r => h3 r.2.2.symm))]
      · rw [if_neg h1, brT rfl, seg203_144 (ha0 := ho95), brF (c := gon (D 96) (D 113 (x8 - 1)) (D 113 x8)) (fun q => q.elim c (fun r => h1 r.2.1))]
theorem l203a {o9 o10 : Option xv} : ∀ (k : Nat) (x8 : Int) (D : xD), 208 = x8 + k → 0 ≤ x8 → WP 124 xF1 none 203 155 [some (.inr (.inr (some 95))), some (.inl x1), some (.inl x2), some (.inl x3), some (.inl x4), some (.inl x5), some (.inl x6), some (.inl x7), some (.inl x8), o9, o10] [] D Q = WP 124 xF1 none 203 191 [some (.inr (.inr (some 95))), some (.inl x1), some (.inl x2), some (.inl x3), some (.inl x4), some (.inl x5), some (.inl x6), some (.inl x7), some (.inl x5), o9, o10] [] (xcpy D 96 112 (220 + x8) x8 (208 - x8)) Q := by
  intro k
  induction k with
  | zero =>
    intro x8 D h1 h2
    rw [seg203_155 (ha0 := ho95), brT (c := 208 ≤ x8) (by omega), show 208 - x8 = 0 by omega, cpy_0]
  | succ k ih =>
    intro x8 D h1 h2
    rw [seg203_155 (ha0 := ho95), brF (c := 208 ≤ x8) (by omega), cnX (by omega), cnB (by omega), cnB (by omega), cnX (by omega)]
    simp only [Nat.reduceAdd]
    rw [ih _ _ (by omega) (by omega), show 220 + (x8 + 1) = 220 + x8 + 1 by omega, show 208 - (x8 + 1) = 208 - x8 - 1 by omega, cpy_up (by decide) (by omega)]
theorem l203z {o9 o10 : Option xv} : ∀ (k : Nat) (x8 : Int) (D : xD), 208 = x8 + k → 0 ≤ x8 → WP 124 xF1 none 203 318 [some (.inr (.inr (some 95))), some (.inl x1), some (.inl x2), some (.inl x3), some (.inl x4), some (.inl x5), some (.inl x6), some (.inl x7), some (.inl x8), o9, o10] [] D Q = Q (some (.inl 1)) (xcpy D 112 96 x8 (220 + x8) (208 - x8)) := by
  intro k
  induction k with
  | zero =>
    intro x8 D h1 h2
    rw [seg203_318 (ha0 := ho95), brT (c := 208 ≤ x8) (by omega), show 208 - x8 = 0 by omega, cpy_0]
  | succ k ih =>
    intro x8 D h1 h2
    rw [seg203_318 (ha0 := ho95), brF (c := 208 ≤ x8) (by omega), cnX (by omega), cnB (by omega), cnB (by omega), cnX (by omega)]
    simp only [Nat.reduceAdd]
    rw [ih _ _ (by omega) (by omega), show 220 + (x8 + 1) = 220 + x8 + 1 by omega, show 208 - (x8 + 1) = 208 - x8 - 1 by omega, cpy_up (by decide) (by omega)]
/-- a minute's row of the wave -/
theorem l203i (h7 : 1 ≤ x7 ∧ x7 ≤ 30) (h16 : D 96 0 ≤ 16) : ∀ (ws : List Int) (x9 x10 : Int) (D' : xD), wvV (D 96) ws → wyAt (D 113) ws x10 → 0 ≤ x10 → 0 ≤ x9 ∧ x9 ≤ 30 → (∀ a, a ≠ 112 → D' a = D a) → (∀ c, 0 ≤ c → c < 208 → 0 ≤ D' 112 c ∧ D' 112 c ≤ 30) → (∀ g (u9 u10 : Int), wvR x7 (wvW (D 96) ws x9) (D' 112) = some g → WP 124 xF1 none 203 309 [some (.inr (.inr (some 95))), some (.inl x1), some (.inl x2), some (.inl x3), some (.inl x4), some (.inl x5), some (.inl x6), some (.inl x7), some (.inl x8), some (.inl u9), some (.inl u10)] [] (xset D 112 g) Q) → (wvR x7 (wvW (D 96) ws x9) (D' 112) = none → ∀ D', (∀ a, a ≠ 112 → D' a = D a) → Q (some (.inl 0)) D') → WP 124 xF1 none 203 205 [some (.inr (.inr (some 95))), some (.inl x1), some (.inl x2), some (.inl x3), some (.inl x4), some (.inl x5), some (.inl x6), some (.inl x7), some (.inl x8), some (.inl x9), some (.inl x10)] [] D' Q := by
  intro ws
  induction ws with
  | nil =>
    intro x9 x10 D' hV hw h10 h9 hD hB hs hf
    have ed : xset D 112 (D' 112) = D' := by
      funext b j
      unfold xset
      by_cases e : b = 112
      · rw [if_pos e, e]
      · rw [if_neg e, hD b e]
    have fin := hs (D' 112) x9 x10 rfl
    rw [ed] at fin
    rw [seg203_205 (ha0 := ho95)]
    simp only [Nat.reduceAdd]
    rcases hw with hw | ⟨hw, hw2⟩
    · rw [brT hw]; exact fin
    · rw [brF (c := 4 ≤ x10) (by omega), cnB (by omega), hD 113 (by decide), brT hw2]; exact fin
  | cons s r ih =>
    intro x9 x10 D' hV hw h10 h9 hD hB hs hf
    obtain ⟨v1, v2, v3, v4⟩ := hV
    obtain ⟨u1, u2, u3⟩ := hw
    rw [seg203_205 (ha0 := ho95), brF (c := 4 ≤ x10) (by omega), cnB (by omega)]
    simp only [Nat.reduceAdd]
    rw [hD 113 (by decide), u2, hD 96 (by decide), brF (c := s < 0) (by omega)]
    simp only [wvW, wvR] at hs hf
    by_cases c : x9 ≤ 12
    · have b := hB (13 * s + x9) (by omega) (by omega)
      rw [if_neg (by omega)] at hs hf
      rw [brT c]
      rw [cnB (by omega), cnX (by omega), cnX (by omega), cnB (by omega), cnX (by omega), cnB (by omega), cnB (by omega), cnX (by omega), cnX (by omega), cnB (by omega)]
      by_cases c2 : D' 112 (13 * s + x9) + x7 ≤ 30
      · rw [if_neg (by omega)] at hs hf
        rw [brT c2, cnB (by omega), cnX (by omega), cnX (by omega), cnX (by omega), cnB (by omega), cnX (by omega), cnX (by omega)]
        refine ih _ _ _ v4 u3 (by omega) (by omega) (fun a ha => by rw [up_ne ha]; exact hD a ha) (fun i i1 i2 => ?_) ?_ ?_
        · rw [up_at]
          split
          · omega
          · exact hB i i1 i2
        · rw [set_up, set_eq]; exact hs
        · rw [set_up, set_eq]; exact hf
      · rw [brF c2]
        rw [if_pos (by omega)] at hf
        exact hf rfl _ (fun a ha => by rw [up_ne ha]; exact hD a ha)
    · rw [brF c]
      rw [if_pos (by omega)] at hf
      exact hf rfl D' hD
theorem l203m (h7 : 1 ≤ x7 ∧ x7 ≤ 30) (h16 : D 96 0 ≤ 16) (h6 : x6 ≤ 12) {ws : List Int} (hV : wvV (D 96) ws) (hw : wyAt (D 113) ws 0) : ∀ (k : Nat) (x8 : Int) (o9 o10 : Option xv) (D' : xD), x6 + 1 = x8 + k → 0 ≤ x8 → (∀ a, a ≠ 112 → D' a = D a) → (∀ c, 0 ≤ c → c < 208 → 0 ≤ D' 112 c ∧ D' 112 c ≤ 30) → (∀ g o9 o10, wvR x7 (wvM (D 96) ws x8 k) (D' 112) = some g → WP 124 xF1 none 203 318 [some (.inr (.inr (some 95))), some (.inl x1), some (.inl x2), some (.inl x3), some (.inl x4), some (.inl x5), some (.inl x6), some (.inl x7), some (.inl 0), o9, o10] [] (xset D 112 g) Q) → (wvR x7 (wvM (D 96) ws x8 k) (D' 112) = none → ∀ D', (∀ a, a ≠ 112 → D' a = D a) → Q (some (.inl 0)) D') → WP 124 xF1 none 203 191 [some (.inr (.inr (some 95))), some (.inl x1), some (.inl x2), some (.inl x3), some (.inl x4), some (.inl x5), some (.inl x6), some (.inl x7), some (.inl x8), o9, o10] [] D' Q := by
  intro k
  induction k with
  | zero =>
    intro x8 o9 o10 D' h1 h2 hD hB hs hf
    have ed : xset D 112 (D' 112) = D' := by
      funext b j
      unfold xset
      by_cases e : b = 112
      · rw [if_pos e, e]
      · rw [if_neg e, hD b e]
    have fin := hs (D' 112) o9 o10 rfl
    rw [ed] at fin
    rw [seg203_191 (ha0 := ho95), brT (c := x6 < x8) (by omega)]
    exact fin
  | succ k ih =>
    intro x8 o9 o10 D' h1 h2 hD hB hs hf
    rw [seg203_191 (ha0 := ho95), brF (c := x6 < x8) (by omega)]
    simp only [wvM] at hs hf
    rw [wvR_app] at hs hf
    refine l203i h7 h16 ws x8 0 D' hV hw (by omega) (by omega) hD hB (fun g u9 u10 hg => ?_) (fun hn => ?_)
    · rw [hg] at hs hf
      rw [seg203_309 (ha0 := ho95), cnX (by omega)]
      refine ih (x8 + 1) _ _ _ (by omega) (by omega) (fun a ha => set_ne ha) (by rw [set_eq]; exact wv_bd (by omega) hg hB) ?_ ?_
      · rw [set_eq]; exact hs
      · rw [set_eq]; exact hf
    · rw [hn] at hf
      exact hf rfl
theorem m203 (W : WfA (D 96)) (hs : wvG (D 96) x1 x2 x3 x4 x5 x6 x7 → WP 124 xF1 none 203 155 [some (.inr (.inr (some 95))), some (.inl x1), some (.inl x2), some (.inl x3), some (.inl x4), some (.inl x5), some (.inl x6), some (.inl x7), some (.inl 0), none, none] [] (xup (xup (xup (xup D 113 0 x1) 113 1 x2) 113 2 x3) 113 3 x4) Q) (hf : ¬ wvG (D 96) x1 x2 x3 x4 x5 x6 x7 → ∀ D', (∀ a, a ≠ 113 → D' a = D a) → Q (some (.inl 0)) D') : WP 124 xF1 none 203 0 [some (.inr (.inr (some 95))), some (.inl x1), some (.inl x2), some (.inl x3), some (.inl x4), some (.inl x5), some (.inl x6), some (.inl x7), none, none, none] [] D Q := by
  obtain ⟨⟨w0, w1, -⟩, -⟩ := id W
  have no : ¬ wvG (D 96) x1 x2 x3 x4 x5 x6 x7 → WP 124 xF1 none 203 39 [some (.inr (.inr (some 95))), some (.inl x1), some (.inl x2), some (.inl x3), some (.inl x4), some (.inl x5), some (.inl x6), some (.inl x7), none, none, none] [] D Q := fun h => by
    rw [seg203_39 (ha0 := ho95)]; exact hf h D (fun _ _ => rfl)
  rw [seg203_0 (ha0 := ho95), m149]
  simp only [Option.toList_some, Option.toList_none, List.cons_append, List.nil_append]
  rw [seg203_8 (ha0 := ho95)]
  by_cases h7 : 1 ≤ x7 ∧ x7 ≤ 30
  · rw [if_pos h7, brF (by decide), m150]
    simp only [Option.toList_some, Option.toList_none, List.cons_append, List.nil_append]
    rw [seg203_16 (ha0 := ho95)]
    by_cases h5 : 0 ≤ x5 ∧ x5 ≤ 12
    · rw [if_pos h5, brF (by decide), m149]
      simp only [Option.toList_some, Option.toList_none, List.cons_append, List.nil_append]
      rw [seg203_28 (ha0 := ho95)]
      by_cases h6 : x5 ≤ x6 ∧ x6 ≤ 12
      · rw [if_pos h6, brF (by decide), m174 ⟨w0, w1⟩]
        simp only [Option.toList_some, Option.toList_none, List.cons_append, List.nil_append]
        rw [seg203_36 (ha0 := ho95)]
        by_cases h1 : 0 ≤ x1 ∧ x1 < D 96 0
        · rw [if_pos h1, brT (by decide), cnB (by decide), cnB (by decide), cnB (by decide), cnB (by decide)]
          simp only [Nat.reduceAdd]
          obtain ⟨D1, hD1⟩ : ∃ D1, D1 = xup (xup (xup (xup D 113 0 x1) 113 1 x2) 113 2 x3) 113 3 x4 := ⟨_, rfl⟩
          rw [← hD1] at hs ⊢
          have f1 : ∀ a, a ≠ 113 → D1 a = D a := fun a ha => by rw [hD1, up_ne ha, up_ne ha, up_ne ha, up_ne ha]
          have g0 : D1 113 0 = x1 := by rw [hD1, up_ne2 (by decide), up_ne2 (by decide), up_ne2 (by decide), up_eq]
          have g1 : D1 113 1 = x2 := by rw [hD1, up_ne2 (by decide), up_ne2 (by decide), up_eq]
          have g2 : D1 113 2 = x3 := by rw [hD1, up_ne2 (by decide), up_eq]
          have g3 : D1 113 3 = x4 := by rw [hD1, up_eq]
          clear hD1
          have e96 := f1 96 (by decide)
          have i1 : (1 : Int) - 1 = 0 := by decide
          have i2 : (2 : Int) - 1 = 1 := by decide
          have i3 : (3 : Int) - 1 = 2 := by decide
          have j1 : (1 : Int) + 1 = 2 := by decide
          have j2 : (2 : Int) + 1 = 3 := by decide
          have j3 : (3 : Int) + 1 = 4 := by decide
          rw [l203v (by rw [e96]; exact W) (by omega) (by rw [i1, g0, e96]; omega), i1, g0, g1, e96, j1]
          by_cases v1 : gon (D 96) x1 x2
          · rw [brT v1, l203v (by rw [e96]; exact W) (by omega) (by rw [i2, g1, e96]; rcases v1 with q | q <;> omega), i2, g1, g2, e96, j2]
            by_cases v2 : gon (D 96) x2 x3
            · rw [brT v2, l203v (by rw [e96]; exact W) (by omega) (by rw [i3, g2, e96]; rcases v2 with q | q <;> omega), i3, g2, g3, e96, j3]
              by_cases v3 : gon (D 96) x3 x4
              · rw [brT v3, seg203_73 (ha0 := ho95), brT (c := (4 : Int) ≤ 4) (by decide)]
                exact hs ⟨⟨by omega, h7⟩, h1, v1, v2, v3⟩
              · rw [brF v3]; exact hf (fun q => v3 q.2.2.2.2) D1 f1
            · rw [brF v2]; exact hf (fun q => v2 q.2.2.2.1) D1 f1
          · rw [brF v1]; exact hf (fun q => v1 q.2.2.1) D1 f1
        · rw [if_neg h1, brF (by decide)]; exact no (fun q => h1 q.2.1)
      · rw [if_neg h6, brT rfl]; exact no (fun q => by have := q.1; omega)
    · rw [if_neg h5, brT rfl]; exact no (fun q => by have := q.1; omega)
  · rw [if_neg h7, brT rfl]; exact no (fun q => by have := q.1; omega)

/-- working rows are free -/
def xfre (a : Nat) : Prop := a ≠ 1 ∧ a ≠ 2 ∧ (a < 3 ∨ 40 < a) ∧ a ≠ 56 ∧ a ≠ 68 ∧ a ≠ 69 ∧ a ≠ 70 ∧ a ≠ 71 ∧ a ≠ 85 ∧ a ≠ 91 ∧ a ≠ 92 ∧ a ≠ 95 ∧ a ≠ 96 ∧ a ≠ 97 ∧ a ≠ 99
theorem Inv_free (H : Inv K D) (h : ∀ a, ¬ xfre a → D' a = D a) : Inv K D' := by
  obtain ⟨g1, g2, g3, g4, g5, g6, g7⟩ := H
  unfold xfre at h
  refine ⟨?_, ?_, ?_, ?_, ?_, ?_, ?_⟩
  · rw [h 1 (by decide), h 2 (by decide), h 95 (by decide), h 99 (by decide)]; exact g1
  · rw [h 96 (by decide)]
    exact IS_congr (fun a e1 e2 => h a (by omega)) g2
  · rw [h 96 (by decide)]; exact g3
  · rw [h 97 (by decide)]
    exact IS_congr (fun a e1 e2 => h a (by omega)) g4
  · rw [h 97 (by decide)]; exact g5
  · rw [h 96 (by decide), h 56 (by decide), h 68 (by decide), h 69 (by decide), h 70 (by decide), h 71 (by decide), h 91 (by decide), h 92 (by decide)]; exact g6
  · rw [h 85 (by decide)]; exact g7

theorem pair15 : ∀ (z1 z2 z3 z4 z5 z6 z7 : Int), xinP z1 → xinP z2 → xinP z3 → xinP z4 → xinP z5 → xinP z6 → xinP z7 → xpr (Inv K) 129 [some (.inr (.inr (some 1))), some (.inl z1), some (.inl z2), some (.inl z3), some (.inl z4), some (.inl z5), some (.inl z6), some (.inl z7), none] 203 [some (.inr (.inr (some 95))), some (.inl z1), some (.inl z2), some (.inl z3), some (.inl z4), some (.inl z5), some (.inl z6), some (.inl z7), none, none, none] := by
  intro z1 z2 z3 z4 z5 z6 z7 y1 y2 y3 y4 y5 y6 y7 D H
  obtain ⟨-, hs, hw, -⟩ := id H
  obtain ⟨⟨e1, e2, e3, e4, e5⟩, hb, hsl, hst, hp, hd, hcc, hk⟩ := id hs
  obtain ⟨⟨w0, w1, w2, w3, w4, w5⟩, ws, wd, wsum, wp, wc, wk, wx1, wx2, wx3⟩ := id hw
  simp only [Nat.reduceAdd] at e1 e2 e3 e4 e5 hb hsl hst hp hd hcc hk
  refine m129 hs hw (fun hG => ?_) (fun hG => ?_)
  · obtain ⟨⟨h5, h7⟩, h1, g1, g2, g3⟩ := id hG
    obtain ⟨k, hk6⟩ : ∃ k : Nat, z6 + 1 = z5 + (k + 1 : Nat) := ⟨(z6 - z5).toNat, by omega⟩
    have hmin : ∀ s, 0 ≤ s → s < D 4 11 → D 7 s = D 96 (30 + 7 * s + 2) ∧ 0 ≤ D 7 s ∧ D 7 s ≤ 5 := fun s s1 s2 => by
      have q := hst s s1 (by omega)
      have q2 := ws s s1 (by omega)
      omega
    obtain ⟨D1, hD1⟩ : ∃ D1, D1 = xcpy D 20 41 0 0 208 := ⟨_, rfl⟩
    rw [← hD1]
    have f1 : ∀ a, a ≠ 41 → D1 a = D a := fun a ha => by rw [hD1, cpy_ne ha]
    have c41 : ∀ c, 0 ≤ c → c < 208 → D1 41 c = D 96 (220 + c) := fun c c1 c2 => by rw [hD1, cpy_in ⟨c1, c2⟩]; exact (hk c c1 c2).1
    clear hD1
    have hB : ∀ c, 0 ≤ c → c < 208 → 0 ≤ D1 41 c ∧ D1 41 c ≤ 30 := fun c c1 c2 => by rw [c41 c c1 c2]; exact (wk c c1 c2).1
    obtain ⟨L, hL⟩ : ∃ L, L = z1 :: wvL1 z2 z3 z4 := ⟨_, rfl⟩
    have eW : wvC (D 96) L z5 (k + 1) = wvS z1 z5 (k + 1) ++ wvC (D 96) (wvL1 z2 z3 z4) (z5 + D 7 z1) (k + 1) := by
      rw [hL, (hmin z1 h1.1 (by omega)).1]; rfl
    have r2 : z2 = -1 ∨ (0 ≤ z2 ∧ z2 < D 96 0) := g1.elim .inl (fun q => .inr q.2.1)
    have r3 : z3 = -1 ∨ (z2 ≠ -1 ∧ 0 ≤ z3 ∧ z3 < D 96 0) := g2.elim .inl (fun q => .inr (by have := q.1; have := q.2.1; omega))
    have r4 : z4 = -1 ∨ (z3 ≠ -1 ∧ 0 ≤ z4 ∧ z4 < D 96 0) := g3.elim .inl (fun q => .inr (by have := q.1; have := q.2.1; omega))
    have hV : wvV (D 96) L := by
      have one : ∀ s, 0 ≤ s → s < D 96 0 → (0 ≤ s ∧ s < D 96 0) ∧ 0 ≤ D 96 (30 + 7 * s + 2) ∧ D 96 (30 + 7 * s + 2) ≤ 5 := fun s s1 s2 => by
        have q2 := ws s s1 s2
        omega
      rw [hL]
      unfold wvL1 wvL2 wvL3
      obtain ⟨a1, a2, a3⟩ := one z1 h1.1 h1.2
      refine ⟨a1, a2, a3, ?_⟩
      by_cases c2 : z2 = -1
      · rw [if_pos c2]; trivial
      · rw [if_neg c2]
        obtain ⟨a1, a2, a3⟩ := one z2 (by omega) (by omega)
        refine ⟨a1, a2, a3, ?_⟩
        by_cases c3 : z3 = -1
        · rw [if_pos c3]; trivial
        · rw [if_neg c3]
          obtain ⟨a1, a2, a3⟩ := one z3 (by omega) (by omega)
          refine ⟨a1, a2, a3, ?_⟩
          by_cases c4 : z4 = -1
          · rw [if_pos c4]; trivial
          · rw [if_neg c4]
            obtain ⟨a1, a2, a3⟩ := one z4 (by omega) (by omega)
            exact ⟨a1, a2, a3, trivial⟩
    -- what both sides do after the way is known to be one
    have model : ∀ (D2 : xD) (r : Int), (∀ a, a ≠ 41 → a ≠ 20 → D2 a = D a) → (∀ f' : Int → Int, (∀ c, 0 ≤ c → c < 208 → f' c = D 96 (220 + c)) → (wvR z7 (wvM (D 96) L z5 (k + 1)) f' = none → r = 0 ∧ D2 20 = D 20) ∧ (∀ g, wvR z7 (wvM (D 96) L z5 (k + 1)) f' = some g → r = 1 ∧ (∀ c, 0 ≤ c → c < 208 → D2 20 c = g c) ∧ (∀ c, 0 ≤ c → c < 208 → (0 ≤ g c ∧ g c ≤ 30) ∧ (13 * D 96 0 ≤ c → g c = 0)))) → D2 0 = D 0 ∧ WP 124 xF1 none 203 0 [some (.inr (.inr (some 95))), some (.inl z1), some (.inl z2), some (.inl z3), some (.inl z4), some (.inl z5), some (.inl z6), some (.inl z7), none, none, none] [] D2 (fun w D3 => w = some (.inl r) ∧ D3 0 = D 0 ∧ Inv K D3) := by
      intro D2 r hD2 hr
      have e96 : D2 96 = D 96 := hD2 96 (by decide) (by decide)
      refine ⟨hD2 0 (by decide) (by decide), ?_⟩
      refine m203 (by rw [e96]; exact hw) (fun _ => ?_) (fun q => absurd (by rw [e96]; exact hG) q)
      rw [l203a 208 0 _ (by omega) (by omega)]
      obtain ⟨D3, hD3⟩ : ∃ D3, D3 = xcpy (xup (xup (xup (xup D2 113 0 z1) 113 1 z2) 113 2 z3) 113 3 z4) 96 112 (220 + 0) 0 (208 - 0) := ⟨_, rfl⟩
      rw [← hD3]
      have f3 : ∀ a, a ≠ 112 → a ≠ 113 → D3 a = D2 a := fun a a1 a2 => by rw [hD3, cpy_ne a1, up_ne a2, up_ne a2, up_ne a2, up_ne a2]
      have c112 : ∀ c, 0 ≤ c → c < 208 → D3 112 c = D 96 (220 + c) := fun c c1 c2 => by
        rw [hD3]
        unfold xcpy
        rw [if_pos ⟨rfl, by omega, by omega⟩, up_ne (by decide), up_ne (by decide), up_ne (by decide), up_ne (by decide), e96]
        congr 1; omega
      have v0 : D3 113 0 = z1 := by rw [hD3, cpy_ne (by decide), up_ne2 (by decide), up_ne2 (by decide), up_ne2 (by decide), up_eq]
      have v1 : D3 113 1 = z2 := by rw [hD3, cpy_ne (by decide), up_ne2 (by decide), up_ne2 (by decide), up_eq]
      have v2 : D3 113 2 = z3 := by rw [hD3, cpy_ne (by decide), up_ne2 (by decide), up_eq]
      have v3 : D3 113 3 = z4 := by rw [hD3, cpy_ne (by decide), up_eq]
      clear hD3
      have e396 : D3 96 = D 96 := by rw [f3 96 (by decide) (by decide), e96]
      have hy : wyAt (D3 113) L 0 := by
        rw [hL]
        unfold wvL1 wvL2 wvL3
        refine ⟨by decide, v0, ?_⟩
        by_cases c2 : z2 = -1
        · rw [if_pos c2]; exact .inr ⟨by decide, by show D3 113 1 < 0; omega⟩
        · rw [if_neg c2]
          refine ⟨by decide, v1, ?_⟩
          by_cases c3 : z3 = -1
          · rw [if_pos c3]; exact .inr ⟨by decide, by show D3 113 2 < 0; omega⟩
          · rw [if_neg c3]
            refine ⟨by decide, v2, ?_⟩
            by_cases c4 : z4 = -1
            · rw [if_pos c4]; exact .inr ⟨by decide, by show D3 113 3 < 0; omega⟩
            · rw [if_neg c4]
              exact ⟨by decide, v3, .inl (by decide)⟩
      obtain ⟨rn, rs⟩ := hr (D3 112) c112
      refine l203m h7 (by rw [e396]; exact w1) h5.2.2 (by rw [e396]; exact hV) hy (k + 1) z5 _ _ D3 hk6 h5.1 (fun _ _ => rfl) (fun c c1 c2 => by rw [c112 c c1 c2]; exact (wk c c1 c2).1) (fun g o9 o10 hg => ?_) (fun hn D4 hD4 => ?_)
      · rw [e396] at hg
        obtain ⟨r1, r2', r3'⟩ := rs g hg
        rw [l203z 208 0 _ (by omega) (by omega)]
        refine ⟨by rw [r1], by rw [cpy_ne (by decide), set_ne (by decide), f3 0 (by decide) (by decide), hD2 0 (by decide) (by decide)], ?_⟩
        obtain ⟨D4, hD4⟩ : ∃ D4, D4 = xcpy (xset D3 112 g) 112 96 0 (220 + 0) (208 - 0) := ⟨_, rfl⟩
        rw [← hD4]
        have f4 : ∀ a, a ≠ 20 → a ≠ 41 → a ≠ 112 → a ≠ 113 → a ≠ 96 → D4 a = D a := fun a a1 a2 a3 a4 a5 => by rw [hD4, cpy_ne a5, set_ne a3, f3 a a3 a4, hD2 a a2 a1]
        have f20 : ∀ c, 0 ≤ c → c < 208 → D4 20 c = g c := fun c c1 c2 => by rw [hD4, cpy_ne (by decide), set_ne (by decide), f3 20 (by decide) (by decide)]; exact r2' c c1 c2
        have f96 : ∀ j, D4 96 j = if 220 ≤ j ∧ j < 428 then g (j - 220) else D 96 j := fun j => by
          rw [hD4]
          unfold xcpy
          by_cases c : 220 ≤ j ∧ j < 428
          · rw [if_pos c, if_pos ⟨rfl, by omega, by omega⟩, set_eq]
            congr 1; omega
          · rw [if_neg c, if_neg (by omega), set_ne (by decide), e396]
        clear hD4
        have fL : ∀ j, (j < 220 ∨ 428 ≤ j) → D4 96 j = D 96 j := fun j hj => by rw [f96, if_neg (by omega)]
        have fG : ∀ c, 0 ≤ c → c < 208 → D4 96 (220 + c) = g c := fun c c1 c2 => by
          rw [f96, if_pos (by omega)]; congr 1; omega
        have ef : ∀ s, 0 ≤ s → s < D 96 0 → frM (D4 96) s = frM (D 96) s := fun s s1 s2 => (frM_cg (fun j hj => fL j (by omega)) ⟨s1, by omega⟩).1
        have Hm : Inv K (fun a => if a = 41 ∨ a = 112 ∨ a = 113 then D4 a else D a) := Inv_free H (fun a ha => by
          show (if a = 41 ∨ a = 112 ∨ a = 113 then D4 a else D a) = D a
          rw [if_neg (fun q => ha (by unfold xfre; omega))])
        refine Inv_now Hm (fun a a1 a2 => ?_) ?_ ?_ ?_
        · show D4 a = (if a = 41 ∨ a = 112 ∨ a = 113 then D4 a else D a)
          by_cases e : a = 41 ∨ a = 112 ∨ a = 113
          · rw [if_pos e]
          · rw [if_neg e]; exact f4 a (by omega) (by omega) (by omega) (by omega) a2
        · refine IS_of hs (fun a a1 a2 => f4 a (by omega) (by omega) (by omega) (by omega) (by omega)) (fun j hj => fL j (by omega)) ⟨w1, w3⟩ ?_ ?_ (fun p p1 p2 => ?_) (fun c c1 c2 => ?_) (fun c c1 c2 => ?_)
          · rw [f4 3 (by decide) (by decide) (by decide) (by decide) (by decide), fL 5 (by omega)]; exact e4
          · rw [f4 3 (by decide) (by decide) (by decide) (by decide) (by decide), fL 6 (by omega)]; exact e5
          · simp only [Nat.reduceAdd]
            rw [f4 16 (by decide) (by decide) (by decide) (by decide) (by decide), fL _ (by omega)]; exact (hp p p1 p2).2.2
          · rw [fL 6 (by omega)] at c2
            simp only [Nat.reduceAdd]
            rw [f4 17 (by decide) (by decide) (by decide) (by decide) (by decide), f4 18 (by decide) (by decide) (by decide) (by decide) (by decide), f4 19 (by decide) (by decide) (by decide) (by decide) (by decide), fL _ (by omega), fL _ (by omega), fL _ (by omega)]; exact hcc c c1 c2
          · simp only [Nat.reduceAdd]
            rw [f20 c c1 c2, fG c c1 c2, f4 21 (by decide) (by decide) (by decide) (by decide) (by decide), fL (430 + c) (by omega)]; exact ⟨rfl, (hk c c1 c2).2⟩
        · refine Wf_of hw (fun j hj => fL j (by omega)) (by rw [fL 5 (by omega)]; exact wx2) (by rw [fL 6 (by omega)]; exact ⟨w4, w5⟩) (fun p p1 p2 => ?_) (fun c c1 c2 => ?_) (fun c c1 c2 => ?_)
          · rw [fL _ (by omega)]
            rcases (wp p p1 p2).2.2 with q | ⟨q, r, t⟩
            · exact .inl q
            · exact .inr ⟨q, r, by rw [ef _ q r, t]⟩
          · rw [fL 6 (by omega)] at c2
            rw [fL _ (by omega), fL _ (by omega), fL _ (by omega)]
            obtain ⟨v1, v2, v3⟩ := wc c c1 c2
            refine ⟨v1, v2, ?_⟩
            rcases v3 with q | ⟨q, r, t⟩
            · exact .inl q
            · exact .inr ⟨q, r, by rw [ef _ q r, t]⟩
          · rw [fG c c1 c2, fL (430 + c) (by omega)]
            obtain ⟨q1, q2⟩ := r3' c c1 c2
            obtain ⟨-, k2, k3⟩ := wk c c1 c2
            exact ⟨q1, k2, fun q => ⟨q2 q, (k3 q).2⟩⟩
        · exact trA_up (fun j hj => by
            show D4 96 j = (if (96 : Nat) = 41 ∨ (96 : Nat) = 112 ∨ (96 : Nat) = 113 then D4 96 else D 96) j
            rw [if_neg (by decide)]
            exact fL j (by omega))
      · rw [e396] at hn
        obtain ⟨r1, r2'⟩ := rn hn
        refine ⟨by rw [r1], by rw [hD4 0 (by decide), f3 0 (by decide) (by decide), hD2 0 (by decide) (by decide)], ?_⟩
        refine Inv_free H (fun a ha => ?_)
        unfold xfre at ha
        by_cases e : a = 20
        · subst e
          rw [hD4 20 (by decide), f3 20 (by decide) (by decide), r2']
        · rw [hD4 a (by omega), f3 a (by omega) (by omega), hD2 a (by omega) e]
    have tr := fun f' (hf' : ∀ c, 0 ≤ c → c < 208 → f' c = D 96 (220 + c)) => wv_tr (n := z7) (z := D 96 0) (L := wvC (D 96) L z5 (k + 1)) (M := wvM (D 96) L z5 (k + 1)) (f := D1 41) (f' := f') (by omega) (fun w => wvCM w _ _ _ _) (wvC_O _ _ _ hV h5.1) (fun c c1 c2 => by rw [c41 c c1 (by omega), hf' c c1 (by omega)])
    have hO := wvC_O (k + 1) L z5 hV h5.1
    -- the class
    have okc : ∀ g, wvR z7 (wvC (D 96) L z5 (k + 1)) (D1 41) = some g → ∃ r : Int, some (Sum.inl 1) = (some (.inl r) : Option xv) ∧ xcpy (xset D1 41 g) 41 20 0 0 208 0 = D 0 ∧ WP 124 xF1 none 203 0 [some (.inr (.inr (some 95))), some (.inl z1), some (.inl z2), some (.inl z3), some (.inl z4), some (.inl z5), some (.inl z6), some (.inl z7), none, none, none] [] (xcpy (xset D1 41 g) 41 20 0 0 208) (fun w D3 => w = some (.inl r) ∧ D3 0 = D 0 ∧ Inv K D3) := by
      intro g hg
      refine ⟨1, rfl, model _ 1 (fun a a1 a2 => by rw [cpy_ne a2, set_ne a1, f1 a a1]) (fun f' hf' => ?_)⟩
      obtain ⟨t1, t2⟩ := tr f' hf'
      obtain ⟨u1, u2, u3, u4⟩ := t2 g hg
      refine ⟨fun q => ?_, fun g' hg' => ?_⟩
      · rw [u1] at q; exact absurd q (by simp)
      · rw [u1] at hg'
        have eg : ∀ c, g' c = f' c + z7 * wvN (wvX c) (wvC (D 96) L z5 (k + 1)) := fun c => by
          have := Option.some.inj hg'
          rw [← this]
        have eg2 : ∀ c, 0 ≤ c → c < 208 → g c = g' c := fun c c1 c2 => by rw [u2 c, eg c, c41 c c1 c2, hf' c c1 c2]
        refine ⟨rfl, fun c c1 c2 => ?_, fun c c1 c2 => ⟨?_, fun q => ?_⟩⟩
        · rw [cpy_in ⟨c1, c2⟩, set_eq]; exact eg2 c c1 c2
        · rw [← eg2 c c1 c2]; exact wv_bd (by omega) hg hB c c1 c2
        · rw [eg c]
          have z0 : wvN (wvX c) (wvC (D 96) L z5 (k + 1)) = 0 := Decidable.byContradiction (fun q2 => by
            have := wv_rg _ c u4 hO q2
            omega)
          rw [z0, Int.mul_zero, hf' c c1 c2, ((wk c c1 c2).2.2 q).1]
          rfl
    have noc : wvR z7 (wvC (D 96) L z5 (k + 1)) (D1 41) = none → ∀ D', (∀ a, a ≠ 41 → D' a = D1 a) → ∃ r : Int, some (Sum.inl 0) = (some (.inl r) : Option xv) ∧ D' 0 = D 0 ∧ WP 124 xF1 none 203 0 [some (.inr (.inr (some 95))), some (.inl z1), some (.inl z2), some (.inl z3), some (.inl z4), some (.inl z5), some (.inl z6), some (.inl z7), none, none, none] [] D' (fun w D3 => w = some (.inl r) ∧ D3 0 = D 0 ∧ Inv K D3) := by
      intro hn D' hD'
      refine ⟨0, rfl, model D' 0 (fun a a1 a2 => by rw [hD' a a1, f1 a a1]) (fun f' hf' => ?_)⟩
      obtain ⟨t1, t2⟩ := tr f' hf'
      refine ⟨fun _ => ⟨rfl, by rw [hD' 20 (by decide), f1 20 (by decide)]⟩, fun g' hg' => ?_⟩
      rw [t1 hn] at hg'
      exact absurd hg' (by simp)
    rw [eW, wvR_app] at okc noc
    refine m130 (k := k) (by rw [f1 4 (by decide)]; omega) (by rw [f1 4 (by decide)]; omega) h7 h5.1 hk6 (by rw [f1 7 (by decide)]; exact (hmin z1 h1.1 (by omega)).2) hB (fun h3 g hg => ?_) (fun hg D' hD' => ?_)
    · rw [hg] at okc noc
      simp only [Option.toList_some, Option.toList_none, List.cons_append, List.nil_append]
      have eg : xset D1 41 g 41 = g := set_eq
      have q7 := hmin z1 h1.1 (by omega)
      rw [f1 7 (by decide)]
      refine s121 (A := D 96) (k := k) _ (by rw [set_ne (by decide), f1 4 (by decide)]; omega) (by rw [set_ne (by decide), f1 4 (by decide)]; omega) (by rw [set_ne (by decide), f1 4 (by decide)]; omega) (by rw [set_ne (by decide), set_ne (by decide), f1 4 (by decide), f1 7 (by decide)]; exact hmin) (by rw [set_ne (by decide), f1 4 (by decide)]; omega) (by omega) hk6 h7 (by omega) (by rw [eg]; exact wv_bd (by omega) hg hB) ?_ ?_
      · rw [eg]
        intro g' hg'
        rw [set_set]
        exact okc g' hg'
      · rw [eg]
        intro hn D' hD'
        exact noc hn D' (fun a ha => by rw [hD' a ha, set_ne ha])
    · rw [hg] at noc
      simp only [Option.toList_some, Option.toList_none, List.cons_append, List.nil_append]
      rw [c121m _ (by omega)]
      exact noc rfl D' hD'
  · refine ⟨0, rfl, rfl, ?_⟩
    refine m203 hw (fun q => absurd q hG) (fun _ D' hD' => ⟨rfl, hD' 0 (by decide), Inv_free H (fun a ha => hD' a (fun q => ha (by subst q; unfold xfre; decide)))⟩)

end M48
