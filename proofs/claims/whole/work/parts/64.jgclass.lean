/-! the way told, judged: the class -/
theorem hl81 : xalen none 124 81 = some 6 := rfl
def jcA (D : xD) (A : Int → Int) : Prop := ∀ c, 0 ≤ c → c < 208 → D 20 c = A (220 + c) ∧ D 21 c = A (430 + c)
def jcF (D' D : xD) : Prop := ∀ a, (a < 73 ∨ 81 < a ∨ a = 74 ∨ a = 75) → D' a = D a
def jcI (A T : Int → Int) (k : Int) (J : jgT) (p : Int) (D' : xD) : Prop :=
  (∀ q, 0 ≤ q → q < 8 → D' 76 q = J.1 q + (if q < p then 0 else jgA A T 220 0 k q) ∧ D' 77 q = J.2.1 q + (if q < p then 0 else jgA A T 430 1 k q) ∧ D' 80 q = J.2.2.1 q ∧ D' 78 q = jgE A T 220 k q ∧ D' 79 q = jgE A T 430 k q) ∧
  (∀ d, 0 ≤ d → d < T 1 → D' 81 d = J.2.2.2.1 d) ∧ D' 73 3 = J.2.2.2.2.1 ∧ D' 73 4 = J.2.2.2.2.2
section M64
variable {x1 x2 x3 x4 x5 x6 s t p q k n z o u d M : Int} {D D' D1 D2 : xD} {A T b : Int → Int} {J : jgT} {Q : Option xv → xD → Prop}
theorem m23 (hx : 0 ≤ x1 ∧ x1 < 6) : WP 124 xF1 none 23 0 [some (.inr (.inr (some 4))), some (.inl x1), some (.inl x2), some (.inl x3)] [] D Q = Q (some (.inl (if D 13 x1 = x2 ∧ D 14 x1 ≤ x3 then 1 else 0))) D := by
  have e0 : WP 124 xF1 none 23 24 [some (.inr (.inr (some 4))), some (.inl x1), some (.inl x2), some (.inl x3)] [] D Q = Q (some (.inl 0)) D := by
    rw [seg23_24 (ha0 := ho4), seg23_25 (ha0 := ho4)]
    exact cnT (.inl rfl)
  rw [seg23_0 (ha0 := ho4), cnB (by omega)]
  simp only [Nat.reduceAdd]
  by_cases c1 : D 13 x1 = x2
  · rw [brF (c := D 13 x1 ≠ x2) (fun z => z c1), cnB (by omega)]
    by_cases c2 : x3 < D 14 x1
    · rw [brT c2, e0, if_neg (by omega)]
    · rw [brF c2, seg23_25 (ha0 := ho4), if_pos ⟨c1, by omega⟩]
      exact cnT (.inr rfl)
  · rw [brT (c := D 13 x1 ≠ x2) c1, e0, if_neg (fun z => c1 z.1)]
theorem l22 (hT : tnW T) (H : tnC D T) (hx5 : x5 = 0 ∨ x5 = 1) : ∀ (r : Nat) (d n : Int) (b : Int → Int) (D' : xD) (o8 : Option xv), T 1 = d + r → 0 ≤ d → 0 ≤ n → n ≤ 100000 → (∀ d, 0 ≤ d → d < T 1 → 0 ≤ b d ∧ b d ≤ 30) → (∀ a, a ≠ 81 → D' a = D a) → (∀ d, 0 ≤ d → d < T 1 → D' 81 d = b d) →
    (∀ D'' : xD, (∀ a, a ≠ 81 → D'' a = D a) → (∀ j, 0 ≤ j → j < T 1 → D'' 81 j = (jgC T x2 x3 x5 r d n b).2 j) → Q (some (.inl (jgC T x2 x3 x5 r d n b).1)) D'') →
    WP 124 xF1 none 22 11 [some (.inr (.inr (some 73))), some (.inr (.inr (some 4))), some (.inl x2), some (.inl x3), some (.inl x4), some (.inl x5), some (.inl n), some (.inl d), o8] [] D' Q := by
  obtain ⟨⟨w0, w1, w2, w3⟩, ws, wd, -⟩ := id hT
  intro r
  induction r with
  | zero =>
    intro d n b D' o8 h1 h2 h3 h4 hb hF h81 hq
    have H' : tnC D' T := tnC_fr (fun a a1 a2 => hF a (by omega)) H
    rw [seg22_11 (ha0 := ho73) (ha1 := ho4), H'.1.2, brT (c := T 1 ≤ d) (by omega)]
    exact hq D' hF h81
  | succ r ih =>
    intro d n b D' o8 h1 h2 h3 h4 hb hF h81 hq
    have H' : tnC D' T := tnC_fr (fun a a1 a2 => hF a (by omega)) H
    obtain ⟨u1, u2, u3, u4⟩ := H'.2.2.2 d h2 (by omega)
    have vd := (wd d h2 (by omega)).2.2.2
    have bd := hb d h2 (by omega)
    rw [seg22_11 (ha0 := ho73) (ha1 := ho4), H'.1.2, brF (c := T 1 ≤ d) (by omega), m23 (by omega), u1, u2]
    simp only [Option.toList_some, Option.toList_none, List.cons_append, List.nil_append]
    rw [seg22_28 (ha0 := ho73) (ha1 := ho4)]
    simp only [jgC] at hq
    have skip : ¬ (T (150 + 4 * d) = x2 ∧ T (150 + 4 * d + 1) ≤ x3 ∧ T (150 + 4 * d + 3) = x5) → WP 124 xF1 none 22 75 [some (.inr (.inr (some 73))), some (.inr (.inr (some 4))), some (.inl x2), some (.inl x3), some (.inl x4), some (.inl x5), some (.inl n), some (.inl d), o8] [] D' Q := by
      intro c
      rw [if_neg c] at hq
      rw [seg22_75 (ha0 := ho73) (ha1 := ho4), cnX (by omega)]
      exact ih (d + 1) n b D' o8 (by omega) (by omega) h3 h4 hb hF h81 hq
    by_cases c1 : T (150 + 4 * d) = x2 ∧ T (150 + 4 * d + 1) ≤ x3
    · rw [if_pos c1, brF (by decide), m98 ho4]
      simp only [Option.toList_some, Option.toList_none, List.cons_append, List.nil_append]
      rw [seg22_37 (ha0 := ho73) (ha1 := ho4), u4]
      have e5 : (if T (150 + 4 * d + 3) = 1 then (1 : Int) else 0) = T (150 + 4 * d + 3) := by
        rcases vd with e | e <;> rw [e] <;> rfl
      rw [e5]
      by_cases c2 : T (150 + 4 * d + 3) = x5
      · rw [if_pos ⟨c1.1, c1.2, c2⟩] at hq
        rw [brF (c := T (150 + 4 * d + 3) ≠ x5) (fun z => z c2)]
        simp only [Nat.reduceAdd]
        rw [h81 d h2 (by omega), cnB (by omega), cnB (by omega), cnX (by omega), cnB (by omega), cnX (by omega), seg22_75 (ha0 := ho73) (ha1 := ho4), cnX (by omega)]
        refine ih (d + 1) _ (fun j => if j = d then b d - min n (b d) else b j) _ _ (by omega) (by omega) (by omega) (by omega) (fun j j1 j2 => ?_) (fun a a1 => by rw [up_ne a1]; exact hF a a1) (fun j j1 j2 => ?_) hq
        · show 0 ≤ (if j = d then b d - min n (b d) else b j) ∧ (if j = d then b d - min n (b d) else b j) ≤ 30
          have := hb j j1 j2
          split <;> omega
        · rw [up_at]
          show _ = if j = d then b d - min n (b d) else b j
          by_cases e : j = d
          · rw [if_pos e, if_pos e]
          · rw [if_neg e, if_neg e]; exact h81 j j1 j2
      · rw [brT (c := T (150 + 4 * d + 3) ≠ x5) c2]
        exact skip (fun z => c2 z.2.2)
    · rw [if_neg c1, brT rfl]
      exact skip (fun z => c1 ⟨z.1, z.2.1⟩)
theorem m22 (hT : tnW T) (H : tnC D T) (hx5 : x5 = 0 ∨ x5 = 1) (hx4 : x4 ≤ 100000) (hb : ∀ d, 0 ≤ d → d < T 1 → 0 ≤ b d ∧ b d ≤ 30) (h81 : ∀ d, 0 ≤ d → d < T 1 → D 81 d = b d)
    (hq : ∀ D'' : xD, (∀ a, a ≠ 81 → D'' a = D a) → (∀ j, 0 ≤ j → j < T 1 → D'' 81 j = (jgC T x2 x3 x5 (T 1).toNat 0 (max 0 x4) b).2 j) → Q (some (.inl (jgC T x2 x3 x5 (T 1).toNat 0 (max 0 x4) b).1)) D'') :
    WP 124 xF1 none 22 0 [some (.inr (.inr (some 73))), some (.inr (.inr (some 4))), some (.inl x2), some (.inl x3), some (.inl x4), some (.inl x5), none, none, none] [] D Q := by
  rw [seg22_0 (ha0 := ho73) (ha1 := ho4)]
  exact l22 (D := D) hT H hx5 (T 1).toNat 0 (max 0 x4) b D _ (by have := hT.1; omega) (by omega) (by omega) (by omega) hb (fun _ _ => rfl) h81 hq
theorem m25 (hp : 0 ≤ x1 ∧ x1 < 8) (h1 : 0 ≤ x2 ∧ x2 ≤ 100000) (h2 : 0 ≤ D 80 x1 ∧ D 80 x1 ≤ 100000) (h3 : 0 ≤ D 73 3 ∧ D 73 3 ≤ 1000000) (h4 : 0 ≤ D 73 4 ∧ D 73 4 ≤ 1000000) :
    WP 124 xF1 none 25 0 [some (.inr (.inr (some 73))), some (.inl x1), some (.inl x2), some (.inl x3)] [] D Q = Q none (xup (xup (xup D 80 x1 (D 80 x1 - x2)) 73 3 (D 73 3 + x2)) 73 4 (D 73 4 + if x3 = 0 then 0 else x2)) := by
  rw [seg25_0 (ha0 := ho73), cnB (by omega)]
  simp only [Nat.reduceAdd]
  rw [cnX (by omega), cnB (by omega), cnX (by omega)]
  by_cases c : x3 = 0
  · rw [brT c, seg25_34 (ha0 := ho73) (hb2 := ho73), cnX (by omega), if_pos c]
  · rw [brF c, seg25_34 (ha0 := ho73) (hb2 := ho73), cnX (by omega), if_neg c]
theorem l24 (hT : tnW T) (H : tnC D T) (hp : 0 ≤ x2 ∧ x2 < 8) : ∀ (r : Nat) (d z : Int) (b : Int → Int) (o u : Int) (D' : xD) (o7 : Option xv), T 1 = d + r → 0 ≤ d → (0 ≤ z ∧ z ≤ 99) → (0 ≤ o ∧ o + z ≤ 500000) → (0 ≤ u ∧ u + z ≤ 500000) → (∀ d, 0 ≤ d → d < T 1 → 0 ≤ b d ∧ b d ≤ 30) → (∀ a, a ≠ 73 → a ≠ 80 → a ≠ 81 → D' a = D a) → (∀ i, i ≠ 3 → i ≠ 4 → D' 73 i = D 73 i) → (∀ j, j ≠ x2 → D' 80 j = D 80 j) → D' 80 x2 = z → (∀ d, 0 ≤ d → d < T 1 → D' 81 d = b d) → D' 73 3 = o → D' 73 4 = u →
    (∀ D'' : xD, (∀ a, a ≠ 73 → a ≠ 80 → a ≠ 81 → D'' a = D a) → (∀ i, i ≠ 3 → i ≠ 4 → D'' 73 i = D 73 i) → (∀ j, j ≠ x2 → D'' 80 j = D 80 j) → D'' 80 x2 = (jgG T x2 x3 r d z b o u).1 → (∀ j, 0 ≤ j → j < T 1 → D'' 81 j = (jgG T x2 x3 r d z b o u).2.1 j) → D'' 73 3 = (jgG T x2 x3 r d z b o u).2.2.1 → D'' 73 4 = (jgG T x2 x3 r d z b o u).2.2.2 → Q none D'') →
    WP 124 xF1 none 24 75 [some (.inr (.inr (some 73))), some (.inr (.inr (some 4))), some (.inl x2), some (.inl x3), some (.inl x4), some (.inl x5), some (.inl d), o7] [] D' Q := by
  obtain ⟨⟨w0, w1, w2, w3⟩, ws, wd, -⟩ := id hT
  intro r
  induction r with
  | zero =>
    intro d z b o u D' o7 h1 h2 hz ho hu hb hF h73 h80 h80p h81 h3 h4 hq
    have H' : tnC D' T := tnC_fr (fun a a1 a2 => hF a (by omega) (by omega) (by omega)) H
    rw [seg24_75 (ha0 := ho73) (ha1 := ho4), H'.1.2, brT (c := T 1 ≤ d) (by omega)]
    exact hq D' hF h73 h80 h80p h81 h3 h4
  | succ r ih =>
    intro d z b o u D' o7 h1 h2 hz ho hu hb hF h73 h80 h80p h81 h3 h4 hq
    have H' : tnC D' T := tnC_fr (fun a a1 a2 => hF a (by omega) (by omega) (by omega)) H
    obtain ⟨u1, u2, u3, u4⟩ := H'.2.2.2 d h2 (by omega)
    have vd := (wd d h2 (by omega)).2.2.2
    have bd := hb d h2 (by omega)
    rw [seg24_75 (ha0 := ho73) (ha1 := ho4), H'.1.2, brF (c := T 1 ≤ d) (by omega), m23 (by omega), u1, u2]
    simp only [Option.toList_some, Option.toList_none, List.cons_append, List.nil_append]
    rw [seg24_92 (ha0 := ho73) (ha1 := ho4)]
    simp only [jgG] at hq
    by_cases c1 : T (150 + 4 * d) = x2 ∧ T (150 + 4 * d + 1) ≤ x3
    · rw [if_pos c1] at hq
      rw [if_pos c1, brF (by decide)]
      simp only [Nat.reduceAdd]
      rw [h81 d h2 (by omega), h80p, cnB (by omega), cnB (by omega), cnB (by omega), cnX (by omega), cnB (by omega), m98 ho4]
      simp only [Option.toList_some, Option.toList_none, List.cons_append, List.nil_append]
      have e14 : (xup D' 81 d (b d - min (b d) z)) 4 = D' 4 := up_ne (by decide)
      rw [seg24_135 (ha0 := ho73) (ha1 := ho4) (hb3 := ho73), e14, u4]
      have k80 : (xup D' 81 d (b d - min (b d) z)) 80 x2 = z := by rw [up_ne (by decide)]; exact h80p
      have k3 : (xup D' 81 d (b d - min (b d) z)) 73 3 = o := by rw [up_ne (by decide)]; exact h3
      have k4 : (xup D' 81 d (b d - min (b d) z)) 73 4 = u := by rw [up_ne (by decide)]; exact h4
      rw [m25 hp (by omega) (by rw [k80]; omega) (by rw [k3]; omega) (by rw [k4]; omega), k80, k3, k4]
      simp only [Option.toList_some, Option.toList_none, List.cons_append, List.nil_append]
      rw [seg24_138 (ha0 := ho73) (ha1 := ho4), cnX (by omega)]
      have eu : (if (if T (150 + 4 * d + 3) = 1 then (1 : Int) else 0) = 0 then 0 else min (b d) z) = (if T (150 + 4 * d + 3) = 1 then min (b d) z else 0) := by
        by_cases e : T (150 + 4 * d + 3) = 1
        · rw [if_pos e, if_pos e, if_neg (by decide)]
        · rw [if_neg e, if_neg e, if_pos rfl]
      rw [eu]
      have eub : 0 ≤ (if T (150 + 4 * d + 3) = 1 then min (b d) z else 0) ∧ (if T (150 + 4 * d + 3) = 1 then min (b d) z else 0) ≤ min (b d) z := by split <;> omega
      refine ih (d + 1) _ (fun j => if j = d then b d - min (b d) z else b j) (o + min (b d) z) (u + if T (150 + 4 * d + 3) = 1 then min (b d) z else 0) _ _ (by omega) (by omega) (by omega) (by omega) (by omega) (fun j j1 j2 => ?_) (fun a a1 a2 a3 => by rw [up_ne a1, up_ne a1, up_ne a2, up_ne a3]; exact hF a a1 a2 a3) (fun i i1 i2 => by rw [up_ne2 i2, up_ne2 i1, up_ne (by decide), up_ne (by decide)]; exact h73 i i1 i2) (fun j hj => by rw [up_ne (by decide), up_ne (by decide), up_ne2 hj, up_ne (by decide)]; exact h80 j hj) ?_ (fun j j1 j2 => ?_) ?_ ?_ hq
      · show 0 ≤ (if j = d then b d - min (b d) z else b j) ∧ (if j = d then b d - min (b d) z else b j) ≤ 30
        have := hb j j1 j2
        split <;> omega
      · rw [up_ne (by decide), up_ne (by decide), up_eq]
      · rw [up_ne (by decide), up_ne (by decide), up_ne (by decide), up_at]
        show _ = if j = d then b d - min (b d) z else b j
        by_cases e : j = d
        · rw [if_pos e, if_pos e]
        · rw [if_neg e, if_neg e]; exact h81 j j1 j2
      · rw [up_ne2 (by decide), up_eq]
      · rw [up_eq]
    · rw [if_neg c1] at hq
      rw [if_neg c1, brT rfl, seg24_138 (ha0 := ho73) (ha1 := ho4), cnX (by omega)]
      exact ih (d + 1) z b o u D' _ (by omega) (by omega) hz ho hu hb hF h73 h80 h80p h81 h3 h4 hq
theorem m24 (hT : tnW T) (H : tnC D T) (hp : 0 ≤ x2 ∧ x2 < 8) (hth : 0 ≤ D 76 x2 ∧ D 76 x2 ≤ 100000) (hst : 0 ≤ D 77 x2 ∧ D 77 x2 ≤ 100000) (hz : 0 ≤ D 80 x2 ∧ D 80 x2 ≤ 99) (ho : 0 ≤ D 73 3 ∧ D 73 3 ≤ 400000) (hu : 0 ≤ D 73 4 ∧ D 73 4 ≤ 400000) (hb : ∀ d, 0 ≤ d → d < T 1 → 0 ≤ b d ∧ b d ≤ 30) (h81 : ∀ d, 0 ≤ d → d < T 1 → D 81 d = b d) {n1 n2 : Int} (e1 : n1 = min (D 76 x2) (D 80 x2)) (e2 : n2 = min (D 77 x2) (D 80 x2 - n1)) {g : Int × (Int → Int) × Int × Int} (eg : g = jgG T x2 x3 (T 1).toNat 0 (D 80 x2 - n1 - n2) b (D 73 3 + n1 + n2) (D 73 4 + n2))
    (hq : ∀ D'' : xD, (∀ a, a ≠ 73 → a ≠ 76 → a ≠ 77 → a ≠ 80 → a ≠ 81 → D'' a = D a) → (∀ i, i ≠ 3 → i ≠ 4 → D'' 73 i = D 73 i) → (∀ j, D'' 76 j = if j = x2 then D 76 x2 - n1 else D 76 j) → (∀ j, D'' 77 j = if j = x2 then D 77 x2 - n2 else D 77 j) → (∀ j, D'' 80 j = if j = x2 then g.1 else D 80 j) → (∀ j, 0 ≤ j → j < T 1 → D'' 81 j = g.2.1 j) → D'' 73 3 = g.2.2.1 → D'' 73 4 = g.2.2.2 → Q none D'') :
    WP 124 xF1 none 24 0 [some (.inr (.inr (some 73))), some (.inr (.inr (some 4))), some (.inl x2), some (.inl x3), none, none, none, none] [] D Q := by
  rw [seg24_0 (ha0 := ho73) (ha1 := ho4), cnB (by omega)]
  simp only [Nat.reduceAdd]
  rw [← e1, cnB (by omega), cnB (by omega), cnX (by omega), cnB (by omega)]
  have r80 : (xup D 76 x2 (D 76 x2 - n1)) 80 x2 = D 80 x2 := by rw [up_ne (by decide)]
  have r3 : (xup D 76 x2 (D 76 x2 - n1)) 73 3 = D 73 3 := by rw [up_ne (by decide)]
  have r4 : (xup D 76 x2 (D 76 x2 - n1)) 73 4 = D 73 4 := by rw [up_ne (by decide)]
  rw [m25 hp (by omega) (by rw [r80]; omega) (by rw [r3]; omega) (by rw [r4]; omega), r80, r3, r4, if_pos rfl, Int.add_zero]
  simp only [Option.toList_some, Option.toList_none, List.cons_append, List.nil_append]
  obtain ⟨D1, hD1⟩ : ∃ D1, D1 = xup (xup (xup (xup D 76 x2 (D 76 x2 - n1)) 80 x2 (D 80 x2 - n1)) 73 3 (D 73 3 + n1)) 73 4 (D 73 4) := ⟨_, rfl⟩
  rw [← hD1]
  have f0 : ∀ a, a ≠ 73 → a ≠ 76 → a ≠ 80 → D1 a = D a := fun a a1 a2 a3 => by rw [hD1, up_ne a1, up_ne a1, up_ne a3, up_ne a2]
  have f73 : ∀ i, i ≠ 3 → D1 73 i = D 73 i := fun i i1 => by
    rw [hD1, up_at]
    by_cases e : i = 4
    · rw [if_pos e, e]
    · rw [if_neg e, up_ne2 i1, up_ne (by decide), up_ne (by decide)]
  have f3 : D1 73 3 = D 73 3 + n1 := by rw [hD1, up_ne2 (by decide), up_eq]
  have f76 : ∀ j, D1 76 j = if j = x2 then D 76 x2 - n1 else D 76 j := fun j => by rw [hD1, up_ne (by decide), up_ne (by decide), up_ne (by decide), up_at]
  have f80 : ∀ j, D1 80 j = if j = x2 then D 80 x2 - n1 else D 80 j := fun j => by rw [hD1, up_ne (by decide), up_ne (by decide), up_at, up_ne (by decide)]
  clear hD1
  have v77 : D1 77 = D 77 := f0 77 (by decide) (by decide) (by decide)
  have v80 : D1 80 x2 = D 80 x2 - n1 := by rw [f80, if_pos rfl]
  rw [seg24_36 (ha0 := ho73) (ha1 := ho4), cnB (by omega)]
  simp only [Nat.reduceAdd]
  rw [v77, v80, ← e2, cnB (by omega), cnB (by omega), cnX (by omega), cnB (by omega)]
  have s80 : (xup D1 77 x2 (D 77 x2 - n2)) 80 x2 = D 80 x2 - n1 := by rw [up_ne (by decide), v80]
  have s3 : (xup D1 77 x2 (D 77 x2 - n2)) 73 3 = D 73 3 + n1 := by rw [up_ne (by decide), f3]
  have s4 : (xup D1 77 x2 (D 77 x2 - n2)) 73 4 = D 73 4 := by rw [up_ne (by decide), f73 4 (by decide)]
  rw [m25 hp (by omega) (by rw [s80]; omega) (by rw [s3]; omega) (by rw [s4]; omega), s80, s3, s4, if_neg (by decide)]
  simp only [Option.toList_some, Option.toList_none, List.cons_append, List.nil_append]
  obtain ⟨D2, hD2⟩ : ∃ D2, D2 = xup (xup (xup (xup D1 77 x2 (D 77 x2 - n2)) 80 x2 (D 80 x2 - n1 - n2)) 73 3 (D 73 3 + n1 + n2)) 73 4 (D 73 4 + n2) := ⟨_, rfl⟩
  rw [← hD2]
  have g0 : ∀ a, a ≠ 73 → a ≠ 76 → a ≠ 77 → a ≠ 80 → D2 a = D a := fun a a1 a2 a3 a4 => by rw [hD2, up_ne a1, up_ne a1, up_ne a4, up_ne a3]; exact f0 a a1 a2 a4
  have g73 : ∀ i, i ≠ 3 → i ≠ 4 → D2 73 i = D 73 i := fun i i1 i2 => by rw [hD2, up_ne2 i2, up_ne2 i1, up_ne (by decide), up_ne (by decide)]; exact f73 i i1
  have g3 : D2 73 3 = D 73 3 + n1 + n2 := by rw [hD2, up_ne2 (by decide), up_eq]
  have g4 : D2 73 4 = D 73 4 + n2 := by rw [hD2, up_eq]
  have g76 : D2 76 = D1 76 := by rw [hD2, up_ne (by decide), up_ne (by decide), up_ne (by decide), up_ne (by decide)]
  have g77 : ∀ j, D2 77 j = if j = x2 then D 77 x2 - n2 else D 77 j := fun j => by rw [hD2, up_ne (by decide), up_ne (by decide), up_ne (by decide), up_at, v77]
  have g80 : ∀ j, D2 80 j = if j = x2 then D 80 x2 - n1 - n2 else D 80 j := fun j => by
    rw [hD2, up_ne (by decide), up_ne (by decide), up_at]
    by_cases e : j = x2
    · rw [if_pos e, if_pos e]
    · rw [if_neg e, if_neg e, up_ne (by decide), f80, if_neg e]
  clear hD2
  have H2 : tnC D2 T := tnC_fr (fun a a1 a2 => g0 a (by omega) (by omega) (by omega) (by omega)) H
  rw [seg24_72 (ha0 := ho73) (ha1 := ho4)]
  refine l24 (D := D2) hT H2 hp (T 1).toNat 0 (D 80 x2 - n1 - n2) b (D 73 3 + n1 + n2) (D 73 4 + n2) D2 _ (by have := hT.1; omega) (by omega) (by omega) (by omega) (by omega) hb (fun _ _ _ _ => rfl) (fun _ _ _ => rfl) (fun _ _ => rfl) (by rw [g80, if_pos rfl]) (fun d d1 d2 => by rw [g0 81 (by decide) (by decide) (by decide) (by decide)]; exact h81 d d1 d2) g3 g4 (fun D3 k0 k73 k80 k80p k81 k3 k4 => ?_)
  rw [← eg] at k80p k81 k3 k4
  refine hq D3 (fun a a1 a2 a3 a4 a5 => by rw [k0 a a1 a4 a5]; exact g0 a a1 a2 a3 a4) (fun i i1 i2 => by rw [k73 i i1 i2]; exact g73 i i1 i2) (fun j => by rw [k0 76 (by decide) (by decide) (by decide), g76, f76]) (fun j => by rw [k0 77 (by decide) (by decide) (by decide), g77]) (fun j => ?_) k81 k3 k4
  by_cases e : j = x2
  · rw [e, if_pos rfl]; exact k80p
  · rw [if_neg e, k80 j e, g80, if_neg e]
theorem m18 : WP 124 xF1 none 18 0 [some (.inr (.inr (some 73))), some (.inl x1), some (.inl x2), some (.inl x3)] [] D Q = Q none (xup (xup (xup D 73 0 x1) 73 1 x2) 73 2 x3) := by rw [seg18_0 (ha0 := ho73)]
theorem bar_3 : (xup (xup (xup D 73 0 x1) 73 1 x2) 73 2 x3) 73 0 = x1 ∧ (xup (xup (xup D 73 0 x1) 73 1 x2) 73 2 x3) 73 1 = x2 ∧ (xup (xup (xup D 73 0 x1) 73 1 x2) 73 2 x3) 73 2 = x3 := by
  refine ⟨?_, ?_, ?_⟩
  · rw [up_ne2 (by decide), up_ne2 (by decide), up_eq]
  · rw [up_ne2 (by decide), up_eq]
  · rw [up_eq]
/-- one place -/
theorem m21 (hT : tnW T) (hA : jgW A T) (H : tnC D T) (hk : 0 ≤ k ∧ k ≤ 12) (hp : 0 ≤ p ∧ p < 8) (hM : M ≤ 90000) (hJ : jgB T M J) (hI : jcI A T k J p D)
    (q0 : jgR A T k p J = 0 → ∀ D'' : xD, jcF D'' D → (∀ i, i ≠ 3 → i ≠ 4 → D'' 73 i = D 73 i) → jcI A T k (jgJ A T k p J) (p + 1) D'' → Q none D'')
    (q1 : jgR A T k p J ≠ 0 → ∀ D'' : xD, jcF D'' D → D'' 73 0 = jgR A T k p J → D'' 73 1 = k → D'' 73 2 = p → Q none D'') :
    WP 124 xF1 none 21 0 [some (.inr (.inr (some 73))), some (.inr (.inr (some 4))), some (.inl p), some (.inl k), none, none] [] D Q := by
  obtain ⟨i1, i2, i3, i4⟩ := id hI
  obtain ⟨a1, a2, a3, a4, a5⟩ := i1 p hp.1 hp.2
  rw [if_neg (by omega)] at a1 a2
  obtain ⟨⟨b1, b1'⟩, ⟨b2, b2'⟩, b3, b4, b5, b6⟩ := jg_bd (p := p) hT hA hk hp hJ
  obtain ⟨h1, h2, h3, h4⟩ := id hJ
  obtain ⟨c1, c2, c3⟩ := h1 p hp.1 hp.2
  have e1 := jgE_bd (p := p) (told := 220) hT hA hk (.inl rfl)
  have e2 := jgE_bd (p := p) (told := 430) hT hA hk (.inr rfl)
  have f1 := jgA_bd (p := p) (told := 220) (lag := 0) hT hA hk (.inl rfl) (by omega)
  have f2 := jgA_bd (p := p) (told := 430) (lag := 1) hT hA hk (.inr rfl) (by omega)
  rw [seg21_0 (ha0 := ho73) (ha1 := ho4), cnB (by omega), cnB (by omega)]
  simp only [Nat.reduceAdd]
  rw [a1, a4, cnX (by omega)]
  refine m22 (b := J.2.2.2.1) hT H (.inl rfl) (by omega) h2 i2 (fun D1 g1 g2 => ?_)
  simp only [Option.toList_some, Option.toList_none, List.cons_append, List.nil_append]
  show WP 124 xF1 none 21 21 [some (.inr (.inr (some 73))), some (.inr (.inr (some 4))), some (.inl p), some (.inl k), none, none] [.inl (jc1 A T k p J).1] D1 Q
  have g2 : ∀ j, 0 ≤ j → j < T 1 → D1 81 j = (jc1 A T k p J).2 j := g2
  have H1 : tnC D1 T := tnC_fr (fun a a1 a2 => g1 a (by omega)) H
  rw [seg21_21 (ha0 := ho73) (ha1 := ho4), cnB (by omega), cnB (by omega)]
  simp only [Nat.reduceAdd]
  rw [g1 77 (by decide), g1 79 (by decide), a2, a5, cnX (by omega)]
  refine m22 (b := (jc1 A T k p J).2) hT H1 (.inr rfl) (by omega) b1' g2 (fun D2 k1 k2 => ?_)
  simp only [Option.toList_some, Option.toList_none, List.cons_append, List.nil_append]
  show WP 124 xF1 none 21 44 [some (.inr (.inr (some 73))), some (.inr (.inr (some 4))), some (.inl p), some (.inl k), some (.inl (jc1 A T k p J).1), none] [.inl (jc2 A T k p J).1] D2 Q
  have k2 : ∀ j, 0 ≤ j → j < T 1 → D2 81 j = (jc2 A T k p J).2 j := k2
  have k0 : ∀ a, a ≠ 81 → D2 a = D a := fun a ha => by rw [k1 a ha, g1 a ha]
  have fail : 0 < (jc1 A T k p J).1 ∨ 0 < (jc2 A T k p J).1 → WP 124 xF1 none 21 56 [some (.inr (.inr (some 73))), some (.inr (.inr (some 4))), some (.inl p), some (.inl k), some (.inl (jc1 A T k p J).1), some (.inl (jc2 A T k p J).1)] [] D2 Q := by
    intro hf
    have hR : jgR A T k p J = 2 := by unfold jgR; rw [if_pos hf]
    rw [seg21_56 (ha0 := ho73) (ha1 := ho4), m18]
    simp only [Option.toList_some, Option.toList_none, List.cons_append, List.nil_append]
    rw [seg21_63 (ha0 := ho73) (ha1 := ho4)]
    obtain ⟨z1, z2, z3⟩ := bar_3 (D := D2) (x1 := 2) (x2 := k) (x3 := p)
    exact q1 (by omega) _ (fun a ha => by rw [up_ne (by omega), up_ne (by omega), up_ne (by omega)]; exact k0 a (by omega)) (by rw [hR]; exact z1) z2 z3
  rw [seg21_44 (ha0 := ho73) (ha1 := ho4)]
  by_cases n1 : 0 < (jc1 A T k p J).1
  · rw [brT n1]; exact fail (.inl n1)
  · rw [brF n1]
    by_cases n2 : 0 < (jc2 A T k p J).1
    · rw [brF (c := (jc2 A T k p J).1 ≤ 0) (by omega)]; exact fail (.inr n2)
    · rw [brT (c := (jc2 A T k p J).1 ≤ 0) (by omega)]
      simp only [Nat.reduceAdd]
      rw [k0 76 (by decide), k0 77 (by decide), k0 78 (by decide), k0 79 (by decide), a1, a2, a4, a5]
      rw [cnB (by omega), cnB (by omega), cnX (by omega), cnB (by omega), cnB (by omega), cnB (by omega), cnX (by omega), cnB (by omega)]
      obtain ⟨D3, hD3⟩ : ∃ D3, D3 = xup (xup D2 76 p (max 0 (J.1 p + jgA A T 220 0 k p - jgE A T 220 k p))) 77 p (max 0 (J.2.1 p + jgA A T 430 1 k p - jgE A T 430 k p)) := ⟨_, rfl⟩
      rw [← hD3]
      have r0 : ∀ a, a ≠ 76 → a ≠ 77 → a ≠ 81 → D3 a = D a := fun a a1 a2 a3 => by rw [hD3, up_ne a2, up_ne a1]; exact k0 a a3
      have r76 : ∀ j, D3 76 j = if j = p then jt1 A T k p J else D 76 j := fun j => by
        rw [hD3, up_ne (by decide), up_at, k0 76 (by decide)]; rfl
      have r77 : ∀ j, D3 77 j = if j = p then jt2 A T k p J else D 77 j := fun j => by
        rw [hD3, up_at, up_ne (by decide), k0 77 (by decide)]; rfl
      have r81 : ∀ j, 0 ≤ j → j < T 1 → D3 81 j = (jc2 A T k p J).2 j := fun j j1 j2 => by rw [hD3, up_ne (by decide), up_ne (by decide)]; exact k2 j j1 j2
      clear hD3
      have v76 : D3 76 p = jt1 A T k p J := by rw [r76, if_pos rfl]
      have v77 : D3 77 p = jt2 A T k p J := by rw [r77, if_pos rfl]
      have v80 : D3 80 p = J.2.2.1 p := by rw [r0 80 (by decide) (by decide) (by decide), a3]
      have v3 : D3 73 3 = J.2.2.2.2.1 := by rw [r0 73 (by decide) (by decide) (by decide), i3]
      have v4 : D3 73 4 = J.2.2.2.2.2 := by rw [r0 73 (by decide) (by decide) (by decide), i4]
      have H3 : tnC D3 T := tnC_fr (fun a a1 a2 => r0 a (by omega) (by omega) (by omega)) H
      refine m24 (b := (jc2 A T k p J).2) (n1 := jn1 A T k p J) (n2 := jn2 A T k p J) (g := jgg A T k p J) hT H3 hp (by rw [v76]; omega) (by rw [v77]; omega) (by rw [v80]; omega) (by rw [v3]; omega) (by rw [v4]; omega) b2' r81 (by rw [v76, v80]; rfl) (by rw [v77, v80]; rfl) (by rw [v80, v3, v4]; rfl) (fun D4 s0 s73 s76 s77 s80 s81 s3 s4 => ?_)
      simp only [Option.toList_some, Option.toList_none, List.cons_append, List.nil_append]
      rw [v76] at s76
      rw [v77] at s77
      have w76 : D4 76 p = jt1 A T k p J - jn1 A T k p J := by rw [s76, if_pos rfl]
      have w77 : D4 77 p = jt2 A T k p J - jn2 A T k p J := by rw [s77, if_pos rfl]
      have w11 : D4 11 p = T (10 + p) := by rw [s0 11 (by decide) (by decide) (by decide) (by decide) (by decide), r0 11 (by decide) (by decide) (by decide)]; exact (H.2.2.1 p hp.1 hp.2).1
      have F4 : ∀ a, a ≠ 73 → a ≠ 76 → a ≠ 77 → a ≠ 80 → a ≠ 81 → D4 a = D a := fun a a1 a2 a3 a4 a5 => by rw [s0 a a1 a2 a3 a4 a5, r0 a a2 a3 a5]
      rw [seg21_117 (ha0 := ho73) (ha1 := ho4), cnB (by omega), cnB (by omega)]
      simp only [Nat.reduceAdd]
      rw [w76, w77, w11, cnX (by omega), cnB (by omega)]
      by_cases hd : T (10 + p) < (jt1 A T k p J - jn1 A T k p J) + (jt2 A T k p J - jn2 A T k p J)
      · have hR : jgR A T k p J = 3 := by unfold jgR; rw [if_neg (by omega), if_pos hd]
        rw [brF (c := jt1 A T k p J - jn1 A T k p J + (jt2 A T k p J - jn2 A T k p J) ≤ T (10 + p)) (by omega), m18]
        simp only [Option.toList_some, Option.toList_none, List.cons_append, List.nil_append]
        rw [seg21_146 (ha0 := ho73) (ha1 := ho4)]
        obtain ⟨z1, z2, z3⟩ := bar_3 (D := D4) (x1 := 3) (x2 := k) (x3 := p)
        exact q1 (by omega) _ (fun a ha => by rw [up_ne (by omega), up_ne (by omega), up_ne (by omega)]; exact F4 a (by omega) (by omega) (by omega) (by omega) (by omega)) (by rw [hR]; exact z1) z2 z3
      · have hR : jgR A T k p J = 0 := by unfold jgR; rw [if_neg (by omega), if_neg hd]
        rw [brT (c := jt1 A T k p J - jn1 A T k p J + (jt2 A T k p J - jn2 A T k p J) ≤ T (10 + p)) (by omega), seg21_146 (ha0 := ho73) (ha1 := ho4)]
        refine q0 hR D4 (fun a ha => F4 a (by omega) (by omega) (by omega) (by omega) (by omega)) (fun i i1 i2 => by rw [s73 i i1 i2, r0 73 (by decide) (by decide) (by decide)]) ⟨fun q q1 q2 => ?_, s81, s3, s4⟩
        obtain ⟨y1, y2, y3, y4, y5⟩ := i1 q q1 q2
        refine ⟨?_, ?_, ?_, ?_, ?_⟩
        · rw [s76, r76]
          show _ = (if q = p then jt1 A T k p J - jn1 A T k p J else J.1 q) + _
          by_cases e : q = p
          · rw [if_pos e, if_pos e, if_pos (by omega)]; omega
          · rw [if_neg e, if_neg e, if_neg e, y1]
            by_cases e2 : q < p
            · rw [if_pos e2, if_pos (by omega)]
            · rw [if_neg e2, if_neg (by omega)]
        · rw [s77, r77]
          show _ = (if q = p then jt2 A T k p J - jn2 A T k p J else J.2.1 q) + _
          by_cases e : q = p
          · rw [if_pos e, if_pos e, if_pos (by omega)]; omega
          · rw [if_neg e, if_neg e, if_neg e, y2]
            by_cases e2 : q < p
            · rw [if_pos e2, if_pos (by omega)]
            · rw [if_neg e2, if_neg (by omega)]
        · rw [s80, r0 80 (by decide) (by decide) (by decide), y3]
          rfl
        · rw [F4 78 (by decide) (by decide) (by decide) (by decide) (by decide), y4]
        · rw [F4 79 (by decide) (by decide) (by decide) (by decide) (by decide), y5]
end M64
