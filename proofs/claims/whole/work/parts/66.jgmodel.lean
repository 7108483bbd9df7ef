/-! the way told, judged: the model's places -/
theorem hl118 : xalen none 124 118 = some 13 := rfl
theorem hl119 : xalen none 124 119 = some 13 := rfl
section M66
variable {x1 x2 x3 x4 x5 x6 s t p q k n z o u d M told : Int} {D D' D1 D2 : xD} {A T b : Int → Int} {J : jgT} {Q : Option xv → xD → Prop}
theorem l208 (hT : tnW T) (H : tnM A T) (he : D 96 = A) (hA : jgW A T) (hk : 0 ≤ x2 ∧ x2 ≤ 12) (h3 : x3 = 220 ∨ x3 = 430) : ∀ (r : Nat) (x4 s : Int), T 0 = s + r → 0 ≤ s → 0 ≤ x4 → x4 ≤ 30 * s → WP 124 xF1 none 208 6 [some (.inr (.inr (some 95))), some (.inl x1), some (.inl x2), some (.inl x3), some (.inl x4), some (.inl s)] [] D Q = Q (some (.inl (x4 + smI (fun s => if frM T s = x1 then A (x3 + 13 * s + x2) else 0) s r))) D := by
  have w := hT.1
  have e0 : A 0 = T 0 := H 0 (by decide)
  intro r
  induction r with
  | zero =>
    intro x4 s h1 h2 h4 h5
    rw [seg208_6 (ha0 := ho95), cnB (by omega)]
    simp only [Nat.reduceAdd]
    rw [he, brT (c := A 0 ≤ s) (by omega)]
    simp [smI]
  | succ r ih =>
    intro x4 s h1 h2 h4 h5
    have b := hA s x2 h2 (by omega) hk.1 hk.2
    have b' : 0 ≤ A (x3 + 13 * s + x2) ∧ A (x3 + 13 * s + x2) ≤ 30 := by rcases h3 with e | e <;> rw [e] <;> omega
    rw [seg208_6 (ha0 := ho95), cnB (by omega)]
    simp only [Nat.reduceAdd]
    rw [he, brF (c := A 0 ≤ s) (by omega), n177 (by omega), he, (frM_cg2 H (by omega)).1]
    simp only [Option.toList_some, Option.toList_none, List.cons_append, List.nil_append]
    rw [seg208_25 (ha0 := ho95)]
    simp only [smI]
    by_cases c : frM T s = x1
    · rw [brF (c := frM T s ≠ x1) (fun z => z c), cnX (by omega), cnX (by omega), cnX (by omega), cnB (by omega), seg208_47 (ha0 := ho95)]
      simp only [Nat.reduceAdd]
      rw [he, cnX (by omega), cnX (by omega), ih _ _ (by omega) (by omega) (by omega) (by omega), if_pos c, Int.add_assoc]
    · rw [brT (c := frM T s ≠ x1) c, seg208_47 (ha0 := ho95), cnX (by omega), cnX (by omega), ih _ _ (by omega) (by omega) (by omega) (by omega), if_neg c, Int.add_assoc]
theorem m208 (hT : tnW T) (H : tnM A T) (he : D 96 = A) (hA : jgW A T) (hk : 0 ≤ x2 ∧ x2 ≤ 12) (h3 : x3 = 220 ∨ x3 = 430) : WP 124 xF1 none 208 0 [some (.inr (.inr (some 95))), some (.inl x1), some (.inl x2), some (.inl x3), none, none] [] D Q = Q (some (.inl (jgE A T x3 x2 x1))) D := by
  rw [seg208_0 (ha0 := ho95), l208 hT H he hA hk h3 (T 0).toNat 0 0 (by have := hT.1; omega) (by omega) (by omega) (by omega), Int.zero_add]
  rfl
theorem m209 (H : tnM A T) (he : D 96 = A) (hx : 0 ≤ x1 ∧ x1 < 6) : WP 124 xF1 none 209 0 [some (.inr (.inr (some 95))), some (.inl x1), some (.inl x2), some (.inl x3)] [] D Q = Q (some (.inl (if T (150 + 4 * x1) = x2 ∧ T (150 + 4 * x1 + 1) ≤ x3 ∧ 0 < D 115 x1 then 1 else 0))) D := by
  have e0 : WP 124 xF1 none 209 47 [some (.inr (.inr (some 95))), some (.inl x1), some (.inl x2), some (.inl x3)] [] D Q = Q (some (.inl 0)) D := by
    rw [seg209_47 (ha0 := ho95), seg209_48 (ha0 := ho95)]
    exact cnT (.inl rfl)
  rw [seg209_0 (ha0 := ho95), cnX (by omega), cnX (by omega), cnB (by omega)]
  simp only [Nat.reduceAdd]
  rw [he, H (150 + 4 * x1) (by omega), H (150 + 4 * x1 + 1) (by omega)]
  by_cases c1 : T (150 + 4 * x1) = x2
  · rw [brF (c := T (150 + 4 * x1) ≠ x2) (fun z => z c1), cnX (by omega), cnX (by omega), cnX (by omega), cnB (by omega)]
    by_cases c2 : x3 < T (150 + 4 * x1 + 1)
    · rw [brT c2, e0, if_neg (fun z => by omega)]
    · rw [brF c2, cnB (by omega)]
      by_cases c3 : D 115 x1 ≤ 0
      · rw [brT c3, e0, if_neg (fun z => by omega)]
      · rw [brF c3, seg209_48 (ha0 := ho95), if_pos ⟨c1, by omega, by omega⟩]
        exact cnT (.inr rfl)
  · rw [brT (c := T (150 + 4 * x1) ≠ x2) c1, e0, if_neg (fun z => c1 z.1)]
theorem l210 (hT : tnW T) (H : tnM A T) (he : D 96 = A) (hx4 : x4 = 0 ∨ x4 = 1) : ∀ (r : Nat) (d n : Int) (b : Int → Int) (D' : xD) (o7 : Option xv), T 1 = d + r → 0 ≤ d → 0 ≤ n → n ≤ 100000 → (∀ d, 0 ≤ d → d < T 1 → 0 ≤ b d ∧ b d ≤ 30) → (∀ a, a ≠ 115 → D' a = D a) → (∀ d, 0 ≤ d → d < T 1 → D' 115 d = b d) →
    (∀ (D'' : xD) (u6 : Int) (o7 : Option xv), (∀ a, a ≠ 115 → D'' a = D a) → (∀ j, 0 ≤ j → j < T 1 → D'' 115 j = (jgC T x1 x2 x4 r d n b).2 j) → WP 124 xF1 none 210 107 [some (.inr (.inr (some 95))), some (.inl x1), some (.inl x2), some (.inl x3), some (.inl x4), some (.inl (jgC T x1 x2 x4 r d n b).1), some (.inl u6), o7] [] D'' Q) →
    WP 124 xF1 none 210 6 [some (.inr (.inr (some 95))), some (.inl x1), some (.inl x2), some (.inl x3), some (.inl x4), some (.inl n), some (.inl d), o7] [] D' Q := by
  obtain ⟨⟨w0, w1, w2, w3⟩, ws, wd, -⟩ := id hT
  have e1 : A 1 = T 1 := H 1 (by decide)
  intro r
  induction r with
  | zero =>
    intro d n b D' o7 h1 h2 h3 h4 hb hF h81 hq
    rw [seg210_6 (ha0 := ho95), cnB (by omega)]
    simp only [Nat.reduceAdd]
    rw [hF 96 (by decide), he, brT (c := A 1 ≤ d) (by omega)]
    exact hq D' d o7 hF h81
  | succ r ih =>
    intro d n b D' o7 h1 h2 h3 h4 hb hF h81 hq
    have he' : D' 96 = A := by rw [hF 96 (by decide)]; exact he
    have vd := (wd d h2 (by omega)).2.2.2
    have bd := hb d h2 (by omega)
    rw [seg210_6 (ha0 := ho95), cnB (by omega)]
    simp only [Nat.reduceAdd]
    rw [he', brF (c := A 1 ≤ d) (by omega)]
    by_cases c0 : n ≤ 0
    · have e : n = 0 := by omega
      rw [e, jgC_0 (r + 1) d b (fun j j1 j2 => (hb j (by omega) (by omega)).1)] at hq
      rw [e, brT (by decide)]
      exact hq D' d o7 hF h81
    · rw [brF c0, cnX (by omega), cnX (by omega), cnX (by omega), cnB (by omega), H (150 + 4 * d + 3) (by omega)]
      simp only [jgC] at hq
      have nx : ∀ (D2 : xD) (n' : Int) (b' : Int → Int) (o7 : Option xv), 0 ≤ n' → n' ≤ 100000 → (∀ d, 0 ≤ d → d < T 1 → 0 ≤ b' d ∧ b' d ≤ 30) → (∀ a, a ≠ 115 → D2 a = D a) → (∀ d, 0 ≤ d → d < T 1 → D2 115 d = b' d) → (∀ (D'' : xD) (u6 : Int) (o7 : Option xv), (∀ a, a ≠ 115 → D'' a = D a) → (∀ j, 0 ≤ j → j < T 1 → D'' 115 j = (jgC T x1 x2 x4 r (d + 1) n' b').2 j) → WP 124 xF1 none 210 107 [some (.inr (.inr (some 95))), some (.inl x1), some (.inl x2), some (.inl x3), some (.inl x4), some (.inl (jgC T x1 x2 x4 r (d + 1) n' b').1), some (.inl u6), o7] [] D'' Q) → WP 124 xF1 none 210 101 [some (.inr (.inr (some 95))), some (.inl x1), some (.inl x2), some (.inl x3), some (.inl x4), some (.inl n'), some (.inl d), o7] [] D2 Q := by
        intro D2 n' b' o7 k1 k2 k3 k4 k5 hq2
        rw [seg210_101 (ha0 := ho95), cnX (by omega)]
        exact ih (d + 1) n' b' D2 o7 (by omega) (by omega) k1 k2 k3 k4 k5 hq2
      by_cases c2 : T (150 + 4 * d + 3) = x4
      · rw [brF (c := T (150 + 4 * d + 3) ≠ x4) (fun z => z c2), m209 H he' (by omega), h81 d h2 (by omega)]
        simp only [Option.toList_some, Option.toList_none, List.cons_append, List.nil_append]
        rw [seg210_50 (ha0 := ho95)]
        by_cases c1 : T (150 + 4 * d) = x1 ∧ T (150 + 4 * d + 1) ≤ x2
        · rw [if_pos ⟨c1.1, c1.2, c2⟩] at hq
          have bb : ∀ j, 0 ≤ j → j < T 1 → 0 ≤ (fun j => if j = d then b d - min n (b d) else b j) j ∧ (fun j => if j = d then b d - min n (b d) else b j) j ≤ 30 := fun j j1 j2 => by
            show 0 ≤ (if j = d then b d - min n (b d) else b j) ∧ (if j = d then b d - min n (b d) else b j) ≤ 30
            have := hb j j1 j2
            split <;> omega
          by_cases c3 : 0 < b d
          · rw [if_pos ⟨c1.1, c1.2, c3⟩, brT (by decide), cnB (by omega)]
            simp only [Nat.reduceAdd]
            rw [h81 d h2 (by omega)]
            have go : ∀ v : Int, v = min n (b d) → WP 124 xF1 none 210 80 [some (.inr (.inr (some 95))), some (.inl x1), some (.inl x2), some (.inl x3), some (.inl x4), some (.inl n), some (.inl d), o7] [.inl v] D' Q := by
              intro v hv
              rw [seg210_80 (ha0 := ho95), cnB (by omega)]
              simp only [Nat.reduceAdd]
              rw [h81 d h2 (by omega), cnX (by omega), cnB (by omega), cnX (by omega), hv]
              refine nx _ _ _ _ (by omega) (by omega) bb (fun a a1 => by rw [up_ne a1]; exact hF a a1) (fun j j1 j2 => ?_) hq
              rw [up_at]
              show _ = if j = d then b d - min n (b d) else b j
              by_cases e : j = d
              · rw [if_pos e, if_pos e]
              · rw [if_neg e, if_neg e]; exact h81 j j1 j2
            by_cases c4 : n ≤ b d
            · rw [brT c4]; exact go n (by omega)
            · rw [brF c4, cnB (by omega)]; exact go (b d) (by omega)
          · rw [if_neg (fun z => c3 z.2.2), brF (by decide)]
            have key := nx D' (n - min n (b d)) (fun j => if j = d then b d - min n (b d) else b j) o7 (by omega) (by omega) bb hF (fun j j1 j2 => by
              show _ = if j = d then b d - min n (b d) else b j
              rw [h81 j j1 j2]
              by_cases e : j = d
              · rw [if_pos e, e]; omega
              · rw [if_neg e]) hq
            rw [show n - min n (b d) = n by omega] at key
            exact key
        · rw [if_neg (fun z => c1 ⟨z.1, z.2.1⟩), brF (by decide)]
          rw [if_neg (fun z => c1 ⟨z.1, z.2.1⟩)] at hq
          exact nx D' n b o7 h3 h4 hb hF h81 hq
      · rw [brT (c := T (150 + 4 * d + 3) ≠ x4) c2]
        rw [if_neg (fun z => c2 z.2.2)] at hq
        exact nx D' n b o7 h3 h4 hb hF h81 hq
theorem m210 (hT : tnW T) (H : tnM A T) (he : D 96 = A) (hx4 : x4 = 0 ∨ x4 = 1) (hx3 : 0 ≤ x3 ∧ x3 ≤ 100000) (hb : ∀ d, 0 ≤ d → d < T 1 → 0 ≤ b d ∧ b d ≤ 30) (h81 : ∀ d, 0 ≤ d → d < T 1 → D 115 d = b d)
    (hq : ∀ D'' : xD, (∀ a, a ≠ 115 → D'' a = D a) → (∀ j, 0 ≤ j → j < T 1 → D'' 115 j = (jgC T x1 x2 x4 (T 1).toNat 0 x3 b).2 j) → Q (some (.inl (if 0 < (jgC T x1 x2 x4 (T 1).toNat 0 x3 b).1 then 0 else 1))) D'') :
    WP 124 xF1 none 210 0 [some (.inr (.inr (some 95))), some (.inl x1), some (.inl x2), some (.inl x3), some (.inl x4), none, none, none] [] D Q := by
  rw [seg210_0 (ha0 := ho95)]
  refine l210 (D := D) hT H he hx4 (T 1).toNat 0 x3 b D _ (by have := hT.1; omega) (by omega) hx3.1 hx3.2 hb (fun _ _ => rfl) h81 (fun D1 u6 o7 f1 f2 => ?_)
  have fin := hq D1 f1 f2
  rw [seg210_107 (ha0 := ho95)]
  by_cases c : 0 < (jgC T x1 x2 x4 (T 1).toNat 0 x3 b).1
  · rw [if_pos c] at fin
    rw [brT c, seg210_117 (ha0 := ho95), cnT (.inl rfl)]
    exact fin
  · rw [if_neg c] at fin
    rw [brF c, seg210_117 (ha0 := ho95), cnT (.inr rfl)]
    exact fin
/-- leave: who come, who enter, out of doors what is lacking -/
theorem m211 (hT : tnW T) (H : tnM A T) (he : D 96 = A) (hA : jgW A T) (hp : 0 ≤ x1 ∧ x1 < 8) (hk : 0 ≤ x2 ∧ x2 ≤ 12) (hx3 : x3 = 0 ∨ x3 = 1) (ht : told = if x3 = 1 then 430 else 220) {th cm : Int} (hth : D 114 (x1 + 8 * x3) = th) (hcm : D 116 (13 * (x1 + 8 * x3) + x2) = cm) (bth : 0 ≤ th ∧ th ≤ 95000) (bcm : 0 ≤ cm ∧ cm ≤ 1000) (hb : ∀ d, 0 ≤ d → d < T 1 → 0 ≤ b d ∧ b d ≤ 30) (h81 : ∀ d, 0 ≤ d → d < T 1 → D 115 d = b d) {c : Int × (Int → Int)} (hc : c = jgC T x1 x2 x3 (T 1).toNat 0 (max 0 (jgE A T told x2 x1 - (th + cm))) b)
    (q1 : ¬ 0 < c.1 → ∀ D'' : xD, (∀ a, a ≠ 114 → a ≠ 115 → D'' a = D a) → (∀ j, D'' 114 j = if j = x1 + 8 * x3 then max 0 (th + cm - jgE A T told x2 x1) else D 114 j) → (∀ j, 0 ≤ j → j < T 1 → D'' 115 j = c.2 j) → Q (some (.inl 1)) D'')
    (q0 : 0 < c.1 → ∀ D'' : xD, (∀ a, a ≠ 114 → a ≠ 115 → D'' a = D a) → Q (some (.inl 0)) D'') :
    WP 124 xF1 none 211 0 [some (.inr (.inr (some 95))), some (.inl x1), some (.inl x2), some (.inl x3), none, none] [] D Q := by
  have w := hT.1
  have ht' : told = 220 ∨ told = 430 := by rw [ht]; split <;> simp
  have eb := jgE_bd (p := x1) (told := told) hT hA hk ht'
  rw [seg211_0 (ha0 := ho95), cnX (by omega), cnX (by omega), cnB (by omega), cnX (by omega), cnX (by omega), cnB (by omega)]
  simp only [Nat.reduceAdd]
  rw [hth, hcm, cnX (by omega), cnB (by omega)]
  obtain ⟨D1, hD1⟩ : ∃ D1, D1 = xup D 114 (x1 + 8 * x3) (th + cm) := ⟨_, rfl⟩
  rw [← hD1]
  have g0 : ∀ a, a ≠ 114 → D1 a = D a := fun a ha => by rw [hD1, up_ne ha]
  have g114 : ∀ j, D1 114 j = if j = x1 + 8 * x3 then th + cm else D 114 j := fun j => by rw [hD1, up_at]
  clear hD1
  have he1 : D1 96 = A := by rw [g0 96 (by decide)]; exact he
  have v114 : D1 114 (x1 + 8 * x3) = th + cm := by rw [g114, if_pos rfl]
  have last : ∀ (D2 : xD), (∀ a, a ≠ 114 → a ≠ 115 → D2 a = D a) → (∀ j, j ≠ x1 + 8 * x3 → D2 114 j = D 114 j) → (D2 114 (x1 + 8 * x3) - jgE A T told x2 x1 = max 0 (th + cm - jgE A T told x2 x1)) → (∀ j, 0 ≤ j → j < T 1 → D2 115 j = c.2 j) → ¬ 0 < c.1 → WP 124 xF1 none 211 95 [some (.inr (.inr (some 95))), some (.inl x1), some (.inl x2), some (.inl x3), some (.inl (x1 + 8 * x3)), some (.inl (jgE A T told x2 x1))] [] D2 Q := by
    intro D2 f0 f1 f2 f3 hn
    rw [seg211_95 (ha0 := ho95), cnB (by omega)]
    simp only [Nat.reduceAdd]
    rw [f2, cnX (by omega), cnB (by omega)]
    refine q1 hn _ (fun a a1 a2 => by rw [up_ne a1]; exact f0 a a1 a2) (fun j => ?_) (fun j j1 j2 => by rw [up_ne (by decide)]; exact f3 j j1 j2)
    rw [up_at]
    by_cases e : j = x1 + 8 * x3
    · rw [if_pos e, if_pos e]
    · rw [if_neg e, if_neg e]; exact f1 j e
  have go : WP 124 xF1 none 211 47 [some (.inr (.inr (some 95))), some (.inl x1), some (.inl x2), some (.inl x3), some (.inl (x1 + 8 * x3)), none] [.inl told, .inl x2, .inl x1, .inr (.inr (some 95))] D1 Q := by
    rw [seg211_47 (ha0 := ho95) (hb3 := ho95), m208 hT H he1 hA hk ht']
    simp only [Option.toList_some, Option.toList_none, List.cons_append, List.nil_append]
    rw [seg211_50 (ha0 := ho95), cnB (by omega)]
    simp only [Nat.reduceAdd]
    rw [v114]
    by_cases cg : jgE A T told x2 x1 ≤ th + cm
    · rw [brT cg]
      have e0 : max 0 (jgE A T told x2 x1 - (th + cm)) = 0 := by omega
      rw [e0, jgC_0 (T 1).toNat 0 b (fun j j1 j2 => (hb j j1 (by omega)).1)] at hc
      refine last D1 (fun a a1 _ => g0 a a1) (fun j hj => by rw [g114, if_neg hj]) (by rw [v114]; omega) (fun j j1 j2 => by rw [g0 115 (by decide), hc]; exact h81 j j1 j2) (by rw [hc]; exact Int.lt_irrefl 0)
    · have e0 : max 0 (jgE A T told x2 x1 - (th + cm)) = jgE A T told x2 x1 - (th + cm) := by omega
      rw [e0] at hc
      rw [brF cg, cnB (by omega), cnX (by omega)]
      refine m210 (b := b) hT H he1 hx3 (by omega) hb (fun j j1 j2 => by rw [g0 115 (by decide)]; exact h81 j j1 j2) (fun D2 f1 f2 => ?_)
      rw [← hc] at f2 ⊢
      simp only [Option.toList_some, Option.toList_none, List.cons_append, List.nil_append]
      rw [seg211_81 (ha0 := ho95)]
      by_cases cc : 0 < c.1
      · rw [if_pos cc, brF (by decide)]
        exact q0 cc D2 (fun a a1 a2 => by rw [f1 a a2]; exact g0 a a1)
      · rw [if_neg cc, brT (by decide), cnB (by omega)]
        simp only [Nat.reduceAdd]
        refine last _ (fun a a1 a2 => by rw [up_ne a1, f1 a a2]; exact g0 a a1) (fun j hj => by rw [up_ne2 hj, f1 114 (by decide), g114, if_neg hj]) (by rw [up_eq]; omega) (fun j j1 j2 => by rw [up_ne (by decide)]; exact f2 j j1 j2) cc
  rcases hx3 with e | e
  · rw [if_neg (by omega)] at ht
    rw [brT (c := x3 ≠ 1) (by omega), ← ht]; exact go
  · rw [if_pos e] at ht
    rw [brF (c := x3 ≠ 1) (fun z => z e), ← ht]; exact go
theorem m212 (hp : 0 ≤ x1 ∧ x1 < 8) (hk : 0 ≤ x3 ∧ x3 ≤ 12) (h2 : 0 ≤ x2 ∧ x2 ≤ 100000) (hz : 0 ≤ D 117 x1 ∧ D 117 x1 ≤ 99) (ho : 0 ≤ D 118 x3 ∧ D 118 x3 ≤ 500000) (hu : 0 ≤ D 119 x3 ∧ D 119 x3 ≤ 500000)
    (hq : ∀ D'' : xD, (∀ a, a ≠ 117 → a ≠ 118 → a ≠ 119 → D'' a = D a) → (∀ j, D'' 117 j = if j = x1 then D 117 x1 - min x2 (D 117 x1) else D 117 j) → (∀ j, D'' 118 j = if j = x3 then D 118 x3 + min x2 (D 117 x1) else D 118 j) → (∀ j, D'' 119 j = if j = x3 then D 119 x3 + (if x4 = 1 then min x2 (D 117 x1) else 0) else D 119 j) → Q (some (.inl (min x2 (D 117 x1)))) D'') :
    WP 124 xF1 none 212 0 [some (.inr (.inr (some 95))), some (.inl x1), some (.inl x2), some (.inl x3), some (.inl x4), none] [] D Q := by
  rw [seg212_0 (ha0 := ho95), cnB (by omega)]
  simp only [Nat.reduceAdd]
  have go : ∀ v : Int, v = min x2 (D 117 x1) → WP 124 xF1 none 212 20 [some (.inr (.inr (some 95))), some (.inl x1), some (.inl x2), some (.inl x3), some (.inl x4), none] [.inl v] D Q := by
    intro v hv
    rw [← hv] at hq
    rw [seg212_20 (ha0 := ho95), cnB (by omega)]
    simp only [Nat.reduceAdd]
    rw [cnX (by omega), cnB (by omega), cnB (by omega), cnX (by omega), cnB (by omega)]
    by_cases c : x4 = 1
    · rw [brF (c := x4 ≠ 1) (fun z => z c), cnB (by omega), cnX (by omega), cnB (by omega), seg212_61 (ha0 := ho95)]
      refine hq _ (fun a a1 a2 a3 => by rw [up_ne a3, up_ne a2, up_ne a1]) (fun j => by rw [up_ne (by decide), up_ne (by decide), up_at]) (fun j => by rw [up_ne (by decide), up_at, up_ne (by decide)]) (fun j => by rw [up_at, up_ne (by decide), up_ne (by decide), if_pos c])
    · rw [brT (c := x4 ≠ 1) c, seg212_61 (ha0 := ho95)]
      refine hq _ (fun a a1 a2 a3 => by rw [up_ne a2, up_ne a1]) (fun j => by rw [up_ne (by decide), up_at]) (fun j => by rw [up_at, up_ne (by decide)]) (fun j => ?_)
      rw [up_ne (by decide), up_ne (by decide), if_neg c, Int.add_zero]
      by_cases e : j = x3
      · rw [if_pos e, e]
      · rw [if_neg e]
  by_cases c : D 117 x1 ≤ x2
  · rw [brT c, cnB (by omega)]; exact go _ (by omega)
  · rw [brF c]; exact go _ (by omega)
def jmF (D' D : xD) : Prop := ∀ a, a ≠ 114 → a ≠ 115 → a ≠ 117 → a ≠ 118 → a ≠ 119 → D' a = D a
theorem l213 (hT : tnW T) (H : tnM A T) (he : D 96 = A) (hp : 0 ≤ x1 ∧ x1 < 8) (hk : 0 ≤ x2 ∧ x2 ≤ 12) : ∀ (r : Nat) (d z : Int) (b : Int → Int) (o u : Int) (D' : xD), T 1 = d + r → 0 ≤ d → (0 ≤ z ∧ z ≤ 99) → (0 ≤ o ∧ o + z ≤ 400000) → (0 ≤ u ∧ u + z ≤ 400000) → (∀ d, 0 ≤ d → d < T 1 → 0 ≤ b d ∧ b d ≤ 30) → (∀ a, a ≠ 115 → a ≠ 117 → a ≠ 118 → a ≠ 119 → D' a = D a) → (∀ j, j ≠ x1 → D' 117 j = D 117 j) → (∀ j, j ≠ x2 → D' 118 j = D 118 j ∧ D' 119 j = D 119 j) → D' 117 x1 = z → (∀ d, 0 ≤ d → d < T 1 → D' 115 d = b d) → D' 118 x2 = o → D' 119 x2 = u →
    (∀ D'' : xD, (∀ a, a ≠ 115 → a ≠ 117 → a ≠ 118 → a ≠ 119 → D'' a = D a) → (∀ j, j ≠ x1 → D'' 117 j = D 117 j) → (∀ j, j ≠ x2 → D'' 118 j = D 118 j ∧ D'' 119 j = D 119 j) → D'' 117 x1 = (jgG T x1 x2 r d z b o u).1 → (∀ j, 0 ≤ j → j < T 1 → D'' 115 j = (jgG T x1 x2 r d z b o u).2.1 j) → D'' 118 x2 = (jgG T x1 x2 r d z b o u).2.2.1 → D'' 119 x2 = (jgG T x1 x2 r d z b o u).2.2.2 → Q none D'') →
    WP 124 xF1 none 213 52 [some (.inr (.inr (some 95))), some (.inl x1), some (.inl x2), some (.inl d)] [] D' Q := by
  obtain ⟨⟨w0, w1, w2, w3⟩, ws, wd, -⟩ := id hT
  have e1 : A 1 = T 1 := H 1 (by decide)
  intro r
  induction r with
  | zero =>
    intro d z b o u D' h1 h2 hz ho hu hb hF h117 h118 k117 h81 k118 k119 hq
    rw [seg213_52 (ha0 := ho95), cnB (by omega)]
    simp only [Nat.reduceAdd]
    rw [hF 96 (by decide) (by decide) (by decide) (by decide), he, brT (c := A 1 ≤ d) (by omega)]
    exact hq D' hF h117 h118 k117 h81 k118 k119
  | succ r ih =>
    intro d z b o u D' h1 h2 hz ho hu hb hF h117 h118 k117 h81 k118 k119 hq
    have he' : D' 96 = A := by rw [hF 96 (by decide) (by decide) (by decide) (by decide)]; exact he
    have vd := (wd d h2 (by omega)).2.2.2
    have bd := hb d h2 (by omega)
    rw [seg213_52 (ha0 := ho95), cnB (by omega)]
    simp only [Nat.reduceAdd]
    rw [he', brF (c := A 1 ≤ d) (by omega), m209 H he' (by omega), h81 d h2 (by omega)]
    simp only [Option.toList_some, Option.toList_none, List.cons_append, List.nil_append]
    rw [seg213_69 (ha0 := ho95)]
    simp only [jgG] at hq
    by_cases c1 : T (150 + 4 * d) = x1 ∧ T (150 + 4 * d + 1) ≤ x2
    · rw [if_pos c1] at hq
      have bb : ∀ j, 0 ≤ j → j < T 1 → 0 ≤ (fun j => if j = d then b d - min (b d) z else b j) j ∧ (fun j => if j = d then b d - min (b d) z else b j) j ≤ 30 := fun j j1 j2 => by
        show 0 ≤ (if j = d then b d - min (b d) z else b j) ∧ (if j = d then b d - min (b d) z else b j) ≤ 30
        have := hb j j1 j2
        split <;> omega
      have eub : 0 ≤ (if T (150 + 4 * d + 3) = 1 then min (b d) z else 0) ∧ (if T (150 + 4 * d + 3) = 1 then min (b d) z else 0) ≤ min (b d) z := by split <;> omega
      by_cases c3 : 0 < b d
      · rw [if_pos ⟨c1.1, c1.2, c3⟩, brF (by decide), cnB (by omega), cnB (by omega), cnX (by omega), cnX (by omega), cnX (by omega), cnB (by omega)]
        simp only [Nat.reduceAdd]
        rw [h81 d h2 (by omega), he', H (150 + 4 * d + 3) (by omega)]
        refine m212 hp hk (by omega) (by rw [k117]; omega) (by rw [k118]; omega) (by rw [k119]; omega) (fun D2 f0 f1 f2 f3 => ?_)
        rw [k117] at f1 f2 f3 ⊢
        rw [k118] at f2
        rw [k119] at f3
        simp only [Option.toList_some, Option.toList_none, List.cons_append, List.nil_append]
        rw [seg213_105 (ha0 := ho95) (hb3 := hl115), cnX (by omega), cnB (by omega), seg213_107 (ha0 := ho95), cnX (by omega)]
        refine ih (d + 1) _ (fun j => if j = d then b d - min (b d) z else b j) (o + min (b d) z) (u + if T (150 + 4 * d + 3) = 1 then min (b d) z else 0) _ (by omega) (by omega) (by omega) (by omega) (by omega) bb (fun a a1 a2 a3 a4 => by rw [up_ne a1, f0 a a2 a3 a4]; exact hF a a1 a2 a3 a4) (fun j hj => by rw [up_ne (by decide), f1, if_neg hj]; exact h117 j hj) (fun j hj => by rw [up_ne (by decide), up_ne (by decide), f2, f3, if_neg hj, if_neg hj]; exact h118 j hj) (by rw [up_ne (by decide), f1, if_pos rfl]) (fun j j1 j2 => ?_) (by rw [up_ne (by decide), f2, if_pos rfl]) (by rw [up_ne (by decide), f3, if_pos rfl]) hq
        rw [up_at, f0 115 (by decide) (by decide) (by decide)]
        show _ = if j = d then b d - min (b d) z else b j
        by_cases e : j = d
        · rw [if_pos e, if_pos e]
        · rw [if_neg e, if_neg e]; exact h81 j j1 j2
      · rw [if_neg (fun z => c3 z.2.2), brT rfl, seg213_107 (ha0 := ho95), cnX (by omega)]
        refine ih (d + 1) (z - min (b d) z) (fun j => if j = d then b d - min (b d) z else b j) (o + min (b d) z) (u + if T (150 + 4 * d + 3) = 1 then min (b d) z else 0) D' (by omega) (by omega) (by omega) (by omega) (by omega) bb hF h117 h118 (by omega) (fun j j1 j2 => ?_) (by omega) (by omega) hq
        show _ = if j = d then b d - min (b d) z else b j
        rw [h81 j j1 j2]
        by_cases e : j = d
        · rw [if_pos e, e]; omega
        · rw [if_neg e]
    · rw [if_neg c1] at hq
      rw [if_neg (fun z => c1 ⟨z.1, z.2.1⟩), brT rfl, seg213_107 (ha0 := ho95), cnX (by omega)]
      exact ih (d + 1) z b o u D' (by omega) (by omega) hz ho hu hb hF h117 h118 k117 h81 k118 k119 hq
theorem m213 (hT : tnW T) (H : tnM A T) (he : D 96 = A) (hp : 0 ≤ x1 ∧ x1 < 8) (hk : 0 ≤ x2 ∧ x2 ≤ 12) {th st z o u n1 n2 : Int} (v1 : D 114 x1 = th) (v2 : D 114 (x1 + 8) = st) (v3 : D 117 x1 = z) (v4 : D 118 x2 = o) (v5 : D 119 x2 = u) (hth : 0 ≤ th ∧ th ≤ 100000) (hst : 0 ≤ st ∧ st ≤ 100000) (hz : 0 ≤ z ∧ z ≤ 99) (ho : 0 ≤ o ∧ o ≤ 300000) (hu : 0 ≤ u ∧ u ≤ 300000) (hb : ∀ d, 0 ≤ d → d < T 1 → 0 ≤ b d ∧ b d ≤ 30) (h81 : ∀ d, 0 ≤ d → d < T 1 → D 115 d = b d) (e1 : n1 = min th z) (e2 : n2 = min st (z - n1)) {g : Int × (Int → Int) × Int × Int} (eg : g = jgG T x1 x2 (T 1).toNat 0 (z - n1 - n2) b (o + n1 + n2) (u + n2))
    (hq : ∀ D'' : xD, jmF D'' D → (∀ j, D'' 114 j = if j = x1 then th - n1 else if j = x1 + 8 then st - n2 else D 114 j) → (∀ j, D'' 117 j = if j = x1 then g.1 else D 117 j) → (∀ j, 0 ≤ j → j < T 1 → D'' 115 j = g.2.1 j) → (∀ j, D'' 118 j = if j = x2 then g.2.2.1 else D 118 j) → (∀ j, D'' 119 j = if j = x2 then g.2.2.2 else D 119 j) → Q none D'') :
    WP 124 xF1 none 213 0 [some (.inr (.inr (some 95))), some (.inl x1), some (.inl x2), none] [] D Q := by
  rw [seg213_0 (ha0 := ho95), cnB (by omega), cnB (by omega)]
  simp only [Nat.reduceAdd]
  rw [v1]
  refine m212 hp hk hth (by rw [v3]; exact hz) (by rw [v4]; omega) (by rw [v5]; omega) (fun D1 f0 f1 f2 f3 => ?_)
  rw [v3, ← e1] at f1 f2 f3 ⊢
  rw [v4] at f2
  rw [v5, if_neg (by decide), Int.add_zero] at f3
  simp only [Option.toList_some, Option.toList_none, List.cons_append, List.nil_append]
  rw [seg213_20 (ha0 := ho95) (hb3 := hl114), cnX (by omega), cnB (by omega), cnX (by omega), cnB (by omega), cnX (by omega), cnB (by omega)]
  simp only [Nat.reduceAdd]
  have r8 : (xup D1 114 x1 (th - n1)) 114 (x1 + 8) = st := by rw [up_ne2 (by omega), f0 114 (by decide) (by decide) (by decide), v2]
  have r117 : (xup D1 114 x1 (th - n1)) 117 x1 = z - n1 := by rw [up_ne (by decide), f1, if_pos rfl]
  have r118 : (xup D1 114 x1 (th - n1)) 118 x2 = o + n1 := by rw [up_ne (by decide), f2, if_pos rfl]
  have r119 : (xup D1 114 x1 (th - n1)) 119 x2 = u := by rw [up_ne (by decide), f3, if_pos rfl]
  rw [r8]
  refine m212 hp hk hst (by rw [r117]; omega) (by rw [r118]; omega) (by rw [r119]; omega) (fun D2 k0 k1 k2 k3 => ?_)
  rw [r117, ← e2] at k1 k2 k3 ⊢
  rw [r118] at k2
  rw [r119, if_pos rfl] at k3
  simp only [Option.toList_some, Option.toList_none, List.cons_append, List.nil_append]
  rw [seg213_48 (ha0 := ho95) (hb3 := hl114), cnX (by omega), cnB (by omega)]
  obtain ⟨D3, hD3⟩ : ∃ D3, D3 = xup D2 114 (x1 + 8) (st - n2) := ⟨_, rfl⟩
  rw [← hD3]
  have s0 : ∀ a, a ≠ 114 → a ≠ 117 → a ≠ 118 → a ≠ 119 → D3 a = D a := fun a a1 a2 a3 a4 => by rw [hD3, up_ne a1, k0 a a2 a3 a4, up_ne a1, f0 a a2 a3 a4]
  have s114 : ∀ j, D3 114 j = if j = x1 then th - n1 else if j = x1 + 8 then st - n2 else D 114 j := fun j => by
    rw [hD3, up_at, k0 114 (by decide) (by decide) (by decide), up_at, f0 114 (by decide) (by decide) (by decide)]
    by_cases c1 : j = x1
    · rw [if_neg (by omega), if_pos c1, if_pos c1]
    · by_cases c2 : j = x1 + 8
      · rw [if_pos c2, if_neg c1, if_pos c2]
      · rw [if_neg c2, if_neg c1, if_neg c1, if_neg c2]
  have s117 : ∀ j, D3 117 j = if j = x1 then z - n1 - n2 else D 117 j := fun j => by
    rw [hD3, up_ne (by decide), k1]
    by_cases c : j = x1
    · rw [if_pos c, if_pos c]
    · rw [if_neg c, if_neg c, up_ne (by decide), f1, if_neg c]
  have s118 : ∀ j, D3 118 j = if j = x2 then o + n1 + n2 else D 118 j := fun j => by
    rw [hD3, up_ne (by decide), k2]
    by_cases c : j = x2
    · rw [if_pos c, if_pos c]
    · rw [if_neg c, if_neg c, up_ne (by decide), f2, if_neg c]
  have s119 : ∀ j, D3 119 j = if j = x2 then u + n2 else D 119 j := fun j => by
    rw [hD3, up_ne (by decide), k3]
    by_cases c : j = x2
    · rw [if_pos c, if_pos c]
    · rw [if_neg c, if_neg c, up_ne (by decide), f3, if_neg c]
  clear hD3
  refine l213 (D := D3) hT H (by rw [s0 96 (by decide) (by decide) (by decide) (by decide)]; exact he) hp hk (T 1).toNat 0 (z - n1 - n2) b (o + n1 + n2) (u + n2) D3 (by have := hT.1; omega) (by omega) (by omega) (by omega) (by omega) hb (fun _ _ _ _ _ => rfl) (fun _ _ => rfl) (fun _ _ => ⟨rfl, rfl⟩) (by rw [s117, if_pos rfl]) (fun d d1 d2 => by rw [s0 115 (by decide) (by decide) (by decide) (by decide)]; exact h81 d d1 d2) (by rw [s118, if_pos rfl]) (by rw [s119, if_pos rfl]) (fun D4 t0 t1 t2 t3 t4 t5 t6 => ?_)
  rw [← eg] at t3 t4 t5 t6
  refine hq D4 (fun a a1 a2 a3 a4 a5 => by rw [t0 a a2 a3 a4 a5, s0 a a1 a3 a4 a5]) (fun j => by rw [t0 114 (by decide) (by decide) (by decide) (by decide), s114]) (fun j => ?_) t4 (fun j => ?_) (fun j => ?_)
  · by_cases c : j = x1
    · rw [if_pos c, c, t3]
    · rw [if_neg c, t1 j c, s117, if_neg c]
  · by_cases c : j = x2
    · rw [if_pos c, c, t5]
    · rw [if_neg c, (t2 j c).1, s118, if_neg c]
  · by_cases c : j = x2
    · rw [if_pos c, c, t6]
    · rw [if_neg c, (t2 j c).2, s119, if_neg c]
end M66
