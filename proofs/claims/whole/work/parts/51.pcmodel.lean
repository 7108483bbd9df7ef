/-! piece: the model, and the pair -/
def pmFr (D' D : xD) : Prop := (∀ a, a ≠ 95 → a ≠ 112 → a ≠ 113 → D' a = D a) ∧ ∀ i, i ≠ 32 → i ≠ 33 → i ≠ 34 → D' 95 i = D 95 i
section M51
variable {K : (Int → Int) → (Int → Int) → (Int → Int) → (Int → Int) → (Int → Int) → (Int → Int) → (Int → Int) → (Int → Int) → Prop}
variable {x0 x1 x2 x3 x4 x5 x6 s t p m i j : Int} {D D' : xD} {A f g : Int → Int} {Q : Option xv → xD → Prop}
theorem l205a {k0 : Nat} (h0 : D 96 0 = A 0) (hA : pcOk A) (ha : pcAg (D 112) f) (ht : 0 ≤ t ∧ t ≤ 12) : ∀ (k : Nat) (q : Int), A 0 = q + k → 0 ≤ q → (∀ u : Int, WP 124 xF1 none 205 52 [some (.inr (.inr (some 95))), some (.inl (fsI (fun s => 0 < f (13 * s + t)) q k)), some (.inl t), some (.inl u)] [] D Q) → WP 124 xF1 none 205 16 [some (.inr (.inr (some 95))), some (.inl (-1)), some (.inl t), some (.inl q)] [] D Q := by
  have w0 := hA.1
  intro k
  induction k with
  | zero =>
    intro q h1 h2 hc
    rw [seg205_16 (ha0 := ho95), cnB (by omega)]
    simp only [Nat.reduceAdd]
    rw [brT (c := D 96 0 ≤ q) (by omega)]
    exact hc q
  | succ k ih =>
    intro q h1 h2 hc
    rw [seg205_16 (ha0 := ho95), cnB (by omega)]
    simp only [Nat.reduceAdd]
    rw [brF (c := D 96 0 ≤ q) (by omega), brF (c := (0 : Int) ≤ -1) (by decide), cnX (by omega), cnX (by omega), cnB (by omega), ha _ (by omega) (by omega)]
    simp only [fsI] at hc
    by_cases c : 0 < f (13 * q + t)
    · rw [if_pos c] at hc
      rw [brF (c := f (13 * q + t) ≤ 0) (by omega), seg205_46 (ha0 := ho95), cnX (by omega), seg205_16 (ha0 := ho95), cnB (by omega)]
      by_cases c2 : D 96 0 ≤ q + 1
      · simp only [Nat.reduceAdd]
        rw [brT c2]; exact hc _
      · simp only [Nat.reduceAdd]
        rw [brF c2, brT h2]; exact hc _
    · rw [if_neg c] at hc
      rw [brT (c := f (13 * q + t) ≤ 0) (by omega), seg205_46 (ha0 := ho95), cnX (by omega)]
      exact ih (q + 1) (by omega) (by omega) hc
theorem l205b (h0 : D 96 0 = A 0) (hA : pcOk A) (ha : pcAg (D 112) f) : ∀ (k : Nat) (t : Int) (o3 : Option xv) (D' : xD), 13 = t + k → 0 ≤ t → (∀ a, a ≠ 95 → D' a = D a) → (∀ i, i ≠ 34 → D' 95 i = D 95 i) → (fsI (fun t => pcA A f t ≠ -1) t k = -1 → ∀ (D'' : xD) (u2 : Int) (o3 : Option xv), (∀ a, a ≠ 95 → D'' a = D a) → (∀ i, i ≠ 34 → D'' 95 i = D 95 i) → WP 124 xF1 none 205 63 [some (.inr (.inr (some 95))), some (.inl (-1)), some (.inl u2), o3] [] D'' Q) → (fsI (fun t => pcA A f t ≠ -1) t k ≠ -1 → ∀ (D'' : xD) (u2 : Int) (o3 : Option xv), (∀ a, a ≠ 95 → D'' a = D a) → (∀ i, i ≠ 34 → D'' 95 i = D 95 i) → D'' 95 34 = fsI (fun t => pcA A f t ≠ -1) t k → WP 124 xF1 none 205 63 [some (.inr (.inr (some 95))), some (.inl (pcA A f (fsI (fun t => pcA A f t ≠ -1) t k))), some (.inl u2), o3] [] D'' Q) → WP 124 xF1 none 205 4 [some (.inr (.inr (some 95))), some (.inl (-1)), some (.inl t), o3] [] D' Q := by
  have w0 := hA.1
  intro k
  induction k with
  | zero =>
    intro t o3 D' h1 h2 hF h95 hn hy
    rw [seg205_4 (ha0 := ho95), brT (c := 12 < t) (by omega)]
    exact hn rfl D' t o3 hF h95
  | succ k ih =>
    intro t o3 D' h1 h2 hF h95 hn hy
    rw [seg205_4 (ha0 := ho95), brF (c := 12 < t) (by omega), brF (c := (0 : Int) ≤ -1) (by decide)]
    refine l205a (k0 := 0) (A := A) (f := f) (by rw [hF 96 (by decide)]; exact h0) hA (by rw [hF 112 (by decide)]; exact ha) (by omega) (A 0).toNat 0 (by omega) (by omega) (fun u => ?_)
    show WP 124 xF1 none 205 52 [some (.inr (.inr (some 95))), some (.inl (pcA A f t)), some (.inl t), some (.inl u)] [] D' Q
    rw [seg205_52 (ha0 := ho95), cnX (by omega)]
    have f1 : ∀ a, a ≠ 95 → xup D' 95 34 t a = D a := fun a ha => by rw [up_ne ha]; exact hF a ha
    have f2 : ∀ i, i ≠ 34 → xup D' 95 34 t 95 i = D 95 i := fun i hi => by rw [up_ne2 hi]; exact h95 i hi
    simp only [fsI] at hn hy
    by_cases c : pcA A f t = -1
    · rw [if_neg (fun q => q c)] at hn hy
      rw [c]
      exact ih (t + 1) _ _ (by omega) (by omega) f1 f2 hn hy
    · rw [if_pos c] at hn hy
      have hp : 0 ≤ pcA A f t := by
        unfold pcA at c ⊢
        rcases fsI_spec (P := fun s => 0 < f (13 * s + t)) (A 0).toNat 0 with ⟨r, -⟩ | ⟨r1, -⟩
        · exact absurd r c
        · exact r1
      have fin := hy (by omega) (xup D' 95 34 t) (t + 1) (some (.inl u)) f1 f2 (by rw [up_eq])
      rw [seg205_4 (ha0 := ho95)]
      by_cases c2 : 12 < t + 1
      · rw [brT c2]; exact fin
      · rw [brF c2, brT hp]; exact fin
theorem m204 (h0 : D 96 0 = A 0) (hA : pcOk A) (he : D 96 = A) (ha : pcAg (D 112) f) (h2 : 0 ≤ x2 ∧ x2 ≤ 12) : WP 124 xF1 none 204 0 [some (.inr (.inr (some 95))), some (.inl x1), some (.inl x2), none] [] D Q = Q (some (.inl (pcX A f x1 x2))) D := by
  have w0 := hA.1
  rw [seg204_0 (ha0 := ho95), l204 (by omega) (A 0).toNat 0 (by omega) (by omega) (by omega)]
  refine cgQ (fsI_congr _ _ (fun j j1 j2 => ?_))
  rw [he, ha _ (by omega) (by omega)]
theorem l205c (hA : pcOk A) (he : D 96 = A) (hf : pcBd f) (h34 : D 95 34 = i) {o3 : Option xv} : ∀ (k : Nat) (s t m p : Int) (D' : xD), 13 ≤ t + k → (s = -1 ∨ ((0 ≤ s ∧ s < A 0) ∧ (0 ≤ t ∧ t ≤ 12))) → 0 ≤ m → m ≤ 13 → (s ≠ -1 → m ≤ t) → pmFr D' D → D' 95 34 = i → D' 95 32 = m → D' 95 33 = p → pcAg (D' 112) f → (∀ (D'' : xD), pmFr D'' D → D'' 95 34 = i → D'' 95 32 = m + (pcL A f k s t).length → D'' 95 33 = pcP f p (pcL A f k s t) → liAt (D'' 113) (pcL A f k s t) m → (∀ j, j < m → D'' 113 j = D' 113 j) → D'' 112 = D' 112 → WP 124 xF1 none 205 190 [some (.inr (.inr (some 95))), some (.inl (-1)), some (.inl i), some (.inl 0)] [] D'' Q) → WP 124 xF1 none 205 85 [some (.inr (.inr (some 95))), some (.inl s), some (.inl t), o3] [] D' Q := by
  have w0 := hA.1
  intro k
  induction k with
  | zero =>
    intro s t m p D' h1 hs m0 m1 m2 hF e34 e2 e4 ha hc
    have es : s = -1 := by
      rcases hs with q | q
      · exact q
      · omega
    subst es
    rw [seg205_85 (ha0 := ho95), brT (by decide), e34]
    exact hc D' hF e34 (by rw [e2]; simp [pcL]) (by rw [e4]; rfl) trivial (fun _ _ => rfl) rfl
  | succ k ih =>
    intro s t m p D' h1 hs m0 m1 m2 hF e34 e2 e4 ha hc
    rw [seg205_85 (ha0 := ho95)]
    simp only [pcL] at hc
    by_cases es : s = -1
    · rw [if_pos es] at hc
      subst es
      rw [brT (by decide), e34]
      exact hc D' hF e34 (by rw [e2]; simp) (by rw [e4]; rfl) trivial (fun _ _ => rfl) rfl
    · have hs' := hs.resolve_left es
      have l := hA.2 s hs'.1.1 hs'.1.2
      have hmt := m2 es
      have b := hf (13 * s + t) (by omega) (by omega)
      rw [if_neg es] at hc
      rw [brF (c := s < 0) (by omega), e2]
      simp only [Nat.reduceAdd]
      rw [cnB (by omega), cnX (by omega), cnX (by omega), cnX (by omega), cnB (by omega), e4, ha _ (by omega) (by omega)]
      rw [cnX (by omega), cnX (by omega), cnB (by omega)]
      have go : ∀ D1 : xD, pmFr D1 D → D1 95 34 = i → D1 95 32 = m + 1 → D1 95 33 = min p (f (13 * s + t)) → (∀ j, D1 113 j = if j = m then s else D' 113 j) → D1 112 = D' 112 → WP 124 xF1 none 205 142 [some (.inr (.inr (some 95))), some (.inl s), some (.inl t), o3] [] D1 Q := by
        intro D1 g1 g34 g2 g4 g113 g112
        have eA : D1 96 = A := by rw [g1.1 96 (by decide) (by decide) (by decide), he]
        rw [seg205_142 (ha0 := ho95)]
        simp only [Nat.reduceAdd]
        rw [eA]
        show xinP (7 * s) ∧ xinP (30 + 7 * s) ∧ xinP (30 + 7 * s + 2) ∧ _ ∧ xinP (t + pcLg A s) ∧ ((t + pcLg A s ≤ 12 → _) ∧ (¬ t + pcLg A s ≤ 12 → _))
        refine ⟨by constructor <;> omega, by constructor <;> omega, by constructor <;> omega, by omega, by constructor <;> omega, ?_⟩
        have nx : WP 124 xF1 none 205 85 [some (.inr (.inr (some 95))), some (.inl (pcNx A f s t)), some (.inl (t + pcLg A s)), o3] [] D1 Q := by
          have hn := pcNx_spec (A := A) (f := f) s t
          refine ih _ _ (m + 1) _ D1 (by omega) ?_ (by omega) (by omega) (fun _ => by omega) g1 g34 g2 g4 (by rw [g112]; exact ha) (fun D'' v1 v34 v2 v3 v5 v6 v7 => ?_)
          · rcases hn with q | ⟨q1, q2, -⟩
            · exact .inl q
            · exact .inr ⟨q1, by omega, q2⟩
          · refine hc D'' v1 v34 (by rw [v2, List.length_cons]; omega) v3 ⟨?_, v5⟩ (fun j hj => ?_) (by rw [v7, g112])
            · rw [v6 m (by omega), g113, if_pos rfl]
            · rw [v6 j (by omega), g113, if_neg (by omega)]
        by_cases c : t + pcLg A s ≤ 12
        · refine ⟨fun _ => ?_, fun q => absurd c q⟩
          rw [n178 (by omega)]
          simp only [Option.toList_some, Option.toList_none, List.cons_append, List.nil_append]
          rw [seg205_175 (ha0 := ho95) (hb1 := ho95)]
          show WP 124 xF1 none 204 0 [some (.inr (.inr (some 95))), some (.inl (toM (D1 96) s)), some (.inl (t + pcLg A s)), none] [] D1 _
          rw [m204 (A := A) (f := f) (by rw [eA]) hA eA (by rw [g112]; exact ha) (by omega), eA]
          simp only [Option.toList_some, Option.toList_none, List.cons_append, List.nil_append]
          rw [seg205_179 (ha0 := ho95)]
          have : pcNx A f s t = pcX A f (toM A s) (t + pcLg A s) := by unfold pcNx; rw [if_neg (by omega)]
          rw [← this]
          exact nx
        · refine ⟨fun q => absurd q c, fun _ => ?_⟩
          rw [seg205_179 (ha0 := ho95)]
          have : pcNx A f s t = -1 := by unfold pcNx; rw [if_pos (by omega)]
          rw [← this]
          exact nx
      by_cases c : p ≤ f (13 * s + t)
      · rw [brT c]
        refine go _ ⟨fun a a1 a2 a3 => ?_, fun q q1 q2 q3 => ?_⟩ ?_ ?_ ?_ (fun q => ?_) ?_
        · rw [up_ne a1, up_ne a3]; exact hF.1 a a1 a2 a3
        · rw [up_ne2 q1, up_ne (by decide)]; exact hF.2 q q1 q2 q3
        · rw [up_ne2 (by decide), up_ne (by decide)]; exact e34
        · rw [up_eq]
        · rw [up_ne2 (by decide), up_ne (by decide), e4]; omega
        · rw [up_ne (by decide), up_at]
        · rw [up_ne (by decide), up_ne (by decide)]
      · rw [brF c]
        refine go _ ⟨fun a a1 a2 a3 => ?_, fun q q1 q2 q3 => ?_⟩ ?_ ?_ ?_ (fun q => ?_) ?_
        · rw [up_ne a1, up_ne a1, up_ne a3]; exact hF.1 a a1 a2 a3
        · rw [up_ne2 q2, up_ne2 q1, up_ne (by decide)]; exact hF.2 q q1 q2 q3
        · rw [up_ne2 (by decide), up_ne2 (by decide), up_ne (by decide)]; exact e34
        · rw [up_ne2 (by decide), up_eq]
        · rw [up_eq]; omega
        · rw [up_ne (by decide), up_ne (by decide), up_at]
        · rw [up_ne (by decide), up_ne (by decide), up_ne (by decide)]
theorem l205d (hA : pcOk A) (he : D 96 = A) (hp : 0 ≤ p ∧ p ≤ 30) (e4 : D 95 33 = p) : ∀ (L : List (Int × Int)) (x2 x3 : Int) (g : Int → Int) (D' : xD), pcW A g p L x2 → 0 ≤ x2 → 0 ≤ x3 → D 95 32 = x3 + L.length → D 95 32 ≤ 13 → liAt (D 113) L x3 → (∀ a, a ≠ 112 → D' a = D a) → pcAg (D' 112) g → (∀ D'' : xD, (∀ a, a ≠ 112 → D'' a = D a) → pcAg (D'' 112) (pcT p L g) → Q (some (.inl 1)) D'') → WP 124 xF1 none 205 190 [some (.inr (.inr (some 95))), some (.inl x1), some (.inl x2), some (.inl x3)] [] D' Q := by
  have w0 := hA.1
  intro L
  induction L with
  | nil =>
    intro x2 x3 g D' hW h3 h4 hn h13 hL hF ha hc
    simp only [List.length_nil] at hn
    rw [seg205_190 (ha0 := ho95), hF 95 (by decide), brT (c := D 95 32 ≤ x3) (by omega)]
    exact hc D' hF ha
  | cons h L ih =>
    intro x2 x3 g D' hW h3 h4 hn h13 hL hF ha hc
    rw [List.length_cons] at hn
    obtain ⟨u1, u2, u3, u4, u5, u6, u7⟩ := hW
    obtain ⟨l1, l2⟩ := hL
    have l := hA.2 h.1 u3.1 u3.2
    have el : D' 96 (30 + 7 * h.1 + 2) = pcLg A h.1 := by rw [hF 96 (by decide), he]; rfl
    rw [seg205_190 (ha0 := ho95), hF 95 (by decide), brF (c := D 95 32 ≤ x3) (by omega)]
    simp only [Nat.reduceAdd]
    rw [hF 113 (by decide), l1, e4, ha _ (by omega) (by omega), el]
    rw [cnB (by omega), cnX (by omega), cnX (by omega), cnB (by omega), cnX (by omega), cnB (by omega), cnB (by omega), cnX (by omega), cnX (by omega), cnX (by omega), cnB (by omega), cnX (by omega), cnX (by omega)]
    refine ih _ _ (fun c => if c = 13 * h.1 + h.2 then g (13 * h.1 + h.2) - p else g c) _ ?_ (by omega) (by omega) (by omega) h13 l2 (fun a ha => by rw [up_ne ha]; exact hF a ha) (fun c c1 c2 => ?_) hc
    · exact pcW_cg L _ (fun c hc => by
        show (if c = 13 * h.1 + h.2 then g (13 * h.1 + h.2) - p else g c) = g c
        rw [if_neg (by omega)]) u7
    · rw [up_at, u1]
      show _ = if c = 13 * h.1 + x2 then g (13 * h.1 + x2) - p else g c
      by_cases e : c = 13 * h.1 + x2
      · rw [if_pos e, if_pos e]
      · rw [if_neg e, if_neg e]; exact ha c c1 c2
/-- the model takes a piece -/
theorem m205 (hA : pcOk A) (he : D 96 = A) (hf : pcBd f) (ha : pcAg (D 112) f)
    (hn : pcB A f = -1 → ∀ D' : xD, pmFr D' D → Q (some (.inl 0)) D')
    (hy : pcB A f ≠ -1 → ∀ D' : xD, pmFr D' D → D' 95 32 = (pcL A f 13 (pcA A f (pcB A f)) (pcB A f)).length → D' 95 33 = pcP f 30 (pcL A f 13 (pcA A f (pcB A f)) (pcB A f)) → D' 95 34 = pcB A f → liAt (D' 113) (pcL A f 13 (pcA A f (pcB A f)) (pcB A f)) 0 → ((pcL A f 13 (pcA A f (pcB A f)) (pcB A f)).length : Int) ≤ 13 → pcAg (D' 112) (pcS A f (pcA A f (pcB A f)) (pcB A f)) → Q (some (.inl 1)) D') :
    WP 124 xF1 none 205 0 [some (.inr (.inr (some 95))), none, none, none] [] D Q := by
  rw [seg205_0 (ha0 := ho95)]
  refine l205b (A := A) (f := f) (by rw [he]) hA ha 13 0 _ D (by omega) (by omega) (fun _ _ => rfl) (fun _ _ => rfl) (fun h D1 u2 o3 f1 f2 => ?_) (fun h D1 u2 o3 f1 f2 f3 => ?_)
  · rw [seg205_63 (ha0 := ho95), brF (by decide)]
    exact hn h D1 ⟨fun a a1 _ _ => f1 a a1, fun i _ _ i3 => f2 i i3⟩
  · obtain ⟨y1, y2, y3⟩ := pcB_yes (A := A) (f := f) h
    have hy := hy h
    have f3 : D1 95 34 = pcB A f := f3
    show WP 124 xF1 none 205 63 [some (.inr (.inr (some 95))), some (.inl (pcA A f (pcB A f))), some (.inl u2), o3] [] D1 Q
    generalize pcB A f = t at y1 y2 y3 hy f3 ⊢
    generalize pcA A f t = s at y2 y3 hy ⊢
    rw [seg205_63 (ha0 := ho95), brT y2.1, f3]
    have w0 := hA.1
    have b := hf (13 * s + t) (by omega) (by omega)
    obtain ⟨D2, hD2⟩ : ∃ D2, D2 = xup (xup D1 95 32 0) 95 33 99 := ⟨_, rfl⟩
    rw [← hD2]
    have g1 : pmFr D2 D := ⟨fun a a1 a2 a3 => by rw [hD2, up_ne a1, up_ne a1]; exact f1 a a1, fun i i1 i2 i3 => by rw [hD2, up_ne2 i2, up_ne2 i1]; exact f2 i i3⟩
    have g2 : D2 95 32 = 0 := by rw [hD2, up_ne2 (by decide), up_eq]
    have g4 : D2 95 33 = 99 := by rw [hD2, up_eq]
    have g34 : D2 95 34 = t := by rw [hD2, up_ne2 (by decide), up_ne2 (by decide), f3]
    have g112 : D2 112 = D 112 := by rw [hD2, up_ne (by decide), up_ne (by decide)]; exact f1 112 (by decide)
    clear hD2
    have e2 : D2 96 = A := by rw [g1.1 96 (by decide) (by decide) (by decide), he]
    have hlen := pcL_len (f := f) hA 13 s t (.inr ⟨y2, y1⟩) (by omega)
    have hW := pcL_W hA hf 13 s t 30 (.inr ⟨y2, y1⟩)
    have hpos := pcL_pos (A := A) (f := f) 13 s t 30 (.inr y3) (by omega)
    have hle := pcP_le f (pcL A f 13 s t) 30
    have e99 : pcP f 99 (pcL A f 13 s t) = pcP f 30 (pcL A f 13 s t) := by
      have : pcL A f 13 s t = if s = -1 then [] else (s, t) :: pcL A f 12 (pcNx A f s t) (t + pcLg A s) := rfl
      rw [this, if_neg (by omega)]
      show pcP f (min 99 (f (13 * s + t))) _ = pcP f (min 30 (f (13 * s + t))) _
      rw [show min 99 (f (13 * s + t)) = min 30 (f (13 * s + t)) by omega]
    refine l205c (i := t) hA e2 hf g34 13 s t 0 99 D2 (by omega) (.inr ⟨y2, y1⟩) (by omega) (by omega) (fun _ => y1.1) ⟨fun _ _ _ _ => rfl, fun _ _ _ _ => rfl⟩ g34 g2 g4 (by rw [g112]; exact ha) (fun D3 v1 v34 v2 v3 v5 v6 v7 => ?_)
    rw [e99] at v3
    refine l205d hA (by rw [v1.1 96 (by decide) (by decide) (by decide), e2]) ⟨by omega, hle⟩ v3 _ t 0 f D3 hW y1.1 (by omega) v2 (by omega) v5 (fun _ _ => rfl) (by rw [v7, g112]; exact ha) (fun D4 w1 w2 => ?_)
    refine hy D4 ⟨fun a a1 a2 a3 => ?_, fun i i1 i2 i3 => ?_⟩ ?_ ?_ ?_ ?_ (by omega) w2
    · rw [w1 a a2, v1.1 a a1 a2 a3, g1.1 a a1 a2 a3]
    · rw [w1 95 (by decide), v1.2 i i1 i2 i3, g1.2 i i1 i2 i3]
    · rw [w1 95 (by decide), v2]; omega
    · rw [w1 95 (by decide), v3]
    · rw [w1 95 (by decide), v34]
    · rw [w1 113 (by decide)]; exact v5
theorem l206c {o3 : Option xv} : ∀ (k : Nat) (x3 : Int) (D : xD), 208 = x3 + k → 0 ≤ x3 → WP 124 xF1 none 206 9 [some (.inr (.inr (some 95))), some (.inl x1), some (.inl x2), some (.inl x3)] [] D Q = WP 124 xF1 none 206 40 [some (.inr (.inr (some 95))), some (.inl x1), some (.inl x2), some (.inl 0)] [] (xcpy D 96 112 (220 + x3) x3 (208 - x3)) Q := by
  intro k
  induction k with
  | zero =>
    intro x8 D h1 h2
    rw [seg206_9 (ha0 := ho95), brT (c := 208 ≤ x8) (by omega), show 208 - x8 = 0 by omega, cpy_0]
  | succ k ih =>
    intro x8 D h1 h2
    rw [seg206_9 (ha0 := ho95), brF (c := 208 ≤ x8) (by omega), cnX (by omega), cnB (by omega), cnB (by omega), cnX (by omega)]
    simp only [Nat.reduceAdd]
    rw [ih _ _ (by omega) (by omega), show 220 + (x8 + 1) = 220 + x8 + 1 by omega, show 208 - (x8 + 1) = 208 - x8 - 1 by omega, cpy_up (by decide) (by omega)]
theorem pcC_dec (hA : pcOk A) (hf : pcBd f) (c : pcB A f ≠ -1) : pcBd (pcS A f (pcA A f (pcB A f)) (pcB A f)) ∧ pcC (pcS A f (pcA A f (pcB A f)) (pcB A f)) + 1 ≤ pcC f ∧ 0 ≤ pcC (pcS A f (pcA A f (pcB A f)) (pcB A f)) := by
  obtain ⟨y1, y2, y3⟩ := pcB_yes c
  obtain ⟨s1, s2, s3, c0, c1, c2, c3⟩ := pcS_spec hA hf y2 y1 y3
  refine ⟨s1, (smI_mono 208 0 (fun j _ _ => ?_)).2 ⟨c0, by omega, ?_⟩, (smI_bd (B := 1) 208 0 (fun j _ _ => by split <;> omega)).1⟩
  · have := s2 j
    split <;> split <;> omega
  · rw [c3, if_neg (by decide), if_pos c2]; decide
/-- what a piece answers -/
def pcV (W : Int → Int) (p t : Int) (L : List (Int × Int)) (x : Int) : Int := if x = 0 then p else if x = 1 then t else if x = 2 then L.length else if 10 ≤ x ∧ x < 10 + L.length then W (x - 10) else -1
theorem liAt_eq {W W' : Int → Int} : ∀ (L : List (Int × Int)) (i : Int), liAt W L i → liAt W' L i → ∀ j, i ≤ j → j < i + L.length → W j = W' j := by
  intro L
  induction L with
  | nil => intro i _ _ j a b; simp at b; omega
  | cons h L ih =>
    intro i h1 h2 j a b
    rw [List.length_cons] at b
    by_cases e : j = i
    · rw [e, h1.1, h2.1]
    · exact ih (i + 1) h1.2 h2.2 j (by omega) (by omega)
theorem l206 (hA : pcOk A) (he : D 96 = A) {r : Int × Option (Int × Int × List (Int × Int))}
    (hn : ∀ (D' : xD) (j : Int), r = (j, none) → pmFr D' D → Q (some (.inl (if x1 = -1 then j else -1))) D')
    (hq : ∀ (D' : xD) (j p t : Int) (L : List (Int × Int)), r = (j, some (p, t, L)) → pmFr D' D → liAt (D' 113) L 0 → Q (some (.inl (pcV (D' 113) p t L x2))) D') :
    ∀ (k : Nat) (f : Int → Int) (j : Int) (D' : xD), pcR A x1 k f j = some r → pmFr D' D → pcAg (D' 112) f → pcBd f → 0 ≤ j → j + pcC f ≤ 208 → WP 124 xF1 none 206 40 [some (.inr (.inr (some 95))), some (.inl x1), some (.inl x2), some (.inl j)] [] D' Q := by
  intro k
  induction k with
  | zero => intro f j D' h; exact absurd h (by simp [pcR])
  | succ k ih =>
    intro f j D' h hF ha hf hj hC
    simp only [pcR] at h
    have eA : D' 96 = A := by rw [hF.1 96 (by decide) (by decide) (by decide), he]
    rw [seg206_40 (ha0 := ho95)]
    refine m205 hA eA hf ha (fun c D1 g1 => ?_) (fun c D1 g1 v2 v3 v4 v5 v6 v7 => ?_)
    · simp only [Option.toList_some, Option.toList_none, List.cons_append, List.nil_append]
      rw [if_pos c] at h
      have hr := Option.some.inj h
      have fin := hn D1 j hr.symm ⟨fun a a1 a2 a3 => by rw [g1.1 a a1 a2 a3, hF.1 a a1 a2 a3], fun i i1 i2 i3 => by rw [g1.2 i i1 i2 i3, hF.2 i i1 i2 i3]⟩
      rw [seg206_44 (ha0 := ho95), brT rfl]
      by_cases e : x1 = -1
      · rw [brF (c := x1 ≠ -1) (fun q => q e), seg206_133 (ha0 := ho95)]
        rw [if_pos e] at fin; exact fin
      · rw [brT (c := x1 ≠ -1) e, seg206_133 (ha0 := ho95)]
        rw [if_neg e] at fin; exact fin
    · simp only [Option.toList_some, Option.toList_none, List.cons_append, List.nil_append]
      have hF1 : pmFr D1 D := ⟨fun a a1 a2 a3 => by rw [g1.1 a a1 a2 a3, hF.1 a a1 a2 a3], fun i i1 i2 i3 => by rw [g1.2 i i1 i2 i3, hF.2 i i1 i2 i3]⟩
      obtain ⟨p1, p2, p3⟩ := pcC_dec hA hf c
      rw [if_neg c] at h
      rw [seg206_44 (ha0 := ho95), brF (by decide)]
      by_cases e : j = x1
      · rw [if_pos e] at h
        have hr := Option.some.inj h
        rw [brF (c := j ≠ x1) (fun q => q e), v2, v3, v4]
        have fin := hq D1 j _ _ _ hr.symm hF1 v5
        unfold pcV at fin
        by_cases x0 : x2 = 0
        · rw [brF (c := x2 ≠ 0) (fun q => q x0), seg206_116 (ha0 := ho95)]
          rw [if_pos x0] at fin; exact fin
        · rw [brT (c := x2 ≠ 0) x0]
          rw [if_neg x0] at fin
          by_cases x1' : x2 = 1
          · rw [brF (c := x2 ≠ 1) (fun q => q x1'), seg206_116 (ha0 := ho95)]
            rw [if_pos x1'] at fin; exact fin
          · rw [brT (c := x2 ≠ 1) x1']
            rw [if_neg x1'] at fin
            by_cases x2' : x2 = 2
            · rw [brF (c := x2 ≠ 2) (fun q => q x2'), seg206_116 (ha0 := ho95)]
              rw [if_pos x2'] at fin; exact fin
            · rw [brT (c := x2 ≠ 2) x2', cnX (by omega), m149]
              rw [if_neg x2'] at fin
              simp only [Option.toList_some, Option.toList_none, List.cons_append, List.nil_append]
              rw [seg206_100 (ha0 := ho95)]
              simp only [Nat.reduceAdd]
              by_cases x3' : 10 ≤ x2 ∧ x2 ≤ 9 + (pcL A f 13 (pcA A f (pcB A f)) (pcB A f)).length
              · rw [if_pos x3', brF (by decide), cnX (by omega), cnB (by omega), seg206_116 (ha0 := ho95)]
                rw [if_pos (by omega)] at fin; exact fin
              · rw [if_neg x3', brT rfl, seg206_116 (ha0 := ho95)]
                rw [if_neg (by omega)] at fin; exact fin
      · rw [if_neg e] at h
        rw [brT (c := j ≠ x1) e, cnX (by omega)]
        exact ih _ (j + 1) D1 h hF1 v7 p1 (by omega) (by omega)
theorem Inv_free2 (H : Inv K D) (h : ∀ a, ¬ xfre a → a ≠ 95 → D' a = D a) (h95 : ∀ i, (i = 4 ∨ i = 5 ∨ i = 6 ∨ i = 22 ∨ i = 23 ∨ i = 44) → D' 95 i = D 95 i) : Inv K D' := by
  obtain ⟨⟨⟨t1, t2, t3, t4, t5⟩, tt, tw1, tw2, tw3⟩, g2, g3, g4, g5, g6, g7⟩ := H
  unfold xfre at h
  refine ⟨?_, ?_, ?_, ?_, ?_, ?_, ?_⟩
  · rw [h 1 (by decide) (by decide), h 2 (by decide) (by decide), h 99 (by decide) (by decide)]
    refine ⟨⟨?_, t2, t3, ?_, ?_⟩, tt, ?_, ?_, ?_⟩
    · rw [h95 4 (by decide)]; exact t1
    · rw [h95 5 (by decide)]; exact t4
    · rw [h95 6 (by decide)]; exact t5
    · rw [h95 22 (by decide)]; exact tw1
    · rw [h95 23 (by decide)]; exact tw2
    · rw [h95 44 (by decide)]; exact tw3
  · rw [h 96 (by decide) (by decide)]
    exact IS_congr (fun a e1 e2 => h a (by omega) (by omega)) g2
  · rw [h 96 (by decide) (by decide)]; exact g3
  · rw [h 97 (by decide) (by decide)]
    exact IS_congr (fun a e1 e2 => h a (by omega) (by omega)) g4
  · rw [h 97 (by decide) (by decide)]; exact g5
  · rw [h 96 (by decide) (by decide), h 56 (by decide) (by decide), h 68 (by decide) (by decide), h 69 (by decide) (by decide), h 70 (by decide) (by decide), h 71 (by decide) (by decide), h 91 (by decide) (by decide), h 92 (by decide) (by decide)]; exact g6
  · rw [h 85 (by decide) (by decide)]; exact g7
theorem pair16 : ∀ (z1 z2 : Int), xinP z1 → xinP z2 → xpr (Inv K) 131 [some (.inr (.inr (some 1))), some (.inl z1), some (.inl z2)] 206 [some (.inr (.inr (some 95))), some (.inl z1), some (.inl z2), none] := by
  intro z1 z2 y1 y2 D H
  obtain ⟨-, hs, hw, -⟩ := id H
  obtain ⟨⟨e1, e2, e3, e4, e5⟩, hb, hsl, hst, hp, hd, hcc, hk⟩ := id hs
  obtain ⟨⟨w0, w1, w2, w3, w4, w5⟩, ws, wd, wsum, wp, wc, wk, wx1, wx2, wx3⟩ := id hw
  simp only [Nat.reduceAdd] at e1 e2 e3 e4 e5 hb hsl hst hp hd hcc hk
  have hA : pcOk (D 96) := ⟨⟨w0, w1⟩, fun s s1 s2 => (ws s s1 s2).2.2.1⟩
  have hH : pcH D (D 96) := ⟨e1, fun s s1 s2 => ⟨(fr_eq hs hw ⟨s1, s2⟩).1, (fr_eq hs hw ⟨s1, s2⟩).2, (hst s s1 s2).2.2.1⟩⟩
  obtain ⟨f, ef⟩ : ∃ f : Int → Int, f = fun c => D 96 (220 + c) := ⟨_, rfl⟩
  have hf : pcBd f := fun c c1 c2 => by rw [ef]; exact (wk c c1 c2).1
  have ha : pcAg (D 20) f := fun c c1 c2 => by rw [ef]; exact (hk c c1 c2).1
  have hC : pcC f ≤ 208 := by
    have := (smI_bd (f := fun c => if 0 < f c then (1 : Int) else 0) (B := 1) 208 0 (fun j _ _ => by split <;> omega)).2
    unfold pcC
    omega
  have mneg : z1 < -1 → ∀ D1 : xD, WP 124 xF1 none 206 0 [some (.inr (.inr (some 95))), some (.inl z1), some (.inl z2), none] [] D1 (fun w D2 => w = some (.inl (-1)) ∧ D2 0 = D1 0 ∧ D2 = D1) := fun h D1 => by
    rw [seg206_0 (ha0 := ho95), brF (c := -1 ≤ z1) (by omega)]
    exact ⟨rfl, rfl, rfl⟩
  have inv : ∀ D1 D2 : xD, pcFr D1 D → pmFr D2 D1 → D2 0 = D 0 ∧ Inv K D2 := fun D1 D2 h1 h2 => by
    refine ⟨by rw [h2.1 0 (by decide) (by decide) (by decide), h1 0 (by decide) (by decide) (by decide)], Inv_free2 H (fun a ha1 ha2 => ?_) (fun i hi => ?_)⟩
    · unfold xfre at ha1
      rw [h2.1 a ha2 (by omega) (by omega), h1 a (by omega) (by omega) (by omega)]
    · rw [h2.2 i (by omega) (by omega) (by omega), h1 95 (by decide) (by decide) (by decide)]
  have model : ∀ (D1 : xD) (k : Nat) (r : Int × Option (Int × Int × List (Int × Int))) (v : Int), -1 ≤ z1 → pcFr D1 D → pcR (D 96) z1 k f 0 = some r → (∀ j, r = (j, none) → v = if z1 = -1 then j else -1) → (∀ (W : Int → Int) (j p t : Int) (L : List (Int × Int)), r = (j, some (p, t, L)) → liAt W L 0 → v = pcV W p t L z2) → WP 124 xF1 none 206 0 [some (.inr (.inr (some 95))), some (.inl z1), some (.inl z2), none] [] D1 (fun w D2 => w = some (.inl v) ∧ D2 0 = D 0 ∧ Inv K D2) := by
    intro D1 k r v hz h1 hr v1 v2
    have e96 : D1 96 = D 96 := h1 96 (by decide) (by decide) (by decide)
    rw [seg206_0 (ha0 := ho95), brT hz, l206c (o3 := none) 208 0 _ (by omega) (by omega)]
    refine l206 (D := D1) (A := D 96) (r := r) hA e96 (fun D2 j hj h2 => ?_) (fun D2 j p t L hj h2 hl => ?_) k f 0 _ hr ⟨fun a a1 a2 a3 => by rw [cpy_ne a2], fun i i1 i2 i3 => by rw [cpy_ne (by decide)]⟩ (fun c c1 c2 => ?_) hf (by omega) (by omega)
    · obtain ⟨q1, q2⟩ := inv D1 D2 h1 h2
      exact ⟨by rw [v1 j hj], q1, q2⟩
    · obtain ⟨q1, q2⟩ := inv D1 D2 h1 h2
      exact ⟨by rw [v2 _ j p t L hj hl], q1, q2⟩
    · unfold xcpy
      rw [if_pos ⟨rfl, by omega, by omega⟩, e96, ef]
      show D 96 _ = D 96 _
      congr 1; omega
  rw [seg131_0 (ha0 := ho1)]
  simp only [Nat.reduceAdd]
  by_cases c1 : z1 = -1
  · rw [brF (c := z1 ≠ -1) (fun q => q c1), seg1_0 (ha0 := ho82) (ha1 := ho3)]
    refine m2 hA hH hf ha (fun D1 k j p t L hr => ?_) (fun D1 k j hr h1 h5 => ?_)
    · exact absurd (pcR_208 hA k f 0 _ hf (by omega) hr).1 (by simp)
    · obtain ⟨-, hr2⟩ := pcR_208 hA k f 0 _ hf (by omega) hr
      simp only [Option.toList_some, Option.toList_none, List.cons_append, List.nil_append]
      rw [seg1_8 (ha0 := ho82) (ha1 := ho3), h5]
      simp only [Option.toList_some, Option.toList_none, List.cons_append, List.nil_append]
      rw [seg131_16 (ha0 := ho1)]
      refine ⟨j, rfl, h1 0 (by decide) (by decide) (by decide), ?_⟩
      refine model D1 k (j, none) j (by omega) h1 (by rw [c1]; exact hr2 (by omega)) (fun j' hj => ?_) (fun W j' p t L hj => absurd (congrArg Prod.snd hj) (by simp))
      rw [if_pos c1]
      exact congrArg Prod.fst hj
  · rw [brT (c := z1 ≠ -1) c1]
    by_cases c2 : z1 < 0
    · rw [brT c2, seg131_36 (ha0 := ho1)]
      refine ⟨-1, rfl, rfl, ?_⟩
      rw [seg206_0 (ha0 := ho95), brF (c := -1 ≤ z1) (by omega)]
      exact ⟨rfl, rfl, H⟩
    · rw [brF c2]
      refine m2 hA hH hf ha (fun D1 k j p t L hr h1 h5 h4 h3 h2 hl h13 => ?_) (fun D1 k j hr h1 h5 => ?_)
      · simp only [Option.toList_some, Option.toList_none, List.cons_append, List.nil_append]
        have fin : WP 124 xF1 none 206 0 [some (.inr (.inr (some 95))), some (.inl z1), some (.inl z2), none] [] D1 (fun w D2 => w = some (.inl (pcV (D1 84) p t L z2)) ∧ D2 0 = D 0 ∧ Inv K D2) := by
          refine model D1 k _ _ (by omega) h1 hr (fun j' hj => absurd (congrArg Prod.snd hj) (by simp)) (fun W j' p' t' L' hj hW => ?_)
          have hj2 := Option.some.inj (congrArg Prod.snd hj)
          have q1 : p = p' := congrArg Prod.fst hj2
          have q2 : t = t' := congrArg (fun x => x.2.1) hj2
          have q3 : L = L' := congrArg (fun x => x.2.2) hj2
          subst q1 q2 q3
          unfold pcV
          by_cases cc : 10 ≤ z2 ∧ z2 < 10 + L.length
          · rw [if_pos cc, if_pos cc, liAt_eq L 0 hl hW (z2 - 10) (by omega) (by omega)]
          · rw [if_neg cc, if_neg cc]
        unfold pcV at fin
        rw [seg131_33 (ha0 := ho1), brT (by decide)]
        have z0 := h1 0 (by decide) (by decide) (by decide)
        rcases (show z2 = 0 ∨ z2 = 1 ∨ z2 = 2 ∨ (z2 < 0 ∨ 3 ≤ z2) by omega) with rfl | rfl | rfl | hz
        · show WP 124 xF1 none 131 64 _ _ _ _
          rw [seg131_64 (ha0 := ho1)]
          simp only [Nat.reduceAdd]
          rw [h4]
          exact ⟨_, rfl, z0, fin⟩
        · show WP 124 xF1 none 131 72 _ _ _ _
          rw [seg131_72 (ha0 := ho1)]
          simp only [Nat.reduceAdd]
          rw [h3]
          exact ⟨_, rfl, z0, fin⟩
        · show WP 124 xF1 none 131 80 _ _ _ _
          rw [seg131_80 (ha0 := ho1)]
          simp only [Nat.reduceAdd]
          rw [h2]
          exact ⟨_, rfl, z0, fin⟩
        · rw [tab_out hz, seg131_88 (ha0 := ho1)]
          simp only [Nat.reduceAdd]
          rw [if_neg (by omega), if_neg (by omega), if_neg (by omega)] at fin
          rw [h2]
          by_cases ca : z2 < 10
          · rw [brT ca, seg131_123 (ha0 := ho1), seg131_124 (ha0 := ho1)]
            rw [if_neg (by omega)] at fin
            exact ⟨_, rfl, z0, fin⟩
          · rw [brF ca, cnX (by omega)]
            by_cases cb : 10 + (L.length : Int) ≤ z2
            · rw [brT cb, seg131_123 (ha0 := ho1), seg131_124 (ha0 := ho1)]
              rw [if_neg (by omega)] at fin
              exact ⟨_, rfl, z0, fin⟩
            · rw [brF cb, cnX (by omega), cnB (by omega), seg131_124 (ha0 := ho1)]
              rw [if_pos (by omega)] at fin
              exact ⟨_, rfl, z0, fin⟩
      · simp only [Option.toList_some, Option.toList_none, List.cons_append, List.nil_append]
        rw [seg131_33 (ha0 := ho1), brF (by decide), seg131_36 (ha0 := ho1)]
        refine ⟨-1, rfl, h1 0 (by decide) (by decide) (by decide), ?_⟩
        refine model D1 k (j, none) (-1) (by omega) h1 hr (fun j' hj => by rw [if_neg c1]) (fun W j' p t L hj => absurd (congrArg Prod.snd hj) (by simp))
end M51

