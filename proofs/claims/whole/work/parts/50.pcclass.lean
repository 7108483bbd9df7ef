/-! piece: the class -/
def pcH (D : xD) (A : Int → Int) : Prop := D 4 11 = A 0 ∧ ∀ s, 0 ≤ s → s < A 0 → frC D s = frM A s ∧ toC D s = toM A s ∧ D 7 s = pcLg A s
def pcFr (D' D : xD) : Prop := ∀ a, a ≠ 82 → a ≠ 83 → a ≠ 84 → D' a = D a
def pcAg (g f : Int → Int) : Prop := ∀ c, 0 ≤ c → c < 208 → g c = f c
section M50
variable {x0 x1 x2 x3 x4 x5 x6 s t p m i j : Int} {D D' : xD} {A f g : Int → Int} {Q : Option xv → xD → Prop}
theorem pcH_fr (h : pcFr D' D) (H : pcH D A) : pcH D' A := by
  obtain ⟨h1, h2⟩ := H
  refine ⟨by rw [h 4 (by decide) (by decide) (by decide)]; exact h1, fun s s1 s2 => ?_⟩
  have q := h2 s s1 s2
  unfold frC toC at q ⊢
  rw [h 3 (by decide) (by decide) (by decide), h 5 (by decide) (by decide) (by decide), h 6 (by decide) (by decide) (by decide), h 7 (by decide) (by decide) (by decide)]
  exact q
theorem m4 (H : pcH D A) (hA : pcOk A) (ha : pcAg (D 83) f) (h3 : 0 ≤ x3) : WP 124 xF1 none 4 0 [some (.inr (.inr (some 82))), some (.inr (.inr (some 3))), some (.inl x2), some (.inl x3), none] [] D Q = Q (some (.inl (if 12 < x3 then -1 else pcX A f x2 x3))) D := by
  rw [seg4_0 (ha0 := ho82) (ha1 := ho3)]
  by_cases c : x3 < 13
  · rw [brT c, if_neg (by omega), l4 (by omega) (A 0).toNat 0 (by rw [H.1]; have := hA.1; omega) (by omega) (by have := hA.1; omega)]
    refine cgQ (fsI_congr _ _ (fun j j1 j2 => ?_))
    have w0 := hA.1
    rw [(H.2 j j1 (by omega)).1, show j * 13 + x3 = 13 * j + x3 by omega, ha _ (by omega) (by omega)]
  · rw [brF c, if_pos (by omega)]
theorem l3 (hA : pcOk A) (H : pcH D A) (hf : pcBd f) : ∀ (k : Nat) (s t m p : Int) (D' : xD), 13 ≤ t + k → (s = -1 ∨ ((0 ≤ s ∧ s < A 0) ∧ (0 ≤ t ∧ t ≤ 12))) → 0 ≤ m → m ≤ 13 → (s ≠ -1 → m ≤ t) → pcFr D' D → D' 82 2 = m → D' 82 4 = p → pcAg (D' 83) f → (∀ (D'' : xD) (u4 u5 : Int), pcFr D'' D → D'' 82 2 = m + (pcL A f k s t).length → D'' 82 4 = pcP f p (pcL A f k s t) → (∀ i, i ≠ 2 → i ≠ 4 → D'' 82 i = D' 82 i) → liAt (D'' 84) (pcL A f k s t) m → (∀ j, j < m → D'' 84 j = D' 84 j) → D'' 83 = D' 83 → WP 124 xF1 none 3 122 [some (.inr (.inr (some 82))), some (.inr (.inr (some 3))), some (.inl x2), some (.inl x3), some (.inl u4), some (.inl u5)] [] D'' Q) → WP 124 xF1 none 3 22 [some (.inr (.inr (some 82))), some (.inr (.inr (some 3))), some (.inl x2), some (.inl x3), some (.inl s), some (.inl t)] [] D' Q := by
  have w0 := hA.1
  intro k
  induction k with
  | zero =>
    intro s t m p D' h1 hs m0 m1 m2 hF e2 e4 ha hc
    have es : s = -1 := by
      rcases hs with q | q
      · exact q
      · omega
    rw [seg3_22 (ha0 := ho82) (ha1 := ho3), brT es]
    exact hc D' s t hF (by rw [e2]; simp [pcL]) (by rw [e4]; rfl) (fun _ _ _ => rfl) trivial (fun _ _ => rfl) rfl
  | succ k ih =>
    intro s t m p D' h1 hs m0 m1 m2 hF e2 e4 ha hc
    rw [seg3_22 (ha0 := ho82) (ha1 := ho3)]
    simp only [pcL] at hc
    by_cases es : s = -1
    · rw [if_pos es] at hc
      rw [brT es]
      exact hc D' s t hF (by rw [e2]; simp) (by rw [e4]; rfl) (fun _ _ _ => rfl) trivial (fun _ _ => rfl) rfl
    · have hs' := hs.resolve_left es
      have l := hA.2 s hs'.1.1 hs'.1.2
      have hmt := m2 es
      have b := hf (13 * s + t) (by omega) (by omega)
      rw [if_neg es] at hc
      rw [brF es, brF (c := 13 ≤ t) (by omega), e2, brF (c := 13 ≤ m) (by omega)]
      simp only [Nat.reduceAdd]
      rw [cnB (by omega), cnX (by omega), cnX (by omega), cnX (by omega), cnB (by omega), cnB (by omega), e4, show s * 13 + t = 13 * s + t by omega, ha _ (by omega) (by omega)]
      obtain ⟨D1, hD1⟩ : ∃ D1, D1 = xup (xup (xup D' 84 m s) 82 2 (m + 1)) 82 4 (min p (f (13 * s + t))) := ⟨_, rfl⟩
      rw [← hD1]
      have g1 : pcFr D1 D := fun a a1 a2 a3 => by rw [hD1, up_ne a1, up_ne a1, up_ne a3]; exact hF a a1 a2 a3
      have g2 : D1 82 2 = m + 1 := by rw [hD1, up_ne2 (by decide), up_eq]
      have g4 : D1 82 4 = min p (f (13 * s + t)) := by rw [hD1, up_eq]
      have gi : ∀ i, i ≠ 2 → i ≠ 4 → D1 82 i = D' 82 i := fun i i1 i2 => by rw [hD1, up_ne2 i2, up_ne2 i1, up_ne (by decide)]
      have g84 : ∀ j, D1 84 j = if j = m then s else D' 84 j := fun j => by rw [hD1, up_ne (by decide), up_ne (by decide), up_at]
      have g83 : D1 83 = D' 83 := by rw [hD1, up_ne (by decide), up_ne (by decide), up_ne (by decide)]
      clear hD1
      have H1 := pcH_fr g1 H
      obtain ⟨q1, q2, q3⟩ := H1.2 s hs'.1.1 hs'.1.2
      rw [q3, cnX (by omega), n79 (by omega), q2]
      simp only [Option.toList_some, Option.toList_none, List.cons_append, List.nil_append]
      rw [seg3_112 (ha0 := ho82) (ha1 := ho3) (hb1 := ho3) (hb2 := ho82), m4 H1 hA (by rw [g83]; exact ha) (by omega)]
      simp only [Option.toList_some, Option.toList_none, List.cons_append, List.nil_append]
      rw [seg3_117 (ha0 := ho82) (ha1 := ho3)]
      show WP 124 xF1 none 3 22 [some (.inr (.inr (some 82))), some (.inr (.inr (some 3))), some (.inl x2), some (.inl x3), some (.inl (pcNx A f s t)), some (.inl (t + pcLg A s))] [] D1 Q
      have hn := pcNx_spec (A := A) (f := f) s t
      refine ih _ _ (m + 1) _ D1 (by omega) ?_ (by omega) (by omega) (fun _ => by omega) g1 g2 g4 (by rw [g83]; exact ha) (fun D'' u4 u5 v1 v2 v3 v4 v5 v6 v7 => ?_)
      · rcases hn with q | ⟨q1, q2, -⟩
        · exact .inl q
        · exact .inr ⟨q1, by omega, q2⟩
      · refine hc D'' u4 u5 v1 (by rw [v2, List.length_cons]; omega) v3 (fun i i1 i2 => by rw [v4 i i1 i2, gi i i1 i2]) ⟨?_, v5⟩ (fun j hj => ?_) (by rw [v7, g83])
        · rw [v6 m (by omega), g84, if_pos rfl]
        · rw [v6 j (by omega), g84, if_neg (by omega)]
theorem l5 (hA : pcOk A) (H : pcH D A) (hp : 0 ≤ p ∧ p ≤ 30) (e4 : D 82 4 = p) : ∀ (L : List (Int × Int)) (x3 x4 : Int) (g : Int → Int) (D' : xD), pcW A g p L x3 → 0 ≤ x3 → 0 ≤ x4 → D 82 2 = x4 + L.length → D 82 2 ≤ 13 → liAt (D 84) L x4 → (∀ a, a ≠ 83 → D' a = D a) → pcAg (D' 83) g → (∀ D'' : xD, (∀ a, a ≠ 83 → D'' a = D a) → pcAg (D'' 83) (pcT p L g) → Q none D'') → WP 124 xF1 none 5 5 [some (.inr (.inr (some 82))), some (.inr (.inr (some 3))), some (.inl x2), some (.inl x3), some (.inl x4)] [] D' Q := by
  have w0 := hA.1
  intro L
  induction L with
  | nil =>
    intro x3 x4 g D' hW h3 h4 hn h13 hL hF ha hc
    simp only [List.length_nil] at hn
    rw [seg5_5 (ha0 := ho82) (ha1 := ho3), hF 82 (by decide), brT (c := D 82 2 ≤ x4) (by omega), seg5_68 (ha0 := ho82) (ha1 := ho3)]
    exact hc D' hF ha
  | cons h L ih =>
    intro x3 x4 g D' hW h3 h4 hn h13 hL hF ha hc
    rw [List.length_cons] at hn
    obtain ⟨u1, u2, u3, u4, u5, u6, u7⟩ := hW
    obtain ⟨l1, l2⟩ := hL
    have l := hA.2 h.1 u3.1 u3.2
    rw [seg5_5 (ha0 := ho82) (ha1 := ho3), hF 82 (by decide), brF (c := D 82 2 ≤ x4) (by omega), brF (c := 13 ≤ x3) (by omega)]
    simp only [Nat.reduceAdd]
    rw [hF 84 (by decide), l1, e4, show h.1 * 13 + x3 = 13 * h.1 + x3 by omega, ha _ (by omega) (by omega), up_ne (by decide), hF 7 (by decide), (H.2 h.1 u3.1 u3.2).2.2]
    rw [cnB (by omega), cnX (by omega), cnX (by omega), cnB (by omega), cnX (by omega), cnB (by omega), cnB (by omega), cnB (by omega), cnX (by omega), cnX (by omega)]
    refine ih _ _ (fun c => if c = 13 * h.1 + h.2 then g (13 * h.1 + h.2) - p else g c) _ ?_ (by omega) (by omega) (by omega) h13 l2 (fun a ha => by rw [up_ne ha]; exact hF a ha) (fun c c1 c2 => ?_) hc
    · exact pcW_cg L _ (fun c hc => by
        show (if c = 13 * h.1 + h.2 then g (13 * h.1 + h.2) - p else g c) = g c
        rw [if_neg (by omega)]) u7
    · rw [up_at, u1]
      show _ = if c = 13 * h.1 + x3 then g (13 * h.1 + x3) - p else g c
      by_cases e : c = 13 * h.1 + x3
      · rw [if_pos e, if_pos e]
      · rw [if_neg e, if_neg e]; exact ha c c1 c2
/-- a piece is followed and taken away -/
theorem m3 (hA : pcOk A) (H : pcH D A) (hf : pcBd f) (hs : 0 ≤ s ∧ s < A 0) (ht : 0 ≤ t ∧ t ≤ 12) (hp : 0 < f (13 * s + t)) (ha : pcAg (D 83) f) (hc : ∀ D' : xD, pcFr D' D → D' 82 5 = D 82 5 → D' 82 3 = t → D' 82 2 = (pcL A f 13 s t).length → D' 82 4 = pcP f 30 (pcL A f 13 s t) → liAt (D' 84) (pcL A f 13 s t) 0 → ((pcL A f 13 s t).length : Int) ≤ 13 → pcAg (D' 83) (pcS A f s t) → Q none D') : WP 124 xF1 none 3 0 [some (.inr (.inr (some 82))), some (.inr (.inr (some 3))), some (.inl s), some (.inl t), none, none] [] D Q := by
  rw [seg3_0 (ha0 := ho82) (ha1 := ho3)]
  obtain ⟨D1, hD1⟩ : ∃ D1, D1 = xup (xup (xup D 82 3 t) 82 2 0) 82 4 30 := ⟨_, rfl⟩
  rw [← hD1]
  have g1 : pcFr D1 D := fun a a1 a2 a3 => by rw [hD1, up_ne a1, up_ne a1, up_ne a1]
  have g2 : D1 82 2 = 0 := by rw [hD1, up_ne2 (by decide), up_eq]
  have g4 : D1 82 4 = 30 := by rw [hD1, up_eq]
  have g3 : D1 82 3 = t := by rw [hD1, up_ne2 (by decide), up_ne2 (by decide), up_eq]
  have g5 : D1 82 5 = D 82 5 := by rw [hD1, up_ne2 (by decide), up_ne2 (by decide), up_ne2 (by decide)]
  have g83 : D1 83 = D 83 := by rw [hD1, up_ne (by decide), up_ne (by decide), up_ne (by decide)]
  clear hD1
  have hlen := pcL_len (f := f) hA 13 s t (.inr ⟨hs, ht⟩) (by omega)
  have hW := pcL_W hA hf 13 s t 30 (.inr ⟨hs, ht⟩)
  have hpos := pcL_pos (A := A) (f := f) 13 s t 30 (.inr hp) (by omega)
  have hle := pcP_le f (pcL A f 13 s t) 30
  refine l3 hA H hf 13 s t 0 30 D1 (by omega) (.inr ⟨hs, ht⟩) (by omega) (by omega) (fun _ => ht.1) g1 g2 g4 (by rw [g83]; exact ha) (fun D2 u4 u5 v1 v2 v3 v4 v5 v6 v7 => ?_)
  rw [seg3_122 (ha0 := ho82) (ha1 := ho3), seg5_0 (ha0 := ho82) (ha1 := ho3)]
  refine l5 hA (pcH_fr v1 H) ⟨by omega, hle⟩ v3 _ t 0 f D2 hW ht.1 (by omega) v2 (by omega) v5 (fun _ _ => rfl) (by rw [v7, g83]; exact ha) (fun D3 w1 w2 => ?_)
  simp only [Option.toList_some, Option.toList_none, List.cons_append, List.nil_append]
  rw [seg3_128 (ha0 := ho82) (ha1 := ho3)]
  refine hc D3 (fun a a1 a2 a3 => by rw [w1 a a2]; exact v1 a a1 a2 a3) ?_ ?_ ?_ ?_ ?_ (by omega) w2
  · rw [w1 82 (by decide), v4 5 (by decide) (by decide), g5]
  · rw [w1 82 (by decide), v4 3 (by decide) (by decide), g3]
  · rw [w1 82 (by decide), v2]; omega
  · rw [w1 82 (by decide), v3]
  · rw [w1 84 (by decide)]; exact v5
/-- where the class stands in its look for pieces: all before (t, s) is taken -/
def pcI (A : Int → Int) (i : Int) (G : Int × Option (Int × Int × List (Int × Int)) → Prop) (D' D : xD) (t s j : Int) (f : Int → Int) : Prop :=
  pcFr D' D ∧ pcAg (D' 83) f ∧ pcBd f ∧ (∀ s' t', 0 ≤ s' → s' < A 0 → 0 ≤ t' → t' ≤ 12 → (t' < t ∨ (t' = t ∧ s' < s)) → f (13 * s' + t') ≤ 0) ∧ (∀ k r, pcR A i k f j = some r → G r) ∧ D' 82 5 = j ∧ 0 ≤ j
theorem l2i (hA : pcOk A) (H : pcH D A) {G : Int × Option (Int × Int × List (Int × Int)) → Prop} (hs : 0 ≤ s ∧ s < A 0) (ht : 0 ≤ t ∧ t ≤ 12)
    (hq : ∀ (D' : xD) (j p t : Int) (L : List (Int × Int)), G (j, some (p, t, L)) → pcFr D' D → D' 82 5 = j → D' 82 4 = p → D' 82 3 = t → D' 82 2 = L.length → liAt (D' 84) L 0 → (L.length : Int) ≤ 13 → Q (some (.inl 1)) D')
    (hn : ∀ (D' : xD) (f : Int → Int) (j u6 : Int), pcI A x2 G D' D t (s + 1) j f → j ≤ 30 * (16 * t + s + 1) → WP 124 xF1 none 2 107 [some (.inr (.inr (some 82))), some (.inr (.inr (some 3))), some (.inl x2), some (.inl t), some (.inl s), some (.inl (s * 13 + t)), some (.inl u6)] [] D' Q) :
    ∀ (k : Nat) (x6 j : Int) (f : Int → Int) (D' : xD), 30 = x6 + k → 0 ≤ x6 → pcI A x2 G D' D t s j f → f (13 * s + t) ≤ 30 - x6 → j ≤ 30 * (16 * t + s) + x6 → WP 124 xF1 none 2 56 [some (.inr (.inr (some 82))), some (.inr (.inr (some 3))), some (.inl x2), some (.inl t), some (.inl s), some (.inl (s * 13 + t)), some (.inl x6)] [] D' Q := by
  have w0 := hA.1
  have ex : ∀ (D' : xD) (f : Int → Int) (j : Int), pcI A x2 G D' D t s j f → f (13 * s + t) ≤ 0 → pcI A x2 G D' D t (s + 1) j f := by
    intro D' f j hI h0
    obtain ⟨i1, i2, i3, i4, i5, i6, i7⟩ := hI
    refine ⟨i1, i2, i3, fun s' t' a1 a2 a3 a4 a5 => ?_, i5, i6, i7⟩
    by_cases e : t' = t ∧ s' = s
    · rw [e.1, e.2]; exact h0
    · exact i4 s' t' a1 a2 a3 a4 (by omega)
  intro k
  induction k with
  | zero =>
    intro x6 j f D' h1 h2 hI hb hj
    rw [seg2_56 (ha0 := ho82) (ha1 := ho3), brT (c := 30 ≤ x6) (by omega)]
    exact hn D' f j x6 (ex D' f j hI (by omega)) (by omega)
  | succ k ih =>
    intro x6 j f D' h1 h2 hI hb hj
    obtain ⟨i1, i2, i3, i4, i5, i6, i7⟩ := id hI
    rw [seg2_56 (ha0 := ho82) (ha1 := ho3), brF (c := 30 ≤ x6) (by omega), cnB (by omega)]
    simp only [Nat.reduceAdd]
    rw [show s * 13 + t = 13 * s + t by omega, i2 _ (by omega) (by omega), show 13 * s + t = s * 13 + t by omega]
    by_cases c : f (s * 13 + t) ≤ 0
    · rw [brT c]
      exact hn D' f j x6 (ex D' f j hI (by rw [show 13 * s + t = s * 13 + t by omega]; exact c)) (by omega)
    · have hp : 0 < f (13 * s + t) := by rw [show 13 * s + t = s * 13 + t by omega]; omega
      rw [brF c]
      obtain ⟨b1, b2⟩ := pcB_at (A := A) hs ht hp i4
      obtain ⟨s1, s2, s3, -⟩ := pcS_spec hA i3 hs ht hp
      refine m3 hA (pcH_fr i1 H) i3 hs ht hp i2 (fun D1 v1 v2 v3 v4 v5 v6 v7 v8 => ?_)
      simp only [Option.toList_some, Option.toList_none, List.cons_append, List.nil_append]
      have v1' : pcFr D1 D := fun a a1 a2 a3 => by rw [v1 a a1 a2 a3]; exact i1 a a1 a2 a3
      rw [seg2_81 (ha0 := ho82) (ha1 := ho3), v2, i6]
      by_cases e : j = x2
      · rw [brF (c := j ≠ x2) (fun q => q e)]
        refine hq D1 j _ t _ (i5 1 _ ?_) v1' (by rw [v2, i6]) v5 v3 v4 v6 v7
        simp only [pcR]
        rw [b1, if_neg (by omega), if_pos e, b2]
      · rw [brT (c := j ≠ x2) e, cnX (by omega), cnX (by omega)]
        refine ih (x6 + 1) (j + 1) (pcS A f s t) _ (by omega) (by omega) ⟨?_, ?_, s1, ?_, ?_, ?_, ?_⟩ (by omega) (by omega)
        · intro a a1 a2 a3
          rw [up_ne a1]; exact v1' a a1 a2 a3
        · rw [up_ne (by decide)]; exact v8
        · intro s' t' a1 a2 a3 a4 a5
          exact Int.le_trans (s2 _) (i4 s' t' a1 a2 a3 a4 a5)
        · intro k r hr
          refine i5 (k + 1) r ?_
          simp only [pcR]
          rw [b1, if_neg (by omega), if_neg e, b2]
          exact hr
        · rw [up_eq]
        · omega
theorem l2m (hA : pcOk A) (H : pcH D A) {G : Int × Option (Int × Int × List (Int × Int)) → Prop} (ht : 0 ≤ t ∧ t ≤ 12)
    (hq : ∀ (D' : xD) (j p t : Int) (L : List (Int × Int)), G (j, some (p, t, L)) → pcFr D' D → D' 82 5 = j → D' 82 4 = p → D' 82 3 = t → D' 82 2 = L.length → liAt (D' 84) L 0 → (L.length : Int) ≤ 13 → Q (some (.inl 1)) D')
    (hn : ∀ (D' : xD) (f : Int → Int) (j : Int) (o4 o5 o6 : Option xv), pcI A x2 G D' D (t + 1) 0 j f → j ≤ 30 * (16 * (t + 1)) → WP 124 xF1 none 2 23 [some (.inr (.inr (some 82))), some (.inr (.inr (some 3))), some (.inl x2), some (.inl (t + 1)), o4, o5, o6] [] D' Q) :
    ∀ (k : Nat) (s j : Int) (f : Int → Int) (o5 o6 : Option xv) (D' : xD), A 0 = s + k → 0 ≤ s → pcI A x2 G D' D t s j f → j ≤ 30 * (16 * t + s) → WP 124 xF1 none 2 32 [some (.inr (.inr (some 82))), some (.inr (.inr (some 3))), some (.inl x2), some (.inl t), some (.inl s), o5, o6] [] D' Q := by
  have w0 := hA.1
  intro k
  induction k with
  | zero =>
    intro s j f o5 o6 D' h1 h2 hI hj
    obtain ⟨i1, i2, i3, i4, i5, i6, i7⟩ := id hI
    rw [seg2_32 (ha0 := ho82) (ha1 := ho3)]
    simp only [Nat.reduceAdd]
    rw [brT (c := D' 4 11 ≤ s) (by rw [(pcH_fr i1 H).1]; omega), cnX (by omega)]
    refine hn D' f j _ _ _ ⟨i1, i2, i3, fun s' t' a1 a2 a3 a4 a5 => ?_, i5, i6, i7⟩ (by omega)
    exact i4 s' t' a1 a2 a3 a4 (by omega)
  | succ k ih =>
    intro s j f o5 o6 D' h1 h2 hI hj
    obtain ⟨i1, i2, i3, i4, i5, i6, i7⟩ := id hI
    rw [seg2_32 (ha0 := ho82) (ha1 := ho3)]
    simp only [Nat.reduceAdd]
    rw [brF (c := D' 4 11 ≤ s) (by rw [(pcH_fr i1 H).1]; omega), cnX (by omega), cnX (by omega)]
    refine l2i hA H ⟨h2, by omega⟩ ht hq (fun D1 f1 j1 u6 hI1 hj1 => ?_) 30 0 j f D' (by omega) (by omega) hI (by have := i3 (13 * s + t) (by omega) (by omega); omega) (by omega)
    rw [seg2_107 (ha0 := ho82) (ha1 := ho3), cnX (by omega)]
    exact ih (s + 1) j1 f1 _ _ D1 (by omega) (by omega) hI1 (by omega)
theorem l2o (hA : pcOk A) (H : pcH D A) {G : Int × Option (Int × Int × List (Int × Int)) → Prop}
    (hq : ∀ (D' : xD) (j p t : Int) (L : List (Int × Int)), G (j, some (p, t, L)) → pcFr D' D → D' 82 5 = j → D' 82 4 = p → D' 82 3 = t → D' 82 2 = L.length → liAt (D' 84) L 0 → (L.length : Int) ≤ 13 → Q (some (.inl 1)) D')
    (hn : ∀ (D' : xD) (j : Int), G (j, none) → pcFr D' D → D' 82 5 = j → Q (some (.inl 0)) D') :
    ∀ (k : Nat) (t j : Int) (f : Int → Int) (o4 o5 o6 : Option xv) (D' : xD), 13 = t + k → 0 ≤ t → pcI A x2 G D' D t 0 j f → j ≤ 30 * (16 * t) → WP 124 xF1 none 2 23 [some (.inr (.inr (some 82))), some (.inr (.inr (some 3))), some (.inl x2), some (.inl t), o4, o5, o6] [] D' Q := by
  have w0 := hA.1
  intro k
  induction k with
  | zero =>
    intro t j f o4 o5 o6 D' h1 h2 hI hj
    obtain ⟨i1, i2, i3, i4, i5, i6, i7⟩ := id hI
    rw [seg2_23 (ha0 := ho82) (ha1 := ho3), brT (c := 13 ≤ t) (by omega)]
    refine hn D' j (i5 1 _ ?_) i1 i6
    simp only [pcR]
    rw [if_pos (pcB_no (fun s' t' a1 a2 a3 a4 => i4 s' t' a1 a2 a3 a4 (by omega)))]
  | succ k ih =>
    intro t j f o4 o5 o6 D' h1 h2 hI hj
    rw [seg2_23 (ha0 := ho82) (ha1 := ho3), brF (c := 13 ≤ t) (by omega)]
    refine l2m hA H (by omega) hq (fun D1 f1 j1 v4 v5 v6 hI1 hj1 => ?_) (A 0).toNat 0 j f _ _ D' (by omega) (by omega) hI (by omega)
    exact ih (t + 1) j1 f1 _ _ _ D1 (by omega) (by omega) hI1 hj1
theorem m2 (hA : pcOk A) (H : pcH D A) (hf : pcBd f) (ha : pcAg (D 20) f)
    (hq : ∀ (D' : xD) (k : Nat) (j p t : Int) (L : List (Int × Int)), pcR A x2 k f 0 = some (j, some (p, t, L)) → pcFr D' D → D' 82 5 = j → D' 82 4 = p → D' 82 3 = t → D' 82 2 = L.length → liAt (D' 84) L 0 → (L.length : Int) ≤ 13 → Q (some (.inl 1)) D')
    (hn : ∀ (D' : xD) (k : Nat) (j : Int), pcR A x2 k f 0 = some (j, none) → pcFr D' D → D' 82 5 = j → Q (some (.inl 0)) D') : WP 124 xF1 none 2 0 [some (.inr (.inr (some 82))), some (.inr (.inr (some 3))), some (.inl x2), none, none, none, none] [] D Q := by
  rw [seg2_0 (ha0 := ho82) (ha1 := ho3), cnT (by decide)]
  simp only [Nat.reduceAdd]
  refine l2o hA H (G := fun r => ∃ k, pcR A x2 k f 0 = some r) (fun D' j p t L ⟨k, hk⟩ v1 v2 v3 v4 v5 v6 v7 => hq D' k j p t L hk v1 v2 v3 v4 v5 v6 v7) (fun D' j ⟨k, hk⟩ v1 v2 => hn D' k j hk v1 v2) 13 0 0 f _ _ _ _ (by omega) (by omega) ⟨?_, ?_, hf, ?_, ?_, ?_, ?_⟩ (by omega)
  · intro a a1 a2 a3
    rw [up_ne a1, cpy_ne a2]
  · intro c c1 c2
    rw [up_ne (by decide), cpy_in ⟨c1, c2⟩]
    exact ha c c1 c2
  · intro s' t' a1 a2 a3 a4 a5
    omega
  · intro k r hr
    exact ⟨k, hr⟩
  · rw [up_eq]
  · omega
end M50

