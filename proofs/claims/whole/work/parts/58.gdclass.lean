/-! the signs that bring people out soonest: the class -/
theorem hl93 : xalen none 124 93 = some 8 := rfl
def gcF (D' D : xD) : Prop := ∀ a, a ≠ 86 → a ≠ 87 → a ≠ 88 → a ≠ 89 → a ≠ 90 → a ≠ 93 → a ≠ 94 → D' a = D a
section M58
variable {x1 x2 x3 x4 x5 x6 s t p fs fm m : Int} {D D' : xD} {T c e b : Int → Int} {Q : Option xv → xD → Prop}
theorem m86 (hT : tnW T) (H : tnC D T) (hx : -1 ≤ x2 ∧ x2 < 16) (hx2 : x2 < T 0 ∨ x2 = -1) : WP 124 xF1 none 86 0 [some (.inr (.inr (some 3))), some (.inl x1), some (.inl x2), none] [] D Q = Q (some (.inl (nfT T x1 x2))) D := by
  obtain ⟨⟨w0, w1, w2, w3⟩, ws, -⟩ := hT
  have e0 := H.1.1
  rw [seg86_0 (ha0 := ho3), cnX (by omega), o86 (T 0 - (x2 + 1)).toNat (x2 + 1) (by omega) (by omega) (by omega)]
  refine cgQ (fsI_congr _ _ (fun j j1 j2 => ?_))
  rw [(H.2.1 j (by omega) (by omega)).1.1]
theorem l12 (hT : tnW T) (H : tnC D T) : ∀ (k : Nat) (x2 x3 : Int), T 0 = x3 + k → 0 ≤ x3 → 0 ≤ x2 → x2 ≤ x3 → WP 124 xF1 none 12 4 [some (.inr (.inr (some 3))), some (.inl x1), some (.inl x2), some (.inl x3)] [] D Q = Q (some (.inl (max 1 (x2 + smI (fun q => if frM T q = x1 then 1 else 0) x3 k)))) D := by
  obtain ⟨⟨w0, w1, w2, w3⟩, ws, -⟩ := hT
  have e0 := H.1.1
  intro k
  induction k with
  | zero =>
    intro x2 x3 h1 h2 h3 h4
    rw [seg12_4 (ha0 := ho3)]
    simp only [Nat.reduceAdd]
    rw [brT (c := D 4 11 ≤ x3) (by omega)]
    simp only [smI, Int.add_zero]
  | succ k ih =>
    intro x2 x3 h1 h2 h3 h4
    rw [seg12_4 (ha0 := ho3)]
    simp only [Nat.reduceAdd]
    rw [brF (c := D 4 11 ≤ x3) (by omega), n78 (by omega), (H.2.1 x3 (by omega) (by omega)).1.1]
    simp only [Option.toList_some, Option.toList_none, List.cons_append, List.nil_append]
    rw [seg12_21 (ha0 := ho3)]
    simp only [smI]
    by_cases c : frM T x3 = x1
    · rw [brF (c := frM T x3 ≠ x1) (fun z => z c), seg12_30 (ha0 := ho3), cnX (by omega), cnX (by omega), ih _ _ (by omega) (by omega) (by omega) (by omega), if_pos c, Int.add_assoc]
    · rw [brT (c := frM T x3 ≠ x1) c, seg12_30 (ha0 := ho3), cnX (by omega), cnX (by omega), ih _ _ (by omega) (by omega) (by omega) (by omega), if_neg c, Int.add_assoc]
theorem m12 (hT : tnW T) (H : tnC D T) : WP 124 xF1 none 12 0 [some (.inr (.inr (some 3))), some (.inl x1), none, none] [] D Q = Q (some (.inl (mxT T x1))) D := by
  rw [seg12_0 (ha0 := ho3), l12 hT H (T 0).toNat 0 0 (by have := hT.1; omega) (by omega) (by omega) (by omega), Int.zero_add]
  unfold mxT cnT'
  rw [show (-1 : Int) + 1 = 0 by decide, show T 0 - 0 = T 0 by omega]
theorem l13 (hT : tnW T) (H : tnC D T) (hm : 0 ≤ x3 ∧ x3 ≤ 12) : ∀ (k : Nat) (c : Int → Int) (D' : xD) (o5 : Option xv), k ≤ 8 → chOk T c → (∀ a, a ≠ 86 → a ≠ 93 → D' a = D a) → (∀ p, 0 ≤ p → p < 8 → D' 93 p = c p) → (∀ p t, 0 ≤ p → p < 8 → 0 ≤ t → t ≤ 12 → D' 86 (13 * p + t) = glP e x3 c p t) →
    (∀ D'' : xD, (∀ a, a ≠ 86 → a ≠ 93 → D'' a = D a) → (∀ p, 0 ≤ p → p < 8 → D'' 93 p = (gnN T k c).1 p) → (∀ p t, 0 ≤ p → p < 8 → 0 ≤ t → t ≤ 12 → D'' 86 (13 * p + t) = glP e x3 (gnN T k c).1 p t) → Q none D'') →
    WP 124 xF1 none 13 4 [some (.inr (.inr (some 91))), some (.inr (.inr (some 3))), some (.inr (.inr (some 85))), some (.inl x3), some (.inl ((k : Int) - 1)), o5] [] D' Q := by
  obtain ⟨⟨w0, w1, w2, w3⟩, ws, -⟩ := id hT
  intro k
  induction k with
  | zero =>
    intro c D' o5 hk hc hF h93 h86 hq
    rw [seg13_4 (ha0 := ho91) (ha1 := ho3) (ha2 := ho85), brT (c := ((0 : Nat) : Int) - 1 < 0) (by omega)]
    exact hq D' hF h93 h86
  | succ k ih =>
    intro c D' o5 hk hc hF h93 h86 hq
    have H' : tnC D' T := tnC_fr (fun a a1 a2 => hF a (by omega) (by omega)) H
    have ek : ((k + 1 : Nat) : Int) - 1 = (k : Int) := by omega
    have hck := hc k (by omega) (by omega)
    rw [ek, seg13_4 (ha0 := ho91) (ha1 := ho3) (ha2 := ho85), brF (c := (k : Int) < 0) (by omega), cnB (by omega)]
    simp only [Nat.reduceAdd]
    rw [h93 k (by omega) (by omega)]
    simp only [gnN] at hq
    have ek2 : (k : Int) + -1 = (k : Int) - 1 := by omega
    by_cases c1 : c k = -1
    · rw [if_pos c1] at hq
      rw [brF (c := c k ≠ -1) (fun z => z c1), seg13_84 (ha0 := ho91) (ha1 := ho3) (ha2 := ho85), cnX (by omega), ek2]
      exact ih c D' _ (by omega) hc hF h93 h86 hq
    · rw [if_neg c1] at hq
      have hr := hck.resolve_left (fun z => c1 z.1)
      rw [brT (c := c k ≠ -1) c1, cnB (by omega), m86 hT H' (by omega) (.inl hr.1.2)]
      simp only [Option.toList_some, Option.toList_none, List.cons_append, List.nil_append]
      rw [seg13_36 (ha0 := ho91) (ha1 := ho3) (ha2 := ho85)]
      -- what is set, and the plan behind it
      have set1 : ∀ (v x5 : Int), ((0 ≤ v ∧ v < T 0) ∧ frM T v = k) → (∀ D2 : xD, (∀ a, a ≠ 86 → a ≠ 93 → D2 a = D a) → (∀ p, 0 ≤ p → p < 8 → D2 93 p = (fun j => if j = (k : Int) then v else c j) p) → (∀ p t, 0 ≤ p → p < 8 → 0 ≤ t → t ≤ 12 → D2 86 (13 * p + t) = glP e x3 (fun j => if j = (k : Int) then v else c j) p t) → WP 124 xF1 none 13 77 [some (.inr (.inr (some 91))), some (.inr (.inr (some 3))), some (.inr (.inr (some 85))), some (.inl x3), some (.inl (k : Int)), some (.inl x5)] [] D2 Q) → WP 124 xF1 none 13 62 [some (.inr (.inr (some 91))), some (.inr (.inr (some 3))), some (.inr (.inr (some 85))), some (.inl x3), some (.inl (k : Int)), some (.inl x5)] [.inl v, .inl (k : Int), .inr (.inr (some 93))] D' Q := by
        intro v x5 hv hn
        rw [seg13_62 (ha0 := ho91) (ha1 := ho3) (ha2 := ho85) (hb2 := hl93), cnB (by omega), cnB (by omega)]
        simp only [Nat.reduceAdd]
        rw [up_eq, m104 (by omega) (by omega)]
        simp only [Option.toList_some, Option.toList_none, List.cons_append, List.nil_append]
        refine hn _ (fun a a1 a2 => by rw [fil_ne a1, up_ne a2]; exact hF a a1 a2) (fun p p1 p2 => ?_) (fun p t p1 p2 t1 t2 => ?_)
        · rw [fil_ne (by decide), up_at]
          show _ = if p = (k : Int) then v else c p
          by_cases q : p = (k : Int)
          · rw [if_pos q, if_pos q]
          · rw [if_neg q, if_neg q]; exact h93 p p1 p2
        · unfold xfil glP
          by_cases q : p = (k : Int) ∧ x3 ≤ t
          · rw [if_pos ⟨rfl, by omega, by omega⟩, if_neg (by omega)]
            show v = if p = (k : Int) then v else c p
            rw [if_pos q.1]
          · rw [if_neg (by omega), up_ne (by decide), h86 p t p1 p2 t1 t2]
            unfold glP
            by_cases q2 : 0 ≤ t ∧ t < x3
            · rw [if_pos q2, if_pos q2]
            · rw [if_neg q2, if_neg q2]
              show c p = if p = (k : Int) then v else c p
              rw [if_neg (by omega)]
      by_cases c2 : nfT T k (c k) = -1
      · rw [if_pos c2] at hq
        rw [brT c2, m86 hT H' (by omega) (.inr rfl)]
        simp only [Option.toList_some, Option.toList_none, List.cons_append, List.nil_append]
        have zf : (0 ≤ nfT T k (-1) ∧ nfT T k (-1) < T 0) ∧ frM T (nfT T k (-1)) = k := by
          rcases nf_spec (T := T) (p := k) (s := -1) (by omega) with ⟨h1, h2⟩ | ⟨h1, h2, h3⟩
          · exfalso
            unfold nfT at h1
            rcases fsI_spec (P := fun q => frM T q = (k : Int)) (T 0 - (-1 + 1)).toNat (-1 + 1) with ⟨-, y⟩ | ⟨y, -⟩
            · exact y (c k) (by omega) (by omega) hr.2
            · omega
          · exact ⟨⟨by omega, h1.2⟩, h2⟩
        rw [c2]
        refine set1 _ (-1) zf (fun D2 f1 f2 f3 => ?_)
        rw [seg13_77 (ha0 := ho91) (ha1 := ho3) (ha2 := ho85), brT rfl, seg13_84 (ha0 := ho91) (ha1 := ho3) (ha2 := ho85), cnX (by omega), ek2]
        exact ih _ D2 _ (by omega) (ch_up hc zf) f1 f2 f3 hq
      · rw [if_neg c2] at hq
        rw [brF c2]
        obtain ⟨h1, h2, h3⟩ := (nf_spec (T := T) (p := k) (s := c k) (by omega)).resolve_left (fun z => c2 z.1)
        refine set1 _ _ ⟨⟨by omega, h1.2⟩, h2⟩ (fun D2 f1 f2 f3 => ?_)
        rw [seg13_77 (ha0 := ho91) (ha1 := ho3) (ha2 := ho85), brF c2]
        exact hq D2 f1 f2 f3
theorem l11b (hT : tnW T) (H : tnC D T) (h5 : D 85 5 = fs) (h6 : D 85 6 = fm) (hm : 0 ≤ x3 ∧ x3 ≤ 12) (he : 0 < x3 → chOk T e) (hx4 : x4 ≤ 65536) : ∀ (n : Nat) (c b : Int → Int) (w x6 : Int) (D' : xD) (o7 : Option xv), x4 = x6 + n → 0 ≤ x6 → chOk T c → gcF D' D → (∀ p, 0 ≤ p → p < 8 → D' 93 p = c p) → (∀ p, 0 ≤ p → p < 8 → D' 94 p = b p) → (∀ p t, 0 ≤ p → p < 8 → 0 ≤ t → t ≤ 12 → D' 86 (13 * p + t) = glP e x3 c p t) →
    (∀ D'' : xD, gcF D'' D → (∀ p, 0 ≤ p → p < 8 → D'' 94 p = (bsL T fs fm e x3 n c w b).2 p) → Q (some (.inl (bsL T fs fm e x3 n c w b).1)) D'') →
    WP 124 xF1 none 11 74 [some (.inr (.inr (some 91))), some (.inr (.inr (some 3))), some (.inr (.inr (some 85))), some (.inl x3), some (.inl x4), some (.inl w), some (.inl x6), o7] [] D' Q := by
  intro n
  induction n with
  | zero =>
    intro c b w x6 D' o7 h1 h2 hc hF h93 h94 h86 hq
    rw [seg11_74 (ha0 := ho91) (ha1 := ho3) (ha2 := ho85), brT (c := x4 ≤ x6) (by omega)]
    exact hq D' hF h94
  | succ n ih =>
    intro c b w x6 D' o7 h1 h2 hc hF h93 h94 h86 hq
    have H' : tnC D' T := tnC_fr (fun a a1 a2 => hF a (by omega) (by omega) (by omega) (by omega) (by omega) (by omega) (by omega)) H
    have e85 : D' 85 = D 85 := hF 85 (by decide) (by decide) (by decide) (by decide) (by decide) (by decide) (by decide)
    rw [seg11_74 (ha0 := ho91) (ha1 := ho3) (ha2 := ho85), brF (c := x4 ≤ x6) (by omega)]
    refine m108 (fs := fs) (fm := fm) (P := glP e x3 c) (n := 13) hT H' (gl_ok hc he) (by rw [e85]; exact h5) (by rw [e85]; exact h6) (by omega) (by omega) h86 (fun D1 f1 f2 => ?_)
    simp only [Option.toList_some, Option.toList_none, List.cons_append, List.nil_append]
    have F1 : gcF D1 D := fun a a1 a2 a3 a4 a5 a6 a7 => by rw [f1 a a2 a3 a4 a5]; exact hF a a1 a2 a3 a4 a5 a6 a7
    have k93 : ∀ p, 0 ≤ p → p < 8 → D1 93 p = c p := fun p p1 p2 => by rw [f1 93 (by decide) (by decide) (by decide) (by decide)]; exact h93 p p1 p2
    have k94 : ∀ p, 0 ≤ p → p < 8 → D1 94 p = b p := fun p p1 p2 => by rw [f1 94 (by decide) (by decide) (by decide) (by decide)]; exact h94 p p1 p2
    have k86 : ∀ p t, 0 ≤ p → p < 8 → 0 ≤ t → t ≤ 12 → D1 86 (13 * p + t) = glP e x3 c p t := fun p t p1 p2 t1 t2 => by rw [f1 86 (by decide) (by decide) (by decide) (by decide)]; exact h86 p t p1 p2 t1 t2
    obtain ⟨g1, -, -⟩ := gn_spec 8 c (by omega) hc
    have go : ∀ (w' : Int) (b' : Int → Int) (D2 : xD) (o7 : Option xv), gcF D2 D → (∀ p, 0 ≤ p → p < 8 → D2 93 p = c p) → (∀ p, 0 ≤ p → p < 8 → D2 94 p = b' p) → (∀ p t, 0 ≤ p → p < 8 → 0 ≤ t → t ≤ 12 → D2 86 (13 * p + t) = glP e x3 c p t) → (∀ D'' : xD, gcF D'' D → (∀ p, 0 ≤ p → p < 8 → D'' 94 p = (bsL T fs fm e x3 n (gnN T 8 c).1 w' b').2 p) → Q (some (.inl (bsL T fs fm e x3 n (gnN T 8 c).1 w' b').1)) D'') → WP 124 xF1 none 11 116 [some (.inr (.inr (some 91))), some (.inr (.inr (some 3))), some (.inr (.inr (some 85))), some (.inl x3), some (.inl x4), some (.inl w'), some (.inl x6), some (.inl (wkZ T fs fm (glP e x3 c) 13))] [] D2 Q := by
      intro w' b' D2 o7 F2 q93 q94 q86 hq2
      have H2 : tnC D2 T := tnC_fr (fun a a1 a2 => F2 a (by omega) (by omega) (by omega) (by omega) (by omega) (by omega) (by omega)) H
      rw [seg11_116 (ha0 := ho91) (ha1 := ho3) (ha2 := ho85), seg13_0 (ha0 := ho91) (ha1 := ho3) (ha2 := ho85)]
      refine l13 (e := e) (D := D2) hT H2 hm 8 c D2 _ (by omega) hc (fun _ _ _ => rfl) q93 q86 (fun D3 r1 r2 r3 => ?_)
      simp only [Option.toList_some, Option.toList_none, List.cons_append, List.nil_append]
      rw [seg11_123 (ha0 := ho91) (ha1 := ho3) (ha2 := ho85), cnX (by omega)]
      refine ih _ b' w' (x6 + 1) D3 _ (by omega) (by omega) g1 (fun a a1 a2 a3 a4 a5 a6 a7 => by rw [r1 a a1 a6]; exact F2 a a1 a2 a3 a4 a5 a6 a7) r2 (fun p p1 p2 => by rw [r1 94 (by decide) (by decide)]; exact q94 p p1 p2) r3 hq2
    simp only [bsL] at hq
    rw [seg11_88 (ha0 := ho91) (ha1 := ho3) (ha2 := ho85)]
    by_cases cw : w < wkZ T fs fm (glP e x3 c) 13
    · rw [if_pos cw] at hq
      rw [brF (c := wkZ T fs fm (glP e x3 c) 13 ≤ w) (by omega), cnT (by decide)]
      simp only [Nat.reduceAdd]
      refine go _ c _ o7 (fun a a1 a2 a3 a4 a5 a6 a7 => by rw [cpy_ne a7]; exact F1 a a1 a2 a3 a4 a5 a6 a7) (fun p p1 p2 => by rw [cpy_ne (by decide)]; exact k93 p p1 p2) (fun p p1 p2 => by rw [cpy_in ⟨p1, p2⟩]; exact k93 p p1 p2) (fun p t p1 p2 t1 t2 => by rw [cpy_ne (by decide)]; exact k86 p t p1 p2 t1 t2) hq
    · rw [if_neg cw] at hq
      rw [brT (c := wkZ T fs fm (glP e x3 c) 13 ≤ w) (by omega)]
      exact go _ b _ o7 F1 k93 k94 k86 hq
theorem l11a (hT : tnW T) (H : tnC D T) (hm : 0 ≤ x3 ∧ x3 ≤ 12) {o6 o7 : Option xv} (hp : prN T 8 ≤ 4096 → ∀ p t, 0 ≤ p → p < 8 → 0 ≤ t → t < x3 → D 86 (13 * p + t) = e p)
    (hq : ∀ D'' : xD, (∀ a, a ≠ 86 → a ≠ 93 → D'' a = D a) → (∀ p, 0 ≤ p → p < 8 → D'' 93 p = fiT T p) → (prN T 8 ≤ 4096 → ∀ p t, 0 ≤ p → p < 8 → 0 ≤ t → t ≤ 12 → D'' 86 (13 * p + t) = glP e x3 (fiT T) p t) → WP 124 xF1 none 11 6 [some (.inr (.inr (some 91))), some (.inr (.inr (some 3))), some (.inr (.inr (some 85))), some (.inl x3), some (.inl (prN T 8)), some (.inl (8 : Nat)), o6, o7] [] D'' Q) :
    ∀ (k n : Nat) (D' : xD), 8 = n + k → (∀ a, a ≠ 86 → a ≠ 93 → D' a = D a) → (∀ p : Int, 0 ≤ p → p < n → D' 93 p = fiT T p) → (prN T 8 ≤ 4096 → ∀ p t : Int, 0 ≤ p → p < 8 → 0 ≤ t → t ≤ 12 → (t < x3 → D' 86 (13 * p + t) = e p) ∧ (x3 ≤ t → p < n → D' 86 (13 * p + t) = fiT T p)) →
    WP 124 xF1 none 11 6 [some (.inr (.inr (some 91))), some (.inr (.inr (some 3))), some (.inr (.inr (some 85))), some (.inl x3), some (.inl (prN T n)), some (.inl n), o6, o7] [] D' Q := by
  have w := hT.1
  intro k
  induction k with
  | zero =>
    intro n D' h1 hF h93 h86
    have : n = 8 := by omega
    subst this
    refine hq D' hF h93 (fun h4 p t p1 p2 t1 t2 => ?_)
    obtain ⟨r1, r2⟩ := h86 h4 p t p1 p2 t1 t2
    unfold glP
    by_cases q : 0 ≤ t ∧ t < x3
    · rw [if_pos q]; exact r1 q.2
    · rw [if_neg q]; exact r2 (by omega) (by omega)
  | succ k ih =>
    intro n D' h1 hF h93 h86
    have H' : tnC D' T := tnC_fr (fun a a1 a2 => hF a (by omega) (by omega)) H
    have en : (n : Int) + 1 = ((n + 1 : Nat) : Int) := by omega
    have b1 := pr_bd hT (k := n + 1) (by omega)
    have b1' : 1 ≤ prN T n * mxT T n ∧ prN T n * mxT T n ≤ 65536 := b1
    rw [seg11_6 (ha0 := ho91) (ha1 := ho3) (ha2 := ho85), brF (c := (8 : Int) ≤ n) (by omega), m86 hT H' (by omega) (.inr rfl)]
    simp only [Option.toList_some, Option.toList_none, List.cons_append, List.nil_append, Nat.reduceAdd]
    rw [seg11_26 (ha0 := ho91) (ha1 := ho3) (ha2 := ho85) (hb2 := hl93), cnB (by omega)]
    have H1 : tnC (xup D' 93 n (nfT T n (-1))) T := tnC_fr (fun a a1 a2 => up_ne (by omega)) H'
    rw [m12 hT H1]
    simp only [Option.toList_some, Option.toList_none, List.cons_append, List.nil_append]
    rw [seg11_35 (ha0 := ho91) (ha1 := ho3) (ha2 := ho85), cnX (by omega), cnB (by omega)]
    simp only [Nat.reduceAdd]
    rw [up_eq, m104 (by omega) (by omega)]
    simp only [Option.toList_some, Option.toList_none, List.cons_append, List.nil_append]
    rw [seg11_52 (ha0 := ho91) (ha1 := ho3) (ha2 := ho85), cnX (by omega), en]
    show WP 124 xF1 none 11 6 [some (.inr (.inr (some 91))), some (.inr (.inr (some 3))), some (.inr (.inr (some 85))), some (.inl x3), some (.inl (prN T (n + 1))), some (.inl ((n + 1 : Nat) : Int)), o6, o7] [] _ Q
    refine ih (n + 1) _ (by omega) (fun a a1 a2 => by rw [fil_ne a1, up_ne a2]; exact hF a a1 a2) (fun p p1 p2 => ?_) (fun h4 p t p1 p2 t1 t2 => ?_)
    · rw [fil_ne (by decide), up_at]
      by_cases q : p = (n : Int)
      · rw [if_pos q, q]; rfl
      · rw [if_neg q]; exact h93 p p1 (by omega)
    · obtain ⟨r1, r2⟩ := h86 h4 p t p1 p2 t1 t2
      unfold xfil
      by_cases q : p = (n : Int) ∧ x3 ≤ t
      · rw [if_pos ⟨rfl, by omega, by omega⟩]
        refine ⟨fun z => by omega, fun _ _ => ?_⟩
        rw [q.1]; rfl
      · rw [if_neg (by omega), up_ne (by decide)]
        exact ⟨r1, fun z1 z2 => r2 z1 (by omega)⟩
theorem m11 (hT : tnW T) (H : tnC D T) (h5 : D 85 5 = fs) (h6 : D 85 6 = fm) (hm : 0 ≤ x3 ∧ x3 ≤ 12) (he : 0 < x3 → chOk T e) (hp : prN T 8 ≤ 4096 → ∀ p t, 0 ≤ p → p < 8 → 0 ≤ t → t < x3 → D 86 (13 * p + t) = e p)
    (q1 : prN T 8 ≤ 4096 → ∀ D'' : xD, gcF D'' D → (∀ p, 0 ≤ p → p < 8 → D'' 94 p = (bsV T fs fm e x3).2 p) → Q (some (.inl (bsV T fs fm e x3).1)) D'')
    (q2 : ¬ prN T 8 ≤ 4096 → ∀ D'' : xD, gcF D'' D → Q (some (.inl (-1))) D'') :
    WP 124 xF1 none 11 0 [some (.inr (.inr (some 91))), some (.inr (.inr (some 3))), some (.inr (.inr (some 85))), some (.inl x3), none, none, none, none] [] D Q := by
  rw [seg11_0 (ha0 := ho91) (ha1 := ho3) (ha2 := ho85)]
  refine l11a (e := e) (D := D) hT H hm hp (fun D1 f1 f2 f3 => ?_) 8 0 D rfl (fun _ _ _ => rfl) (fun p p1 p2 => by omega) (fun h4 p t p1 p2 t1 t2 => ⟨fun z => hp h4 p t p1 p2 t1 z, fun _ z => by omega⟩)
  have b1 := pr_bd hT (k := 8) (by omega)
  have F1 : gcF D1 D := fun a a1 a2 a3 a4 a5 a6 a7 => f1 a a1 a6
  rw [seg11_6 (ha0 := ho91) (ha1 := ho3) (ha2 := ho85), brT (c := (8 : Int) ≤ (8 : Nat)) (by omega)]
  by_cases c : prN T 8 ≤ 4096
  · rw [brT c]
    refine l11b (fs := fs) (fm := fm) (e := e) (D := D) hT H h5 h6 hm he b1.2 (prN T 8).toNat (fiT T) (D1 94) (-1) 0 D1 _ (by omega) (by omega) fi_ok F1 f2 (fun _ _ _ => rfl) (f3 c) ?_
    rw [bs_b0 (b' := fun _ => 0) hT (by omega) fi_ok he]
    exact q1 c
  · rw [brF c]
    exact q2 c D1 F1
theorem m103 : WP 124 xF1 none 103 0 [some (.inr (.inr (some 85))), some (.inl x1), some (.inl x2)] [] D Q = Q none (xup (xup D 85 5 x1) 85 6 x2) := by rw [seg103_0 (ha0 := ho85)]
/-- the best signs are known -/
def gbK (T : Int → Int) (D : xD) : Prop := D 91 0 = 1 ∧ D 91 2 = (if prN T 8 ≤ 4096 then (gdV T).1 else -1) ∧ (prN T 8 ≤ 4096 → ∀ p, 0 ≤ p → p < 8 → D 92 p = (gdV T).2 p)
theorem m8 (hT : tnW T) (H : tnC D T) (h5 : D 85 5 = -1) (hK : KG T (D 91) (D 92)) (hq : ∀ D'' : xD, (∀ a, a ≠ 91 → a ≠ 92 → a ≠ 86 → a ≠ 87 → a ≠ 88 → a ≠ 89 → a ≠ 90 → a ≠ 93 → a ≠ 94 → D'' a = D a) → gbK T D'' → Q none D'') :
    WP 124 xF1 none 8 0 [some (.inr (.inr (some 91))), some (.inr (.inr (some 3))), some (.inr (.inr (some 85)))] [] D Q := by
  rw [seg8_0 (ha0 := ho91) (ha1 := ho3) (ha2 := ho85)]
  rcases hK with h0 | ⟨h0, h2, h3⟩
  · rw [brF (c := D 91 0 ≠ 0) (fun z => z h0)]
    have H1 : tnC (xup D 91 0 1) T := tnC_fr (fun a a1 a2 => up_ne (by omega)) H
    have u85 : (xup D 91 0 1) 85 = D 85 := up_ne (by decide)
    have fin : ∀ (v : Int) (D1 : xD), gcF D1 (xup D 91 0 1) → v = (if prN T 8 ≤ 4096 then (gdV T).1 else -1) → (prN T 8 ≤ 4096 → ∀ p, 0 ≤ p → p < 8 → D1 94 p = (gdV T).2 p) → WP 124 xF1 none 8 20 [some (.inr (.inr (some 91))), some (.inr (.inr (some 3))), some (.inr (.inr (some 85)))] [.inl v, .inr (.inr (some 91))] D1 Q := by
      intro v D1 f1 hv hb
      rw [seg8_20 (ha0 := ho91) (ha1 := ho3) (ha2 := ho85) (hb1 := ho91), cnT (by decide)]
      simp only [Nat.reduceAdd]
      rw [seg8_38 (ha0 := ho91) (ha1 := ho3) (ha2 := ho85)]
      refine hq _ (fun a a1 a2 a3 a4 a5 a6 a7 a8 a9 => ?_) ⟨?_, ?_, fun h4 p p1 p2 => ?_⟩
      · rw [cpy_ne a2, up_ne a1, f1 a a3 a4 a5 a6 a7 a8 a9, up_ne a1]
      · rw [cpy_ne (by decide), up_ne2 (by decide), f1 91 (by decide) (by decide) (by decide) (by decide) (by decide) (by decide) (by decide), up_eq]
      · rw [cpy_ne (by decide), up_eq]; exact hv
      · rw [cpy_in ⟨p1, p2⟩, up_ne (by decide)]; exact hb h4 p p1 p2
    refine m11 (fs := -1) (fm := D 85 6) (e := fun _ => 0) hT H1 (by rw [u85]; exact h5) (by rw [u85]) (by omega) (fun z => by omega) (fun _ p t p1 p2 t1 t2 => by omega) (fun h4 D1 f1 f2 => ?_) (fun h4 D1 f1 => ?_)
    · simp only [Option.toList_some, Option.toList_none, List.cons_append, List.nil_append]
      have eB : bsV T (-1) (D 85 6) (fun _ => 0) 0 = gdV T := bs_m1 _ _ _ _
      rw [eB] at f2 ⊢
      exact fin _ D1 f1 (by rw [if_pos h4]) (fun _ => f2)
    · simp only [Option.toList_some, Option.toList_none, List.cons_append, List.nil_append]
      exact fin _ D1 f1 (by rw [if_neg h4]) (fun z => absurd z h4)
  · rw [brT (c := D 91 0 ≠ 0) (by omega), seg8_38 (ha0 := ho91) (ha1 := ho3) (ha2 := ho85)]
    exact hq D (fun _ _ _ _ _ _ _ _ _ _ => rfl) ⟨h0, h2, h3⟩
/-- what falls answers -/
def flV (T : Int → Int) (s m x : Int) : Int := if prN T 8 ≤ 4096 then (if x = 0 then (bsV T s m (fun _ => 0) 0).1 else (bsV T s m (gdV T).2 m).1) else -1
def glF (D' D : xD) : Prop := (∀ a, a ≠ 85 → a ≠ 86 → a ≠ 87 → a ≠ 88 → a ≠ 89 → a ≠ 90 → a ≠ 93 → a ≠ 94 → D' a = D a) ∧ D' 85 5 = -1
theorem m9 (hT : tnW T) (H : tnC D T) (hq : ∀ D'' : xD, glF D'' D → Q (some (.inl (flV T x3 x4 0))) D'') :
    WP 124 xF1 none 9 0 [some (.inr (.inr (some 91))), some (.inr (.inr (some 3))), some (.inr (.inr (some 85))), some (.inl x3), some (.inl x4), none] [] D Q := by
  rw [seg9_0 (ha0 := ho91) (ha1 := ho3) (ha2 := ho85), m103]
  simp only [Option.toList_some, Option.toList_none, List.cons_append, List.nil_append]
  rw [seg9_7 (ha0 := ho91) (ha1 := ho3) (ha2 := ho85)]
  have H1 : tnC (xup (xup D 85 5 x3) 85 6 x4) T := tnC_fr (fun a a1 a2 => by rw [up_ne (by omega), up_ne (by omega)]) H
  have fin : ∀ (v : Int) (D1 : xD), gcF D1 (xup (xup D 85 5 x3) 85 6 x4) → v = flV T x3 x4 0 → WP 124 xF1 none 9 14 [some (.inr (.inr (some 91))), some (.inr (.inr (some 3))), some (.inr (.inr (some 85))), some (.inl x3), some (.inl x4), none] [.inl v] D1 Q := by
    intro v D1 f1 hv
    rw [seg9_14 (ha0 := ho91) (ha1 := ho3) (ha2 := ho85), m103]
    simp only [Option.toList_some, Option.toList_none, List.cons_append, List.nil_append]
    rw [seg9_22 (ha0 := ho91) (ha1 := ho3) (ha2 := ho85), hv]
    refine hq _ ⟨fun a a1 a2 a3 a4 a5 a6 a7 a8 => ?_, ?_⟩
    · rw [up_ne a1, up_ne a1, f1 a a2 a3 a4 a5 a6 a7 a8, up_ne a1, up_ne a1]
    · rw [up_ne2 (by decide), up_eq]
  refine m11 (fs := x3) (fm := x4) (e := fun _ => 0) hT H1 (by rw [up_ne2 (by decide), up_eq]) (by rw [up_eq]) (by omega) (fun z => by omega) (fun _ p t p1 p2 t1 t2 => by omega) (fun h4 D1 f1 f2 => ?_) (fun h4 D1 f1 => ?_)
  · simp only [Option.toList_some, Option.toList_none, List.cons_append, List.nil_append]
    exact fin _ D1 f1 (by unfold flV; rw [if_pos h4, if_pos rfl])
  · simp only [Option.toList_some, Option.toList_none, List.cons_append, List.nil_append]
    exact fin _ D1 f1 (by unfold flV; rw [if_neg h4])
theorem l10 (hq : ∀ D'' : xD, (∀ a, a ≠ 86 → D'' a = D a) → (∀ p t, 0 ≤ p → p < 8 → 0 ≤ t → t ≤ 12 → D'' 86 (13 * p + t) = D 92 p) → WP 124 xF1 none 10 3 [some (.inr (.inr (some 91))), some (.inr (.inr (some 3))), some (.inr (.inr (some 85))), some (.inl x3), some (.inl x4), some (.inl 8)] [] D'' Q) : ∀ (k : Nat) (x5 : Int) (D' : xD), 8 = x5 + k → 0 ≤ x5 → (∀ a, a ≠ 86 → D' a = D a) → (∀ p t, 0 ≤ p → p < x5 → 0 ≤ t → t ≤ 12 → D' 86 (13 * p + t) = D 92 p) →
    WP 124 xF1 none 10 3 [some (.inr (.inr (some 91))), some (.inr (.inr (some 3))), some (.inr (.inr (some 85))), some (.inl x3), some (.inl x4), some (.inl x5)] [] D' Q := by
  intro k
  induction k with
  | zero =>
    intro x5 D' h1 h2 hF h86
    have : x5 = 8 := by omega
    subst this
    exact hq D' hF h86
  | succ k ih =>
    intro x5 D' h1 h2 hF h86
    rw [seg10_3 (ha0 := ho91) (ha1 := ho3) (ha2 := ho85), brF (c := 8 ≤ x5) (by omega), cnB (by omega)]
    simp only [Nat.reduceAdd]
    rw [m104 (by omega) (by omega), hF 92 (by decide)]
    simp only [Option.toList_some, Option.toList_none, List.cons_append, List.nil_append]
    rw [seg10_24 (ha0 := ho91) (ha1 := ho3) (ha2 := ho85), cnX (by omega)]
    refine ih (x5 + 1) _ (by omega) (by omega) (fun a a1 => by rw [fil_ne a1]; exact hF a a1) (fun p t p1 p2 t1 t2 => ?_)
    unfold xfil
    by_cases q : p = x5
    · rw [if_pos ⟨rfl, by omega, by omega⟩, q]
    · rw [if_neg (by omega)]; exact h86 p t p1 (by omega) t1 t2
theorem m10 (hT : tnW T) (H : tnC D T) (hx4 : 0 ≤ x4 ∧ x4 ≤ 12) (hb : prN T 8 ≤ 4096 → ∀ p, 0 ≤ p → p < 8 → D 92 p = (gdV T).2 p) (hq : ∀ D'' : xD, glF D'' D → Q (some (.inl (flV T x3 x4 1))) D'') :
    WP 124 xF1 none 10 0 [some (.inr (.inr (some 91))), some (.inr (.inr (some 3))), some (.inr (.inr (some 85))), some (.inl x3), some (.inl x4), none] [] D Q := by
  rw [seg10_0 (ha0 := ho91) (ha1 := ho3) (ha2 := ho85)]
  refine l10 (D := D) (fun D1 f1 f2 => ?_) 8 0 D (by omega) (by omega) (fun _ _ => rfl) (fun p t p1 p2 => by omega)
  rw [seg10_3 (ha0 := ho91) (ha1 := ho3) (ha2 := ho85), brT (c := (8 : Int) ≤ 8) (by decide), m103]
  simp only [Option.toList_some, Option.toList_none, List.cons_append, List.nil_append]
  rw [seg10_37 (ha0 := ho91) (ha1 := ho3) (ha2 := ho85)]
  have H1 : tnC (xup (xup D1 85 5 x3) 85 6 x4) T := tnC_fr (fun a a1 a2 => by rw [up_ne (by omega), up_ne (by omega), f1 a (by omega)]) H
  have fin : ∀ (v : Int) (D2 : xD), gcF D2 (xup (xup D1 85 5 x3) 85 6 x4) → v = flV T x3 x4 1 → WP 124 xF1 none 10 45 [some (.inr (.inr (some 91))), some (.inr (.inr (some 3))), some (.inr (.inr (some 85))), some (.inl x3), some (.inl x4), some (.inl 8)] [.inl v] D2 Q := by
    intro v D2 g1 hv
    rw [seg10_45 (ha0 := ho91) (ha1 := ho3) (ha2 := ho85), m103]
    simp only [Option.toList_some, Option.toList_none, List.cons_append, List.nil_append]
    rw [seg10_53 (ha0 := ho91) (ha1 := ho3) (ha2 := ho85), hv]
    refine hq _ ⟨fun a a1 a2 a3 a4 a5 a6 a7 a8 => ?_, ?_⟩
    · rw [up_ne a1, up_ne a1, g1 a a2 a3 a4 a5 a6 a7 a8, up_ne a1, up_ne a1, f1 a a2]
    · rw [up_ne2 (by decide), up_eq]
  refine m11 (fs := x3) (fm := x4) (e := (gdV T).2) hT H1 (by rw [up_ne2 (by decide), up_eq]) (by rw [up_eq]) hx4 (fun _ => gd_ok hT) (fun h4 p t p1 p2 t1 t2 => ?_) (fun h4 D2 g1 g2 => ?_) (fun h4 D2 g1 => ?_)
  · rw [up_ne (by decide), up_ne (by decide), f2 p t p1 p2 t1 (by omega)]; exact hb h4 p p1 p2
  · simp only [Option.toList_some, Option.toList_none, List.cons_append, List.nil_append]
    exact fin _ D2 g1 (by unfold flV; rw [if_pos h4, if_neg (by decide)])
  · simp only [Option.toList_some, Option.toList_none, List.cons_append, List.nil_append]
    exact fin _ D2 g1 (by unfold flV; rw [if_neg h4])
end M58
