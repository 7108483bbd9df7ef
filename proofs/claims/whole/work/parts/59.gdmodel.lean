/-! the signs that bring people out soonest: the model -/
theorem hl121 : xalen none 124 121 = some 8 := rfl
def gmF (D' D : xD) : Prop := (∀ a, a ≠ 95 → a ≠ 114 → a ≠ 115 → a ≠ 116 → a ≠ 117 → a ≠ 118 → a ≠ 120 → a ≠ 121 → a ≠ 122 → D' a = D a) ∧ ∀ i, i ≠ 41 → i ≠ 42 → i ≠ 46 → D' 95 i = D 95 i
section M59
variable {x1 x2 x3 x4 x5 s t p fs fm m : Int} {D D' : xD} {T c e b : Int → Int} {Q : Option xv → xD → Prop}
theorem m230 (hT : tnW T) (H : tnM (D 96) T) (hx : -1 ≤ x2 ∧ x2 < 16) (hx2 : x2 < T 0 ∨ x2 = -1) : WP 124 xF1 none 230 0 [some (.inr (.inr (some 95))), some (.inl x1), some (.inl x2), none] [] D Q = Q (some (.inl (nfT T x1 x2))) D := by
  obtain ⟨⟨w0, w1, w2, w3⟩, ws, -⟩ := hT
  have e0 := H 0 (by decide)
  rw [seg230_0 (ha0 := ho95), cnX (by omega), o230 (T 0 - (x2 + 1)).toNat (x2 + 1) (by omega) (by omega) (by omega)]
  refine cgQ (fsI_congr _ _ (fun j j1 j2 => ?_))
  rw [(frM_cg2 H (by omega)).1]
theorem l231i (hT : tnW T) (H : tnM (D 96) T) : ∀ (k : Nat) (x3 x4 : Int), T 0 = x4 + k → 0 ≤ x4 → 0 ≤ x3 → x3 ≤ x4 → (1 ≤ x1 * mxT T x2 ∧ x1 * mxT T x2 ≤ 65536) → x3 + smI (fun q => if frM T q = x2 then 1 else 0) x4 k = cnT' T x2 (-1) → (∀ (u3 u4 : Int), WP 124 xF1 none 231 58 [some (.inr (.inr (some 95))), some (.inl (x1 * mxT T x2)), some (.inl x2), some (.inl u3), some (.inl u4)] [] D Q) → WP 124 xF1 none 231 15 [some (.inr (.inr (some 95))), some (.inl x1), some (.inl x2), some (.inl x3), some (.inl x4)] [] D Q := by
  obtain ⟨⟨w0, w1, w2, w3⟩, ws, -⟩ := id hT
  have e0 := H 0 (by decide)
  intro k
  induction k with
  | zero =>
    intro x3 x4 h1 h2 h3 h4 hb hs hq
    simp only [smI, Int.add_zero] at hs
    rw [seg231_15 (ha0 := ho95), cnB (by omega)]
    simp only [Nat.reduceAdd]
    rw [brT (c := D 96 0 ≤ x4) (by omega)]
    have hm : mxT T x2 = max 1 x3 := by unfold mxT; rw [hs]
    by_cases c : x3 ≤ 0
    · rw [brT c]
      have := hq x3 x4
      rw [hm, show max 1 x3 = 1 by omega, Int.mul_one] at this
      exact this
    · rw [hm, show max 1 x3 = x3 by omega] at hb
      rw [brF c, cnX (by omega)]
      have := hq x3 x4
      rw [hm, show max 1 x3 = x3 by omega] at this
      exact this
  | succ k ih =>
    intro x3 x4 h1 h2 h3 h4 hb hs hq
    simp only [smI] at hs
    rw [seg231_15 (ha0 := ho95), cnB (by omega)]
    simp only [Nat.reduceAdd]
    rw [brF (c := D 96 0 ≤ x4) (by omega), n177 (by omega), (frM_cg2 H (by omega)).1]
    simp only [Option.toList_some, Option.toList_none, List.cons_append, List.nil_append]
    rw [seg231_33 (ha0 := ho95)]
    by_cases c : frM T x4 = x2
    · rw [if_pos c] at hs
      rw [brF (c := frM T x4 ≠ x2) (fun z => z c), seg231_42 (ha0 := ho95), cnX (by omega), cnX (by omega)]
      exact ih _ _ (by omega) (by omega) (by omega) (by omega) hb (by omega) hq
    · rw [if_neg c] at hs
      rw [brT (c := frM T x4 ≠ x2) c, seg231_42 (ha0 := ho95), cnX (by omega), cnX (by omega)]
      exact ih _ _ (by omega) (by omega) (by omega) (by omega) hb (by omega) hq
theorem l231 (hT : tnW T) (H : tnM (D 96) T) (q0 : prN T 8 ≤ 4096 → Q (some (.inl 0)) D) (q1 : ¬ prN T 8 ≤ 4096 → Q (some (.inl 1)) D) : ∀ (k n : Nat) (o3 o4 : Option xv), 8 = n + k → prN T n ≤ 4096 → WP 124 xF1 none 231 4 [some (.inr (.inr (some 95))), some (.inl (prN T n)), some (.inl n), o3, o4] [] D Q := by
  intro k
  induction k with
  | zero =>
    intro n o3 o4 h1 h2
    rw [seg231_4 (ha0 := ho95), brT (c := (8 : Int) ≤ n) (by omega)]
    exact q0 (by rw [show (8 : Nat) = n by omega]; exact h2)
  | succ k ih =>
    intro n o3 o4 h1 h2
    have b1 := pr_bd hT (k := n + 1) (by omega)
    have b1' : 1 ≤ prN T n * mxT T n ∧ prN T n * mxT T n ≤ 65536 := b1
    have en : (n : Int) + 1 = ((n + 1 : Nat) : Int) := by omega
    rw [seg231_4 (ha0 := ho95), brF (c := (8 : Int) ≤ n) (by omega)]
    refine l231i hT H (T 0).toNat 0 0 (by have := hT.1; omega) (by omega) (by omega) (by omega) b1' ?_ (fun u3 u4 => ?_)
    · unfold cnT'
      rw [show (-1 : Int) + 1 = 0 by decide, show T 0 - 0 = T 0 by omega, Int.zero_add]
    · show WP 124 xF1 none 231 58 [some (.inr (.inr (some 95))), some (.inl (prN T (n + 1))), some (.inl (n : Int)), some (.inl u3), some (.inl u4)] [] D Q
      rw [seg231_58 (ha0 := ho95)]
      by_cases c : prN T (n + 1) ≤ 4096
      · rw [brT c, cnX (by omega), en]
        exact ih (n + 1) _ _ (by omega) c
      · rw [brF c]
        refine q1 (fun z => c (Int.le_trans ?_ z))
        have := pr_mono (T := T) (k := n + 1) (8 - (n + 1))
        rw [show n + 1 + (8 - (n + 1)) = 8 by omega] at this
        exact this
theorem m231 (hT : tnW T) (H : tnM (D 96) T) : WP 124 xF1 none 231 0 [some (.inr (.inr (some 95))), none, none, none, none] [] D Q = Q (some (.inl (if prN T 8 ≤ 4096 then 0 else 1))) D := by
  rw [seg231_0 (ha0 := ho95)]
  have l : ∀ Q : Option xv → xD → Prop, Q (some (.inl (if prN T 8 ≤ 4096 then 0 else 1))) D → WP 124 xF1 none 231 4 [some (.inr (.inr (some 95))), some (.inl 1), some (.inl 0), none, none] [] D Q := fun Q h => l231 (Q := Q) hT H (fun c => by rw [if_pos c] at h; exact h) (fun c => by rw [if_neg c] at h; exact h) 8 0 none none rfl (by show (1 : Int) ≤ 4096; decide)
  refine propext ⟨fun h => ?_, fun h => l Q h⟩
  have h2 := l (fun v D2 => v = some (.inl (if prN T 8 ≤ 4096 then 0 else 1)) ∧ D2 = D) ⟨rfl, rfl⟩
  obtain ⟨f, v, D1, r1, r2⟩ := h
  obtain ⟨g, v', D1', s1, s2⟩ := h2
  have a1 := xrun_mono _ _ _ _ _ _ _ _ r1 (Nat.max f g) (Nat.le_max_left f g)
  have a2 := xrun_mono _ _ _ _ _ _ _ _ s1 (Nat.max f g) (Nat.le_max_right f g)
  rw [a1] at a2
  have a3 := Option.some.inj a2
  have a4 : v = v' := congrArg Prod.fst a3
  have a5 : D1 = D1' := congrArg Prod.snd a3
  rw [a4, a5, s2.1, s2.2] at r2
  exact r2
theorem l232 (hT : tnW T) (H : tnM (D 96) T) : ∀ (k : Nat) (c : Int → Int) (D' : xD) (o2 : Option xv), k ≤ 8 → chOk T c → (∀ a, a ≠ 121 → D' a = D a) → (∀ p, 0 ≤ p → p < 8 → D' 121 p = c p) →
    (∀ D'' : xD, (∀ a, a ≠ 121 → D'' a = D a) → (∀ p, 0 ≤ p → p < 8 → D'' 121 p = (gnN T k c).1 p) → Q (some (.inl (boI (gnN T k c).2))) D'') →
    WP 124 xF1 none 232 3 [some (.inr (.inr (some 95))), some (.inl ((k : Int) - 1)), o2] [] D' Q := by
  obtain ⟨⟨w0, w1, w2, w3⟩, ws, -⟩ := id hT
  intro k
  induction k with
  | zero =>
    intro c D' o2 hk hc hF h93 hq
    rw [seg232_3 (ha0 := ho95), brT (c := ((0 : Nat) : Int) - 1 < 0) (by omega)]
    exact hq D' hF h93
  | succ k ih =>
    intro c D' o2 hk hc hF h93 hq
    have H' : tnM (D' 96) T := by rw [hF 96 (by decide)]; exact H
    have ek : ((k + 1 : Nat) : Int) - 1 = (k : Int) := by omega
    have ek2 : (k : Int) + -1 = (k : Int) - 1 := by omega
    have hck := hc k (by omega) (by omega)
    rw [ek, seg232_3 (ha0 := ho95), brF (c := (k : Int) < 0) (by omega), cnB (by omega)]
    simp only [Nat.reduceAdd]
    rw [h93 k (by omega) (by omega)]
    simp only [gnN] at hq
    by_cases c1 : c k = -1
    · rw [if_pos c1] at hq
      rw [brF (c := 0 ≤ c k) (by omega), seg232_57 (ha0 := ho95), cnX (by omega), ek2]
      exact ih c D' _ (by omega) hc hF h93 hq
    · rw [if_neg c1] at hq
      have hr := hck.resolve_left (fun z => c1 z.1)
      rw [brT (c := 0 ≤ c k) (by omega), cnB (by omega), m230 hT H' (by omega) (.inl hr.1.2)]
      simp only [Option.toList_some, Option.toList_none, List.cons_append, List.nil_append]
      rw [seg232_30 (ha0 := ho95)]
      by_cases c2 : nfT T k (c k) = -1
      · rw [if_pos c2] at hq
        rw [brT (c := nfT T k (c k) < 0) (by omega), m230 hT H' (by omega) (.inr rfl)]
        simp only [Option.toList_some, Option.toList_none, List.cons_append, List.nil_append]
        have zf : (0 ≤ nfT T k (-1) ∧ nfT T k (-1) < T 0) ∧ frM T (nfT T k (-1)) = k := by
          rcases nf_spec (T := T) (p := k) (s := -1) (by omega) with ⟨h1, h2⟩ | ⟨h1, h2, h3⟩
          · exfalso
            unfold nfT at h1
            rcases fsI_spec (P := fun q => frM T q = (k : Int)) (T 0 - (-1 + 1)).toNat (-1 + 1) with ⟨-, y⟩ | ⟨y, -⟩
            · exact y (c k) (by omega) (by omega) hr.2
            · omega
          · exact ⟨⟨by omega, h1.2⟩, h2⟩
        rw [seg232_50 (ha0 := ho95) (hb2 := hl121), cnB (by omega), brT (c := nfT T k (c k) < 0) (by omega), seg232_57 (ha0 := ho95), cnX (by omega), ek2]
        refine ih _ _ _ (by omega) (ch_up hc zf) (fun a a1 => by rw [up_ne a1]; exact hF a a1) (fun p p1 p2 => ?_) hq
        rw [up_at]
        show _ = if p = (k : Int) then nfT T k (-1) else c p
        by_cases q : p = (k : Int)
        · rw [if_pos q, if_pos q]
        · rw [if_neg q, if_neg q]; exact h93 p p1 p2
      · rw [if_neg c2] at hq
        obtain ⟨h1, h2, h3⟩ := (nf_spec (T := T) (p := k) (s := c k) (by omega)).resolve_left (fun z => c2 z.1)
        rw [brF (c := nfT T k (c k) < 0) (by omega), seg232_50 (ha0 := ho95) (hb2 := hl121), cnB (by omega), brF (c := nfT T k (c k) < 0) (by omega)]
        refine hq _ (fun a a1 => by rw [up_ne a1]; exact hF a a1) (fun p p1 p2 => ?_)
        rw [up_at]
        show _ = if p = (k : Int) then nfT T k (c k) else c p
        by_cases q : p = (k : Int)
        · rw [if_pos q, if_pos q]
        · rw [if_neg q, if_neg q]; exact h93 p p1 p2
theorem l233a (hT : tnW T) (H : tnM (D 96) T) {o3 o4 o5 : Option xv} (hq : ∀ D'' : xD, (∀ a, a ≠ 121 → D'' a = D a) → (∀ p, 0 ≤ p → p < 8 → D'' 121 p = fiT T p) → WP 124 xF1 none 233 30 [some (.inr (.inr (some 95))), some (.inl x1), some (.inl (-1)), some (.inl 1), o4, o5] [] D'' Q) : ∀ (k : Nat) (x2 : Int) (D' : xD), 8 = x2 + k → 0 ≤ x2 → (∀ a, a ≠ 121 → D' a = D a) → (∀ p, 0 ≤ p → p < x2 → D' 121 p = fiT T p) → WP 124 xF1 none 233 2 [some (.inr (.inr (some 95))), some (.inl x1), some (.inl x2), o3, o4, o5] [] D' Q := by
  intro k
  induction k with
  | zero =>
    intro x2 D' h1 h2 hF h
    rw [seg233_2 (ha0 := ho95), brT (c := 8 ≤ x2) (by omega)]
    exact hq D' hF (fun p p1 p2 => h p p1 (by omega))
  | succ k ih =>
    intro x2 D' h1 h2 hF h
    have H' : tnM (D' 96) T := by rw [hF 96 (by decide)]; exact H
    rw [seg233_2 (ha0 := ho95), brF (c := 8 ≤ x2) (by omega), m230 hT H' (by omega) (.inr rfl)]
    simp only [Option.toList_some, Option.toList_none, List.cons_append, List.nil_append, Nat.reduceAdd]
    rw [seg233_19 (ha0 := ho95) (hb2 := hl121), cnB (by omega), cnX (by omega)]
    refine ih (x2 + 1) _ (by omega) (by omega) (fun a a1 => by rw [up_ne a1]; exact hF a a1) (fun p p1 p2 => ?_)
    rw [up_at]
    by_cases q : p = x2
    · rw [if_pos q, q]; rfl
    · rw [if_neg q]; exact h p p1 (by omega)
theorem l233b (hm : 0 ≤ x1 ∧ x1 ≤ 12) (h121 : ∀ p, 0 ≤ p → p < 8 → D 121 p = c p) (he : 0 < x1 → ∀ p, 0 ≤ p → p < 8 → D 123 p = e p) {o5 : Option xv}
    (hq : ∀ D'' : xD, (∀ a, a ≠ 120 → D'' a = D a) → (∀ p t, 0 ≤ p → p < 8 → 0 ≤ t → t ≤ 12 → D'' 120 (13 * p + t) = glP e x1 c p t) → WP 124 xF1 none 225 0 [some (.inr (.inr (some 95))), none, none] [] D'' (fun v D9 => WP 124 xF1 none 233 82 [some (.inr (.inr (some 95))), some (.inl x1), some (.inl x2), some (.inl x3), some (.inl 8), o5] (v.toList ++ []) D9 Q)) :
    ∀ (k : Nat) (x4 : Int) (D' : xD), 8 = x4 + k → 0 ≤ x4 → (∀ a, a ≠ 120 → D' a = D a) → (∀ p t, 0 ≤ p → p < x4 → 0 ≤ t → t ≤ 12 → D' 120 (13 * p + t) = glP e x1 c p t) →
    WP 124 xF1 none 233 37 [some (.inr (.inr (some 95))), some (.inl x1), some (.inl x2), some (.inl x3), some (.inl x4), o5] [] D' Q := by
  intro k
  induction k with
  | zero =>
    intro x4 D' h1 h2 hF h
    have : x4 = 8 := by omega
    subst this
    rw [seg233_37 (ha0 := ho95), brT (c := (8 : Int) ≤ 8) (by decide)]
    exact hq D' hF h
  | succ k ih =>
    intro x4 D' h1 h2 hF h
    rw [seg233_37 (ha0 := ho95), brF (c := 8 ≤ x4) (by omega), cnB (by omega)]
    simp only [Nat.reduceAdd]
    rw [m220 (by omega) (by omega)]
    simp only [Option.toList_some, Option.toList_none, List.cons_append, List.nil_append]
    rw [seg233_58 (ha0 := ho95), cnB (by omega)]
    simp only [Nat.reduceAdd]
    rw [m220 (by omega) (by omega)]
    simp only [Option.toList_some, Option.toList_none, List.cons_append, List.nil_append]
    rw [seg233_72 (ha0 := ho95), cnX (by omega)]
    refine ih (x4 + 1) _ (by omega) (by omega) (fun a a1 => by rw [fil_ne a1, fil_ne a1]; exact hF a a1) (fun p t p1 p2 t1 t2 => ?_)
    rw [fil_ne (a := 120) (b := 121) (by decide), hF 121 (by decide), hF 123 (by decide), h121 x4 h2 (by omega)]
    by_cases q : p = x4
    · unfold glP
      by_cases q2 : t < x1
      · rw [fil_out (by omega), fil_in (by omega), if_pos (by omega), q]
        exact he (by omega) x4 h2 (by omega)
      · rw [fil_in (by omega), if_neg (by omega), q]
    · rw [fil_out (by omega), fil_out (by omega)]
      exact h p t p1 (by omega) t1 t2
theorem l233c {o4 : Option xv} (hq : ∀ (D'' : xD) (u : Int), (∀ a, a ≠ 122 → D'' a = D a) → (∀ p, 0 ≤ p → p < 8 → D'' 122 p = D 121 p) → WP 124 xF1 none 233 123 [some (.inr (.inr (some 95))), some (.inl x1), some (.inl x2), some (.inl x3), some (.inl x4), some (.inl u)] [] D'' Q) : ∀ (k : Nat) (x5 : Int) (D' : xD), 8 = x5 + k → 0 ≤ x5 → (∀ a, a ≠ 122 → D' a = D a) → (∀ p, 0 ≤ p → p < x5 → D' 122 p = D 121 p) → WP 124 xF1 none 233 96 [some (.inr (.inr (some 95))), some (.inl x1), some (.inl x2), some (.inl x3), some (.inl x4), some (.inl x5)] [] D' Q := by
  intro k
  induction k with
  | zero =>
    intro x5 D' h1 h2 hF h
    rw [seg233_96 (ha0 := ho95), brT (c := 8 ≤ x5) (by omega)]
    exact hq D' x5 hF (fun p p1 p2 => h p p1 (by omega))
  | succ k ih =>
    intro x5 D' h1 h2 hF h
    rw [seg233_96 (ha0 := ho95), brF (c := 8 ≤ x5) (by omega), cnB (by omega), cnB (by omega), cnX (by omega)]
    simp only [Nat.reduceAdd]
    refine ih (x5 + 1) _ (by omega) (by omega) (fun a a1 => by rw [up_ne a1]; exact hF a a1) (fun p p1 p2 => ?_)
    rw [up_at, hF 121 (by decide)]
    by_cases q : p = x5
    · rw [if_pos q, q]
    · rw [if_neg q]; exact h p p1 (by omega)
theorem l233 (hT : tnW T) (H : tnM (D 96) T) (h5 : D 95 44 = fs) (h6 : D 95 45 = fm) (hm : 0 ≤ x1 ∧ x1 ≤ 12) (he : 0 < x1 → chOk T e) (hd : 0 < x1 → ∀ p, 0 ≤ p → p < 8 → D 123 p = e p) : ∀ (n : Nat) (c b : Int → Int) (w : Int) (D' : xD) (o4 o5 : Option xv), rmN T 8 c + 1 = n → chOk T c → gmF D' D → (∀ p, 0 ≤ p → p < 8 → D' 121 p = c p) → (∀ p, 0 ≤ p → p < 8 → D' 122 p = b p) →
    (∀ D'' : xD, gmF D'' D → (∀ p, 0 ≤ p → p < 8 → D'' 122 p = (bsL T fs fm e x1 n c w b).2 p) → Q (some (.inl (bsL T fs fm e x1 n c w b).1)) D'') →
    WP 124 xF1 none 233 30 [some (.inr (.inr (some 95))), some (.inl x1), some (.inl w), some (.inl 1), o4, o5] [] D' Q := by
  intro n
  induction n with
  | zero =>
    intro c b w D' o4 o5 h1 hc hF h121 h122 hq
    exfalso
    have : ∀ k, 0 ≤ rmN T k c := by
      intro k
      induction k with
      | zero => exact Int.le_refl _
      | succ k ih =>
        simp only [rmN]
        have a1 : 1 ≤ mxT T k := by unfold mxT; omega
        have a2 := cn_0 T k (c k)
        have a3 := Int.mul_nonneg ih (show 0 ≤ mxT T k by omega)
        omega
    have := this 8
    omega
  | succ n ih =>
    intro c b w D' o4 o5 h1 hc hF h121 h122 hq
    have H' : tnM (D' 96) T := by rw [hF.1 96 (by decide) (by decide) (by decide) (by decide) (by decide) (by decide) (by decide) (by decide) (by decide)]; exact H
    obtain ⟨g1, g2, -⟩ := gn_spec 8 c (by omega) hc
    rw [seg233_30 (ha0 := ho95), brF (by decide)]
    refine l233b (c := c) (e := e) (D := D') hm h121 (fun z p p1 p2 => by rw [hF.1 123 (by decide) (by decide) (by decide) (by decide) (by decide) (by decide) (by decide) (by decide) (by decide)]; exact hd z p p1 p2) (fun D1 f1 f2 => ?_) 8 0 D' (by omega) (by omega) (fun _ _ => rfl) (fun p t p1 p2 => by omega)
    have H1 : tnM (D1 96) T := by rw [f1 96 (by decide)]; exact H'
    have e95 : D1 95 = D' 95 := f1 95 (by decide)
    refine m225 (fs := fs) (fm := fm) (P := glP e x1 c) hT H1 (gl_ok hc he) (by rw [e95, hF.2 44 (by decide) (by decide) (by decide)]; exact h5) (by rw [e95, hF.2 45 (by decide) (by decide) (by decide)]; exact h6) f2 (fun D2 k1 => ?_)
    simp only [Option.toList_some, Option.toList_none, List.cons_append, List.nil_append]
    have F2 : gmF D2 D := ⟨fun a a1 a2 a3 a4 a5 a6 a7 a8 a9 => by rw [k1.1 a a1 a2 a3 a4 a5 a6, f1 a a7]; exact hF.1 a a1 a2 a3 a4 a5 a6 a7 a8 a9, fun i i1 i2 i3 => by rw [k1.2 i i1 i2 i3, e95]; exact hF.2 i i1 i2 i3⟩
    have e121 : D2 121 = D' 121 := by rw [k1.1 121 (by decide) (by decide) (by decide) (by decide) (by decide) (by decide), f1 121 (by decide)]
    have e122 : D2 122 = D' 122 := by rw [k1.1 122 (by decide) (by decide) (by decide) (by decide) (by decide) (by decide), f1 122 (by decide)]
    have go : ∀ (w' : Int) (b' : Int → Int) (D3 : xD) (o5 : Option xv), gmF D3 D → (∀ p, 0 ≤ p → p < 8 → D3 121 p = c p) → (∀ p, 0 ≤ p → p < 8 → D3 122 p = b' p) → (∀ D'' : xD, gmF D'' D → (∀ p, 0 ≤ p → p < 8 → D'' 122 p = (bsL T fs fm e x1 n (gnN T 8 c).1 w' b').2 p) → Q (some (.inl (bsL T fs fm e x1 n (gnN T 8 c).1 w' b').1)) D'') → WP 124 xF1 none 233 123 [some (.inr (.inr (some 95))), some (.inl x1), some (.inl w'), some (.inl 1), some (.inl (wkZ T fs fm (glP e x1 c) 13)), o5] [] D3 Q := by
      intro w' b' D3 o5 F3 q1 q2 hq3
      have H3 : tnM (D3 96) T := by rw [F3.1 96 (by decide) (by decide) (by decide) (by decide) (by decide) (by decide) (by decide) (by decide) (by decide)]; exact H
      rw [seg233_123 (ha0 := ho95), seg232_0 (ha0 := ho95)]
      refine l232 (D := D3) hT H3 8 c D3 _ (by omega) hc (fun _ _ => rfl) q1 (fun D4 r1 r2 => ?_)
      simp only [Option.toList_some, Option.toList_none, List.cons_append, List.nil_append]
      have F4 : gmF D4 D := ⟨fun a a1 a2 a3 a4 a5 a6 a7 a8 a9 => by rw [r1 a a8]; exact F3.1 a a1 a2 a3 a4 a5 a6 a7 a8 a9, fun i i1 i2 i3 => by rw [r1 95 (by decide)]; exact F3.2 i i1 i2 i3⟩
      have q4 : ∀ p, 0 ≤ p → p < 8 → D4 122 p = b' p := fun p p1 p2 => by rw [r1 122 (by decide)]; exact q2 p p1 p2
      rw [seg233_127 (ha0 := ho95)]
      rcases g2 with ⟨y1, y2⟩ | ⟨y1, y2⟩
      · have : n = 0 := by omega
        subst this
        rw [y1, show boI false = 0 from rfl, seg233_30 (ha0 := ho95), brT rfl]
        exact hq3 D4 F4 q4
      · rw [y1, show boI true = 1 from rfl]
        exact ih _ b' w' D4 _ _ (by omega) g1 F4 r2 q4 hq3
    simp only [bsL] at hq
    rw [seg233_82 (ha0 := ho95)]
    by_cases cw : w < wkZ T fs fm (glP e x1 c) 13
    · rw [if_pos cw] at hq
      rw [brF (c := wkZ T fs fm (glP e x1 c) 13 ≤ w) (by omega)]
      refine l233c (o4 := none) (D := D2) (fun D3 u r1 r2 => ?_) 8 0 D2 (by omega) (by omega) (fun _ _ => rfl) (fun p p1 p2 => by omega)
      refine go _ c D3 _ ⟨fun a a1 a2 a3 a4 a5 a6 a7 a8 a9 => by rw [r1 a a9]; exact F2.1 a a1 a2 a3 a4 a5 a6 a7 a8 a9, fun i i1 i2 i3 => by rw [r1 95 (by decide)]; exact F2.2 i i1 i2 i3⟩ (fun p p1 p2 => by rw [r1 121 (by decide), e121]; exact h121 p p1 p2) (fun p p1 p2 => by rw [r2 p p1 p2, e121]; exact h121 p p1 p2) hq
    · rw [if_neg cw] at hq
      rw [brT (c := wkZ T fs fm (glP e x1 c) 13 ≤ w) (by omega)]
      exact go _ b D2 _ F2 (fun p p1 p2 => by rw [e121]; exact h121 p p1 p2) (fun p p1 p2 => by rw [e122]; exact h122 p p1 p2) hq
theorem m233 (hT : tnW T) (H : tnM (D 96) T) (h5 : D 95 44 = fs) (h6 : D 95 45 = fm) (hm : 0 ≤ x1 ∧ x1 ≤ 12) (he : 0 < x1 → chOk T e) (hd : 0 < x1 → ∀ p, 0 ≤ p → p < 8 → D 123 p = e p)
    (hq : ∀ D'' : xD, gmF D'' D → (∀ p, 0 ≤ p → p < 8 → D'' 122 p = (bsV T fs fm e x1).2 p) → Q (some (.inl (bsV T fs fm e x1).1)) D'') :
    WP 124 xF1 none 233 0 [some (.inr (.inr (some 95))), some (.inl x1), none, none, none, none] [] D Q := by
  have b1 := pr_bd hT (k := 8) (by omega)
  rw [seg233_0 (ha0 := ho95)]
  refine l233a (D := D) hT H (fun D1 f1 f2 => ?_) 8 0 D (by omega) (by omega) (fun _ _ => rfl) (fun p p1 p2 => by omega)
  refine l233 (fs := fs) (fm := fm) (e := e) (D := D) hT H h5 h6 hm he hd (prN T 8).toNat (fiT T) (D1 122) (-1) D1 _ _ (by rw [rm_fi]; omega) fi_ok ⟨fun a a1 a2 a3 a4 a5 a6 a7 a8 a9 => f1 a a8, fun i i1 i2 i3 => by rw [f1 95 (by decide)]⟩ f2 (fun _ _ _ => rfl) ?_
  rw [bs_b0 (b' := fun _ => 0) hT (by omega) fi_ok he]
  exact hq
end M59
