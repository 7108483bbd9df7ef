/-! nets: the reference lays them all, places and streets -/
section M83
variable {E x1 x2 x3 x4 x5 n m s d p B h wd wh : Int} {D D' D1 D2 : xD} {T w : Int → Int} {V : (Int → Int → Int → Int → Int) → Int} {o2 o3 o4 o5 o6 : Option xv} {Q : Option xv → xD → Prop}
theorem mcF_rf : mcF D D := ⟨fun _ _ _ _ _ _ _ _ => rfl, fun _ _ => rfl⟩
def msP1 (T w : Int → Int) (h : Int) (f : Int → Int → Int → Int → Int) (p : Int) : Int := smI (fun t => f (16 + 13 * p + t) (16 + 13 * p + (t + 1)) (T (10 + p)) 0) 0 h.toNat + (if T (18 + p) = 0 then 0 else smI (fun t => f (16 + 13 * p + t) (8 + p) 99 (w t)) 0 (h + 1).toNat + f (8 + p) 1 (T (18 + p)) 0)
theorem l187b (hT : tnW T) (H : mlC D T w wd wh h) (hh : 0 ≤ h ∧ h ≤ 12) (hw : ∀ t, 0 ≤ t → t ≤ h → 0 ≤ w t ∧ w t ≤ 13) (hp : 0 ≤ p ∧ p < 8) (hB : B + 28 ≤ 1400) (h18 : T (18 + p) ≠ 0)
    (hq : ∀ (D' : xD) x3, mcF D' D → mcI D' (fun f => V f + (smI (fun t => f (16 + 13 * p + t) (8 + p) 99 (w t)) 0 (h + 1).toNat + f (8 + p) 1 (T (18 + p)) 0)) (B + 28) → WP 124 xF1 none 187 268 [some (.inr (.inr (some 95))), some (.inl h), some (.inl p), some (.inl x3), o4, o5, o6] [] D' Q) :
    ∀ (k j : Nat) (D' : xD), j + k = (h + 1).toNat → mcF D' D → mcI D' (fun f => V f + smI (fun t => f (16 + 13 * p + t) (8 + p) 99 (w t)) 0 j) (B + 2 * j) → WP 124 xF1 none 187 217 [some (.inr (.inr (some 95))), some (.inl h), some (.inl p), some (.inl (j : Int)), o4, o5, o6] [] D' Q := by
  have w0 := hT.1
  obtain ⟨v1, v2⟩ := hT.2.2.2.2 p hp.1 hp.2
  intro k
  induction k with
  | zero =>
    intro j D' h1 h2 h3
    have H' := ml_fr h2 H
    have e1 := H'.1 (18 + p) (by omega)
    rw [seg187_217 (ha0 := ho95), brT (by omega), cnX (by omega), cnX (by omega)]
    simp only [Nat.reduceAdd]
    rw [cnB (by omega), e1]
    refine m186 h3 (by omega) (by omega) (by omega) (by omega) (by omega) (by decide) (fun D2 g1 g2 => ?_)
    simp only [Option.toList_some, Option.toList_none, List.cons_append, List.nil_append]
    refine hq D2 _ (mcF_tr g1 h2) (mcI_cg g2 (fun f => ?_) (by omega))
    rw [show j = (h + 1).toNat by omega]; omega
  | succ k ih =>
    intro j D' h1 h2 h3
    have H' := ml_fr h2 H
    have e1 := H'.2.1 j (by omega) (by omega)
    have hwj := hw j (by omega) (by omega)
    rw [seg187_217 (ha0 := ho95), brF (by omega), m185 (by omega)]
    simp only [Option.toList_some, Option.toList_none, List.cons_append, List.nil_append]
    rw [seg187_228 (ha0 := ho95) (hb1 := ho95), cnX (by omega), cnB (by omega)]
    simp only [Nat.reduceAdd]
    rw [e1]
    refine m186 h3 (by omega) (by omega) (by omega) (by omega) (by decide) (by omega) (fun D2 g1 g2 => ?_)
    simp only [Option.toList_some, Option.toList_none, List.cons_append, List.nil_append]
    rw [seg187_243 (ha0 := ho95), cnX (by omega), show (j : Int) + 1 = ((j + 1 : Nat) : Int) by omega]
    refine ih (j + 1) D2 (by omega) (mcF_tr g1 h2) (mcI_cg g2 (fun f => ?_) (by omega))
    rw [smI_last, show (0 : Int) + (j : Int) = j by omega]
    omega
theorem l187a (hT : tnW T) (H : mlC D T w wd wh h) (hh : 0 ≤ h ∧ h ≤ 12) (hw : ∀ t, 0 ≤ t → t ≤ h → 0 ≤ w t ∧ w t ≤ 13) (hp : 0 ≤ p ∧ p < 8) (hB : B + 54 ≤ 1400)
    (hq : ∀ (D' : xD) x3, mcF D' D → mcI D' (fun f => V f + msP1 T w h f p) (B + 54) → WP 124 xF1 none 187 268 [some (.inr (.inr (some 95))), some (.inl h), some (.inl p), some (.inl x3), o4, o5, o6] [] D' Q) :
    ∀ (k j : Nat) (D' : xD), j + k = h.toNat → mcF D' D → mcI D' (fun f => V f + smI (fun t => f (16 + 13 * p + t) (16 + 13 * p + (t + 1)) (T (10 + p)) 0) 0 j) (B + 2 * j) → WP 124 xF1 none 187 163 [some (.inr (.inr (some 95))), some (.inl h), some (.inl p), some (.inl (j : Int)), o4, o5, o6] [] D' Q := by
  have w0 := hT.1
  obtain ⟨v1, v2⟩ := hT.2.2.2.2 p hp.1 hp.2
  intro k
  induction k with
  | zero =>
    intro j D' h1 h2 h3
    have H' := ml_fr h2 H
    have e1 := H'.1 (18 + p) (by omega)
    rw [seg187_163 (ha0 := ho95), brT (by omega), cnX (by omega)]
    simp only [Nat.reduceAdd]
    rw [cnB (by omega), e1]
    rw [show j = h.toNat by omega] at h3
    by_cases c : T (18 + p) = 0
    · rw [brF (by omega)]
      refine hq D' _ h2 (mcI_cg h3 (fun f => ?_) (by omega))
      unfold msP1
      rw [if_pos c, Int.add_zero]
    · rw [brT c]
      have l := l187b (Q := Q) (o4 := o4) (o5 := o5) (o6 := o6) (B := B + 24) (V := fun f => V f + smI (fun t => f (16 + 13 * p + t) (16 + 13 * p + (t + 1)) (T (10 + p)) 0) 0 h.toNat) hT H' hh hw hp (by omega) c (fun D3 x3 k1 k2 => ?_) (h + 1).toNat 0 D' (by omega) mcF_rf (mcI_cg h3 (fun f => by simp [smI]) (by omega))
      · exact l
      · refine hq D3 _ (mcF_tr k1 h2) (mcI_cg k2 (fun f => ?_) (by omega))
        unfold msP1
        rw [if_neg c]; omega
  | succ k ih =>
    intro j D' h1 h2 h3
    have H' := ml_fr h2 H
    have e1 := H'.1 (10 + p) (by omega)
    rw [seg187_163 (ha0 := ho95), brF (by omega), m185 (by omega)]
    simp only [Option.toList_some, Option.toList_none, List.cons_append, List.nil_append]
    rw [seg187_174 (ha0 := ho95) (hb1 := ho95), cnX (by omega), m185 (by omega)]
    simp only [Option.toList_some, Option.toList_none, List.cons_append, List.nil_append]
    rw [seg187_181 (ha0 := ho95) (hb2 := ho95), cnX (by omega)]
    simp only [Nat.reduceAdd]
    rw [cnB (by omega), e1]
    refine m186 h3 (by omega) (by omega) (by omega) (by omega) (by omega) (by decide) (fun D2 g1 g2 => ?_)
    simp only [Option.toList_some, Option.toList_none, List.cons_append, List.nil_append]
    rw [seg187_194 (ha0 := ho95), cnX (by omega), show (j : Int) + 1 = ((j + 1 : Nat) : Int) by omega]
    refine ih (j + 1) D2 (by omega) (mcF_tr g1 h2) (mcI_cg g2 (fun f => ?_) (by omega))
    rw [smI_last, show (0 : Int) + (j : Int) = j by omega]
    show V f + smI _ 0 j + f (16 + 13 * p + j) (16 + 13 * p + ((j + 1 : Nat) : Int)) (T (10 + p)) 0 = _
    rw [show ((j + 1 : Nat) : Int) = (j : Int) + 1 by omega]
    omega
theorem l187P (hT : tnW T) (H : mlC D T w wd wh h) (hh : 0 ≤ h ∧ h ≤ 12) (hw : ∀ t, 0 ≤ t → t ≤ h → 0 ≤ w t ∧ w t ≤ 13) (hB : B + 432 ≤ 1400)
    (hq : ∀ (D' : xD) o3 o4 o5 o6, mcF D' D → mcI D' (fun f => V f + msP T w h f 8) (B + 432) → WP 124 xF1 none 187 276 [some (.inr (.inr (some 95))), some (.inl h), some (.inl 0), o3, o4, o5, o6] [] D' Q) :
    ∀ (k p : Nat) (D' : xD) (o3 o4 o5 o6 : Option xv), 8 = p + k → mcF D' D → mcI D' (fun f => V f + msP T w h f p) (B + 54 * p) → WP 124 xF1 none 187 155 [some (.inr (.inr (some 95))), some (.inl h), some (.inl (p : Int)), o3, o4, o5, o6] [] D' Q := by
  intro k
  induction k with
  | zero =>
    intro p D' o3 o4 o5 o6 h1 h2 h3
    rw [seg187_155 (ha0 := ho95), brT (by omega)]
    have e : p = 8 := by omega
    subst e
    exact hq D' _ _ _ _ h2 (mcI_cg h3 (fun f => rfl) (by omega))
  | succ k ih =>
    intro p D' o3 o4 o5 o6 h1 h2 h3
    have H' := ml_fr h2 H
    rw [seg187_155 (ha0 := ho95), brF (by omega)]
    have l := l187a (Q := Q) (o4 := o4) (o5 := o5) (o6 := o6) (p := p) (B := B + 54 * p) (V := fun f => V f + msP T w h f p) hT H' hh hw (by omega) (by omega) (fun D3 x3 k1 k2 => ?_) h.toNat 0 D' (by omega) mcF_rf (mcI_cg h3 (fun f => by simp [smI]) (by omega))
    · exact l
    · rw [seg187_268 (ha0 := ho95), cnX (by omega), show (p : Int) + 1 = ((p + 1 : Nat) : Int) by omega]
      refine ih (p + 1) D3 _ _ _ _ (by omega) (mcF_tr k1 h2) (mcI_cg k2 (fun f => ?_) (by omega))
      unfold msP
      rw [smI_last, show (0 : Int) + (p : Int) = p by omega]
      unfold msP1
      omega
/-- the minutes of a street -/
def msE1 (T : Int → Int) (wd wh : Int) (f : Int → Int → Int → Int → Int) (s t : Int) : Int := if T (30 + 7 * s + 4) ≤ t ∧ t ≤ T (30 + 7 * s + 5) then f (16 + 13 * frM T s + t) (16 + 13 * toM T s + (t + tkS T wh s)) (wiS T wh s + (if wh ≠ 2 ∧ s = wd then 1 else 0)) 0 else 0
theorem l187s (hT : tnW T) (H : mlC D T w wd wh h) (hh : 0 ≤ h ∧ h ≤ 12) (hs : 0 ≤ s ∧ s < T 0) (hB : B + 26 ≤ 1400)
    (hx4 : x4 = tkS T wh s) (hx5 : x5 = wiS T wh s + (if wh ≠ 2 ∧ s = wd then 1 else 0))
    (hq : ∀ (D' : xD) x6, mcF D' D → mcI D' (fun f => V f + smI (msE1 T wd wh f s) 0 (h + 1 - tkS T wh s).toNat) (B + 26) → WP 124 xF1 none 187 276 [some (.inr (.inr (some 95))), some (.inl h), some (.inl (s + 1)), some (.inl x3), some (.inl x4), some (.inl x5), some (.inl x6)] [] D' Q) :
    ∀ (k j : Nat) (D' : xD), j + k = (h + 1 - tkS T wh s).toNat → mcF D' D → mcI D' (fun f => V f + smI (msE1 T wd wh f s) 0 j) (B + 2 * j) → WP 124 xF1 none 187 366 [some (.inr (.inr (some 95))), some (.inl h), some (.inl s), some (.inl x3), some (.inl x4), some (.inl x5), some (.inl (j : Int))] [] D' Q := by
  have w0 := hT.1
  obtain ⟨v1, v2, v3, v4, v5, -⟩ := hT.2.1 s hs.1 hs.2
  have tk : 1 ≤ tkS T wh s ∧ tkS T wh s ≤ 6 := by unfold tkS; split <;> omega
  have wi : 0 ≤ wiS T wh s ∧ wiS T wh s ≤ 9 := by unfold wiS; split <;> omega
  have w5 : 0 ≤ x5 ∧ x5 ≤ 10 := by rw [hx5]; split <;> omega
  intro k
  induction k with
  | zero =>
    intro j D' h1 h2 h3
    rw [seg187_366 (ha0 := ho95), cnX (by omega), brT (by omega), cnX (by omega)]
    refine hq D' _ h2 (mcI_cg h3 (fun f => ?_) (by omega))
    rw [show j = (h + 1 - tkS T wh s).toNat by omega]
  | succ k ih =>
    intro j D' h1 h2 h3
    have H' := ml_fr h2 H
    have a5 := H'.1 5 (by decide)
    have a0 := H'.1 (30 + 7 * s) (by omega)
    have a1 := H'.1 (30 + 7 * s + 1) (by omega)
    have a4 := H'.1 (30 + 7 * s + 4) (by omega)
    have a55 := H'.1 (30 + 7 * s + 5) (by omega)
    have nx : ∀ D2 : xD, mcF D2 D' → mcI D2 (fun f => V f + smI (msE1 T wd wh f s) 0 (j + 1)) (B + 2 * j + 2) → WP 124 xF1 none 187 415 [some (.inr (.inr (some 95))), some (.inl h), some (.inl s), some (.inl x3), some (.inl x4), some (.inl x5), some (.inl (j : Int))] [] D2 Q := by
      intro D2 g1 g2
      rw [seg187_415 (ha0 := ho95), cnX (by omega), show (j : Int) + 1 = ((j + 1 : Nat) : Int) by omega]
      exact ih (j + 1) D2 (by omega) (mcF_tr g1 h2) (mcI_cg g2 (fun _ => rfl) (by omega))
    rw [seg187_366 (ha0 := ho95), cnX (by omega), brF (by omega), m179 (by omega), a4, a55]
    simp only [Option.toList_some, Option.toList_none, List.cons_append, List.nil_append]
    rw [seg187_382 (ha0 := ho95)]
    by_cases c : T (30 + 7 * s + 4) ≤ (j : Int) ∧ (j : Int) ≤ T (30 + 7 * s + 5)
    · rw [if_pos c, brF (by decide), m177 (by omega), a5, a0, a1]
      simp only [Option.toList_some, Option.toList_none, List.cons_append, List.nil_append]
      rw [show (if iand (ishr (T 5) s) 1 = 1 then T (30 + 7 * s + 1) else T (30 + 7 * s)) = frM T s from rfl, seg187_391 (ha0 := ho95) (hb1 := ho95), m185 (by omega)]
      simp only [Option.toList_some, Option.toList_none, List.cons_append, List.nil_append]
      rw [seg187_396 (ha0 := ho95) (hb1 := ho95), m178 (by omega), a5, a0, a1]
      simp only [Option.toList_some, Option.toList_none, List.cons_append, List.nil_append]
      rw [show (if iand (ishr (T 5) s) 1 = 1 then T (30 + 7 * s) else T (30 + 7 * s + 1)) = toM T s from rfl, seg187_401 (ha0 := ho95) (hb2 := ho95), cnX (by omega), m185 (by omega)]
      simp only [Option.toList_some, Option.toList_none, List.cons_append, List.nil_append]
      rw [seg187_409 (ha0 := ho95) (hb2 := ho95)]
      refine m186 h3 (by omega) (by omega) (by omega) (by omega) (by omega) (by decide) (fun D2 g1 g2 => ?_)
      simp only [Option.toList_some, Option.toList_none, List.cons_append, List.nil_append]
      refine nx D2 g1 (mcI_cg g2 (fun f => ?_) (by omega))
      rw [smI_last, show (0 : Int) + (j : Int) = j by omega]
      unfold msE1
      rw [if_pos c, hx4, hx5]
      omega
    · rw [if_neg c, brT rfl]
      refine nx D' mcF_rf (mcI_cg h3 (fun f => ?_) (by omega))
      rw [smI_last, show (0 : Int) + (j : Int) = j by omega]
      unfold msE1
      rw [if_neg c, Int.add_zero]
theorem l187E (hT : tnW T) (H : mlC D T w wd wh h) (hh : 0 ≤ h ∧ h ≤ 12) (hB : B + 416 ≤ 1400) (hq : ∀ (D' : xD), mcF D' D → mcI D' (fun f => V f + msE T wd wh h f (T 0).toNat) (B + 416) → Q none D') :
    ∀ (k s : Nat) (D' : xD) (o3 o4 o5 o6 : Option xv), T 0 = s + k → mcF D' D → mcI D' (fun f => V f + msE T wd wh h f s) (B + 26 * s) → WP 124 xF1 none 187 276 [some (.inr (.inr (some 95))), some (.inl h), some (.inl (s : Int)), o3, o4, o5, o6] [] D' Q := by
  have w0 := hT.1
  intro k
  induction k with
  | zero =>
    intro s D' o3 o4 o5 o6 h1 h2 h3
    have H' := ml_fr h2 H
    have e1 := H'.1 0 (by decide)
    rw [seg187_276 (ha0 := ho95), cnB (by decide)]
    simp only [Nat.reduceAdd]
    rw [e1, brT (by omega)]
    refine hq D' h2 (mcI_cg h3 (fun f => ?_) (by omega))
    rw [show (T 0).toNat = s by omega]
  | succ k ih =>
    intro s D' o3 o4 o5 o6 h1 h2 h3
    have H' := ml_fr h2 H
    have e1 := H'.1 0 (by decide)
    have e2 := H'.1 (30 + 7 * s + 2) (by omega)
    have e3 := H'.1 (30 + 7 * s + 3) (by omega)
    obtain ⟨-, -, e5, e6⟩ := id H'
    obtain ⟨v1, v2, v3, v4, v5, -⟩ := hT.2.1 s (by omega) (by omega)
    have fin : ∀ x4 x5, x4 = tkS T wh s → (x5 = wiS T wh s + (if wh ≠ 2 ∧ (s : Int) = wd then 1 else 0)) → WP 124 xF1 none 187 361 [some (.inr (.inr (some 95))), some (.inl h), some (.inl (s : Int)), some (.inl (30 + 7 * (s : Int))), some (.inl x4), o5, o6] [.inl x5] D' Q := by
      intro x4 x5 hx4 hx5
      rw [seg187_361 (ha0 := ho95)]
      have l := l187s (Q := Q) (x3 := 30 + 7 * (s : Int)) (B := B + 26 * s) (V := fun f => V f + msE T wd wh h f s) hT H' hh (show 0 ≤ (s : Int) ∧ (s : Int) < T 0 by omega) (by omega) hx4 hx5 (fun D2 x6 k1 k2 => ?_) (h + 1 - tkS T wh s).toNat 0 D' (by omega) mcF_rf (mcI_cg h3 (fun f => by simp [smI]) (by omega))
      · exact l
      · rw [show (s : Int) + 1 = ((s + 1 : Nat) : Int) by omega]
        refine ih (s + 1) D2 _ _ _ _ (by omega) (mcF_tr k1 h2) (mcI_cg k2 (fun f => ?_) (by omega))
        unfold msE
        rw [smI_last, show (0 : Int) + (s : Int) = s by omega]
        unfold msE1
        omega
    have mid : ∀ b, (b = if wh = 2 then 1 else 0) → WP 124 xF1 none 187 315 [some (.inr (.inr (some 95))), some (.inl h), some (.inl (s : Int)), some (.inl (30 + 7 * (s : Int))), o4, o5, o6] [.inl b, .inl (T (30 + 7 * s + 2))] D' Q := by
      intro b hb
      have hb2 : 0 ≤ b ∧ b ≤ 1 := by rw [hb]; split <;> omega
      have ht : T (30 + 7 * s + 2) + b = tkS T wh s := by unfold tkS; rw [hb]
      rw [seg187_315 (ha0 := ho95), cnX (by omega), e6]
      simp only [Nat.reduceAdd]
      by_cases c2 : wh = 2
      · rw [brF (by omega), cnX (by omega), cnB (by omega), e3, idv2 v4]
        simp only [ne_eq, show ¬ ((2 : Int) = 0) by decide, not_false_eq_true, true_and]
        refine fin _ _ ht ?_
        unfold wiS
        rw [if_pos c2, if_neg (by omega)]; omega
      · rw [brT c2, cnX (by omega), cnB (by omega), e3, e5]
        by_cases c3 : (s : Int) = wd
        · rw [brF (by omega), seg187_360 (ha0 := ho95), cnX (by omega)]
          refine fin _ _ ht ?_
          unfold wiS
          rw [if_neg c2, if_pos ⟨c2, c3⟩]
        · rw [brT c3, seg187_360 (ha0 := ho95), cnX (by omega)]
          refine fin _ _ ht ?_
          unfold wiS
          rw [if_neg c2, if_neg (fun z => c3 z.2)]
    rw [seg187_276 (ha0 := ho95), cnB (by decide)]
    simp only [Nat.reduceAdd]
    rw [e1, brF (by omega), cnX (by omega), cnX (by omega), cnX (by omega), cnB (by omega), e2, e6]
    by_cases c2 : wh = 2
    · rw [brF (by omega)]
      exact mid 1 (by rw [if_pos c2])
    · rw [brT c2]
      exact mid 0 (by rw [if_neg c2])
/-- the reference's net -/
theorem m187 (hT : tnW T) (H : mlC D T w wd wh h) (hh : 0 ≤ h ∧ h ≤ 12) (hw : ∀ t, 0 ≤ t → t ≤ h → 0 ≤ w t ∧ w t ≤ 13) (hwh : 0 ≤ wh ∧ wh ≤ 2) (hq : ∀ (D' : xD), mcF D' D → mcI D' (msS T w wd wh h) 1028 → Q none D') :
    WP 124 xF1 none 187 0 [some (.inr (.inr (some 95))), some (.inl h), o2, o3, o4, o5, o6] [] D Q := by
  rw [seg187_0 (ha0 := ho95)]
  refine l187i (D := xup D 95 21 0) (fun D1 f1 f2 => ?_) 120 0 _ (by omega) (by omega) (fun _ _ => rfl) (fun j j1 j2 => by omega)
  have F1 : mcF D1 D := ⟨fun a a1 a2 a3 a4 a5 a6 a7 => by rw [f1 a a6, up_ne a1], fun j hj => by rw [f1 95 (by decide), up_ne2 hj]⟩
  have e21 : D1 95 21 = 0 := by rw [f1 95 (by decide), up_eq]
  have H1 := ml_fr F1 H
  have I1 : mcI D1 (fun f => msD T wh h f (0 : Nat)) 0 := ⟨by rw [e21]; omega, fun f => by unfold mcS; rw [e21]; rfl, ⟨fun n n1 n2 => .inl (f2 n n1 n2), fun e q1 q2 => by rw [e21] at q2; omega, fun e q1 q2 => by rw [e21] at q2; omega, fun e e' q1 q2 q3 => by rw [e21] at q3; omega⟩, fun e q1 q2 => by rw [e21] at q2; omega, fun e q1 q2 => by rw [e21] at q2; omega⟩
  have w0 := hT.1
  have l := l187D (Q := Q) hT H1 hh hwh (fun D2 o3 o4 o5 o6 k1 k2 => ?_) (T 1).toNat 0 D1 o3 o4 o5 o6 (by omega) mcF_rf (mcI_cg I1 (fun _ => rfl) (by omega))
  · exact l
  · have H2 := ml_fr k1 H1
    have l := l187P (Q := Q) (B := 180) (V := fun f => msD T wh h f (T 1).toNat) hT H2 hh hw (by omega) (fun D3 o3 o4 o5 o6 g1 g2 => ?_) 8 0 D2 o3 o4 o5 o6 rfl mcF_rf (mcI_cg k2 (fun f => by unfold msP; simp [smI]) (by omega))
    · exact l
    · have H3 := ml_fr g1 H2
      have l := l187E (Q := Q) (B := 612) (V := fun f => msD T wh h f (T 1).toNat + msP T w h f 8) hT H3 hh (by omega) (fun D4 q1 q2 => ?_) (T 0).toNat 0 D3 o3 o4 o5 o6 (by omega) mcF_rf (mcI_cg g2 (fun f => by unfold msE; simp [smI]) (by omega))
      · exact l
      · exact hq D4 (mcF_tr q1 (mcF_tr g1 (mcF_tr k1 F1))) (mcI_cg q2 (fun f => rfl) (by omega))
end M83
