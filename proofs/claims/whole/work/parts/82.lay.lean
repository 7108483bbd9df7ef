/-! nets: the reference lays them all -/
/-- what the laying reads -/
def mlC (D : xD) (T w : Int → Int) (wd wh h : Int) : Prop := tnM (D 96) T ∧ (∀ t, 0 ≤ t → t ≤ h → D 106 t = w t) ∧ D 95 22 = wd ∧ D 95 23 = wh
section M82
variable {E x1 x2 x3 x4 n m s d p B h wd wh : Int} {D D' D1 D2 : xD} {T w : Int → Int} {V : (Int → Int → Int → Int → Int) → Int} {o2 o3 o4 o5 o6 : Option xv} {Q : Option xv → xD → Prop}
theorem ml_fr (hF : mcF D' D) (H : mlC D T w wd wh h) : mlC D' T w wd wh h := by
  unfold mlC at *
  rw [hF.1 96 (by decide) (by decide) (by decide) (by decide) (by decide) (by decide) (by decide), hF.1 106 (by decide) (by decide) (by decide) (by decide) (by decide) (by decide) (by decide), hF.2 22 (by decide), hF.2 23 (by decide)]
  exact H
theorem l187i (hq : ∀ D' : xD, (∀ a, a ≠ 104 → D' a = D a) → (∀ j, 0 ≤ j → j < 120 → D' 104 j = -1) → WP 124 xF1 none 187 28 [some (.inr (.inr (some 95))), some (.inl x1), some (.inl 0), o3, o4, o5, o6] [] D' Q) :
    ∀ (k : Nat) (x2 : Int) (D' : xD), x2 + k = 120 → 0 ≤ x2 → (∀ a, a ≠ 104 → D' a = D a) → (∀ j, 0 ≤ j → j < x2 → D' 104 j = -1) → WP 124 xF1 none 187 7 [some (.inr (.inr (some 95))), some (.inl x1), some (.inl x2), o3, o4, o5, o6] [] D' Q := by
  intro k
  induction k with
  | zero =>
    intro x2 D' h1 h2 h3 h4
    rw [seg187_7 (ha0 := ho95), brT (by omega)]
    exact hq D' h3 (fun j j1 j2 => h4 j j1 (by omega))
  | succ k ih =>
    intro x2 D' h1 h2 h3 h4
    rw [seg187_7 (ha0 := ho95), brF (by omega), cnB (by omega), cnX (by omega)]
    simp only [Nat.reduceAdd]
    refine ih (x2 + 1) _ (by omega) (by omega) (fun a ha => by rw [up_ne ha]; exact h3 a ha) (fun j j1 j2 => ?_)
    rw [up_at]
    by_cases c : j = x2
    · rw [if_pos c]
    · rw [if_neg c]; exact h4 j j1 (by omega)
theorem l187d (hT : tnW T) (H : mlC D T w wd wh h) (hh : 0 ≤ h ∧ h ≤ 12) (hd : 0 ≤ d ∧ d < T 1) (hB : B + 28 ≤ 1400) (hV : V = V)
    (hq : ∀ (D' : xD) x3, mcF D' D → mcI D' (fun f => V f + smI (fun t => f (2 + d) (16 + 13 * T (150 + 4 * d) + t) 99 0) (T (150 + 4 * d + 1)) (h + 1 - T (150 + 4 * d + 1)).toNat) (B + 28) → WP 124 xF1 none 187 28 [some (.inr (.inr (some 95))), some (.inl h), some (.inl (d + 1)), some (.inl x3), o4, o5, o6] [] D' Q) :
    ∀ (k j : Nat) (D' : xD), j + k = (h + 1 - T (150 + 4 * d + 1)).toNat → mcF D' D → mcI D' (fun f => V f + smI (fun t => f (2 + d) (16 + 13 * T (150 + 4 * d) + t) 99 0) (T (150 + 4 * d + 1)) j) (B + 2 * j) → WP 124 xF1 none 187 110 [some (.inr (.inr (some 95))), some (.inl h), some (.inl d), some (.inl (T (150 + 4 * d + 1) + j)), o4, o5, o6] [] D' Q := by
  have w0 := hT.1
  obtain ⟨v1, v2, v3, -⟩ := hT.2.2.1 d hd.1 hd.2
  intro k
  induction k with
  | zero =>
    intro j D' h1 h2 h3
    rw [seg187_110 (ha0 := ho95), brT (by omega), cnX (by omega)]
    refine hq D' _ h2 (mcI_cg h3 (fun f => ?_) (by omega))
    rw [show j = (h + 1 - T (150 + 4 * d + 1)).toNat by omega]
  | succ k ih =>
    intro j D' h1 h2 h3
    have H' := ml_fr h2 H
    have e1 := H'.1 (150 + 4 * d) (by omega)
    rw [seg187_110 (ha0 := ho95), brF (by omega), cnX (by omega), cnX (by omega), cnX (by omega)]
    simp only [Nat.reduceAdd]
    rw [cnB (by omega), e1, m185 (by omega)]
    simp only [Option.toList_some, Option.toList_none, List.cons_append, List.nil_append]
    rw [seg187_135 (ha0 := ho95) (hb2 := ho95)]
    refine m186 h3 (by omega) (by omega) (by omega) (by omega) (by decide) (by decide) (fun D2 g1 g2 => ?_)
    simp only [Option.toList_some, Option.toList_none, List.cons_append, List.nil_append]
    rw [seg187_141 (ha0 := ho95), cnX (by omega), show T (150 + 4 * d + 1) + (j : Int) + 1 = T (150 + 4 * d + 1) + ((j + 1 : Nat) : Int) by omega]
    refine ih (j + 1) D2 (by omega) (mcF_tr g1 h2) (mcI_cg g2 (fun f => ?_) (by omega))
    rw [smI_last]
    show V f + smI _ _ j + f (2 + d) (16 + 13 * T (150 + 4 * d) + (T (150 + 4 * d + 1) + j)) 99 0 = _
    omega
theorem l187D (hT : tnW T) (H : mlC D T w wd wh h) (hh : 0 ≤ h ∧ h ≤ 12) (hwh : 0 ≤ wh ∧ wh ≤ 2) (hq : ∀ (D' : xD) o3 o4 o5 o6, mcF D' D → mcI D' (fun f => msD T wh h f (T 1).toNat) 180 → WP 124 xF1 none 187 155 [some (.inr (.inr (some 95))), some (.inl h), some (.inl 0), o3, o4, o5, o6] [] D' Q) :
    ∀ (k d : Nat) (D' : xD) (o3 o4 o5 o6 : Option xv), T 1 = d + k → mcF D' D → mcI D' (fun f => msD T wh h f d) (30 * d) → WP 124 xF1 none 187 28 [some (.inr (.inr (some 95))), some (.inl h), some (.inl (d : Int)), o3, o4, o5, o6] [] D' Q := by
  have w0 := hT.1
  intro k
  induction k with
  | zero =>
    intro d D' o3 o4 o5 o6 h1 h2 h3
    have H' := ml_fr h2 H
    have e1 := H'.1 1 (by decide)
    rw [seg187_28 (ha0 := ho95), cnB (by decide)]
    simp only [Nat.reduceAdd]
    rw [e1, brT (by omega)]
    refine hq D' _ _ _ _ h2 (mcI_cg h3 (fun f => ?_) (by omega))
    rw [show (T 1).toNat = d by omega]
  | succ k ih =>
    intro d D' o3 o4 o5 o6 h1 h2 h3
    have H' := ml_fr h2 H
    have e1 := H'.1 1 (by decide)
    have e2 := H'.1 (150 + 4 * d + 2) (by omega)
    have e3 := H'.1 (150 + 4 * d + 3) (by omega)
    have e5 := H'.1 (150 + 4 * d + 1) (by omega)
    obtain ⟨v1, v2, v3, v4⟩ := hT.2.2.1 d (by omega) (by omega)
    have e4 := H'.2.2.2
    have md : ∀ x, (x = if 0 < wh ∧ T (150 + 4 * d + 3) ≠ wh - 1 then 0 else T (150 + 4 * d + 2)) → WP 124 xF1 none 187 91 [some (.inr (.inr (some 95))), some (.inl h), some (.inl (d : Int)), o3, o4, o5, o6] [.inl x, .inl (2 + (d : Int)), .inl 0, .inr (.inr (some 95))] D' Q := by
      intro x hx
      have hx2 : 0 ≤ x ∧ x ≤ 1000 := by rw [hx]; split <;> omega
      rw [seg187_91 (ha0 := ho95) (hb3 := ho95)]
      refine m186 h3 (by omega) (by omega) (by omega) (by omega) hx2 (by decide) (fun D2 g1 g2 => ?_)
      simp only [Option.toList_some, Option.toList_none, List.cons_append, List.nil_append]
      have H2 := ml_fr (mcF_tr g1 h2) H
      have f5 := H2.1 (150 + 4 * d + 1) (by omega)
      rw [seg187_95 (ha0 := ho95), cnX (by omega), cnX (by omega), cnX (by omega), cnB (by omega)]
      simp only [Nat.reduceAdd]
      rw [f5]
      have l := l187d (Q := Q) (o4 := o4) (o5 := o5) (o6 := o6) (d := d) (B := 30 * d + 2) (V := fun f => msD T wh h f d + f 0 (2 + d) x 0) hT H2 hh (by omega) (by omega) rfl (fun D3 x3 k1 k2 => ?_) (h + 1 - T (150 + 4 * d + 1)).toNat 0 D2 (by omega) ⟨fun _ _ _ _ _ _ _ _ => rfl, fun _ _ => rfl⟩ (mcI_cg g2 (fun f => by simp [smI]) (by omega))
      · rw [show T (150 + 4 * (d : Int) + 1) + ((0 : Nat) : Int) = T (150 + 4 * (d : Int) + 1) by omega] at l
        exact l
      · rw [show (d : Int) + 1 = ((d + 1 : Nat) : Int) by omega]
        refine ih (d + 1) D3 _ _ _ _ (by omega) (mcF_tr k1 (mcF_tr g1 h2)) (mcI_cg k2 (fun f => ?_) (by omega))
        unfold msD
        rw [smI_last, hx, show (0 : Int) + (d : Int) = d by omega]
        omega
    rw [seg187_28 (ha0 := ho95), cnB (by decide)]
    simp only [Nat.reduceAdd]
    rw [e1, brF (by omega), cnX (by omega), e4]
    by_cases c1 : wh ≤ 0
    · rw [brT c1, seg187_77 (ha0 := ho95) (hb2 := ho95), cnX (by omega), cnX (by omega), cnX (by omega), cnB (by omega)]
      simp only [Nat.reduceAdd]
      rw [e2]
      exact md _ (by rw [if_neg (by omega)])
    · rw [brF c1, cnX (by omega), cnX (by omega), cnX (by omega), cnB (by omega), cnX (by omega), e3]
      by_cases c2 : T (150 + 4 * d + 3) = wh - 1
      · rw [brT c2, seg187_77 (ha0 := ho95) (hb2 := ho95), cnX (by omega), cnX (by omega), cnX (by omega), cnB (by omega)]
        simp only [Nat.reduceAdd]
        rw [e2]
        exact md _ (by rw [if_neg (by omega)])
      · rw [brF c2]
        exact md _ (by rw [if_pos (by omega)])
end M82
