/-! what a change of signs or of the way told keeps; sign, change -/
section M43
variable {K : (Int → Int) → (Int → Int) → (Int → Int) → (Int → Int) → (Int → Int) → (Int → Int) → (Int → Int) → (Int → Int) → Prop}
variable {x1 x2 x3 s z : Int} {D D' : xD} {Q : Option xv → xD → Prop}
theorem Wf_of {A B : Int → Int} (W : WfA A) (e : ∀ j, (0 ≤ j ∧ j < 176 ∧ j ≠ 5 ∧ j ≠ 6) → B j = A j) (h5 : xinP (B 5)) (h6 : 0 ≤ B 6 ∧ B 6 ≤ 8)
    (hs : ∀ p, 0 ≤ p → p < 8 → B (176 + p) = -1 ∨ (0 ≤ B (176 + p) ∧ B (176 + p) < A 0 ∧ frM B (B (176 + p)) = p))
    (hc : ∀ c, 0 ≤ c → c < B 6 → (0 ≤ B (190 + 3 * c) ∧ B (190 + 3 * c) ≤ 7) ∧ (1 ≤ B (190 + 3 * c + 1) ∧ B (190 + 3 * c + 1) ≤ 12) ∧ (B (190 + 3 * c + 2) = -1 ∨ (0 ≤ B (190 + 3 * c + 2) ∧ B (190 + 3 * c + 2) < A 0 ∧ frM B (B (190 + 3 * c + 2)) = B (190 + 3 * c))))
    (hk : ∀ k, 0 ≤ k → k < 208 → (0 ≤ B (220 + k) ∧ B (220 + k) ≤ 30) ∧ (0 ≤ B (430 + k) ∧ B (430 + k) ≤ 30) ∧ (13 * A 0 ≤ k → B (220 + k) = 0 ∧ B (430 + k) = 0)) : WfA B := by
  obtain ⟨⟨w0, w1, w2, w3, w4, w5⟩, ws, wd, wsum, wp, wc, wk, wx1, wx2, wx3⟩ := W
  refine ⟨?_, ?_, ?_, ?_, ?_, ?_, ?_, ?_, ?_, ?_⟩
  · rw [e 0 (by omega), e 1 (by omega)]; exact ⟨w0, w1, w2, w3, h6⟩
  · intro s s1 s2
    rw [e 0 (by omega)] at s2
    rw [e _ (by omega), e _ (by omega), e _ (by omega), e _ (by omega), e _ (by omega), e _ (by omega), e _ (by omega)]
    exact ws s s1 s2
  · intro d d1 d2
    rw [e 1 (by omega)] at d2
    rw [e _ (by omega), e _ (by omega), e _ (by omega), e _ (by omega)]
    exact wd d d1 d2
  · rw [e 2 (by omega), e 3 (by omega), e 7 (by omega), e 1 (by omega), e 0 (by omega)]
    obtain ⟨u1, u2, u3, u4, u5⟩ := wsum
    refine ⟨?_, u2, ?_, u4, ?_⟩
    · rw [u1]; exact smI_congr _ _ (fun j a b => by rw [e _ (by omega)])
    · rw [u3]; exact smI_congr _ _ (fun j a b => by rw [e _ (by omega)])
    · rw [u5]; exact smI_congr _ _ (fun j a b => by rw [e _ (by omega), e _ (by omega)])
  · intro p p1 p2
    rw [e (10 + p) (by omega), e (18 + p) (by omega), e 0 (by omega)]
    obtain ⟨v1, v2, -⟩ := wp p p1 p2
    exact ⟨v1, v2, hs p p1 p2⟩
  · intro c c1 c2
    rw [e 0 (by omega)]
    exact hc c c1 c2
  · intro k k1 k2
    rw [e 0 (by omega)]
    exact hk k k1 k2
  · rw [e 4 (by omega)]; exact wx1
  · exact h5
  · rw [e 4 (by omega)]; exact wx3
theorem IS_of {A B : Int → Int} {s : Nat} (H : IS D s A) (h : ∀ a, s + 1 ≤ a → a ≤ s + 12 → D' a = D a) (e : ∀ j, (0 ≤ j ∧ j < 176 ∧ j ≠ 5 ∧ j ≠ 6) → B j = A j) (hA : A 0 ≤ 16 ∧ A 1 ≤ 6) (h5 : D' s 1 = B 5) (h6 : D' s 3 = B 6) (hs : ∀ p, 0 ≤ p → p < 8 → D' (s + 13) p = B (176 + p)) (hc : ∀ c, 0 ≤ c → c < B 6 → D' (s + 14) c = B (190 + 3 * c) ∧ D' (s + 15) c = B (190 + 3 * c + 1) ∧ D' (s + 16) c = B (190 + 3 * c + 2)) (hk : ∀ k, 0 ≤ k → k < 208 → D' (s + 17) k = B (220 + k) ∧ D' (s + 18) k = B (430 + k)) : IS D' s B := by
  obtain ⟨⟨e1, e2, e3, -, -⟩, ⟨b1, b2, b3⟩, hsl, hst, hp, hd, -, -⟩ := H
  refine ⟨⟨?_, ?_, ?_, h5, h6⟩, ⟨?_, ?_, fun k k1 k2 => ?_⟩, fun d d1 d2 => ?_, fun k k1 k2 => ?_, fun p p1 p2 => ?_, fun d d1 d2 => ?_, hc, hk⟩
  · rw [h (s + 1) (by omega) (by omega), e 0 (by omega)]; exact e1
  · rw [h (s + 1) (by omega) (by omega), e 1 (by omega)]; exact e2
  · rw [h (s + 1) (by omega) (by omega), e 4 (by omega)]; exact e3
  · rw [h (s + 1) (by omega) (by omega)]; exact b1
  · rw [h (s + 1) (by omega) (by omega)]; exact b2
  · rw [h (s + 1) (by omega) (by omega), e 0 (by omega), e _ (by omega)]; exact b3 k k1 k2
  · rw [e 1 (by omega)] at d2
    rw [h (s + 1) (by omega) (by omega), e _ (by omega)]; exact hsl d d1 d2
  · rw [e 0 (by omega)] at k2
    rw [h (s + 2) (by omega) (by omega), h (s + 3) (by omega) (by omega), h (s + 4) (by omega) (by omega), h (s + 5) (by omega) (by omega), h (s + 6) (by omega) (by omega), h (s + 7) (by omega) (by omega), e _ (by omega), e _ (by omega), e _ (by omega), e _ (by omega), e _ (by omega), e _ (by omega)]; exact hst k k1 k2
  · rw [h (s + 8) (by omega) (by omega), h (s + 9) (by omega) (by omega), e (10 + p) (by omega), e (18 + p) (by omega)]
    exact ⟨(hp p p1 p2).1, (hp p p1 p2).2.1, hs p p1 p2⟩
  · rw [e 1 (by omega)] at d2
    rw [h (s + 10) (by omega) (by omega), h (s + 11) (by omega) (by omega), h (s + 12) (by omega) (by omega), e _ (by omega), e _ (by omega), e _ (by omega)]; exact hd d d1 d2
theorem trA_up2 {A B : Int → Int} (h : ∀ j, j < 176 → j ≠ 6 → A j = B j) : trA A = trA B := by
  funext j
  unfold trA
  by_cases c : j < 176 ∧ j ≠ 6
  · rw [if_pos c, if_pos c, h j c.1 c.2]
  · rw [if_neg c, if_neg c]
theorem frM_cg2 {A B : Int → Int} (h : ∀ j, (0 ≤ j ∧ j < 176 ∧ j ≠ 6) → A j = B j) (h2 : 0 ≤ s ∧ s < 16) : frM A s = frM B s ∧ toM A s = toM B s := by
  unfold frM toM
  rw [h 5 (by omega), h (30 + 7 * s + 1) (by omega), h (30 + 7 * s) (by omega)]
  exact ⟨rfl, rfl⟩
/-- a sign can point there -/
def cpM (A : Int → Int) (x1 x2 : Int) : Prop := (0 ≤ x1 ∧ x1 ≤ 7) ∧ (x2 = -1 ∨ ((0 ≤ x2 ∧ x2 < A 0) ∧ frM A x2 = x1))
theorem cp_eq (H : IS D 3 (D 96)) (W : WfA (D 96)) (x1 x2 : Int) : ((0 ≤ x1 ∧ x1 ≤ 7) ∧ (x2 = -1 ∨ ((0 ≤ x2 ∧ x2 < D 4 11) ∧ frC D x2 = x1))) ↔ cpM (D 96) x1 x2 := by
  unfold cpM
  rw [show D 4 11 = D 96 0 from H.1.1]
  constructor
  · rintro ⟨a, b | ⟨b, c⟩⟩
    · exact ⟨a, .inl b⟩
    · exact ⟨a, .inr ⟨b, by rw [← (fr_eq H W b).1]; exact c⟩⟩
  · rintro ⟨a, b | ⟨b, c⟩⟩
    · exact ⟨a, .inl b⟩
    · exact ⟨a, .inr ⟨b, by rw [(fr_eq H W b).1]; exact c⟩⟩
theorem m85 (H : IS D 3 (D 96)) (W : WfA (D 96)) : WP 124 xF1 none 85 0 [some (.inr (.inr (some 3))), some (.inl x1), some (.inl x2)] [] D Q = ((cpM (D 96) x1 x2 → Q (some (.inl 1)) D) ∧ (¬ cpM (D 96) x1 x2 → Q (some (.inl 0)) D)) := by
  have ec := cp_eq H W x1 x2
  have hb : D 4 11 ≤ 16 := by rw [show D 4 11 = D 96 0 from H.1.1]; exact W.1.2.1
  rw [seg85_0 (ha0 := ho3), m145]
  simp only [Option.toList_some, Option.toList_none, List.cons_append, List.nil_append]
  rw [seg85_4 (ha0 := ho3)]
  by_cases h1 : 0 ≤ x1 ∧ x1 ≤ 7
  · rw [if_pos h1, brT (by decide)]
    by_cases h2 : x2 = -1
    · rw [brT h2, brT (ec.mp ⟨h1, .inl h2⟩), seg85_34 (ha0 := ho3), seg85_39 (ha0 := ho3), cnT (.inr rfl)]
    · rw [brF h2]
      simp only [Nat.reduceAdd, m94, Option.toList_some, Option.toList_none, List.cons_append, List.nil_append]
      rw [seg85_22 (ha0 := ho3)]
      by_cases h3 : 0 ≤ x2 ∧ x2 < D 4 11
      · rw [if_pos h3, brF (by decide), n78 (by omega)]
        simp only [Option.toList_some, Option.toList_none, List.cons_append, List.nil_append]
        rw [seg85_30 (ha0 := ho3)]
        by_cases h4 : frC D x2 = x1
        · rw [brF (fun q => q h4), brT (ec.mp ⟨h1, .inr ⟨h3, h4⟩⟩), seg85_34 (ha0 := ho3), seg85_39 (ha0 := ho3), cnT (.inr rfl)]
        · rw [brT h4, brF (fun q => (ec.mpr q).2.elim h2 (fun r => h4 r.2)), seg85_38 (ha0 := ho3), seg85_39 (ha0 := ho3), cnT (.inl rfl)]
      · rw [if_neg h3, brT rfl, brF (fun q => (ec.mpr q).2.elim h2 (fun r => h3 r.1)), seg85_38 (ha0 := ho3), seg85_39 (ha0 := ho3), cnT (.inl rfl)]
  · rw [if_neg h1, brF (by decide), brF (fun q => h1 q.1)]
theorem m217 (h : 0 ≤ D 96 0 ∧ D 96 0 ≤ 16) : WP 124 xF1 none 217 0 [some (.inr (.inr (some 95))), some (.inl x1), some (.inl x2)] [] D Q = ((cpM (D 96) x1 x2 → WP 124 xF1 none 217 31 [some (.inr (.inr (some 95))), some (.inl x1), some (.inl x2)] [] D Q) ∧ (¬ cpM (D 96) x1 x2 → Q (some (.inl 0)) D)) := by
  rw [seg217_0 (ha0 := ho95), m175]
  simp only [Option.toList_some, Option.toList_none, List.cons_append, List.nil_append]
  rw [seg217_4 (ha0 := ho95)]
  by_cases h1 : 0 ≤ x1 ∧ x1 ≤ 7
  · rw [if_pos h1, brF (by decide)]
    by_cases h2 : x2 = -1
    · rw [brT h2, brT ⟨h1, .inl h2⟩]
    · rw [brF h2, m174 h]
      simp only [Option.toList_some, Option.toList_none, List.cons_append, List.nil_append]
      rw [seg217_17 (ha0 := ho95)]
      by_cases h3 : 0 ≤ x2 ∧ x2 < D 96 0
      · rw [if_pos h3, brF (by decide), n177 (by omega)]
        simp only [Option.toList_some, Option.toList_none, List.cons_append, List.nil_append]
        rw [seg217_25 (ha0 := ho95)]
        by_cases h4 : frM (D 96) x2 = x1
        · rw [brT h4, brT ⟨h1, .inr ⟨h3, h4⟩⟩]
        · rw [brF h4, brF (fun q => q.2.elim h2 (fun r => h4 r.2)), seg217_29 (ha0 := ho95)]
      · rw [if_neg h3, brT rfl, brF (fun q => q.2.elim h2 (fun r => h3 r.1)), seg217_29 (ha0 := ho95)]
  · rw [if_neg h1, brT rfl, brF (fun q => h1 q.1), seg217_29 (ha0 := ho95)]
theorem pair19 : ∀ (z1 z2 : Int), xinP z1 → xinP z2 → xpr (Inv K) 134 [some (.inr (.inr (some 1))), some (.inl z1), some (.inl z2)] 217 [some (.inr (.inr (some 95))), some (.inl z1), some (.inl z2)] := by
  intro z1 z2 y1 y2 D H
  obtain ⟨-, hs, hw, -⟩ := id H
  obtain ⟨⟨e1, e2, e3, e4, e5⟩, hb, hsl, hst, hp, hd, hcc, hk⟩ := id hs
  obtain ⟨⟨w0, w1, w2, w3, w4, w5⟩, ws, wd, wsum, wp, wc, wk, wx1, wx2, wx3⟩ := id hw
  simp only [Nat.reduceAdd] at e1 e2 e3 e4 e5 hb hsl hst hp hd hcc hk
  rw [seg134_0 (ha0 := ho1)]
  simp only [Nat.reduceAdd]
  rw [m85 hs hw]
  simp only [Option.toList_some, Option.toList_none, List.cons_append, List.nil_append]
  by_cases h : cpM (D 96) z1 z2
  · rw [brT h, seg134_9 (ha0 := ho1), brT (by decide), cnB (by have := h.1; omega)]
    simp only [Nat.reduceAdd]
    refine ⟨1, rfl, up_ne (by decide), ?_⟩
    have e96 : xup D 16 z1 z2 96 = D 96 := up_ne (by decide)
    have hz := h.1
    rw [m217 (by rw [e96]; exact ⟨w0, w1⟩), e96, brT h, seg217_31 (ha0 := ho95), cnX (by omega), cnB (by omega)]
    simp only [Nat.reduceAdd]
    refine ⟨trivial, by rw [up_ne (by decide), up_ne (by decide)], ?_⟩
    have eA : ∀ j, xup (xup D 16 z1 z2) 96 (176 + z1) z2 96 j = if j = 176 + z1 then z2 else D 96 j := fun j => by rw [up_at, e96]
    have eL : ∀ j, j ≠ 176 + z1 → xup (xup D 16 z1 z2) 96 (176 + z1) z2 96 j = D 96 j := fun j hj => by rw [eA, if_neg hj]
    have n3 : ∀ a, a ≠ 16 → a ≠ 96 → xup (xup D 16 z1 z2) 96 (176 + z1) z2 a = D a := fun a a1 a2 => by rw [up_ne a2, up_ne a1]
    have n16 : ∀ j, xup (xup D 16 z1 z2) 96 (176 + z1) z2 16 j = if j = z1 then z2 else D 16 j := fun j => by rw [up_ne (by decide), up_at]
    generalize xup (xup D 16 z1 z2) 96 (176 + z1) z2 = D2 at eA eL n3 n16 ⊢
    refine Inv_now H (fun a a1 a2 => n3 a (by omega) a2) ?_ ?_ (trA_up (fun j hj => eL j (by omega)))
    · refine IS_of hs (fun a a1 a2 => n3 a (by omega) (by omega)) (fun j hj => eL j (by omega)) ⟨w1, w3⟩ ?_ ?_ (fun p p1 p2 => ?_) (fun c c1 c2 => ?_) (fun k k1 k2 => ?_)
      · rw [n3 3 (by decide) (by decide), eL 5 (by omega)]; exact e4
      · rw [n3 3 (by decide) (by decide), eL 6 (by omega)]; exact e5
      · simp only [Nat.reduceAdd]
        rw [n16, eA]
        by_cases c : p = z1
        · rw [if_pos c, if_pos (by omega)]
        · rw [if_neg c, if_neg (by omega)]; exact (hp p p1 p2).2.2
      · rw [eL 6 (by omega)] at c2
        simp only [Nat.reduceAdd]
        rw [n3 17 (by decide) (by decide), n3 18 (by decide) (by decide), n3 19 (by decide) (by decide), eL _ (by omega), eL _ (by omega), eL _ (by omega)]; exact hcc c c1 c2
      · simp only [Nat.reduceAdd]
        rw [n3 20 (by decide) (by decide), n3 21 (by decide) (by decide), eL _ (by omega), eL _ (by omega)]; exact hk k k1 k2
    · have ef : ∀ s, 0 ≤ s → s < D 96 0 → frM (D2 96) s = frM (D 96) s := fun s s1 s2 => (frM_cg (fun j hj => eL j (by omega)) ⟨s1, by omega⟩).1
      refine Wf_of hw (fun j hj => eL j (by omega)) (by rw [eL 5 (by omega)]; exact wx2) (by rw [eL 6 (by omega)]; exact ⟨w4, w5⟩) (fun p p1 p2 => ?_) (fun c c1 c2 => ?_) (fun k k1 k2 => ?_)
      · rw [eA]
        by_cases c : 176 + p = 176 + z1
        · rw [if_pos c]
          rcases h.2 with q | ⟨q, r⟩
          · exact .inl q
          · exact .inr ⟨q.1, q.2, by rw [ef z2 q.1 q.2, r]; omega⟩
        · rw [if_neg c]
          rcases (wp p p1 p2).2.2 with q | ⟨q, r, t⟩
          · exact .inl q
          · exact .inr ⟨q, r, by rw [ef _ q r, t]⟩
      · rw [eL 6 (by omega)] at c2
        rw [eL _ (by omega), eL _ (by omega), eL _ (by omega)]
        obtain ⟨v1, v2, v3⟩ := wc c c1 c2
        refine ⟨v1, v2, ?_⟩
        rcases v3 with q | ⟨q, r, t⟩
        · exact .inl q
        · exact .inr ⟨q, r, by rw [ef _ q r, t]⟩
      · rw [eL _ (by omega), eL _ (by omega)]; exact wk k k1 k2
  · rw [brF h, seg134_9 (ha0 := ho1), brF (by decide)]
    refine ⟨0, rfl, rfl, ?_⟩
    rw [m217 ⟨w0, w1⟩, brF h]
    exact ⟨rfl, rfl, H⟩
theorem m88 (hn : 0 ≤ D 3 3 ∧ D 3 3 ≤ 8) {i : Int} (hi : fsI (fun c => D 17 c = x1 ∧ D 18 c = x2) 0 (D 3 3).toNat = i) :
    WP 124 xF1 none 88 0 [some (.inr (.inr (some 3))), some (.inl x1), some (.inl x2), some (.inl x3), none] [] D Q = ((i ≠ -1 → Q (some (.inl 1)) (xup (xup (xup D 17 i x1) 18 i x2) 19 i x3)) ∧ (¬ i ≠ -1 → (D 3 3 < 8 → Q (some (.inl 1)) (xup (xup (xup (xup D 3 3 (D 3 3 + 1)) 17 (D 3 3) x1) 18 (D 3 3) x2) 19 (D 3 3) x3)) ∧ (¬ D 3 3 < 8 → Q (some (.inl 0)) D))) := by
  have hs := fsI_spec (P := fun c => D 17 c = x1 ∧ D 18 c = x2) (D 3 3).toNat 0
  rw [hi] at hs
  have hb : i = -1 ∨ (0 ≤ i ∧ i < D 3 3) := by
    rcases hs with ⟨a, -⟩ | ⟨a, b, -⟩
    · exact .inl a
    · exact .inr (by omega)
  rw [seg88_0 (ha0 := ho3), seg87_0 (ha0 := ho3), l87 (D 3 3).toNat 0 (by omega) (by omega) (by omega), hi]
  simp only [Option.toList_some, Option.toList_none, List.cons_append, List.nil_append]
  rw [seg88_6 (ha0 := ho3)]
  by_cases h : i = -1
  · rw [brF (c := i ≠ -1) (fun q => q h), brF (c := i ≠ -1) (fun q => q h)]
    by_cases h2 : D 3 3 < 8
    · rw [brT h2, brT h2, cnX (by omega), seg88_41 (ha0 := ho3), cnB (by omega), cnB (by omega), cnB (by omega)]
    · rw [brF h2, brF h2]
  · rw [brT h, brT h, seg88_41 (ha0 := ho3), cnB (by omega), cnB (by omega), cnB (by omega)]
theorem m219 (h : 0 ≤ D 96 0 ∧ D 96 0 ≤ 16) : WP 124 xF1 none 219 0 [some (.inr (.inr (some 95))), some (.inl x1), some (.inl x2), some (.inl x3), none] [] D Q = (((cpM (D 96) x1 x3 ∧ (1 ≤ x2 ∧ x2 ≤ 12)) → WP 124 xF1 none 219 41 [some (.inr (.inr (some 95))), some (.inl x1), some (.inl x2), some (.inl x3), none] [] D Q) ∧ (¬ (cpM (D 96) x1 x3 ∧ (1 ≤ x2 ∧ x2 ≤ 12)) → Q (some (.inl 0)) D)) := by
  rw [seg219_0 (ha0 := ho95), m175]
  simp only [Option.toList_some, Option.toList_none, List.cons_append, List.nil_append]
  rw [seg219_4 (ha0 := ho95)]
  by_cases h1 : 0 ≤ x1 ∧ x1 ≤ 7
  · rw [if_pos h1, brF (by decide), m149]
    simp only [Option.toList_some, Option.toList_none, List.cons_append, List.nil_append]
    rw [seg219_14 (ha0 := ho95)]
    by_cases h5 : 1 ≤ x2 ∧ x2 ≤ 12
    · rw [if_pos h5, brF (by decide)]
      by_cases h2 : x3 = -1
      · rw [brT h2, brT ⟨⟨h1, .inl h2⟩, h5⟩]
      · rw [brF h2, m174 h]
        simp only [Option.toList_some, Option.toList_none, List.cons_append, List.nil_append]
        rw [seg219_27 (ha0 := ho95)]
        by_cases h3 : 0 ≤ x3 ∧ x3 < D 96 0
        · rw [if_pos h3, brF (by decide), n177 (by omega)]
          simp only [Option.toList_some, Option.toList_none, List.cons_append, List.nil_append]
          rw [seg219_35 (ha0 := ho95)]
          by_cases h4 : frM (D 96) x3 = x1
          · rw [brT h4, brT ⟨⟨h1, .inr ⟨h3, h4⟩⟩, h5⟩]
          · rw [brF h4, brF (fun q => q.1.2.elim h2 (fun r => h4 r.2)), seg219_39 (ha0 := ho95)]
        · rw [if_neg h3, brT rfl, brF (fun q => q.1.2.elim h2 (fun r => h3 r.1)), seg219_39 (ha0 := ho95)]
    · rw [if_neg h5, brT rfl, brF (fun q => h5 q.2), seg219_39 (ha0 := ho95)]
  · rw [if_neg h1, brT rfl, brF (fun q => h1 q.1.1), seg219_39 (ha0 := ho95)]
/-- the model's part behind the search -/
theorem m219b (hn : 0 ≤ D 96 6 ∧ D 96 6 ≤ 8) {i : Int} (hi : fsI (fun c => D 96 (190 + 3 * c) = x1 ∧ D 96 (190 + 3 * c + 1) = x2) 0 (D 96 6).toNat = i) :
    WP 124 xF1 none 219 41 [some (.inr (.inr (some 95))), some (.inl x1), some (.inl x2), some (.inl x3), none] [] D Q = ((i ≠ -1 → Q (some (.inl 1)) (xup (xup (xup D 96 (190 + 3 * i) x1) 96 (190 + 3 * i + 1) x2) 96 (190 + 3 * i + 2) x3)) ∧ (¬ i ≠ -1 → (D 96 6 < 8 → Q (some (.inl 1)) (xup (xup (xup (xup D 96 6 (D 96 6 + 1)) 96 (190 + 3 * D 96 6) x1) 96 (190 + 3 * D 96 6 + 1) x2) 96 (190 + 3 * D 96 6 + 2) x3)) ∧ (¬ D 96 6 < 8 → Q (some (.inl 0)) D))) := by
  have hs := fsI_spec (P := fun c => D 96 (190 + 3 * c) = x1 ∧ D 96 (190 + 3 * c + 1) = x2) (D 96 6).toNat 0
  rw [hi] at hs
  have hb : i = -1 ∨ (0 ≤ i ∧ i < D 96 6) := by
    rcases hs with ⟨a, -⟩ | ⟨a, b, -⟩
    · exact .inl a
    · exact .inr (by omega)
  rw [seg219_41 (ha0 := ho95), seg218_0 (ha0 := ho95), l218 (D 96 6).toNat 0 (by omega) (by omega) (by omega), hi]
  simp only [Option.toList_some, Option.toList_none, List.cons_append, List.nil_append]
  rw [seg219_47 (ha0 := ho95)]
  simp only [Nat.reduceAdd]
  by_cases h : i = -1
  · rw [brF (c := 0 ≤ i) (by omega), cnB (by omega), brF (c := i ≠ -1) (fun q => q h)]
    by_cases h2 : D 96 6 < 8
    · rw [brT (c := D 96 6 ≠ 8) (by omega), brT h2, seg219_68 (ha0 := ho95)]
      simp only [Nat.reduceAdd]
      rw [brF (c := 0 ≤ i) (by omega), cnB (by omega), cnB (by omega), cnX (by omega), cnB (by omega), seg219_93 (ha0 := ho95)]
      simp (disch := omega) only [cnB, cnX, Nat.reduceAdd]
    · rw [brF (c := D 96 6 ≠ 8) (by omega), brF h2]
  · rw [brT (c := 0 ≤ i) (by omega), brT h, seg219_68 (ha0 := ho95), brT (c := 0 ≤ i) (by omega), seg219_93 (ha0 := ho95)]
    simp (disch := omega) only [cnB, cnX, Nat.reduceAdd]
/-- a change written, in the place i of n -/
theorem ch_inv {D2 : xD} {i n : Int} (H : Inv K D) (h : cpM (D 96) x1 x3 ∧ (1 ≤ x2 ∧ x2 ≤ 12)) (hi : 0 ≤ i ∧ i < n) (hn : n ≤ 8 ∧ (n = D 96 6 ∨ (n = D 96 6 + 1 ∧ i = D 96 6)))
    (n3 : ∀ a, a ≠ 3 → a ≠ 17 → a ≠ 18 → a ≠ 19 → a ≠ 96 → D2 a = D a) (n30 : ∀ j, D2 3 j = if j = 3 then n else D 3 j)
    (n17 : ∀ j, D2 17 j = if j = i then x1 else D 17 j) (n18 : ∀ j, D2 18 j = if j = i then x2 else D 18 j) (n19 : ∀ j, D2 19 j = if j = i then x3 else D 19 j)
    (nA : ∀ j, D2 96 j = if j = 190 + 3 * i + 2 then x3 else if j = 190 + 3 * i + 1 then x2 else if j = 190 + 3 * i then x1 else if j = 6 then n else D 96 j) : Inv K D2 := by
  obtain ⟨-, hs, hw, -⟩ := id H
  obtain ⟨⟨e1, e2, e3, e4, e5⟩, hb, hsl, hst, hp, hd, hcc, hk⟩ := id hs
  obtain ⟨⟨w0, w1, w2, w3, w4, w5⟩, ws, wd, wsum, wp, wc, wk, wx1, wx2, wx3⟩ := id hw
  simp only [Nat.reduceAdd] at e1 e2 e3 e4 e5 hb hsl hst hp hd hcc hk
  have eL : ∀ j, (j < 190 ∨ 214 ≤ j) → j ≠ 6 → D2 96 j = D 96 j := fun j h1 h2 => by rw [nA, if_neg (by omega), if_neg (by omega), if_neg (by omega), if_neg h2]
  have e6 : D2 96 6 = n := by rw [nA, if_neg (by omega), if_neg (by omega), if_neg (by omega), if_pos rfl]
  have ef : ∀ s, 0 ≤ s → s < D 96 0 → frM (D2 96) s = frM (D 96) s := fun s s1 s2 => (frM_cg2 (fun j hj => eL j (by omega) (by omega)) ⟨s1, by omega⟩).1
  refine Inv_now H (fun a a1 a2 => n3 a (by omega) (by omega) (by omega) (by omega) a2) ?_ ?_ (trA_up2 (fun j hj hj2 => eL j (by omega) hj2))
  · refine IS_of hs (fun a a1 a2 => n3 a (by omega) (by omega) (by omega) (by omega) (by omega)) (fun j hj => eL j (by omega) (by omega)) ⟨w1, w3⟩ ?_ ?_ (fun p p1 p2 => ?_) (fun c c1 c2 => ?_) (fun k k1 k2 => ?_)
    · rw [n30, if_neg (by decide), eL 5 (by omega) (by decide)]; exact e4
    · rw [n30, if_pos rfl, e6]
    · simp only [Nat.reduceAdd]
      rw [n3 16 (by decide) (by decide) (by decide) (by decide) (by decide), eL _ (by omega) (by omega)]; exact (hp p p1 p2).2.2
    · rw [e6] at c2
      simp only [Nat.reduceAdd]
      rw [n17, n18, n19, nA, nA, nA]
      by_cases c3 : c = i
      · subst c3
        simp (disch := omega) only [if_pos, if_neg, if_true]
        exact ⟨trivial, trivial, trivial⟩
      · simp (disch := omega) only [if_neg]
        exact hcc c c1 (by omega)
    · simp only [Nat.reduceAdd]
      rw [n3 20 (by decide) (by decide) (by decide) (by decide) (by decide), n3 21 (by decide) (by decide) (by decide) (by decide) (by decide), eL _ (by omega) (by omega), eL _ (by omega) (by omega)]; exact hk k k1 k2
  · refine Wf_of hw (fun j hj => eL j (by omega) (by omega)) (by rw [eL 5 (by omega) (by decide)]; exact wx2) (by rw [e6]; omega) (fun p p1 p2 => ?_) (fun c c1 c2 => ?_) (fun k k1 k2 => ?_)
    · rw [eL _ (by omega) (by omega)]
      rcases (wp p p1 p2).2.2 with q | ⟨q, r, t⟩
      · exact .inl q
      · exact .inr ⟨q, r, by rw [ef _ q r, t]⟩
    · rw [e6] at c2
      rw [nA (190 + 3 * c), nA (190 + 3 * c + 1), nA (190 + 3 * c + 2)]
      by_cases c3 : c = i
      · subst c3
        simp (disch := omega) only [if_pos, if_neg, if_true]
        refine ⟨h.1.1, h.2, ?_⟩
        rcases h.1.2 with q | ⟨q, r⟩
        · exact .inl q
        · exact .inr ⟨q.1, q.2, by rw [ef x3 q.1 q.2, r]⟩
      · simp (disch := omega) only [if_neg]
        obtain ⟨v1, v2, v3⟩ := wc c c1 (by omega)
        refine ⟨v1, v2, ?_⟩
        rcases v3 with q | ⟨q, r, t⟩
        · exact .inl q
        · exact .inr ⟨q, r, by rw [ef _ q r, t]⟩
    · rw [eL _ (by omega) (by omega), eL _ (by omega) (by omega)]; exact wk k k1 k2
theorem pair21 : ∀ (z1 z2 z3 : Int), xinP z1 → xinP z2 → xinP z3 → xpr (Inv K) 136 [some (.inr (.inr (some 1))), some (.inl z1), some (.inl z2), some (.inl z3)] 219 [some (.inr (.inr (some 95))), some (.inl z1), some (.inl z2), some (.inl z3), none] := by
  intro z1 z2 z3 y1 y2 y3 D H
  obtain ⟨-, hs, hw, -⟩ := id H
  obtain ⟨⟨e1, e2, e3, e4, e5⟩, hb, hsl, hst, hp, hd, hcc, hk⟩ := id hs
  obtain ⟨⟨w0, w1, w2, w3, w4, w5⟩, ws, wd, wsum, wp, wc, wk, wx1, wx2, wx3⟩ := id hw
  simp only [Nat.reduceAdd] at e1 e2 e3 e4 e5 hb hsl hst hp hd hcc hk
  rw [seg136_0 (ha0 := ho1)]
  simp only [Nat.reduceAdd]
  rw [m85 hs hw]
  simp only [Option.toList_some, Option.toList_none, List.cons_append, List.nil_append]
  have bad : ¬ (cpM (D 96) z1 z3 ∧ (1 ≤ z2 ∧ z2 ≤ 12)) → ∃ r : Int, some (Sum.inl 0) = (some (.inl r) : Option xv) ∧ D 0 = D 0 ∧ WP 124 xF1 none 219 0 [some (.inr (.inr (some 95))), some (.inl z1), some (.inl z2), some (.inl z3), none] [] D (fun w D2 => w = some (.inl r) ∧ D2 0 = D 0 ∧ Inv K D2) := by
    intro hbad
    refine ⟨0, rfl, rfl, ?_⟩
    rw [m219 ⟨w0, w1⟩, brF hbad]
    exact ⟨rfl, rfl, H⟩
  by_cases h : cpM (D 96) z1 z3
  · rw [brT h, seg136_9 (ha0 := ho1), brF (by decide)]
    by_cases h2 : 1 ≤ z2 ∧ z2 ≤ 12
    · rw [brF (c := z2 < 1) (by omega), brT h2.2]
      simp only [Nat.reduceAdd]
      have ei : fsI (fun c => D 17 c = z1 ∧ D 18 c = z2) 0 (D 3 3).toNat = fsI (fun c => D 96 (190 + 3 * c) = z1 ∧ D 96 (190 + 3 * c + 1) = z2) 0 (D 96 6).toNat := by
        rw [e5]
        exact fsI_congr _ _ (fun j a b => by obtain ⟨q1, q2, -⟩ := hcc j a (by omega); rw [q1, q2])
      obtain ⟨i, hi⟩ : ∃ i, i = fsI (fun c => D 96 (190 + 3 * c) = z1 ∧ D 96 (190 + 3 * c + 1) = z2) 0 (D 96 6).toNat := ⟨_, rfl⟩
      rw [← hi] at ei
      have hsp := fsI_spec (P := fun c => D 96 (190 + 3 * c) = z1 ∧ D 96 (190 + 3 * c + 1) = z2) (D 96 6).toNat 0
      rw [← hi] at hsp
      have hb2 : i = -1 ∨ (0 ≤ i ∧ i < D 96 6) := by
        rcases hsp with ⟨a, -⟩ | ⟨a, b, -⟩
        · exact .inl a
        · exact .inr (by omega)
      rw [m88 (by omega) ei]
      simp only [Option.toList_some, Option.toList_none, List.cons_append, List.nil_append]
      by_cases hi1 : i = -1
      · rw [brF (c := i ≠ -1) (fun q => q hi1)]
        by_cases h8 : D 96 6 < 8
        · rw [brT (by omega), seg136_35 (ha0 := ho1), cnT (.inr rfl)]
          have e96 : xup (xup (xup (xup D 3 3 (D 3 3 + 1)) 17 (D 3 3) z1) 18 (D 3 3) z2) 19 (D 3 3) z3 96 = D 96 := by
            rw [up_ne (by decide), up_ne (by decide), up_ne (by decide), up_ne (by decide)]
          refine ⟨1, rfl, by rw [up_ne (by decide), up_ne (by decide), up_ne (by decide), up_ne (by decide)], ?_⟩
          rw [m219 (by rw [e96]; exact ⟨w0, w1⟩), e96, brT ⟨h, h2⟩, m219b (i := i) (by rw [e96]; exact ⟨w4, w5⟩) (by rw [e96]; exact hi.symm), e96, brF (c := i ≠ -1) (fun q => q hi1), brT h8]
          refine ⟨rfl, by simp (disch := decide) only [up_ne], ?_⟩
          refine ch_inv (i := D 96 6) (n := D 96 6 + 1) H ⟨h, h2⟩ (by omega) (by omega) (fun a a1 a2 a3 a4 a5 => ?_) (fun j => ?_) (fun j => ?_) (fun j => ?_) (fun j => ?_) (fun j => ?_)
          · rw [up_ne a5, up_ne a5, up_ne a5, up_ne a5, up_ne a4, up_ne a3, up_ne a2, up_ne a1]
          · simp (disch := decide) only [up_ne]; rw [up_at, e5]
          · simp (disch := decide) only [up_ne]; rw [up_at, e5]; simp (disch := decide) only [up_ne]
          · simp (disch := decide) only [up_ne]; rw [up_at, e5]; simp (disch := decide) only [up_ne]
          · rw [up_ne (by decide), up_ne (by decide), up_ne (by decide), up_ne (by decide), up_at, e5]; simp (disch := decide) only [up_ne]
          · rw [up_at, up_at, up_at, up_at, e96]
        · rw [brF (by omega), seg136_35 (ha0 := ho1), cnT (.inl rfl)]
          refine ⟨0, rfl, rfl, ?_⟩
          rw [m219 ⟨w0, w1⟩, brT ⟨h, h2⟩, m219b (i := i) ⟨w4, w5⟩ hi.symm, brF (c := i ≠ -1) (fun q => q hi1), brF h8]
          exact ⟨rfl, rfl, H⟩
      · rw [brT hi1, seg136_35 (ha0 := ho1), cnT (.inr rfl)]
        have e96 : xup (xup (xup D 17 i z1) 18 i z2) 19 i z3 96 = D 96 := by
          rw [up_ne (by decide), up_ne (by decide), up_ne (by decide)]
        refine ⟨1, rfl, by rw [up_ne (by decide), up_ne (by decide), up_ne (by decide)], ?_⟩
        rw [m219 (by rw [e96]; exact ⟨w0, w1⟩), e96, brT ⟨h, h2⟩, m219b (i := i) (by rw [e96]; exact ⟨w4, w5⟩) (by rw [e96]; exact hi.symm), brT hi1]
        refine ⟨rfl, by simp (disch := decide) only [up_ne], ?_⟩
        refine ch_inv (i := i) (n := D 96 6) H ⟨h, h2⟩ (by omega) (by omega) (fun a a1 a2 a3 a4 a5 => ?_) (fun j => ?_) (fun j => ?_) (fun j => ?_) (fun j => ?_) (fun j => ?_)
        · rw [up_ne a5, up_ne a5, up_ne a5, up_ne a4, up_ne a3, up_ne a2]
        · simp (disch := decide) only [up_ne]
          by_cases c : j = 3
          · rw [if_pos c, c, e5]
          · rw [if_neg c]
        · simp (disch := decide) only [up_ne]; rw [up_at]
        · simp (disch := decide) only [up_ne]; rw [up_at]; simp (disch := decide) only [up_ne]
        · rw [up_ne (by decide), up_ne (by decide), up_ne (by decide), up_at]; simp (disch := decide) only [up_ne]
        · rw [up_at, up_at, up_at, e96]
          by_cases c : j = 6
          · subst c; simp (disch := omega) only [if_pos, if_neg, if_true]
          · rw [if_neg (c := j = 6) c]
    · by_cases h3 : z2 < 1
      · rw [brT h3, seg136_23 (ha0 := ho1)]
        exact bad (fun q => h2 q.2)
      · rw [brF h3, brF (by omega), seg136_23 (ha0 := ho1)]
        exact bad (fun q => h2 q.2)
  · rw [brF h, seg136_9 (ha0 := ho1), brT rfl, seg136_23 (ha0 := ho1)]
    exact bad (fun q => h q.1)

end M43
