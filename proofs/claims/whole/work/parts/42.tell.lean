/-! enter, slow -/
section M42
variable {K : (Int → Int) → (Int → Int) → (Int → Int) → (Int → Int) → (Int → Int) → (Int → Int) → (Int → Int) → (Int → Int) → Prop}
variable {x1 x2 x3 s z : Int} {D D' : xD} {Q : Option xv → xD → Prop}
theorem hl20 : xalen none 124 20 = some 208 := rfl
theorem hl21 : xalen none 124 21 = some 208 := rfl
/-- the cells of `now` and the array a change, the town and what is turned do not -/
theorem Inv_now (H : Inv K D) (h : ∀ a, (a < 3 ∨ 21 < a) → a ≠ 96 → D' a = D a) (h1 : IS D' 3 (D' 96)) (h2 : WfA (D' 96)) (h3 : trA (D' 96) = trA (D 96)) : Inv K D' := by
  obtain ⟨g1, g2, g3, g4, g5, g6, g7⟩ := H
  refine ⟨?_, h1, h2, ?_, ?_, ?_, ?_⟩
  · rw [h 1 (by omega) (by decide), h 2 (by omega) (by decide), h 95 (by omega) (by decide), h 99 (by omega) (by decide)]; exact g1
  · rw [h 97 (by omega) (by decide)]
    exact IS_congr (fun a e1 e2 => h a (by omega) (by omega)) g4
  · rw [h 97 (by omega) (by decide)]; exact g5
  · rw [h3, h 56 (by omega) (by decide), h 68 (by omega) (by decide), h 69 (by omega) (by decide), h 70 (by omega) (by decide), h 71 (by omega) (by decide), h 91 (by omega) (by decide), h 92 (by omega) (by decide)]; exact g6
  · rw [h 85 (by omega) (by decide)]; exact g7
theorem trA_up {A B : Int → Int} (h : ∀ j, j < 176 → A j = B j) : trA A = trA B := by
  funext j
  unfold trA
  by_cases c : j < 176 ∧ j ≠ 6
  · rw [if_pos c, if_pos c, h j c.1]
  · rw [if_neg c, if_neg c]
theorem frM_cg {A B : Int → Int} (h : ∀ j, j < 176 → A j = B j) (h2 : 0 ≤ s ∧ s < 16) : frM A s = frM B s ∧ toM A s = toM B s := by
  unfold frM toM
  rw [h 5 (by omega), h (30 + 7 * s + 1) (by omega), h (30 + 7 * s) (by omega)]
  exact ⟨rfl, rfl⟩
/-- a cell of the way told -/
theorem Wf_cell {A B : Int → Int} {c n : Int} (W : WfA A) (hn : 0 ≤ n ∧ n ≤ 30) (hc : (220 ≤ c ∧ c < 220 + 13 * A 0) ∨ (430 ≤ c ∧ c < 430 + 13 * A 0)) (hB : ∀ j, B j = if j = c then n else A j) : WfA B := by
  obtain ⟨⟨w0, w1, w2, w3, w4, w5⟩, ws, wd, wsum, wp, wc, wk, wx1, wx2, wx3⟩ := W
  have e : ∀ j, j < 220 → B j = A j := fun j hj => by rw [hB, if_neg (by omega)]
  refine ⟨?_, ?_, ?_, ?_, ?_, ?_, ?_, ?_, ?_, ?_⟩
  · rw [e 0 (by omega), e 1 (by omega), e 6 (by omega)]; exact ⟨w0, w1, w2, w3, w4, w5⟩
  · intro s s1 s2
    rw [e 0 (by omega)] at s2
    rw [e _ (by omega), e _ (by omega), e _ (by omega), e _ (by omega), e _ (by omega), e _ (by omega), e _ (by omega)]
    exact ws s s1 s2
  · intro d d1 d2
    rw [e 1 (by omega)] at d2
    rw [e _ (by omega), e _ (by omega), e _ (by omega), e _ (by omega)]
    exact wd d d1 d2
  · rw [e 2 (by omega), e 3 (by omega), e 7 (by omega), e 1 (by omega), e 0 (by omega)]
    obtain ⟨u1, u2, u3, u4, u5⟩ := wsum
    refine ⟨?_, u2, ?_, u4, ?_⟩
    · rw [u1]; exact smI_congr _ _ (fun j a b => by rw [e _ (by omega)])
    · rw [u3]; exact smI_congr _ _ (fun j a b => by rw [e _ (by omega)])
    · rw [u5]; exact smI_congr _ _ (fun j a b => by rw [e _ (by omega), e _ (by omega)])
  · intro p p1 p2
    rw [e _ (by omega), e _ (by omega), e _ (by omega), e 0 (by omega)]
    obtain ⟨v1, v2, v3⟩ := wp p p1 p2
    refine ⟨v1, v2, ?_⟩
    rcases v3 with v3 | ⟨v3, v4, v5⟩
    · exact .inl v3
    · refine .inr ⟨v3, v4, ?_⟩
      rw [(frM_cg (fun j hj => e j (by omega)) ⟨v3, by omega⟩).1]; exact v5
  · intro p p1 p2
    rw [e 6 (by omega)] at p2
    rw [e _ (by omega), e _ (by omega), e _ (by omega), e 0 (by omega)]
    obtain ⟨v1, v2, v3⟩ := wc p p1 p2
    refine ⟨v1, v2, ?_⟩
    rcases v3 with v3 | ⟨v3, v4, v5⟩
    · exact .inl v3
    · refine .inr ⟨v3, v4, ?_⟩
      rw [(frM_cg (fun j hj => e j (by omega)) ⟨v3, by omega⟩).1]; exact v5
  · intro k k1 k2
    rw [e 0 (by omega), hB, hB]
    obtain ⟨v1, v2, v3⟩ := wk k k1 k2
    refine ⟨?_, ?_, fun h => ?_⟩
    · split
      · exact hn
      · exact v1
    · split
      · exact hn
      · exact v2
    · rw [if_neg (by omega), if_neg (by omega)]; exact v3 h
  · rw [e 4 (by omega)]; exact wx1
  · rw [e 5 (by omega)]; exact wx2
  · rw [e 4 (by omega)]; exact wx3

theorem pair13 : ∀ (z1 z2 z3 : Int), xinP z1 → xinP z2 → xinP z3 → xpr (Inv K) 127 [some (.inr (.inr (some 1))), some (.inl z1), some (.inl z2), some (.inl z3)] 201 [some (.inr (.inr (some 95))), some (.inl z1), some (.inl z2), some (.inl z3)] := by
  intro z1 z2 z3 y1 y2 y3 D H
  obtain ⟨-, hs, hw, -⟩ := id H
  obtain ⟨⟨e1, e2, e3, e4, e5⟩, hb, hsl, hst, hp, hd, hcc, hk⟩ := id hs
  obtain ⟨⟨w0, w1, w2, w3, w4, w5⟩, -⟩ := id hw
  simp only [Nat.reduceAdd] at e1 e2 e3 e4 e5 hb hsl hst hp hd hcc hk
  rw [seg127_0 (ha0 := ho1)]
  simp only [Nat.reduceAdd]
  rw [seg82_0 (ha0 := ho3) (ha1 := hl20)]
  simp only [Nat.reduceAdd, m94, Option.toList_some, Option.toList_none, List.cons_append, List.nil_append]
  rw [seg82_8 (ha0 := ho3) (ha1 := hl20), seg82_30 (ha0 := ho3) (ha1 := hl20), e1, m144]
  simp only [Option.toList_some, Option.toList_none, List.cons_append, List.nil_append]
  rw [seg82_15 (ha0 := ho3) (ha1 := hl20), seg82_30 (ha0 := ho3) (ha1 := hl20)]
  simp only [Option.toList_some, Option.toList_none, List.cons_append, List.nil_append, seg127_17 (ha0 := ho1), ifn0, true_or, or_true, true_and]
  have bad : ¬ ((0 ≤ z1 ∧ z1 < D 96 0) ∧ (0 ≤ z2 ∧ z2 ≤ 12) ∧ (0 ≤ z3 ∧ z3 ≤ 30)) → ∃ r : Int, some (Sum.inl 0) = (some (.inl r) : Option xv) ∧ WP 124 xF1 none 201 0 [some (.inr (.inr (some 95))), some (.inl z1), some (.inl z2), some (.inl z3)] [] D (fun w D2 => w = some (.inl r) ∧ D2 0 = D 0 ∧ Inv K D2) := by
    intro hbad
    refine ⟨0, rfl, ?_⟩
    rw [seg201_0 (ha0 := ho95), m174 ⟨w0, w1⟩]
    simp only [Option.toList_some, Option.toList_none, List.cons_append, List.nil_append]
    rw [seg201_5 (ha0 := ho95), seg201_25 (ha0 := ho95), m150]
    simp only [Option.toList_some, Option.toList_none, List.cons_append, List.nil_append]
    rw [seg201_12 (ha0 := ho95), seg201_25 (ha0 := ho95), m149]
    simp only [Option.toList_some, Option.toList_none, List.cons_append, List.nil_append]
    rw [seg201_22 (ha0 := ho95), seg201_25 (ha0 := ho95)]
    simp only [ifn0, ifn1]
    refine ⟨fun _ => ⟨trivial, trivial, H⟩, fun a => ⟨fun _ => ⟨trivial, trivial, H⟩, fun b => ⟨fun c => absurd ⟨Decidable.not_not.mp a, Decidable.not_not.mp b, c⟩ hbad, fun _ => ⟨trivial, trivial, H⟩⟩⟩⟩
  by_cases h1 : 0 ≤ z1 ∧ z1 < D 96 0
  · rw [brF (fun q => q h1)]
    by_cases h2 : 0 ≤ z2 ∧ z2 ≤ 12
    · rw [brF (fun q => q h2)]
      by_cases h3 : 0 ≤ z3 ∧ z3 ≤ 30
      · rw [brF (by omega), brT h3.2, cnX (by omega), cnX (by omega), cnB (by omega)]
        refine ⟨1, rfl, up_ne (by decide), ?_⟩
        have e96 : xup D 20 (z1 * 13 + z2) z3 96 = D 96 := up_ne (by decide)
        rw [seg201_0 (ha0 := ho95), m174 (by rw [e96]; exact ⟨w0, w1⟩)]
        simp only [Option.toList_some, Option.toList_none, List.cons_append, List.nil_append]
        rw [seg201_5 (ha0 := ho95), e96, if_pos h1, brF (by decide), m150]
        simp only [Option.toList_some, Option.toList_none, List.cons_append, List.nil_append]
        rw [seg201_12 (ha0 := ho95), if_pos h2, brF (by decide), m149]
        simp only [Option.toList_some, Option.toList_none, List.cons_append, List.nil_append]
        rw [seg201_22 (ha0 := ho95), if_pos h3, brT (by decide), cnX (by omega), cnX (by omega), cnX (by omega), cnB (by omega)]
        simp only [Nat.reduceAdd]
        refine ⟨trivial, by rw [up_ne (by decide), up_ne (by decide)], ?_⟩
        have eA : ∀ j, xup (xup D 20 (z1 * 13 + z2) z3) 96 (220 + 13 * z1 + z2) z3 96 j = if j = 220 + 13 * z1 + z2 then z3 else D 96 j := fun j => by rw [up_at, e96]
        have eL : ∀ j, j < 220 → xup (xup D 20 (z1 * 13 + z2) z3) 96 (220 + 13 * z1 + z2) z3 96 j = D 96 j := fun j hj => by rw [eA, if_neg (by omega)]
        refine Inv_now H (fun a a1 a2 => by rw [up_ne a2, up_ne (by omega)]) ?_ (Wf_cell hw h3 (by omega) eA) (trA_up (fun j hj => eL j (by omega)))
        have n3 : ∀ a, a ≠ 20 → a ≠ 96 → xup (xup D 20 (z1 * 13 + z2) z3) 96 (220 + 13 * z1 + z2) z3 a = D a := fun a a1 a2 => by rw [up_ne a2, up_ne a1]
        refine ⟨⟨?_, ?_, ?_, ?_, ?_⟩, ⟨?_, ?_, fun k k1 k2 => ?_⟩, fun d d1 d2 => ?_, fun k k1 k2 => ?_, fun p p1 p2 => ?_, fun d d1 d2 => ?_, fun c c1 c2 => ?_, fun k k1 k2 => ?_⟩
        · simp only [Nat.reduceAdd]; rw [n3 4 (by decide) (by decide), eL 0 (by omega)]; exact e1
        · simp only [Nat.reduceAdd]; rw [n3 4 (by decide) (by decide), eL 1 (by omega)]; exact e2
        · simp only [Nat.reduceAdd]; rw [n3 4 (by decide) (by decide), eL 4 (by omega)]; exact e3
        · rw [n3 3 (by decide) (by decide), eL 5 (by omega)]; exact e4
        · rw [n3 3 (by decide) (by decide), eL 6 (by omega)]; exact e5
        · simp only [Nat.reduceAdd]; rw [n3 4 (by decide) (by decide)]; exact hb.1
        · simp only [Nat.reduceAdd]; rw [n3 4 (by decide) (by decide)]; exact hb.2.1
        · simp only [Nat.reduceAdd]; rw [n3 4 (by decide) (by decide), eL 0 (by omega), eL _ (by omega)]; exact hb.2.2 k k1 k2
        · rw [eL 1 (by omega)] at d2
          simp only [Nat.reduceAdd]; rw [n3 4 (by decide) (by decide), eL _ (by omega)]; exact hsl d d1 d2
        · rw [eL 0 (by omega)] at k2
          simp only [Nat.reduceAdd]; rw [n3 5 (by decide) (by decide), n3 6 (by decide) (by decide), n3 7 (by decide) (by decide), n3 8 (by decide) (by decide), n3 9 (by decide) (by decide), n3 10 (by decide) (by decide), eL _ (by omega), eL _ (by omega), eL _ (by omega), eL _ (by omega), eL _ (by omega), eL _ (by omega)]; exact hst k k1 k2
        · simp only [Nat.reduceAdd]; rw [n3 11 (by decide) (by decide), n3 12 (by decide) (by decide), n3 16 (by decide) (by decide), eL _ (by omega), eL _ (by omega), eL _ (by omega)]; exact hp p p1 p2
        · rw [eL 1 (by omega)] at d2
          obtain ⟨⟨-, -, -, w3, -⟩, -⟩ := id hw
          simp only [Nat.reduceAdd]; rw [n3 13 (by decide) (by decide), n3 14 (by decide) (by decide), n3 15 (by decide) (by decide), eL _ (by omega), eL _ (by omega), eL _ (by omega)]; exact hd d d1 d2
        · rw [eL 6 (by omega)] at c2
          obtain ⟨⟨-, -, -, -, -, w5⟩, -⟩ := id hw
          simp only [Nat.reduceAdd]; rw [n3 17 (by decide) (by decide), n3 18 (by decide) (by decide), n3 19 (by decide) (by decide), eL _ (by omega), eL _ (by omega), eL _ (by omega)]; exact hcc c c1 c2
        · obtain ⟨q1, q2⟩ := hk k k1 k2
          simp only [Nat.reduceAdd]
          rw [eA, eA]
          refine ⟨?_, ?_⟩
          · by_cases c : 220 + k = 220 + 13 * z1 + z2
            · rw [if_pos c, up_ne (by decide), up_at, if_pos (by omega)]
            · rw [if_neg c, up_ne (by decide), up_at, if_neg (by omega)]; exact q1
          · by_cases c : 430 + k = 220 + 13 * z1 + z2
            · rw [if_pos c, up_ne (by decide), up_ne (by decide)]; omega
            · rw [if_neg c, up_ne (by decide), up_ne (by decide)]; exact q2
      · refine ⟨fun _ => bad (fun q => h3 q.2.2), fun a => ⟨fun b => absurd ⟨by omega, b⟩ h3, fun _ => bad (fun q => h3 q.2.2)⟩⟩
    · rw [brT h2]
      exact bad (fun q => h2 q.2.1)
  · rw [brT h1]
    exact bad (fun q => h1 q.1)

theorem pair17 : ∀ (z1 z2 z3 : Int), xinP z1 → xinP z2 → xinP z3 → xpr (Inv K) 132 [some (.inr (.inr (some 1))), some (.inl z1), some (.inl z2), some (.inl z3)] 202 [some (.inr (.inr (some 95))), some (.inl z1), some (.inl z2), some (.inl z3)] := by
  intro z1 z2 z3 y1 y2 y3 D H
  obtain ⟨-, hs, hw, -⟩ := id H
  obtain ⟨⟨e1, e2, e3, e4, e5⟩, hb, hsl, hst, hp, hd, hcc, hk⟩ := id hs
  obtain ⟨⟨w0, w1, w2, w3, w4, w5⟩, -⟩ := id hw
  simp only [Nat.reduceAdd] at e1 e2 e3 e4 e5 hb hsl hst hp hd hcc hk
  rw [seg132_0 (ha0 := ho1)]
  simp only [Nat.reduceAdd]
  rw [seg82_0 (ha0 := ho3) (ha1 := hl21)]
  simp only [Nat.reduceAdd, m94, Option.toList_some, Option.toList_none, List.cons_append, List.nil_append]
  rw [seg82_8 (ha0 := ho3) (ha1 := hl21), seg82_30 (ha0 := ho3) (ha1 := hl21), e1, m144]
  simp only [Option.toList_some, Option.toList_none, List.cons_append, List.nil_append]
  rw [seg82_15 (ha0 := ho3) (ha1 := hl21), seg82_30 (ha0 := ho3) (ha1 := hl21)]
  simp only [Option.toList_some, Option.toList_none, List.cons_append, List.nil_append, seg132_17 (ha0 := ho1), ifn0, true_or, or_true, true_and]
  have bad : ¬ ((0 ≤ z1 ∧ z1 < D 96 0) ∧ (0 ≤ z2 ∧ z2 ≤ 12) ∧ (0 ≤ z3 ∧ z3 ≤ 30)) → ∃ r : Int, some (Sum.inl 0) = (some (.inl r) : Option xv) ∧ WP 124 xF1 none 202 0 [some (.inr (.inr (some 95))), some (.inl z1), some (.inl z2), some (.inl z3)] [] D (fun w D2 => w = some (.inl r) ∧ D2 0 = D 0 ∧ Inv K D2) := by
    intro hbad
    refine ⟨0, rfl, ?_⟩
    rw [seg202_0 (ha0 := ho95), m174 ⟨w0, w1⟩]
    simp only [Option.toList_some, Option.toList_none, List.cons_append, List.nil_append]
    rw [seg202_5 (ha0 := ho95), seg202_25 (ha0 := ho95), m150]
    simp only [Option.toList_some, Option.toList_none, List.cons_append, List.nil_append]
    rw [seg202_12 (ha0 := ho95), seg202_25 (ha0 := ho95), m149]
    simp only [Option.toList_some, Option.toList_none, List.cons_append, List.nil_append]
    rw [seg202_22 (ha0 := ho95), seg202_25 (ha0 := ho95)]
    simp only [ifn0, ifn1]
    refine ⟨fun _ => ⟨trivial, trivial, H⟩, fun a => ⟨fun _ => ⟨trivial, trivial, H⟩, fun b => ⟨fun c => absurd ⟨Decidable.not_not.mp a, Decidable.not_not.mp b, c⟩ hbad, fun _ => ⟨trivial, trivial, H⟩⟩⟩⟩
  by_cases h1 : 0 ≤ z1 ∧ z1 < D 96 0
  · rw [brF (fun q => q h1)]
    by_cases h2 : 0 ≤ z2 ∧ z2 ≤ 12
    · rw [brF (fun q => q h2)]
      by_cases h3 : 0 ≤ z3 ∧ z3 ≤ 30
      · rw [brF (by omega), brT h3.2, cnX (by omega), cnX (by omega), cnB (by omega)]
        refine ⟨1, rfl, up_ne (by decide), ?_⟩
        have e96 : xup D 21 (z1 * 13 + z2) z3 96 = D 96 := up_ne (by decide)
        rw [seg202_0 (ha0 := ho95), m174 (by rw [e96]; exact ⟨w0, w1⟩)]
        simp only [Option.toList_some, Option.toList_none, List.cons_append, List.nil_append]
        rw [seg202_5 (ha0 := ho95), e96, if_pos h1, brF (by decide), m150]
        simp only [Option.toList_some, Option.toList_none, List.cons_append, List.nil_append]
        rw [seg202_12 (ha0 := ho95), if_pos h2, brF (by decide), m149]
        simp only [Option.toList_some, Option.toList_none, List.cons_append, List.nil_append]
        rw [seg202_22 (ha0 := ho95), if_pos h3, brT (by decide), cnX (by omega), cnX (by omega), cnX (by omega), cnB (by omega)]
        simp only [Nat.reduceAdd]
        refine ⟨trivial, by rw [up_ne (by decide), up_ne (by decide)], ?_⟩
        have eA : ∀ j, xup (xup D 21 (z1 * 13 + z2) z3) 96 (430 + 13 * z1 + z2) z3 96 j = if j = 430 + 13 * z1 + z2 then z3 else D 96 j := fun j => by rw [up_at, e96]
        have eL : ∀ j, j < 220 → xup (xup D 21 (z1 * 13 + z2) z3) 96 (430 + 13 * z1 + z2) z3 96 j = D 96 j := fun j hj => by rw [eA, if_neg (by omega)]
        refine Inv_now H (fun a a1 a2 => by rw [up_ne a2, up_ne (by omega)]) ?_ (Wf_cell hw h3 (by omega) eA) (trA_up (fun j hj => eL j (by omega)))
        have n3 : ∀ a, a ≠ 21 → a ≠ 96 → xup (xup D 21 (z1 * 13 + z2) z3) 96 (430 + 13 * z1 + z2) z3 a = D a := fun a a1 a2 => by rw [up_ne a2, up_ne a1]
        refine ⟨⟨?_, ?_, ?_, ?_, ?_⟩, ⟨?_, ?_, fun k k1 k2 => ?_⟩, fun d d1 d2 => ?_, fun k k1 k2 => ?_, fun p p1 p2 => ?_, fun d d1 d2 => ?_, fun c c1 c2 => ?_, fun k k1 k2 => ?_⟩
        · simp only [Nat.reduceAdd]; rw [n3 4 (by decide) (by decide), eL 0 (by omega)]; exact e1
        · simp only [Nat.reduceAdd]; rw [n3 4 (by decide) (by decide), eL 1 (by omega)]; exact e2
        · simp only [Nat.reduceAdd]; rw [n3 4 (by decide) (by decide), eL 4 (by omega)]; exact e3
        · rw [n3 3 (by decide) (by decide), eL 5 (by omega)]; exact e4
        · rw [n3 3 (by decide) (by decide), eL 6 (by omega)]; exact e5
        · simp only [Nat.reduceAdd]; rw [n3 4 (by decide) (by decide)]; exact hb.1
        · simp only [Nat.reduceAdd]; rw [n3 4 (by decide) (by decide)]; exact hb.2.1
        · simp only [Nat.reduceAdd]; rw [n3 4 (by decide) (by decide), eL 0 (by omega), eL _ (by omega)]; exact hb.2.2 k k1 k2
        · rw [eL 1 (by omega)] at d2
          simp only [Nat.reduceAdd]; rw [n3 4 (by decide) (by decide), eL _ (by omega)]; exact hsl d d1 d2
        · rw [eL 0 (by omega)] at k2
          simp only [Nat.reduceAdd]; rw [n3 5 (by decide) (by decide), n3 6 (by decide) (by decide), n3 7 (by decide) (by decide), n3 8 (by decide) (by decide), n3 9 (by decide) (by decide), n3 10 (by decide) (by decide), eL _ (by omega), eL _ (by omega), eL _ (by omega), eL _ (by omega), eL _ (by omega), eL _ (by omega)]; exact hst k k1 k2
        · simp only [Nat.reduceAdd]; rw [n3 11 (by decide) (by decide), n3 12 (by decide) (by decide), n3 16 (by decide) (by decide), eL _ (by omega), eL _ (by omega), eL _ (by omega)]; exact hp p p1 p2
        · rw [eL 1 (by omega)] at d2
          obtain ⟨⟨-, -, -, w3, -⟩, -⟩ := id hw
          simp only [Nat.reduceAdd]; rw [n3 13 (by decide) (by decide), n3 14 (by decide) (by decide), n3 15 (by decide) (by decide), eL _ (by omega), eL _ (by omega), eL _ (by omega)]; exact hd d d1 d2
        · rw [eL 6 (by omega)] at c2
          obtain ⟨⟨-, -, -, -, -, w5⟩, -⟩ := id hw
          simp only [Nat.reduceAdd]; rw [n3 17 (by decide) (by decide), n3 18 (by decide) (by decide), n3 19 (by decide) (by decide), eL _ (by omega), eL _ (by omega), eL _ (by omega)]; exact hcc c c1 c2
        · obtain ⟨q1, q2⟩ := hk k k1 k2
          simp only [Nat.reduceAdd]
          rw [eA, eA]
          refine ⟨?_, ?_⟩
          · by_cases c : 220 + k = 430 + 13 * z1 + z2
            · rw [if_pos c, up_ne (by decide), up_ne (by decide)]; omega
            · rw [if_neg c, up_ne (by decide), up_ne (by decide)]; exact q1
          · by_cases c : 430 + k = 430 + 13 * z1 + z2
            · rw [if_pos c, up_ne (by decide), up_at, if_pos (by omega)]
            · rw [if_neg c, up_ne (by decide), up_at, if_neg (by omega)]; exact q2
      · refine ⟨fun _ => bad (fun q => h3 q.2.2), fun a => ⟨fun b => absurd ⟨by omega, b⟩ h3, fun _ => bad (fun q => h3 q.2.2)⟩⟩
    · rw [brT h2]
      exact bad (fun q => h2 q.2.1)
  · rw [brT h1]
    exact bad (fun q => h1 q.1)

end M42
