/-! street -/
section M40
variable {K : (Int → Int) → (Int → Int) → (Int → Int) → (Int → Int) → (Int → Int) → (Int → Int) → (Int → Int) → (Int → Int) → Prop}
variable {s z : Int} {D : xD} {Q : Option xv → xD → Prop}
theorem tab_out {d : Nat} {l : List Nat} (h : z < 0 ∨ (l.length : Int) ≤ z) : (bif decide (z < 0) then d else l.getD (z - 0).toNat d) = d := by
  by_cases h0 : z < 0
  · simp [h0]
  · rw [decide_eq_false h0, cond_false, List.getD_eq_getElem?_getD, List.getElem?_eq_none (by omega)]
    rfl
theorem fr_eq (H : IS D 3 (D 96)) (W : WfA (D 96)) (h : 0 ≤ s ∧ s < D 96 0) : frC D s = frM (D 96) s ∧ toC D s = toM (D 96) s := by
  obtain ⟨⟨-, -, -, e5, -⟩, -, -, hst, -⟩ := H
  obtain ⟨⟨w0, w1, -⟩, -⟩ := W
  obtain ⟨s1, s2, -⟩ := hst s h.1 h.2
  have b := bit_01 (D 96 5) s.toNat (by omega)
  rw [show ((s.toNat : Nat) : Int) = s by omega] at b
  simp only [Nat.reduceAdd] at s1 s2
  unfold frC frM toC toM
  rw [e5, s1, s2]
  rcases b with b | b <;> rw [b] <;> simp
theorem pair4 : ∀ (z1 z2 : Int), xinP z1 → xinP z2 → xpr (Inv K) 118 [some (.inr (.inr (some 1))), some (.inl z1), some (.inl z2), none] 180 [some (.inr (.inr (some 95))), some (.inl z1), some (.inl z2)] := by
  intro z1 z2 y1 y2 D H
  obtain ⟨-, hs, hw, -⟩ := id H
  obtain ⟨⟨e1, -, -, e5, -⟩, ⟨-, -, eb⟩, -, hst, -⟩ := id hs
  obtain ⟨⟨w0, w1, -⟩, -⟩ := id hw
  simp only [Nat.reduceAdd] at e1 eb hst
  rw [seg118_0 (ha0 := ho1)]
  simp only [Nat.reduceAdd, m94, Option.toList_some, Option.toList_none, List.cons_append, List.nil_append]
  rw [seg118_13 (ha0 := ho1) (ha3 := ho4)]
  by_cases h : 0 ≤ z1 ∧ z1 < D 96 0
  · have hc : 0 ≤ z1 ∧ z1 < D 4 11 := by rw [e1]; exact h
    obtain ⟨s1, s2, s3, s4, s5, s6⟩ := hst z1 h.1 h.2
    obtain ⟨f1, f2⟩ := fr_eq hs hw h
    have b6 := eb z1 h.1 (by omega)
    rw [if_pos h.2] at b6
    have b7 := bit_01 (D 96 5) z1.toNat (by omega)
    rw [show ((z1.toNat : Nat) : Int) = z1 by omega] at b7
    rw [if_pos hc, brT (by decide)]
    have model : ∀ r : Int, (r = if z2 = 0 then frM (D 96) z1 else if z2 = 1 then toM (D 96) z1 else if 2 ≤ z2 ∧ z2 ≤ 6 then D 96 (30 + 7 * z1 + z2) else if z2 = 7 then iand (ishr (D 96 5) z1) 1 else -1) → WP 124 xF1 none 180 0 [some (.inr (.inr (some 95))), some (.inl z1), some (.inl z2)] [] D (fun w D2 => w = some (.inl r) ∧ D2 0 = D 0 ∧ Inv K D2) := by
      intro r hr
      rw [seg180_0 (ha0 := ho95), m174 ⟨w0, w1⟩]
      simp only [Option.toList_some, Option.toList_none, List.cons_append, List.nil_append]
      rw [seg180_5 (ha0 := ho95), if_pos h, brT (by decide)]
      by_cases h0 : z2 = 0
      · subst h0
        rw [brF (by decide), n177 (by omega)]
        simp only [Option.toList_some, Option.toList_none, List.cons_append, List.nil_append, seg180_19 (ha0 := ho95)]
        exact ⟨by rw [hr]; rfl, trivial, H⟩
      rw [brT h0]
      by_cases h1 : z2 = 1
      · subst h1
        rw [brF (by decide), n178 (by omega)]
        simp only [Option.toList_some, Option.toList_none, List.cons_append, List.nil_append, seg180_30 (ha0 := ho95)]
        exact ⟨by rw [hr]; rfl, trivial, H⟩
      rw [brT h1, m149]
      simp only [Option.toList_some, Option.toList_none, List.cons_append, List.nil_append]
      rw [seg180_38 (ha0 := ho95)]
      by_cases h2 : 2 ≤ z2 ∧ z2 ≤ 6
      · rw [if_pos h2, brF (by decide)]
        simp (disch := omega) only [cnX, cnB, seg180_81 (ha0 := ho95), Nat.reduceAdd]
        exact ⟨by rw [hr, if_neg h0, if_neg h1, if_pos h2], trivial, H⟩
      · rw [if_neg h2, brT rfl, seg180_81 (ha0 := ho95)]
        by_cases h7 : z2 = 7
        · rw [brF (fun q => q h7), m176]
          simp only [Option.toList_some, Option.toList_none, List.cons_append, List.nil_append, seg180_69 (ha0 := ho95), seg180_81 (ha0 := ho95)]
          rcases b7 with b7 | b7 <;> rw [hr, if_neg h0, if_neg h1, if_neg h2, if_pos h7, b7] <;> simp [H]
        · rw [brT h7]
          exact ⟨by rw [hr, if_neg h0, if_neg h1, if_neg h2, if_neg h7], rfl, H⟩
    rcases (show z2 = 0 ∨ z2 = 1 ∨ z2 = 2 ∨ z2 = 3 ∨ z2 = 4 ∨ z2 = 5 ∨ z2 = 6 ∨ z2 = 7 ∨ (z2 < 0 ∨ 8 ≤ z2) by omega) with rfl | rfl | rfl | rfl | rfl | rfl | rfl | rfl | hz
    · show WP 124 xF1 none 118 64 _ _ _ _
      rw [seg118_64 (ha0 := ho1) (ha3 := ho4), n78 (by omega)]
      simp only [Option.toList_some, Option.toList_none, List.cons_append, List.nil_append]
      rw [seg118_72 (ha0 := ho1) (ha3 := ho4)]
      exact ⟨_, rfl, rfl, model _ f1⟩
    · show WP 124 xF1 none 118 73 _ _ _ _
      rw [seg118_73 (ha0 := ho1) (ha3 := ho4), n79 (by omega)]
      simp only [Option.toList_some, Option.toList_none, List.cons_append, List.nil_append]
      rw [seg118_81 (ha0 := ho1) (ha3 := ho4)]
      exact ⟨_, rfl, rfl, model _ f2⟩
    · show WP 124 xF1 none 118 82 _ _ _ _
      rw [seg118_82 (ha0 := ho1) (ha3 := ho4), cnB (by omega)]
      exact ⟨_, rfl, rfl, model _ s3⟩
    · show WP 124 xF1 none 118 89 _ _ _ _
      rw [seg118_89 (ha0 := ho1) (ha3 := ho4), cnB (by omega)]
      exact ⟨_, rfl, rfl, model _ s4⟩
    · show WP 124 xF1 none 118 96 _ _ _ _
      rw [seg118_96 (ha0 := ho1) (ha3 := ho4), cnB (by omega)]
      exact ⟨_, rfl, rfl, model _ s5⟩
    · show WP 124 xF1 none 118 103 _ _ _ _
      rw [seg118_103 (ha0 := ho1) (ha3 := ho4), cnB (by omega)]
      exact ⟨_, rfl, rfl, model _ s6⟩
    · show WP 124 xF1 none 118 110 _ _ _ _
      rw [seg118_110 (ha0 := ho1) (ha3 := ho4)]
      exact ⟨_, rfl, rfl, model _ b6⟩
    · show WP 124 xF1 none 118 119 _ _ _ _
      rw [seg118_119 (ha0 := ho1) (ha3 := ho4)]
      exact ⟨_, rfl, rfl, model _ (by simp only [Nat.reduceAdd]; rw [e5]; rfl)⟩
    · rw [tab_out hz, seg118_131 (ha0 := ho1) (ha3 := ho4)]
      exact ⟨_, rfl, rfl, model _ (by rw [if_neg (by omega), if_neg (by omega), if_neg (by omega), if_neg (by omega)])⟩
  · have hc : ¬ (0 ≤ z1 ∧ z1 < D 4 11) := by rw [e1]; exact h
    rw [if_neg hc, brF (by decide)]
    refine ⟨_, rfl, rfl, ?_⟩
    rw [seg180_0 (ha0 := ho95), m174 ⟨w0, w1⟩]
    simp only [Option.toList_some, Option.toList_none, List.cons_append, List.nil_append]
    rw [seg180_5 (ha0 := ho95), if_neg h, brF (by decide)]
    exact ⟨rfl, rfl, H⟩

end M40
