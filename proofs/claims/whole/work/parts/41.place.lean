/-! place -/
section M41
variable {K : (Int → Int) → (Int → Int) → (Int → Int) → (Int → Int) → (Int → Int) → (Int → Int) → (Int → Int) → (Int → Int) → Prop}
variable {s z : Int} {D : xD} {Q : Option xv → xD → Prop}
theorem pair5 : ∀ (z1 z2 : Int), xinP z1 → xinP z2 → xpr (Inv K) 119 [some (.inr (.inr (some 1))), some (.inl z1), some (.inl z2)] 182 [some (.inr (.inr (some 95))), some (.inl z1), some (.inl z2)] := by
  intro z1 z2 y1 y2 D H
  obtain ⟨-, hs, hw, -⟩ := id H
  obtain ⟨⟨e1, e2, -, e5, -⟩, -, -, -, hp, hd, -⟩ := id hs
  obtain ⟨⟨w0, w1, w2, w3, -⟩, -, wd, -⟩ := id hw
  simp only [Nat.reduceAdd] at e1 e2 hp hd
  rw [seg119_0 (ha0 := ho1), m145]
  simp only [Option.toList_some, Option.toList_none, List.cons_append, List.nil_append]
  rw [seg119_4 (ha0 := ho1)]
  by_cases h : 0 ≤ z1 ∧ z1 ≤ 7
  · obtain ⟨p1, p2, -⟩ := hp z1 h.1 (by omega)
    rw [if_pos h, brT (by decide)]
    have hD : ∀ j, 0 ≤ j → j < D 4 12 → 0 ≤ D 15 j ∧ D 15 j ≤ 99 := fun j a b => by
      rw [e2] at b
      obtain ⟨-, -, d3⟩ := hd j a b
      obtain ⟨-, -, d4, -⟩ := wd j a b
      omega
    have hM : ∀ j, 0 ≤ j → j < D 96 1 → 0 ≤ D 96 (150 + 4 * j + 2) ∧ D 96 (150 + 4 * j + 2) ≤ 99 := fun j a b => by
      obtain ⟨-, -, d4, -⟩ := wd j a b
      omega
    have eS : smI (fun d => if D 13 d = z1 then D 15 d else 0) 0 (D 96 1).toNat = smI (fun d => if D 96 (150 + 4 * d) = z1 then D 96 (150 + 4 * d + 2) else 0) 0 (D 96 1).toNat := smI_congr _ _ (fun j a b => by
      obtain ⟨d1, -, d3⟩ := hd j a (by omega)
      rw [d1, d3])
    have model : ∀ r : Int, (r = if z2 = 0 then D 96 (10 + z1) else if z2 = 1 then D 96 (18 + z1) else if z2 = 2 then smI (fun d => if D 96 (150 + 4 * d) = z1 then D 96 (150 + 4 * d + 2) else 0) 0 (D 96 1).toNat else -1) → WP 124 xF1 none 182 0 [some (.inr (.inr (some 95))), some (.inl z1), some (.inl z2)] [] D (fun w D2 => w = some (.inl r) ∧ D2 0 = D 0 ∧ Inv K D2) := by
      intro r hr
      rw [seg182_0 (ha0 := ho95), m175]
      simp only [Option.toList_some, Option.toList_none, List.cons_append, List.nil_append]
      rw [seg182_4 (ha0 := ho95), if_pos h, brT (by decide)]
      by_cases h0 : z2 = 0
      · rw [brF (fun q => q h0)]
        simp (disch := omega) only [cnX, cnB, seg182_56 (ha0 := ho95), Nat.reduceAdd]
        exact ⟨by rw [hr, if_pos h0], trivial, H⟩
      rw [brT h0]
      by_cases h1 : z2 = 1
      · rw [brF (fun q => q h1)]
        simp (disch := omega) only [cnX, cnB, seg182_56 (ha0 := ho95), Nat.reduceAdd]
        exact ⟨by rw [hr, if_neg h0, if_pos h1], trivial, H⟩
      rw [brT h1]
      by_cases h2 : z2 = 2
      · rw [brF (fun q => q h2), seg181_0 (ha0 := ho95), l181 hM (D 96 1).toNat 0 0 (by omega) (by omega) (by omega) (by omega) (by omega)]
        simp only [Option.toList_some, Option.toList_none, List.cons_append, List.nil_append, seg182_52 (ha0 := ho95), seg182_56 (ha0 := ho95), Int.zero_add]
        exact ⟨by rw [hr, if_neg h0, if_neg h1, if_pos h2], trivial, H⟩
      · rw [brT h2, seg182_56 (ha0 := ho95)]
        exact ⟨by rw [hr, if_neg h0, if_neg h1, if_neg h2], rfl, H⟩
    rcases (show z2 = 0 ∨ z2 = 1 ∨ z2 = 2 ∨ (z2 < 0 ∨ 3 ≤ z2) by omega) with rfl | rfl | rfl | hz
    · show WP 124 xF1 none 119 36 _ _ _ _
      rw [seg119_36 (ha0 := ho1), cnB (by omega)]
      exact ⟨_, rfl, rfl, model _ p1⟩
    · show WP 124 xF1 none 119 49 _ _ _ _
      rw [seg119_49 (ha0 := ho1), cnB (by omega)]
      exact ⟨_, rfl, rfl, model _ p2⟩
    · show WP 124 xF1 none 119 62 _ _ _ _
      rw [seg119_62 (ha0 := ho1)]
      simp only [Nat.reduceAdd]
      rw [seg99_0 (ha0 := ho4), l99 hD (D 96 1).toNat 0 0 (by omega) (by omega) (by omega) (by omega) (by omega)]
      simp only [Option.toList_some, Option.toList_none, List.cons_append, List.nil_append, Int.zero_add]
      rw [seg119_73 (ha0 := ho1)]
      exact ⟨_, rfl, rfl, model _ eS⟩
    · rw [tab_out hz, seg119_74 (ha0 := ho1)]
      exact ⟨_, rfl, rfl, model _ (by rw [if_neg (by omega), if_neg (by omega), if_neg (by omega)])⟩
  · rw [if_neg h, brF (by decide)]
    refine ⟨_, rfl, rfl, ?_⟩
    rw [seg182_0 (ha0 := ho95), m175]
    simp only [Option.toList_some, Option.toList_none, List.cons_append, List.nil_append]
    rw [seg182_4 (ha0 := ho95), if_neg h, brF (by decide)]
    exact ⟨rfl, rfl, H⟩

end M41
