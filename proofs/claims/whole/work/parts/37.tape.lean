/-! the tape: feed, end, fault -/
def IT (f1 f2 f95 f99 : Int → Int) : Prop := (f1 1 = f95 4 ∧ 0 ≤ f1 1 ∧ f1 1 ≤ 300 ∧ f1 2 = f95 5 ∧ f1 3 = f95 6) ∧ (∀ j, 0 ≤ j → j < 300 → f2 j = f99 j ∧ 0 ≤ f2 j ∧ f2 j ≤ 255) ∧ f95 22 = -1 ∧ f95 23 = 0 ∧ f95 44 = -1
/-- four bytes behind a tape a of b's field k -/
def app4 (D : xD) (a b : Nat) (k x : Int) : xD := fun c j => if c = b ∧ j = k then D b k + 4 else if c = a ∧ D b k ≤ j ∧ j < D b k + 4 then iand (ishr x (24 - 8 * (j - D b k))) 255 else D c j
section M37
variable {x1 x2 x3 x4 x5 : Int} {a b c : Nat} {j k v w : Int} {D : xD} {Q : Option xv → xD → Prop} {I : xD → Prop}
theorem app4_eq (h : a ≠ b) : xup (xup (xup (xup (xup (xup (xup (xup D a (D b k) (iand (ishr x1 24) 255)) b k (D b k + 1)) a (D b k + 1) (iand (ishr x1 16) 255)) b k (D b k + 1 + 1)) a (D b k + 1 + 1) (iand (ishr x1 8) 255)) b k (D b k + 1 + 1 + 1)) a (D b k + 1 + 1 + 1) (iand (ishr x1 0) 255)) b k (D b k + 1 + 1 + 1 + 1) = app4 D a b k x1 := by
  funext c j
  unfold app4 xup
  by_cases hb : c = b
  · subst hb
    have h2 : ¬ c = a := fun z => h z.symm
    by_cases hj : j = k
    · subst hj; simp; omega
    · simp [hj, h2]
  · by_cases ha : c = a
    · subst ha
      simp only [hb, false_and, if_false, true_and]
      by_cases e0 : j = D b k
      · subst e0; rw [if_neg (by omega), if_neg (by omega), if_neg (by omega), if_pos rfl, if_pos (by omega)]; congr 2; omega
      · by_cases e1 : j = D b k + 1
        · subst e1; rw [if_neg (by omega), if_neg (by omega), if_pos rfl, if_pos (by omega)]; congr 2; omega
        · by_cases e2 : j = D b k + 1 + 1
          · subst e2; rw [if_neg (by omega), if_pos rfl, if_pos (by omega)]; congr 2; omega
          · by_cases e3 : j = D b k + 1 + 1 + 1
            · subst e3; rw [if_pos rfl, if_pos (by omega)]; congr 2; omega
            · rw [if_neg e3, if_neg e2, if_neg e1, if_neg e0, if_neg (by omega)]
    · simp [ha, hb]
theorem app4_k : app4 D a b k x1 b k = D b k + 4 := by simp [app4]
theorem app4_ne (h : c ≠ a) (h2 : c ≠ b) : app4 D a b k x1 c = D c := by
  funext j; simp [app4, h, h2]
theorem app4_nk (h : c ≠ a) (h2 : j ≠ k) : app4 D a b k x1 c j = D c j := by simp [app4, h, h2]
theorem app4_a (h : a ≠ b) : app4 D a b k x1 a j = if D b k ≤ j ∧ j < D b k + 4 then iand (ishr x1 (24 - 8 * (j - D b k))) 255 else D a j := by simp [app4, h]

theorem m113 (h : 0 ≤ D 1 1 ∧ D 1 1 ≤ 296) : WP 124 xF1 none 113 0 [some (.inr (.inr (some 1))), some (.inl x1), none] [] D Q = Q none (app4 D 2 1 1 x1) := by
  rw [seg113_0 (ha0 := ho1)]
  have e24 : iand (iushr x1 24) 255 = iand (ishr x1 24) 255 := iu_255 x1 24 (by omega)
  have e16 : iand (iushr x1 16) 255 = iand (ishr x1 16) 255 := iu_255 x1 16 (by omega)
  have e8 : iand (iushr x1 8) 255 = iand (ishr x1 8) 255 := iu_255 x1 8 (by omega)
  have e0 : iand (iushr x1 0) 255 = iand (ishr x1 0) 255 := iu_255 x1 0 (by omega)
  rw [seg113_3 (ha0 := ho1)]
  simp (disch := omega) only [Option.toList_some, Option.toList_none, List.cons_append, List.nil_append, brT, brF, brQ, zoi, cnB, cnX, true_or, or_true, true_and, ite_not, Nat.reduceAdd, ne_eq, up_eq, up_ne, up_ne2, seg113_43 (ha0 := ho1), e24, Int.reduceAdd, Int.reduceNeg]
  rw [seg113_3 (ha0 := ho1)]
  simp (disch := omega) only [Option.toList_some, Option.toList_none, List.cons_append, List.nil_append, brT, brF, brQ, zoi, cnB, cnX, true_or, or_true, true_and, ite_not, Nat.reduceAdd, ne_eq, up_eq, up_ne, up_ne2, seg113_43 (ha0 := ho1), e16, Int.reduceAdd, Int.reduceNeg]
  rw [seg113_3 (ha0 := ho1)]
  simp (disch := omega) only [Option.toList_some, Option.toList_none, List.cons_append, List.nil_append, brT, brF, brQ, zoi, cnB, cnX, true_or, or_true, true_and, ite_not, Nat.reduceAdd, ne_eq, up_eq, up_ne, up_ne2, seg113_43 (ha0 := ho1), e8, Int.reduceAdd, Int.reduceNeg]
  rw [seg113_3 (ha0 := ho1)]
  simp (disch := omega) only [Option.toList_some, Option.toList_none, List.cons_append, List.nil_append, brT, brF, brQ, zoi, cnB, cnX, true_or, or_true, true_and, ite_not, Nat.reduceAdd, ne_eq, up_eq, up_ne, up_ne2, seg113_43 (ha0 := ho1), e0, Int.reduceAdd, Int.reduceNeg]
  rw [seg113_3 (ha0 := ho1)]
  simp (disch := omega) only [Option.toList_some, Option.toList_none, List.cons_append, List.nil_append, brT, brF, brQ, zoi, cnB, cnX, true_or, or_true, true_and, ite_not, Nat.reduceAdd, ne_eq]
  rw [app4_eq (by decide)]
theorem m151 (h : 0 ≤ D 95 4 ∧ D 95 4 ≤ 296) : WP 124 xF1 none 151 0 [some (.inr (.inr (some 95))), some (.inl x1), none] [] D Q = Q none (app4 D 99 95 4 x1) := by
  rw [seg151_0 (ha0 := ho95)]
  rw [seg151_3 (ha0 := ho95)]
  simp (disch := omega) only [Option.toList_some, Option.toList_none, List.cons_append, List.nil_append, brT, brF, brQ, zoi, cnB, cnX, true_or, or_true, true_and, ite_not, Nat.reduceAdd, ne_eq, up_eq, up_ne, up_ne2, Int.reduceAdd, Int.reduceNeg]
  rw [seg151_3 (ha0 := ho95)]
  simp (disch := omega) only [Option.toList_some, Option.toList_none, List.cons_append, List.nil_append, brT, brF, brQ, zoi, cnB, cnX, true_or, or_true, true_and, ite_not, Nat.reduceAdd, ne_eq, up_eq, up_ne, up_ne2, Int.reduceAdd, Int.reduceNeg]
  rw [seg151_3 (ha0 := ho95)]
  simp (disch := omega) only [Option.toList_some, Option.toList_none, List.cons_append, List.nil_append, brT, brF, brQ, zoi, cnB, cnX, true_or, or_true, true_and, ite_not, Nat.reduceAdd, ne_eq, up_eq, up_ne, up_ne2, Int.reduceAdd, Int.reduceNeg]
  rw [seg151_3 (ha0 := ho95)]
  simp (disch := omega) only [Option.toList_some, Option.toList_none, List.cons_append, List.nil_append, brT, brF, brQ, zoi, cnB, cnX, true_or, or_true, true_and, ite_not, Nat.reduceAdd, ne_eq, up_eq, up_ne, up_ne2, Int.reduceAdd, Int.reduceNeg]
  rw [seg151_3 (ha0 := ho95)]
  simp (disch := omega) only [Option.toList_some, Option.toList_none, List.cons_append, List.nil_append, brT, brF, brQ, zoi, cnB, cnX, true_or, or_true, true_and, ite_not, Nat.reduceAdd, ne_eq]
  rw [app4_eq (by decide)]

end M37
