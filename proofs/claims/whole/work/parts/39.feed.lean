/-! feed -/
def app20 (D : xD) (a b : Nat) (k x1 x2 x3 x4 x5 : Int) : xD := app4 (app4 (app4 (app4 (app4 D a b k x1) a b k x2) a b k x3) a b k x4) a b k x5
section M39
variable {K : (Int → Int) → (Int → Int) → (Int → Int) → (Int → Int) → (Int → Int) → (Int → Int) → (Int → Int) → (Int → Int) → Prop}
variable {x1 x2 x3 x4 x5 : Int} {a b a' b' : Nat} {j k k' v : Int} {D D' : xD} {Q : Option xv → xD → Prop}
theorem iand_255 {v : Int} : 0 ≤ iand v 255 ∧ iand v 255 ≤ 255 := by
  have e : (Int32.ofInt v &&& Int32.ofInt 255).toBitVec = (Int32.ofInt v).toBitVec &&& 255#32 := rfl
  show 0 ≤ ((Int32.ofInt v &&& Int32.ofInt 255).toBitVec).toInt ∧ ((Int32.ofInt v &&& Int32.ofInt 255).toBitVec).toInt ≤ 255
  rw [e]
  have h : ((Int32.ofInt v).toBitVec &&& 255#32).toNat ≤ 255 := by
    rw [BitVec.toNat_and]
    exact Nat.and_le_right
  rw [BitVec.toInt_eq_toNat_of_lt (by omega)]
  omega
theorem app4_cg (h1 : a ≠ b) (h2 : a' ≠ b') (h : D b k = D' b' k') (hj : D a j = D' a' j ∧ 0 ≤ D a j ∧ D a j ≤ 255) : app4 D a b k x1 a j = app4 D' a' b' k' x1 a' j ∧ 0 ≤ app4 D a b k x1 a j ∧ app4 D a b k x1 a j ≤ 255 := by
  rw [app4_a h1, app4_a h2, h, hj.1]
  refine ⟨rfl, ?_⟩
  split
  · exact iand_255
  · rw [← hj.1]; exact hj.2
theorem app20_k : app20 D a b k x1 x2 x3 x4 x5 b k = D b k + 20 := by
  unfold app20
  rw [app4_k, app4_k, app4_k, app4_k, app4_k]; omega
theorem app20_ne {c : Nat} (h : c ≠ a) (h2 : c ≠ b) : app20 D a b k x1 x2 x3 x4 x5 c = D c := by
  unfold app20
  rw [app4_ne h h2, app4_ne h h2, app4_ne h h2, app4_ne h h2, app4_ne h h2]
theorem app20_nk {c : Nat} (h : c ≠ a) (h2 : j ≠ k) : app20 D a b k x1 x2 x3 x4 x5 c j = D c j := by
  unfold app20
  rw [app4_nk h h2, app4_nk h h2, app4_nk h h2, app4_nk h h2, app4_nk h h2]
theorem app20_cg (h1 : a ≠ b) (h2 : a' ≠ b') (h : D b k = D' b' k') (hj : D a j = D' a' j ∧ 0 ≤ D a j ∧ D a j ≤ 255) : app20 D a b k x1 x2 x3 x4 x5 a j = app20 D' a' b' k' x1 x2 x3 x4 x5 a' j ∧ 0 ≤ app20 D a b k x1 x2 x3 x4 x5 a j ∧ app20 D a b k x1 x2 x3 x4 x5 a j ≤ 255 := by
  unfold app20
  refine app4_cg h1 h2 ?_ (app4_cg h1 h2 ?_ (app4_cg h1 h2 ?_ (app4_cg h1 h2 ?_ (app4_cg h1 h2 h hj))))
  · rw [app4_k, app4_k, app4_k, app4_k, app4_k, app4_k, app4_k, app4_k, h]
  · rw [app4_k, app4_k, app4_k, app4_k, app4_k, app4_k, h]
  · rw [app4_k, app4_k, app4_k, app4_k, h]
  · rw [app4_k, app4_k, h]

theorem m112 (h : 0 ≤ D 1 1 ∧ D 1 1 + 20 ≤ 300) : WP 124 xF1 none 112 0 [some (.inr (.inr (some 1))), some (.inl x1), some (.inl x2), some (.inl x3), some (.inl x4), some (.inl x5)] [] D Q = Q (some (.inl (D 1 1 + 20))) (app20 D 2 1 1 x1 x2 x3 x4 x5) := by
  rw [seg112_0 (ha0 := ho1), cnX (by omega), brT (by omega), m113 (by omega)]
  simp only [Option.toList_some, Option.toList_none, List.cons_append, List.nil_append]
  rw [seg112_20 (ha0 := ho1), m113 (by rw [app4_k]; omega)]
  simp only [Option.toList_some, Option.toList_none, List.cons_append, List.nil_append]
  rw [seg112_25 (ha0 := ho1), m113 (by rw [app4_k, app4_k]; omega)]
  simp only [Option.toList_some, Option.toList_none, List.cons_append, List.nil_append]
  rw [seg112_30 (ha0 := ho1), m113 (by rw [app4_k, app4_k, app4_k]; omega)]
  simp only [Option.toList_some, Option.toList_none, List.cons_append, List.nil_append]
  rw [seg112_36 (ha0 := ho1), m113 (by rw [app4_k, app4_k, app4_k, app4_k]; omega)]
  simp only [Option.toList_some, Option.toList_none, List.cons_append, List.nil_append]
  rw [seg112_42 (ha0 := ho1)]
  show Q (some (.inl (app20 D 2 1 1 x1 x2 x3 x4 x5 1 1))) (app20 D 2 1 1 x1 x2 x3 x4 x5) = _
  rw [app20_k]

theorem m152 (h : 0 ≤ D 95 4 ∧ D 95 4 + 20 ≤ 300) : WP 124 xF1 none 152 0 [some (.inr (.inr (some 95))), some (.inl x1), some (.inl x2), some (.inl x3), some (.inl x4), some (.inl x5)] [] D Q = Q (some (.inl (D 95 4 + 20))) (app20 D 99 95 4 x1 x2 x3 x4 x5) := by
  rw [seg152_0 (ha0 := ho95), cnX (by omega), brT (by omega), m151 (by omega)]
  simp only [Option.toList_some, Option.toList_none, List.cons_append, List.nil_append]
  rw [seg152_20 (ha0 := ho95), m151 (by rw [app4_k]; omega)]
  simp only [Option.toList_some, Option.toList_none, List.cons_append, List.nil_append]
  rw [seg152_25 (ha0 := ho95), m151 (by rw [app4_k, app4_k]; omega)]
  simp only [Option.toList_some, Option.toList_none, List.cons_append, List.nil_append]
  rw [seg152_30 (ha0 := ho95), m151 (by rw [app4_k, app4_k, app4_k]; omega)]
  simp only [Option.toList_some, Option.toList_none, List.cons_append, List.nil_append]
  rw [seg152_36 (ha0 := ho95), m151 (by rw [app4_k, app4_k, app4_k, app4_k]; omega)]
  simp only [Option.toList_some, Option.toList_none, List.cons_append, List.nil_append]
  rw [seg152_42 (ha0 := ho95)]
  show Q (some (.inl (app20 D 99 95 4 x1 x2 x3 x4 x5 95 4))) (app20 D 99 95 4 x1 x2 x3 x4 x5) = _
  rw [app20_k]

theorem pair0 : ∀ (z1 z2 z3 z4 z5 : Int), xinP z1 → xinP z2 → xinP z3 → xinP z4 → xinP z5 → xpr (Inv K) 112 [some (.inr (.inr (some 1))), some (.inl z1), some (.inl z2), some (.inl z3), some (.inl z4), some (.inl z5)] 152 [some (.inr (.inr (some 95))), some (.inl z1), some (.inl z2), some (.inl z3), some (.inl z4), some (.inl z5)] := by
  intro z1 z2 z3 z4 z5 y1 y2 y3 y4 y5 D H
  obtain ⟨⟨⟨t1, t2, t3, t4, t5⟩, tt, tw⟩, -⟩ := id H
  by_cases h : D 1 1 + 20 ≤ 300
  · rw [m112 ⟨t2, h⟩]
    refine ⟨_, rfl, app20_ne (by decide) (by decide), ?_⟩
    have e95 : app20 D 2 1 1 z1 z2 z3 z4 z5 95 = D 95 := app20_ne (by decide) (by decide)
    rw [m152 (by rw [e95]; omega), e95]
    refine ⟨by rw [t1], by rw [app20_ne (by decide) (by decide), app20_ne (by decide) (by decide)], Inv_tape H (fun a h1 h2 h3 h4 => by rw [app20_ne h4 h3, app20_ne h2 h1]) ?_⟩
    have f1 : app20 (app20 D 2 1 1 z1 z2 z3 z4 z5) 99 95 4 z1 z2 z3 z4 z5 1 = app20 D 2 1 1 z1 z2 z3 z4 z5 1 := app20_ne (by decide) (by decide)
    have f2 : app20 (app20 D 2 1 1 z1 z2 z3 z4 z5) 99 95 4 z1 z2 z3 z4 z5 2 = app20 D 2 1 1 z1 z2 z3 z4 z5 2 := app20_ne (by decide) (by decide)
    rw [f1, f2]
    have n95 : ∀ j, j ≠ 4 → app20 (app20 D 2 1 1 z1 z2 z3 z4 z5) 99 95 4 z1 z2 z3 z4 z5 95 j = D 95 j := fun j hj => by rw [app20_nk (by decide) hj, e95]
    refine ⟨⟨?_, ?_, ?_, ?_, ?_⟩, fun j j1 j2 => ?_, ?_⟩
    · rw [app20_k, app20_k, e95, t1]
    · rw [app20_k]; omega
    · rw [app20_k]; omega
    · rw [app20_nk (by decide) (by decide), n95 5 (by decide)]; exact t4
    · rw [app20_nk (by decide) (by decide), n95 6 (by decide)]; exact t5
    · refine app20_cg (by decide) (by decide) ?_ ?_
      · rw [e95]; exact t1
      · have e99 : app20 D 2 1 1 z1 z2 z3 z4 z5 99 = D 99 := app20_ne (by decide) (by decide)
        rw [e99]; exact tt j j1 j2
    · rw [n95 22 (by decide), n95 23 (by decide), n95 44 (by decide)]; exact tw
  · rw [seg112_0 (ha0 := ho1), cnX (by omega), brF h]
    refine ⟨_, rfl, rfl, ?_⟩
    rw [seg152_0 (ha0 := ho95), cnX (by omega), brF (by omega)]
    exact ⟨rfl, rfl, H⟩

end M39
