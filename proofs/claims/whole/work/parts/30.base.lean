/-! short methods of both: what they answer -/
theorem ho1 : xisO 124 1 9 = true := rfl
theorem ho3 : xisO 124 3 6 = true := rfl
theorem ho4 : xisO 124 4 7 = true := rfl
theorem ho22 : xisO 124 22 6 = true := rfl
theorem ho23 : xisO 124 23 7 = true := rfl
theorem ho42 : xisO 124 42 5 = true := rfl
theorem ho43 : xisO 124 43 7 = true := rfl
theorem ho56 : xisO 124 56 4 = true := rfl
theorem ho57 : xisO 124 57 3 = true := rfl
theorem ho95 : xisO 124 95 10 = true := rfl
section M30
variable {x0 x1 x2 x3 : Int} {D : xD} {Q : Option xv → xD → Prop}
theorem brQ {c : Prop} [Decidable c] {a b : Int} : ((c → Q (some (.inl a)) D) ∧ (¬ c → Q (some (.inl b)) D)) = Q (some (.inl (if c then a else b))) D := by
  by_cases h : c <;> simp [h]
theorem cgQ {a b : Int} (h : a = b) : Q (some (.inl a)) D = Q (some (.inl b)) D := by rw [h]
theorem zo0 : ((0 : Int) = 0 ∨ (0 : Int) = 1) = True := by simp
theorem zo1 : ((1 : Int) = 0 ∨ (1 : Int) = 1) = True := by simp
theorem zoi {c : Prop} [Decidable c] : ((if c then (1 : Int) else 0) = 0 ∨ (if c then (1 : Int) else 0) = 1) = True := by
  by_cases h : c <;> simp [h]
theorem m149 : WP 124 xF1 none 149 0 [some (.inl x0), some (.inl x1), some (.inl x2)] [] D Q = Q (some (.inl (if x1 ≤ x0 ∧ x0 ≤ x2 then 1 else 0))) D := by
  simp only [seg149_0, seg149_14, seg149_15, brQ, true_or, or_true, true_and]
  refine cgQ ?_
  (repeat' split) <;> omega
theorem m150 : WP 124 xF1 none 150 0 [some (.inl x0)] [] D Q = Q (some (.inl (if 0 ≤ x0 ∧ x0 ≤ 12 then 1 else 0))) D := by
  simp only [seg150_0, m149, Option.toList_some, List.cons_append, List.nil_append, seg150_7, zoi, true_and]
theorem m94 : WP 124 xF1 none 94 0 [some (.inr (.inr (some 4))), some (.inl x0)] [] D Q = Q (some (.inl (if 0 ≤ x0 ∧ x0 < D 4 11 then 1 else 0))) D := by
  simp only [seg94_0 (ha0 := ho4), seg94_16 (ha0 := ho4), seg94_17 (ha0 := ho4), brQ, true_or, or_true, true_and]
  refine cgQ ?_
  (repeat' split) <;> omega
end M30
