/-! short methods of both: what they answer -/
theorem ho1 : xisO 124 1 9 = true := rfl
theorem ho3 : xisO 124 3 6 = true := rfl
theorem ho4 : xisO 124 4 7 = true := rfl
theorem ho22 : xisO 124 22 6 = true := rfl
theorem ho23 : xisO 124 23 7 = true := rfl
theorem ho42 : xisO 124 42 5 = true := rfl
theorem ho43 : xisO 124 43 7 = true := rfl
theorem ho56 : xisO 124 56 4 = true := rfl
theorem ho57 : xisO 124 57 3 = true := rfl
theorem ho73 : xisO 124 73 2 = true := rfl
theorem ho82 : xisO 124 82 0 = true := rfl
theorem ho85 : xisO 124 85 8 = true := rfl
theorem ho91 : xisO 124 91 1 = true := rfl
theorem ho95 : xisO 124 95 10 = true := rfl
theorem hl96 : xalen none 124 96 = some 640 := rfl
theorem hl97 : xalen none 124 97 = some 640 := rfl
theorem hl98 : xalen none 124 98 = some 640 := rfl
section M30
variable {x0 x1 x2 x3 : Int} {a : Nat} {D : xD} {Q : Option xv → xD → Prop}
theorem brQ {c : Prop} [Decidable c] {a b : Int} : ((c → Q (some (.inl a)) D) ∧ (¬ c → Q (some (.inl b)) D)) = Q (some (.inl (if c then a else b))) D := by
  by_cases h : c <;> simp [h]
theorem cgQ {a b : Int} (h : a = b) : Q (some (.inl a)) D = Q (some (.inl b)) D := by rw [h]
theorem zoi {c : Prop} [Decidable c] : ((if c then (1 : Int) else 0) = 0 ∨ (if c then (1 : Int) else 0) = 1) = True := by
  by_cases h : c <;> simp [h]
theorem cnT {c P : Prop} (h : c) : (c ∧ P) = P := by simp [h]
theorem cnB {a b c d : Int} {P : Prop} (h : a ≤ b ∧ c < d) : ((a ≤ b ∧ c < d) ∧ P) = P := by simp [h]
theorem cnX {a : Int} {P : Prop} (h : xinP a) : (xinP a ∧ P) = P := propext ⟨fun z => z.2, fun z => ⟨h, z⟩⟩
theorem brT {c P R : Prop} (h : c) : ((c → P) ∧ (¬ c → R)) = P := by simp [h]
theorem brF {c P R : Prop} (h : ¬ c) : ((c → P) ∧ (¬ c → R)) = R := by simp [h]
theorem ifn0 {c : Prop} [Decidable c] : ((if c then (1 : Int) else 0) = 0) = ¬ c := by
  by_cases h : c <;> simp [h]
theorem ifn1 {c : Prop} [Decidable c] : ((if c then (1 : Int) else 0) ≠ 0) = c := by
  by_cases h : c <;> simp [h]
theorem iff1 {c : Prop} [Decidable c] : ((if c then (1 : Int) else 0) = 1) = c := by
  by_cases h : c <;> simp [h]
theorem brN {c P R : Prop} : ((¬ c → P) ∧ (¬ ¬ c → R)) = ((c → R) ∧ (¬ c → P)) := by
  by_cases h : c <;> simp [h]

theorem m149 : WP 124 xF1 none 149 0 [some (.inl x0), some (.inl x1), some (.inl x2)] [] D Q = Q (some (.inl (if x1 ≤ x0 ∧ x0 ≤ x2 then 1 else 0))) D := by
  simp (disch := omega) only [seg149_0, seg149_14, seg149_15, Option.toList_some, Option.toList_none, List.cons_append, List.nil_append, brQ, zoi, cnB, cnX, true_or, or_true, true_and, ite_not]
  refine cgQ ?_
  (repeat' split) <;> omega

theorem m150 : WP 124 xF1 none 150 0 [some (.inl x0)] [] D Q = Q (some (.inl (if 0 ≤ x0 ∧ x0 ≤ 12 then 1 else 0))) D := by
  simp (disch := omega) only [seg150_0, seg150_7, m149, Option.toList_some, Option.toList_none, List.cons_append, List.nil_append, brQ, zoi, cnB, cnX, true_or, or_true, true_and, ite_not]

theorem m94 : WP 124 xF1 none 94 0 [some (.inr (.inr (some 4))), some (.inl x0)] [] D Q = Q (some (.inl (if 0 ≤ x0 ∧ x0 < D 4 11 then 1 else 0))) D := by
  simp (disch := omega) only [seg94_0 (ha0 := ho4), seg94_16 (ha0 := ho4), seg94_17 (ha0 := ho4), Option.toList_some, Option.toList_none, List.cons_append, List.nil_append, brQ, zoi, cnB, cnX, true_or, or_true, true_and, ite_not]
  refine cgQ ?_
  (repeat' split) <;> omega

theorem m144 : WP 124 xF1 none 144 0 [some (.inl x0)] [] D Q = Q (some (.inl (if 0 ≤ x0 ∧ x0 ≤ 12 then 1 else 0))) D := by
  simp (disch := omega) only [seg144_0, seg144_14, seg144_15, Option.toList_some, Option.toList_none, List.cons_append, List.nil_append, brQ, zoi, cnB, cnX, true_or, or_true, true_and, ite_not]
  refine cgQ ?_
  (repeat' split) <;> omega

theorem m145 : WP 124 xF1 none 145 0 [some (.inl x0)] [] D Q = Q (some (.inl (if 0 ≤ x0 ∧ x0 ≤ 7 then 1 else 0))) D := by
  simp (disch := omega) only [seg145_0, seg145_14, seg145_15, Option.toList_some, Option.toList_none, List.cons_append, List.nil_append, brQ, zoi, cnB, cnX, true_or, or_true, true_and, ite_not]
  refine cgQ ?_
  (repeat' split) <;> omega

theorem m175 : WP 124 xF1 none 175 0 [some (.inl x0)] [] D Q = Q (some (.inl (if 0 ≤ x0 ∧ x0 ≤ 7 then 1 else 0))) D := by
  simp (disch := omega) only [seg175_0, seg175_7, m149, Option.toList_some, Option.toList_none, List.cons_append, List.nil_append, brQ, zoi, cnB, cnX, true_or, or_true, true_and, ite_not]

theorem m95 (h : 0 ≤ x0 ∧ x0 < 16) : WP 124 xF1 none 95 0 [some (.inr (.inr (some 4))), some (.inl x0), some (.inl x1)] [] D Q = Q (some (.inl (if iand (ishr x1 x0) 1 = 0 then D 5 x0 else D 6 x0))) D := by
  simp (disch := omega) only [seg95_0 (ha0 := ho4), seg95_23 (ha0 := ho4), Option.toList_some, Option.toList_none, List.cons_append, List.nil_append, brQ, zoi, cnB, cnX, true_or, or_true, true_and, ite_not, Nat.reduceAdd, ne_eq, brN]

theorem m96 (h : 0 ≤ x0 ∧ x0 < 16) : WP 124 xF1 none 96 0 [some (.inr (.inr (some 4))), some (.inl x0), some (.inl x1)] [] D Q = Q (some (.inl (if iand (ishr x1 x0) 1 = 0 then D 6 x0 else D 5 x0))) D := by
  simp (disch := omega) only [seg96_0 (ha0 := ho4), seg96_23 (ha0 := ho4), Option.toList_some, Option.toList_none, List.cons_append, List.nil_append, brQ, zoi, cnB, cnX, true_or, or_true, true_and, ite_not, Nat.reduceAdd, ne_eq, brN]

theorem m78 (h : 0 ≤ x0 ∧ x0 < 16) : WP 124 xF1 none 78 0 [some (.inr (.inr (some 3))), some (.inl x0)] [] D Q = Q (some (.inl (if iand (ishr (D 3 1) x0) 1 = 0 then D 5 x0 else D 6 x0))) D := by
  simp (disch := omega) only [seg78_0 (ha0 := ho3), seg78_12 (ha0 := ho3), Option.toList_some, Option.toList_none, List.cons_append, List.nil_append, brQ, zoi, cnB, cnX, true_or, or_true, true_and, ite_not, Nat.reduceAdd, m95]

theorem m79 (h : 0 ≤ x0 ∧ x0 < 16) : WP 124 xF1 none 79 0 [some (.inr (.inr (some 3))), some (.inl x0)] [] D Q = Q (some (.inl (if iand (ishr (D 3 1) x0) 1 = 0 then D 6 x0 else D 5 x0))) D := by
  simp (disch := omega) only [seg79_0 (ha0 := ho3), seg79_12 (ha0 := ho3), Option.toList_some, Option.toList_none, List.cons_append, List.nil_append, brQ, zoi, cnB, cnX, true_or, or_true, true_and, ite_not, Nat.reduceAdd, m96]

theorem m97 (h : 0 ≤ x0 ∧ x0 < 16) : WP 124 xF1 none 97 0 [some (.inr (.inr (some 4))), some (.inl x0), some (.inl x1)] [] D Q = Q (some (.inl (if D 9 x0 ≤ x1 ∧ x1 ≤ D 10 x0 then 1 else 0))) D := by
  simp (disch := omega) only [seg97_0 (ha0 := ho4), seg97_24 (ha0 := ho4), seg97_25 (ha0 := ho4), Option.toList_some, Option.toList_none, List.cons_append, List.nil_append, brQ, zoi, cnB, cnX, true_or, or_true, true_and, ite_not, Nat.reduceAdd]
  refine cgQ ?_
  (repeat' split) <;> omega

theorem m98 (ha : xisO 124 a 7 = true) : WP 124 xF1 none 98 0 [some (.inr (.inr (some a))), some (.inl x0)] [] D Q = Q (some (.inl (if iand (ishr (D a 14) x0) 1 = 1 then 1 else 0))) D := by
  simp (disch := omega) only [seg98_0 (ha0 := ha), seg98_17 (ha0 := ha), Option.toList_some, Option.toList_none, List.cons_append, List.nil_append, brQ, zoi, cnB, cnX, true_or, or_true, true_and, ite_not, ne_eq, brN]

theorem m30 (h : 0 ≤ x0 ∧ x0 ≤ 1000 ∧ 0 ≤ x1 ∧ x1 ≤ 1000) : WP 124 xF1 none 30 0 [some (.inl x0), some (.inl x1)] [] D Q = Q (some (.inl (x0 * 13 + x1))) D := by
  simp (disch := omega) only [seg30_0, Option.toList_some, Option.toList_none, List.cons_append, List.nil_append, brQ, zoi, cnB, cnX, true_or, or_true, true_and, ite_not]

theorem m185 (h : 0 ≤ x0 ∧ x0 ≤ 1000 ∧ 0 ≤ x1 ∧ x1 ≤ 1000) : WP 124 xF1 none 185 0 [some (.inl x0), some (.inl x1)] [] D Q = Q (some (.inl (16 + 13 * x0 + x1))) D := by
  simp (disch := omega) only [seg185_0, Option.toList_some, Option.toList_none, List.cons_append, List.nil_append, brQ, zoi, cnB, cnX, true_or, or_true, true_and, ite_not]

theorem m81 : WP 124 xF1 none 81 0 [some (.inl x0), some (.inl x1)] [] D Q = Q (some (.inl (if x1 ≠ -1 ∧ iand (ishr x0 x1) 1 = 1 then -1 else x1))) D := by
  simp (disch := omega) only [seg81_0, seg81_18, seg81_19, Option.toList_some, Option.toList_none, List.cons_append, List.nil_append, brQ, zoi, cnB, cnX, true_or, or_true, true_and, ite_not]
  refine cgQ ?_
  (repeat' split) <;> omega

theorem m174 (h : 0 ≤ D 96 0 ∧ D 96 0 ≤ 16) : WP 124 xF1 none 174 0 [some (.inr (.inr (some 95))), some (.inl x0)] [] D Q = Q (some (.inl (if 0 ≤ x0 ∧ x0 < D 96 0 then 1 else 0))) D := by
  simp (disch := omega) only [seg174_0 (ha0 := ho95), seg174_13 (ha0 := ho95), m149, Option.toList_some, Option.toList_none, List.cons_append, List.nil_append, brQ, zoi, cnB, cnX, true_or, or_true, true_and, ite_not, Nat.reduceAdd]
  refine cgQ ?_
  (repeat' split) <;> omega

theorem m176 : WP 124 xF1 none 176 0 [some (.inr (.inr (some 95))), some (.inl x0)] [] D Q = Q (some (.inl (if iand (ishr (D 96 5) x0) 1 = 1 then 1 else 0))) D := by
  simp (disch := omega) only [seg176_0 (ha0 := ho95), seg176_19 (ha0 := ho95), Option.toList_some, Option.toList_none, List.cons_append, List.nil_append, brQ, zoi, cnB, cnX, true_or, or_true, true_and, ite_not, Nat.reduceAdd, ne_eq, brN]

theorem m177 (h : 0 ≤ x0 ∧ x0 < 16) : WP 124 xF1 none 177 0 [some (.inr (.inr (some 95))), some (.inl x0)] [] D Q = Q (some (.inl (if iand (ishr (D 96 5) x0) 1 = 1 then D 96 (30 + 7 * x0 + 1) else D 96 (30 + 7 * x0)))) D := by
  simp (disch := omega) only [seg177_0 (ha0 := ho95), seg177_16 (ha0 := ho95) (hb2 := hl96), seg177_24 (ha0 := ho95) (hb2 := hl96), Option.toList_some, Option.toList_none, List.cons_append, List.nil_append, brQ, zoi, cnB, cnX, true_or, or_true, true_and, ite_not, Int.add_zero, Nat.reduceAdd, m176, ifn0]

theorem m178 (h : 0 ≤ x0 ∧ x0 < 16) : WP 124 xF1 none 178 0 [some (.inr (.inr (some 95))), some (.inl x0)] [] D Q = Q (some (.inl (if iand (ishr (D 96 5) x0) 1 = 1 then D 96 (30 + 7 * x0) else D 96 (30 + 7 * x0 + 1)))) D := by
  simp (disch := omega) only [seg178_0 (ha0 := ho95), seg178_16 (ha0 := ho95) (hb2 := hl96), seg178_24 (ha0 := ho95) (hb2 := hl96), Option.toList_some, Option.toList_none, List.cons_append, List.nil_append, brQ, zoi, cnB, cnX, true_or, or_true, true_and, ite_not, Int.add_zero, Nat.reduceAdd, m176, ifn0]

theorem m179 (h : 0 ≤ x0 ∧ x0 < 16) : WP 124 xF1 none 179 0 [some (.inr (.inr (some 95))), some (.inl x0), some (.inl x1)] [] D Q = Q (some (.inl (if D 96 (30 + 7 * x0 + 4) ≤ x1 ∧ x1 ≤ D 96 (30 + 7 * x0 + 5) then 1 else 0))) D := by
  simp (disch := omega) only [seg179_0 (ha0 := ho95), seg179_32 (ha0 := ho95), m149, Option.toList_some, Option.toList_none, List.cons_append, List.nil_append, brQ, zoi, cnB, cnX, true_or, or_true, true_and, ite_not, Nat.reduceAdd]

end M30
