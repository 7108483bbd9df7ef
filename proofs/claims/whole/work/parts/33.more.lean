/-! more loops; where streets go -/
def frC (D : xD) (s : Int) : Int := if iand (ishr (D 3 1) s) 1 = 0 then D 5 s else D 6 s
def toC (D : xD) (s : Int) : Int := if iand (ishr (D 3 1) s) 1 = 0 then D 6 s else D 5 s
def frM (A : Int → Int) (s : Int) : Int := if iand (ishr (A 5) s) 1 = 1 then A (30 + 7 * s + 1) else A (30 + 7 * s)
def toM (A : Int → Int) (s : Int) : Int := if iand (ishr (A 5) s) 1 = 1 then A (30 + 7 * s) else A (30 + 7 * s + 1)
section M33
variable {x0 x1 x2 x3 x4 x5 : Int} {a : Nat} {D : xD} {Q : Option xv → xD → Prop}
theorem brW {c : Prop} [Decidable c] {a b : Int} {y p : Nat} {ls : xls} {st : xst} : ((c → WP 124 xF1 none y p ls (.inl a :: st) D Q) ∧ (¬ c → WP 124 xF1 none y p ls (.inl b :: st) D Q)) = WP 124 xF1 none y p ls (.inl (if c then a else b) :: st) D Q := by
  by_cases h : c <;> simp [h]
theorem iteA {a b : Prop} [Decidable a] [Decidable b] {u v : Int} : (if a ∧ b then u else v) = (if a then (if b then u else v) else v) := by
  by_cases h : a <;> by_cases g : b <;> simp [h, g]
theorem iteL {a u v : Int} : (if a ≤ 0 then u else v) = (if 0 < a then v else u) := by
  by_cases h : 0 < a
  · rw [if_pos h, if_neg (by omega)]
  · rw [if_neg h, if_pos (by omega)]
theorem brL {a : Int} {P R : Prop} : ((a ≤ 0 → P) ∧ (¬ a ≤ 0 → R)) = ((0 < a → R) ∧ (¬ 0 < a → P)) := by
  by_cases h : 0 < a
  · simp [h, show ¬ a ≤ 0 by omega]
  · simp [h, show a ≤ 0 by omega]
theorem n78 (h : 0 ≤ x0 ∧ x0 < 16) : WP 124 xF1 none 78 0 [some (.inr (.inr (some 3))), some (.inl x0)] [] D Q = Q (some (.inl (frC D x0))) D := m78 h
theorem n79 (h : 0 ≤ x0 ∧ x0 < 16) : WP 124 xF1 none 79 0 [some (.inr (.inr (some 3))), some (.inl x0)] [] D Q = Q (some (.inl (toC D x0))) D := m79 h
theorem n177 (h : 0 ≤ x0 ∧ x0 < 16) : WP 124 xF1 none 177 0 [some (.inr (.inr (some 95))), some (.inl x0)] [] D Q = Q (some (.inl (frM (D 96) x0))) D := m177 h
theorem n178 (h : 0 ≤ x0 ∧ x0 < 16) : WP 124 xF1 none 178 0 [some (.inr (.inr (some 95))), some (.inl x0)] [] D Q = Q (some (.inl (toM (D 96) x0))) D := m178 h

theorem l99 (hd : ∀ j, 0 ≤ j → j < D 4 12 → 0 ≤ D 15 j ∧ D 15 j ≤ 99) : ∀ (k : Nat) (x2 x3 : Int), D 4 12 = x3 + k → 0 ≤ x3 → x3 + k ≤ 6 → 0 ≤ x2 → x2 ≤ 99 * x3 → WP 124 xF1 none 99 4 [some (.inr (.inr (some 4))), some (.inl x1), some (.inl x2), some (.inl x3)] [] D Q = Q (some (.inl (x2 + smI (fun d => if D 13 d = x1 then D 15 d else 0) x3 k))) D := by
  intro k
  induction k with
  | zero =>
    intro x2 x3 h1 h2 h3 h4 h5
    rw [seg99_4 (ha0 := ho4)]
    simp (disch := omega) only [Option.toList_some, Option.toList_none, List.cons_append, List.nil_append, brT, brF, brQ, zoi, cnB, cnX, true_or, or_true, true_and, ite_not, Nat.reduceAdd, ne_eq, fsI, smI, Int.add_zero]
  | succ k ih =>
    intro x2 x3 h1 h2 h3 h4 h5
    have b := hd x3 (by omega) (by omega)
    have b2 : 0 ≤ (if D 13 x3 = x1 then D 15 x3 else 0) ∧ (if D 13 x3 = x1 then D 15 x3 else 0) ≤ 99 := by split <;> omega
    rw [seg99_4 (ha0 := ho4)]
    simp (disch := omega) only [Option.toList_some, Option.toList_none, List.cons_append, List.nil_append, brT, brF, brQ, zoi, cnB, cnX, true_or, or_true, true_and, ite_not, Nat.reduceAdd, ne_eq, brW, brN]
    simp (disch := omega) only [seg99_33 (ha0 := ho4), Option.toList_some, Option.toList_none, List.cons_append, List.nil_append, brT, brF, brQ, zoi, cnB, cnX, true_or, or_true, true_and, ite_not, Nat.reduceAdd, ne_eq, ih, smI]
    exact cgQ (Int.add_assoc _ _ _)
theorem l181 (hd : ∀ j, 0 ≤ j → j < D 96 1 → 0 ≤ D 96 (150 + 4 * j + 2) ∧ D 96 (150 + 4 * j + 2) ≤ 99) : ∀ (k : Nat) (x2 x3 : Int), D 96 1 = x3 + k → 0 ≤ x3 → x3 + k ≤ 6 → 0 ≤ x2 → x2 ≤ 99 * x3 → WP 124 xF1 none 181 4 [some (.inr (.inr (some 95))), some (.inl x1), some (.inl x2), some (.inl x3)] [] D Q = Q (some (.inl (x2 + smI (fun d => if D 96 (150 + 4 * d) = x1 then D 96 (150 + 4 * d + 2) else 0) x3 k))) D := by
  intro k
  induction k with
  | zero =>
    intro x2 x3 h1 h2 h3 h4 h5
    rw [seg181_4 (ha0 := ho95)]
    simp (disch := omega) only [Option.toList_some, Option.toList_none, List.cons_append, List.nil_append, brT, brF, brQ, zoi, cnB, cnX, true_or, or_true, true_and, ite_not, Nat.reduceAdd, ne_eq, fsI, smI, Int.add_zero]
  | succ k ih =>
    intro x2 x3 h1 h2 h3 h4 h5
    have b := hd x3 (by omega) (by omega)
    have b2 : 0 ≤ (if D 96 (150 + 4 * x3) = x1 then D 96 (150 + 4 * x3 + 2) else 0) ∧ (if D 96 (150 + 4 * x3) = x1 then D 96 (150 + 4 * x3 + 2) else 0) ≤ 99 := by split <;> omega
    rw [seg181_4 (ha0 := ho95)]
    simp (disch := omega) only [Option.toList_some, Option.toList_none, List.cons_append, List.nil_append, brT, brF, brQ, zoi, cnB, cnX, true_or, or_true, true_and, ite_not, Nat.reduceAdd, ne_eq, brW, brN]
    simp (disch := omega) only [seg181_49 (ha0 := ho95), Option.toList_some, Option.toList_none, List.cons_append, List.nil_append, brT, brF, brQ, zoi, cnB, cnX, true_or, or_true, true_and, ite_not, Nat.reduceAdd, ne_eq, ih, smI]
    exact cgQ (Int.add_assoc _ _ _)
theorem l101 (hd : ∀ j, 0 ≤ j → j < D 4 12 → 0 ≤ D 15 j ∧ D 15 j ≤ 99) : ∀ (k : Nat) (x1 x2 : Int), D 4 12 = x2 + k → 0 ≤ x2 → x2 + k ≤ 6 → 0 ≤ x1 → x1 ≤ 99 * x2 → WP 124 xF1 none 101 4 [some (.inr (.inr (some 4))), some (.inl x1), some (.inl x2)] [] D Q = Q (some (.inl (x1 + smI (fun d => if iand (ishr (D 4 14) d) 1 = 1 then D 15 d else 0) x2 k))) D := by
  intro k
  induction k with
  | zero =>
    intro x1 x2 h1 h2 h3 h4 h5
    rw [seg101_4 (ha0 := ho4)]
    simp (disch := omega) only [Option.toList_some, Option.toList_none, List.cons_append, List.nil_append, brT, brF, brQ, zoi, cnB, cnX, true_or, or_true, true_and, ite_not, Nat.reduceAdd, ne_eq, fsI, smI, Int.add_zero]
  | succ k ih =>
    intro x1 x2 h1 h2 h3 h4 h5
    have b := hd x2 (by omega) (by omega)
    have b2 : 0 ≤ (if iand (ishr (D 4 14) x2) 1 = 1 then D 15 x2 else 0) ∧ (if iand (ishr (D 4 14) x2) 1 = 1 then D 15 x2 else 0) ≤ 99 := by split <;> omega
    rw [seg101_4 (ha0 := ho4)]
    simp (disch := omega) only [Option.toList_some, Option.toList_none, List.cons_append, List.nil_append, brT, brF, brQ, zoi, cnB, cnX, true_or, or_true, true_and, ite_not, Nat.reduceAdd, ne_eq, m98 ho4, seg101_18 (ha0 := ho4), ifn0, brW, brN]
    simp (disch := omega) only [seg101_31 (ha0 := ho4), Option.toList_some, Option.toList_none, List.cons_append, List.nil_append, brT, brF, brQ, zoi, cnB, cnX, true_or, or_true, true_and, ite_not, Nat.reduceAdd, ne_eq, ih, smI]
    exact cgQ (Int.add_assoc _ _ _)
theorem l87 : ∀ (k : Nat) (x3 : Int), D 3 3 = x3 + k → 0 ≤ x3 → x3 + k ≤ 8 → WP 124 xF1 none 87 2 [some (.inr (.inr (some 3))), some (.inl x1), some (.inl x2), some (.inl x3)] [] D Q = Q (some (.inl (fsI (fun c => D 17 c = x1 ∧ D 18 c = x2) x3 k))) D := by
  intro k
  induction k with
  | zero =>
    intro x3 h1 h2 h3
    rw [seg87_2 (ha0 := ho3)]
    simp (disch := omega) only [Option.toList_some, Option.toList_none, List.cons_append, List.nil_append, brT, brF, brQ, zoi, cnB, cnX, true_or, or_true, true_and, ite_not, Nat.reduceAdd, ne_eq, fsI, smI, Int.add_zero]
  | succ k ih =>
    intro x3 h1 h2 h3
    rw [seg87_2 (ha0 := ho3)]
    simp (disch := omega) only [seg87_32 (ha0 := ho3), Option.toList_some, Option.toList_none, List.cons_append, List.nil_append, brT, brF, brQ, zoi, cnB, cnX, true_or, or_true, true_and, ite_not, Nat.reduceAdd, ne_eq, ih, fsI, brN, iteA]
theorem l218 : ∀ (k : Nat) (x3 : Int), D 96 6 = x3 + k → 0 ≤ x3 → x3 + k ≤ 8 → WP 124 xF1 none 218 2 [some (.inr (.inr (some 95))), some (.inl x1), some (.inl x2), some (.inl x3)] [] D Q = Q (some (.inl (fsI (fun c => D 96 (190 + 3 * c) = x1 ∧ D 96 (190 + 3 * c + 1) = x2) x3 k))) D := by
  intro k
  induction k with
  | zero =>
    intro x3 h1 h2 h3
    rw [seg218_2 (ha0 := ho95)]
    simp (disch := omega) only [Option.toList_some, Option.toList_none, List.cons_append, List.nil_append, brT, brF, brQ, zoi, cnB, cnX, true_or, or_true, true_and, ite_not, Nat.reduceAdd, ne_eq, fsI, smI, Int.add_zero]
  | succ k ih =>
    intro x3 h1 h2 h3
    rw [seg218_2 (ha0 := ho95)]
    simp (disch := omega) only [seg218_49 (ha0 := ho95), Option.toList_some, Option.toList_none, List.cons_append, List.nil_append, brT, brF, brQ, zoi, cnB, cnX, true_or, or_true, true_and, ite_not, Nat.reduceAdd, ne_eq, ih, fsI, brN, iteA]
theorem o86 : ∀ (k : Nat) (x3 : Int), D 4 11 = x3 + k → 0 ≤ x3 → x3 + k ≤ 16 → WP 124 xF1 none 86 4 [some (.inr (.inr (some 3))), some (.inl x1), some (.inl x2), some (.inl x3)] [] D Q = Q (some (.inl (fsI (fun s => frC D s = x1) x3 k))) D := by
  intro k
  induction k with
  | zero =>
    intro x3 h1 h2 h3
    rw [seg86_4 (ha0 := ho3)]
    simp (disch := omega) only [Option.toList_some, Option.toList_none, List.cons_append, List.nil_append, brT, brF, brQ, zoi, cnB, cnX, true_or, or_true, true_and, ite_not, Nat.reduceAdd, ne_eq, fsI, smI, Int.add_zero]
  | succ k ih =>
    intro x3 h1 h2 h3
    rw [seg86_4 (ha0 := ho3)]
    simp (disch := omega) only [seg86_20 (ha0 := ho3), Option.toList_some, Option.toList_none, List.cons_append, List.nil_append, brT, brF, brQ, zoi, cnB, cnX, true_or, or_true, true_and, ite_not, Nat.reduceAdd, ne_eq, n78, ih, fsI, brN]
theorem o230 : ∀ (k : Nat) (x3 : Int), D 96 0 = x3 + k → 0 ≤ x3 → x3 + k ≤ 16 → WP 124 xF1 none 230 4 [some (.inr (.inr (some 95))), some (.inl x1), some (.inl x2), some (.inl x3)] [] D Q = Q (some (.inl (fsI (fun s => frM (D 96) s = x1) x3 k))) D := by
  intro k
  induction k with
  | zero =>
    intro x3 h1 h2 h3
    rw [seg230_4 (ha0 := ho95)]
    simp (disch := omega) only [Option.toList_some, Option.toList_none, List.cons_append, List.nil_append, brT, brF, brQ, zoi, cnB, cnX, true_or, or_true, true_and, ite_not, Nat.reduceAdd, ne_eq, fsI, smI, Int.add_zero]
  | succ k ih =>
    intro x3 h1 h2 h3
    rw [seg230_4 (ha0 := ho95)]
    simp (disch := omega) only [seg230_19 (ha0 := ho95), Option.toList_some, Option.toList_none, List.cons_append, List.nil_append, brT, brF, brQ, zoi, cnB, cnX, true_or, or_true, true_and, ite_not, Nat.reduceAdd, ne_eq, n177, ih, fsI, brN]
theorem l4 (h3b : 0 ≤ x3 ∧ x3 < 13) : ∀ (k : Nat) (x4 : Int), D 4 11 = x4 + k → 0 ≤ x4 → x4 + k ≤ 16 → WP 124 xF1 none 4 11 [some (.inr (.inr (some 82))), some (.inr (.inr (some 3))), some (.inl x2), some (.inl x3), some (.inl x4)] [] D Q = Q (some (.inl (fsI (fun s => frC D s = x2 ∧ 0 < D 83 (s * 13 + x3)) x4 k))) D := by
  intro k
  induction k with
  | zero =>
    intro x4 h1 h2 h3
    rw [seg4_11 (ha0 := ho82) (ha1 := ho3)]
    simp (disch := omega) only [Option.toList_some, Option.toList_none, List.cons_append, List.nil_append, brT, brF, brQ, zoi, cnB, cnX, true_or, or_true, true_and, ite_not, Nat.reduceAdd, ne_eq, fsI, smI, Int.add_zero]
  | succ k ih =>
    intro x4 h1 h2 h3
    rw [seg4_11 (ha0 := ho82) (ha1 := ho3)]
    simp (disch := omega) only [seg4_29 (ha0 := ho82) (ha1 := ho3), seg4_51 (ha0 := ho82) (ha1 := ho3), Option.toList_some, Option.toList_none, List.cons_append, List.nil_append, brT, brF, brQ, zoi, cnB, cnX, true_or, or_true, true_and, ite_not, Nat.reduceAdd, ne_eq, n78, ih, fsI, brN, iteA, iteL]
theorem l204 (h3b : 0 ≤ x2 ∧ x2 < 13) : ∀ (k : Nat) (x3 : Int), D 96 0 = x3 + k → 0 ≤ x3 → x3 + k ≤ 16 → WP 124 xF1 none 204 2 [some (.inr (.inr (some 95))), some (.inl x1), some (.inl x2), some (.inl x3)] [] D Q = Q (some (.inl (fsI (fun s => frM (D 96) s = x1 ∧ 0 < D 112 (13 * s + x2)) x3 k))) D := by
  intro k
  induction k with
  | zero =>
    intro x3 h1 h2 h3
    rw [seg204_2 (ha0 := ho95)]
    simp (disch := omega) only [Option.toList_some, Option.toList_none, List.cons_append, List.nil_append, brT, brF, brQ, zoi, cnB, cnX, true_or, or_true, true_and, ite_not, Nat.reduceAdd, ne_eq, fsI, smI, Int.add_zero]
  | succ k ih =>
    intro x3 h1 h2 h3
    rw [seg204_2 (ha0 := ho95)]
    simp (disch := omega) only [seg204_17 (ha0 := ho95), seg204_37 (ha0 := ho95), Option.toList_some, Option.toList_none, List.cons_append, List.nil_append, brT, brF, brQ, zoi, cnB, cnX, true_or, or_true, true_and, ite_not, Nat.reduceAdd, ne_eq, n177, ih, fsI, brN, iteA, iteL]
theorem l48 : ∀ (k : Nat) (x2 : Int), 13 = x2 + k → 0 ≤ x2 → x2 + k ≤ 13 → WP 124 xF1 none 48 2 [some (.inr (.inr (some 56))), some (.inl x1), some (.inl x2)] [] D Q = Q (some (.inl (fsI (fun t => D 68 t = x1) x2 k))) D := by
  intro k
  induction k with
  | zero =>
    intro x2 h1 h2 h3
    rw [seg48_2 (ha0 := ho56)]
    simp (disch := omega) only [Option.toList_some, Option.toList_none, List.cons_append, List.nil_append, brT, brF, brQ, zoi, cnB, cnX, true_or, or_true, true_and, ite_not, Nat.reduceAdd, ne_eq, fsI, smI, Int.add_zero]
  | succ k ih =>
    intro x2 h1 h2 h3
    rw [seg48_2 (ha0 := ho56)]
    simp (disch := omega) only [Option.toList_some, Option.toList_none, List.cons_append, List.nil_append, brT, brF, brQ, zoi, cnB, cnX, true_or, or_true, true_and, ite_not, Nat.reduceAdd, ne_eq, ih, fsI, brN]
end M33
