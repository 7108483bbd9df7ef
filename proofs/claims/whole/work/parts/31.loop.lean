/-! loops that count or look for one -/
/-- f i + f (i + 1) + .. , k of them -/
def smI (f : Int → Int) (i : Int) : Nat → Int
  | 0 => 0
  | k + 1 => f i + smI f (i + 1) k
/-- the first of k places from i on, -1 if none -/
def fsI (P : Int → Prop) [DecidablePred P] (i : Int) : Nat → Int
  | 0 => -1
  | k + 1 => if P i then i else fsI P (i + 1) k
section M31
variable {x0 x1 x2 x3 : Int} {a : Nat} {D : xD} {Q : Option xv → xD → Prop}
theorem smI_bd {f : Int → Int} {B : Int} : ∀ (k : Nat) (i : Int), (∀ j, i ≤ j → j < i + k → 0 ≤ f j ∧ f j ≤ B) → 0 ≤ smI f i k ∧ smI f i k ≤ B * k := by
  intro k
  induction k with
  | zero => intro i h; simp [smI]
  | succ k ih =>
    intro i h
    have h1 := h i (by omega) (by omega)
    have h2 := ih (i + 1) (fun j a b => h j (by omega) (by omega))
    simp only [smI]
    have e : B * ((k + 1 : Nat) : Int) = B * (k : Int) + B := by rw [Int.natCast_add, Int.mul_add]; simp
    rw [e]
    omega
theorem smI_congr {f g : Int → Int} : ∀ (k : Nat) (i : Int), (∀ j, i ≤ j → j < i + k → f j = g j) → smI f i k = smI g i k := by
  intro k
  induction k with
  | zero => intro i h; rfl
  | succ k ih =>
    intro i h
    simp only [smI]
    rw [h i (by omega) (by omega), ih (i + 1) (fun j a b => h j (by omega) (by omega))]
theorem fsI_congr {P R : Int → Prop} [DecidablePred P] [DecidablePred R] : ∀ (k : Nat) (i : Int), (∀ j, i ≤ j → j < i + k → (P j ↔ R j)) → fsI P i k = fsI R i k := by
  intro k
  induction k with
  | zero => intro i h; rfl
  | succ k ih =>
    intro i h
    simp only [fsI]
    have e := h i (by omega) (by omega)
    rw [ih (i + 1) (fun j a b => h j (by omega) (by omega))]
    by_cases c : P i
    · rw [if_pos c, if_pos (e.mp c)]
    · rw [if_neg c, if_neg (fun z => c (e.mpr z))]
theorem fsI_spec {P : Int → Prop} [DecidablePred P] : ∀ (k : Nat) (i : Int), (fsI P i k = -1 ∧ ∀ j, i ≤ j → j < i + k → ¬ P j) ∨ (i ≤ fsI P i k ∧ fsI P i k < i + k ∧ P (fsI P i k) ∧ ∀ j, i ≤ j → j < fsI P i k → ¬ P j) := by
  intro k
  induction k with
  | zero => intro i; exact .inl ⟨rfl, fun j a b => by omega⟩
  | succ k ih =>
    intro i
    simp only [fsI]
    by_cases c : P i
    · rw [if_pos c]
      exact .inr ⟨by omega, by omega, c, fun j a b => by omega⟩
    · rw [if_neg c]
      rcases ih (i + 1) with ⟨h1, h2⟩ | ⟨h1, h2, h3, h4⟩
      · refine .inl ⟨h1, fun j a b => ?_⟩
        by_cases e : j = i
        · rw [e]; exact c
        · exact h2 j (by omega) (by omega)
      · refine .inr ⟨by omega, by omega, h3, fun j a b => ?_⟩
        by_cases e : j = i
        · rw [e]; exact c
        · exact h4 j (by omega) (by omega)

theorem l100 (ha : xisO 124 a 7 = true) (hd : ∀ j, 0 ≤ j → j < D a 12 → 0 ≤ D (a + 11) j ∧ D (a + 11) j ≤ 99) : ∀ (k : Nat) (x1 x2 : Int), D a 12 = x2 + k → 0 ≤ x2 → x2 + k ≤ 6 → 0 ≤ x1 → x1 ≤ 99 * x2 → WP 124 xF1 none 100 4 [some (.inr (.inr (some a))), some (.inl x1), some (.inl x2)] [] D Q = Q (some (.inl (x1 + smI (fun d => D (a + 11) d) x2 k))) D := by
  intro k
  induction k with
  | zero =>
    intro x1 x2 h1 h2 h3 h4 h5
    rw [seg100_4 (ha0 := ha)]
    simp (disch := omega) only [Option.toList_some, Option.toList_none, List.cons_append, List.nil_append, brT, brF, brQ, zoi, cnB, cnX, true_or, or_true, true_and, ite_not, Nat.reduceAdd, ne_eq, smI, Int.add_zero]
  | succ k ih =>
    intro x1 x2 h1 h2 h3 h4 h5
    have b := hd x2 (by omega) (by omega)
    rw [seg100_4 (ha0 := ha)]
    simp (disch := omega) only [Option.toList_some, Option.toList_none, List.cons_append, List.nil_append, brT, brF, brQ, zoi, cnB, cnX, true_or, or_true, true_and, ite_not, Nat.reduceAdd, ne_eq, ih, smI, Int.add_assoc]
theorem m100 (ha : xisO 124 a 7 = true) (hd : ∀ j, 0 ≤ j → j < D a 12 → 0 ≤ D (a + 11) j ∧ D (a + 11) j ≤ 99) (h : 0 ≤ D a 12 ∧ D a 12 ≤ 6) : WP 124 xF1 none 100 0 [some (.inr (.inr (some a))), none, none] [] D Q = Q (some (.inl (smI (fun d => D (a + 11) d) 0 (D a 12).toNat))) D := by
  rw [seg100_0 (ha0 := ha), l100 ha hd (D a 12).toNat 0 0 (by omega) (by omega) (by omega) (by omega) (by omega), Int.zero_add]
theorem l86 : ∀ (k : Nat) (x3 : Int), D 4 11 = x3 + k → 0 ≤ x3 → x3 + k ≤ 16 → WP 124 xF1 none 86 4 [some (.inr (.inr (some 3))), some (.inl x1), some (.inl x2), some (.inl x3)] [] D Q = Q (some (.inl (fsI (fun s => (if iand (ishr (D 3 1) s) 1 = 0 then D 5 s else D 6 s) = x1) x3 k))) D := by
  intro k
  induction k with
  | zero =>
    intro x3 h1 h2 h3
    rw [seg86_4 (ha0 := ho3)]
    simp (disch := omega) only [Option.toList_some, Option.toList_none, List.cons_append, List.nil_append, brT, brF, brQ, zoi, cnB, cnX, true_or, or_true, true_and, ite_not, Nat.reduceAdd, ne_eq, fsI]
  | succ k ih =>
    intro x3 h1 h2 h3
    rw [seg86_4 (ha0 := ho3)]
    simp (disch := omega) only [seg86_20 (ha0 := ho3), Option.toList_some, Option.toList_none, List.cons_append, List.nil_append, brT, brF, brQ, zoi, cnB, cnX, true_or, or_true, true_and, ite_not, Nat.reduceAdd, ne_eq, fsI, m78, ih, brN]
theorem l230 : ∀ (k : Nat) (x3 : Int), D 96 0 = x3 + k → 0 ≤ x3 → x3 + k ≤ 16 → WP 124 xF1 none 230 4 [some (.inr (.inr (some 95))), some (.inl x1), some (.inl x2), some (.inl x3)] [] D Q = Q (some (.inl (fsI (fun s => (if iand (ishr (D 96 5) s) 1 = 1 then D 96 (30 + 7 * s + 1) else D 96 (30 + 7 * s)) = x1) x3 k))) D := by
  intro k
  induction k with
  | zero =>
    intro x3 h1 h2 h3
    rw [seg230_4 (ha0 := ho95)]
    simp (disch := omega) only [Option.toList_some, Option.toList_none, List.cons_append, List.nil_append, brT, brF, brQ, zoi, cnB, cnX, true_or, or_true, true_and, ite_not, Nat.reduceAdd, ne_eq, fsI]
  | succ k ih =>
    intro x3 h1 h2 h3
    rw [seg230_4 (ha0 := ho95)]
    simp (disch := omega) only [seg230_19 (ha0 := ho95), Option.toList_some, Option.toList_none, List.cons_append, List.nil_append, brT, brF, brQ, zoi, cnB, cnX, true_or, or_true, true_and, ite_not, Nat.reduceAdd, ne_eq, fsI, m177, ih, brN]

end M31
