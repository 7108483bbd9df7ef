/-! loops that write -/
/-- the row a has v from lo on, up to hi -/
def xfil (D : xD) (a : Nat) (lo hi v : Int) : xD := fun b j => if b = a ∧ lo ≤ j ∧ j < hi then v else D b j
section M32
variable {x0 x1 x2 x3 x4 : Int} {a b : Nat} {j k v lo hi sp dp n : Int} {D : xD} {Q : Option xv → xD → Prop}
theorem up_ne (h : b ≠ a) : xup D a k v b = D b := by
  funext j; simp [xup, h]
theorem up_ne2 (h : j ≠ k) : xup D a k v b j = D b j := by simp [xup, h]
theorem up_eq : xup D a k v a k = v := by simp [xup]
theorem up_at : xup D a k v a j = if j = k then v else D a j := by simp [xup]
theorem fil_ne (h : b ≠ a) : xfil D a lo hi v b = D b := by
  funext j; simp [xfil, h]
theorem fil_in (h : lo ≤ j ∧ j < hi) : xfil D a lo hi v a j = v := by simp [xfil, h]
theorem fil_out (h : j < lo ∨ hi ≤ j) : xfil D a lo hi v b j = D b j := by
  unfold xfil
  rw [if_neg (by omega)]
theorem cpy_ne {c : Nat} (h : c ≠ b) : xcpy D a b sp dp n c = D c := by
  funext j; simp [xcpy, h]
theorem cpy_in (h : 0 ≤ j ∧ j < n) : xcpy D a b 0 0 n b j = D a j := by
  unfold xcpy
  rw [if_pos ⟨rfl, by omega, by omega⟩]
  congr 1; omega
theorem cpy_out {c : Nat} (h : j < dp ∨ dp + n ≤ j) : xcpy D a b sp dp n c j = D c j := by
  unfold xcpy
  rw [if_neg (by omega)]
theorem fil_0 (h : hi ≤ lo) : xfil D a lo hi v = D := by
  funext b j
  unfold xfil
  rw [if_neg (by omega)]
theorem fil_up (h : lo + 1 ≤ hi) : xfil (xup D a lo v) a (lo + 1) hi v = xfil D a lo hi v := by
  funext b j
  unfold xfil xup
  by_cases h1 : b = a
  · subst h1
    by_cases h2 : j = lo
    · subst h2
      rw [if_neg (by omega), if_pos ⟨rfl, rfl⟩, if_pos ⟨rfl, by omega, by omega⟩]
    · by_cases h3 : lo ≤ j ∧ j < hi
      · rw [if_pos ⟨rfl, by omega, by omega⟩, if_pos ⟨rfl, h3⟩]
      · rw [if_neg (by omega), if_neg (by omega), if_neg (by omega)]
  · simp [h1]
theorem cpy_0 : xcpy D a b sp dp 0 = D := by
  funext c j
  unfold xcpy
  rw [if_neg (by omega)]
theorem cpy_up (hab : a ≠ b) (h : 1 ≤ n) : xcpy (xup D b dp (D a sp)) a b (sp + 1) (dp + 1) (n - 1) = xcpy D a b sp dp n := by
  funext c j
  unfold xcpy
  by_cases h1 : c = b
  · subst h1
    by_cases h2 : j = dp
    · subst h2
      rw [if_neg (by omega), if_pos ⟨rfl, by omega, by omega⟩]
      simp [xup]
    · by_cases h3 : dp ≤ j ∧ j < dp + n
      · rw [if_pos ⟨rfl, by omega, by omega⟩, if_pos ⟨rfl, h3⟩]
        unfold xup
        rw [if_neg (by omega)]
        congr 1; omega
      · rw [if_neg (by omega), if_neg (by omega)]
        unfold xup
        rw [if_neg (by omega)]
  · simp [h1, xup]

theorem l240 {L : Nat} (hL : xalen none 124 a = some L) (hb : L ≤ 2000) : ∀ (k : Nat) (x2 : Int) (D : xD), (L : Int) = x2 + k → 0 ≤ x2 → WP 124 xF1 none 240 5 [some (.inr (.inr (some a))), some (.inl x1), some (.inl x2), some (.inl (L : Int))] [] D Q = Q none (xfil D a x2 L x1) := by
  intro k
  induction k with
  | zero =>
    intro x2 D h1 h2
    rw [seg240_5 (ha0 := hL)]
    simp (disch := omega) only [Option.toList_some, Option.toList_none, List.cons_append, List.nil_append, brT, brF, brQ, zoi, cnB, cnX, true_or, or_true, true_and, ite_not, Nat.reduceAdd, ne_eq, fil_0]
  | succ k ih =>
    intro x2 D h1 h2
    rw [seg240_5 (ha0 := hL)]
    simp (disch := omega) only [Option.toList_some, Option.toList_none, List.cons_append, List.nil_append, brT, brF, brQ, zoi, cnB, cnX, true_or, or_true, true_and, ite_not, Nat.reduceAdd, ne_eq, ih, fil_up]
theorem m240 {L : Nat} {o2 o3 : Option xv} (hL : xalen none 124 a = some L) (hb : L ≤ 2000) : WP 124 xF1 none 240 0 [some (.inr (.inr (some a))), some (.inl x1), o2, o3] [] D Q = Q none (xfil D a 0 L x1) := by
  rw [seg240_0 (ha0 := hL), l240 hL hb L 0 D (by omega) (by omega)]
  exact cnT (by omega)
theorem l148 {a1 : Nat} (hL : xalen none 124 a = some 640) (hM : xalen none 124 a1 = some 640) (hab : a ≠ a1) : ∀ (k : Nat) (x2 : Int) (D : xD), 640 = x2 + k → 0 ≤ x2 → WP 124 xF1 none 148 2 [some (.inr (.inr (some a))), some (.inr (.inr (some a1))), some (.inl x2)] [] D Q = Q none (xcpy D a a1 x2 x2 (640 - x2)) := by
  intro k
  induction k with
  | zero =>
    intro x2 D h1 h2
    rw [seg148_2 (ha0 := hL) (ha1 := hM)]
    simp (disch := omega) only [Option.toList_some, Option.toList_none, List.cons_append, List.nil_append, brT, brF, brQ, zoi, cnB, cnX, true_or, or_true, true_and, ite_not, Nat.reduceAdd, ne_eq]
    rw [show 640 - x2 = 0 by omega, cpy_0]
  | succ k ih =>
    intro x2 D h1 h2
    rw [seg148_2 (ha0 := hL) (ha1 := hM)]
    simp (disch := omega) only [Option.toList_some, Option.toList_none, List.cons_append, List.nil_append, brT, brF, brQ, zoi, cnB, cnX, true_or, or_true, true_and, ite_not, Nat.reduceAdd, ne_eq, ih]
    rw [show 640 - (x2 + 1) = 640 - x2 - 1 by omega, cpy_up hab (by omega)]
theorem m148 {a1 : Nat} {o2 : Option xv} (hL : xalen none 124 a = some 640) (hM : xalen none 124 a1 = some 640) (hab : a ≠ a1) : WP 124 xF1 none 148 0 [some (.inr (.inr (some a))), some (.inr (.inr (some a1))), o2] [] D Q = Q none (xcpy D a a1 0 0 640) := by
  rw [seg148_0 (ha0 := hL) (ha1 := hM), l148 hL hM hab 640 0 D (by omega) (by omega)]
  rfl
theorem l104 (h : 0 ≤ x1 ∧ x1 < 8) : ∀ (k : Nat) (x4 : Int) (D : xD), 13 = x4 + k → 0 ≤ x4 → WP 124 xF1 none 104 3 [some (.inr (.inr (some 85))), some (.inl x1), some (.inl x2), some (.inl x3), some (.inl x4)] [] D Q = Q none (xfil D 86 (x1 * 13 + x4) (x1 * 13 + 13) x3) := by
  intro k
  induction k with
  | zero =>
    intro x4 D h1 h2
    rw [seg104_3 (ha0 := ho85)]
    simp (disch := omega) only [Option.toList_some, Option.toList_none, List.cons_append, List.nil_append, brT, brF, brQ, zoi, cnB, cnX, true_or, or_true, true_and, ite_not, Nat.reduceAdd, ne_eq, fil_0]
  | succ k ih =>
    intro x4 D h1 h2
    rw [seg104_3 (ha0 := ho85)]
    simp (disch := omega) only [Option.toList_some, Option.toList_none, List.cons_append, List.nil_append, brT, brF, brQ, zoi, cnB, cnX, true_or, or_true, true_and, ite_not, Nat.reduceAdd, ne_eq, ih, ← Int.add_assoc, fil_up]
theorem m104 {o4 : Option xv} (h : 0 ≤ x1 ∧ x1 < 8) (h2 : 0 ≤ x2 ∧ x2 ≤ 13) : WP 124 xF1 none 104 0 [some (.inr (.inr (some 85))), some (.inl x1), some (.inl x2), some (.inl x3), o4] [] D Q = Q none (xfil D 86 (x1 * 13 + x2) (x1 * 13 + 13) x3) := by
  rw [seg104_0 (ha0 := ho85), l104 h (13 - x2).toNat x2 D (by omega) (by omega)]
theorem l220 (h : 0 ≤ x1 ∧ x1 < 8) : ∀ (k : Nat) (x4 : Int) (D : xD), 13 = x4 + k → 0 ≤ x4 → WP 124 xF1 none 220 3 [some (.inr (.inr (some 95))), some (.inl x1), some (.inl x2), some (.inl x3), some (.inl x4)] [] D Q = Q none (xfil D 120 (13 * x1 + x4) (13 * x1 + 13) x3) := by
  intro k
  induction k with
  | zero =>
    intro x4 D h1 h2
    rw [seg220_3 (ha0 := ho95)]
    simp (disch := omega) only [Option.toList_some, Option.toList_none, List.cons_append, List.nil_append, brT, brF, brQ, zoi, cnB, cnX, true_or, or_true, true_and, ite_not, Nat.reduceAdd, ne_eq, fil_0]
  | succ k ih =>
    intro x4 D h1 h2
    rw [seg220_3 (ha0 := ho95)]
    simp (disch := omega) only [Option.toList_some, Option.toList_none, List.cons_append, List.nil_append, brT, brF, brQ, zoi, cnB, cnX, true_or, or_true, true_and, ite_not, Nat.reduceAdd, ne_eq, ih, ← Int.add_assoc, fil_up]
theorem m220 {o4 : Option xv} (h : 0 ≤ x1 ∧ x1 < 8) (h2 : 0 ≤ x2 ∧ x2 ≤ 13) : WP 124 xF1 none 220 0 [some (.inr (.inr (some 95))), some (.inl x1), some (.inl x2), some (.inl x3), o4] [] D Q = Q none (xfil D 120 (13 * x1 + x2) (13 * x1 + 13) x3) := by
  rw [seg220_0 (ha0 := ho95), l220 h (13 - x2).toNat x2 D (by omega) (by omega)]

end M32
