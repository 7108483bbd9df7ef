/-! outs: sets of streets, one behind the other -/
def ndS (k : Nat) (x M : Int) : Int := (((x % (2 : Int) ^ k).toNat &&& M.toNat : Nat) : Int)
/-- a set among another one -/
def suS : Nat → Int → Int → Prop
  | 0, s, _ => s = 0
  | k + 1, s, M => s % 2 ≤ M % 2 ∧ suS k (s / 2) (M / 2)
/-- which one of all it is -/
def rkS : Nat → Int → Int → Int
  | 0, _, _ => 0
  | k + 1, s, M => if M % 2 = 1 then s % 2 + 2 * rkS k (s / 2) (M / 2) else rkS k (s / 2) (M / 2)
def pwS : Nat → Int → Int
  | 0, _ => 1
  | k + 1, M => if M % 2 = 1 then 2 * pwS k (M / 2) else pwS k (M / 2)
def pbS : Nat → Int → Nat
  | 0, _ => 0
  | k + 1, M => (if M % 2 = 1 then 1 else 0) + pbS k (M / 2)
section M98m
variable {x M s : Int} {k n : Nat}
theorem emd_half (P : Int) (hP : 0 < P) (x : Int) : x % (2 * P) / 2 = x / 2 % P ∧ x % (2 * P) % 2 = x % 2 := by
  have h1 := Int.emod_add_mul_ediv x (2 * P)
  have h2 := Int.emod_nonneg x (show (2 * P : Int) ≠ 0 by omega)
  have h3 := Int.emod_lt_of_pos x (show (0 : Int) < 2 * P by omega)
  have e0 : 2 * P * (x / (2 * P)) = 2 * (P * (x / (2 * P))) := Int.mul_assoc _ _ _
  rw [e0] at h1
  generalize hq : x / (2 * P) = q at h1
  generalize hr : x % (2 * P) = r at h1 h2 h3
  generalize hs : P * q = m at h1
  refine ⟨?_, by omega⟩
  have e : x / 2 = r / 2 + P * q := by rw [hs]; omega
  rw [e, Int.add_mul_emod_self_left, Int.emod_eq_of_lt (by omega) (by omega)]
theorem nd_half (hM : 0 ≤ M) : ndS (k + 1) x M = 2 * ndS k (x / 2) (M / 2) + (if x % 2 = 1 ∧ M % 2 = 1 then 1 else 0) := by
  unfold ndS
  have hP : (0 : Int) < 2 ^ k := Int.pow_pos (by decide)
  have e : (2 : Int) ^ (k + 1) = 2 * 2 ^ k := by rw [Int.pow_succ, Int.mul_comm]
  rw [e]
  obtain ⟨h1, h2⟩ := emd_half (2 ^ k) hP x
  have h3 := Int.emod_nonneg x (show (2 * 2 ^ k : Int) ≠ 0 by omega)
  generalize hr : x % (2 * 2 ^ k) = r at h1 h2 h3
  rw [← h1]
  have a1 : (r.toNat &&& M.toNat) / 2 = r.toNat / 2 &&& M.toNat / 2 := Nat.and_div_two
  have a2 : (r.toNat &&& M.toNat) % 2 = 1 ↔ r.toNat % 2 = 1 ∧ M.toNat % 2 = 1 := Nat.and_mod_two_eq_one
  rw [show (r / 2).toNat = r.toNat / 2 by omega, show (M / 2).toNat = M.toNat / 2 by omega, ← a1]
  generalize hn : r.toNat &&& M.toNat = n at a2
  by_cases c : x % 2 = 1 ∧ M % 2 = 1
  · rw [if_pos c]
    have := a2.mpr (by omega)
    omega
  · rw [if_neg c]
    have : ¬ n % 2 = 1 := fun z => c (by have := a2.mp z; omega)
    omega
theorem iand_nd (hM : 0 ≤ M ∧ M < 65536) : iand x M = ndS 16 x M := by
  unfold iand ndS
  show ((Int32.ofInt x).toBitVec &&& (Int32.ofInt M).toBitVec).toInt = _
  have e1 : (Int32.ofInt x).toBitVec.toNat = (x % 4294967296).toNat := BitVec.toNat_ofInt x
  have e2 : (Int32.ofInt M).toBitVec.toNat = (M % 4294967296).toNat := BitVec.toNat_ofInt M
  have e3 : ((Int32.ofInt x).toBitVec &&& (Int32.ofInt M).toBitVec).toNat = (x % 4294967296).toNat &&& M.toNat := by
    rw [BitVec.toNat_and, e1, e2, show (M % 4294967296).toNat = M.toNat by omega]
  have le : (x % 4294967296).toNat &&& M.toNat ≤ M.toNat := Nat.and_le_right
  rw [BitVec.toInt_eq_toNat_of_lt (by rw [e3]; omega), e3]
  have p : (2 : Int) ^ 16 = 65536 := by decide
  rw [p]
  have m := Nat.and_mod_two_pow (a := (x % 4294967296).toNat) (b := M.toNat) (n := 16)
  have p2 : (2 : Nat) ^ 16 = 65536 := by decide
  rw [p2, show (x % 4294967296).toNat % 65536 = (x % 65536).toNat by omega, show M.toNat % 65536 = M.toNat by omega] at m
  rw [← m]
  omega
theorem nd_0 : ndS 0 x M = 0 ∨ ¬ M = 0 := by
  by_cases c : M = 0
  · left
    subst c
    unfold ndS
    simp
  · exact .inr c
theorem rk_bd : ∀ (k : Nat) (s M : Int), 0 ≤ rkS k s M ∧ rkS k s M < pwS k M := by
  intro k
  induction k with
  | zero => intro s M; simp [rkS, pwS]
  | succ k ih =>
    intro s M
    have := ih (s / 2) (M / 2)
    simp only [rkS, pwS]
    by_cases c : M % 2 = 1
    · rw [if_pos c, if_pos c]; omega
    · rw [if_neg c, if_neg c]; exact this
theorem rk_0 : ∀ (k : Nat) (M : Int), rkS k 0 M = 0 := by
  intro k
  induction k with
  | zero => intro M; rfl
  | succ k ih =>
    intro M
    simp only [rkS]
    rw [show (0 : Int) / 2 = 0 by decide, ih, show (0 : Int) % 2 = 0 by decide]
    split <;> omega
theorem su_0 : ∀ (k : Nat) (M : Int), suS k 0 M := by
  intro k
  induction k with
  | zero => intro M; rfl
  | succ k ih =>
    intro M
    refine ⟨by omega, ?_⟩
    rw [show (0 : Int) / 2 = 0 by decide]
    exact ih _
theorem su_le : ∀ (k : Nat) (s M : Int), 0 ≤ M → suS k s M → 0 ≤ s ∧ s ≤ M := by
  intro k
  induction k with
  | zero => intro s M h1 h2; have h2 : s = 0 := h2; omega
  | succ k ih =>
    intro s M h1 h2
    have := ih (s / 2) (M / 2) (by omega) h2.2
    have := h2.1
    omega
/-- the next set -/
theorem nx_rk : ∀ (k : Nat) (s M : Int), 0 ≤ M → M < 2 ^ k → suS k s M → (s ≠ M → suS k (ndS k (s - M) M) M ∧ rkS k (ndS k (s - M) M) M = rkS k s M + 1) ∧ ndS k (s - M - 1) M = s := by
  intro k
  induction k with
  | zero =>
    intro s M h1 h2 h3
    have h3 : s = 0 := h3
    have e : M = 0 := by
      have : (2 : Int) ^ 0 = 1 := by decide
      omega
    subst h3
    subst e
    refine ⟨fun z => absurd rfl z, ?_⟩
    exact nd_0.resolve_right (fun z => z rfl)
  | succ k ih =>
    intro s M h1 h2 h3
    obtain ⟨h4, h5⟩ := h3
    have e : (2 : Int) ^ (k + 1) = 2 * 2 ^ k := by rw [Int.pow_succ, Int.mul_comm]
    rw [e] at h2
    obtain ⟨i1, i2⟩ := ih (s / 2) (M / 2) (by omega) (by omega) h5
    rw [nd_half h1, nd_half h1]
    by_cases c : M % 2 = 1
    · by_cases c2 : s % 2 = 1
      · have d1 : (s - M) / 2 = s / 2 - M / 2 := by omega
        have d2 : (s - M - 1) / 2 = s / 2 - M / 2 - 1 := by omega
        rw [d1, d2, i2, if_neg (show ¬ ((s - M) % 2 = 1 ∧ M % 2 = 1) by omega), if_pos (show (s - M - 1) % 2 = 1 ∧ M % 2 = 1 by omega)]
        refine ⟨fun hn => ?_, by omega⟩
        obtain ⟨j1, j2⟩ := i1 (by omega)
        have f1 : (2 * ndS k (s / 2 - M / 2) (M / 2) + 0) % 2 = 0 := by omega
        have f2 : (2 * ndS k (s / 2 - M / 2) (M / 2) + 0) / 2 = ndS k (s / 2 - M / 2) (M / 2) := by omega
        refine ⟨⟨by rw [f1]; omega, by rw [f2]; exact j1⟩, ?_⟩
        simp only [rkS]
        rw [if_pos c, if_pos c, f1, f2, j2]
        omega
      · have d1 : (s - M) / 2 = s / 2 - M / 2 - 1 := by omega
        have d2 : (s - M - 1) / 2 = s / 2 - M / 2 - 1 := by omega
        rw [d1, d2, i2, if_pos (show (s - M) % 2 = 1 ∧ M % 2 = 1 by omega), if_neg (show ¬ ((s - M - 1) % 2 = 1 ∧ M % 2 = 1) by omega)]
        refine ⟨fun hn => ?_, by omega⟩
        have f1 : (2 * (s / 2) + 1) % 2 = 1 := by omega
        have f2 : (2 * (s / 2) + 1) / 2 = s / 2 := by omega
        refine ⟨⟨by rw [f1]; omega, by rw [f2]; exact h5⟩, ?_⟩
        simp only [rkS]
        rw [if_pos c, if_pos c, f1, f2]
        omega
    · have c2 : s % 2 = 0 := by omega
      have d1 : (s - M) / 2 = s / 2 - M / 2 := by omega
      have d2 : (s - M - 1) / 2 = s / 2 - M / 2 - 1 := by omega
      rw [d1, d2, i2, if_neg (show ¬ ((s - M) % 2 = 1 ∧ M % 2 = 1) by omega), if_neg (show ¬ ((s - M - 1) % 2 = 1 ∧ M % 2 = 1) by omega)]
      refine ⟨fun hn => ?_, by omega⟩
      obtain ⟨j1, j2⟩ := i1 (by omega)
      have f1 : (2 * ndS k (s / 2 - M / 2) (M / 2) + 0) % 2 = 0 := by omega
      have f2 : (2 * ndS k (s / 2 - M / 2) (M / 2) + 0) / 2 = ndS k (s / 2 - M / 2) (M / 2) := by omega
      refine ⟨⟨by rw [f1]; omega, by rw [f2]; exact j1⟩, ?_⟩
      simp only [rkS]
      rw [if_neg c, if_neg c, f2, j2]
theorem it_rk (hM : 0 ≤ M ∧ M < 65536) : ∀ n : Nat, (∀ i, i < n → itS M i ≠ M) → suS 16 (itS M n) M ∧ rkS 16 (itS M n) M = n := by
  intro n
  induction n with
  | zero => intro _; exact ⟨su_0 16 M, rk_0 16 M⟩
  | succ n ih =>
    intro h
    obtain ⟨h1, h2⟩ := ih (fun i hi => h i (by omega))
    obtain ⟨k1, -⟩ := nx_rk 16 (itS M n) M hM.1 (by have : (2 : Int) ^ 16 = 65536 := by decide
                                                    omega) h1
    obtain ⟨j1, j2⟩ := k1 (h n (by omega))
    simp only [itS, nxS]
    rw [iand_nd hM]
    exact ⟨j1, by rw [j2, h2]; omega⟩
/-- the sets come to an end -/
theorem it_end (hM : 0 ≤ M ∧ M < 65536) : ∃ n : Nat, (n : Int) < pwS 16 M ∧ itS M n = M ∧ ∀ i, i < n → itS M i ≠ M := by
  have key : ∀ m : Nat, (∃ n : Nat, n < m ∧ itS M n = M ∧ ∀ i, i < n → itS M i ≠ M) ∨ ∀ i, i < m → itS M i ≠ M := by
    intro m
    induction m with
    | zero => exact .inr (fun i hi => by omega)
    | succ m ih =>
      rcases ih with ⟨n, n1, n2, n3⟩ | h
      · exact .inl ⟨n, by omega, n2, n3⟩
      · by_cases c : itS M m = M
        · exact .inl ⟨m, by omega, c, h⟩
        · refine .inr (fun i hi => ?_)
          by_cases c2 : i = m
          · rw [c2]; exact c
          · exact h i (by omega)
  have p0 := (rk_bd 16 0 M).2
  rw [rk_0] at p0
  rcases key (pwS 16 M).toNat with ⟨n, n1, n2, n3⟩ | h
  · exact ⟨n, by omega, n2, n3⟩
  · have := (it_rk hM _ h).2
    have b := rk_bd 16 (itS M (pwS 16 M).toNat) M
    omega
theorem pw_pc : ∀ (k : Nat) (M : Int), pwS k M = 2 ^ pbS k M := by
  intro k
  induction k with
  | zero => intro M; rfl
  | succ k ih =>
    intro M
    simp only [pwS, pbS]
    by_cases c : M % 2 = 1
    · rw [if_pos c, if_pos c, ih, Nat.add_comm, Int.pow_succ, Int.mul_comm]
    · rw [if_neg c, if_neg c, ih, Nat.zero_add]
theorem pw_32 (h : pbS 16 M ≤ 5) : pwS 16 M ≤ 32 := by
  rw [pw_pc]
  have : ∀ n : Nat, n ≤ 5 → (2 : Int) ^ n ≤ 32 := by decide
  exact this _ h
/-- no set but the last is followed by none -/
theorem nx_0 (hM : 0 ≤ M ∧ M < 65536) (h : ∀ i, i < n → itS M i ≠ M) : nxS M (itS M n) = 0 ↔ itS M n = M := by
  constructor
  · intro z
    by_cases c : itS M n = M
    · exact c
    · have k := (it_rk (n := n + 1) hM (fun i hi => by
        by_cases c2 : i = n
        · rw [c2]; exact c
        · exact h i (by omega))).2
      have z' : itS M (n + 1) = 0 := z
      rw [z', rk_0] at k
      omega
  · intro z
    unfold nxS
    rw [z, Int.sub_self]
    rw [iand_nd hM]
    unfold ndS
    simp
end M98m
