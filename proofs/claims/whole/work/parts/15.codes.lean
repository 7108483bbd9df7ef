/-! every instruction of every method is checked -/
theorem xcd_lt {y p : Nat} (h : (xcd y p).1 ≠ 99) : p < xlen y := by
  unfold xcd at h
  cases hq : Nat.blt p (xlen y) with
  | true => exact Nat.le_of_ble_eq_true hq
  | false => rw [hq] at h; exact absurd rfl h
theorem xok_law : ∀ p, p < 1083 → xokP 239 p = true := by
  intro p hp
  have key : ∀ {a k : Nat}, (List.range' a k).all (xokP 239) = true → a ≤ p → p < a + k → xokP 239 p = true := fun h h1 h2 => List.all_eq_true.mp h p (List.mem_range'_1.mpr ⟨h1, h2⟩)
  rcases (show (0 ≤ p ∧ p < 0 + 150) ∨ (150 ≤ p ∧ p < 150 + 150) ∨ (300 ≤ p ∧ p < 300 + 150) ∨ (450 ≤ p ∧ p < 450 + 150) ∨ (600 ≤ p ∧ p < 600 + 150) ∨ (750 ≤ p ∧ p < 750 + 150) ∨ (900 ≤ p ∧ p < 900 + 150) ∨ (1050 ≤ p ∧ p < 1050 + 33) by omega) with h | h | h | h | h | h | h | h
  · exact key xlawc_0 h.1 h.2
  · exact key xlawc_150 h.1 h.2
  · exact key xlawc_300 h.1 h.2
  · exact key xlawc_450 h.1 h.2
  · exact key xlawc_600 h.1 h.2
  · exact key xlawc_750 h.1 h.2
  · exact key xlawc_900 h.1 h.2
  · exact key xlawc_1050 h.1 h.2
theorem xok_any {y p : Nat} (hy : y < 242) (hp : p < xlen y) : xokP y p = true := by
  by_cases h9 : y = 239
  · subst h9
    rw [xlaw_len] at hp
    exact xok_law p hp
  · have key : ∀ {a k : Nat}, (List.range' a k).all xokM = true → a ≤ y → y < a + k → xokP y p = true := fun h h1 h2 => List.all_eq_true.mp (List.all_eq_true.mp h y (List.mem_range'_1.mpr ⟨h1, h2⟩)) p (List.mem_range.mpr hp)
    rcases (show (0 ≤ y ∧ y < 0 + 20) ∨ (20 ≤ y ∧ y < 20 + 20) ∨ (40 ≤ y ∧ y < 40 + 20) ∨ (60 ≤ y ∧ y < 60 + 20) ∨ (80 ≤ y ∧ y < 80 + 20) ∨ (100 ≤ y ∧ y < 100 + 20) ∨ (120 ≤ y ∧ y < 120 + 20) ∨ (140 ≤ y ∧ y < 140 + 20) ∨ (160 ≤ y ∧ y < 160 + 20) ∨ (180 ≤ y ∧ y < 180 + 20) ∨ (200 ≤ y ∧ y < 200 + 20) ∨ (220 ≤ y ∧ y < 220 + 19) ∨ (240 ≤ y ∧ y < 240 + 2) by omega) with h | h | h | h | h | h | h | h | h | h | h | h | h
    · exact key xcodes_0 h.1 h.2
    · exact key xcodes_20 h.1 h.2
    · exact key xcodes_40 h.1 h.2
    · exact key xcodes_60 h.1 h.2
    · exact key xcodes_80 h.1 h.2
    · exact key xcodes_100 h.1 h.2
    · exact key xcodes_120 h.1 h.2
    · exact key xcodes_140 h.1 h.2
    · exact key xcodes_160 h.1 h.2
    · exact key xcodes_180 h.1 h.2
    · exact key xcodes_200 h.1 h.2
    · exact key xcodes_220 h.1 h.2
    · exact key xcodes_240 h.1 h.2
theorem xok_all {y p : Nat} (hy : y < 242) (h : (xcd y p).1 ≠ 99) : ∃ (ins : Instr) (len : Nat), decode (xmb y) p = .ok (ins, len) ∧ xok y p ins len (xcd y p) = true ∧ xrm1 y (xcd y p) = true := by
  have h1 := xok_any hy (xcd_lt h)
  unfold xokP at h1
  simp only [Bool.or_eq_true, Bool.and_eq_true, Nat.beq_eq] at h1
  obtain ⟨h2, h3⟩ := h1.resolve_left h
  unfold xchk at h2
  split at h2
  · rename_i ins len hd
    exact ⟨ins, len, hd, h2, h3⟩
  · cases h2
