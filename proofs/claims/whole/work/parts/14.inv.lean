/-! calls and returns: what they are in the printed machine -/
set_option maxHeartbeats 2000000 in
theorem xok_28 {y pc len : Nat} {ins : Instr} {i : xi} (h : xok y pc ins len i = true) (h9 : i.1 = 28) : ∃ (idx z : Nat) (nest : Bool) (pos : Nat), ((xsg y).2.2.2.1, idx, z, nest, pos) ∈ xml ∧ len = 3 ∧ ((ins = .invokestatic idx ∧ i = (28, 0, z, pc + 3, [])) ∨ (ins = .invokevirtual idx ∧ i = (28, 1, z, pc + 3, [])) ∨ (ins = .invokespecial idx ∧ i = (28, 2, z, pc + 3, []))) := by
  unfold xok at h
  split at h
  · simp only [Bool.and_eq_true, decide_eq_true_eq] at h
    rw [h.2] at h9
    simp at h9
  · simp only [Bool.and_eq_true, decide_eq_true_eq] at h
    rw [h.2] at h9
    simp at h9
  · simp only [Bool.and_eq_true, decide_eq_true_eq] at h
    rw [h.2] at h9
    simp at h9
  · simp only [Bool.and_eq_true, Bool.or_eq_true, decide_eq_true_eq, List.any_eq_true] at h
    obtain ⟨-, ⟨e9, -, -, -, h⟩ | ⟨e9, -, -, -, h⟩⟩ := h <;> rw [h] at h9 <;> simp at h9
  · simp only [Bool.and_eq_true, decide_eq_true_eq, List.any_eq_true] at h
    obtain ⟨-, e9, -, -, -, h⟩ := h
    rw [h] at h9
    simp at h9
  · simp only [Bool.and_eq_true, decide_eq_true_eq, List.any_eq_true] at h
    obtain ⟨-, e9, -, -, -, h⟩ := h
    rw [h] at h9
    simp at h9
  · simp only [Bool.and_eq_true, decide_eq_true_eq] at h
    rw [h.2] at h9
    simp at h9
  · simp only [Bool.and_eq_true, decide_eq_true_eq] at h
    rw [h.2] at h9
    simp at h9
  · simp only [Bool.and_eq_true, decide_eq_true_eq] at h
    rw [h.2] at h9
    simp at h9
  · simp only [Bool.and_eq_true, decide_eq_true_eq] at h
    rw [h.2] at h9
    simp at h9
  · simp only [Bool.and_eq_true, decide_eq_true_eq] at h
    rw [h.2] at h9
    simp at h9
  · simp only [Bool.and_eq_true, decide_eq_true_eq] at h
    rw [h.2] at h9
    simp at h9
  · simp only [Bool.and_eq_true, decide_eq_true_eq] at h
    rw [h.2] at h9
    simp at h9
  · simp only [Bool.and_eq_true, decide_eq_true_eq] at h
    rw [h.2] at h9
    simp at h9
  · simp only [Bool.and_eq_true, decide_eq_true_eq] at h
    rw [h.2] at h9
    simp at h9
  · simp only [Bool.and_eq_true, decide_eq_true_eq] at h
    rw [h.2] at h9
    simp at h9
  · simp only [Bool.and_eq_true, decide_eq_true_eq] at h
    rw [h.2] at h9
    simp at h9
  · simp only [Bool.and_eq_true, decide_eq_true_eq] at h
    rw [h.2] at h9
    simp at h9
  · simp only [Bool.and_eq_true, decide_eq_true_eq] at h
    rw [h.2] at h9
    simp at h9
  · simp only [Bool.and_eq_true, decide_eq_true_eq] at h
    rw [h.2] at h9
    simp at h9
  · simp only [Bool.and_eq_true, decide_eq_true_eq] at h
    rw [h.2] at h9
    simp at h9
  · simp only [Bool.and_eq_true, decide_eq_true_eq] at h
    rw [h.2] at h9
    simp at h9
  · simp only [Bool.and_eq_true, decide_eq_true_eq] at h
    rw [h.2] at h9
    simp at h9
  · simp only [Bool.and_eq_true, decide_eq_true_eq] at h
    rw [h.2] at h9
    simp at h9
  · simp only [Bool.and_eq_true, decide_eq_true_eq] at h
    rw [h.2] at h9
    simp at h9
  · simp only [Bool.and_eq_true, decide_eq_true_eq] at h
    rw [h.2] at h9
    simp at h9
  · simp only [Bool.and_eq_true, decide_eq_true_eq] at h
    rw [h.2] at h9
    simp at h9
  · simp only [Bool.and_eq_true, decide_eq_true_eq] at h
    rw [h.2] at h9
    simp at h9
  · simp only [Bool.and_eq_true, decide_eq_true_eq] at h
    rw [h.2] at h9
    simp at h9
  · simp only [Bool.and_eq_true, decide_eq_true_eq] at h
    rw [h.2] at h9
    simp at h9
  · simp only [Bool.and_eq_true, decide_eq_true_eq] at h
    rw [h.2] at h9
    simp at h9
  · simp only [Bool.and_eq_true, decide_eq_true_eq] at h
    rw [h.2] at h9
    simp at h9
  · simp only [Bool.and_eq_true, decide_eq_true_eq, List.any_eq_true] at h
    obtain ⟨-, e9, -, -, h⟩ := h
    split at h <;> simp only [decide_eq_true_eq] at h <;> first | (rw [h] at h9; simp at h9; done) | (rw [h.1] at h9; simp at h9; done)
  · simp only [Bool.and_eq_true, decide_eq_true_eq, List.any_eq_true] at h
    obtain ⟨-, e9, -, -, h⟩ := h
    split at h <;> simp only [decide_eq_true_eq] at h <;> first | (rw [h] at h9; simp at h9; done) | (rw [h.1] at h9; simp at h9; done)
  · simp only [Bool.and_eq_true, decide_eq_true_eq] at h
    rw [h.2] at h9
    simp at h9
  · simp only [Bool.and_eq_true, decide_eq_true_eq] at h
    rw [h.2] at h9
    simp at h9
  · simp only [Bool.and_eq_true, decide_eq_true_eq] at h
    rw [h.2] at h9
    simp at h9
  · simp only [Bool.and_eq_true, decide_eq_true_eq] at h
    rw [h.2] at h9
    simp at h9
  · simp only [Bool.and_eq_true, decide_eq_true_eq] at h
    rw [h.2] at h9
    simp at h9
  · simp only [Bool.and_eq_true, decide_eq_true_eq] at h
    rw [h.2.1] at h9
    simp at h9
  · simp only [Bool.and_eq_true, decide_eq_true_eq] at h
    rw [h.2.1] at h9
    simp at h9
  · simp only [Bool.and_eq_true, decide_eq_true_eq] at h
    rw [h.2.1] at h9
    simp at h9
  · simp only [decide_eq_true_eq] at h
    rw [h.1] at h9
    simp at h9
  · simp only [decide_eq_true_eq] at h
    rw [h.1] at h9
    simp at h9
  · rename_i idx
    simp only [Bool.and_eq_true, Bool.or_eq_true, decide_eq_true_eq, List.any_eq_true] at h
    obtain ⟨hl, (⟨⟨c9, i9, z9, n9, p9⟩, he, h1, h2, h⟩ | ⟨-, h⟩) | ⟨-, h⟩⟩ := h
    · dsimp only at h1 h2
      subst h1
      subst h2
      exact ⟨i9, z9, n9, p9, he, hl, Or.inr (Or.inl ⟨rfl, h⟩)⟩
    · rw [h] at h9
      simp at h9
    · rw [h] at h9
      simp at h9
  · rename_i idx
    simp only [Bool.and_eq_true, Bool.or_eq_true, decide_eq_true_eq, List.any_eq_true] at h
    obtain ⟨hl, ⟨⟨c9, i9, z9, n9, p9⟩, he, h1, h2, h⟩ | ⟨e9, -, -, -, -, h⟩⟩ := h
    · dsimp only at h1 h2
      subst h1
      subst h2
      exact ⟨i9, z9, n9, p9, he, hl, Or.inr (Or.inr ⟨rfl, h⟩)⟩
    · rw [h] at h9
      simp at h9
  · rename_i idx
    simp only [Bool.and_eq_true, Bool.or_eq_true, decide_eq_true_eq, List.any_eq_true] at h
    obtain ⟨hl, ⟨⟨c9, i9, z9, n9, p9⟩, he, h1, h2, h⟩ | ⟨e9, -, -, -, h8, h⟩⟩ := h
    · dsimp only at h1 h2
      subst h1
      subst h2
      exact ⟨i9, z9, n9, p9, he, hl, Or.inl ⟨rfl, h⟩⟩
    · rw [h] at h9
      dsimp only at h9
      omega
  · simp only [Bool.and_eq_true, decide_eq_true_eq] at h
    rw [h.2] at h9
    simp at h9
  · simp only [Bool.and_eq_true, decide_eq_true_eq] at h
    rw [h.2] at h9
    simp at h9
  · simp only [Bool.and_eq_true, decide_eq_true_eq] at h
    rw [h.2] at h9
    simp at h9
  · simp only [Bool.and_eq_true, decide_eq_true_eq] at h
    rw [h.2] at h9
    simp at h9
  · simp only [Bool.and_eq_true, decide_eq_true_eq] at h
    rw [h.2] at h9
    simp at h9
  · simp only [Bool.and_eq_true, decide_eq_true_eq] at h
    rw [h.2] at h9
    simp at h9
  · simp only [Bool.and_eq_true, decide_eq_true_eq] at h
    rw [h.2] at h9
    simp at h9
  · simp only [Bool.and_eq_true, decide_eq_true_eq] at h
    rw [h.2] at h9
    simp at h9
  · simp only [Bool.and_eq_true, decide_eq_true_eq, List.any_eq_true] at h
    obtain ⟨-, e9, -, -, -, h⟩ := h
    rw [h] at h9
    simp at h9
  · simp only [Bool.and_eq_true, decide_eq_true_eq] at h
    rw [h.2.1] at h9
    simp at h9
  · cases h
set_option maxHeartbeats 2000000 in
theorem xok_29 {y pc len : Nat} {ins : Instr} {i : xi} (h : xok y pc ins len i = true) (h9 : i.1 = 29) : len = 1 ∧ ((ins = .return_ ∧ i.2.2.1 = 0) ∨ (ins = .ireturn ∧ i.2.2.1 = 1) ∨ (ins = .lreturn ∧ i.2.2.1 = 2)) := by
  unfold xok at h
  split at h
  · simp only [Bool.and_eq_true, decide_eq_true_eq] at h
    rw [h.2] at h9
    simp at h9
  · simp only [Bool.and_eq_true, decide_eq_true_eq] at h
    rw [h.2] at h9
    simp at h9
  · simp only [Bool.and_eq_true, decide_eq_true_eq] at h
    rw [h.2] at h9
    simp at h9
  · simp only [Bool.and_eq_true, Bool.or_eq_true, decide_eq_true_eq, List.any_eq_true] at h
    obtain ⟨-, ⟨e9, -, -, -, h⟩ | ⟨e9, -, -, -, h⟩⟩ := h <;> rw [h] at h9 <;> simp at h9
  · simp only [Bool.and_eq_true, decide_eq_true_eq, List.any_eq_true] at h
    obtain ⟨-, e9, -, -, -, h⟩ := h
    rw [h] at h9
    simp at h9
  · simp only [Bool.and_eq_true, decide_eq_true_eq, List.any_eq_true] at h
    obtain ⟨-, e9, -, -, -, h⟩ := h
    rw [h] at h9
    simp at h9
  · simp only [Bool.and_eq_true, decide_eq_true_eq] at h
    rw [h.2] at h9
    simp at h9
  · simp only [Bool.and_eq_true, decide_eq_true_eq] at h
    rw [h.2] at h9
    simp at h9
  · simp only [Bool.and_eq_true, decide_eq_true_eq] at h
    rw [h.2] at h9
    simp at h9
  · simp only [Bool.and_eq_true, decide_eq_true_eq] at h
    rw [h.2] at h9
    simp at h9
  · simp only [Bool.and_eq_true, decide_eq_true_eq] at h
    rw [h.2] at h9
    simp at h9
  · simp only [Bool.and_eq_true, decide_eq_true_eq] at h
    rw [h.2] at h9
    simp at h9
  · simp only [Bool.and_eq_true, decide_eq_true_eq] at h
    rw [h.2] at h9
    simp at h9
  · simp only [Bool.and_eq_true, decide_eq_true_eq] at h
    rw [h.2] at h9
    simp at h9
  · simp only [Bool.and_eq_true, decide_eq_true_eq] at h
    rw [h.2] at h9
    simp at h9
  · simp only [Bool.and_eq_true, decide_eq_true_eq] at h
    rw [h.2] at h9
    simp at h9
  · simp only [Bool.and_eq_true, decide_eq_true_eq] at h
    rw [h.2] at h9
    simp at h9
  · simp only [Bool.and_eq_true, decide_eq_true_eq] at h
    rw [h.2] at h9
    simp at h9
  · simp only [Bool.and_eq_true, decide_eq_true_eq] at h
    rw [h.2] at h9
    simp at h9
  · simp only [Bool.and_eq_true, decide_eq_true_eq] at h
    rw [h.2] at h9
    simp at h9
  · simp only [Bool.and_eq_true, decide_eq_true_eq] at h
    rw [h.2] at h9
    simp at h9
  · simp only [Bool.and_eq_true, decide_eq_true_eq] at h
    rw [h.2] at h9
    simp at h9
  · simp only [Bool.and_eq_true, decide_eq_true_eq] at h
    rw [h.2] at h9
    simp at h9
  · simp only [Bool.and_eq_true, decide_eq_true_eq] at h
    rw [h.2] at h9
    simp at h9
  · simp only [Bool.and_eq_true, decide_eq_true_eq] at h
    rw [h.2] at h9
    simp at h9
  · simp only [Bool.and_eq_true, decide_eq_true_eq] at h
    rw [h.2] at h9
    simp at h9
  · simp only [Bool.and_eq_true, decide_eq_true_eq] at h
    rw [h.2] at h9
    simp at h9
  · simp only [Bool.and_eq_true, decide_eq_true_eq] at h
    rw [h.2] at h9
    simp at h9
  · simp only [Bool.and_eq_true, decide_eq_true_eq] at h
    rw [h.2] at h9
    simp at h9
  · simp only [Bool.and_eq_true, decide_eq_true_eq] at h
    rw [h.2] at h9
    simp at h9
  · simp only [Bool.and_eq_true, decide_eq_true_eq] at h
    rw [h.2] at h9
    simp at h9
  · simp only [Bool.and_eq_true, decide_eq_true_eq] at h
    rw [h.2] at h9
    simp at h9
  · simp only [Bool.and_eq_true, decide_eq_true_eq, List.any_eq_true] at h
    obtain ⟨-, e9, -, -, h⟩ := h
    split at h <;> simp only [decide_eq_true_eq] at h <;> first | (rw [h] at h9; simp at h9; done) | (rw [h.1] at h9; simp at h9; done)
  · simp only [Bool.and_eq_true, decide_eq_true_eq, List.any_eq_true] at h
    obtain ⟨-, e9, -, -, h⟩ := h
    split at h <;> simp only [decide_eq_true_eq] at h <;> first | (rw [h] at h9; simp at h9; done) | (rw [h.1] at h9; simp at h9; done)
  · simp only [Bool.and_eq_true, decide_eq_true_eq] at h
    rw [h.2] at h9
    simp at h9
  · simp only [Bool.and_eq_true, decide_eq_true_eq] at h
    rw [h.2] at h9
    simp at h9
  · simp only [Bool.and_eq_true, decide_eq_true_eq] at h
    rw [h.2] at h9
    simp at h9
  · simp only [Bool.and_eq_true, decide_eq_true_eq] at h
    rw [h.2] at h9
    simp at h9
  · simp only [Bool.and_eq_true, decide_eq_true_eq] at h
    rw [h.2] at h9
    simp at h9
  · simp only [Bool.and_eq_true, decide_eq_true_eq] at h
    rw [h.2.1] at h9
    simp at h9
  · simp only [Bool.and_eq_true, decide_eq_true_eq] at h
    rw [h.2.1] at h9
    simp at h9
  · simp only [Bool.and_eq_true, decide_eq_true_eq] at h
    rw [h.2.1] at h9
    simp at h9
  · simp only [decide_eq_true_eq] at h
    rw [h.1] at h9
    simp at h9
  · simp only [decide_eq_true_eq] at h
    rw [h.1] at h9
    simp at h9
  · simp only [Bool.and_eq_true, Bool.or_eq_true, decide_eq_true_eq, List.any_eq_true] at h
    obtain ⟨-, (⟨e9, -, -, -, h⟩ | ⟨-, h⟩) | ⟨-, h⟩⟩ := h <;> rw [h] at h9 <;> simp at h9
  · simp only [Bool.and_eq_true, Bool.or_eq_true, decide_eq_true_eq, List.any_eq_true] at h
    obtain ⟨-, ⟨e9, -, -, -, h⟩ | ⟨e9, -, -, -, -, h⟩⟩ := h <;> rw [h] at h9 <;> simp at h9
  · simp only [Bool.and_eq_true, Bool.or_eq_true, decide_eq_true_eq, List.any_eq_true] at h
    obtain ⟨-, ⟨e9, -, -, -, h⟩ | ⟨e9, -, -, -, h8, h⟩⟩ := h
    · rw [h] at h9
      simp at h9
    · rw [h] at h9
      dsimp only at h9
      omega
  · simp only [Bool.and_eq_true, decide_eq_true_eq] at h
    exact ⟨h.1, Or.inr (Or.inl ⟨rfl, by rw [h.2]⟩)⟩
  · simp only [Bool.and_eq_true, decide_eq_true_eq] at h
    exact ⟨h.1, Or.inl ⟨rfl, by rw [h.2]⟩⟩
  · simp only [Bool.and_eq_true, decide_eq_true_eq] at h
    exact ⟨h.1, Or.inr (Or.inr ⟨rfl, by rw [h.2]⟩)⟩
  · simp only [Bool.and_eq_true, decide_eq_true_eq] at h
    rw [h.2] at h9
    simp at h9
  · simp only [Bool.and_eq_true, decide_eq_true_eq] at h
    rw [h.2] at h9
    simp at h9
  · simp only [Bool.and_eq_true, decide_eq_true_eq] at h
    rw [h.2] at h9
    simp at h9
  · simp only [Bool.and_eq_true, decide_eq_true_eq] at h
    rw [h.2] at h9
    simp at h9
  · simp only [Bool.and_eq_true, decide_eq_true_eq] at h
    rw [h.2] at h9
    simp at h9
  · simp only [Bool.and_eq_true, decide_eq_true_eq, List.any_eq_true] at h
    obtain ⟨-, e9, -, -, -, h⟩ := h
    rw [h] at h9
    simp at h9
  · simp only [Bool.and_eq_true, decide_eq_true_eq] at h
    rw [h.2.1] at h9
    simp at h9
  · cases h
