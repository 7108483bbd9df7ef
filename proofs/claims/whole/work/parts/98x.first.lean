/-! the first memory -/
theorem kf_c : KF (kAnd (KN2 K2c)) := fun T c1 c2 c3 c4 c5 c6 c7 h1 h2 h3 h4 h5 => ⟨⟨.inl h1, fun t t1 t2 => .inl (h3 t t1 t2), fun a b a1 a2 a3 => .inl (h4 _ (by omega) (by omega)), .inl h2⟩, .inl h5⟩
theorem fM_ok : (List.range 124).all (fun a => Nat.blt (xsh a).1 10 || (List.range (xsh a).2).all (fun k => !(Nat.beq (xfk ((xsh a).1 - 10) k).1 3) || fM a k)) = true := by decide +kernel
theorem fM_at (a k : Nat) (h1 : a < 124) (h2 : 10 ≤ (xsh a).1) (h3 : k < (xsh a).2) (h4 : (xfk ((xsh a).1 - 10) k).1 = 3) : fM a k = true := by
  have h := List.all_eq_true.mp fM_ok a (List.mem_range.mpr h1)
  rw [Bool.or_eq_true] at h
  rcases h with h | h
  · have := Nat.blt_eq.mp h
    omega
  · have g := List.all_eq_true.mp h k (List.mem_range.mpr h3)
    rw [Bool.or_eq_true] at g
    rcases g with g | g
    · rw [h4] at g; exact absurd g (by decide)
    · exact g
section M98x
variable {xs : Int → Int} {D : xD}
theorem is_em (s : Nat) (h1 : D (s + 1) 11 = 0 ∧ D (s + 1) 12 = 0 ∧ D (s + 1) 15 = 0 ∧ D s 1 = 0 ∧ D s 3 = 0) (h2 : D (s + 1) 13 = 0) (h3 : ∀ p, 0 ≤ p → p < 8 → D (s + 8) p = 99 ∧ D (s + 9) p = 0 ∧ D (s + 13) p = -1) (h4 : ∀ k, 0 ≤ k → k < 208 → D (s + 17) k = 0 ∧ D (s + 18) k = 0) : IS D s emA := by
  have e1 : ∀ j, (j < 10 ∨ (18 ≤ j ∧ j < 176) ∨ 184 ≤ j) → emA j = 0 := fun j hj => by
    unfold emA
    rw [if_neg (by omega), if_neg (by omega)]
  have e0 : emA 0 = 0 := e1 0 (by decide)
  have e11 : emA 1 = 0 := e1 1 (by decide)
  have e6 : emA 6 = 0 := e1 6 (by decide)
  refine ⟨⟨?_, ?_, ?_, ?_, ?_⟩, ⟨?_, ?_, fun k k1 k2 => ?_⟩, fun d d1 d2 => by omega, fun k k1 k2 => by omega, fun p p1 p2 => ?_, fun d d1 d2 => by omega, fun c c1 c2 => by omega, fun k k1 k2 => ?_⟩
  · rw [h1.1, e0]
  · rw [h1.2.1, e11]
  · rw [h1.2.2.1, e1 4 (by decide)]
  · rw [h1.2.2.2.1, e1 5 (by decide)]
  · rw [h1.2.2.2.2, e6]
  · rw [h2]; decide
  · rw [h2]; decide
  · rw [h2, if_neg (by omega)]
    obtain ⟨m, rfl⟩ : ∃ m : Nat, k = m := ⟨k.toNat, by omega⟩
    rw [bit_eq _ m (by omega), show bI 0 m = false from b_0 m, if_neg (by decide)]
  · obtain ⟨a1, a2, a3⟩ := h3 p p1 p2
    refine ⟨?_, ?_, ?_⟩
    · rw [a1]; unfold emA; rw [if_pos (by omega)]
    · rw [a2, e1 _ (by omega)]
    · rw [a3]; unfold emA; rw [if_neg (by omega), if_pos (by omega)]
  · obtain ⟨a1, a2⟩ := h4 k k1 k2
    rw [a1, a2, e1 _ (by omega), e1 _ (by omega)]
    exact ⟨rfl, rfl⟩
set_option maxRecDepth 100000 in
theorem dM_1 : dM xs 1 1 = 0 ∧ dM xs 1 2 = -1 ∧ dM xs 1 3 = -1 := ⟨rfl, rfl, rfl⟩
set_option maxRecDepth 100000 in
theorem dM_2 (j : Int) : dM xs 2 j = 0 := rfl
set_option maxRecDepth 100000 in
theorem dM_99 (j : Int) : dM xs 99 j = 0 := rfl
set_option maxRecDepth 100000 in
theorem dM_95 : dM xs 95 4 = 0 ∧ dM xs 95 5 = -1 ∧ dM xs 95 6 = -1 ∧ dM xs 95 22 = -1 ∧ dM xs 95 23 = 0 ∧ dM xs 95 44 = -1 := ⟨rfl, rfl, rfl, rfl, rfl, rfl⟩
set_option maxRecDepth 100000 in
theorem dM_4 : dM xs 4 11 = 0 ∧ dM xs 4 12 = 0 ∧ dM xs 4 15 = 0 ∧ dM xs 3 1 = 0 ∧ dM xs 3 3 = 0 := ⟨rfl, rfl, rfl, rfl, rfl⟩
set_option maxRecDepth 100000 in
theorem dM_23 : dM xs 23 11 = 0 ∧ dM xs 23 12 = 0 ∧ dM xs 23 15 = 0 ∧ dM xs 22 1 = 0 ∧ dM xs 22 3 = 0 := ⟨rfl, rfl, rfl, rfl, rfl⟩
set_option maxRecDepth 100000 in
theorem dM_11 (p : Int) : dM xs 11 p = (if 11 = 11 ∧ 0 ≤ p ∧ p < ((8 : Nat) : Int) then 99 else 0) := rfl
set_option maxRecDepth 100000 in
theorem dM_16 (p : Int) : dM xs 16 p = (if 16 = 16 ∧ 0 ≤ p ∧ p < ((8 : Nat) : Int) then -1 else 0) := rfl
set_option maxRecDepth 100000 in
theorem dM_30 (p : Int) : dM xs 30 p = (if 30 = 30 ∧ 0 ≤ p ∧ p < ((8 : Nat) : Int) then 99 else 0) := rfl
set_option maxRecDepth 100000 in
theorem dM_35 (p : Int) : dM xs 35 p = (if 35 = 35 ∧ 0 ≤ p ∧ p < ((8 : Nat) : Int) then -1 else 0) := rfl
set_option maxRecDepth 100000 in
theorem dM_70 (p : Int) : dM xs 70 p = (if 70 = 70 ∧ 0 ≤ p ∧ p < ((13 : Nat) : Int) then -1 else 0) := rfl
set_option maxRecDepth 100000 in
theorem dM_0 (p : Int) : dM xs 0 p = xs p := rfl
set_option maxRecDepth 100000 in
theorem dM_z (p : Int) : dM xs 12 p = 0 ∧ dM xs 31 p = 0 ∧ dM xs 20 p = 0 ∧ dM xs 21 p = 0 ∧ dM xs 39 p = 0 ∧ dM xs 40 p = 0 ∧ dM xs 71 p = 0 := ⟨rfl, rfl, rfl, rfl, rfl, rfl, rfl⟩
set_option maxRecDepth 100000 in
theorem dM_k : dM xs 56 1 = 0 ∧ dM xs 56 9 = 0 ∧ dM xs 91 0 = 0 ∧ dM xs 85 5 = -1 ∧ dM xs 4 13 = 0 ∧ dM xs 23 13 = 0 := ⟨rfl, rfl, rfl, rfl, rfl, rfl⟩
/-- the first memory holds the invariant -/
theorem inv_first (h : ∀ b, b ≠ 96 → b ≠ 97 → D b = dM xs b) (he : ∀ j, 0 ≤ j → j < 640 → D 96 j = emA j ∧ D 97 j = emA j) : Inv (kAnd (KN2 K2c)) D := by
  have wf : WfA emA := wf_wx wx_em (by decide)
  have w6 : emA 0 ≤ 16 ∧ emA 1 ≤ 6 ∧ emA 6 ≤ 8 := by decide
  obtain ⟨b1, b2, b3⟩ := dM_1 (xs := xs)
  obtain ⟨c1, c2, c3, c4, c5, c6⟩ := dM_95 (xs := xs)
  obtain ⟨k1, k2, k3, k4, k5, k6⟩ := dM_k (xs := xs)
  refine ⟨⟨⟨?_, ?_, ?_, ?_, ?_⟩, fun j j1 j2 => ?_, ?_, ?_, ?_⟩, IS_cgA (is_em 3 ?_ ?_ (fun p p1 p2 => ?_) (fun k k1 k2 => ?_)) w6 (fun j hj => (he j hj.1 hj.2).1), Wf_cgA wf (fun j hj => (he j hj.1 hj.2).1), IS_cgA (is_em 22 ?_ ?_ (fun p p1 p2 => ?_) (fun k k1 k2 => ?_)) w6 (fun j hj => (he j hj.1 hj.2).2), Wf_cgA wf (fun j hj => (he j hj.1 hj.2).2), kf_c _ _ _ _ _ _ _ _ ?_ ?_ (fun j j1 j2 => ?_) (fun j j1 j2 => ?_) ?_, ?_⟩
  · rw [h 1 (by decide) (by decide), h 95 (by decide) (by decide), b1, c1]
  · rw [h 1 (by decide) (by decide), b1]; decide
  · rw [h 1 (by decide) (by decide), b1]; decide
  · rw [h 1 (by decide) (by decide), h 95 (by decide) (by decide), b2, c2]
  · rw [h 1 (by decide) (by decide), h 95 (by decide) (by decide), b3, c3]
  · rw [h 2 (by decide) (by decide), h 99 (by decide) (by decide), dM_2, dM_99]; decide
  · rw [h 95 (by decide) (by decide), c4]
  · rw [h 95 (by decide) (by decide), c5]
  · rw [h 95 (by decide) (by decide), c6]
  · simp only [Nat.reduceAdd]
    rw [h 4 (by decide) (by decide), h 3 (by decide) (by decide)]; exact dM_4
  · simp only [Nat.reduceAdd]
    rw [h 4 (by decide) (by decide), k5]
  · simp only [Nat.reduceAdd]
    rw [h 11 (by decide) (by decide), h 12 (by decide) (by decide), h 16 (by decide) (by decide), dM_11, dM_16, if_pos ⟨rfl, p1, by omega⟩, if_pos ⟨rfl, p1, by omega⟩]
    exact ⟨rfl, (dM_z p).1, rfl⟩
  · simp only [Nat.reduceAdd]
    rw [h 20 (by decide) (by decide), h 21 (by decide) (by decide)]
    exact ⟨(dM_z k).2.2.1, (dM_z k).2.2.2.1⟩
  · simp only [Nat.reduceAdd]
    rw [h 23 (by decide) (by decide), h 22 (by decide) (by decide)]; exact dM_23
  · simp only [Nat.reduceAdd]
    rw [h 23 (by decide) (by decide), k6]
  · simp only [Nat.reduceAdd]
    rw [h 30 (by decide) (by decide), h 31 (by decide) (by decide), h 35 (by decide) (by decide), dM_30, dM_35, if_pos ⟨rfl, p1, by omega⟩, if_pos ⟨rfl, p1, by omega⟩]
    exact ⟨rfl, (dM_z p).2.1, rfl⟩
  · simp only [Nat.reduceAdd]
    rw [h 39 (by decide) (by decide), h 40 (by decide) (by decide)]
    exact ⟨(dM_z k).2.2.2.2.1, (dM_z k).2.2.2.2.2.1⟩
  · rw [h 56 (by decide) (by decide), k1]
  · rw [h 56 (by decide) (by decide), k2]
  · rw [h 70 (by decide) (by decide), dM_70, if_pos ⟨rfl, j1, by omega⟩]
  · rw [h 71 (by decide) (by decide)]; exact (dM_z j).2.2.2.2.2.2
  · rw [h 91 (by decide) (by decide), k3]
  · rw [h 85 (by decide) (by decide), k4]
end M98x
/-- every call's answer is the reference's -/
theorem law_inv {L : Nat} (hL : L ≤ 4096) {D : xD} (hS : ∀ j, xinP (D 0 j)) (hI : Inv (kAnd (KN2 K2c)) D) : WP 124 xF1 (some L) 239 18 [some (.inr (.inr (some 0))), some (.inr (.inr (some 1))), some (.inr (.inr (some 95))), some (.inl 0)] [] D (fun v _ => v = some (.inl 1)) :=
  law_of (I := Inv (kAnd (KN2 K2c))) hL pair0 pair1 (pair2 kf_c) pair3 pair4 pair5 (pair6 kf_c) pair7 pair8 pair9 pair10 pair11 pair12 pair13 pair14 pair15 pair16 pair17 pair18 pair19 pair20 pair21 pair22 pair23 pair24 pair25 pair26 (pair27 kf_c) pair28 L 0 D (by omega) (by omega) (by omega) hS hI (fun _ => rfl)
