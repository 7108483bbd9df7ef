/-! texts: the class's clauses -/
def TS (D : xD) (A : Int → Int) : Prop :=
  (D 43 11 = A 0 ∧ D 43 12 = A 1) ∧
  ((0 ≤ D 43 13 ∧ D 43 13 < 65536) ∧ ∀ k : Nat, k < 32 → bI (D 43 13) k = decide ((k : Int) < A 0 ∧ A (30 + 7 * k + 6) = 1)) ∧
  (∀ k : Nat, k < 32 → bI (D 43 14) k = decide ((k : Int) < A 1 ∧ A (150 + 4 * k + 3) = 1)) ∧
  (∀ s, 0 ≤ s → s < A 0 → D 44 s = A (30 + 7 * s) ∧ D 45 s = A (30 + 7 * s + 1) ∧ D 46 s = A (30 + 7 * s + 2) ∧ D 47 s = A (30 + 7 * s + 3) ∧ D 48 s = A (30 + 7 * s + 4) ∧ D 49 s = A (30 + 7 * s + 5)) ∧
  (∀ p, 0 ≤ p → p < 8 → D 50 p = A (10 + p) ∧ D 51 p = A (18 + p)) ∧
  (∀ d, 0 ≤ d → d < A 1 → D 52 d = A (150 + 4 * d) ∧ D 53 d = A (150 + 4 * d + 1) ∧ D 54 d = A (150 + 4 * d + 2))
def rdI (D : xD) (t : Int → Int) (n : Int) (A : Int → Int) (h o : Int) : Prop := lxD D t n ∧ (D 42 7 = h ∧ D 42 8 = o) ∧ TS D A
def frR (D' D : xD) : Prop := (∀ a, (a < 42 ∨ 54 < a) → D' a = D a) ∧ D' 43 15 = D 43 15
def cOut (t : Int → Int) (n : Int) (R : paR) (D : xD) (Q : Option xv → xD → Prop) : Prop :=
  (R.1 ≠ 0 → ∀ D', frR D' D → D' 42 9 = R.1 → D' 42 10 = R.2.1 → Q (some (.inl 0)) D') ∧
  (R.1 = 0 → ∀ D', frR D' D → D' 42 9 = D 42 9 → D' 42 10 = D 42 10 → rdI D' t n R.2.2.1 R.2.2.2.1 R.2.2.2.2 → clT D' t n R.2.1 → Q (some (.inl 1)) D')
section M98s
variable {n p p0 q i j v w a b m c s h o h' o' f : Int} {k : Nat} {A A' : Int → Int} {t : Int → Int} {R : paR} {D D' D1 D2 : xD} {o1 : Option xv} {Q K : Option xv → xD → Prop}
theorem ts_cg (H : TS D A) (h1 : ∀ j, j ≠ 4 → A' j = A j) : TS D A' := by
  obtain ⟨t1, t2, t3, t4, t5, t6⟩ := H
  refine ⟨?_, ⟨t2.1, fun k hk => ?_⟩, fun k hk => ?_, fun s s1 s2 => ?_, fun p p1 p2 => ?_, fun d d1 d2 => ?_⟩
  · rw [h1 0 (by decide), h1 1 (by decide)]; exact t1
  · rw [h1 0 (by decide), h1 _ (by omega)]; exact t2.2 k hk
  · rw [h1 1 (by decide), h1 _ (by omega)]; exact t3 k hk
  · rw [h1 0 (by decide)] at s2
    rw [h1 _ (by omega), h1 _ (by omega), h1 _ (by omega), h1 _ (by omega), h1 _ (by omega), h1 _ (by omega)]; exact t4 s s1 s2
  · rw [h1 _ (by omega), h1 _ (by omega)]; exact t5 p p1 p2
  · rw [h1 1 (by decide)] at d2
    rw [h1 _ (by omega), h1 _ (by omega), h1 _ (by omega)]; exact t6 d d1 d2
theorem ts_fr (H : TS D A) (h : ∀ a, 43 ≤ a → a ≤ 54 → D' a = D a) : TS D' A := by
  unfold TS at H ⊢
  rw [h 43 (by decide) (by decide), h 44 (by decide) (by decide), h 45 (by decide) (by decide), h 46 (by decide) (by decide), h 47 (by decide) (by decide), h 48 (by decide) (by decide), h 49 (by decide) (by decide), h 50 (by decide) (by decide), h 51 (by decide) (by decide), h 52 (by decide) (by decide), h 53 (by decide) (by decide), h 54 (by decide) (by decide)]
  exact H
theorem ts_ho (H : TS D A) (hi : 0 ≤ i ∧ i < 8) (h : ∀ a, 43 ≤ a → a ≤ 54 → a ≠ 50 → D' a = D a) (h5 : ∀ j, D' 50 j = if j = i then v else D 50 j) : TS D' (fuI A (10 + i) v) := by
  obtain ⟨t1, t2, t3, t4, t5, t6⟩ := H
  have h1 : ∀ j, j ≠ 10 + i → fuI A (10 + i) v j = A j := fun j hj => fu_ne hj
  refine ⟨?_, ⟨?_, fun k hk => ?_⟩, fun k hk => ?_, fun s s1 s2 => ?_, fun p p1 p2 => ?_, fun d d1 d2 => ?_⟩
  · rw [h 43 (by decide) (by decide) (by decide), h1 0 (by omega), h1 1 (by omega)]; exact t1
  · rw [h 43 (by decide) (by decide) (by decide)]; exact t2.1
  · rw [h 43 (by decide) (by decide) (by decide), h1 0 (by omega), h1 _ (by omega)]; exact t2.2 k hk
  · rw [h 43 (by decide) (by decide) (by decide), h1 1 (by omega), h1 _ (by omega)]; exact t3 k hk
  · rw [h1 0 (by omega)] at s2
    rw [h 44 (by decide) (by decide) (by decide), h 45 (by decide) (by decide) (by decide), h 46 (by decide) (by decide) (by decide), h 47 (by decide) (by decide) (by decide), h 48 (by decide) (by decide) (by decide), h 49 (by decide) (by decide) (by decide), h1 _ (by omega), h1 _ (by omega), h1 _ (by omega), h1 _ (by omega), h1 _ (by omega), h1 _ (by omega)]; exact t4 s s1 s2
  · rw [h5, h 51 (by decide) (by decide) (by decide), h1 (18 + p) (by omega)]
    refine ⟨?_, (t5 p p1 p2).2⟩
    by_cases c : p = i
    · rw [if_pos c, c, fu_eq]
    · rw [if_neg c, h1 _ (by omega)]; exact (t5 p p1 p2).1
  · rw [h1 1 (by omega)] at d2
    rw [h 52 (by decide) (by decide) (by decide), h 53 (by decide) (by decide) (by decide), h 54 (by decide) (by decide) (by decide), h1 _ (by omega), h1 _ (by omega), h1 _ (by omega)]; exact t6 d d1 d2
theorem ts_sa (H : TS D A) (hi : 0 ≤ i ∧ i < 8) (h : ∀ a, 43 ≤ a → a ≤ 54 → a ≠ 51 → D' a = D a) (h5 : ∀ j, D' 51 j = if j = i then v else D 51 j) : TS D' (fuI A (18 + i) v) := by
  obtain ⟨t1, t2, t3, t4, t5, t6⟩ := H
  have h1 : ∀ j, j ≠ 18 + i → fuI A (18 + i) v j = A j := fun j hj => fu_ne hj
  refine ⟨?_, ⟨?_, fun k hk => ?_⟩, fun k hk => ?_, fun s s1 s2 => ?_, fun p p1 p2 => ?_, fun d d1 d2 => ?_⟩
  · rw [h 43 (by decide) (by decide) (by decide), h1 0 (by omega), h1 1 (by omega)]; exact t1
  · rw [h 43 (by decide) (by decide) (by decide)]; exact t2.1
  · rw [h 43 (by decide) (by decide) (by decide), h1 0 (by omega), h1 _ (by omega)]; exact t2.2 k hk
  · rw [h 43 (by decide) (by decide) (by decide), h1 1 (by omega), h1 _ (by omega)]; exact t3 k hk
  · rw [h1 0 (by omega)] at s2
    rw [h 44 (by decide) (by decide) (by decide), h 45 (by decide) (by decide) (by decide), h 46 (by decide) (by decide) (by decide), h 47 (by decide) (by decide) (by decide), h 48 (by decide) (by decide) (by decide), h 49 (by decide) (by decide) (by decide), h1 _ (by omega), h1 _ (by omega), h1 _ (by omega), h1 _ (by omega), h1 _ (by omega), h1 _ (by omega)]; exact t4 s s1 s2
  · rw [h5, h 50 (by decide) (by decide) (by decide), h1 (10 + p) (by omega)]
    refine ⟨(t5 p p1 p2).1, ?_⟩
    by_cases c : p = i
    · rw [if_pos c, c, fu_eq]
    · rw [if_neg c, h1 _ (by omega)]; exact (t5 p p1 p2).2
  · rw [h1 1 (by omega)] at d2
    rw [h 52 (by decide) (by decide) (by decide), h 53 (by decide) (by decide) (by decide), h 54 (by decide) (by decide) (by decide), h1 _ (by omega), h1 _ (by omega), h1 _ (by omega)]; exact t6 d d1 d2
theorem ts_st (H : TS D A) (hX : WfX A) (h16 : A 0 < 16) (h43 : ∀ j, j ≠ 11 → D' 43 j = D 43 j) (h11 : D' 43 11 = A 0 + 1) (h44 : ∀ j, D' 44 j = if j = A 0 then a else D 44 j) (h45 : ∀ j, D' 45 j = if j = A 0 then b else D 45 j) (h46 : ∀ j, D' 46 j = if j = A 0 then m else D 46 j) (h47 : ∀ j, D' 47 j = if j = A 0 then w else D 47 j) (h48 : ∀ j, D' 48 j = if j = A 0 then 0 else D 48 j) (h49 : ∀ j, D' 49 j = if j = A 0 then 12 else D 49 j) (h : ∀ a, 50 ≤ a → a ≤ 54 → D' a = D a) : TS D' (stA A a b m w) := by
  obtain ⟨t1, t2, t3, t4, t5, t6⟩ := H
  have x0 := hX.1
  obtain ⟨s0, s1', h1⟩ := st_at (A := A) (a := a) (b := b) (m := m) (w := w)
  obtain ⟨e0, e1, e2, e3, e4, e5, e6⟩ := s1' x0.1
  have f1 : stA A a b m w 1 = A 1 := h1 1 (by decide) (by omega)
  refine ⟨?_, ⟨?_, fun k hk => ?_⟩, fun k hk => ?_, fun s s1 s2 => ?_, fun p p1 p2 => ?_, fun d d1 d2 => ?_⟩
  · rw [h11, h43 12 (by decide), s0, f1]; exact ⟨rfl, t1.2⟩
  · rw [h43 13 (by decide)]; exact t2.1
  · rw [h43 13 (by decide), t2.2 k hk, s0, decide_eq_decide]
    by_cases c : (k : Int) = A 0
    · rw [c, e6]
      constructor <;> rintro ⟨y, z⟩ <;> omega
    · by_cases c2 : (k : Int) < A 0
      · rw [h1 _ (by omega) (by omega)]
        constructor <;> rintro ⟨y, z⟩ <;> exact ⟨by omega, z⟩
      · constructor <;> rintro ⟨y, z⟩ <;> omega
  · rw [h43 14 (by decide), t3 k hk, f1, decide_eq_decide]
    by_cases c : (k : Int) < A 1
    · rw [h1 _ (by omega) (by omega)]
    · constructor <;> rintro ⟨y, z⟩ <;> omega
  · rw [s0] at s2
    rw [h44, h45, h46, h47, h48, h49]
    by_cases c : s = A 0
    · rw [if_pos c, if_pos c, if_pos c, if_pos c, if_pos c, if_pos c, c, e0, e1, e2, e3, e4, e5]
      exact ⟨rfl, rfl, rfl, rfl, rfl, rfl⟩
    · rw [if_neg c, if_neg c, if_neg c, if_neg c, if_neg c, if_neg c, h1 _ (by omega) (by omega), h1 _ (by omega) (by omega), h1 _ (by omega) (by omega), h1 _ (by omega) (by omega), h1 _ (by omega) (by omega), h1 _ (by omega) (by omega)]
      exact t4 s s1 (by omega)
  · rw [h 50 (by decide) (by decide), h 51 (by decide) (by decide), h1 _ (by omega) (by omega), h1 _ (by omega) (by omega)]; exact t5 p p1 p2
  · rw [f1] at d2
    rw [h 52 (by decide) (by decide), h 53 (by decide) (by decide), h 54 (by decide) (by decide), h1 _ (by omega) (by omega), h1 _ (by omega) (by omega), h1 _ (by omega) (by omega)]; exact t6 d d1 d2
theorem ts_op (H : TS D A) (hX : WfX A) (hs : 0 ≤ s ∧ s < A 0) (h : ∀ a, 43 ≤ a → a ≤ 54 → a ≠ 48 → a ≠ 49 → D' a = D a) (h48 : ∀ j, D' 48 j = if j = s then v else D 48 j) (h49 : ∀ j, D' 49 j = if j = s then w else D 49 j) : TS D' (fuI (fuI A (30 + 7 * s + 4) v) (30 + 7 * s + 5) w) := by
  obtain ⟨t1, t2, t3, t4, t5, t6⟩ := H
  have x0 := hX.1
  have h1 : ∀ j, j ≠ 30 + 7 * s + 4 → j ≠ 30 + 7 * s + 5 → fuI (fuI A (30 + 7 * s + 4) v) (30 + 7 * s + 5) w j = A j := fun j j1 j2 => by rw [fu_ne j2, fu_ne j1]
  have e5 : fuI (fuI A (30 + 7 * s + 4) v) (30 + 7 * s + 5) w (30 + 7 * s + 5) = w := fu_eq
  have e4 : fuI (fuI A (30 + 7 * s + 4) v) (30 + 7 * s + 5) w (30 + 7 * s + 4) = v := by rw [fu_ne (by omega), fu_eq]
  refine ⟨?_, ⟨?_, fun k hk => ?_⟩, fun k hk => ?_, fun s' s1 s2 => ?_, fun p p1 p2 => ?_, fun d d1 d2 => ?_⟩
  · rw [h 43 (by decide) (by decide) (by decide) (by decide), h1 0 (by omega) (by omega), h1 1 (by omega) (by omega)]; exact t1
  · rw [h 43 (by decide) (by decide) (by decide) (by decide)]; exact t2.1
  · rw [h 43 (by decide) (by decide) (by decide) (by decide), h1 0 (by omega) (by omega), h1 _ (by omega) (by omega)]; exact t2.2 k hk
  · rw [h 43 (by decide) (by decide) (by decide) (by decide), h1 1 (by omega) (by omega), t3 k hk, decide_eq_decide]
    by_cases c : (k : Int) < A 1
    · rw [h1 _ (by omega) (by omega)]
    · constructor <;> rintro ⟨y, z⟩ <;> omega
  · rw [h1 0 (by omega) (by omega)] at s2
    obtain ⟨y1, y2, y3, y4, y5, y6⟩ := t4 s' s1 s2
    rw [h 44 (by decide) (by decide) (by decide) (by decide), h 45 (by decide) (by decide) (by decide) (by decide), h 46 (by decide) (by decide) (by decide) (by decide), h 47 (by decide) (by decide) (by decide) (by decide), h1 (30 + 7 * s') (by omega) (by omega), h1 (30 + 7 * s' + 1) (by omega) (by omega), h1 (30 + 7 * s' + 2) (by omega) (by omega), h1 (30 + 7 * s' + 3) (by omega) (by omega), h48, h49]
    refine ⟨y1, y2, y3, y4, ?_⟩
    by_cases c : s' = s
    · rw [if_pos c, if_pos c, c, e4, e5]; exact ⟨rfl, rfl⟩
    · rw [if_neg c, if_neg c, h1 _ (by omega) (by omega), h1 _ (by omega) (by omega)]; exact ⟨y5, y6⟩
  · rw [h 50 (by decide) (by decide) (by decide) (by decide), h 51 (by decide) (by decide) (by decide) (by decide), h1 _ (by omega) (by omega), h1 _ (by omega) (by omega)]; exact t5 p p1 p2
  · rw [h1 1 (by omega) (by omega)] at d2
    rw [h 52 (by decide) (by decide) (by decide) (by decide), h 53 (by decide) (by decide) (by decide) (by decide), h 54 (by decide) (by decide) (by decide) (by decide), h1 _ (by omega) (by omega), h1 _ (by omega) (by omega), h1 _ (by omega) (by omega)]; exact t6 d d1 d2
theorem ior_rg (h1 : 0 ≤ a ∧ a < 65536) (h2 : 0 ≤ b ∧ b < 65536) : 0 ≤ ior a b ∧ ior a b < 65536 := by
  unfold ior
  show 0 ≤ ((Int32.ofInt a).toBitVec ||| (Int32.ofInt b).toBitVec).toInt ∧ ((Int32.ofInt a).toBitVec ||| (Int32.ofInt b).toBitVec).toInt < 65536
  have e1 : (Int32.ofInt a).toBitVec.toNat = (a % 4294967296).toNat := BitVec.toNat_ofInt a
  have e2 : (Int32.ofInt b).toBitVec.toNat = (b % 4294967296).toNat := BitVec.toNat_ofInt b
  have e3 : ((Int32.ofInt a).toBitVec ||| (Int32.ofInt b).toBitVec).toNat = a.toNat ||| b.toNat := by
    rw [BitVec.toNat_or, e1, e2, show (a % 4294967296).toNat = a.toNat by omega, show (b % 4294967296).toNat = b.toNat by omega]
  have p2 : (2 : Nat) ^ 16 = 65536 := by decide
  have lt : a.toNat ||| b.toNat < 2 ^ 16 := Nat.or_lt_two_pow (by rw [p2]; omega) (by rw [p2]; omega)
  rw [p2] at lt
  rw [BitVec.toInt_eq_toNat_of_lt (by rw [e3]; omega), e3]
  omega
theorem ishl_rg : ∀ v : Int, 0 ≤ v → v < 16 → 0 ≤ ishl 1 v ∧ ishl 1 v < 65536 := by
  have key : ∀ v : Nat, v < 16 → 0 ≤ ishl 1 (v : Int) ∧ ishl 1 (v : Int) < 65536 := by decide +kernel
  intro v h1 h2
  have := key v.toNat (by omega)
  rw [show ((v.toNat : Nat) : Int) = v by omega] at this
  exact this
theorem bI_add {M : Int} (hs : 0 ≤ s ∧ s < 16) (hk : k < 32) : bI (ior M (ishl 1 s)) k = (bI M k || decide ((k : Int) = s)) := by
  rw [bI_ior, bI_sh (by omega) hk]
theorem ts_tr (H : TS D A) (hX : WfX A) (hs : 0 ≤ s ∧ s < A 0) (h : ∀ a, 44 ≤ a → a ≤ 54 → D' a = D a) (h43 : ∀ j, j ≠ 13 → D' 43 j = D 43 j) (h13 : D' 43 13 = ior (D 43 13) (ishl 1 s)) : TS D' (fuI (fuI A (30 + 7 * s + 6) 1) 3 w) := by
  obtain ⟨t1, t2, t3, t4, t5, t6⟩ := H
  have x0 := hX.1
  have h1 : ∀ j, j ≠ 30 + 7 * s + 6 → j ≠ 3 → fuI (fuI A (30 + 7 * s + 6) 1) 3 w j = A j := fun j j1 j2 => by rw [fu_ne j2, fu_ne j1]
  have e6 : fuI (fuI A (30 + 7 * s + 6) 1) 3 w (30 + 7 * s + 6) = 1 := by rw [fu_ne (by omega), fu_eq]
  refine ⟨?_, ⟨?_, fun k hk => ?_⟩, fun k hk => ?_, fun s' s1 s2 => ?_, fun p p1 p2 => ?_, fun d d1 d2 => ?_⟩
  · rw [h43 11 (by decide), h43 12 (by decide), h1 0 (by omega) (by omega), h1 1 (by omega) (by omega)]; exact t1
  · rw [h13]; exact ior_rg t2.1 (ishl_rg s hs.1 (by omega))
  · rw [h13, bI_add (by omega) hk, t2.2 k hk, h1 0 (by omega) (by omega)]
    by_cases c : (k : Int) = s
    · rw [c, e6, decide_eq_true (show s = s from rfl), Bool.or_true, decide_eq_true ⟨hs.2, rfl⟩]
    · rw [decide_eq_false c, Bool.or_false, h1 _ (by omega) (by omega)]
  · rw [h43 14 (by decide), h1 1 (by omega) (by omega), t3 k hk, decide_eq_decide]
    by_cases c : (k : Int) < A 1
    · rw [h1 _ (by omega) (by omega)]
    · constructor <;> rintro ⟨y, z⟩ <;> omega
  · rw [h1 0 (by omega) (by omega)] at s2
    rw [h 44 (by decide) (by decide), h 45 (by decide) (by decide), h 46 (by decide) (by decide), h 47 (by decide) (by decide), h 48 (by decide) (by decide), h 49 (by decide) (by decide), h1 _ (by omega) (by omega), h1 _ (by omega) (by omega), h1 _ (by omega) (by omega), h1 _ (by omega) (by omega), h1 _ (by omega) (by omega), h1 _ (by omega) (by omega)]; exact t4 s' s1 s2
  · rw [h 50 (by decide) (by decide), h 51 (by decide) (by decide), h1 _ (by omega) (by omega), h1 _ (by omega) (by omega)]; exact t5 p p1 p2
  · rw [h1 1 (by omega) (by omega)] at d2
    rw [h 52 (by decide) (by decide), h 53 (by decide) (by decide), h 54 (by decide) (by decide), h1 _ (by omega) (by omega), h1 _ (by omega) (by omega), h1 _ (by omega) (by omega)]; exact t6 d d1 d2
theorem ts_do (H : TS D A) (hX : WfX A) (h6 : A 1 < 6) (h43 : ∀ j, j ≠ 12 → D' 43 j = D 43 j) (h12 : D' 43 12 = A 1 + 1) (h52 : ∀ j, D' 52 j = if j = A 1 then a else D 52 j) (h53 : ∀ j, D' 53 j = if j = A 1 then m else D 53 j) (h54 : ∀ j, D' 54 j = if j = A 1 then v else D 54 j) (h : ∀ a, 44 ≤ a → a ≤ 51 → D' a = D a) : TS D' (doA A a m v) := by
  obtain ⟨t1, t2, t3, t4, t5, t6⟩ := H
  have x0 := hX.1
  obtain ⟨e1, e2, ⟨ea, em, ev⟩, h1⟩ := do_at (A := A) (a := a) (m := m) (v := v) (by omega)
  have f0 : doA A a m v 0 = A 0 := h1 0 (by decide) (by decide) (by omega)
  have z0 := hX.2.2.2.1 (A 1) (by omega) h6
  refine ⟨?_, ⟨?_, fun k hk => ?_⟩, fun k hk => ?_, fun s s1 s2 => ?_, fun p p1 p2 => ?_, fun d d1 d2 => ?_⟩
  · rw [h12, h43 11 (by decide), e1, f0]; exact ⟨t1.1, rfl⟩
  · rw [h43 13 (by decide)]; exact t2.1
  · rw [h43 13 (by decide), t2.2 k hk, f0, decide_eq_decide]
    by_cases c : (k : Int) < A 0
    · rw [h1 _ (by omega) (by omega) (by omega)]
    · constructor <;> rintro ⟨y, z⟩ <;> omega
  · rw [h43 14 (by decide), t3 k hk, e1, decide_eq_decide, h1 _ (by omega) (by omega) (by omega)]
    by_cases c : (k : Int) = A 1
    · rw [c, z0]
      constructor <;> rintro ⟨y, z⟩ <;> omega
    · constructor <;> rintro ⟨y, z⟩ <;> exact ⟨by omega, z⟩
  · rw [f0] at s2
    rw [h 44 (by decide) (by decide), h 45 (by decide) (by decide), h 46 (by decide) (by decide), h 47 (by decide) (by decide), h 48 (by decide) (by decide), h 49 (by decide) (by decide), h1 _ (by omega) (by omega) (by omega), h1 _ (by omega) (by omega) (by omega), h1 _ (by omega) (by omega) (by omega), h1 _ (by omega) (by omega) (by omega), h1 _ (by omega) (by omega) (by omega), h1 _ (by omega) (by omega) (by omega)]; exact t4 s s1 s2
  · rw [h 50 (by decide) (by decide), h 51 (by decide) (by decide), h1 _ (by omega) (by omega) (by omega), h1 _ (by omega) (by omega) (by omega)]; exact t5 p p1 p2
  · rw [e1] at d2
    rw [h52, h53, h54]
    by_cases c : d = A 1
    · rw [if_pos c, if_pos c, if_pos c, c, ea, em, ev]; exact ⟨rfl, rfl, rfl⟩
    · rw [if_neg c, if_neg c, if_neg c, h1 _ (by omega) (by omega) (by omega), h1 _ (by omega) (by omega) (by omega), h1 _ (by omega) (by omega) (by omega)]
      exact t6 d d1 (by omega)
theorem ts_sl (H : TS D A) (hX : WfX A) (hs : 0 ≤ s ∧ s < A 1) (h : ∀ a, 44 ≤ a → a ≤ 54 → D' a = D a) (h43 : ∀ j, j ≠ 14 → D' 43 j = D 43 j) (h14 : D' 43 14 = ior (D 43 14) (ishl 1 s)) : TS D' (fuI (fuI A (150 + 4 * s + 3) 1) 7 w) := by
  obtain ⟨t1, t2, t3, t4, t5, t6⟩ := H
  have x0 := hX.1
  have h1 : ∀ j, j ≠ 150 + 4 * s + 3 → j ≠ 7 → fuI (fuI A (150 + 4 * s + 3) 1) 7 w j = A j := fun j j1 j2 => by rw [fu_ne j2, fu_ne j1]
  have e6 : fuI (fuI A (150 + 4 * s + 3) 1) 7 w (150 + 4 * s + 3) = 1 := by rw [fu_ne (by omega), fu_eq]
  refine ⟨?_, ⟨?_, fun k hk => ?_⟩, fun k hk => ?_, fun s' s1 s2 => ?_, fun p p1 p2 => ?_, fun d d1 d2 => ?_⟩
  · rw [h43 11 (by decide), h43 12 (by decide), h1 0 (by omega) (by omega), h1 1 (by omega) (by omega)]; exact t1
  · rw [h43 13 (by decide)]; exact t2.1
  · rw [h43 13 (by decide), h1 0 (by omega) (by omega), t2.2 k hk, decide_eq_decide]
    by_cases c : (k : Int) < A 0
    · rw [h1 _ (by omega) (by omega)]
    · constructor <;> rintro ⟨y, z⟩ <;> omega
  · rw [h14, bI_add (by omega) hk, t3 k hk, h1 1 (by omega) (by omega)]
    by_cases c : (k : Int) = s
    · rw [c, e6, decide_eq_true (show s = s from rfl), Bool.or_true, decide_eq_true ⟨hs.2, rfl⟩]
    · rw [decide_eq_false c, Bool.or_false, h1 _ (by omega) (by omega)]
  · rw [h1 0 (by omega) (by omega)] at s2
    rw [h 44 (by decide) (by decide), h 45 (by decide) (by decide), h 46 (by decide) (by decide), h 47 (by decide) (by decide), h 48 (by decide) (by decide), h 49 (by decide) (by decide), h1 _ (by omega) (by omega), h1 _ (by omega) (by omega), h1 _ (by omega) (by omega), h1 _ (by omega) (by omega), h1 _ (by omega) (by omega), h1 _ (by omega) (by omega)]; exact t4 s' s1 s2
  · rw [h 50 (by decide) (by decide), h 51 (by decide) (by decide), h1 _ (by omega) (by omega), h1 _ (by omega) (by omega)]; exact t5 p p1 p2
  · rw [h1 1 (by omega) (by omega)] at d2
    rw [h 52 (by decide) (by decide), h 53 (by decide) (by decide), h 54 (by decide) (by decide), h1 _ (by omega) (by omega), h1 _ (by omega) (by omega), h1 _ (by omega) (by omega)]; exact t6 d d1 d2
theorem c_bad (hq : cOut t n (enX t n R) D Q) (e : R = bdF t n f p A h o) (hf : f ≠ 0) (hfr : frR D' D) (h9 : D' 42 9 = f) (h10 : D' 42 10 = tkB t n p) : Q (some (.inl 0)) D' := by
  subst e
  have e : enX t n (bdF t n f p A h o) = bdF t n f p A h o := by unfold enX; rw [if_neg (show ¬ (bdF t n f p A h o).1 = 0 from hf)]
  rw [e] at hq
  exact hq.1 hf D' hfr h9 h10
theorem c_end (hT : txT t n) (hq : cOut t n (enX t n R) D Q) (e : R = (0, p, A, h, o)) (hr : rdI D1 t n A h o) (hfr : frR D1 D) (h9 : D1 42 9 = D 42 9) (h10 : D1 42 10 = D 42 10) (h5 : D1 42 5 = p) (hp : 0 ≤ p ∧ p ≤ n) (k0 : ∀ D', Q (some (.inl 0)) D' → K (some (.inl 0)) D') (k1 : ∀ D', Q (some (.inl 1)) D' → K (some (.inl 1)) D') : WP 124 xF1 none 67 0 [some (.inr (.inr (some 42)))] [] D1 K := by
  subst e
  refine m67 hT hr.1 h5 hp (fun c D' f1 f2 f3 => ?_) (fun c D' f1 f2 => ?_)
  · have e : enX t n ((0, p, A, h, o) : paR) = bdF t n 1 p A h o := by unfold enX; rw [if_pos rfl, if_neg c]
    rw [e] at hq
    exact k0 _ (hq.1 (show (1 : Int) ≠ 0 by decide) D' ⟨fun a ha => by rw [f1 a (by omega)]; exact hfr.1 a ha, by rw [f1 43 (by decide)]; exact hfr.2⟩ f2 f3)
  · have e : enX t n ((0, p, A, h, o) : paR) = (0, tkE t n p, fuI A 4 (A 4 + 1), h, o) := by unfold enX; rw [if_pos rfl, if_pos c]
    rw [e] at hq
    refine k1 _ (hq.2 rfl D' ⟨fun a ha => by rw [f1.1 a (by omega)]; exact hfr.1 a ha, by rw [f1.1 43 (by decide)]; exact hfr.2⟩ (by rw [f1.2 9 (by decide) (by decide) (by decide) (by decide)]; exact h9) (by rw [f1.2 10 (by decide) (by decide) (by decide) (by decide)]; exact h10) ⟨⟨?_, fun j j1 j2 => ?_⟩, ⟨?_, ?_⟩, ts_cg (ts_fr hr.2.2 (fun a a1 a2 => f1.1 a (by omega))) (fun j hj => fu_ne hj)⟩ f2)
    · rw [f1.2 2 (by decide) (by decide) (by decide) (by decide)]; exact hr.1.1
    · rw [f1.1 55 (by decide)]; exact hr.1.2 j j1 j2
    · rw [f1.2 7 (by decide) (by decide) (by decide) (by decide)]; exact hr.2.1.1
    · rw [f1.2 8 (by decide) (by decide) (by decide) (by decide)]; exact hr.2.1.2
theorem lx_f (hl : lxD D t n) (h : f42 D' D) : lxD D' t n := ⟨by rw [h.2 2 (by decide) (by decide) (by decide) (by decide)]; exact hl.1, fun j j1 j2 => by rw [h.1 55 (by decide)]; exact hl.2 j j1 j2⟩
theorem f4_tr (h1 : f42 D2 D1) (h2 : f42 D1 D) : f42 D2 D := ⟨fun a ha => by rw [h1.1 a ha, h2.1 a ha], fun j j1 j2 j3 j4 => by rw [h1.2 j j1 j2 j3 j4, h2.2 j j1 j2 j3 j4]⟩
/-- what stays while a clause is read -/
def mid (D' D : xD) (t : Int → Int) (n : Int) (h o : Int) : Prop := lxD D' t n ∧ (D' 42 7 = h ∧ D' 42 8 = o ∧ D' 42 9 = D 42 9 ∧ D' 42 10 = D 42 10) ∧ frR D' D
theorem mid_0 (hr : rdI D t n A h o) : mid D D t n h o := ⟨hr.1, ⟨hr.2.1.1, hr.2.1.2, rfl, rfl⟩, fun _ _ => rfl, rfl⟩
theorem mid_f (hm : mid D1 D t n h o) (hf : f42 D' D1) : mid D' D t n h o := ⟨lx_f hm.1 hf, ⟨by rw [hf.2 7 (by decide) (by decide) (by decide) (by decide)]; exact hm.2.1.1, by rw [hf.2 8 (by decide) (by decide) (by decide) (by decide)]; exact hm.2.1.2.1, by rw [hf.2 9 (by decide) (by decide) (by decide) (by decide)]; exact hm.2.1.2.2.1, by rw [hf.2 10 (by decide) (by decide) (by decide) (by decide)]; exact hm.2.1.2.2.2⟩, fun a ha => by rw [hf.1 a (by omega)]; exact hm.2.2.1 a ha, by rw [hf.1 43 (by decide)]; exact hm.2.2.2⟩
theorem mid_u {x : Nat} (hm : mid D1 D t n h o) (hx : 43 ≤ x ∧ x ≤ 54) (h15 : x = 43 → i ≠ 15) : mid (xup D1 x i v) D t n h o := ⟨⟨by rw [up_ne (by omega)]; exact hm.1.1, fun j j1 j2 => by rw [up_ne (by omega)]; exact hm.1.2 j j1 j2⟩, ⟨by rw [up_ne (by omega)]; exact hm.2.1.1, by rw [up_ne (by omega)]; exact hm.2.1.2.1, by rw [up_ne (by omega)]; exact hm.2.1.2.2.1, by rw [up_ne (by omega)]; exact hm.2.1.2.2.2⟩, fun a ha => by rw [up_ne (by omega)]; exact hm.2.2.1 a ha, by
  by_cases c : x = 43
  · subst c; rw [up_ne2 (fun z => h15 rfl z.symm)]; exact hm.2.2.2
  · rw [up_ne (fun z => c z.symm)]; exact hm.2.2.2⟩
theorem mid_b (hm : mid D1 D t n h o) (hf : ∀ a, a ≠ 42 → D' a = D1 a) : frR D' D := ⟨fun a ha => by rw [hf a (by omega)]; exact hm.2.2.1 a ha, by rw [hf 43 (by decide)]; exact hm.2.2.2⟩
theorem e_bad (hm : mid D1 D t n h o) (h4 : D1 42 4 = w) : frR (xup (xup D1 42 9 f) 42 10 (D1 42 4)) D ∧ xup (xup D1 42 9 f) 42 10 (D1 42 4) 42 9 = f ∧ xup (xup D1 42 9 f) 42 10 (D1 42 4) 42 10 = w := ⟨mid_b hm (fun a ha => by rw [up_ne ha, up_ne ha]), by rw [up_ne2 (by decide), up_eq], by rw [up_eq, h4]⟩
theorem m68 (hT : txT t n) (hr : rdI D t n A h o) (h5 : D 42 5 = p) (hp : 0 ≤ p ∧ p ≤ n) (hq : cOut t n (enX t n (hoF t n A h o p)) D Q) : WP 124 xF1 none 68 0 [some (.inr (.inr (some 42))), o1] [] D Q := by
  have p1 := tk_le (t := t) hp.2
  have p2 := tk_le (t := t) p1.1
  have M0 := mid_0 hr
  rw [seg68_0 (ha0 := ho42)]
  refine m65 hT M0.1 h5 hp (fun c D' f1 f2 f3 => ?_) (fun c D1 f1 f2 f3 f4 => ?_)
  · simp only [Option.toList_some, Option.toList_none, List.cons_append, List.nil_append, Nat.reduceAdd]
    rw [seg68_4 (ha0 := ho42), brF (by decide)]
    exact c_bad hq (by unfold hoF; rw [if_pos c]) (by decide) (mid_b M0 f1) f2 f3
  simp only [Option.toList_some, Option.toList_none, List.cons_append, List.nil_append, Nat.reduceAdd]
  have M1 := mid_f M0 f1
  have pr := pl_rg c
  rw [seg68_4 (ha0 := ho42), brT (by decide), M1.2.1.1, f4]
  by_cases c2 : iand (ishr h (plF t n p)) 1 = 1
  · rw [brF (fun z => z c2), m62]
    simp only [Option.toList_some, Option.toList_none, List.cons_append, List.nil_append, Nat.reduceAdd]
    rw [seg68_31 (ha0 := ho42)]
    obtain ⟨b1, b2, b3⟩ := e_bad (f := 3) M1 f2
    exact ⟨.inl rfl, c_bad hq (by unfold hoF; rw [if_neg (by omega), if_pos c2]) (by decide) b1 b2 b3⟩
  rw [brT c2]
  refine m66 hT M1.1 f3 ⟨by omega, p1.1⟩ (fun c3 D' g1 g2 g3 => ?_) (fun c3 D2 g1 g2 g3 g4 g5 => ?_)
  · simp only [Option.toList_some, Option.toList_none, List.cons_append, List.nil_append, Nat.reduceAdd]
    rw [seg68_39 (ha0 := ho42), brF (by decide)]
    exact c_bad hq (by unfold hoF; rw [if_neg (by omega), if_neg c2, if_pos c3]) c3 (mid_b M1 g1) g2 g3
  simp only [Option.toList_some, Option.toList_none, List.cons_append, List.nil_append, Nat.reduceAdd]
  have M2 := mid_f M1 g1
  rw [seg68_39 (ha0 := ho42), brT (by decide), cnB (by omega)]
  simp only [Option.toList_some, Option.toList_none, List.cons_append, List.nil_append, Nat.reduceAdd]
  rw [g4, M2.2.1.1]
  refine c_end hT hq (by unfold hoF; rw [if_neg (by omega), if_neg c2, if_neg (fun z => z c3)]) ⟨⟨?_, fun j j1 j2 => ?_⟩, ⟨?_, ?_⟩, ts_ho (D := D) hr.2.2 (by omega) (fun a a1 a2 a3 => ?_) (fun j => ?_)⟩ ⟨fun a ha => ?_, ?_⟩ ?_ ?_ ?_ ⟨by omega, p2.1⟩ (fun D' z => by simp only [Option.toList_some, Option.toList_none, List.cons_append, List.nil_append, Nat.reduceAdd]; rw [seg68_73 (ha0 := ho42)]; exact ⟨.inl rfl, z⟩) (fun D' z => by simp only [Option.toList_some, Option.toList_none, List.cons_append, List.nil_append, Nat.reduceAdd]; rw [seg68_73 (ha0 := ho42)]; exact ⟨.inr rfl, z⟩)
  · rw [up_ne (by decide), up_ne2 (by decide)]; exact M2.1.1
  · rw [up_ne (by decide), up_ne (by decide)]; exact M2.1.2 j j1 j2
  · rw [up_ne (by decide), up_eq]
  · rw [up_ne (by decide), up_ne2 (by decide)]; exact M2.2.1.2.1
  · rw [up_ne a3, up_ne (by omega), g1.1 a (by omega), f1.1 a (by omega)]
  · rw [up_at, up_ne (by decide), g1.1 50 (by decide), f1.1 50 (by decide)]
  · rw [up_ne (by omega), up_ne (by omega)]; exact M2.2.2.1 a ha
  · rw [up_ne (by decide), up_ne (by decide)]; exact M2.2.2.2
  · rw [up_ne (by decide), up_ne2 (by decide)]; exact M2.2.1.2.2.1
  · rw [up_ne (by decide), up_ne2 (by decide)]; exact M2.2.1.2.2.2
  · rw [up_ne (by decide), up_ne2 (by decide)]; exact g3
theorem m73 (hT : txT t n) (hX : WfX A) (hr : rdI D t n A h o) (h5 : D 42 5 = p) (hp : 0 ≤ p ∧ p ≤ n) (hq : cOut t n (enX t n (saF t n A h o p)) D Q) : WP 124 xF1 none 73 0 [some (.inr (.inr (some 42))), o1] [] D Q := by
  have p1 := tk_le (t := t) hp.2
  have p2 := tk_le (t := t) p1.1
  have M0 := mid_0 hr
  rw [seg73_0 (ha0 := ho42)]
  refine m65 hT M0.1 h5 hp (fun c D' f1 f2 f3 => ?_) (fun c D1 f1 f2 f3 f4 => ?_)
  · simp only [Option.toList_some, Option.toList_none, List.cons_append, List.nil_append, Nat.reduceAdd]
    rw [seg73_4 (ha0 := ho42), brF (by decide)]
    exact c_bad hq (by unfold saF; rw [if_pos c]) (by decide) (mid_b M0 f1) f2 f3
  simp only [Option.toList_some, Option.toList_none, List.cons_append, List.nil_append, Nat.reduceAdd]
  have M1 := mid_f M0 f1
  have pr := pl_rg c
  have e51 : D1 51 (plF t n p) = A (18 + plF t n p) := by rw [f1.1 51 (by decide)]; exact (hr.2.2.2.2.2.2.1 _ c (by omega)).2
  rw [seg73_4 (ha0 := ho42), brT (by decide), f4, cnB (by omega)]
  simp only [Option.toList_some, Option.toList_none, List.cons_append, List.nil_append, Nat.reduceAdd]
  rw [e51]
  by_cases c2 : 0 < A (18 + plF t n p)
  · rw [brF (by omega), m62]
    simp only [Option.toList_some, Option.toList_none, List.cons_append, List.nil_append, Nat.reduceAdd]
    rw [seg73_31 (ha0 := ho42)]
    obtain ⟨b1, b2, b3⟩ := e_bad (f := 3) M1 f2
    exact ⟨.inl rfl, c_bad hq (by unfold saF; rw [if_neg (by omega), if_pos c2]) (by decide) b1 b2 b3⟩
  rw [brT (by omega)]
  refine m66 hT M1.1 f3 ⟨by omega, p1.1⟩ (fun c3 D' g1 g2 g3 => ?_) (fun c3 D2 g1 g2 g3 g4 g5 => ?_)
  · simp only [Option.toList_some, Option.toList_none, List.cons_append, List.nil_append, Nat.reduceAdd]
    rw [seg73_39 (ha0 := ho42), brF (by decide)]
    exact c_bad hq (by unfold saF; rw [if_neg (by omega), if_neg c2, if_pos c3]) c3 (mid_b M1 g1) g2 g3
  simp only [Option.toList_some, Option.toList_none, List.cons_append, List.nil_append, Nat.reduceAdd]
  have M2 := mid_f M1 g1
  rw [seg73_39 (ha0 := ho42), brT (by decide), cnB (by omega)]
  simp only [Option.toList_some, Option.toList_none, List.cons_append, List.nil_append, Nat.reduceAdd]
  rw [g4]
  have M3 := mid_u (x := 51) (i := plF t n p) (v := tkV t n (tkE t n p)) M2 (by decide) (fun z => by omega)
  refine c_end hT hq (by unfold saF; rw [if_neg (by omega), if_neg c2, if_neg (fun z => z c3)]) ⟨M3.1, ⟨M3.2.1.1, M3.2.1.2.1⟩, ts_sa (D := D) hr.2.2 (by omega) (fun a a1 a2 a3 => ?_) (fun j => ?_)⟩ M3.2.2 M3.2.1.2.2.1 M3.2.1.2.2.2 ?_ ⟨by omega, p2.1⟩ (fun D' z => by simp only [Option.toList_some, Option.toList_none, List.cons_append, List.nil_append, Nat.reduceAdd]; rw [seg73_61 (ha0 := ho42)]; exact ⟨.inl rfl, z⟩) (fun D' z => by simp only [Option.toList_some, Option.toList_none, List.cons_append, List.nil_append, Nat.reduceAdd]; rw [seg73_61 (ha0 := ho42)]; exact ⟨.inr rfl, z⟩)
  · rw [up_ne a3, g1.1 a (by omega), f1.1 a (by omega)]
  · rw [up_at, g1.1 51 (by decide), f1.1 51 (by decide)]
  · rw [up_ne (by decide)]; exact g3
theorem m69 (hT : txT t n) (hX : WfX A) (hr : rdI D t n A h o) (hc : clT D t n p0) (hp0 : 0 ≤ p0 ∧ p0 ≤ n) (hq : cOut t n (if 16 ≤ A 0 then bdF t n 4 p0 A h o else enX t n (stF t n A h o (tkE t n p0))) D Q) : WP 124 xF1 none 69 0 [some (.inr (.inr (some 42))), o1] [] D Q := by
  have q0 := tk_le (t := t) hp0.2
  obtain ⟨p, hpe⟩ : ∃ p, p = tkE t n p0 := ⟨_, rfl⟩
  rw [← hpe] at hq q0
  have hp : 0 ≤ p ∧ p ≤ n := by omega
  have h5 : D 42 5 = p := by rw [hpe]; exact hc.2.2.1
  have p1 := tk_le (t := t) hp.2
  have p2 := tk_le (t := t) p1.1
  have p3 := tk_le (t := t) p2.1
  have p4 := tk_le (t := t) p3.1
  have M0 := mid_0 hr
  have x0 := hX.1
  have e11 : D 43 11 = A 0 := hr.2.2.1.1
  rw [seg69_0 (ha0 := ho42)]
  simp only [Option.toList_some, Option.toList_none, List.cons_append, List.nil_append, Nat.reduceAdd]
  rw [e11]
  by_cases c0 : 16 ≤ A 0
  · rw [if_pos c0] at hq
    rw [brF (by omega), m62]
    simp only [Option.toList_some, Option.toList_none, List.cons_append, List.nil_append, Nat.reduceAdd]
    rw [seg69_19 (ha0 := ho42)]
    obtain ⟨b1, b2, b3⟩ := e_bad (f := 4) M0 hc.2.1
    exact ⟨.inl rfl, hq.1 (show (4 : Int) ≠ 0 by decide) _ b1 b2 b3⟩
  rw [if_neg c0] at hq
  rw [brT (by omega)]
  refine m65 hT M0.1 h5 hp (fun c D' f1 f2 f3 => ?_) (fun c D1 f1 f2 f3 f4 => ?_)
  · simp only [Option.toList_some, Option.toList_none, List.cons_append, List.nil_append, Nat.reduceAdd]
    rw [seg69_24 (ha0 := ho42), brF (by decide)]
    exact c_bad hq (by unfold stF; rw [if_pos c]) (by decide) (mid_b M0 f1) f2 f3
  simp only [Option.toList_some, Option.toList_none, List.cons_append, List.nil_append, Nat.reduceAdd]
  rw [seg69_24 (ha0 := ho42), brT (by decide), cnB (by omega), f4]
  simp only [Option.toList_some, Option.toList_none, List.cons_append, List.nil_append, Nat.reduceAdd]
  have M1 := mid_u (x := 44) (i := A 0) (v := plF t n p) (mid_f M0 f1) (by decide) (fun z => by omega)
  refine m65 hT M1.1 (p := tkE t n p) (by rw [up_ne (by decide)]; exact f3) ⟨by omega, p1.1⟩ (fun c1 D' g1 g2 g3 => ?_) (fun c1 D2 g1 g2 g3 g4 => ?_)
  · simp only [Option.toList_some, Option.toList_none, List.cons_append, List.nil_append, Nat.reduceAdd]
    rw [seg69_46 (ha0 := ho42), brF (by decide)]
    exact c_bad hq (by unfold stF; rw [if_neg (by omega), if_pos c1]) (by decide) (mid_b M1 g1) g2 g3
  simp only [Option.toList_some, Option.toList_none, List.cons_append, List.nil_append, Nat.reduceAdd]
  have M2 := mid_f M1 g1
  have e44 : D2 44 (A 0) = plF t n p := by rw [g1.1 44 (by decide), up_eq]
  rw [seg69_46 (ha0 := ho42), brT (by decide), cnB (by omega), cnB (by omega)]
  simp only [Option.toList_some, Option.toList_none, List.cons_append, List.nil_append, Nat.reduceAdd]
  rw [e44, g4]
  have M2' := mid_u (x := 45) (i := A 0) (v := plF t n (tkE t n p)) M2 (by decide) (fun z => by omega)
  by_cases c2 : plF t n p = plF t n (tkE t n p)
  · rw [brF (fun z => z c2), m62]
    simp only [Option.toList_some, Option.toList_none, List.cons_append, List.nil_append, Nat.reduceAdd]
    rw [seg69_85 (ha0 := ho42)]
    obtain ⟨b1, b2, b3⟩ := e_bad (f := 3) (w := tkB t n (tkE t n p)) M2' (by rw [up_ne (by decide)]; exact g2)
    exact ⟨.inl rfl, c_bad hq (by unfold stF; rw [if_neg (by omega), if_neg (by omega), if_pos c2]) (by decide) b1 b2 b3⟩
  rw [brT c2]
  refine m66 hT M2'.1 (p := tkE t n (tkE t n p)) (by rw [up_ne (by decide)]; exact g3) ⟨by omega, p2.1⟩ (fun c3 D' k1 k2 k3 => ?_) (fun c3 D3 k1 k2 k3 k4 k5 => ?_)
  · simp only [Option.toList_some, Option.toList_none, List.cons_append, List.nil_append, Nat.reduceAdd]
    rw [seg69_92 (ha0 := ho42), brF (by decide)]
    exact c_bad hq (by unfold stF; rw [if_neg (by omega), if_neg (by omega), if_neg c2, if_pos c3]) c3 (mid_b M2' k1) k2 k3
  simp only [Option.toList_some, Option.toList_none, List.cons_append, List.nil_append, Nat.reduceAdd]
  rw [seg69_92 (ha0 := ho42), brT (by decide), cnB (by omega), k4]
  simp only [Option.toList_some, Option.toList_none, List.cons_append, List.nil_append, Nat.reduceAdd]
  have M3 := mid_u (x := 46) (i := A 0) (v := tkV t n (tkE t n (tkE t n p))) (mid_f M2' k1) (by decide) (fun z => by omega)
  refine m66 hT M3.1 (p := tkE t n (tkE t n (tkE t n p))) (by rw [up_ne (by decide)]; exact k3) ⟨by omega, p3.1⟩ (fun c4 D' r1 r2 r3 => ?_) (fun c4 D4 r1 r2 r3 r4 r5 => ?_)
  · simp only [Option.toList_some, Option.toList_none, List.cons_append, List.nil_append, Nat.reduceAdd]
    rw [seg69_117 (ha0 := ho42), brF (by decide)]
    exact c_bad hq (by unfold stF; rw [if_neg (by omega), if_neg (by omega), if_neg c2, if_neg (fun z => z c3), if_pos c4]) c4 (mid_b M3 r1) r2 r3
  simp only [Option.toList_some, Option.toList_none, List.cons_append, List.nil_append, Nat.reduceAdd]
  have M4 := mid_f M3 r1
  have e43 : ∀ j, D4 43 j = D 43 j := fun j => by rw [r1.1 43 (by decide), up_ne (by decide), k1.1 43 (by decide), up_ne (by decide), g1.1 43 (by decide), up_ne (by decide), f1.1 43 (by decide)]
  rw [seg69_117 (ha0 := ho42), brT (by decide), cnB (by omega), cnB (by omega), cnB (by omega)]
  simp only [Option.toList_some, Option.toList_none, List.cons_append, List.nil_append, Nat.reduceAdd]
  rw [e43 11, e11, cnX (by omega), r4]
  have M5 := mid_u (x := 43) (i := 11) (v := A 0 + 1) (mid_u (x := 49) (i := A 0) (v := 12) (mid_u (x := 48) (i := A 0) (v := 0) (mid_u (x := 47) (i := A 0) (v := tkV t n (tkE t n (tkE t n (tkE t n p)))) M4 (by decide) (fun z => by omega)) (by decide) (fun z => by omega)) (by decide) (fun z => by omega)) (by decide) (fun _ => by decide)
  refine c_end hT hq (by unfold stF; rw [if_neg (by omega), if_neg (by omega), if_neg c2, if_neg (fun z => z c3), if_neg (fun z => z c4)]) ⟨M5.1, ⟨M5.2.1.1, M5.2.1.2.1⟩, ts_st (D := D) hr.2.2 hX (by omega) (fun j hj => ?_) ?_ (fun j => ?_) (fun j => ?_) (fun j => ?_) (fun j => ?_) (fun j => ?_) (fun j => ?_) (fun a a1 a2 => ?_)⟩ M5.2.2 M5.2.1.2.2.1 M5.2.1.2.2.2 ?_ ⟨by omega, p4.1⟩ (fun D' z => by simp only [Option.toList_some, Option.toList_none, List.cons_append, List.nil_append, Nat.reduceAdd]; rw [seg69_173 (ha0 := ho42)]; exact ⟨.inl rfl, z⟩) (fun D' z => by simp only [Option.toList_some, Option.toList_none, List.cons_append, List.nil_append, Nat.reduceAdd]; rw [seg69_173 (ha0 := ho42)]; exact ⟨.inr rfl, z⟩)
  · rw [up_ne2 hj, up_ne (by decide), up_ne (by decide), up_ne (by decide), e43]
  · rw [up_eq]
  · rw [up_ne (by decide), up_ne (by decide), up_ne (by decide), up_ne (by decide), r1.1 44 (by decide), up_ne (by decide), k1.1 44 (by decide), up_ne (by decide), g1.1 44 (by decide), up_at, f1.1 44 (by decide)]
  · rw [up_ne (by decide), up_ne (by decide), up_ne (by decide), up_ne (by decide), r1.1 45 (by decide), up_ne (by decide), k1.1 45 (by decide), up_at, g1.1 45 (by decide), up_ne (by decide), f1.1 45 (by decide)]
  · rw [up_ne (by decide), up_ne (by decide), up_ne (by decide), up_ne (by decide), r1.1 46 (by decide), up_at, k1.1 46 (by decide), up_ne (by decide), g1.1 46 (by decide), up_ne (by decide), f1.1 46 (by decide)]
  · rw [up_ne (by decide), up_ne (by decide), up_ne (by decide), up_at, r1.1 47 (by decide), up_ne (by decide), k1.1 47 (by decide), up_ne (by decide), g1.1 47 (by decide), up_ne (by decide), f1.1 47 (by decide)]
  · rw [up_ne (by decide), up_ne (by decide), up_at, up_ne (by decide), r1.1 48 (by decide), up_ne (by decide), k1.1 48 (by decide), up_ne (by decide), g1.1 48 (by decide), up_ne (by decide), f1.1 48 (by decide)]
  · rw [up_ne (by decide), up_at, up_ne (by decide), up_ne (by decide), r1.1 49 (by decide), up_ne (by decide), k1.1 49 (by decide), up_ne (by decide), g1.1 49 (by decide), up_ne (by decide), f1.1 49 (by decide)]
  · rw [up_ne (by omega), up_ne (by omega), up_ne (by omega), up_ne (by omega), r1.1 a (by omega), up_ne (by omega), k1.1 a (by omega), up_ne (by omega), g1.1 a (by omega), up_ne (by omega), f1.1 a (by omega)]
  · rw [up_ne (by decide), up_ne (by decide), up_ne (by decide), up_ne (by decide)]; exact r3
theorem m70 (hT : txT t n) (hX : WfX A) (hr : rdI D t n A h o) (h5 : D 42 5 = p) (hp : 0 ≤ p ∧ p ≤ n) (hq : cOut t n (enX t n (opF t n A h o p)) D Q) : WP 124 xF1 none 70 0 [some (.inr (.inr (some 42))), o1] [] D Q := by
  have p1 := tk_le (t := t) hp.2
  have p2 := tk_le (t := t) p1.1
  have p3 := tk_le (t := t) p2.1
  have M0 := mid_0 hr
  have x0 := hX.1
  have e11 : D 43 11 = A 0 := hr.2.2.1.1
  rw [seg70_0 (ha0 := ho42)]
  simp only [Option.toList_some, Option.toList_none, List.cons_append, List.nil_append, Nat.reduceAdd]
  rw [e11, cnX (by omega)]
  refine m66 hT M0.1 h5 hp (fun c D' f1 f2 f3 => ?_) (fun c D1 f1 f2 f3 f4 f5 => ?_)
  · simp only [Option.toList_some, Option.toList_none, List.cons_append, List.nil_append, Nat.reduceAdd]
    rw [seg70_14 (ha0 := ho42), brF (by decide)]
    exact c_bad hq (by unfold opF; rw [if_pos c]) c (mid_b M0 f1) f2 f3
  simp only [Option.toList_some, Option.toList_none, List.cons_append, List.nil_append, Nat.reduceAdd]
  have M1 := mid_f M0 f1
  rw [seg70_14 (ha0 := ho42), brT (by decide), M1.2.1.2.1, f4]
  by_cases c2 : iand (ishr o (tkV t n p)) 1 = 1
  · rw [brF (fun z => z c2), m62]
    simp only [Option.toList_some, Option.toList_none, List.cons_append, List.nil_append, Nat.reduceAdd]
    rw [seg70_41 (ha0 := ho42)]
    obtain ⟨b1, b2, b3⟩ := e_bad (f := 3) M1 f2
    exact ⟨.inl rfl, c_bad hq (by unfold opF; rw [if_neg (fun z => z c), if_pos c2]) (by decide) b1 b2 b3⟩
  rw [brT c2]
  obtain ⟨D1', hD1'⟩ : ∃ D1', D1' = xup D1 42 8 (ior o (ishl 1 (tkV t n p))) := ⟨_, rfl⟩
  rw [← hD1']
  have M1' : mid D1' D t n h (ior o (ishl 1 (tkV t n p))) := by
    rw [hD1']
    exact ⟨⟨by rw [up_ne2 (by decide)]; exact M1.1.1, fun j j1 j2 => by rw [up_ne (by decide)]; exact M1.1.2 j j1 j2⟩, ⟨by rw [up_ne2 (by decide)]; exact M1.2.1.1, by rw [up_eq], by rw [up_ne2 (by decide)]; exact M1.2.1.2.2.1, by rw [up_ne2 (by decide)]; exact M1.2.1.2.2.2⟩, fun a ha => by rw [up_ne (by omega)]; exact M1.2.2.1 a ha, by rw [up_ne (by decide)]; exact M1.2.2.2⟩
  have fa : ∀ a, a ≠ 42 → D1' a = D a := fun a ha => by rw [hD1', up_ne ha]; exact f1.1 a ha
  have f3' : D1' 42 5 = tkE t n p := by rw [hD1', up_ne2 (by decide)]; exact f3
  clear hD1'
  refine m66 hT M1'.1 f3' ⟨by omega, p1.1⟩ (fun c3 D' g1 g2 g3 => ?_) (fun c3 D2 g1 g2 g3 g4 g5 => ?_)
  · simp only [Option.toList_some, Option.toList_none, List.cons_append, List.nil_append, Nat.reduceAdd]
    rw [seg70_61 (ha0 := ho42), brF (by decide)]
    exact c_bad hq (by unfold opF; rw [if_neg (fun z => z c), if_neg c2, if_pos c3]) c3 (mid_b M1' g1) g2 g3
  simp only [Option.toList_some, Option.toList_none, List.cons_append, List.nil_append, Nat.reduceAdd]
  have M2 := mid_f M1' g1
  rw [seg70_61 (ha0 := ho42), brT (by decide), cnB (by omega), cnB (by omega)]
  simp only [Option.toList_some, Option.toList_none, List.cons_append, List.nil_append, Nat.reduceAdd]
  rw [g4]
  have M2' := mid_u (x := 48) (i := tkV t n p) (v := tkV t n (tkE t n p)) M2 (by decide) (fun z => by omega)
  refine m66 hT M2'.1 (p := tkE t n (tkE t n p)) (by rw [up_ne (by decide)]; exact g3) ⟨by omega, p2.1⟩ (fun c4 D' k1 k2 k3 => ?_) (fun c4 D3 k1 k2 k3 k4 k5 => ?_)
  · simp only [Option.toList_some, Option.toList_none, List.cons_append, List.nil_append, Nat.reduceAdd]
    rw [seg70_94 (ha0 := ho42), brF (by decide)]
    exact c_bad hq (by unfold opF; rw [if_neg (fun z => z c), if_neg c2, if_neg (fun z => z c3), if_pos c4]) c4 (mid_b M2' k1) k2 k3
  simp only [Option.toList_some, Option.toList_none, List.cons_append, List.nil_append, Nat.reduceAdd]
  have M3 := mid_f M2' k1
  rw [seg70_94 (ha0 := ho42), brT (by decide), cnB (by omega)]
  simp only [Option.toList_some, Option.toList_none, List.cons_append, List.nil_append, Nat.reduceAdd]
  rw [k4]
  have M4 := mid_u (x := 49) (i := tkV t n p) (v := tkV t n (tkE t n (tkE t n p))) M3 (by decide) (fun z => by omega)
  refine c_end hT hq (by unfold opF; rw [if_neg (fun z => z c), if_neg c2, if_neg (fun z => z c3), if_neg (fun z => z c4)]) ⟨M4.1, ⟨M4.2.1.1, M4.2.1.2.1⟩, ts_op (D := D) hr.2.2 hX (by omega) (fun a a1 a2 a3 a4 => ?_) (fun j => ?_) (fun j => ?_)⟩ M4.2.2 M4.2.1.2.2.1 M4.2.1.2.2.2 ?_ ⟨by omega, p3.1⟩ (fun D' z => by simp only [Option.toList_some, Option.toList_none, List.cons_append, List.nil_append, Nat.reduceAdd]; rw [seg70_116 (ha0 := ho42)]; exact ⟨.inl rfl, z⟩) (fun D' z => by simp only [Option.toList_some, Option.toList_none, List.cons_append, List.nil_append, Nat.reduceAdd]; rw [seg70_116 (ha0 := ho42)]; exact ⟨.inr rfl, z⟩)
  · rw [up_ne a4, k1.1 a (by omega), up_ne a3, g1.1 a (by omega), fa a (by omega)]
  · rw [up_ne (by decide), k1.1 48 (by decide), up_at, g1.1 48 (by decide), fa 48 (by decide)]
  · rw [up_at, k1.1 49 (by decide), up_ne (by decide), g1.1 49 (by decide), fa 49 (by decide)]
  · rw [up_ne (by decide)]; exact k3
theorem bits_sm {M a0 : Int} {f : Int → Int} (h0 : 0 ≤ a0 ∧ a0 ≤ 16) (eb : ∀ k, 0 ≤ k → k < 16 → iand (ishr M k) 1 = if k < a0 then f k else 0) : smI (fun k => iand (ishr M k) 1) 0 16 = smI f 0 a0.toNat := by
  rw [← smI_sub (g := f) 16 0 0 a0.toNat (by omega) (by omega)]
  refine smI_congr _ _ (fun j j1 j2 => ?_)
  rw [eb j j1 (by omega)]
  by_cases c : j < a0
  · rw [if_pos c, if_pos (by omega)]
  · rw [if_neg c, if_neg (by omega)]
theorem ts_A3 (H : TS D A) (hX : WfX A) : smI (fun k => iand (ishr (D 43 13) k) 1) 0 16 = A 3 := by
  have x0 := hX.1
  rw [hX.2.2.2.2.1.2.2.1]
  refine bits_sm (f := fun s => A (30 + 7 * s + 6)) (by omega) (fun k k1 k2 => ?_)
  obtain ⟨m, rfl⟩ : ∃ m : Nat, k = m := ⟨k.toNat, by omega⟩
  rw [bit_eq _ m (by omega), H.2.1.2 m (by omega)]
  by_cases c : (m : Int) < A 0
  · rw [if_pos c]
    rcases (hX.2.1 m (by omega) c).2.2.2.2.2 with e | e
    · rw [e, decide_eq_false (by omega), if_neg (by decide)]
    · rw [e, decide_eq_true ⟨c, rfl⟩, if_pos rfl]
  · rw [if_neg c, decide_eq_false (by omega), if_neg (by decide)]
theorem m71 (hT : txT t n) (hX : WfX A) (hr : rdI D t n A h o) (hc : clT D t n p0) (hp0 : 0 ≤ p0 ∧ p0 ≤ n) (hq : cOut t n (if 5 ≤ A 3 then bdF t n 4 p0 A h o else enX t n (trF t n A h o (tkE t n p0))) D Q) : WP 124 xF1 none 71 0 [some (.inr (.inr (some 42)))] [] D Q := by
  have q0 := tk_le (t := t) hp0.2
  obtain ⟨p, hpe⟩ : ∃ p, p = tkE t n p0 := ⟨_, rfl⟩
  rw [← hpe] at hq q0
  have hp : 0 ≤ p ∧ p ≤ n := by omega
  have h5 : D 42 5 = p := by rw [hpe]; exact hc.2.2.1
  have p1 := tk_le (t := t) hp.2
  have M0 := mid_0 hr
  have x0 := hX.1
  have e11 : D 43 11 = A 0 := hr.2.2.1.1
  rw [seg71_0 (ha0 := ho42)]
  simp only [Option.toList_some, Option.toList_none, List.cons_append, List.nil_append, Nat.reduceAdd]
  rw [m241 hr.2.2.2.1.1, ts_A3 hr.2.2 hX]
  simp only [Option.toList_some, Option.toList_none, List.cons_append, List.nil_append, Nat.reduceAdd]
  rw [seg71_10 (ha0 := ho42)]
  simp only [Option.toList_some, Option.toList_none, List.cons_append, List.nil_append, Nat.reduceAdd]
  by_cases c0 : 5 ≤ A 3
  · rw [if_pos c0] at hq
    rw [brF (by omega), m62]
    simp only [Option.toList_some, Option.toList_none, List.cons_append, List.nil_append, Nat.reduceAdd]
    rw [seg71_19 (ha0 := ho42)]
    obtain ⟨b1, b2, b3⟩ := e_bad (f := 4) M0 hc.2.1
    exact ⟨.inl rfl, hq.1 (show (4 : Int) ≠ 0 by decide) _ b1 b2 b3⟩
  rw [if_neg c0] at hq
  rw [brT (by omega), e11, cnX (by omega)]
  refine m66 hT M0.1 h5 hp (fun c D' f1 f2 f3 => ?_) (fun c D1 f1 f2 f3 f4 f5 => ?_)
  · simp only [Option.toList_some, Option.toList_none, List.cons_append, List.nil_append, Nat.reduceAdd]
    rw [seg71_34 (ha0 := ho42), brF (by decide)]
    exact c_bad hq (by unfold trF; rw [if_pos c]) c (mid_b M0 f1) f2 f3
  simp only [Option.toList_some, Option.toList_none, List.cons_append, List.nil_append, Nat.reduceAdd]
  have M1 := mid_f M0 f1
  obtain ⟨v, hv⟩ : ∃ v : Nat, tkV t n p = v := ⟨(tkV t n p).toNat, by omega⟩
  have bt : iand (ishr (D 43 13) (tkV t n p)) 1 = 1 ↔ A (30 + 7 * tkV t n p + 6) = 1 := by
    rw [hv, bit_eq _ v (by omega), hr.2.2.2.1.2 v (by omega)]
    by_cases y : A (30 + 7 * (v : Int) + 6) = 1
    · rw [decide_eq_true ⟨by omega, y⟩, if_pos rfl]; exact ⟨fun _ => y, fun _ => rfl⟩
    · rw [decide_eq_false (fun z => y z.2), if_neg (by decide)]; exact ⟨fun z => absurd z (by decide), fun z => absurd z y⟩
  rw [seg71_34 (ha0 := ho42), brT (by decide), f4]
  simp only [Option.toList_some, Option.toList_none, List.cons_append, List.nil_append, Nat.reduceAdd]
  rw [f1.1 43 (by decide)]
  by_cases c2 : A (30 + 7 * tkV t n p + 6) = 1
  · rw [brF (fun z => z (bt.mpr c2)), m62]
    simp only [Option.toList_some, Option.toList_none, List.cons_append, List.nil_append, Nat.reduceAdd]
    rw [seg71_62 (ha0 := ho42)]
    obtain ⟨b1, b2, b3⟩ := e_bad (f := 3) M1 f2
    exact ⟨.inl rfl, c_bad hq (by unfold trF; rw [if_neg (fun z => z c), if_pos c2]) (by decide) b1 b2 b3⟩
  rw [brT (fun z => c2 (bt.mp z))]
  have M2 := mid_u (x := 43) (i := 13) (v := ior (D 43 13) (ishl 1 (tkV t n p))) M1 (by decide) (fun _ => by decide)
  refine c_end hT hq (by unfold trF; rw [if_neg (fun z => z c), if_neg c2]) ⟨M2.1, ⟨M2.2.1.1, M2.2.1.2.1⟩, ts_tr (D := D) hr.2.2 hX (by omega) (fun a a1 a2 => ?_) (fun j hj => ?_) ?_⟩ M2.2.2 M2.2.1.2.2.1 M2.2.1.2.2.2 ?_ ⟨by omega, p1.1⟩ (fun D' z => by simp only [Option.toList_some, Option.toList_none, List.cons_append, List.nil_append, Nat.reduceAdd]; rw [seg71_85 (ha0 := ho42)]; exact ⟨.inl rfl, z⟩) (fun D' z => by simp only [Option.toList_some, Option.toList_none, List.cons_append, List.nil_append, Nat.reduceAdd]; rw [seg71_85 (ha0 := ho42)]; exact ⟨.inr rfl, z⟩)
  · rw [up_ne (by omega), f1.1 a (by omega)]
  · rw [up_ne2 hj, f1.1 43 (by decide)]
  · rw [up_eq]
  · rw [up_ne (by decide)]; exact f3
theorem m74 (hT : txT t n) (hX : WfX A) (hr : rdI D t n A h o) (h5 : D 42 5 = p) (hp : 0 ≤ p ∧ p ≤ n) (hq : cOut t n (enX t n (slF t n A h o p)) D Q) : WP 124 xF1 none 74 0 [some (.inr (.inr (some 42)))] [] D Q := by
  have p1 := tk_le (t := t) hp.2
  have M0 := mid_0 hr
  have x0 := hX.1
  have e12 : D 43 12 = A 1 := hr.2.2.1.2
  rw [seg74_0 (ha0 := ho42)]
  simp only [Option.toList_some, Option.toList_none, List.cons_append, List.nil_append, Nat.reduceAdd]
  rw [e12, cnX (by omega)]
  refine m66 hT M0.1 h5 hp (fun c D' f1 f2 f3 => ?_) (fun c D1 f1 f2 f3 f4 f5 => ?_)
  · simp only [Option.toList_some, Option.toList_none, List.cons_append, List.nil_append, Nat.reduceAdd]
    rw [seg74_14 (ha0 := ho42), brF (by decide)]
    exact c_bad hq (by unfold slF; rw [if_pos c]) c (mid_b M0 f1) f2 f3
  simp only [Option.toList_some, Option.toList_none, List.cons_append, List.nil_append, Nat.reduceAdd]
  have M1 := mid_f M0 f1
  obtain ⟨v, hv⟩ : ∃ v : Nat, tkV t n p = v := ⟨(tkV t n p).toNat, by omega⟩
  have bt : iand (ishr (D 43 14) (tkV t n p)) 1 = 1 ↔ A (150 + 4 * tkV t n p + 3) = 1 := by
    rw [hv, bit_eq _ v (by omega), hr.2.2.2.2.1 v (by omega)]
    by_cases y : A (150 + 4 * (v : Int) + 3) = 1
    · rw [decide_eq_true ⟨by omega, y⟩, if_pos rfl]; exact ⟨fun _ => y, fun _ => rfl⟩
    · rw [decide_eq_false (fun z => y z.2), if_neg (by decide)]; exact ⟨fun z => absurd z (by decide), fun z => absurd z y⟩
  rw [seg74_14 (ha0 := ho42), brT (by decide), f4]
  simp only [Option.toList_some, Option.toList_none, List.cons_append, List.nil_append, Nat.reduceAdd]
  rw [m98 ho43, f1.1 43 (by decide)]
  simp only [Option.toList_some, Option.toList_none, List.cons_append, List.nil_append, Nat.reduceAdd]
  rw [seg74_30 (ha0 := ho42)]
  simp only [Option.toList_some, Option.toList_none, List.cons_append, List.nil_append, Nat.reduceAdd]
  by_cases c2 : A (150 + 4 * tkV t n p + 3) = 1
  · rw [if_pos (bt.mpr c2), brF (by decide), m62]
    simp only [Option.toList_some, Option.toList_none, List.cons_append, List.nil_append, Nat.reduceAdd]
    rw [seg74_38 (ha0 := ho42)]
    obtain ⟨b1, b2, b3⟩ := e_bad (f := 3) M1 f2
    exact ⟨.inl rfl, c_bad hq (by unfold slF; rw [if_neg (fun z => z c), if_pos c2]) (by decide) b1 b2 b3⟩
  rw [if_neg (fun z => c2 (bt.mp z)), brT rfl, f4, f1.1 43 (by decide)]
  have M2 := mid_u (x := 43) (i := 14) (v := ior (D 43 14) (ishl 1 (tkV t n p))) M1 (by decide) (fun _ => by decide)
  refine c_end hT hq (by unfold slF; rw [if_neg (fun z => z c), if_neg c2]) ⟨M2.1, ⟨M2.2.1.1, M2.2.1.2.1⟩, ts_sl (D := D) hr.2.2 hX (by omega) (fun a a1 a2 => ?_) (fun j hj => ?_) ?_⟩ M2.2.2 M2.2.1.2.2.1 M2.2.1.2.2.2 ?_ ⟨by omega, p1.1⟩ (fun D' z => by simp only [Option.toList_some, Option.toList_none, List.cons_append, List.nil_append, Nat.reduceAdd]; rw [seg74_61 (ha0 := ho42)]; exact ⟨.inl rfl, z⟩) (fun D' z => by simp only [Option.toList_some, Option.toList_none, List.cons_append, List.nil_append, Nat.reduceAdd]; rw [seg74_61 (ha0 := ho42)]; exact ⟨.inr rfl, z⟩)
  · rw [up_ne (by omega), f1.1 a (by omega)]
  · rw [up_ne2 hj, f1.1 43 (by decide)]
  · rw [up_eq]
  · rw [up_ne (by decide)]; exact f3
theorem m72 (hT : txT t n) (hX : WfX A) (hr : rdI D t n A h o) (hc : clT D t n p0) (hp0 : 0 ≤ p0 ∧ p0 ≤ n) (hq : cOut t n (if 6 ≤ A 1 then bdF t n 4 p0 A h o else enX t n (doF t n A h o (tkE t n p0))) D Q) : WP 124 xF1 none 72 0 [some (.inr (.inr (some 42))), o1] [] D Q := by
  have q0 := tk_le (t := t) hp0.2
  obtain ⟨p, hpe⟩ : ∃ p, p = tkE t n p0 := ⟨_, rfl⟩
  rw [← hpe] at hq q0
  have hp : 0 ≤ p ∧ p ≤ n := by omega
  have h5 : D 42 5 = p := by rw [hpe]; exact hc.2.2.1
  have p1 := tk_le (t := t) hp.2
  have p2 := tk_le (t := t) p1.1
  have p3 := tk_le (t := t) p2.1
  have M0 := mid_0 hr
  have x0 := hX.1
  have x4 := hX.2.2.2.2.1
  have e12 : D 43 12 = A 1 := hr.2.2.1.2
  rw [seg72_0 (ha0 := ho42)]
  simp only [Option.toList_some, Option.toList_none, List.cons_append, List.nil_append, Nat.reduceAdd]
  rw [e12]
  by_cases c0 : 6 ≤ A 1
  · rw [if_pos c0] at hq
    rw [brF (by omega), m62]
    simp only [Option.toList_some, Option.toList_none, List.cons_append, List.nil_append, Nat.reduceAdd]
    rw [seg72_19 (ha0 := ho42)]
    obtain ⟨b1, b2, b3⟩ := e_bad (f := 4) M0 hc.2.1
    exact ⟨.inl rfl, hq.1 (show (4 : Int) ≠ 0 by decide) _ b1 b2 b3⟩
  rw [if_neg c0] at hq
  rw [brT (by omega)]
  refine m65 hT M0.1 h5 hp (fun c D' f1 f2 f3 => ?_) (fun c D1 f1 f2 f3 f4 => ?_)
  · simp only [Option.toList_some, Option.toList_none, List.cons_append, List.nil_append, Nat.reduceAdd]
    rw [seg72_24 (ha0 := ho42), brF (by decide)]
    exact c_bad hq (by unfold doF; rw [if_pos c]) (by decide) (mid_b M0 f1) f2 f3
  simp only [Option.toList_some, Option.toList_none, List.cons_append, List.nil_append, Nat.reduceAdd]
  rw [seg72_24 (ha0 := ho42), brT (by decide), cnB (by omega), f4]
  simp only [Option.toList_some, Option.toList_none, List.cons_append, List.nil_append, Nat.reduceAdd]
  have M1 := mid_u (x := 52) (i := A 1) (v := plF t n p) (mid_f M0 f1) (by decide) (fun z => by omega)
  refine m66 hT M1.1 (p := tkE t n p) (by rw [up_ne (by decide)]; exact f3) ⟨by omega, p1.1⟩ (fun c1 D' g1 g2 g3 => ?_) (fun c1 D2 g1 g2 g3 g4 g5 => ?_)
  · simp only [Option.toList_some, Option.toList_none, List.cons_append, List.nil_append, Nat.reduceAdd]
    rw [seg72_49 (ha0 := ho42), brF (by decide)]
    exact c_bad hq (by unfold doF; rw [if_neg (by omega), if_pos c1]) c1 (mid_b M1 g1) g2 g3
  simp only [Option.toList_some, Option.toList_none, List.cons_append, List.nil_append, Nat.reduceAdd]
  rw [seg72_49 (ha0 := ho42), brT (by decide), cnB (by omega), g4]
  simp only [Option.toList_some, Option.toList_none, List.cons_append, List.nil_append, Nat.reduceAdd]
  have M2 := mid_u (x := 53) (i := A 1) (v := tkV t n (tkE t n p)) (mid_f M1 g1) (by decide) (fun z => by omega)
  refine m66 hT M2.1 (p := tkE t n (tkE t n p)) (by rw [up_ne (by decide)]; exact g3) ⟨by omega, p2.1⟩ (fun c3 D' k1 k2 k3 => ?_) (fun c3 D3 k1 k2 k3 k4 k5 => ?_)
  · simp only [Option.toList_some, Option.toList_none, List.cons_append, List.nil_append, Nat.reduceAdd]
    rw [seg72_74 (ha0 := ho42), brF (by decide)]
    exact c_bad hq (by unfold doF; rw [if_neg (by omega), if_neg (fun z => z c1), if_pos c3]) c3 (mid_b M2 k1) k2 k3
  simp only [Option.toList_some, Option.toList_none, List.cons_append, List.nil_append, Nat.reduceAdd]
  have M3 := mid_f M2 k1
  have e43 : ∀ j, D3 43 j = D 43 j := fun j => by rw [k1.1 43 (by decide), up_ne (by decide), g1.1 43 (by decide), up_ne (by decide), f1.1 43 (by decide)]
  have e54 : ∀ j, D3 54 j = D 54 j := fun j => by rw [k1.1 54 (by decide), up_ne (by decide), g1.1 54 (by decide), up_ne (by decide), f1.1 54 (by decide)]
  rw [seg72_74 (ha0 := ho42), brT (by decide)]
  simp only [Option.toList_some, Option.toList_none, List.cons_append, List.nil_append, Nat.reduceAdd]
  rw [m100 ho43 (fun j j1 j2 => by
    rw [e43, e12] at j2
    simp only [Nat.reduceAdd]
    rw [e54, (hr.2.2.2.2.2.2.2 j j1 j2).2.2]
    have := (hX.2.2.1 j j1 j2).2.2.1
    omega) (by rw [e43, e12]; omega)]
  simp only [Option.toList_some, Option.toList_none, List.cons_append, List.nil_append, Nat.reduceAdd]
  have sm : smI (fun d => D3 54 d) 0 (D3 43 12).toNat = A 2 := by
    rw [e43, e12, x4.1]
    exact smI_congr _ _ (fun d d1 d2 => by rw [e54]; exact (hr.2.2.2.2.2.2.2 d d1 (by omega)).2.2)
  have a2 : 0 ≤ A 2 := by
    rw [x4.1]
    exact (smI_bd (B := 30) _ _ (fun j j1 j2 => by have := (hX.2.2.1 j j1 (by omega)).2.2.1; omega)).1
  rw [sm, seg72_86 (ha0 := ho42), k4, cnX (by omega)]
  by_cases c4 : 99 < A 2 + tkV t n (tkE t n (tkE t n p))
  · rw [brF (by omega), m62]
    simp only [Option.toList_some, Option.toList_none, List.cons_append, List.nil_append, Nat.reduceAdd]
    rw [seg72_101 (ha0 := ho42)]
    obtain ⟨b1, b2, b3⟩ := e_bad (f := 4) M3 k2
    exact ⟨.inl rfl, c_bad hq (by unfold doF; rw [if_neg (by omega), if_neg (fun z => z c1), if_neg (fun z => z c3), if_pos c4]) (by decide) b1 b2 b3⟩
  rw [brT (by omega), cnB (by omega)]
  simp only [Option.toList_some, Option.toList_none, List.cons_append, List.nil_append, Nat.reduceAdd]
  rw [e43 12, e12, cnX (by omega)]
  have M4 := mid_u (x := 43) (i := 12) (v := A 1 + 1) (mid_u (x := 54) (i := A 1) (v := tkV t n (tkE t n (tkE t n p))) M3 (by decide) (fun z => by omega)) (by decide) (fun _ => by decide)
  refine c_end hT hq (by unfold doF; rw [if_neg (by omega), if_neg (fun z => z c1), if_neg (fun z => z c3), if_neg c4]) ⟨M4.1, ⟨M4.2.1.1, M4.2.1.2.1⟩, ts_do (D := D) hr.2.2 hX (by omega) (fun j hj => ?_) ?_ (fun j => ?_) (fun j => ?_) (fun j => ?_) (fun a a1 a2 => ?_)⟩ M4.2.2 M4.2.1.2.2.1 M4.2.1.2.2.2 ?_ ⟨by omega, p3.1⟩ (fun D' z => by simp only [Option.toList_some, Option.toList_none, List.cons_append, List.nil_append, Nat.reduceAdd]; rw [seg72_132 (ha0 := ho42)]; exact ⟨.inl rfl, z⟩) (fun D' z => by simp only [Option.toList_some, Option.toList_none, List.cons_append, List.nil_append, Nat.reduceAdd]; rw [seg72_132 (ha0 := ho42)]; exact ⟨.inr rfl, z⟩)
  · rw [up_ne2 hj, up_ne (by decide), e43]
  · rw [up_eq]
  · rw [up_ne (by decide), up_ne (by decide), k1.1 52 (by decide), up_ne (by decide), g1.1 52 (by decide), up_at, f1.1 52 (by decide)]
  · rw [up_ne (by decide), up_ne (by decide), k1.1 53 (by decide), up_at, g1.1 53 (by decide), up_ne (by decide), f1.1 53 (by decide)]
  · rw [up_ne (by decide), up_at, e54]
  · rw [up_ne (by omega), up_ne (by omega), k1.1 a (by omega), up_ne (by omega), g1.1 a (by omega), up_ne (by omega), f1.1 a (by omega)]
  · rw [up_ne (by decide), up_ne (by decide)]; exact k3
theorem co_k {K : Option xv → xD → Prop} (hq : cOut t n R D Q) (k0 : ∀ D', Q (some (.inl 0)) D' → K (some (.inl 0)) D') (k1 : ∀ D', Q (some (.inl 1)) D' → K (some (.inl 1)) D') : cOut t n R D K := ⟨fun c D' a1 a2 a3 => k0 _ (hq.1 c D' a1 a2 a3), fun c D' a1 a2 a3 a4 a5 => k1 _ (hq.2 c D' a1 a2 a3 a4 a5)⟩
/-- the class reads a clause -/
theorem m64 (hT : txT t n) (hX : WfX A) (hr : rdI D t n A h o) (hc : clT D t n p) (hp : 0 ≤ p ∧ p ≤ n) (hq : cOut t n (clF t n A h o p) D Q) : WP 124 xF1 none 64 0 [some (.inr (.inr (some 42)))] [] D Q := by
  have q0 := tk_le (t := t) hp.2
  unfold clF at hq
  rw [seg64_0 (ha0 := ho42)]
  refine m63 (k := 0) hT hr.1 hc hp (by decide) ?_
  simp only [Option.toList_some, Option.toList_none, List.cons_append, List.nil_append, Nat.reduceAdd]
  rw [seg64_6 (ha0 := ho42)]
  by_cases w0 : isW t n p 0 = true
  · rw [if_pos w0] at hq
    rw [if_pos w0, brF (by decide)]
    exact m68 hT hr hc.2.2.1 ⟨by omega, q0.1⟩ (co_k hq (fun D' z => by simp only [Option.toList_some, Option.toList_none, List.cons_append, List.nil_append, Nat.reduceAdd]; rw [seg64_13 (ha0 := ho42)]; exact ⟨.inl rfl, z⟩) (fun D' z => by simp only [Option.toList_some, Option.toList_none, List.cons_append, List.nil_append, Nat.reduceAdd]; rw [seg64_13 (ha0 := ho42)]; exact ⟨.inr rfl, z⟩))
  rw [if_neg w0] at hq
  rw [if_neg w0, brT rfl]
  refine m63 (k := 1) hT hr.1 hc hp (by decide) ?_
  simp only [Option.toList_some, Option.toList_none, List.cons_append, List.nil_append, Nat.reduceAdd]
  rw [seg64_20 (ha0 := ho42)]
  by_cases w1 : isW t n p 1 = true
  · rw [if_pos w1] at hq
    rw [if_pos w1, brF (by decide)]
    exact m69 hT hX hr hc hp (co_k hq (fun D' z => by simp only [Option.toList_some, Option.toList_none, List.cons_append, List.nil_append, Nat.reduceAdd]; rw [seg64_27 (ha0 := ho42)]; exact ⟨.inl rfl, z⟩) (fun D' z => by simp only [Option.toList_some, Option.toList_none, List.cons_append, List.nil_append, Nat.reduceAdd]; rw [seg64_27 (ha0 := ho42)]; exact ⟨.inr rfl, z⟩))
  rw [if_neg w1] at hq
  rw [if_neg w1, brT rfl]
  refine m63 (k := 2) hT hr.1 hc hp (by decide) ?_
  simp only [Option.toList_some, Option.toList_none, List.cons_append, List.nil_append, Nat.reduceAdd]
  rw [seg64_34 (ha0 := ho42)]
  by_cases w2 : isW t n p 2 = true
  · rw [if_pos w2] at hq
    rw [if_pos w2, brF (by decide)]
    exact m70 hT hX hr hc.2.2.1 ⟨by omega, q0.1⟩ (co_k hq (fun D' z => by simp only [Option.toList_some, Option.toList_none, List.cons_append, List.nil_append, Nat.reduceAdd]; rw [seg64_41 (ha0 := ho42)]; exact ⟨.inl rfl, z⟩) (fun D' z => by simp only [Option.toList_some, Option.toList_none, List.cons_append, List.nil_append, Nat.reduceAdd]; rw [seg64_41 (ha0 := ho42)]; exact ⟨.inr rfl, z⟩))
  rw [if_neg w2] at hq
  rw [if_neg w2, brT rfl]
  refine m63 (k := 3) hT hr.1 hc hp (by decide) ?_
  simp only [Option.toList_some, Option.toList_none, List.cons_append, List.nil_append, Nat.reduceAdd]
  rw [seg64_48 (ha0 := ho42)]
  by_cases w3 : isW t n p 3 = true
  · rw [if_pos w3] at hq
    rw [if_pos w3, brF (by decide)]
    exact m71 hT hX hr hc hp (co_k hq (fun D' z => by simp only [Option.toList_some, Option.toList_none, List.cons_append, List.nil_append, Nat.reduceAdd]; rw [seg64_55 (ha0 := ho42)]; exact ⟨.inl rfl, z⟩) (fun D' z => by simp only [Option.toList_some, Option.toList_none, List.cons_append, List.nil_append, Nat.reduceAdd]; rw [seg64_55 (ha0 := ho42)]; exact ⟨.inr rfl, z⟩))
  rw [if_neg w3] at hq
  rw [if_neg w3, brT rfl]
  refine m63 (k := 4) hT hr.1 hc hp (by decide) ?_
  simp only [Option.toList_some, Option.toList_none, List.cons_append, List.nil_append, Nat.reduceAdd]
  rw [seg64_62 (ha0 := ho42)]
  by_cases w4 : isW t n p 4 = true
  · rw [if_pos w4] at hq
    rw [if_pos w4, brF (by decide)]
    exact m72 hT hX hr hc hp (co_k hq (fun D' z => by simp only [Option.toList_some, Option.toList_none, List.cons_append, List.nil_append, Nat.reduceAdd]; rw [seg64_69 (ha0 := ho42)]; exact ⟨.inl rfl, z⟩) (fun D' z => by simp only [Option.toList_some, Option.toList_none, List.cons_append, List.nil_append, Nat.reduceAdd]; rw [seg64_69 (ha0 := ho42)]; exact ⟨.inr rfl, z⟩))
  rw [if_neg w4] at hq
  rw [if_neg w4, brT rfl]
  refine m63 (k := 5) hT hr.1 hc hp (by decide) ?_
  simp only [Option.toList_some, Option.toList_none, List.cons_append, List.nil_append, Nat.reduceAdd]
  rw [seg64_76 (ha0 := ho42)]
  by_cases w5 : isW t n p 5 = true
  · rw [if_pos w5] at hq
    rw [if_pos w5, brF (by decide)]
    exact m73 hT hX hr hc.2.2.1 ⟨by omega, q0.1⟩ (co_k hq (fun D' z => by simp only [Option.toList_some, Option.toList_none, List.cons_append, List.nil_append, Nat.reduceAdd]; rw [seg64_83 (ha0 := ho42)]; exact ⟨.inl rfl, z⟩) (fun D' z => by simp only [Option.toList_some, Option.toList_none, List.cons_append, List.nil_append, Nat.reduceAdd]; rw [seg64_83 (ha0 := ho42)]; exact ⟨.inr rfl, z⟩))
  rw [if_neg w5] at hq
  rw [if_neg w5, brT rfl]
  refine m63 (k := 6) hT hr.1 hc hp (by decide) ?_
  simp only [Option.toList_some, Option.toList_none, List.cons_append, List.nil_append, Nat.reduceAdd]
  rw [seg64_90 (ha0 := ho42)]
  by_cases w6 : isW t n p 6 = true
  · rw [if_pos w6] at hq
    rw [if_pos w6, brF (by decide)]
    exact m74 hT hX hr hc.2.2.1 ⟨by omega, q0.1⟩ (co_k hq (fun D' z => by simp only [Option.toList_some, Option.toList_none, List.cons_append, List.nil_append, Nat.reduceAdd]; rw [seg64_97 (ha0 := ho42)]; exact ⟨.inl rfl, z⟩) (fun D' z => by simp only [Option.toList_some, Option.toList_none, List.cons_append, List.nil_append, Nat.reduceAdd]; rw [seg64_97 (ha0 := ho42)]; exact ⟨.inr rfl, z⟩))
  rw [if_neg w6] at hq
  rw [if_neg w6, brT rfl]
  rw [m62]
  simp only [Option.toList_some, Option.toList_none, List.cons_append, List.nil_append, Nat.reduceAdd]
  rw [seg64_103 (ha0 := ho42)]
  obtain ⟨b1, b2, b3⟩ := e_bad (f := 1) (mid_0 hr) hc.2.1
  exact ⟨.inl rfl, hq.1 (show (1 : Int) ≠ 0 by decide) _ b1 b2 b3⟩
end M98s
