/-! the invariant -/
/-- the class's State s (town s + 1) and an array of the reference -/
def IS (D : xD) (s : Nat) (A : Int → Int) : Prop :=
  (D (s + 1) 11 = A 0 ∧ D (s + 1) 12 = A 1 ∧ D (s + 1) 15 = A 4 ∧ D s 1 = A 5 ∧ D s 3 = A 6) ∧
  (0 ≤ D (s + 1) 13 ∧ D (s + 1) 13 < 65536 ∧ ∀ k, 0 ≤ k → k < 16 → iand (ishr (D (s + 1) 13) k) 1 = if k < A 0 then A (30 + 7 * k + 6) else 0) ∧
  (∀ d, 0 ≤ d → d < A 1 → iand (ishr (D (s + 1) 14) d) 1 = A (150 + 4 * d + 3)) ∧
  (∀ k, 0 ≤ k → k < A 0 → D (s + 2) k = A (30 + 7 * k) ∧ D (s + 3) k = A (30 + 7 * k + 1) ∧ D (s + 4) k = A (30 + 7 * k + 2) ∧ D (s + 5) k = A (30 + 7 * k + 3) ∧ D (s + 6) k = A (30 + 7 * k + 4) ∧ D (s + 7) k = A (30 + 7 * k + 5)) ∧
  (∀ p, 0 ≤ p → p < 8 → D (s + 8) p = A (10 + p) ∧ D (s + 9) p = A (18 + p) ∧ D (s + 13) p = A (176 + p)) ∧
  (∀ d, 0 ≤ d → d < A 1 → D (s + 10) d = A (150 + 4 * d) ∧ D (s + 11) d = A (150 + 4 * d + 1) ∧ D (s + 12) d = A (150 + 4 * d + 2)) ∧
  (∀ c, 0 ≤ c → c < A 6 → D (s + 14) c = A (190 + 3 * c) ∧ D (s + 15) c = A (190 + 3 * c + 1) ∧ D (s + 16) c = A (190 + 3 * c + 2)) ∧
  (∀ k, 0 ≤ k → k < 208 → D (s + 17) k = A (220 + k) ∧ D (s + 18) k = A (430 + k))
/-- what an array of the reference can be -/
def WfA (A : Int → Int) : Prop :=
  (0 ≤ A 0 ∧ A 0 ≤ 16 ∧ 0 ≤ A 1 ∧ A 1 ≤ 6 ∧ 0 ≤ A 6 ∧ A 6 ≤ 8) ∧
  (∀ s, 0 ≤ s → s < A 0 → (0 ≤ A (30 + 7 * s) ∧ A (30 + 7 * s) ≤ 7) ∧ (0 ≤ A (30 + 7 * s + 1) ∧ A (30 + 7 * s + 1) ≤ 7) ∧ (1 ≤ A (30 + 7 * s + 2) ∧ A (30 + 7 * s + 2) ≤ 5) ∧ (1 ≤ A (30 + 7 * s + 3) ∧ A (30 + 7 * s + 3) ≤ 9) ∧ (0 ≤ A (30 + 7 * s + 4) ∧ A (30 + 7 * s + 4) ≤ A (30 + 7 * s + 5) ∧ A (30 + 7 * s + 5) ≤ 12) ∧ (A (30 + 7 * s + 6) = 0 ∨ A (30 + 7 * s + 6) = 1)) ∧
  (∀ d, 0 ≤ d → d < A 1 → (0 ≤ A (150 + 4 * d) ∧ A (150 + 4 * d) ≤ 7) ∧ (0 ≤ A (150 + 4 * d + 1) ∧ A (150 + 4 * d + 1) ≤ 12) ∧ (1 ≤ A (150 + 4 * d + 2) ∧ A (150 + 4 * d + 2) ≤ 30) ∧ (A (150 + 4 * d + 3) = 0 ∨ A (150 + 4 * d + 3) = 1)) ∧
  (A 2 = smI (fun d => A (150 + 4 * d + 2)) 0 (A 1).toNat ∧ A 2 ≤ 99 ∧ A 3 = smI (fun s => A (30 + 7 * s + 6)) 0 (A 0).toNat ∧ A 3 ≤ 5 ∧ A 7 = smI (fun d => if A (150 + 4 * d + 3) = 1 then A (150 + 4 * d + 2) else 0) 0 (A 1).toNat) ∧
  (∀ p, 0 ≤ p → p < 8 → (0 ≤ A (10 + p) ∧ A (10 + p) ≤ 99) ∧ (0 ≤ A (18 + p) ∧ A (18 + p) ≤ 99) ∧ (A (176 + p) = -1 ∨ (0 ≤ A (176 + p) ∧ A (176 + p) < A 0 ∧ frM A (A (176 + p)) = p))) ∧
  (∀ c, 0 ≤ c → c < A 6 → (0 ≤ A (190 + 3 * c) ∧ A (190 + 3 * c) ≤ 7) ∧ (1 ≤ A (190 + 3 * c + 1) ∧ A (190 + 3 * c + 1) ≤ 12) ∧ (A (190 + 3 * c + 2) = -1 ∨ (0 ≤ A (190 + 3 * c + 2) ∧ A (190 + 3 * c + 2) < A 0 ∧ frM A (A (190 + 3 * c + 2)) = A (190 + 3 * c)))) ∧
  (∀ k, 0 ≤ k → k < 208 → (0 ≤ A (220 + k) ∧ A (220 + k) ≤ 30) ∧ (0 ≤ A (430 + k) ∧ A (430 + k) ≤ 30) ∧ (13 * A 0 ≤ k → A (220 + k) = 0 ∧ A (430 + k) = 0)) ∧
  xinP (A 4) ∧ xinP (A 5) ∧ 0 ≤ A 4
/-- the town and what is turned -/
def trA (A : Int → Int) : Int → Int := fun j => if j < 176 ∧ j ≠ 6 then A j else 0
def Inv (K : (Int → Int) → (Int → Int) → (Int → Int) → (Int → Int) → (Int → Int) → (Int → Int) → (Int → Int) → (Int → Int) → Prop) (D : xD) : Prop :=
  IT (D 1) (D 2) (D 95) (D 99) ∧ IS D 3 (D 96) ∧ WfA (D 96) ∧ IS D 22 (D 97) ∧ WfA (D 97) ∧ K (trA (D 96)) (D 56) (D 68) (D 69) (D 70) (D 71) (D 91) (D 92) ∧ D 85 5 = -1
section M38
variable {K : (Int → Int) → (Int → Int) → (Int → Int) → (Int → Int) → (Int → Int) → (Int → Int) → (Int → Int) → (Int → Int) → Prop}
theorem IS_congr {D D' : xD} {s : Nat} {A : Int → Int} (h : ∀ a, s ≤ a → a ≤ s + 18 → D' a = D a) (H : IS D s A) : IS D' s A := by
  unfold IS at H ⊢
  rw [h s (by omega) (by omega), h (s + 1) (by omega) (by omega), h (s + 2) (by omega) (by omega), h (s + 3) (by omega) (by omega), h (s + 4) (by omega) (by omega), h (s + 5) (by omega) (by omega), h (s + 6) (by omega) (by omega), h (s + 7) (by omega) (by omega), h (s + 8) (by omega) (by omega), h (s + 9) (by omega) (by omega), h (s + 10) (by omega) (by omega), h (s + 11) (by omega) (by omega), h (s + 12) (by omega) (by omega), h (s + 13) (by omega) (by omega), h (s + 14) (by omega) (by omega), h (s + 15) (by omega) (by omega), h (s + 16) (by omega) (by omega), h (s + 17) (by omega) (by omega), h (s + 18) (by omega) (by omega)]
  exact H
/-- only the tape's cells change -/
theorem Inv_tape {D D' : xD} (H : Inv K D) (h : ∀ a, a ≠ 1 → a ≠ 2 → a ≠ 95 → a ≠ 99 → D' a = D a) (ht : IT (D' 1) (D' 2) (D' 95) (D' 99)) : Inv K D' := by
  obtain ⟨h1, h2, h3, h4, h5, h6, h7⟩ := H
  refine ⟨ht, ?_, ?_, ?_, ?_, ?_, ?_⟩
  · rw [h 96 (by decide) (by decide) (by decide) (by decide)]
    exact IS_congr (fun a e1 e2 => h a (by omega) (by omega) (by omega) (by omega)) h2
  · rw [h 96 (by decide) (by decide) (by decide) (by decide)]; exact h3
  · rw [h 97 (by decide) (by decide) (by decide) (by decide)]
    exact IS_congr (fun a e1 e2 => h a (by omega) (by omega) (by omega) (by omega)) h4
  · rw [h 97 (by decide) (by decide) (by decide) (by decide)]; exact h5
  · rw [h 96 (by decide) (by decide) (by decide) (by decide), h 56 (by decide) (by decide) (by decide) (by decide), h 68 (by decide) (by decide) (by decide) (by decide), h 69 (by decide) (by decide) (by decide) (by decide), h 70 (by decide) (by decide) (by decide) (by decide), h 71 (by decide) (by decide) (by decide) (by decide), h 91 (by decide) (by decide) (by decide) (by decide), h 92 (by decide) (by decide) (by decide) (by decide)]; exact h6
  · rw [h 85 (by decide) (by decide) (by decide) (by decide)]; exact h7

theorem pair3 : ∀ (z1 : Int), xinP z1 → xpr (Inv K) 117 [some (.inr (.inr (some 1))), some (.inl z1)] 173 [some (.inr (.inr (some 95))), some (.inl z1)] := by
  intro z1 hz D H
  obtain ⟨⟨⟨t1, t2, t3, t4, t5⟩, tt, tw⟩, -⟩ := id H
  rw [seg117_0 (ha0 := ho1)]
  by_cases e0 : z1 = 0
  · subst e0
    show WP 124 xF1 none 117 28 _ _ _ _
    rw [seg117_28 (ha0 := ho1)]
    refine ⟨_, rfl, rfl, ?_⟩
    rw [seg173_0 (ha0 := ho95)]
    simp only [seg173_24 (ha0 := ho95)]
    simp [t4, H]
  · by_cases e1 : z1 = 1
    · subst e1
      show WP 124 xF1 none 117 33 _ _ _ _
      rw [seg117_33 (ha0 := ho1)]
      refine ⟨_, rfl, rfl, ?_⟩
      rw [seg173_0 (ha0 := ho95)]
      simp only [seg173_24 (ha0 := ho95)]
      simp [t5, H]
    · have e : xlook z1 38 [0, 28, 1, 33] = 38 := by simp [xlook, e0, e1]
      rw [e, seg117_38 (ha0 := ho1)]
      refine ⟨_, rfl, rfl, ?_⟩
      rw [seg173_0 (ha0 := ho95)]
      simp only [seg173_24 (ha0 := ho95)]
      simp [e0, e1, H]

theorem pair1 : ∀ (z1 : Int), xinP z1 → xpr (Inv K) 114 [some (.inr (.inr (some 1))), some (.inl z1)] 153 [some (.inr (.inr (some 95))), some (.inl z1)] := by
  intro z1 hz D H
  obtain ⟨⟨⟨t1, t2, t3, t4, t5⟩, tt, tw⟩, -⟩ := id H
  rw [seg114_0 (ha0 := ho1)]
  by_cases h : 0 ≤ z1 ∧ z1 ≤ D 1 1
  · simp (disch := omega) only [Option.toList_some, Option.toList_none, List.cons_append, List.nil_append, brT, brF, brQ, zoi, cnB, cnX, true_or, or_true, true_and, ite_not, Nat.reduceAdd, ne_eq]
    refine ⟨z1, rfl, up_ne (by decide), ?_⟩
    rw [seg153_0 (ha0 := ho95), m149]
    simp (disch := omega) only [Option.toList_some, Option.toList_none, List.cons_append, List.nil_append, up_ne, seg153_9 (ha0 := ho95), ifn1, brT]
    refine ⟨trivial, trivial, Inv_tape H (fun a h1 h2 h3 h4 => by rw [up_ne h3, up_ne h1]) ?_⟩
    simp (disch := omega) only [up_ne]
    refine ⟨⟨?_, ?_, ?_, ?_, ?_⟩, tt, ?_⟩ <;> simp [xup] <;> first | omega | exact tw
  · have h2 : WP 124 xF1 none 114 0 [some (.inr (.inr (some 1))), some (.inl z1)] [] D (fun v D1 => ∃ r : Int, v = some (.inl r) ∧ D1 0 = D 0 ∧ WP 124 xF1 none 153 0 [some (.inr (.inr (some 95))), some (.inl z1)] [] D1 (fun w D2 => w = some (.inl r) ∧ D2 0 = D 0 ∧ Inv K D2)) := by
      rw [seg114_0 (ha0 := ho1), seg114_12 (ha0 := ho1)]
      have k : ∃ r : Int, some (Sum.inl (-1)) = (some (.inl r) : Option xv) ∧ D 0 = D 0 ∧ WP 124 xF1 none 153 0 [some (.inr (.inr (some 95))), some (.inl z1)] [] D (fun w D2 => w = some (.inl r) ∧ D2 0 = D 0 ∧ Inv K D2) := by
        refine ⟨-1, rfl, rfl, ?_⟩
        rw [seg153_0 (ha0 := ho95), m149]
        simp (disch := omega) only [Option.toList_some, Option.toList_none, List.cons_append, List.nil_append, seg153_9 (ha0 := ho95), ifn1, brF]
        exact ⟨trivial, trivial, H⟩
      exact ⟨fun _ => k, fun a => ⟨fun b => absurd ⟨by omega, b⟩ h, fun _ => k⟩⟩
    rw [seg114_0 (ha0 := ho1)] at h2
    exact h2

end M38
