/-! outs: the class's gains -/
section M97
variable {E x1 x2 x3 x4 n m h t F z s B wd wh : Int} {D D' D1 D2 : xD} {T w c r p b y : Int → Int} {o1 o2 o3 o4 o5 : Option xv} {V : (Int → Int → Int → Int → Int) → Int} {Q : Option xv → xD → Prop}
theorem l41 (hE : 0 ≤ D 57 0 ∧ D 57 0 ≤ 1016 ∧ D 57 0 % 2 = 0) (hl : ∀ k, 0 ≤ k → 2 * k < D 57 0 → -1 ≤ D 62 (2 * k) ∧ D 62 (2 * k) ≤ 28) (hw : ∀ t, 0 ≤ t → t ≤ 12 → 0 ≤ D 72 t ∧ D 72 t ≤ 13)
    (hq : ∀ D' : xD, (∀ a, a ≠ 63 → D' a = D a) → (∀ e, 0 ≤ e → e < D 57 0 → D' 63 e = gnE (D 72) (D 62) e) → Q none D') :
    ∀ (k : Nat) (x2 : Int) (D' : xD) (o3 : Option xv), x2 + 2 * k = D 57 0 → 0 ≤ x2 → (∀ a, a ≠ 63 → D' a = D a) → (∀ e, 0 ≤ e → e < x2 → D' 63 e = gnE (D 72) (D 62) e) → WP 124 xF1 none 41 2 [some (.inr (.inr (some 57))), some (.inr (.inr (some 72))), some (.inl x2), o3] [] D' Q := by
  intro k
  induction k with
  | zero =>
    intro x2 D' o3 h1 h2 h3 h4
    rw [seg41_2 (ha0 := ho57) (ha1 := show xalen none 124 72 = some 13 from rfl), cnX (by omega), h3 57 (by decide), brT (by omega)]
    exact hq D' h3 (fun e q1 q2 => h4 e q1 (by omega))
  | succ k ih =>
    intro x2 D' o3 h1 h2 h3 h4
    obtain ⟨j, rfl⟩ : ∃ j, x2 = 2 * j := ⟨x2 / 2, by omega⟩
    have lb := hl j (by omega) (by omega)
    have fin : ∀ v, v = gnL (D 72) (D 62 (2 * j)) → (0 ≤ v ∧ v ≤ 13) → WP 124 xF1 none 41 38 [some (.inr (.inr (some 57))), some (.inr (.inr (some 72))), some (.inl (2 * j)), some (.inl (D 62 (2 * j) - 16))] [.inl v, .inl (2 * j), .inr (.inr (some 63))] D' Q := by
      intro v hv hv2
      rw [seg41_38 (ha0 := ho57) (ha1 := show xalen none 124 72 = some 13 from rfl) (hb2 := show xalen none 124 63 = some 1016 from rfl), cnB (by omega), cnX (by omega), cnB (by omega)]
      simp only [Nat.reduceAdd]
      rw [up_eq, cnX (by omega), cnB (by omega), cnX (by omega)]
      refine ih (2 * j + 2) _ _ (by omega) (by omega) (fun a ha => by rw [up_ne ha, up_ne ha]; exact h3 a ha) (fun e q1 q2 => ?_)
      rw [up_at]
      by_cases c1 : e = 2 * j + 1
      · rw [if_pos c1, c1, gn_od, hv]
      · rw [if_neg c1, up_at]
        by_cases c2 : e = 2 * j
        · rw [if_pos c2, c2, gn_ev, hv]
        · rw [if_neg c2]; exact h4 e q1 (by omega)
    rw [seg41_2 (ha0 := ho57) (ha1 := show xalen none 124 72 = some 13 from rfl), cnX (by omega), h3 57 (by decide), brF (by omega), cnB (by omega)]
    simp only [Nat.reduceAdd]
    rw [h3 62 (by decide), h3 72 (by decide), cnX (by omega)]
    by_cases c : D 62 (2 * j) - 16 < 0
    · rw [brT c]
      exact fin 0 (by unfold gnL; rw [if_neg (by omega)]) (by decide)
    · rw [brF c, cnB (by omega)]
      exact fin _ (by unfold gnL; rw [if_pos (by omega)]) (hw _ (by omega) (by omega))
theorem m41 (hE : 0 ≤ D 57 0 ∧ D 57 0 ≤ 1016 ∧ D 57 0 % 2 = 0) (hl : ∀ k, 0 ≤ k → 2 * k < D 57 0 → -1 ≤ D 62 (2 * k) ∧ D 62 (2 * k) ≤ 28) (hw : ∀ t, 0 ≤ t → t ≤ 12 → 0 ≤ D 72 t ∧ D 72 t ≤ 13)
    (hq : ∀ D' : xD, (∀ a, a ≠ 63 → D' a = D a) → (∀ e, 0 ≤ e → e < D 57 0 → D' 63 e = gnE (D 72) (D 62) e) → Q none D') : WP 124 xF1 none 41 0 [some (.inr (.inr (some 57))), some (.inr (.inr (some 72))), o2, o3] [] D Q := by
  rw [seg41_0 (ha0 := ho57) (ha1 := show xalen none 124 72 = some 13 from rfl)]
  exact l41 hE hl hw hq (D 57 0 / 2).toNat 0 D _ (by omega) (by omega) (fun _ _ => rfl) (fun e q1 q2 => by omega)
end M97
