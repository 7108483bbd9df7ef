/-! outs: the class widens a street -/
section M94
variable {E x1 x2 x3 x4 n m h t F z s B wd wh : Int} {D D' D1 D2 : xD} {T w c c' r p b y : Int → Int} {o1 o2 o3 o4 o5 : Option xv} {V : (Int → Int → Int → Int → Int) → Int} {Q : Option xv → xD → Prop}
/-- the rooms of the street's arcs one more -/
def wiR (D : xD) (s : Int) (n : Int) (r : Int → Int) : Int → Int := fun j => if (0 ≤ j ∧ j < n) ∧ j % 2 = 0 ∧ D 62 j = s then r j + 1 else r j
theorem l35 (hE : 0 ≤ D 57 0 ∧ D 57 0 ≤ 1016 ∧ D 57 0 % 2 = 0) (hb : ∀ e, 0 ≤ e → e < D 57 0 → 0 ≤ D 61 e ∧ D 61 e ≤ 1000) (hq : ∀ D' : xD, (∀ a, a ≠ 61 → D' a = D a) → (∀ j, D' 61 j = wiR D x1 (D 57 0) (D 61) j) → Q none D') :
    ∀ (k : Nat) (x2 : Int) (D' : xD), x2 + 2 * k = D 57 0 → 0 ≤ x2 → (∀ a, a ≠ 61 → D' a = D a) → (∀ j, D' 61 j = wiR D x1 x2 (D 61) j) → WP 124 xF1 none 35 2 [some (.inr (.inr (some 57))), some (.inl x1), some (.inl x2)] [] D' Q := by
  intro k
  induction k with
  | zero =>
    intro x2 D' h1 h2 h3 h4
    rw [seg35_2 (ha0 := ho57), cnX (by omega), h3 57 (by decide), brT (by omega)]
    have e : x2 = D 57 0 := by omega
    rw [e] at h4
    exact hq D' h3 h4
  | succ k ih =>
    intro x2 D' h1 h2 h3 h4
    have e62 := h3 62 (by decide)
    have e61 : D' 61 x2 = D 61 x2 := by rw [h4]; unfold wiR; rw [if_neg (by omega)]
    have bb := hb x2 h2 (by omega)
    have nx : ∀ v, (v = if D 62 x2 ≠ x1 then 0 else 1) → WP 124 xF1 none 35 34 [some (.inr (.inr (some 57))), some (.inl x1), some (.inl x2)] [.inl v, .inl (D 61 x2), .inl x2, .inr (.inr (some 61))] D' Q := by
      intro v hv
      have hv2 : 0 ≤ v ∧ v ≤ 1 := by rw [hv]; split <;> omega
      rw [seg35_34 (ha0 := ho57) (hb3 := show xalen none 124 61 = some 1016 from rfl), cnX (by omega), cnB (by omega), cnX (by omega)]
      refine ih (x2 + 2) _ (by omega) (by omega) (fun a ha => by rw [up_ne ha]; exact h3 a ha) (fun j => ?_)
      rw [up_at]
      unfold wiR
      by_cases cj : j = x2
      · rw [if_pos cj, cj]
        by_cases c2 : D 62 x2 = x1
        · rw [if_pos (by omega), hv, if_neg (fun z => z c2)]
        · rw [if_neg (fun z => c2 z.2.2), hv, if_pos c2, Int.add_zero]
      · rw [if_neg cj, h4]
        unfold wiR
        by_cases c2 : (0 ≤ j ∧ j < x2) ∧ j % 2 = 0 ∧ D 62 j = x1
        · rw [if_pos c2, if_pos (by omega)]
        · rw [if_neg c2, if_neg (by omega)]
    rw [seg35_2 (ha0 := ho57), cnX (by omega), h3 57 (by decide), brF (by omega), cnB (by omega), cnB (by omega)]
    simp only [Nat.reduceAdd]
    rw [e62, e61]
    by_cases c2 : D 62 x2 ≠ x1
    · rw [brT c2]; exact nx 0 (by rw [if_pos c2])
    · rw [brF c2]; exact nx 1 (by rw [if_neg c2])
theorem m35 (hE : 0 ≤ D 57 0 ∧ D 57 0 ≤ 1016 ∧ D 57 0 % 2 = 0) (hb : ∀ e, 0 ≤ e → e < D 57 0 → 0 ≤ D 61 e ∧ D 61 e ≤ 1000) (hq : ∀ D' : xD, (∀ a, a ≠ 61 → D' a = D a) → (∀ j, D' 61 j = wiR D x1 (D 57 0) (D 61) j) → Q none D') : WP 124 xF1 none 35 0 [some (.inr (.inr (some 57))), some (.inl x1), o2] [] D Q := by
  rw [seg35_0 (ha0 := ho57)]
  exact l35 hE hb hq (D 57 0 / 2).toNat 0 D (by omega) (by omega) (fun _ _ => rfl) (fun j => by unfold wiR; rw [if_neg (by omega)])
/-- the same flow in the widened street's net -/
theorem cl_wide (hN : nsI D c (csS T 0)) (h99 : ∀ k, 0 ≤ k → 2 * k < D 57 0 → c (2 * k) ≤ 99) (hc : clI D c h F (csS T 0)) (hF : ∀ a, a ≠ 61 → D' a = D a) (hR : ∀ j, D' 61 j = wiR D s (D 57 0) (D 61) j) : ∃ V', clI D' (cPr (D' 61)) h F V' ∧ ∀ k, 0 ≤ k → 2 * k < D 57 0 → cPr (D' 61) (2 * k) = c (2 * k) + (if D 62 (2 * k) = s then 1 else 0) := by
  obtain ⟨-, hI, hb, h0⟩ := id hc
  have e57 := hF 57 (by decide)
  have e58 := hF 58 (by decide)
  have e59 := hF 59 (by decide)
  have e60 := hF 60 (by decide)
  have e62 := hF 62 (by decide)
  have hE := hN.1
  have od : ∀ k, D' 61 (2 * k + 1) = D 61 (2 * k + 1) := fun k => by rw [hR]; unfold wiR; rw [if_neg (by omega)]
  have ev : ∀ k, 0 ≤ k → 2 * k < D 57 0 → D' 61 (2 * k) = D 61 (2 * k) + (if D 62 (2 * k) = s then 1 else 0) := fun k k1 k2 => by
    rw [hR]; unfold wiR
    by_cases q : D 62 (2 * k) = s
    · rw [if_pos ⟨by omega, by omega, q⟩, if_pos q]
    · rw [if_neg (fun z => q z.2.2), if_neg q, Int.add_zero]
  have hcc : ∀ k, 0 ≤ k → 2 * k < D 57 0 → cPr (D' 61) (2 * k) = c (2 * k) + (if D 62 (2 * k) = s then 1 else 0) := fun k k1 k2 => by
    have := (hI.1 (2 * k) (by omega) k2).2
    rw [pr_ev] at this
    unfold cPr
    rw [pr_ev, od, ev k k1 k2]; omega
  refine ⟨fun f => smI (fun k => f (D 60 (2 * k + 1)) (D 60 (2 * k)) (cPr (D' 61) (2 * k)) (D 62 (2 * k))) 0 (D 57 0 / 2).toNat, ⟨⟨?_, ?_, ?_, ?_⟩, ⟨?_, ?_, ?_⟩, ?_, h0⟩, hcc⟩
  · rw [e57]; exact hE
  · rw [e57, e58, e59, e60]; exact hN.2.1
  · rw [e57, e60, e62]; exact fun f => rfl
  · rw [e57, e60, e62]
    intro k k1 k2
    obtain ⟨p1, p2, p3, p4, p5⟩ := hN.2.2.2 k k1 k2
    rw [hcc k k1 k2]
    exact ⟨p1, p2, p3, by split <;> omega, p5⟩
  · intro e q1 q2
    rw [e57] at q2
    refine ⟨?_, rfl⟩
    have := (hI.1 e q1 q2).1
    rw [hR]; unfold wiR
    split <;> omega
  · intro e q1 q2 q3 q4
    rw [e57] at q2
    have q4 : (alH h (D' 60 (prI e)) && alH h (D' 60 e)) = false := q4
    rw [e60] at q4
    have := hI.2.1 e q1 q2 q3 q4
    rw [hR]; unfold wiR
    rw [if_neg (by omega)]; exact this
  · intro y
    rw [← hI.2.2 y, e57, e60]
    unfold flL
    exact smI_congr _ _ (fun k _ _ => by rw [od])
  · intro k k1 k2
    rw [e57] at k2
    rw [hcc k k1 k2]
    have := h99 k k1 k2
    split <;> omega
end M94
