/-! nets: far falls when no tight way is left -/
section M98c
variable {h v : Int} {D D' : xD} {p far via : Int → Int}
theorem me_lt (hN : ntOk (D 57 0) (fun e => D 60 (prI e)) (D 60) (D 63)) (hf : far = D 67) (h1 : ∀ e, 0 ≤ e → e < D 57 0 → okB D h e → far (D 60 (prI e)) ≠ -1000000 → far (D 60 (prI e)) + D 63 e ≤ far (D 60 e)) (h0 : far 118 = 0) (hs : via 118 ≠ -1) (hC : srC D via h 1 (fun e => via (D 60 (prI e)) ≠ -1)) (hT : via 119 = -1) (hM : meE D D' h p) : D' 67 119 < far 119 ∨ D' 67 119 = -1000000 := by
  obtain ⟨hF, vi, rk, st, hI, hcl⟩ := hM
  have key : ∀ (k : Nat) (u : Int), rk u ≤ k → 0 ≤ u → u < 120 → (u = 118 ∨ vi u ≠ -1) → (D' 67 u ≤ far u ∧ far u ≠ -1000000) ∧ (D' 67 u = far u → via u ≠ -1) := by
    intro k
    induction k with
    | zero =>
      intro u u1 u2 u3 u4
      by_cases c : u = 118
      · rw [c, h0, hI.1.1]; exact ⟨⟨Int.le_refl _, by decide⟩, fun _ => hs⟩
      · have := (hI.2.2 u u2 u3 (u4.resolve_left c)).2.2.2.2.2.1
        omega
    | succ k ih =>
      intro u u1 u2 u3 u4
      by_cases c : u = 118
      · rw [c, h0, hI.1.1]; exact ⟨⟨Int.le_refl _, by decide⟩, fun _ => hs⟩
      · obtain ⟨a1, a2, a3, a4, a5, a6, a7, a8⟩ := hI.2.2 u u2 u3 (u4.resolve_left c)
        have nN := (hN.2 _ a1.1 a1.2).1
        have nN : 0 ≤ D 60 (prI (vi u)) ∧ D 60 (prI (vi u)) < 120 := nN
        have a6 : rk (D 60 (prI (vi u))) < rk u := a6
        have a5 : D' 67 u ≤ D' 67 (D 60 (prI (vi u))) + D 63 (vi u) := a5
        obtain ⟨⟨i1, i2⟩, i3⟩ := ih (D 60 (prI (vi u))) (by omega) nN.1 nN.2 a3
        have c1 := h1 _ a1.1 a1.2 a4 i2
        rw [a2] at c1
        refine ⟨⟨by omega, by omega⟩, fun z => ?_⟩
        have t := i3 (by omega)
        have := hC _ a1.1 a1.2 t ⟨a4.1, a4.2.2, .inr (by rw [← hf, a2]; omega)⟩
        rw [a2] at this
        exact this
  by_cases c : vi 119 = -1
  · exact .inr ((hI.2.1 119 (by decide) (by decide)).2.1 (by decide) c)
  · obtain ⟨⟨k1, k2⟩, k3⟩ := key _ 119 (Nat.le_refl _) (by decide) (by decide) (.inr c)
    left
    have : D' 67 119 ≠ far 119 := fun z => k3 z hT
    omega
end M98c
