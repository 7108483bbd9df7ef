/-! nets: the reference's search, its labels -/
def mlS (D : xD) : Prop := (0 ≤ D 95 21 ∧ D 95 21 ≤ 1400 ∧ D 95 21 % 2 = 0) ∧ ajOk (D 95 21) (D 100) (D 104) (D 105) ∧ ntOk (D 95 21) (D 100) (D 101) (D 103) ∧ ∀ e, 0 ≤ e → e < D 95 21 → 0 ≤ D 102 e ∧ D 102 e ≤ 1000
def alT : Int → Bool := fun _ => true
/-- potentials that no room breaks -/
def poI (D : xD) (p : Int → Int) (B : Int) : Prop := flC (D 95 21) (D 100) (D 101) (D 103) alT (D 102) p ∧ (∀ v, -13 ≤ p v ∧ p v ≤ B) ∧ p 0 ≤ 0 ∧ p 1 = 0
/-- labels: what a way brings, and by which arc -/
def seI (D : xD) (p b vi : Int → Int) (rk : Int → Nat) : Prop :=
  (b 0 = 0 ∧ vi 0 = -1) ∧
  (∀ v, 0 ≤ v → v < 120 → (-1000000 ≤ b v ∧ b v ≤ p v - p 0) ∧ (v ≠ 0 → vi v = -1 → b v = -1000000)) ∧
  (∀ v, 0 ≤ v → v < 120 → vi v ≠ -1 → (0 ≤ vi v ∧ vi v < D 95 21) ∧ D 101 (vi v) = v ∧ (D 100 (vi v) = 0 ∨ vi (D 100 (vi v)) ≠ -1) ∧ 0 < D 102 (vi v) ∧ b v ≤ b (D 100 (vi v)) + D 103 (vi v) ∧ rk (D 100 (vi v)) < rk v ∧ -1000000 < b v)
def paM (D : xD) (vi : Int → Int) (x : Int) : Int := if vi x = -1 then x else D 100 (vi x)
def itM (D : xD) (vi : Int → Int) : Nat → Int → Int
  | 0, x => x
  | k + 1, x => itM D vi k (paM D vi x)
section M84
variable {E x1 x2 x3 x4 n m u h v e B : Int} {D D' D1 D2 : xD} {p b vi b' vi' : Int → Int} {rk : Int → Nat}
theorem it_le (hS : mlS D) (hP : poI D p B) (hI : seI D p b vi rk) : ∀ (k : Nat) (x : Int), 0 ≤ x → x < 120 → b x - p x ≤ b (itM D vi k x) - p (itM D vi k x) := by
  intro k
  induction k with
  | zero => intro x _ _; exact Int.le_refl _
  | succ k ih =>
    intro x x1 x2
    simp only [itM]
    by_cases c : vi x = -1
    · have e : paM D vi x = x := by unfold paM; rw [if_pos c]
      rw [e]; exact ih x x1 x2
    · have e : paM D vi x = D 100 (vi x) := by unfold paM; rw [if_neg c]
      obtain ⟨a1, a2, a3, a4, a5, a6⟩ := hI.2.2 x x1 x2 c
      have hN := hS.2.2.1.2 _ a1.1 a1.2
      have hC := hP.1 _ a1.1 a1.2 rfl rfl a4
      rw [a2] at hC
      rw [e]
      have := ih (D 100 (vi x)) hN.1.1 hN.1.2
      omega
theorem se_up (hS : mlS D) (hP : poI D p B) (hI : seI D p b vi rk) (he : 0 ≤ e ∧ e < D 95 21) (hr : 0 < D 102 e) (hu : D 100 e = 0 ∨ vi (D 100 e) ≠ -1) (hb : b (D 101 e) < b (D 100 e) + D 103 e) (hB : ∀ j, b' j = if j = D 101 e then b (D 100 e) + D 103 e else b j) (hV : ∀ j, vi' j = if j = D 101 e then e else vi j) : D 101 e ≠ 0 ∧ ∃ rk', seI D p b' vi' rk' := by
  obtain ⟨h, hh⟩ : ∃ h, h = D 101 e := ⟨_, rfl⟩
  obtain ⟨u, huu⟩ : ∃ u, u = D 100 e := ⟨_, rfl⟩
  have hN := hS.2.2.1.2 e he.1 he.2
  have hC := hP.1 e he.1 he.2 rfl rfl hr
  rw [← hh, ← huu] at hN hC
  rw [← hh, ← huu] at hB
  rw [← hh] at hV
  rw [← huu] at hu
  rw [← hh, ← huu] at hb
  rw [← hh]
  obtain ⟨⟨i1, i2⟩, i3, i4⟩ := id hI
  have bu := i3 u hN.1.1 hN.1.2
  have bh := i3 h hN.2.1.1 hN.2.1.2
  have h0 : h ≠ 0 := fun z => by
    rw [z] at hb hC
    rw [i1] at hb
    omega
  refine ⟨h0, ?_⟩
  have nd : ¬ ∃ k, itM D vi k u = h := fun ⟨k, hk⟩ => by
    have := it_le hS hP hI k u hN.1.1 hN.1.2
    rw [hk] at this
    omega
  have dp : ∀ x, x ≠ h → vi x ≠ -1 → ((∃ k, itM D vi k x = h) ↔ ∃ k, itM D vi k (D 100 (vi x)) = h) := fun x hx hv => by
    have e : paM D vi x = D 100 (vi x) := by unfold paM; rw [if_neg hv]
    constructor
    · intro ⟨k, hk⟩
      cases k with
      | zero => exact absurd hk hx
      | succ k => exact ⟨k, by rw [← e]; exact hk⟩
    · intro ⟨k, hk⟩
      exact ⟨k + 1, by simp only [itM]; rw [e]; exact hk⟩
  have uh : u ≠ h := hN.2.2.1
  haveI : ∀ x, Decidable (∃ k, itM D vi k x = h) := fun x => Classical.propDecidable _
  refine ⟨fun x => if (∃ k, itM D vi k x = h) then rk x + rk u + 1 else rk x, ⟨by rw [hB, if_neg (fun z => h0 z.symm)]; exact i1, by rw [hV, if_neg (fun z => h0 z.symm)]; exact i2⟩, fun v v1 v2 => ?_, fun v v1 v2 hv => ?_⟩
  · rw [hB, hV]
    by_cases c : v = h
    · rw [if_pos c, if_pos c, c]
      exact ⟨by omega, fun _ z => by omega⟩
    · rw [if_neg c, if_neg c]; exact i3 v v1 v2
  · rw [hV] at hv ⊢
    by_cases c : v = h
    · rw [if_pos c, ← huu, ← hh, c]
      refine ⟨he, rfl, ?_, hr, ?_, ?_, ?_⟩
      · rcases hu with q | q
        · exact .inl q
        · right; rw [hV, if_neg uh]; exact q
      · rw [hB, if_pos rfl, hB, if_neg uh]; exact Int.le_refl _
      · show (if (∃ k, itM D vi k u = h) then rk u + rk u + 1 else rk u) < (if (∃ k, itM D vi k h = h) then rk h + rk u + 1 else rk h)
        rw [if_neg nd, if_pos ⟨0, rfl⟩]; omega
      · rw [hB, if_pos rfl]; omega
    · rw [if_neg c] at hv ⊢
      obtain ⟨a1, a2, a3, a4, a5, a6, a7⟩ := i4 v v1 v2 hv
      have hN2 := hS.2.2.1.2 _ a1.1 a1.2
      refine ⟨a1, a2, ?_, a4, ?_, ?_, ?_⟩
      · rcases a3 with q | q
        · exact .inl q
        · right
          rw [hV]
          by_cases c2 : D 100 (vi v) = h
          · rw [if_pos c2]; omega
          · rw [if_neg c2]; exact q
      · rw [hB, if_neg c, hB]
        by_cases c2 : D 100 (vi v) = h
        · rw [if_pos c2]; rw [c2] at a5; omega
        · rw [if_neg c2]; exact a5
      · show (if (∃ k, itM D vi k (D 100 (vi v)) = h) then rk (D 100 (vi v)) + rk u + 1 else rk (D 100 (vi v))) < (if (∃ k, itM D vi k v = h) then rk v + rk u + 1 else rk v)
        by_cases c3 : ∃ k, itM D vi k (D 100 (vi v)) = h
        · rw [if_pos c3, if_pos ((dp v c hv).mpr c3)]; omega
        · rw [if_neg c3, if_neg (fun z => c3 ((dp v c hv).mp z))]; exact a6
      · rw [hB, if_neg c]; exact a7
/-- the line of those that wait: n of them from place x1 on -/
def sqI (wt ln : Int → Int) (x1 n : Int) : Prop := (∀ v, 0 ≤ v → v < 120 → wt v = 0 ∨ wt v = 1) ∧ smI wt 0 120 = n ∧ (0 ≤ x1 ∧ x1 < 128) ∧ (∀ i, 0 ≤ i → i < n → (0 ≤ ln ((x1 + i) % 128) ∧ ln ((x1 + i) % 128) < 120) ∧ wt (ln ((x1 + i) % 128)) = 1) ∧ ∀ i j, 0 ≤ i → i < j → j < n → ln ((x1 + i) % 128) ≠ ln ((x1 + j) % 128)
theorem sm_bd {f : Int → Int} : ∀ (k : Nat) (i : Int), (∀ j, i ≤ j → j < i + k → 0 ≤ f j ∧ f j ≤ 1) → 0 ≤ smI f i k ∧ smI f i k ≤ k ∧ (smI f i k ≤ 0 → ∀ j, i ≤ j → j < i + k → f j = 0) := by
  intro k
  induction k with
  | zero => intro i _; exact ⟨Int.le_refl _, Int.le_refl _, fun _ j j1 j2 => by omega⟩
  | succ k ih =>
    intro i hf
    simp only [smI]
    have h0 := hf i (by omega) (by omega)
    obtain ⟨h1, h2, h3⟩ := ih (i + 1) (fun j j1 j2 => hf j (by omega) (by omega))
    refine ⟨by omega, by omega, fun z j j1 j2 => ?_⟩
    by_cases c : j = i
    · rw [c]; omega
    · exact h3 (by omega) j (by omega) (by omega)
theorem sq_bd {wt ln : Int → Int} (h : sqI wt ln x1 n) : (0 ≤ n ∧ n ≤ 120) ∧ (n ≤ 0 → ∀ v, 0 ≤ v → v < 120 → wt v = 0) := by
  obtain ⟨h1, h2, -⟩ := h
  have := sm_bd (f := wt) 120 0 (fun j j1 j2 => by have := h1 j j1 (by omega); omega)
  rw [h2] at this
  exact ⟨⟨this.1, this.2.1⟩, fun z v v1 v2 => this.2.2 z v v1 (by omega)⟩
theorem sq_pop {wt ln wt' : Int → Int} (h : sqI wt ln x1 n) (hn : 1 ≤ n) (hw : ∀ v, wt' v = if v = ln x1 then 0 else wt v) : (0 ≤ ln x1 ∧ ln x1 < 120) ∧ sqI wt' ln ((x1 + 1) % 128) (n - 1) := by
  obtain ⟨h1, h2, h3, h4, h5⟩ := h
  have e0 : (x1 + 0) % 128 = x1 := by omega
  have a0 := h4 0 (by omega) (by omega)
  rw [e0] at a0
  refine ⟨a0.1, fun v v1 v2 => ?_, ?_, by omega, fun i i1 i2 => ?_, fun i j i1 i2 i3 => ?_⟩
  · rw [hw]
    by_cases c : v = ln x1
    · rw [if_pos c]; exact .inl rfl
    · rw [if_neg c]; exact h1 v v1 v2
  · have key := smI_pt (f := wt) (g := wt') 120 0 (ln x1) (-1) (by omega) (by omega) (fun j hj => by rw [hw, if_neg hj]) (by rw [hw, if_pos rfl, a0.2]; rfl)
    omega
  · have ei : ((x1 + 1) % 128 + i) % 128 = (x1 + (i + 1)) % 128 := by omega
    rw [ei]
    have a1 := h4 (i + 1) (by omega) (by omega)
    have a2 := h5 0 (i + 1) (by omega) (by omega) (by omega)
    rw [e0] at a2
    refine ⟨a1.1, ?_⟩
    rw [hw, if_neg (fun z => a2 z.symm)]
    exact a1.2
  · have ei : ((x1 + 1) % 128 + i) % 128 = (x1 + (i + 1)) % 128 := by omega
    have ej : ((x1 + 1) % 128 + j) % 128 = (x1 + (j + 1)) % 128 := by omega
    rw [ei, ej]
    exact h5 (i + 1) (j + 1) (by omega) (by omega) (by omega)
theorem sq_put {wt ln wt' ln' : Int → Int} (h : sqI wt ln x1 n) (hv : 0 ≤ v ∧ v < 120) (h0 : wt v = 0) (hw : ∀ u, wt' u = if u = v then 1 else wt u) (hl : ∀ j, ln' j = if j = (x1 + n) % 128 then v else ln j) : sqI wt' ln' x1 (n + 1) := by
  have bd := (sq_bd h).1
  obtain ⟨h1, h2, h3, h4, h5⟩ := h
  have ne : ∀ i, 0 ≤ i → i < n → (x1 + i) % 128 ≠ (x1 + n) % 128 := fun i i1 i2 => by omega
  refine ⟨fun u u1 u2 => ?_, ?_, h3, fun i i1 i2 => ?_, fun i j i1 i2 i3 => ?_⟩
  · rw [hw]
    by_cases c : u = v
    · rw [if_pos c]; exact .inr rfl
    · rw [if_neg c]; exact h1 u u1 u2
  · have key := smI_pt (f := wt) (g := wt') 120 0 v 1 (by omega) (by omega) (fun j hj => by rw [hw, if_neg hj]) (by rw [hw, if_pos rfl, h0]; rfl)
    omega
  · rw [hl]
    by_cases c : i = n
    · rw [c, if_pos rfl, hw, if_pos rfl]; exact ⟨hv, rfl⟩
    · rw [if_neg (ne i i1 (by omega))]
      have a := h4 i i1 (by omega)
      refine ⟨a.1, ?_⟩
      rw [hw, if_neg (fun z => by rw [z] at a; omega)]
      exact a.2
  · rw [hl, hl, if_neg (ne i i1 (by omega))]
    have a := h4 i i1 (by omega)
    by_cases c : j = n
    · rw [c, if_pos rfl]
      intro z
      rw [z] at a
      omega
    · rw [if_neg (ne j (by omega) (by omega))]
      exact h5 i j i1 i2 (by omega)
end M84
