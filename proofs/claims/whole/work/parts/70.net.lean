/-! nets: flows, what they are worth, duals -/
def prI (e : Int) : Int := if e % 2 = 0 then e + 1 else e - 1
def ntOk (E : Int) (tl hd gn : Int → Int) : Prop := (0 ≤ E ∧ E % 2 = 0) ∧ ∀ e, 0 ≤ e → e < E → (0 ≤ tl e ∧ tl e < 120) ∧ (0 ≤ hd e ∧ hd e < 120) ∧ tl e ≠ hd e ∧ tl (prI e) = hd e ∧ hd (prI e) = tl e ∧ gn (prI e) = - gn e ∧ (-13 ≤ gn e ∧ gn e ≤ 13)
def flL (E : Int) (r w : Int → Int) : Int := smI (fun k => r (2 * k + 1) * w (2 * k)) 0 (E / 2).toNat
/-- a flow of value F, in the rooms r; c: both rooms of a pair; al: the nodes that are there -/
def flI (E : Int) (tl hd c : Int → Int) (al : Int → Bool) (S Tk : Int) (r : Int → Int) (F : Int) : Prop :=
  (∀ e, 0 ≤ e → e < E → 0 ≤ r e ∧ r e + r (prI e) = c e) ∧
  (∀ e, 0 ≤ e → e < E → e % 2 = 1 → (al (tl e) && al (hd e)) = false → r e = 0) ∧
  ∀ y : Int → Int, flL E r (fun e => y (tl e) - y (hd e)) = F * (y S - y Tk)
/-- no arc with room breaks y -/
def flC (E : Int) (tl hd gn : Int → Int) (al : Int → Bool) (r y : Int → Int) : Prop := ∀ e, 0 ≤ e → e < E → al (tl e) = true → al (hd e) = true → 0 < r e → y (tl e) + gn e ≤ y (hd e)
def duS (E : Int) (tl hd gn c : Int → Int) (al : Int → Bool) (y : Int → Int) : Int := smI (fun k => if (al (tl (2 * k)) && al (hd (2 * k))) = true then c (2 * k) * max 0 (gn (2 * k) + y (tl (2 * k)) - y (hd (2 * k))) else 0) 0 (E / 2).toNat
def opT (S Tk : Int) (f : (Int → Int) → Int) (z : Int) : Prop := (∃ y : Int → Int, y S = 0 ∧ y Tk = 0 ∧ f y = z) ∧ ∀ y : Int → Int, y S = 0 → y Tk = 0 → z ≤ f y
section M70
variable {E S Tk F W n v u e k z z' : Int} {tl hd gn c r r' w y b : Int → Int} {al : Int → Bool} {f : (Int → Int) → Int}
theorem op_un (h1 : opT S Tk f z) (h2 : opT S Tk f z') : z = z' := by
  obtain ⟨⟨y, a1, a2, a3⟩, a4⟩ := h1
  obtain ⟨⟨y', b1, b2, b3⟩, b4⟩ := h2
  have := a4 y' b1 b2
  have := b4 y a1 a2
  omega
theorem prI_rg (hE : 0 ≤ E ∧ E % 2 = 0) (h : 0 ≤ e ∧ e < E) : 0 ≤ prI e ∧ prI e < E := by unfold prI; split <;> omega
theorem prI_pr (e : Int) : prI (prI e) = e := by
  unfold prI
  by_cases h : e % 2 = 0
  · rw [if_pos h, if_neg (by omega)]; omega
  · rw [if_neg h, if_pos (by omega)]; omega
theorem prI_ne (e : Int) : prI e ≠ e := by unfold prI; split <;> omega
theorem fl_push (hE : 0 ≤ E ∧ E % 2 = 0) (hw : ∀ e, 0 ≤ e → e < E → w (prI e) = - w e) (he : 0 ≤ e ∧ e < E) (h1 : r' e = r e - n) (h2 : r' (prI e) = r (prI e) + n) (h3 : ∀ j, j ≠ e → j ≠ prI e → r' j = r j) : flL E r' w = flL E r w + n * w e := by
  unfold flL
  refine smI_pt (E / 2).toNat 0 (e / 2) (n * w e) (by omega) (by omega) (fun j hj => ?_) ?_
  · rw [h3 (2 * j + 1) (by omega) (by unfold prI; split <;> omega)]
  · by_cases hp : e % 2 = 0
    · have e1 : 2 * (e / 2) = e := by omega
      have e2 : e + 1 = prI e := by unfold prI; rw [if_pos hp]
      rw [e1, e2, h2, Int.add_mul]
    · have e1 : 2 * (e / 2) + 1 = e := by omega
      have e2 : 2 * (e / 2) = prI e := by unfold prI; rw [if_neg hp]; omega
      rw [e1, h1, e2, Int.sub_mul, hw e he.1 he.2, Int.mul_neg, Int.mul_neg]
      omega
theorem fl_add {w1 w2 : Int → Int} : flL E r (fun e => w1 e + w2 e) = flL E r w1 + flL E r w2 := by
  unfold flL
  rw [← smI_add]
  exact smI_congr _ _ (fun j _ _ => Int.mul_add _ _ _)
theorem fl_cg {w1 w2 : Int → Int} (h : ∀ e, 0 ≤ e → e < E → w1 e = w2 e) : flL E r w1 = flL E r w2 := by
  unfold flL
  refine smI_congr _ _ (fun j j1 j2 => ?_)
  rw [h (2 * j) (by omega) (by omega)]
theorem smI_le {f g : Int → Int} : ∀ (k : Nat) (i : Int), (∀ j, i ≤ j → j < i + k → f j ≤ g j) → smI f i k ≤ smI g i k := fun k i h => (smI_mono k i h).1
theorem fl_sum (hI : flI E tl hd c al S Tk r F) : flL E r (fun e => gn e + y (tl e) - y (hd e)) = flL E r gn + F * (y S - y Tk) := by
  rw [← hI.2.2 y, ← fl_add]
  exact fl_cg (fun e _ _ => by omega)
theorem fl_weak (hN : ntOk E tl hd gn) (hI : flI E tl hd c al S Tk r F) (y : Int → Int) : flL E r gn + F * (y S - y Tk) ≤ duS E tl hd gn c al y := by
  rw [← fl_sum (gn := gn) (y := y) hI]
  unfold flL duS
  refine smI_le _ _ (fun j j1 j2 => ?_)
  have hr : 0 ≤ 2 * j ∧ 2 * j < E ∧ 2 * j + 1 < E := by have := hN.1; omega
  have ep : prI (2 * j) = 2 * j + 1 := by unfold prI; rw [if_pos (by omega)]
  have h1 := hI.1 (2 * j) hr.1 hr.2.1
  have h2 := hI.1 (2 * j + 1) (by omega) hr.2.2
  rw [ep] at h1
  by_cases ha : (al (tl (2 * j)) && al (hd (2 * j))) = true
  · rw [if_pos ha]
    by_cases hg : 0 ≤ gn (2 * j) + y (tl (2 * j)) - y (hd (2 * j))
    · rw [show max 0 (gn (2 * j) + y (tl (2 * j)) - y (hd (2 * j))) = gn (2 * j) + y (tl (2 * j)) - y (hd (2 * j)) by omega]
      exact Int.mul_le_mul_of_nonneg_right (by omega) hg
    · rw [show max 0 (gn (2 * j) + y (tl (2 * j)) - y (hd (2 * j))) = 0 by omega, Int.mul_zero]
      have := Int.mul_le_mul_of_nonneg_left (show gn (2 * j) + y (tl (2 * j)) - y (hd (2 * j)) ≤ 0 by omega) h2.1
      rw [Int.mul_zero] at this
      exact this
  · rw [if_neg ha]
    have hN1 := hN.2 (2 * j) hr.1 hr.2.1
    rw [ep] at hN1
    have := hI.2.1 (2 * j + 1) (by omega) hr.2.2 (by omega) (by
      rw [hN1.2.2.2.1, hN1.2.2.2.2.1, Bool.and_comm]
      exact Bool.not_eq_true _ ▸ ha)
    rw [this, Int.zero_mul]
    exact Int.le_refl _
theorem fl_opt (hN : ntOk E tl hd gn) (hI : flI E tl hd c al S Tk r F) (hC : flC E tl hd gn al r y) : flL E r gn + F * (y S - y Tk) = duS E tl hd gn c al y := by
  rw [← fl_sum (gn := gn) (y := y) hI]
  unfold flL duS
  refine smI_congr _ _ (fun j j1 j2 => ?_)
  have hr : 0 ≤ 2 * j ∧ 2 * j < E ∧ 2 * j + 1 < E := by have := hN.1; omega
  have ep : prI (2 * j) = 2 * j + 1 := by unfold prI; rw [if_pos (by omega)]
  have h1 := hI.1 (2 * j) hr.1 hr.2.1
  have h2 := hI.1 (2 * j + 1) (by omega) hr.2.2
  have hN1 := hN.2 (2 * j) hr.1 hr.2.1
  rw [ep] at hN1 h1
  obtain ⟨-, -, -, n4, n5, n6, -⟩ := hN1
  by_cases ha : (al (tl (2 * j)) && al (hd (2 * j))) = true
  · rw [if_pos ha]
    have ha2 := Bool.and_eq_true_iff.mp ha
    have c1 := hC (2 * j) hr.1 hr.2.1 ha2.1 ha2.2
    have c2 := hC (2 * j + 1) (by omega) hr.2.2 (by rw [n4]; exact ha2.2) (by rw [n5]; exact ha2.1)
    rw [n4, n5, n6] at c2
    rcases Int.lt_trichotomy (gn (2 * j) + y (tl (2 * j)) - y (hd (2 * j))) 0 with hg | hg | hg
    · have : r (2 * j + 1) = 0 := by
        by_cases q : 0 < r (2 * j + 1)
        · have := c2 q; omega
        · omega
      rw [this, Int.zero_mul, show max 0 (gn (2 * j) + y (tl (2 * j)) - y (hd (2 * j))) = 0 by omega, Int.mul_zero]
    · show r (2 * j + 1) * (gn (2 * j) + y (tl (2 * j)) - y (hd (2 * j))) = _
      rw [hg, Int.mul_zero, show max 0 (0 : Int) = 0 by omega, Int.mul_zero]
    · have : r (2 * j) = 0 := by
        by_cases q : 0 < r (2 * j)
        · have := c1 q; omega
        · omega
      rw [show max 0 (gn (2 * j) + y (tl (2 * j)) - y (hd (2 * j))) = gn (2 * j) + y (tl (2 * j)) - y (hd (2 * j)) by omega, show r (2 * j + 1) = c (2 * j) by omega]
  · rw [if_neg ha]
    have := hI.2.1 (2 * j + 1) (by omega) hr.2.2 (by omega) (by
      rw [n4, n5, Bool.and_comm]
      exact Bool.not_eq_true _ ▸ ha)
    rw [this, Int.zero_mul]
/-- a flow that no y breaks is worth the most -/
theorem fl_max (hN : ntOk E tl hd gn) (hI : flI E tl hd c al S Tk r F) (hC : flC E tl hd gn al r y) (hS : y S = 0) (hT : y Tk = 0) : opT S Tk (duS E tl hd gn c al) (flL E r gn) := by
  refine ⟨⟨y, hS, hT, ?_⟩, fun y' h1 h2 => ?_⟩
  · have := fl_opt hN hI hC
    rw [hS, hT] at this
    rw [← this]; simp
  · have := fl_weak hN hI y'
    rw [h1, h2] at this
    simpa using this
/-- and any y that is as cheap breaks no arc with room -/
theorem fl_back (hN : ntOk E tl hd gn) (hI : flI E tl hd c al S Tk r F) (hy : flL E r gn + F * (y S - y Tk) = duS E tl hd gn c al y) : flC E tl hd gn al r y := by
  rw [← fl_sum (gn := gn) (y := y) hI] at hy
  have key : ∀ j, 0 ≤ j → j < 0 + ((E / 2).toNat : Int) → r (2 * j + 1) * (gn (2 * j) + y (tl (2 * j)) - y (hd (2 * j))) = (if (al (tl (2 * j)) && al (hd (2 * j))) = true then c (2 * j) * max 0 (gn (2 * j) + y (tl (2 * j)) - y (hd (2 * j))) else 0) := by
    intro j j1 j2
    have le : ∀ j, 0 ≤ j → j < 0 + ((E / 2).toNat : Int) → r (2 * j + 1) * (gn (2 * j) + y (tl (2 * j)) - y (hd (2 * j))) ≤ (if (al (tl (2 * j)) && al (hd (2 * j))) = true then c (2 * j) * max 0 (gn (2 * j) + y (tl (2 * j)) - y (hd (2 * j))) else 0) := by
      intro j j1 j2
      have hr : 0 ≤ 2 * j ∧ 2 * j < E ∧ 2 * j + 1 < E := by have := hN.1; omega
      have ep : prI (2 * j) = 2 * j + 1 := by unfold prI; rw [if_pos (by omega)]
      have h1 := hI.1 (2 * j) hr.1 hr.2.1
      have h2 := hI.1 (2 * j + 1) (by omega) hr.2.2
      rw [ep] at h1
      by_cases ha : (al (tl (2 * j)) && al (hd (2 * j))) = true
      · rw [if_pos ha]
        by_cases hg : 0 ≤ gn (2 * j) + y (tl (2 * j)) - y (hd (2 * j))
        · rw [show max 0 (gn (2 * j) + y (tl (2 * j)) - y (hd (2 * j))) = gn (2 * j) + y (tl (2 * j)) - y (hd (2 * j)) by omega]
          exact Int.mul_le_mul_of_nonneg_right (by omega) hg
        · rw [show max 0 (gn (2 * j) + y (tl (2 * j)) - y (hd (2 * j))) = 0 by omega, Int.mul_zero]
          have := Int.mul_le_mul_of_nonneg_left (show gn (2 * j) + y (tl (2 * j)) - y (hd (2 * j)) ≤ 0 by omega) h2.1
          rw [Int.mul_zero] at this
          exact this
      · rw [if_neg ha]
        have hN1 := hN.2 (2 * j) hr.1 hr.2.1
        rw [ep] at hN1
        have := hI.2.1 (2 * j + 1) (by omega) hr.2.2 (by omega) (by
          rw [hN1.2.2.2.1, hN1.2.2.2.2.1, Bool.and_comm]
          exact Bool.not_eq_true _ ▸ ha)
        rw [this, Int.zero_mul]
        exact Int.le_refl _
    have h := le j j1 j2
    by_cases q : r (2 * j + 1) * (gn (2 * j) + y (tl (2 * j)) - y (hd (2 * j))) + 1 ≤ (if (al (tl (2 * j)) && al (hd (2 * j))) = true then c (2 * j) * max 0 (gn (2 * j) + y (tl (2 * j)) - y (hd (2 * j))) else 0)
    · have := (smI_mono (f := fun j => r (2 * j + 1) * (gn (2 * j) + y (tl (2 * j)) - y (hd (2 * j)))) (g := fun j => if (al (tl (2 * j)) && al (hd (2 * j))) = true then c (2 * j) * max 0 (gn (2 * j) + y (tl (2 * j)) - y (hd (2 * j))) else 0) (E / 2).toNat 0 le).2 ⟨j, ⟨j1, j2⟩, q⟩
      have hy' : smI (fun j => r (2 * j + 1) * (gn (2 * j) + y (tl (2 * j)) - y (hd (2 * j)))) 0 (E / 2).toNat = smI (fun j => if (al (tl (2 * j)) && al (hd (2 * j))) = true then c (2 * j) * max 0 (gn (2 * j) + y (tl (2 * j)) - y (hd (2 * j))) else 0) 0 (E / 2).toNat := hy
      omega
    · omega
  intro e e1 e2 a1 a2 hr
  have h2 := hI.1 e e1 e2
  by_cases hp : e % 2 = 0
  · have k := key (e / 2) (by omega) (by have := hN.1; omega)
    have ee : 2 * (e / 2) = e := by omega
    have ep : e + 1 = prI e := by unfold prI; rw [if_pos hp]
    rw [ee, ep, a1, a2, if_pos (show (true && true) = true from rfl)] at k
    by_cases q : 0 < gn e + y (tl e) - y (hd e)
    · rw [show max 0 (gn e + y (tl e) - y (hd e)) = gn e + y (tl e) - y (hd e) by omega] at k
      have := Int.eq_of_mul_eq_mul_right (by omega) k
      omega
    · omega
  · have k := key (e / 2) (by omega) (by have := hN.1; omega)
    have ee : 2 * (e / 2) + 1 = e := by omega
    have ep : 2 * (e / 2) = prI e := by unfold prI; rw [if_neg hp]; omega
    have hN1 := hN.2 e e1 e2
    obtain ⟨-, -, -, n4, n5, n6, -⟩ := hN1
    rw [ee, ep, n4, n5, n6, a1, a2, if_pos (show (true && true) = true from rfl)] at k
    by_cases q : -gn e + y (hd e) - y (tl e) < 0
    · rw [show max 0 (-gn e + y (hd e) - y (tl e)) = 0 by omega, Int.mul_zero] at k
      rcases Int.mul_eq_zero.mp k with z | z <;> omega
    · omega
end M70
