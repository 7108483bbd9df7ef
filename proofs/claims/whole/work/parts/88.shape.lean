/-! nets: what the reference's arcs are -/
def shA (w : Int → Int) (h a b g : Int) : Prop := (a = 0 ∧ (2 ≤ b ∧ b < 8) ∧ g = 0) ∨ ((2 ≤ a ∧ a < 8) ∧ 16 ≤ b ∧ g = 0) ∨ (16 ≤ a ∧ 16 ≤ b ∧ g = 0) ∨ (16 ≤ a ∧ (8 ≤ b ∧ b < 16) ∧ ∃ t, (0 ≤ t ∧ t ≤ h) ∧ g = w t) ∨ ((8 ≤ a ∧ a < 16) ∧ b = 1 ∧ g = 0)
def inM : Int → Int := fun v => if v = 0 then 1 else 0
def p0M : Int → Int := fun v => if (8 ≤ v ∧ v < 16) ∨ v = 1 then 0 else -13
section M88
variable {E n m u v e B h wd wh : Int} {D D' D1 D2 : xD} {T w c r y gn : Int → Int} {f : Int → Int → Int → Int → Int} {V : (Int → Int → Int → Int → Int) → Int}
theorem ms_all (hT : tnW T) (hh : 0 ≤ h ∧ h ≤ 12) (hf : ∀ a b c g, shA w h a b g → f a b c g = 0) : msS T w wd wh h f = 0 := by
  have w0 := hT.1
  have h1 : msD T wh h f (T 1).toNat = 0 := by
    unfold msD
    refine smI_0 _ _ (fun d d1 d2 => ?_)
    have v := hT.2.2.1 d d1 (by omega)
    rw [hf _ _ _ _ (.inl ⟨rfl, by omega, rfl⟩), smI_0 _ _ (fun t t1 t2 => hf _ _ _ _ (.inr (.inl ⟨by omega, by omega, rfl⟩)))]; rfl
  have h2 : msP T w h f 8 = 0 := by
    unfold msP
    refine smI_0 _ _ (fun p p1 p2 => ?_)
    rw [smI_0 _ _ (fun t t1 t2 => hf _ _ _ _ (.inr (.inr (.inl ⟨by omega, by omega, rfl⟩)))), smI_0 _ _ (fun t t1 t2 => hf _ _ _ _ (.inr (.inr (.inr (.inl ⟨by omega, by omega, t, by omega, rfl⟩))))), hf _ _ _ _ (.inr (.inr (.inr (.inr ⟨by omega, rfl, rfl⟩))))]
    simp
  have h3 : msE T wd wh h f (T 0).toNat = 0 := by
    unfold msE
    refine smI_0 _ _ (fun s s1 s2 => smI_0 _ _ (fun t t1 t2 => ?_))
    obtain ⟨v1, v2, v3, -⟩ := hT.2.1 s s1 (by omega)
    have tk : 1 ≤ tkS T wh s ∧ tkS T wh s ≤ 6 := by unfold tkS; split <;> omega
    rw [hf _ _ _ _ (.inr (.inr (.inl ⟨by omega, by omega, rfl⟩))), ite_self]
  unfold msS
  rw [h1, h2, h3]; rfl
theorem ms_99 (hT : tnW T) (hh : 0 ≤ h ∧ h ≤ 12) : msS T w wd wh h (fun a b c _ => c * max 0 (0 + inM a - inM b)) ≤ 99 := by
  have w0 := hT.1
  have z : ∀ a b c : Int, a ≠ 0 → c * max 0 (0 + inM a - inM b) = 0 := fun a b c ha => by
    have e : max 0 (0 + inM a - inM b) = 0 := by
      unfold inM
      rw [if_neg ha]
      split <;> omega
    rw [e, Int.mul_zero]
  have h1 : msD T wh h (fun a b c _ => c * max 0 (0 + inM a - inM b)) (T 1).toNat ≤ 99 := by
    have := hT.2.2.2.1
    unfold msD
    refine Int.le_trans (smI_le (g := fun d => T (150 + 4 * d + 2)) _ _ (fun d d1 d2 => ?_)) (by omega)
    have v := hT.2.2.1 d d1 (by omega)
    show (if 0 < wh ∧ T (150 + 4 * d + 3) ≠ wh - 1 then 0 else T (150 + 4 * d + 2)) * max 0 (0 + inM 0 - inM (2 + d)) + smI (fun t => 99 * max 0 (0 + inM (2 + d) - inM (16 + 13 * T (150 + 4 * d) + t))) (T (150 + 4 * d + 1)) (h + 1 - T (150 + 4 * d + 1)).toNat ≤ T (150 + 4 * d + 2)
    rw [smI_0 _ _ (fun t t1 t2 => z _ _ _ (by omega))]
    have e1 : inM 0 = 1 := rfl
    have e2 : inM (2 + d) = 0 := by unfold inM; rw [if_neg (by omega)]
    rw [e1, e2, show max 0 (0 + 1 - 0 : Int) = 1 from rfl]
    split <;> omega
  have h2 : msP T w h (fun a b c _ => c * max 0 (0 + inM a - inM b)) 8 = 0 := by
    unfold msP
    refine smI_0 _ _ (fun p p1 p2 => ?_)
    show smI (fun t => T (10 + p) * max 0 (0 + inM (16 + 13 * p + t) - inM (16 + 13 * p + (t + 1)))) 0 h.toNat + (if T (18 + p) = 0 then 0 else smI (fun t => 99 * max 0 (0 + inM (16 + 13 * p + t) - inM (8 + p))) 0 (h + 1).toNat + T (18 + p) * max 0 (0 + inM (8 + p) - inM 1)) = 0
    rw [smI_0 _ _ (fun t t1 t2 => z _ _ _ (by omega)), smI_0 _ _ (fun t t1 t2 => z _ _ _ (by omega)), z _ _ _ (by omega)]
    simp
  have h3 : msE T wd wh h (fun a b c _ => c * max 0 (0 + inM a - inM b)) (T 0).toNat = 0 := by
    unfold msE
    refine smI_0 _ _ (fun s s1 s2 => smI_0 _ _ (fun t t1 t2 => ?_))
    obtain ⟨v1, v2, v3, -⟩ := hT.2.1 s s1 (by omega)
    show (if T (30 + 7 * s + 4) ≤ t ∧ t ≤ T (30 + 7 * s + 5) then (wiS T wh s + (if wh ≠ 2 ∧ s = wd then 1 else 0)) * max 0 (0 + inM (16 + 13 * frM T s + t) - inM (16 + 13 * toM T s + (t + tkS T wh s))) else 0) = 0
    rw [z _ _ _ (by omega), ite_self]
  unfold msS
  rw [h2, h3]
  omega
theorem mc_ml (hI : mcI D V B) (hB : B ≤ 1400) : mlS D := by
  obtain ⟨⟨e1, e2, e3⟩, hS, hJ, hN, hO⟩ := hI
  exact ⟨⟨e1, by omega, e3⟩, hJ, ⟨⟨e1, e3⟩, fun e q1 q2 => by obtain ⟨a1, a2, a3, a4, a5, a6, a7, -⟩ := hN e q1 q2; exact ⟨a1, a2, a3, a4, a5, a6, a7⟩⟩, fun e q1 q2 => (hN e q1 q2).2.2.2.2.2.2.2⟩
/-- what holds of every arc that is laid -/
theorem mc_arc (hT : tnW T) (hh : 0 ≤ h ∧ h ≤ 12) (hI : mcI D (msS T w wd wh h) B) : ∀ k, 0 ≤ k → 2 * k < D 95 21 → shA w h (D 100 (2 * k)) (D 101 (2 * k)) (D 103 (2 * k)) := by
  intro k k1 k2
  obtain ⟨⟨e1, e2, e3⟩, hS, hJ, hN, hO⟩ := hI
  haveI : ∀ a b g, Decidable (shA w h a b g) := fun a b g => Classical.propDecidable _
  have h0 := hS (fun a b c g => if shA w h a b g then 0 else 1)
  rw [ms_all hT hh (fun a b c g hx => by show (if shA w h a b g then (0 : Int) else 1) = 0; rw [if_pos hx])] at h0
  have h1 := sm_all (f := fun k => if shA w h (D 100 (2 * k)) (D 101 (2 * k)) (D 103 (2 * k)) then 0 else 1) (D 95 21 / 2).toNat 0 (fun j => by show 0 ≤ (if _ then (0 : Int) else 1); split <;> decide) h0 k k1 (by omega)
  have h1 : (if shA w h (D 100 (2 * k)) (D 101 (2 * k)) (D 103 (2 * k)) then (0 : Int) else 1) = 0 := h1
  by_cases q : shA w h (D 100 (2 * k)) (D 101 (2 * k)) (D 103 (2 * k))
  · exact q
  · rw [if_neg q] at h1; exact absurd h1 (by decide)
/-- the start: nobody on the way, and potentials -/
theorem mc_zero (hI : mcI D V B) : flI (D 95 21) (D 100) (D 101) (cPr (D 102)) alT 0 1 (D 102) 0 ∧ (∀ w, flL (D 95 21) (D 102) w = 0) ∧ ∀ e, 0 ≤ e → e < D 95 21 → cPr (D 102) e ≤ 1000 := by
  obtain ⟨⟨e1, e2, e3⟩, hS, hJ, hN, hO⟩ := hI
  have z : ∀ w, flL (D 95 21) (D 102) w = 0 := fun w => by
    unfold flL
    refine smI_0 _ _ (fun k k1 k2 => ?_)
    rw [hO (2 * k + 1) (by omega) (by omega) (by omega), Int.zero_mul]
  refine ⟨⟨fun e q1 q2 => ⟨(hN e q1 q2).2.2.2.2.2.2.2.1, rfl⟩, fun e q1 q2 q3 _ => hO e q1 q2 q3, fun y => by rw [z, Int.zero_mul]⟩, z, fun e q1 q2 => ?_⟩
  have p := prI_rg ⟨e1, e3⟩ ⟨q1, q2⟩
  have a1 := (hN e q1 q2).2.2.2.2.2.2.2
  have a2 := (hN (prI e) p.1 p.2).2.2.2.2.2.2.2
  unfold cPr
  by_cases cc : e % 2 = 1
  · rw [hO e q1 q2 cc]; omega
  · rw [hO (prI e) p.1 p.2 (by unfold prI; rw [if_pos (by omega)]; omega)]; omega
theorem mc_pot (hT : tnW T) (hh : 0 ≤ h ∧ h ≤ 12) (hw : ∀ t, 0 ≤ t → t ≤ h → 0 ≤ w t ∧ w t ≤ 13) (hI : mcI D (msS T w wd wh h) B) : poI D p0M 0 := by
  refine ⟨fun e q1 q2 _ _ hr => ?_, fun v => by unfold p0M; split <;> omega, by decide, by decide⟩
  have cc : e % 2 = 0 := by
    by_cases c : e % 2 = 1
    · rw [hI.2.2.2.2 e q1 q2 c] at hr; omega
    · omega
  have hs := mc_arc hT hh hI (e / 2) (by omega) (by omega)
  rw [show 2 * (e / 2) = e by omega] at hs
  unfold p0M
  rcases hs with ⟨a1, a2, a3⟩ | ⟨a1, a2, a3⟩ | ⟨a1, a2, a3⟩ | ⟨a1, a2, t, a3, a4⟩ | ⟨a1, a2, a3⟩
  · rw [if_neg (by omega), if_neg (by omega)]; omega
  · rw [if_neg (by omega), if_neg (by omega)]; omega
  · rw [if_neg (by omega), if_neg (by omega)]; omega
  · have := hw t a3.1 a3.2
    rw [if_neg (by omega), if_pos (by omega)]; omega
  · rw [if_pos (by omega), if_pos (by omega)]; omega
theorem du_al (hE : 0 ≤ E ∧ E % 2 = 0) {tl hd : Int → Int} : duS E tl hd gn c alT y = smI (fun k => c (2 * k) * max 0 (gn (2 * k) + y (tl (2 * k)) - y (hd (2 * k)))) 0 (E / 2).toNat := by
  unfold duS
  exact smI_congr _ _ (fun k _ _ => if_pos rfl)
theorem mc_c (hI : mcI D V B) {k : Int} (h1 : 0 ≤ k) (h2 : 2 * k < D 95 21) : cPr (D 102) (2 * k) = D 102 (2 * k) := by
  obtain ⟨⟨e1, e2, e3⟩, hS, hJ, hN, hO⟩ := hI
  unfold cPr
  rw [pr_ev, hO (2 * k + 1) (by omega) (by omega) (by omega), Int.add_zero]
theorem mc_du (hI : mcI D (msS T w wd wh h) B) (y : Int → Int) : duS (D 95 21) (D 100) (D 101) (D 103) (cPr (D 102)) alT y = mdl T w wd wh h y := by
  have hI' := hI
  obtain ⟨⟨e1, e2, e3⟩, hS, hJ, hN, hO⟩ := hI'
  rw [du_al ⟨e1, e3⟩]
  unfold mdl
  rw [← hS]
  unfold mcS mfY
  exact smI_congr _ _ (fun k k1 k2 => by rw [mc_c hI k1 (by omega)])
theorem mc_w99 (hT : tnW T) (hh : 0 ≤ h ∧ h ≤ 12) (hI : mcI D (msS T w wd wh h) B) : duS (D 95 21) (D 100) (D 101) (fun _ => 0) (cPr (D 102)) alT inM ≤ 99 := by
  have hI' := hI
  obtain ⟨⟨e1, e2, e3⟩, hS, hJ, hN, hO⟩ := hI'
  rw [du_al ⟨e1, e3⟩]
  have := ms_99 (w := w) (wd := wd) (wh := wh) hT hh
  rw [← hS] at this
  refine Int.le_trans (Int.le_of_eq ?_) this
  unfold mcS
  exact smI_congr _ _ (fun k k1 k2 => by rw [mc_c hI k1 (by omega)])
end M88
