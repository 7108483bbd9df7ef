/-! nets: the class fills one -/
def inS : Int → Int := fun v => if v = 118 then 1 else 0
def fillF (D' D : xD) : Prop := ∀ a, a ≠ 61 → a ≠ 65 → a ≠ 66 → D' a = D a
def clI (D : xD) (c : Int → Int) (h F : Int) (V : (Int → Int → Int → Int → Int) → Int) : Prop := nsI D c V ∧ flI (D 57 0) (fun e => D 60 (prI e)) (D 60) c (alH h) 118 119 (D 61) F ∧ (∀ k, 0 ≤ k → 2 * k < D 57 0 → c (2 * k) ≤ 1000) ∧ 0 ≤ F
def duD (D : xD) (w c : Int → Int) (h : Int) (y : Int → Int) : Int := duS (D 57 0) (fun e => D 60 (prI e)) (D 60) (gnE w (D 62)) c (alH h) y
def clE (D : xD) (h : Int) : Prop := ∃ rk, srT D (viA D) h 0 rk ∧ viA D 119 = -1 ∧ srC D (viA D) h 0 (fun e => viA D (D 60 (prI e)) ≠ -1)
/-- the node's own worth when each one counts for one -/
def pH (v : Int) : Int := if (110 ≤ v ∧ v < 118) ∨ v = 119 then 1 else 0
section M78
variable {E x1 x2 x3 x4 n m h h' tg v e F F' : Int} {D D' D1 D2 : xD} {via c r w y : Int → Int} {rk : Int → Nat} {o1 o2 o3 o4 : Option xv} {V : (Int → Int → Int → Int → Int) → Int} {Q : Option xv → xD → Prop}
theorem gnE_0 (lb : Int → Int) : gnE (fun _ => 0) lb = fun _ => 0 := by
  funext e
  have z : ∀ l, gnL (fun _ => 0) l = 0 := fun l => by unfold gnL; split <;> rfl
  unfold gnE
  rw [z, z]
  split <;> rfl
theorem ns_fr (hF : ∀ a, a ≠ 61 → a ≠ 65 → a ≠ 66 → D' a = D a) (h : nsI D c V) : nsI D' c V := by
  unfold nsI at *
  rw [hF 57 (by decide) (by decide) (by decide), hF 58 (by decide) (by decide) (by decide), hF 59 (by decide) (by decide) (by decide), hF 60 (by decide) (by decide) (by decide), hF 62 (by decide) (by decide) (by decide)]
  exact h
theorem du_fr (hF : ∀ a, a ≠ 61 → a ≠ 65 → a ≠ 66 → D' a = D a) : duD D' w c h y = duD D w c h y := by
  unfold duD
  rw [hF 57 (by decide) (by decide) (by decide), hF 60 (by decide) (by decide) (by decide), hF 62 (by decide) (by decide) (by decide)]
theorem ns_nd (hN : nsI D c V) : ∀ e, 0 ≤ e → e < D 57 0 → 0 ≤ D 60 e ∧ D 60 e < 120 := fun e q1 q2 =>
  ((nt_of (w := fun _ => 0) hN (fun _ _ _ => ⟨by decide, by decide⟩)).2 e q1 q2).2.1
theorem cl_rm (hc : clI D c h F V) : ∀ e, 0 ≤ e → e < D 57 0 → 0 ≤ D 61 e ∧ D 61 e ≤ 1000 := fun e q1 q2 => by
  obtain ⟨hN, hI, hb, -⟩ := hc
  have e0 := hN.1
  have p := prI_rg ⟨e0.1, e0.2.2⟩ ⟨q1, q2⟩
  have a1 := hI.1 e q1 q2
  have a2 := hI.1 (prI e) p.1 p.2
  rw [prI_pr] at a2
  by_cases cc : e % 2 = 0
  · have b := hb (e / 2) (by omega) (by omega)
    rw [show 2 * (e / 2) = e by omega] at b
    omega
  · have ep : prI e = 2 * (e / 2) := by unfold prI; rw [if_neg cc]; omega
    have b := hb (e / 2) (by omega) (by omega)
    rw [← ep] at b
    omega
theorem cl_99 (hc : clI D c h F V) (hW : duD D (fun _ => 0) c h inS ≤ 99) : F ≤ 99 := by
  obtain ⟨hN, hI, hb, -⟩ := hc
  have k := fl_weak (nt_of (w := fun _ => 0) hN (fun _ _ _ => ⟨by decide, by decide⟩)) hI inS
  have z : flL (D 57 0) (D 61) (gnE (fun _ => 0) (D 62)) = 0 := by
    rw [gnE_0]
    unfold flL
    exact smI_0 _ _ (fun _ _ _ => Int.mul_zero _)
  rw [z] at k
  have e1 : inS 118 = 1 := rfl
  have e2 : inS 119 = 0 := rfl
  rw [e1, e2] at k
  have : duD D (fun _ => 0) c h inS = duS (D 57 0) (fun e => D 60 (prI e)) (D 60) (gnE (fun _ => 0) (D 62)) c (alH h) inS := rfl
  omega
theorem cl_srB (hN : nsI D c V) : srB D h 0 := ⟨hN.2.1, hN.1, ns_nd hN, .inl rfl⟩
theorem l36 (hW : duD D (fun _ => 0) c h inS ≤ 99) (hq : ∀ D' F', fillF D' D → clI D' c h F' V → F ≤ F' → clE D' h → Q (some (.inl (F' - F))) D') :
    ∀ (k : Nat) (x3 F' : Int) (D' : xD), x3 + k = 100 → 0 ≤ x3 → F + x3 ≤ F' → fillF D' D → clI D' c h F' V → 0 ≤ F → WP 124 xF1 none 36 4 [some (.inr (.inr (some 57))), some (.inl h), some (.inl (F' - F)), some (.inl x3)] [] D' Q := by
  intro k
  induction k with
  | zero =>
    intro x3 F' D' h1 h2 h3 h4 h5 h6
    have := cl_99 h5 (by rw [du_fr h4]; exact hW)
    omega
  | succ k ih =>
    intro x3 F' D' h1 h2 h3 h4 h5 h6
    have h99 := cl_99 h5 (by rw [du_fr h4]; exact hW)
    obtain ⟨hN, hI, hb, h0⟩ := id h5
    rw [seg36_4 (ha0 := ho57), brF (by omega)]
    refine m38 (cl_srB hN) (fun D2 r hE => ?_)
    simp only [Option.toList_some, Option.toList_none, List.cons_append, List.nil_append]
    obtain ⟨g1, rk, g2, g3⟩ := hE
    have e57 := g1 57 (by decide) (by decide)
    have e60 := g1 60 (by decide) (by decide)
    have e61 := g1 61 (by decide) (by decide)
    have F2 : fillF D2 D := fun a a1 a2 a3 => by rw [g1 a a2 a3]; exact h4 a a1 a2 a3
    have c2 : clI D2 c h F' V := ⟨ns_fr (fun a _ a2 a3 => g1 a a2 a3) hN, by rw [e57, e60, e61]; exact hI, by rw [e57]; exact hb, h0⟩
    rw [seg36_16 (ha0 := ho57)]
    rcases g3 with ⟨r1, r2, r3⟩ | ⟨r1, r2, r3⟩
    · have hT2 := sr_fr g1 g2
      have tr2 := sr_tr hT2
      rw [brT (by omega)]
      have hN2 := c2.1
      refine m39 hN2.1 (ns_nd hN2) hT2 r2 r3 (cl_rm c2) (fun D3 k1 k2 => ?_)
      simp only [Option.toList_some, Option.toList_none, List.cons_append, List.nil_append]
      have al2 : ∀ v, v ≠ 118 → viA D2 v ≠ -1 → alH h ((fun e => D2 60 (prI e)) (viA D2 v)) = true ∧ alH h (D2 60 (viA D2 v)) = true := fun v v1 v2 => by
        obtain ⟨a1, a2, a3, a4, a5⟩ := hT2.2 v v1 v2
        exact ⟨sr_al hT2 a3, a4.2.1⟩
      obtain ⟨p1, p2, -, -⟩ := pu_ok (w := fun _ => 0) (b := fun _ => 0) (k := 120) (nt_of (w := fun _ => 0) hN2 (fun _ _ _ => ⟨by decide, by decide⟩)) c2.2.1 tr2 al2 r2 (fun _ _ _ => rfl) (fun _ _ _ => rfl) (by omega) rfl
      obtain ⟨n, hn⟩ : ∃ n, n = pmN (fun e => D2 60 (prI e)) (viA D2) (D2 61) 118 120 119 99 := ⟨_, rfl⟩
      rw [← hn] at p1 p2 k2 ⊢
      have F3 : fillF D3 D := fun a a1 a2 a3 => by rw [k1 a a1]; exact F2 a a1 a2 a3
      have c3 : clI D3 c h (F' + n) V := ⟨ns_fr (fun a a1 _ _ => k1 a a1) hN2, by rw [k1 57 (by decide), k1 60 (by decide), k2]; exact p2, by rw [k1 57 (by decide)]; exact c2.2.2.1, by omega⟩
      have h99' := cl_99 c3 (by rw [du_fr F3]; exact hW)
      rw [seg36_27 (ha0 := ho57), cnX (by omega), cnX (by omega), show F' - F + n = F' + n - F by omega]
      exact ih (x3 + 1) (F' + n) D3 (by omega) (by omega) (by omega) F3 c3 h6
    · rw [brF (by omega), seg36_35 (ha0 := ho57)]
      refine hq D2 F' F2 c2 (by omega) ⟨rk, sr_fr g1 g2, r2, ?_⟩
      unfold srC okA at *
      rw [g1 57 (by decide) (by decide), g1 60 (by decide) (by decide), g1 61 (by decide) (by decide), g1 63 (by decide) (by decide), g1 67 (by decide) (by decide)]
      exact r3
/-- it fills until nobody more can come -/
theorem m36 (hc : clI D c h F V) (hW : duD D (fun _ => 0) c h inS ≤ 99) (hq : ∀ D' F', fillF D' D → clI D' c h F' V → F ≤ F' → clE D' h → Q (some (.inl (F' - F))) D') : WP 124 xF1 none 36 0 [some (.inr (.inr (some 57))), some (.inl h), o2, o3] [] D Q := by
  rw [seg36_0 (ha0 := ho57)]
  have := l36 (x3 := 0) hW hq 100 F D (by omega) (by omega) (by omega) (fun _ _ _ _ => rfl) hc hc.2.2.2
  rw [Int.sub_self] at this
  exact this
/-- gains are steps of pH when each counts for one -/
theorem gn_pH (hN : nsI D c V) : ∀ e, 0 ≤ e → e < D 57 0 → gnE (fun _ => 1) (D 62) e = pH (D 60 e) - pH (D 60 (prI e)) := by
  have ev : ∀ k, 0 ≤ k → 2 * k < D 57 0 → gnL (fun _ => 1) (D 62 (2 * k)) = pH (D 60 (2 * k)) - pH (D 60 (2 * k + 1)) := fun k k1 k2 => by
    obtain ⟨p1, p2, p3, p4, p5, p6, p7, p8, p9, p10⟩ := hN.2.2.2 k k1 k2
    have e1 : gnL (fun _ => 1) (D 62 (2 * k)) = if 16 ≤ D 62 (2 * k) then 1 else 0 := rfl
    rw [e1]
    unfold pH
    (repeat' split) <;> omega
  intro e q1 q2
  have e0 := hN.1
  by_cases cc : e % 2 = 0
  · obtain ⟨k, rfl⟩ : ∃ k, e = 2 * k := ⟨e / 2, by omega⟩
    rw [gn_ev, pr_ev]
    exact ev k (by omega) q2
  · obtain ⟨k, rfl⟩ : ∃ k, e = 2 * k + 1 := ⟨e / 2, by omega⟩
    rw [gn_od, pr_od, ev k (by omega) (by omega)]
    omega
theorem flL_pH (hc : clI D c h F V) : flL (D 57 0) (D 61) (gnE (fun _ => 1) (D 62)) = F := by
  obtain ⟨hN, hI, -, -⟩ := hc
  have := hI.2.2 (fun v => - pH v)
  have e1 : pH 118 = 0 := rfl
  have e2 : pH 119 = 1 := rfl
  rw [e1, e2] at this
  rw [fl_cg (w2 := fun e => (fun v => - pH v) (D 60 (prI e)) - (fun v => - pH v) (D 60 e)) (fun e q1 q2 => by
    rw [gn_pH hN e q1 q2]
    show _ = - pH (D 60 (prI e)) - - pH (D 60 e)
    omega)]
  rw [this]; omega
def yC (via : Int → Int) : Int → Int := fun v => pH v + (if via v = -1 then 0 else 1) - 1
theorem cl_con (hc : clI D c h F V) (hE : clE D h) : flC (D 57 0) (fun e => D 60 (prI e)) (D 60) (gnE (fun _ => 1) (D 62)) (alH h) (D 61) (yC (viA D)) := by
  obtain ⟨rk, g1, g2, g3⟩ := hE
  intro e q1 q2 a1 a2 hr
  rw [gn_pH hc.1 e q1 q2]
  show yC (viA D) (D 60 (prI e)) + (pH (D 60 e) - pH (D 60 (prI e))) ≤ yC (viA D) (D 60 e)
  unfold yC
  by_cases c1 : viA D (D 60 (prI e)) = -1
  · rw [if_pos c1]
    split <;> omega
  · have := g3 e q1 q2 c1 ⟨hr, a2, .inl rfl⟩
    rw [if_neg c1, if_neg this]; omega
theorem yC_S (hE : clE D h) : yC (viA D) 118 = 0 ∧ yC (viA D) 119 = 0 := by
  obtain ⟨rk, g1, g2, g3⟩ := hE
  unfold yC
  rw [if_neg g1.1, if_pos g2]
  exact ⟨rfl, rfl⟩
theorem nt_1 (hN : nsI D c V) : ntOk (D 57 0) (fun e => D 60 (prI e)) (D 60) (gnE (fun _ => 1) (D 62)) := nt_of hN (fun _ _ _ => ⟨by decide, by decide⟩)
/-- what it has filled is the most -/
theorem cl_opt (hc : clI D c h F V) (hE : clE D h) : opT 118 119 (duD D (fun _ => 1) c h) F := by
  have := fl_max (nt_1 hc.1) hc.2.1 (cl_con hc hE) (yC_S hE).1 (yC_S hE).2
  rw [flL_pH hc] at this
  exact this
/-- seen are they which every cheapest y leaves at 0 or above -/
theorem cl_cut (hc : clI D c h F V) (hE : clE D h) (hv : 0 ≤ v ∧ v < 104) : viA D v ≠ -1 ↔ ∀ y : Int → Int, y 118 = 0 → y 119 = 0 → duD D (fun _ => 1) c h y = F → 0 ≤ y v := by
  constructor
  · intro hs y y1 y2 y3
    have hC : flC (D 57 0) (fun e => D 60 (prI e)) (D 60) (gnE (fun _ => 1) (D 62)) (alH h) (D 61) y := by
      refine fl_back (F := F) (c := c) (S := 118) (Tk := 119) (nt_1 hc.1) hc.2.1 ?_
      rw [flL_pH hc, y1, y2, Int.sub_self, Int.mul_zero, Int.add_zero]
      exact y3.symm
    obtain ⟨rk, g1, -, -⟩ := hE
    have key : ∀ (k : Nat) (u : Int), rk u ≤ k → viA D u ≠ -1 → pH u ≤ y u := by
      intro k
      induction k with
      | zero =>
        intro u u1 u2
        by_cases c0 : u = 118
        · rw [c0, y1]; decide
        · have := (g1.2 u c0 u2).2.2.2.2
          omega
      | succ k ih =>
        intro u u1 u2
        by_cases c0 : u = 118
        · rw [c0, y1]; decide
        · obtain ⟨a1, a2, a3, a4, a5⟩ := g1.2 u c0 u2
          have i := ih _ (by omega) a3
          have q := hC _ a1.1 a1.2 (sr_al g1 a3) a4.2.1 a4.1
          rw [gn_pH hc.1 _ a1.1 a1.2, a2] at q
          have q : y (D 60 (prI (viA D u))) + (pH u - pH (D 60 (prI (viA D u)))) ≤ y u := q
          omega
    have := key (rk v) v (Nat.le_refl _) hs
    have e : pH v = 0 := by unfold pH; rw [if_neg (by omega)]
    omega
  · intro hy hs
    have := hy (yC (viA D)) (yC_S hE).1 (yC_S hE).2 (by
      have := fl_opt (nt_1 hc.1) hc.2.1 (cl_con hc hE)
      rw [flL_pH hc, (yC_S hE).1, (yC_S hE).2, Int.sub_self, Int.mul_zero, Int.add_zero] at this
      exact this.symm)
    unfold yC at this
    rw [if_pos hs] at this
    have e : pH v = 0 := by unfold pH; rw [if_neg (by omega)]
    omega
/-- a later horizon: nobody is yet where nobody could be -/
theorem cl_up (hc : clI D c h F V) (hh : h ≤ h') : clI D c h' F V := by
  obtain ⟨hN, hI, hb, h0⟩ := hc
  refine ⟨hN, ⟨hI.1, fun e q1 q2 q3 q4 => hI.2.1 e q1 q2 q3 ?_, hI.2.2⟩, hb, h0⟩
  have mono : ∀ v, alH h v = true → alH h' v = true := fun v hv => by
    unfold alH at *
    by_cases c1 : v < 104
    · rw [decide_eq_true c1, Bool.true_and] at hv ⊢
      by_cases c2 : h < v % 13
      · rw [decide_eq_true c2] at hv; exact absurd hv (by decide)
      · rw [decide_eq_false (show ¬ h' < v % 13 by omega)]; rfl
    · rw [decide_eq_false c1, Bool.false_and]; rfl
  by_cases c1 : (alH h (D 60 (prI e)) && alH h (D 60 e)) = true
  · have := Bool.and_eq_true_iff.mp c1
    have q4 : (alH h' (D 60 (prI e)) && alH h' (D 60 e)) = false := q4
    rw [mono _ this.1, mono _ this.2] at q4
    exact absurd q4 (by decide)
  · exact Bool.not_eq_true _ ▸ c1
end M78
