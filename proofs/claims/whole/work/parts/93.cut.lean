/-! outs: both sides, the cut -/
def pM (v : Int) : Int := if (8 ≤ v ∧ v < 16) ∨ v = 1 then 1 else 0
section M93
variable {K2 : (Int → Int) → Int → Int → Int → (Int → Int) → (Int → Int) → Prop}
variable {E x1 x2 x3 x4 n m h t F z r r' B wd wh q v : Int} {D D' D1 D2 : xD} {T w c c2 c3 p b y : Int → Int} {o1 o2 o3 o4 o5 : Option xv} {Q : Option xv → xD → Prop}
theorem gn_pM (hS : mlS D) (ha : ∀ k, 0 ≤ k → 2 * k < D 95 21 → shA (fun _ => 1) h (D 100 (2 * k)) (D 101 (2 * k)) (D 103 (2 * k))) : ∀ e, 0 ≤ e → e < D 95 21 → D 103 e = pM (D 101 e) - pM (D 100 e) := by
  have ev : ∀ k, 0 ≤ k → 2 * k < D 95 21 → D 103 (2 * k) = pM (D 101 (2 * k)) - pM (D 100 (2 * k)) := fun k k1 k2 => by
    unfold pM
    rcases ha k k1 k2 with ⟨a1, a2, a3⟩ | ⟨a1, a2, a3⟩ | ⟨a1, a2, a3⟩ | ⟨a1, a2, t, a3, a4⟩ | ⟨a1, a2, a3⟩
    · rw [if_neg (by omega), if_neg (by omega)]; omega
    · rw [if_neg (by omega), if_neg (by omega)]; omega
    · rw [if_neg (by omega), if_neg (by omega)]; omega
    · have a4 : D 103 (2 * k) = 1 := a4
      rw [if_pos (by omega), if_neg (by omega)]; omega
    · rw [if_pos (by omega), if_pos (by omega)]; omega
  intro e q1 q2
  have e0 := hS.1
  by_cases cc : e % 2 = 0
  · obtain ⟨k, rfl⟩ : ∃ k, e = 2 * k := ⟨e / 2, by omega⟩
    exact ev k (by omega) q2
  · obtain ⟨k, rfl⟩ : ∃ k, e = 2 * k + 1 := ⟨e / 2, by omega⟩
    have hN := hS.2.2.1.2 (2 * k + 1) q1 q2
    rw [pr_od] at hN
    have := ev k (by omega) (by omega)
    obtain ⟨-, -, -, a4, a5, a6, -⟩ := hN
    rw [a4, a5] at this
    omega
theorem mx_cut (hX : mdX D T (fun _ => 1) (-1) 0 h z) (hop : opT 0 1 (mdl T (fun _ => 1) (-1) 0 h) z) (hP : poI D p B) (hE : skE D D' p) (hq : 0 ≤ q ∧ q < 8) (hm : 0 ≤ m ∧ m < 13) : (D' 107 (16 + 13 * q + m) ≤ -500000 ∧ ¬ cuC T 0 h q m z) ∨ (¬ D' 107 (16 + 13 * q + m) ≤ -500000 ∧ cuC T 0 h q m z) := by
  obtain ⟨hS, -, ha, c, F, hI, hdu, hfl⟩ := hX
  obtain ⟨f, ⟨rk, sI⟩, hcl⟩ := id hE
  have gp := gn_pM hS ha
  have tr := se_tr hS sI
  have beq := sk_eq hS hE sI
  have b0 : bbM D' 0 = 0 := by rw [bb_in (by decide)]; exact sI.1.1
  have p00 : pM 0 = 0 := rfl
  -- what is reached has its own worth
  have rch : ∀ (k : Nat) (u : Int), rk u ≤ k → (u = 0 ∨ viM D' u ≠ -1) → bbM D' u = pM u := by
    intro k
    induction k with
    | zero =>
      intro u u1 u2
      by_cases c0 : u = 0
      · rw [c0, b0, p00]
      · have := (tr u c0 (u2.resolve_left c0)).2.2.2.2
        omega
    | succ k ih =>
      intro u u1 u2
      by_cases c0 : u = 0
      · rw [c0, b0, p00]
      · have u2 := u2.resolve_left c0
        obtain ⟨a1, a2, a3, a4, a5⟩ := tr u c0 u2
        rw [beq u c0 u2, ih _ (by omega) a3, gp _ a1.1 a1.2, a2]
        omega
  have v1n : ¬ 0 < bbM D' 1 := fun hb => by
    have v1 : viM D' 1 ≠ -1 := by
      rw [vm_in (by decide)]
      intro zz
      have := (sI.2.1 1 (by decide) (by decide)).2 (by decide) zz
      rw [bb_in (by decide)] at hb
      omega
    have hw : ∀ e, 0 ≤ e → e < D 95 21 → D 103 (prI e) = - D 103 e := fun e q1 q2 => (hS.2.2.1.2 e q1 q2).2.2.2.2.2.1
    obtain ⟨n1, n2, n3, -⟩ := pu_ok (w := D 103) (b := bbM D') (k := rk 1 + 1) hS.2.2.1 hI tr (fun _ _ _ => ⟨rfl, rfl⟩) v1 hw beq (by omega) rfl
    obtain ⟨⟨y, y0, y1, y2⟩, -⟩ := hop
    have wk := fl_weak hS.2.2.1 n2 y
    rw [n3, hdu y, y2, y0, y1, hfl, b0, Int.sub_zero, Int.sub_self, Int.mul_zero, Int.add_zero] at wk
    have := Int.mul_pos (show 0 < pmN (D 100) (viM D') (D 102) 0 (rk 1 + 1) 1 99 by omega) hb
    omega
  have v1r : viM D' 1 = -1 := by
    by_cases cc : viM D' 1 = -1
    · exact cc
    · have := rch _ 1 (Nat.le_refl _) (.inr cc)
      have e : pM 1 = 1 := rfl
      omega
  have inr : ∀ u, viM D' u ≠ -1 → 0 ≤ u ∧ u < 120 := fun u hu => by
    unfold viM at hu
    by_cases cc : 0 ≤ u ∧ u < 120
    · exact cc
    · rw [if_neg cc] at hu; exact absurd rfl hu
  have pp : ∀ u, 0 ≤ pM u ∧ pM u ≤ 1 := fun u => by unfold pM; split <;> omega
  obtain ⟨u, hu⟩ : ∃ u, u = 16 + 13 * q + m := ⟨_, rfl⟩
  have ur : 0 ≤ u ∧ u < 120 := by omega
  have pu0 : pM u = 0 := by unfold pM; rw [if_neg (by omega)]
  rw [← hu]
  by_cases cu : viM D' u = -1
  · left
    rw [vm_in ur] at cu
    have hb := (sI.2.1 u ur.1 ur.2).2 (by omega) cu
    refine ⟨by omega, fun hc => ?_⟩
    have hC : flC (D 95 21) (D 100) (D 101) (D 103) alT (D 102) (fun v => pM v + (if v = 0 ∨ viM D' v ≠ -1 then 1 else 0) - 1) := by
      intro e q1 q2 _ _ hr
      have hN := hS.2.2.1.2 e q1 q2
      show pM (D 100 e) + (if D 100 e = 0 ∨ viM D' (D 100 e) ≠ -1 then 1 else 0) - 1 + D 103 e ≤ pM (D 101 e) + (if D 101 e = 0 ∨ viM D' (D 101 e) ≠ -1 then 1 else 0) - 1
      rw [gp e q1 q2]
      by_cases c1 : D 100 e = 0 ∨ viM D' (D 100 e) ≠ -1
      · have r1 := rch _ _ (Nat.le_refl _) c1
        have cl := hcl e q1 q2 hr (c1.imp id (fun zz => by rw [← vm_in (D := D') hN.1]; exact zz))
        rw [gp e q1 q2, ← bb_in (D := D') hN.1, r1] at cl
        have p1 := pp (D 101 e)
        have c2 : D 101 e = 0 ∨ viM D' (D 101 e) ≠ -1 := by
          by_cases c3 : D 101 e = 0
          · exact .inl c3
          · right
            intro zz
            rw [vm_in hN.2.1] at zz
            have := (sI.2.1 _ hN.2.1.1 hN.2.1.2).2 c3 zz
            omega
        rw [if_pos c1, if_pos c2]; omega
      · rw [if_neg c1]
        split <;> omega
    have y0 : (fun v => pM v + (if v = 0 ∨ viM D' v ≠ -1 then 1 else 0) - 1) 0 = 0 := by
      show pM 0 + (if (0 : Int) = 0 ∨ viM D' 0 ≠ -1 then 1 else 0) - 1 = 0
      rw [if_pos (.inl rfl), p00]; rfl
    have y1 : (fun v => pM v + (if v = 0 ∨ viM D' v ≠ -1 then 1 else 0) - 1) 1 = 0 := by
      show pM 1 + (if (1 : Int) = 0 ∨ viM D' 1 ≠ -1 then 1 else 0) - 1 = 0
      rw [if_neg (fun zz => zz.elim (fun a => absurd a (by decide)) (fun a => a v1r))]; rfl
    obtain ⟨yy, hyy⟩ : ∃ yy : Int → Int, yy = (fun v => pM v + (if v = 0 ∨ viM D' v ≠ -1 then 1 else 0) - 1) := ⟨_, rfl⟩
    rw [← hyy] at hC y0 y1
    have op := fl_opt hS.2.2.1 hI hC
    rw [y0, y1, hfl, hdu, Int.sub_self, Int.mul_zero, Int.add_zero] at op
    have := hc _ y0 y1 op.symm
    rw [← hu, hyy] at this
    have this : 0 ≤ pM u + (if u = 0 ∨ viM D' u ≠ -1 then 1 else 0) - 1 := this
    rw [if_neg (fun zz => zz.elim (fun a => by omega) (fun a => a (by rw [vm_in ur]; exact cu)))] at this
    omega
  · right
    have hb := rch _ u (Nat.le_refl _) (.inr cu)
    rw [bb_in ur] at hb
    refine ⟨by omega, fun y y0 y1 y2 => ?_⟩
    have hC : flC (D 95 21) (D 100) (D 101) (D 103) alT (D 102) y := by
      refine fl_back (F := F) (c := c) (S := 0) (Tk := 1) hS.2.2.1 hI ?_
      rw [hfl, hdu, y2, y0, y1, Int.sub_self, Int.mul_zero, Int.add_zero]
    have key : ∀ (k : Nat) (u : Int), rk u ≤ k → (u = 0 ∨ viM D' u ≠ -1) → pM u ≤ y u := by
      intro k
      induction k with
      | zero =>
        intro u u1 u2
        by_cases c0 : u = 0
        · rw [c0, y0, p00]; exact Int.le_refl _
        · have := (tr u c0 (u2.resolve_left c0)).2.2.2.2
          omega
      | succ k ih =>
        intro u u1 u2
        by_cases c0 : u = 0
        · rw [c0, y0, p00]; exact Int.le_refl _
        · have u2 := u2.resolve_left c0
          obtain ⟨a1, a2, a3, a4, a5⟩ := tr u c0 u2
          have i := ih _ (by omega) a3
          have q := hC _ a1.1 a1.2 rfl rfl a4
          rw [gp _ a1.1 a1.2, a2] at q
          omega
    have := key _ u (Nat.le_refl _) (.inr cu)
    rw [← hu]
    omega
theorem pair8 : ∀ (z1 z2 z3 : Int), xinP z1 → xinP z2 → xinP z3 → xpr (Inv (kAnd (KN2 K2))) 122 [some (.inr (.inr (some 1))), some (.inl z1), some (.inl z2), some (.inl z3)] 192 [some (.inr (.inr (some 95))), some (.inl z1), some (.inl z2), some (.inl z3)] := by
  intro z1 z2 z3 hz hz2 hz3 D H
  obtain ⟨⟨t, tt, tw⟩, g2, g3, g4, g5, g6, g7⟩ := id H
  obtain ⟨-, hM, hW⟩ := tn_of g2 g3
  have bad : ¬ ((0 ≤ z1 ∧ z1 ≤ 12) ∧ (0 ≤ z2 ∧ z2 ≤ 7) ∧ (0 ≤ z3 ∧ z3 ≤ z1)) → ∃ r : Int, (some (.inl (-1)) : Option xv) = some (.inl r) ∧ D 0 = D 0 ∧ WP 124 xF1 none 192 0 [some (.inr (.inr (some 95))), some (.inl z1), some (.inl z2), some (.inl z3)] [] D (fun w D2 => w = some (.inl r) ∧ D2 0 = D 0 ∧ Inv (kAnd (KN2 K2)) D2) := by
    intro hb
    refine ⟨-1, rfl, rfl, ?_⟩
    rw [seg192_0 (ha0 := ho95), m150]
    simp only [Option.toList_some, Option.toList_none, List.cons_append, List.nil_append]
    rw [seg192_4 (ha0 := ho95)]
    by_cases c1 : 0 ≤ z1 ∧ z1 ≤ 12
    · rw [if_pos c1, brF (by decide), m175]
      simp only [Option.toList_some, Option.toList_none, List.cons_append, List.nil_append]
      rw [seg192_11 (ha0 := ho95)]
      by_cases c2 : 0 ≤ z2 ∧ z2 ≤ 7
      · rw [if_pos c2, brF (by decide), m149]
        simp only [Option.toList_some, Option.toList_none, List.cons_append, List.nil_append]
        rw [seg192_20 (ha0 := ho95), if_neg (by omega), brF (by decide), seg192_23 (ha0 := ho95)]
        exact ⟨rfl, rfl, H⟩
      · rw [if_neg c2, brT rfl, seg192_23 (ha0 := ho95)]
        exact ⟨rfl, rfl, H⟩
    · rw [if_neg c1, brT rfl, seg192_23 (ha0 := ho95)]
      exact ⟨rfl, rfl, H⟩
  rw [seg122_0 (ha0 := ho1), m144]
  simp only [Option.toList_some, Option.toList_none, List.cons_append, List.nil_append]
  rw [seg122_4 (ha0 := ho1)]
  by_cases c1 : 0 ≤ z1 ∧ z1 ≤ 12
  · rw [if_pos c1, brF (by decide), m145]
    simp only [Option.toList_some, Option.toList_none, List.cons_append, List.nil_append]
    rw [seg122_11 (ha0 := ho1)]
    by_cases c2 : 0 ≤ z2 ∧ z2 ≤ 7
    · rw [if_pos c2, brF (by decide)]
      by_cases c3 : z3 < 0
      · rw [brT c3, seg122_23 (ha0 := ho1)]
        exact bad (by omega)
      · rw [brF c3]
        by_cases c4 : z3 ≤ z1
        · rw [brT c4]
          simp only [Nat.reduceAdd]
          refine cls46 H (fun D1 f1 f2 f3 => ?_)
          simp only [Option.toList_some, Option.toList_none, List.cons_append, List.nil_append]
          obtain ⟨v1, v2, v3, -⟩ := f3 z1 c1.1 (by omega)
          have v4 := v3 z2 z3 c2.1 (by omega) (by omega) c4
          rw [seg122_36 (ha0 := ho1), cnX (by omega), cnX (by omega), cnB (by omega)]
          simp only [Nat.reduceAdd]
          refine ⟨_, rfl, f1.1 0 (by decide), ?_⟩
          rw [seg192_0 (ha0 := ho95), m150, if_pos c1]
          simp only [Option.toList_some, Option.toList_none, List.cons_append, List.nil_append]
          rw [seg192_4 (ha0 := ho95), brF (by decide), m175, if_pos c2]
          simp only [Option.toList_some, Option.toList_none, List.cons_append, List.nil_append]
          rw [seg192_11 (ha0 := ho95), brF (by decide), m149, if_pos (by omega)]
          simp only [Option.toList_some, Option.toList_none, List.cons_append, List.nil_append]
          rw [seg192_20 (ha0 := ho95), brT (by decide)]
          refine m190 (T := trA (D 96)) (wd := -1) (wh := 0) hW (by rw [f1.1 96 (by decide)]; exact hM) (by rw [f1.1 95 (by decide)]; exact tw.1) (by rw [f1.1 95 (by decide)]; exact tw.2.1) c1 (by decide) (fun D2 z k1 k2 k3 k4 => ?_)
          simp only [Option.toList_some, Option.toList_none, List.cons_append, List.nil_append]
          have ez := op_un k2 v2
          rw [seg192_30 (ha0 := ho95)]
          obtain ⟨p, hp⟩ := k3.2.1
          refine m188 k3.1 hp (by decide) (fun D3 r e1 e2 => ?_)
          simp only [Option.toList_some, Option.toList_none, List.cons_append, List.nil_append]
          rw [seg192_35 (ha0 := ho95), m185 (by omega)]
          simp only [Option.toList_some, Option.toList_none, List.cons_append, List.nil_append, Nat.reduceAdd]
          rw [seg192_45 (ha0 := ho95) (hb1 := show xalen none 124 107 = some 120 from rfl), cnB (by omega)]
          obtain ⟨i1, i2⟩ := inv_mo H f1 (.inr f3) (mrG_tr ⟨fun a a1 a2 => e1.1 a (by omega) (by omega) (by omega) (by omega), fun j hj => by rw [e1.1 95 (by decide) (by decide) (by decide) (by decide)]⟩ k1)
          have cut := mx_cut k3 k2 hp e1 (q := z2) (m := z3) (by omega) (by omega)
          rw [ez] at cut
          rw [show z1 * 8 + z2 = 8 * z1 + z2 by omega]
          rcases cut with ⟨a1, a2⟩ | ⟨a1, a2⟩
          · rw [brT a1, seg192_57 (ha0 := ho95)]
            rcases v4 with ⟨w1, w2⟩ | ⟨w1, w2⟩
            · exact absurd w2 a2
            · exact ⟨by rw [w1], i1, i2⟩
          · rw [brF a1, seg192_57 (ha0 := ho95)]
            rcases v4 with ⟨w1, w2⟩ | ⟨w1, w2⟩
            · exact ⟨by rw [w1], i1, i2⟩
            · exact absurd a2 w2
        · rw [brF c4, seg122_23 (ha0 := ho1)]
          exact bad (by omega)
    · rw [if_neg c2, brT rfl, seg122_23 (ha0 := ho1)]
      exact bad (by omega)
  · rw [if_neg c1, brT rfl, seg122_23 (ha0 := ho1)]
    exact bad (by omega)
end M93
