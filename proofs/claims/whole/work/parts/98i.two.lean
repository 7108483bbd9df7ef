/-! outs: two minutes together -/
def w1A (a : Int) : Int → Int := fun t => if t ≤ a then 1 else 0
def yLA (a : Int) (y : Int → Int) : Int → Int := fun v => if 16 ≤ v ∧ a < (v - 16) % 13 then 0 else y v
section M98i
variable {a b h wd wh p t z lo hi hj g1 g2 c x1 x2 : Int} {T w1 w2 y y1 y2 c2 c3 f f' : Int → Int} {k : Nat}
theorem mf_add (hc : 0 ≤ c) : mfY (fun v => y1 v + y2 v) x1 x2 c (g1 + g2) ≤ mfY y1 x1 x2 c g1 + mfY y2 x1 x2 c g2 := by
  show c * max 0 (g1 + g2 + (y1 x1 + y2 x1) - (y1 x2 + y2 x2)) ≤ c * max 0 (g1 + y1 x1 - y1 x2) + c * max 0 (g2 + y2 x1 - y2 x2)
  rw [← Int.mul_add]
  exact Int.mul_le_mul_of_nonneg_left (by omega) hc
theorem mf_add0 (hc : 0 ≤ c) : mfY (fun v => y1 v + y2 v) x1 x2 c 0 ≤ mfY y1 x1 x2 c 0 + mfY y2 x1 x2 c 0 := mf_add (g1 := 0) (g2 := 0) hc
theorem sm_le2 {f1 f2 : Int → Int} {i : Int} (h : ∀ j, i ≤ j → j < i + k → f j ≤ f1 j + f2 j) : smI f i k ≤ smI f1 i k + smI f2 i k := by
  rw [← smI_add]
  exact smI_le _ _ h
theorem mdl_add (hT : tnW T) (hwh : 0 ≤ wh ∧ wh ≤ 2) : mdl T (fun t => w1 t + w2 t) wd wh h (fun v => y1 v + y2 v) ≤ mdl T w1 wd wh h y1 + mdl T w2 wd wh h y2 := by
  have w0 := hT.1
  have e1 : msD T wh h (mfY (fun v => y1 v + y2 v)) (T 1).toNat ≤ msD T wh h (mfY y1) (T 1).toNat + msD T wh h (mfY y2) (T 1).toNat := by
    unfold msD
    refine sm_le2 (fun d d1 d2 => ?_)
    have v := (hT.2.2.1 d d1 (by omega)).2.2.1
    have q1 : mfY (fun v => y1 v + y2 v) 0 (2 + d) (if 0 < wh ∧ T (150 + 4 * d + 3) ≠ wh - 1 then 0 else T (150 + 4 * d + 2)) 0 ≤ mfY y1 0 (2 + d) (if 0 < wh ∧ T (150 + 4 * d + 3) ≠ wh - 1 then 0 else T (150 + 4 * d + 2)) 0 + mfY y2 0 (2 + d) (if 0 < wh ∧ T (150 + 4 * d + 3) ≠ wh - 1 then 0 else T (150 + 4 * d + 2)) 0 := mf_add0 (by split <;> omega)
    have q2 : smI (fun t => mfY (fun v => y1 v + y2 v) (2 + d) (16 + 13 * T (150 + 4 * d) + t) 99 0) (T (150 + 4 * d + 1)) (h + 1 - T (150 + 4 * d + 1)).toNat ≤ smI (fun t => mfY y1 (2 + d) (16 + 13 * T (150 + 4 * d) + t) 99 0) (T (150 + 4 * d + 1)) (h + 1 - T (150 + 4 * d + 1)).toNat + smI (fun t => mfY y2 (2 + d) (16 + 13 * T (150 + 4 * d) + t) 99 0) (T (150 + 4 * d + 1)) (h + 1 - T (150 + 4 * d + 1)).toNat := sm_le2 (fun t _ _ => mf_add0 (by decide))
    omega
  have e2 : msP T (fun t => w1 t + w2 t) h (mfY (fun v => y1 v + y2 v)) 8 ≤ msP T w1 h (mfY y1) 8 + msP T w2 h (mfY y2) 8 := by
    unfold msP
    refine sm_le2 (fun p p1 p2 => ?_)
    dsimp only
    have v := hT.2.2.2.2 p p1 (by omega)
    have q1 : smI (fun t => mfY (fun v => y1 v + y2 v) (16 + 13 * p + t) (16 + 13 * p + (t + 1)) (T (10 + p)) 0) 0 h.toNat ≤ smI (fun t => mfY y1 (16 + 13 * p + t) (16 + 13 * p + (t + 1)) (T (10 + p)) 0) 0 h.toNat + smI (fun t => mfY y2 (16 + 13 * p + t) (16 + 13 * p + (t + 1)) (T (10 + p)) 0) 0 h.toNat := sm_le2 (fun t _ _ => mf_add0 v.1.1)
    by_cases c : T (18 + p) = 0
    · rw [if_pos c, if_pos c, if_pos c]; omega
    · rw [if_neg c, if_neg c, if_neg c]
      have q2 : smI (fun t => mfY (fun v => y1 v + y2 v) (16 + 13 * p + t) (8 + p) 99 (w1 t + w2 t)) 0 (h + 1).toNat ≤ smI (fun t => mfY y1 (16 + 13 * p + t) (8 + p) 99 (w1 t)) 0 (h + 1).toNat + smI (fun t => mfY y2 (16 + 13 * p + t) (8 + p) 99 (w2 t)) 0 (h + 1).toNat := sm_le2 (fun t _ _ => mf_add (by decide))
      have q3 : mfY (fun v => y1 v + y2 v) (8 + p) 1 (T (18 + p)) 0 ≤ mfY y1 (8 + p) 1 (T (18 + p)) 0 + mfY y2 (8 + p) 1 (T (18 + p)) 0 := mf_add0 v.2.1
      omega
  have e3 : msE T wd wh h (mfY (fun v => y1 v + y2 v)) (T 0).toNat ≤ msE T wd wh h (mfY y1) (T 0).toNat + msE T wd wh h (mfY y2) (T 0).toNat := by
    unfold msE
    refine sm_le2 (fun s s1 s2 => sm_le2 (fun t t1 t2 => ?_))
    have v := (hT.2.1 s s1 (by omega)).2.2.2.1
    by_cases c : T (30 + 7 * s + 4) ≤ t ∧ t ≤ T (30 + 7 * s + 5)
    · rw [if_pos c, if_pos c, if_pos c]
      refine mf_add0 ?_
      unfold wiS
      (repeat' split) <;> omega
    · rw [if_neg c, if_neg c, if_neg c]; omega
  unfold mdl msS
  omega
theorem sm_cut (h1 : hi ≤ hj) (h2 : ∀ j, lo ≤ j → j < hj → f' j = if j < hi then f j else 0) : smI f' lo (hj - lo).toNat = smI f lo (hi - lo).toNat := by
  rw [← smI_sub (g := f) (hj - lo).toNat lo lo (hi - lo).toNat (by omega) (by omega)]
  refine smI_congr _ _ (fun j j1 j2 => ?_)
  rw [h2 j j1 (by omega)]
  by_cases c : j < hi
  · rw [if_pos c, if_pos (by omega)]
  · rw [if_neg c, if_neg (by omega)]
theorem yl_lo (h : x1 < 16) : yLA a y x1 = y x1 := by
  unfold yLA
  rw [if_neg (by omega)]
theorem yl_sp (ht : 0 ≤ p ∧ 0 ≤ t ∧ t < 13) : yLA a y (16 + 13 * p + t) = if t ≤ a then y (16 + 13 * p + t) else 0 := by
  unfold yLA
  have e : (16 + 13 * p + t - 16) % 13 = t := by omega
  by_cases c : t ≤ a
  · rw [if_pos c]
    by_cases c2 : 16 ≤ 16 + 13 * p + t ∧ a < (16 + 13 * p + t - 16) % 13
    · omega
    · rw [if_neg c2]
  · rw [if_neg c]
    by_cases c2 : 16 ≤ 16 + 13 * p + t ∧ a < (16 + 13 * p + t - 16) % 13
    · rw [if_pos c2]
    · rw [if_neg c2]
      by_cases c3 : 16 ≤ 16 + 13 * p + t
      · omega
      · omega
theorem mf_0 (h : g1 + y x1 - y x2 ≤ 0) : mfY y x1 x2 c g1 = 0 := by
  show c * max 0 (g1 + y x1 - y x2) = 0
  rw [show max 0 (g1 + y x1 - y x2) = 0 by omega, Int.mul_zero]
theorem mf_cg (h1 : y1 x1 = y2 x1) (h2 : y1 x2 = y2 x2) : mfY y1 x1 x2 c g1 = mfY y2 x1 x2 c g1 := by
  show c * max 0 (g1 + y1 x1 - y1 x2) = c * max 0 (g1 + y2 x1 - y2 x2)
  rw [h1, h2]
/-- a cut of a minute costs no more with more minutes -/
theorem mdl_cut (hT : tnW T) (hy : shY y) (ha : 0 ≤ a ∧ a ≤ b) (hb : b ≤ 12) : mdl T (w1A a) (-1) 0 b (yLA a y) = mdl T (fun _ => 1) (-1) 0 a y := by
  have w0 := hT.1
  obtain ⟨y0, y1', ys, yz⟩ := hy
  have sp : ∀ p t, 0 ≤ p → 0 ≤ t → t < 13 → yLA a y (16 + 13 * p + t) ≤ 0 := fun p t p1 t1 t2 => by
    rw [yl_sp ⟨p1, t1, t2⟩]
    have := (ys (16 + 13 * p + t) (.inr (by omega))).2
    split <;> omega
  have e1 : msD T 0 b (mfY (yLA a y)) (T 1).toNat = msD T 0 a (mfY y) (T 1).toNat := by
    unfold msD
    refine smI_congr _ _ (fun d d1 d2 => ?_)
    obtain ⟨v1, v2, v3, v4⟩ := hT.2.2.1 d d1 (by omega)
    rw [mf_cg (yl_lo (by decide)) (yl_lo (by omega))]
    congr 1
    refine sm_cut (by omega) (fun j j1 j2 => ?_)
    by_cases c : j < a + 1
    · rw [if_pos c]
      exact mf_cg (yl_lo (by omega)) (by rw [yl_sp (by omega), if_pos (by omega)])
    · rw [if_neg c]
      have := (ys (2 + d) (.inl (by omega))).2
      exact mf_0 (by rw [yl_lo (by omega), yl_sp (by omega), if_neg (by omega)]; omega)
  have e2 : msP T (w1A a) b (mfY (yLA a y)) 8 = msP T (fun _ => 1) a (mfY y) 8 := by
    unfold msP
    refine smI_congr _ _ (fun p p1 p2 => ?_)
    have q1 : smI (fun t => mfY (yLA a y) (16 + 13 * p + t) (16 + 13 * p + (t + 1)) (T (10 + p)) 0) 0 b.toNat = smI (fun t => mfY y (16 + 13 * p + t) (16 + 13 * p + (t + 1)) (T (10 + p)) 0) 0 a.toNat := by
      have k := sm_cut (lo := 0) (hi := a) (hj := b) (f' := fun t => mfY (yLA a y) (16 + 13 * p + t) (16 + 13 * p + (t + 1)) (T (10 + p)) 0) (f := fun t => mfY y (16 + 13 * p + t) (16 + 13 * p + (t + 1)) (T (10 + p)) 0) ha.2 (fun j j1 j2 => ?_)
      · rw [Int.sub_zero, Int.sub_zero] at k; exact k
      · by_cases c : j < a
        · rw [if_pos c]
          exact mf_cg (by rw [yl_sp (by omega), if_pos (by omega)]) (by rw [yl_sp (by omega), if_pos (by omega)])
        · rw [if_neg c]
          have := sp p j p1 j1 (by omega)
          exact mf_0 (by rw [yl_sp (t := j + 1) (by omega), if_neg (by omega)]; omega)
    have q2 : smI (fun t => mfY (yLA a y) (16 + 13 * p + t) (8 + p) 99 (w1A a t)) 0 (b + 1).toNat = smI (fun t => mfY y (16 + 13 * p + t) (8 + p) 99 1) 0 (a + 1).toNat := by
      have k := sm_cut (lo := 0) (hi := a + 1) (hj := b + 1) (f' := fun t => mfY (yLA a y) (16 + 13 * p + t) (8 + p) 99 (w1A a t)) (f := fun t => mfY y (16 + 13 * p + t) (8 + p) 99 1) (by omega) (fun j j1 j2 => ?_)
      · rw [Int.sub_zero, Int.sub_zero] at k; exact k
      · by_cases c : j < a + 1
        · rw [if_pos c, show w1A a j = 1 by unfold w1A; rw [if_pos (by omega)]]
          exact mf_cg (by rw [yl_sp (by omega), if_pos (by omega)]) (yl_lo (by omega))
        · rw [if_neg c, show w1A a j = 0 by unfold w1A; rw [if_neg (by omega)]]
          have := (yz (8 + p) (by omega) (by omega)).1
          exact mf_0 (by rw [yl_sp (by omega), if_neg (by omega), yl_lo (by omega)]; omega)
    have q3 : mfY (yLA a y) (8 + p) 1 (T (18 + p)) 0 = mfY y (8 + p) 1 (T (18 + p)) 0 := mf_cg (yl_lo (by omega)) (yl_lo (by decide))
    rw [q1, q2, q3]
  have e3 : msE T (-1) 0 b (mfY (yLA a y)) (T 0).toNat = msE T (-1) 0 a (mfY y) (T 0).toNat := by
    unfold msE
    refine smI_congr _ _ (fun s s1 s2 => ?_)
    obtain ⟨v1, v2, v3, v4, v5, -⟩ := hT.2.1 s s1 (by omega)
    have tk : 1 ≤ tkS T 0 s ∧ tkS T 0 s ≤ 5 := by unfold tkS; rw [if_neg (by decide)]; omega
    have k := sm_cut (lo := 0) (hi := a + 1 - tkS T 0 s) (hj := b + 1 - tkS T 0 s) (f' := fun t => if T (30 + 7 * s + 4) ≤ t ∧ t ≤ T (30 + 7 * s + 5) then mfY (yLA a y) (16 + 13 * frM T s + t) (16 + 13 * toM T s + (t + tkS T 0 s)) (wiS T 0 s + (if (0 : Int) ≠ 2 ∧ s = -1 then 1 else 0)) 0 else 0) (f := fun t => if T (30 + 7 * s + 4) ≤ t ∧ t ≤ T (30 + 7 * s + 5) then mfY y (16 + 13 * frM T s + t) (16 + 13 * toM T s + (t + tkS T 0 s)) (wiS T 0 s + (if (0 : Int) ≠ 2 ∧ s = -1 then 1 else 0)) 0 else 0) (by omega) (fun j j1 j2 => ?_)
    · rw [Int.sub_zero, Int.sub_zero] at k; exact k
    · by_cases o : T (30 + 7 * s + 4) ≤ j ∧ j ≤ T (30 + 7 * s + 5)
      · rw [if_pos o, if_pos o]
        by_cases c : j < a + 1 - tkS T 0 s
        · rw [if_pos c]
          exact mf_cg (by rw [yl_sp (by omega), if_pos (by omega)]) (by rw [yl_sp (by omega), if_pos (by omega)])
        · rw [if_neg c]
          have := sp (frM T s) j (by omega) j1 (by omega)
          exact mf_0 (by rw [yl_sp (p := toM T s) (t := j + tkS T 0 s) (by omega), if_neg (by omega)]; omega)
      · rw [if_neg o, if_neg o, ite_self]
  unfold mdl msS
  rw [e1, e2, e3]
/-- both minutes' most are the most that both can have -/
theorem qu_le (hT : tnW T) (hm : moK T c2 c3 13) (ha : 0 ≤ a ∧ a ≤ b) (hb : b ≤ 12) (hz : opT 0 1 (mdl T (wqQ a) (-1) 0 b) z) : z ≤ c2 a + c2 b := by
  obtain ⟨-, -, -, y1, s1, m1⟩ := hm a ha.1 (by omega)
  obtain ⟨-, -, -, y2, s2, m2⟩ := hm b (by omega) (by omega)
  have k := mdl_add (w1 := w1A a) (w2 := fun _ => 1) (wd := -1) (h := b) (y1 := yLA a y1) (y2 := y2) hT (wh := 0) (by decide)
  rw [mdl_cut hT s1 ha hb, m1, m2] at k
  rw [mdl_cg (w := wqQ a) (fun t _ _ => by unfold w1A wqQ; split <;> omega)] at k
  have := hz.2 (fun v => yLA a y1 v + y2 v) (by rw [yl_lo (by decide), s1.1, s2.1]; decide) (by rw [yl_lo (by decide), s1.2.1, s2.2.1]; decide)
  omega
end M98i
