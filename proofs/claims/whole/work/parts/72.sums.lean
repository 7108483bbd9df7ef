/-! nets: both lay the same one -/
def tkS (T : Int → Int) (wh s : Int) : Int := T (30 + 7 * s + 2) + (if wh = 2 then 1 else 0)
def wiS (T : Int → Int) (wh s : Int) : Int := if wh = 2 then T (30 + 7 * s + 3) / 2 else T (30 + 7 * s + 3)
/-- the arcs that the class lays, f of each: tail, head, room, name -/
def csD (T : Int → Int) (wh : Int) (f : Int → Int → Int → Int → Int) (n : Nat) : Int := smI (fun d => if wh = 0 ∨ T (150 + 4 * d + 3) = wh - 1 then f 118 (104 + d) (T (150 + 4 * d + 2)) (-1) else 0) 0 n
def csP (T : Int → Int) (f : Int → Int → Int → Int → Int) (n : Nat) : Int := smI (fun p => f (110 + p) 119 (T (18 + p)) (-1)) 0 n
def csA (T : Int → Int) (f : Int → Int → Int → Int → Int) (m : Int) (n : Nat) : Int := smI (fun d => if T (150 + 4 * d + 1) ≤ m then f (104 + d) (13 * T (150 + 4 * d) + m) 99 (-1) else 0) 0 n
def csB (T : Int → Int) (f : Int → Int → Int → Int → Int) (m : Int) (n : Nat) : Int := smI (fun p => (if m < 12 then f (13 * p + m) (13 * p + (m + 1)) (T (10 + p)) (-1) else 0) + (if 0 < T (18 + p) then f (13 * p + m) (110 + p) 99 (16 + m) else 0)) 0 n
def csE (T : Int → Int) (wh : Int) (f : Int → Int → Int → Int → Int) (m : Int) (n : Nat) : Int := smI (fun s => if (T (30 + 7 * s + 4) ≤ m ∧ m ≤ T (30 + 7 * s + 5)) ∧ m + tkS T wh s ≤ 12 then f (13 * frM T s + m) (13 * toM T s + (m + tkS T wh s)) (wiS T wh s) s else 0) 0 n
def csM (T : Int → Int) (wh : Int) (f : Int → Int → Int → Int → Int) (m : Int) : Int := csA T f m (T 1).toNat + csB T f m 8 + csE T wh f m (T 0).toNat
def csS (T : Int → Int) (wh : Int) (f : Int → Int → Int → Int → Int) : Int := csD T wh f (T 1).toNat + csP T f 8 + smI (csM T wh f) 0 13
/-- the arcs that the model lays -/
def msD (T : Int → Int) (wh h : Int) (f : Int → Int → Int → Int → Int) (n : Nat) : Int := smI (fun d => f 0 (2 + d) (if 0 < wh ∧ T (150 + 4 * d + 3) ≠ wh - 1 then 0 else T (150 + 4 * d + 2)) 0 + smI (fun t => f (2 + d) (16 + 13 * T (150 + 4 * d) + t) 99 0) (T (150 + 4 * d + 1)) (h + 1 - T (150 + 4 * d + 1)).toNat) 0 n
def msP (T w : Int → Int) (h : Int) (f : Int → Int → Int → Int → Int) (n : Nat) : Int := smI (fun p => smI (fun t => f (16 + 13 * p + t) (16 + 13 * p + (t + 1)) (T (10 + p)) 0) 0 h.toNat + (if T (18 + p) = 0 then 0 else smI (fun t => f (16 + 13 * p + t) (8 + p) 99 (w t)) 0 (h + 1).toNat + f (8 + p) 1 (T (18 + p)) 0)) 0 n
def msE (T : Int → Int) (wd wh h : Int) (f : Int → Int → Int → Int → Int) (n : Nat) : Int := smI (fun s => smI (fun t => if T (30 + 7 * s + 4) ≤ t ∧ t ≤ T (30 + 7 * s + 5) then f (16 + 13 * frM T s + t) (16 + 13 * toM T s + (t + tkS T wh s)) (wiS T wh s + (if wh ≠ 2 ∧ s = wd then 1 else 0)) 0 else 0) 0 (h + 1 - tkS T wh s).toNat) 0 n
def msS (T w : Int → Int) (wd wh h : Int) (f : Int → Int → Int → Int → Int) : Int := msD T wh h f (T 1).toNat + msP T w h f 8 + msE T wd wh h f (T 0).toNat
/-- what an arc costs under y -/
def mfY (y : Int → Int) : Int → Int → Int → Int → Int := fun a b c g => c * max 0 (g + y a - y b)
def mdl (T w : Int → Int) (wd wh h : Int) (y : Int → Int) : Int := msS T w wd wh h (mfY y)
def alH (h : Int) : Int → Bool := fun v => !(decide (v < 104) && decide (h < v % 13))
def gnL (w : Int → Int) (l : Int) : Int := if 16 ≤ l then w (l - 16) else 0
def cfY (w : Int → Int) (wd h : Int) (y : Int → Int) : Int → Int → Int → Int → Int := fun a b c l => if (alH h a && alH h b) = true then (c + if l = wd ∧ 0 ≤ l then 1 else 0) * max 0 (gnL w l + y a - y b) else 0
/-- the model's node for the class's, and back -/
def phI (v : Int) : Int := if 0 ≤ v ∧ v < 104 then v + 16 else if 104 ≤ v ∧ v < 118 then v - 102 else if 118 ≤ v ∧ v < 120 then v - 118 else v
def psI (v : Int) : Int := if 0 ≤ v ∧ v < 2 then v + 118 else if 2 ≤ v ∧ v < 16 then v + 102 else if 16 ≤ v ∧ v < 120 then v - 16 else v
section M72
variable {T w y g : Int → Int} {wd wh h s m a b c l v z : Int} {f : Int → Int → Int → Int → Int}
theorem phps (v : Int) : phI (psI v) = v := by
  unfold phI psI
  (repeat' split) <;> omega
theorem smI_sub {g : Int → Int} : ∀ (n : Nat) (i lo : Int) (k : Nat), i ≤ lo → lo + k ≤ i + n → smI (fun m => if lo ≤ m ∧ m < lo + k then g m else 0) i n = smI g lo k := by
  intro n
  induction n with
  | zero =>
    intro i lo k h1 h2
    have : k = 0 := by omega
    subst this; rfl
  | succ n ih =>
    intro i lo k h1 h2
    simp only [smI]
    by_cases e : lo = i
    · subst e
      cases k with
      | zero =>
        rw [if_neg (by omega), smI_0 n (lo + 1) (fun j j1 j2 => by rw [if_neg (by omega)])]; rfl
      | succ k =>
        rw [if_pos (by omega)]
        simp only [smI]
        rw [← ih (lo + 1) (lo + 1) k (by omega) (by omega)]
        congr 1
        refine smI_congr _ _ (fun j j1 j2 => ?_)
        by_cases c : j < lo + ((k + 1 : Nat) : Int)
        · rw [if_pos ⟨by omega, c⟩, if_pos ⟨by omega, by omega⟩]
        · rw [if_neg (fun z => c z.2), if_neg (fun z => c (by omega))]
    · rw [if_neg (by omega), ih (i + 1) lo k (by omega) (by omega)]; omega
theorem al_spot (hm : 0 ≤ m ∧ m < 13) (hp : 0 ≤ a ∧ a < 8) : alH h (13 * a + m) = decide (m ≤ h) := by
  unfold alH
  have e : (13 * a + m) % 13 = m := by omega
  rw [e]
  by_cases c : m ≤ h
  · rw [decide_eq_true c, decide_eq_false (show ¬ h < m by omega), Bool.and_false]; rfl
  · rw [decide_eq_false c, decide_eq_true (show h < m by omega), decide_eq_true (show 13 * a + m < 104 by omega)]; rfl
theorem al_big (hv : 104 ≤ v) : alH h v = true := by
  unfold alH
  rw [decide_eq_false (show ¬ v < 104 by omega), Bool.false_and]; rfl
theorem ps_spot (hm : 0 ≤ m ∧ m < 13) (hp : 0 ≤ a ∧ a < 8) : psI (16 + 13 * a + m) = 13 * a + m := by
  unfold psI
  rw [if_neg (by omega), if_neg (by omega), if_pos (by omega)]; omega
theorem cf_al (ha : alH h a = true) (hb : alH h b = true) (hl : ¬ (l = wd ∧ 0 ≤ l)) : cfY w wd h y a b c l = c * max 0 (gnL w l + y a - y b) := by
  unfold cfY
  rw [ha, hb, if_pos (show (true && true) = true from rfl), if_neg hl, Int.add_zero]
theorem cf_1 (ha : alH h a = true) (hb : alH h b = true) (hl : l = wd ∧ 0 ≤ l) : cfY w wd h y a b c l = (c + 1) * max 0 (gnL w l + y a - y b) := by
  unfold cfY
  rw [ha, hb, if_pos (show (true && true) = true from rfl), if_pos hl]
theorem cf_de (hd : alH h a = false ∨ alH h b = false) : cfY w wd h y a b c l = 0 := by
  unfold cfY
  rcases hd with e | e
  · rw [e, Bool.false_and, if_neg (by decide)]
  · rw [e, Bool.and_false, if_neg (by decide)]
theorem gn_lo (hl : l < 16) : gnL w l = 0 := by unfold gnL; rw [if_neg (by omega)]
theorem gn_hi (hm : 0 ≤ m) : gnL w (16 + m) = w m := by unfold gnL; rw [if_pos (by omega), show 16 + m - 16 = m by omega]
theorem cs_A (hT : tnW T) (hh : 0 ≤ h ∧ h ≤ 12) : smI (fun m => csA T (cfY w wd h y) m (T 1).toNat) 0 13 = smI (fun d => smI (fun t => mfY (fun v => y (psI v)) (2 + d) (16 + 13 * T (150 + 4 * d) + t) 99 0) (T (150 + 4 * d + 1)) (h + 1 - T (150 + 4 * d + 1)).toNat) 0 (T 1).toNat := by
  have w0 := hT.1
  unfold csA
  rw [smI_swap (f := fun m d => if T (150 + 4 * d + 1) ≤ m then cfY w wd h y (104 + d) (13 * T (150 + 4 * d) + m) 99 (-1) else 0) 13 (T 1).toNat 0 0]
  refine smI_congr _ _ (fun d d1 d2 => ?_)
  obtain ⟨v1, v2, -⟩ := hT.2.2.1 d d1 (by omega)
  have de : ∀ m, 0 ≤ m → m < 13 → h < m → (if T (150 + 4 * d + 1) ≤ m then cfY w wd h y (104 + d) (13 * T (150 + 4 * d) + m) 99 (-1) else 0) = 0 := fun m m1 m2 m3 => by
    rw [cf_de (.inr (by rw [al_spot (by omega) (by omega), decide_eq_false (by omega)])), ite_self]
  by_cases c : h + 1 ≤ T (150 + 4 * d + 1)
  · rw [show (h + 1 - T (150 + 4 * d + 1)).toNat = 0 by omega]
    refine smI_0 13 0 (fun m m1 m2 => ?_)
    by_cases q : T (150 + 4 * d + 1) ≤ m
    · exact de m m1 (by omega) (by omega)
    · rw [if_neg q]
  · rw [← smI_sub (g := fun t => mfY (fun v => y (psI v)) (2 + d) (16 + 13 * T (150 + 4 * d) + t) 99 0) 13 0 (T (150 + 4 * d + 1)) (h + 1 - T (150 + 4 * d + 1)).toNat (by omega) (by omega)]
    refine smI_congr _ _ (fun m m1 m2 => ?_)
    by_cases q2 : m ≤ h
    · by_cases q : T (150 + 4 * d + 1) ≤ m
      · rw [if_pos q, if_pos (show T (150 + 4 * d + 1) ≤ m ∧ m < T (150 + 4 * d + 1) + ((h + 1 - T (150 + 4 * d + 1)).toNat : Int) by omega), cf_al (al_big (by omega)) (by rw [al_spot (by omega) (by omega), decide_eq_true q2]) (by omega), gn_lo (by omega)]
        have e : psI (2 + d) = 104 + d := by unfold psI; rw [if_neg (by omega), if_pos (by omega)]; omega
        show _ = 99 * max 0 (0 + y (psI (2 + d)) - y (psI (16 + 13 * T (150 + 4 * d) + m)))
        rw [ps_spot (by omega) (by omega), e]
      · rw [if_neg q, if_neg (by omega)]
    · rw [de m m1 (by omega) (by omega), if_neg (by omega)]
theorem cs_D (hT : tnW T) (hwh : 0 ≤ wh ∧ wh ≤ 2) : csD T wh (cfY w wd h y) (T 1).toNat = smI (fun d => mfY (fun v => y (psI v)) 0 (2 + d) (if 0 < wh ∧ T (150 + 4 * d + 3) ≠ wh - 1 then 0 else T (150 + 4 * d + 2)) 0) 0 (T 1).toNat := by
  have w0 := hT.1
  unfold csD
  refine smI_congr _ _ (fun d d1 d2 => ?_)
  by_cases c : wh = 0 ∨ T (150 + 4 * d + 3) = wh - 1
  · rw [if_pos c, if_neg (show ¬ (0 < wh ∧ T (150 + 4 * d + 3) ≠ wh - 1) by omega), cf_al (al_big (by omega)) (al_big (by omega)) (by omega), gn_lo (by omega)]
    have e1 : psI (2 + d) = 104 + d := by unfold psI; rw [if_neg (by omega), if_pos (by omega)]; omega
    have e2 : psI 0 = 118 := rfl
    show _ = T (150 + 4 * d + 2) * max 0 (0 + y (psI 0) - y (psI (2 + d)))
    rw [e1, e2]
  · rw [if_neg c, if_pos (show 0 < wh ∧ T (150 + 4 * d + 3) ≠ wh - 1 by omega)]
    show 0 = 0 * _
    rw [Int.zero_mul]
theorem cs_B (hT : tnW T) (hh : 0 ≤ h ∧ h ≤ 12) (hw2 : wd < 16) : csP T (cfY w wd h y) 8 + smI (fun m => csB T (cfY w wd h y) m 8) 0 13 = msP T w h (mfY (fun v => y (psI v))) 8 := by
  have w0 := hT.1
  unfold csP csB msP
  rw [smI_swap (f := fun m p => (if m < 12 then cfY w wd h y (13 * p + m) (13 * p + (m + 1)) (T (10 + p)) (-1) else 0) + (if 0 < T (18 + p) then cfY w wd h y (13 * p + m) (110 + p) 99 (16 + m) else 0)) 13 8 0 0, ← smI_add]
  refine smI_congr _ _ (fun p p1 p2 => ?_)
  obtain ⟨v1, v2⟩ := hT.2.2.2.2 p p1 (by omega)
  rw [smI_add]
  have e8 : psI (8 + p) = 110 + p := by unfold psI; rw [if_neg (by omega), if_pos (by omega)]; omega
  have e1 : psI 1 = 119 := rfl
  have a1 : smI (fun m => if m < 12 then cfY w wd h y (13 * p + m) (13 * p + (m + 1)) (T (10 + p)) (-1) else 0) 0 13 = smI (fun t => mfY (fun v => y (psI v)) (16 + 13 * p + t) (16 + 13 * p + (t + 1)) (T (10 + p)) 0) 0 h.toNat := by
    rw [← smI_sub (g := fun t => mfY (fun v => y (psI v)) (16 + 13 * p + t) (16 + 13 * p + (t + 1)) (T (10 + p)) 0) 13 0 0 h.toNat (by omega) (by omega)]
    refine smI_congr _ _ (fun m m1 m2 => ?_)
    by_cases q : m < 12
    · rw [if_pos q]
      by_cases q2 : m + 1 ≤ h
      · rw [if_pos (show 0 ≤ m ∧ m < 0 + (h.toNat : Int) by omega), cf_al (by rw [al_spot (by omega) (by omega), decide_eq_true (by omega)]) (by rw [al_spot (by omega) (by omega), decide_eq_true q2]) (by omega), gn_lo (by omega)]
        show _ = T (10 + p) * max 0 (0 + y (psI (16 + 13 * p + m)) - y (psI (16 + 13 * p + (m + 1))))
        rw [ps_spot (by omega) (by omega), ps_spot (by omega) (by omega)]
      · rw [if_neg (show ¬ (0 ≤ m ∧ m < 0 + (h.toNat : Int)) by omega), cf_de (.inr (by rw [al_spot (by omega) (by omega), decide_eq_false q2]))]
    · rw [if_neg q, if_neg (by omega)]
  have a2 : smI (fun m => if 0 < T (18 + p) then cfY w wd h y (13 * p + m) (110 + p) 99 (16 + m) else 0) 0 13 = if T (18 + p) = 0 then 0 else smI (fun t => mfY (fun v => y (psI v)) (16 + 13 * p + t) (8 + p) 99 (w t)) 0 (h + 1).toNat := by
    by_cases q : T (18 + p) = 0
    · rw [if_pos q]
      exact smI_0 _ _ (fun m _ _ => by rw [if_neg (by omega)])
    · rw [if_neg q, ← smI_sub (g := fun t => mfY (fun v => y (psI v)) (16 + 13 * p + t) (8 + p) 99 (w t)) 13 0 0 (h + 1).toNat (by omega) (by omega)]
      refine smI_congr _ _ (fun m m1 m2 => ?_)
      rw [if_pos (by omega)]
      by_cases q2 : m ≤ h
      · rw [if_pos (show 0 ≤ m ∧ m < 0 + ((h + 1).toNat : Int) by omega), cf_al (by rw [al_spot (by omega) (by omega), decide_eq_true q2]) (al_big (by omega)) (by omega), gn_hi m1]
        show _ = 99 * max 0 (w m + y (psI (16 + 13 * p + m)) - y (psI (8 + p)))
        rw [ps_spot (by omega) (by omega), e8]
      · rw [if_neg (show ¬ (0 ≤ m ∧ m < 0 + ((h + 1).toNat : Int)) by omega), cf_de (.inl (by rw [al_spot (by omega) (by omega), decide_eq_false q2]))]
  have a3 : cfY w wd h y (110 + p) 119 (T (18 + p)) (-1) = if T (18 + p) = 0 then 0 else mfY (fun v => y (psI v)) (8 + p) 1 (T (18 + p)) 0 := by
    rw [cf_al (al_big (by omega)) (al_big (by omega)) (by omega), gn_lo (by omega)]
    by_cases q : T (18 + p) = 0
    · rw [if_pos q, q, Int.zero_mul]
    · rw [if_neg q]
      show _ = T (18 + p) * max 0 (0 + y (psI (8 + p)) - y (psI 1))
      rw [e8, e1]
  rw [a1, a2, a3]
  by_cases q : T (18 + p) = 0
  · rw [if_pos q, if_pos q, if_pos q]; omega
  · rw [if_neg q, if_neg q, if_neg q]; omega
theorem cs_E (hT : tnW T) (hh : 0 ≤ h ∧ h ≤ 12) (hwd : wh = 2 → wd < 0) : smI (fun m => csE T wh (cfY w wd h y) m (T 0).toNat) 0 13 = msE T wd wh h (mfY (fun v => y (psI v))) (T 0).toNat := by
  have w0 := hT.1
  unfold csE msE
  rw [smI_swap (f := fun m s => if (T (30 + 7 * s + 4) ≤ m ∧ m ≤ T (30 + 7 * s + 5)) ∧ m + tkS T wh s ≤ 12 then cfY w wd h y (13 * frM T s + m) (13 * toM T s + (m + tkS T wh s)) (wiS T wh s) s else 0) 13 (T 0).toNat 0 0]
  refine smI_congr _ _ (fun s s1 s2 => ?_)
  obtain ⟨v1, v2, v3, v4, v5, -⟩ := hT.2.1 s s1 (by omega)
  have tk : 1 ≤ tkS T wh s ∧ tkS T wh s ≤ 6 := by unfold tkS; split <;> omega
  rw [← smI_sub (g := fun t => if T (30 + 7 * s + 4) ≤ t ∧ t ≤ T (30 + 7 * s + 5) then mfY (fun v => y (psI v)) (16 + 13 * frM T s + t) (16 + 13 * toM T s + (t + tkS T wh s)) (wiS T wh s + (if wh ≠ 2 ∧ s = wd then 1 else 0)) 0 else 0) 13 0 0 (h + 1 - tkS T wh s).toNat (by omega) (by omega)]
  refine smI_congr _ _ (fun m m1 m2 => ?_)
  by_cases q : m + tkS T wh s ≤ h
  · rw [if_pos (show 0 ≤ m ∧ m < 0 + ((h + 1 - tkS T wh s).toNat : Int) by omega)]
    by_cases o : T (30 + 7 * s + 4) ≤ m ∧ m ≤ T (30 + 7 * s + 5)
    · have al1 : alH h (13 * frM T s + m) = true := by rw [al_spot (by omega) (by omega), decide_eq_true (by omega)]
      have al2 : alH h (13 * toM T s + (m + tkS T wh s)) = true := by rw [al_spot (by omega) (by omega), decide_eq_true q]
      rw [if_pos ⟨o, by omega⟩, if_pos o]
      show _ = (wiS T wh s + (if wh ≠ 2 ∧ s = wd then 1 else 0)) * max 0 (0 + y (psI (16 + 13 * frM T s + m)) - y (psI (16 + 13 * toM T s + (m + tkS T wh s))))
      rw [ps_spot (by omega) (by omega), ps_spot (by omega) (by omega)]
      by_cases e : s = wd
      · have hn : wh ≠ 2 := fun z => by have := hwd z; omega
        rw [cf_1 al1 al2 ⟨e, s1⟩, gn_lo (by omega), if_pos ⟨hn, e⟩]
      · rw [cf_al al1 al2 (fun z => e z.1), gn_lo (by omega), if_neg (fun z => e z.2), Int.add_zero]
    · rw [if_neg (fun z => o z.1), if_neg o]
  · rw [if_neg (show ¬ (0 ≤ m ∧ m < 0 + ((h + 1 - tkS T wh s).toNat : Int)) by omega)]
    by_cases o : (T (30 + 7 * s + 4) ≤ m ∧ m ≤ T (30 + 7 * s + 5)) ∧ m + tkS T wh s ≤ 12
    · rw [if_pos o, cf_de (.inr (by rw [al_spot (m := m + tkS T wh s) (by omega) (by omega), decide_eq_false q]))]
    · rw [if_neg o]
theorem cs_ms (hT : tnW T) (hh : 0 ≤ h ∧ h ≤ 12) (hwh : 0 ≤ wh ∧ wh ≤ 2) (hwd : wh = 2 → wd < 0) (hw2 : wd < 16) : csS T wh (cfY w wd h y) = mdl T w wd wh h (fun v => y (psI v)) := by
  unfold csS mdl msS csM msD
  rw [smI_add, smI_add, smI_add, cs_A hT hh, cs_D hT hwh, cs_E hT hh hwd, ← cs_B (wd := wd) hT hh hw2]
  omega
/-- the class's optimum is the model's -/
theorem op_cm (hT : tnW T) (hh : 0 ≤ h ∧ h ≤ 12) (hwh : 0 ≤ wh ∧ wh ≤ 2) (hwd : wh = 2 → wd < 0) (hw2 : wd < 16) (H : opT 118 119 (fun y => csS T wh (cfY w wd h y)) z) : opT 0 1 (mdl T w wd wh h) z := by
  obtain ⟨⟨y, h1, h2, h3⟩, h4⟩ := H
  refine ⟨⟨fun v => y (psI v), h1, h2, ?_⟩, fun y' g1 g2 => ?_⟩
  · rw [← cs_ms hT hh hwh hwd hw2]; exact h3
  · have := h4 (fun v => y' (phI v)) g1 g2
    have e : csS T wh (cfY w wd h (fun v => y' (phI v))) = mdl T w wd wh h y' := by
      rw [cs_ms hT hh hwh hwd hw2]
      congr 1
      funext v
      show y' (phI (psI v)) = y' v
      rw [phps]
    rw [← e]; exact this
end M72
