/-! outs: the most, and who stands before the cut -/
def oneW : Int → Int := fun _ => 1
def cuC (T : Int → Int) (wh h p m z : Int) : Prop := ∀ y : Int → Int, y 0 = 0 → y 1 = 0 → mdl T (fun _ => 1) (-1) wh h y = z → 0 ≤ y (16 + 13 * p + m)
/-- a bit that says it -/
def cuB (C : Prop) (b : Int) : Prop := (b = 1 ∧ C) ∨ (b = 0 ∧ ¬ C)
/-- cut-shaped -/
def shY (y : Int → Int) : Prop := y 0 = 0 ∧ y 1 = 0 ∧ (∀ v, (2 ≤ v ∧ v < 8) ∨ 16 ≤ v → -1 ≤ y v ∧ y v ≤ 0) ∧ ∀ v, 8 ≤ v → v < 16 → 0 ≤ y v ∧ y v ≤ 1
def moK (T c2 c3 : Int → Int) (n : Int) : Prop := ∀ t, 0 ≤ t → t < n → (0 ≤ c2 t ∧ c2 t ≤ 99) ∧ opT 0 1 (mdl T (fun _ => 1) (-1) 0 t) (c2 t) ∧ (∀ p m, 0 ≤ p → p < 8 → 0 ≤ m → m ≤ t → cuB (cuC T 0 t p m (c2 t)) (iand (ishr (c3 (8 * t + p)) m) 1)) ∧ ∃ y : Int → Int, shY y ∧ mdl T (fun _ => 1) (-1) 0 t y = c2 t
section M79
variable {c' E x1 x2 x3 x4 n m p h t wd wh a b l v e F F' : Int} {D D' D1 D2 : xD} {T c r w y : Int → Int} {o1 o2 o3 o4 : Option xv} {Q : Option xv → xD → Prop}
theorem cf_in (ha : a ≠ 118) (hcc : 0 ≤ c') : cfY (fun _ => 0) wd h inS a b c' l = 0 := by
  have g : gnL (fun _ => 0) l = 0 := by unfold gnL; split <;> rfl
  have e : max 0 (gnL (fun _ => 0) l + inS a - inS b) = 0 := by
    rw [g]
    unfold inS
    rw [if_neg ha]
    split <;> omega
  unfold cfY
  rw [e, Int.mul_zero, ite_self]
theorem in_99 (hT : tnW T) (hw : 0 ≤ wh ∧ wh ≤ 2) : csS T wh (cfY (fun _ => 0) wd h inS) ≤ 99 := by
  have w0 := hT.1
  have h1 : csD T wh (cfY (fun _ => 0) wd h inS) (T 1).toNat ≤ 99 := by
    have := hT.2.2.2.1
    unfold csD
    refine Int.le_trans (smI_le (g := fun d => T (150 + 4 * d + 2)) _ _ (fun d d1 d2 => ?_)) (by omega)
    have v := (hT.2.2.1 d d1 (by omega)).2.2.1
    show (if wh = 0 ∨ T (150 + 4 * d + 3) = wh - 1 then cfY (fun _ => 0) wd h inS 118 (104 + d) (T (150 + 4 * d + 2)) (-1) else 0) ≤ T (150 + 4 * d + 2)
    by_cases q : wh = 0 ∨ T (150 + 4 * d + 3) = wh - 1
    · rw [if_pos q, cf_al (al_big (by omega)) (al_big (by omega)) (by omega), gn_lo (by omega)]
      have e1 : inS 118 = 1 := rfl
      have e2 : inS (104 + d) = 0 := by unfold inS; rw [if_neg (by omega)]
      rw [e1, e2, show max 0 (0 + 1 - 0 : Int) = 1 from rfl]; omega
    · rw [if_neg q]; omega
  have h2 : csP T (cfY (fun _ => 0) wd h inS) 8 = 0 := by
    unfold csP
    refine smI_0 _ _ (fun p p1 p2 => ?_)
    have v := (hT.2.2.2.2 p p1 (by omega)).2
    exact cf_in (by omega) (by omega)
  have h3 : smI (csM T wh (cfY (fun _ => 0) wd h inS)) 0 13 = 0 := by
    refine smI_0 _ _ (fun m m1 m2 => ?_)
    unfold csM csA csB csE
    have a1 : smI (fun d => if T (150 + 4 * d + 1) ≤ m then cfY (fun _ => 0) wd h inS (104 + d) (13 * T (150 + 4 * d) + m) 99 (-1) else 0) 0 (T 1).toNat = 0 := smI_0 _ _ (fun d d1 d2 => by
      rw [cf_in (by omega) (by omega), ite_self])
    have a2 : smI (fun p => (if m < 12 then cfY (fun _ => 0) wd h inS (13 * p + m) (13 * p + (m + 1)) (T (10 + p)) (-1) else 0) + (if 0 < T (18 + p) then cfY (fun _ => 0) wd h inS (13 * p + m) (110 + p) 99 (16 + m) else 0)) 0 8 = 0 := smI_0 _ _ (fun p p1 p2 => by
      have v := (hT.2.2.2.2 p p1 (by omega)).1
      rw [cf_in (by omega) (by omega), cf_in (by omega) (by omega), ite_self, ite_self]; rfl)
    have a3 : smI (fun s => if (T (30 + 7 * s + 4) ≤ m ∧ m ≤ T (30 + 7 * s + 5)) ∧ m + tkS T wh s ≤ 12 then cfY (fun _ => 0) wd h inS (13 * frM T s + m) (13 * toM T s + (m + tkS T wh s)) (wiS T wh s) s else 0) 0 (T 0).toNat = 0 := smI_0 _ _ (fun s s1 s2 => by
      obtain ⟨v1, v2, v3, v4, v5, -⟩ := hT.2.1 s s1 (by omega)
      have wi : 0 ≤ wiS T wh s := by unfold wiS; split <;> omega
      rw [cf_in (by omega) wi, ite_self])
    rw [a1, a2, a3]; rfl
  unfold csS
  rw [h2, h3]
  omega
theorem cs_all2 {f : Int → Int → Int → Int → Int} (hT : tnW T) (hw : 0 ≤ wh ∧ wh ≤ 2) (hf : ∀ a b c l, c ≤ 99 → f a b c l = 0) : csS T wh f = 0 := by
  have w0 := hT.1
  have h1 : csD T wh f (T 1).toNat = 0 := by
    unfold csD
    refine smI_0 _ _ (fun d d1 d2 => ?_)
    have v := (hT.2.2.1 d d1 (by omega)).2.2.1
    rw [hf _ _ _ _ (by omega), ite_self]
  have h2 : csP T f 8 = 0 := by
    unfold csP
    refine smI_0 _ _ (fun p p1 p2 => ?_)
    have v := (hT.2.2.2.2 p p1 (by omega)).2
    exact hf _ _ _ _ (by omega)
  have h3 : smI (csM T wh f) 0 13 = 0 := by
    refine smI_0 _ _ (fun m m1 m2 => ?_)
    unfold csM csA csB csE
    have a1 : smI (fun d => if T (150 + 4 * d + 1) ≤ m then f (104 + d) (13 * T (150 + 4 * d) + m) 99 (-1) else 0) 0 (T 1).toNat = 0 := smI_0 _ _ (fun d d1 d2 => by
      rw [hf _ _ _ _ (by omega), ite_self])
    have a2 : smI (fun p => (if m < 12 then f (13 * p + m) (13 * p + (m + 1)) (T (10 + p)) (-1) else 0) + (if 0 < T (18 + p) then f (13 * p + m) (110 + p) 99 (16 + m) else 0)) 0 8 = 0 := smI_0 _ _ (fun p p1 p2 => by
      have v := (hT.2.2.2.2 p p1 (by omega)).1
      rw [hf (13 * p + m) (110 + p) 99 (16 + m) (by omega), hf _ _ _ _ (by omega), ite_self, ite_self]; rfl)
    have a3 : smI (fun s => if (T (30 + 7 * s + 4) ≤ m ∧ m ≤ T (30 + 7 * s + 5)) ∧ m + tkS T wh s ≤ 12 then f (13 * frM T s + m) (13 * toM T s + (m + tkS T wh s)) (wiS T wh s) s else 0) 0 (T 0).toNat = 0 := smI_0 _ _ (fun s s1 s2 => by
      obtain ⟨v1, v2, v3, v4, v5, -⟩ := hT.2.1 s s1 (by omega)
      have wi : wiS T wh s ≤ 99 := by unfold wiS; split <;> omega
      rw [hf _ _ _ _ wi, ite_self])
    rw [a1, a2, a3]; rfl
  unfold csS
  rw [h1, h2, h3]; rfl
/-- as built: nobody on the way yet -/
theorem cl_0 (hT : tnW T) (hw : 0 ≤ wh ∧ wh ≤ 2) (hI : ncI D (csS T wh) 1016) : clI D (cPr (D 61)) h 0 (csS T wh) := by
  obtain ⟨hN, hr⟩ := ns_of hT hw hI
  refine ⟨hN, (fl_zero hN hr (alH h)).1, fun k k1 k2 => ?_, Int.le_refl _⟩
  have e0 := hN.1
  have h0 := hN.2.2.1 (fun a b c l => if c ≤ 99 then 0 else 1)
  rw [cs_all2 hT hw (fun a b c l h => by show (if c ≤ 99 then (0 : Int) else 1) = 0; rw [if_pos h])] at h0
  have h1 := sm_all (f := fun k => if cPr (D 61) (2 * k) ≤ 99 then 0 else 1) (D 57 0 / 2).toNat 0 (fun j => by show 0 ≤ (if _ then (0 : Int) else 1); split <;> decide) h0 k k1 (by omega)
  have h1 : (if cPr (D 61) (2 * k) ≤ 99 then (0 : Int) else 1) = 0 := h1
  by_cases q : cPr (D 61) (2 * k) ≤ 99
  · omega
  · rw [if_neg q] at h1; exact absurd h1 (by decide)
theorem du_eq (hN : nsI D c (csS T wh)) : duD D w c h = fun y => csS T wh (cfY w (-1) h y) := by
  funext y
  exact du_cs hN (by decide)
theorem cl_W (hT : tnW T) (hw : 0 ≤ wh ∧ wh ≤ 2) (hN : nsI D c (csS T wh)) : duD D (fun _ => 0) c h inS ≤ 99 := by
  rw [du_eq hN]
  exact in_99 hT hw
theorem mo_cl (hT : tnW T) (hh : 0 ≤ h ∧ h ≤ 12) (hw : 0 ≤ wh ∧ wh ≤ 2) (hc : clI D c h F (csS T wh)) (hE : clE D h) : opT 0 1 (mdl T (fun _ => 1) (-1) wh h) F := by
  have := cl_opt hc hE
  rw [du_eq hc.1] at this
  exact op_cm hT hh hw (by omega) (by decide) this
theorem cu_cl (hT : tnW T) (hh : 0 ≤ h ∧ h ≤ 12) (hw : 0 ≤ wh ∧ wh ≤ 2) (hc : clI D c h F (csS T wh)) (hE : clE D h) (hp : 0 ≤ p ∧ p < 8) (hm : 0 ≤ m ∧ m < 13) : viA D (13 * p + m) ≠ -1 ↔ cuC T wh h p m F := by
  rw [cl_cut hc hE (by omega), du_eq hc.1]
  constructor
  · intro H y y0 y1 y2
    have := H (fun v => y (phI v)) y0 y1 (by
      show csS T wh (cfY (fun _ => 1) (-1) h (fun v => y (phI v))) = F
      rw [cs_ms hT hh hw (by omega) (by decide)]
      rw [show (fun v => (fun v => y (phI v)) (psI v)) = y from funext (fun v => by show y (phI (psI v)) = y v; rw [phps])]
      exact y2)
    have this : 0 ≤ y (phI (13 * p + m)) := this
    have e : phI (13 * p + m) = 16 + 13 * p + m := by unfold phI; rw [if_pos (by omega)]; omega
    rw [e] at this
    exact this
  · intro H y y0 y1 y2
    have y2 : csS T wh (cfY (fun _ => 1) (-1) h y) = F := y2
    rw [cs_ms hT hh hw (by omega) (by decide)] at y2
    have := H (fun v => y (psI v)) y0 y1 y2
    have this : 0 ≤ y (psI (16 + 13 * p + m)) := this
    rw [ps_spot (by omega) hp] at this
    exact this
theorem sh_cl (hT : tnW T) (hh : 0 ≤ h ∧ h ≤ 12) (hw : 0 ≤ wh ∧ wh ≤ 2) (hc : clI D c h F (csS T wh)) (hE : clE D h) : ∃ y : Int → Int, shY y ∧ mdl T (fun _ => 1) (-1) wh h y = F := by
  have f := fl_opt (nt_1 hc.1) hc.2.1 (cl_con hc hE)
  rw [flL_pH hc, (yC_S hE).1, (yC_S hE).2, Int.sub_self, Int.mul_zero, Int.add_zero] at f
  have f : F = duD D (fun _ => 1) c h (yC (viA D)) := f
  rw [du_eq hc.1] at f
  have f : F = csS T wh (cfY (fun _ => 1) (-1) h (yC (viA D))) := f
  rw [cs_ms hT hh hw (by omega) (by decide)] at f
  have sh : ∀ u, -1 + pH u ≤ yC (viA D) u ∧ yC (viA D) u ≤ pH u := fun u => by
    unfold yC
    split <;> omega
  refine ⟨fun v => yC (viA D) (psI v), ⟨(yC_S hE).1, (yC_S hE).2, fun v hv => ?_, fun v v1 v2 => ?_⟩, f.symm⟩
  · show -1 ≤ yC (viA D) (psI v) ∧ yC (viA D) (psI v) ≤ 0
    have := sh (psI v)
    have e : pH (psI v) = 0 := by
      unfold pH psI
      (repeat' split) <;> omega
    omega
  · show 0 ≤ yC (viA D) (psI v) ∧ yC (viA D) (psI v) ≤ 1
    have := sh (psI v)
    have e : pH (psI v) = 1 := by
      unfold pH psI
      (repeat' split) <;> omega
    omega
theorem bI_sh {i : Nat} {k : Int} (hk : 0 ≤ k ∧ k < 32) (hi : i < 32) : bI (ishl 1 k) i = decide ((i : Int) = k) := by
  obtain ⟨n, rfl⟩ : ∃ n : Nat, k = n := ⟨k.toNat, by omega⟩
  rw [bI_ishl 1 n (by omega) hi, bI_1 (by omega)]
  by_cases c : n ≤ i
  · rw [decide_eq_true c, Bool.true_and]
    by_cases c2 : i = n
    · rw [decide_eq_true (by omega), decide_eq_true (by omega)]
    · rw [decide_eq_false (by omega), decide_eq_false (by omega)]
  · rw [decide_eq_false c, Bool.false_and, decide_eq_false (by omega)]
theorem m40 (hv : 0 ≤ v ∧ v < 120) : WP 124 xF1 none 40 0 [some (.inr (.inr (some 57))), some (.inl v)] [] D Q = Q (some (.inl (if viA D v = -1 then 0 else 1))) D := by
  rw [seg40_0 (ha0 := ho57), cnB hv]
  simp only [Nat.reduceAdd]
  rw [vi_in hv]
  by_cases c : D 65 v = -1
  · rw [brT c, seg40_15 (ha0 := ho57), if_pos c]; simp
  · rw [brF c, seg40_15 (ha0 := ho57), if_neg c]; simp
/-- a row of bits -/
theorem l47b (hx1 : 0 ≤ x1 ∧ x1 ≤ 12) (hx2 : 0 ≤ x2 ∧ x2 < 8) (hq : ∀ (D' : xD) x3 x4, (∀ a, a ≠ 69 → D' a = D a) → (∀ j, j ≠ x1 * 8 + x2 → D' 69 j = D 69 j) → (∀ i : Nat, i < 32 → bI (D' 69 (x1 * 8 + x2)) i = (decide ((i : Int) ≤ x1) && !decide (viA D (13 * x2 + i) = -1))) → WP 124 xF1 none 47 2 [some (.inr (.inr (some 56))), some (.inl x1), some (.inl (x2 + 1)), some (.inl x3), some (.inl x4)] [] D' Q) :
    ∀ (k : Nat) (x3 x4 : Int), x4 + k = x1 + 1 → 0 ≤ x4 → (∀ i : Nat, i < 32 → bI x3 i = (decide ((i : Int) < x4) && !decide (viA D (13 * x2 + i) = -1))) → WP 124 xF1 none 47 13 [some (.inr (.inr (some 56))), some (.inl x1), some (.inl x2), some (.inl x3), some (.inl x4)] [] D Q := by
  intro k
  induction k with
  | zero =>
    intro x3 x4 h1 h2 h3
    rw [seg47_13 (ha0 := ho56), brT (by omega)]
    simp only [Nat.reduceAdd]
    rw [cnX (by omega), cnX (by omega), cnB (by omega), cnX (by omega)]
    refine hq _ _ _ (fun a ha => up_ne ha) (fun j hj => up_ne2 hj) (fun i hi => ?_)
    rw [up_eq, h3 i hi]
    congr 2
    exact propext ⟨fun z => by omega, fun z => by omega⟩
  | succ k ih =>
    intro x3 x4 h1 h2 h3
    rw [seg47_13 (ha0 := ho56), brF (by omega), m30' (by omega) (by omega)]
    simp only [Option.toList_some, Option.toList_none, List.cons_append, List.nil_append, Nat.reduceAdd]
    rw [seg47_30 (ha0 := ho56) (hb1 := ho57), m40 (by omega)]
    simp only [Option.toList_some, Option.toList_none, List.cons_append, List.nil_append, Nat.reduceAdd]
    rw [seg47_33 (ha0 := ho56)]
    by_cases c : viA D (13 * x2 + x4) = -1
    · rw [if_pos c, brT rfl, seg47_44 (ha0 := ho56), cnX (by omega)]
      refine ih _ (x4 + 1) (by omega) (by omega) (fun i hi => ?_)
      have z : bI 0 i = false := b_0 i
      rw [bI_ior, h3 i hi, z, Bool.or_false]
      by_cases q : (i : Int) = x4
      · rw [q, c]; simp
      · congr 2
        exact propext ⟨fun z => by omega, fun z => by omega⟩
    · rw [if_neg c, brF (by decide), seg47_44 (ha0 := ho56), cnX (by omega)]
      refine ih _ (x4 + 1) (by omega) (by omega) (fun i hi => ?_)
      rw [bI_ior, h3 i hi, bI_sh (by omega) hi]
      by_cases q : (i : Int) = x4
      · rw [decide_eq_true q, Bool.or_true, q, decide_eq_true (show x4 < x4 + 1 by omega), decide_eq_false c]; rfl
      · rw [decide_eq_false q, Bool.or_false]
        congr 2
        exact propext ⟨fun z => by omega, fun z => by omega⟩
/-- what the rows of a minute say -/
def ckT (D D0 : xD) (t n : Int) : Prop := ∀ p i, 0 ≤ p → p < n → 0 ≤ i → i ≤ t → iand (ishr (D 69 (8 * t + p)) i) 1 = if viA D0 (13 * p + i) = -1 then 0 else 1
theorem l47a (hx1 : 0 ≤ x1 ∧ x1 ≤ 12) (hq : ∀ (D' : xD), (∀ a, a ≠ 69 → D' a = D a) → (∀ j, j < 8 * x1 → D' 69 j = D 69 j) → ckT D' D x1 8 → Q none D') :
    ∀ (k : Nat) (x2 : Int) (D' : xD) (o3 o4 : Option xv), x2 + k = 8 → 0 ≤ x2 → (∀ a, a ≠ 69 → D' a = D a) → (∀ j, j < 8 * x1 → D' 69 j = D 69 j) → ckT D' D x1 x2 → WP 124 xF1 none 47 2 [some (.inr (.inr (some 56))), some (.inl x1), some (.inl x2), o3, o4] [] D' Q := by
  intro k
  induction k with
  | zero =>
    intro x2 D' o3 o4 h1 h2 h3 h4 h5
    have e : x2 = 8 := by omega
    rw [e] at h5
    rw [seg47_2 (ha0 := ho56), brT (by omega)]
    exact hq D' h3 h4 h5
  | succ k ih =>
    intro x2 D' o3 o4 h1 h2 h3 h4 h5
    rw [seg47_2 (ha0 := ho56), brF (by omega)]
    have vv : ∀ v, viA D' v = viA D v := fun v => by unfold viA; rw [h3 65 (by decide)]
    refine l47b hx1 (by omega) (fun D2 x3 x4 g1 g2 g3 => ?_) (x1 + 1).toNat 0 0 (by omega) (by omega) (fun i hi => ?_)
    · refine ih (x2 + 1) D2 _ _ (by omega) (by omega) (fun a ha => by rw [g1 a ha]; exact h3 a ha) (fun j hj => by rw [g2 j (by omega)]; exact h4 j hj) (fun p i p1 p2 i1 i2 => ?_)
      by_cases c : p = x2
      · obtain ⟨n, rfl⟩ : ∃ n : Nat, i = n := ⟨i.toNat, by omega⟩
        rw [bit_eq _ _ (by omega), c, show 8 * x1 + x2 = x1 * 8 + x2 by omega, g3 n (by omega), vv, decide_eq_true i2, Bool.true_and]
        by_cases q : viA D (13 * x2 + n) = -1
        · rw [decide_eq_true q, if_pos q]; rfl
        · rw [decide_eq_false q, if_neg q]; rfl
      · rw [g2 _ (by omega)]
        exact h5 p i p1 (by omega) i1 i2
    · have z : bI 0 i = false := b_0 i
      rw [z, decide_eq_false (by omega), Bool.false_and]
theorem m47 (hx1 : 0 ≤ x1 ∧ x1 ≤ 12) (hq : ∀ (D' : xD), (∀ a, a ≠ 69 → D' a = D a) → (∀ j, j < 8 * x1 → D' 69 j = D 69 j) → ckT D' D x1 8 → Q none D') : WP 124 xF1 none 47 0 [some (.inr (.inr (some 56))), some (.inl x1), o2, o3, o4] [] D Q := by
  rw [seg47_0 (ha0 := ho56)]
  exact l47a hx1 hq 8 0 D _ _ (by omega) (by omega) (fun _ _ => rfl) (fun _ _ => rfl) (fun p i p1 p2 => by omega)
end M79
