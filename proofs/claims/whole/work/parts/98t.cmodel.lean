/-! texts: the reference's clauses -/
def svR (w : Int) (A : Int → Int) : Prop := ∀ k : Nat, k < 8 → bI w k = decide (0 < A (18 + k))
def mdI (D : xD) (t : Int → Int) (n : Int) (A : Int → Int) (h o : Int) : Prop := lmD D t n ∧ (D 95 12 = h ∧ D 95 14 = o) ∧ svR (D 95 13) A ∧ ∀ j, 0 ≤ j → j < 640 → D 98 j = A j
def fmM (D' D : xD) : Prop := (∀ a, a ≠ 95 → a ≠ 98 → D' a = D a) ∧ ∀ j, (j < 7 ∨ 14 < j) → D' 95 j = D 95 j
def mOut (t : Int → Int) (n : Int) (R : paR) (D : xD) (Q : Option xv → xD → Prop) : Prop :=
  (R.1 ≠ 0 → ∀ D', fmM D' D → D' 95 8 = R.2.1 → Q (some (.inl R.1)) D') ∧
  (R.1 = 0 → ∀ D', fmM D' D → mdI D' t n R.2.2.1 R.2.2.2.1 R.2.2.2.2 → mtT D' t n R.2.1 → Q (some (.inl 0)) D')
def bOut (t : Int → Int) (n : Int) (R : paR) (D : xD) (Q : Option xv → xD → Prop) : Prop :=
  (R.1 ≠ 0 → ∀ D', fmM D' D → D' 95 8 = R.2.1 → Q (some (.inl R.1)) D') ∧
  (R.1 = 0 → ∀ D', fmM D' D → D' 98 4 = D 98 4 → mdI D' t n R.2.2.1 R.2.2.2.1 R.2.2.2.2 → mtT D' t n R.2.1 → Q (some (.inl 0)) D')
section M98t
variable {n p p0 q i j v w a b m c s h o h' o' f x1 x2 x3 x4 x5 x6 x7 : Int} {k : Nat} {A A' : Int → Int} {t : Int → Int} {R : paR} {D D' D1 D2 : xD} {o1 o2 o3 o4 o8 : Option xv} {Q K : Option xv → xD → Prop}
theorem o_bad (hq : bOut t n R D Q) (e : R = bdF t n f p A h o) (hf : f ≠ 0) (hfr : fmM D' D) (h8 : D' 95 8 = tkB t n p) : Q (some (.inl f)) D' := by
  subst e
  exact hq.1 hf D' hfr h8
theorem fm_rf : fmM D D := ⟨fun _ _ _ => rfl, fun _ _ => rfl⟩
theorem fm_tr (h1 : fmM D2 D1) (h2 : fmM D1 D) : fmM D2 D := ⟨fun a a1 a2 => by rw [h1.1 a a1 a2, h2.1 a a1 a2], fun j hj => by rw [h1.2 j hj, h2.2 j hj]⟩
theorem fm_lm (h1 : fmM D' D) (hl : lmD D t n) : lmD D' t n := ⟨by rw [h1.2 4 (by decide)]; exact hl.1, fun j j1 j2 => by rw [h1.1 99 (by decide) (by decide)]; exact hl.2 j j1 j2⟩
theorem fm_u (h1 : fmM D1 D) : fmM (xup D1 98 i v) D := ⟨fun a a1 a2 => by rw [up_ne a2]; exact h1.1 a a1 a2, fun j hj => by rw [up_ne (by decide)]; exact h1.2 j hj⟩
theorem fm_v (h1 : fmM D1 D) (hi : 7 ≤ i ∧ i ≤ 14) : fmM (xup D1 95 i v) D := ⟨fun a a1 a2 => by rw [up_ne a1]; exact h1.1 a a1 a2, fun j hj => by rw [up_ne2 (by omega)]; exact h1.2 j hj⟩
theorem fm_7 (f1 : ∀ a, a ≠ 95 → D' a = D a) (f2 : ∀ j, (j < 7 ∨ 11 < j) → D' 95 j = D 95 j) : fmM D' D := ⟨fun a a1 _ => f1 a a1, fun j hj => f2 j (by omega)⟩
theorem fm_8 (f1 : ∀ a, a ≠ 95 → D' a = xup D 98 i v a) (f2 : ∀ j, (j < 7 ∨ 11 < j) → D' 95 j = D 95 j) : fmM D' D := ⟨fun a a1 a2 => by rw [f1 a a1, up_ne a2], fun j hj => f2 j (by omega)⟩
theorem sv_cg (hs : svR w A) (h1 : ∀ j, 18 ≤ j → j < 26 → A' j = A j) : svR w A' := fun k hk => by rw [hs k hk, h1 _ (by omega) (by omega)]
theorem mt_3 (hm : mtT D t n p) : D 95 9 = 59 ↔ tkK t n p = 3 := by
  rw [hm.1]
  unfold mtK
  constructor
  · intro z
    split at z
    · omega
    · split at z
      · omega
      · split at z
        · omega
        · split at z
          · assumption
          · omega
  · intro z
    rw [if_neg (by omega), if_neg (by omega), if_neg (by omega), if_pos z]
theorem mt_1 (hm : mtT D t n p) : D 95 9 = 1 ↔ tkK t n p = 2 := by
  rw [hm.1]
  unfold mtK
  constructor
  · intro z
    split at z
    · omega
    · split at z
      · omega
      · split at z
        · assumption
        · split at z <;> omega
  · intro z
    rw [if_neg (by omega), if_neg (by omega), if_pos z]
theorem mt_0 (hm : mtT D t n p) : D 95 9 = 0 ↔ tkK t n p = 0 := by
  rw [hm.1]
  unfold mtK
  constructor
  · intro z
    split at z
    · assumption
    · split at z
      · omega
      · split at z
        · omega
        · split at z <;> omega
  · intro z
    rw [if_pos z]
/-- a number that isn't stored at once -/
theorem nm_t (hm : mtT D t n p) (hp : p ≤ n) (hl : 0 ≤ x1) (hh : x2 < 1000) : (tkK t n p ≠ 2 → nmF t n p x1 x2 = 1) ∧ (tkK t n p = 2 → ¬ (x1 ≤ D 95 10 ∧ D 95 10 ≤ x2) → nmF t n p x1 x2 = 2) ∧ (tkK t n p = 2 → x1 ≤ D 95 10 ∧ D 95 10 ≤ x2 → ¬ nmF t n p x1 x2 ≠ 0 ∧ D 95 10 = tkV t n p) := by
  refine ⟨fun c => by unfold nmF; rw [if_neg c], fun c c2 => ?_, fun c c2 => ?_⟩
  · have mm := tk_mm (t := t) hp c hl hh
    rw [hm.2.2.2.1 c] at c2
    unfold nmF
    rw [if_pos c, if_neg (fun z => c2 (mm.1.mpr z))]
  · have mm := tk_mm (t := t) hp c hl hh
    rw [hm.2.2.2.1 c] at c2 ⊢
    have c3 := mm.1.mp c2
    exact ⟨fun z => z (by unfold nmF; rw [if_pos c, if_pos c3]), mm.2 c3.2⟩
theorem m163 (hT : txT t n) (hd : mdI D t n A h o) (hm : mtT D t n p) (hp : 0 ≤ p ∧ p ≤ n) (hq : bOut t n (hoF t n A h o p) D Q) : WP 124 xF1 none 163 0 [some (.inr (.inr (some 95))), o1] [] D Q := by
  have p1 := tk_le (t := t) hp.2
  have p2 := tk_le (t := t) p1.1
  obtain ⟨dl, dh, ds, da⟩ := id hd
  rw [seg163_0 (ha0 := ho95), m161 hT hm hp]
  simp only [Option.toList_some, Option.toList_none, List.cons_append, List.nil_append, Nat.reduceAdd]
  rw [seg163_4 (ha0 := ho95)]
  by_cases c : plF t n p < 0
  · rw [brF (by omega)]
    exact o_bad hq (by unfold hoF; rw [if_pos c]) (by decide) fm_rf hm.2.1
  have pr := pl_rg (show 0 ≤ plF t n p by omega)
  rw [brT (by omega), dh.1]
  by_cases c2 : iand (ishr h (plF t n p)) 1 = 1
  · rw [brF (fun z => z c2)]
    exact o_bad hq (by unfold hoF; rw [if_neg c, if_pos c2]) (by decide) fm_rf hm.2.1
  rw [brT c2]
  refine m157 hT (lm_up dl (by decide)) (p := tkE t n p) (by rw [up_ne2 (by decide)]; exact hm.2.2.1) ⟨by omega, p1.1⟩ (fun D1 f1 f2 f3 => ?_)
  simp only [Option.toList_some, Option.toList_none, List.cons_append, List.nil_append, Nat.reduceAdd]
  have F1 : fmM D1 D := fm_tr (fm_7 f1 f2) (fm_v fm_rf (by decide))
  rw [seg163_41 (ha0 := ho95), cnX (by omega)]
  refine m162 hT (fm_lm F1 dl) f3 ⟨by omega, p1.1⟩ (by decide) (by decide) (by omega) (fun c3 => ?_) (fun c3 D2 g1 g2 g3 g4 => ?_)
  · simp only [Option.toList_some, Option.toList_none, List.cons_append, List.nil_append, Nat.reduceAdd]
    rw [seg163_52 (ha0 := ho95)]
    exact o_bad hq (by unfold hoF; rw [if_neg c, if_neg c2, if_pos c3]) c3 F1 f3.2.1
  simp only [Option.toList_some, Option.toList_none, List.cons_append, List.nil_append, Nat.reduceAdd]
  rw [seg163_52 (ha0 := ho95)]
  have F2 : fmM D2 D := fm_tr (fm_8 g1 g2) F1
  have e : hoF t n A h o p = (0, tkE t n (tkE t n p), fuI A (10 + plF t n p) (tkV t n (tkE t n p)), ior h (ishl 1 (plF t n p)), o) := by unfold hoF; rw [if_neg c, if_neg c2, if_neg (fun z => z c3)]
  rw [e] at hq
  have e98 : ∀ j, D2 98 j = if j = 10 + plF t n p then tkV t n (tkE t n p) else D 98 j := fun j => by rw [g1 98 (by decide), up_at, f1 98 (by decide), up_ne (by decide)]
  refine hq.2 rfl D2 F2 (by rw [e98, if_neg (by omega)]) ⟨fm_lm F2 dl, ⟨?_, ?_⟩, ?_, fun j j1 j2 => ?_⟩ g3
  · rw [g2 12 (by decide), f2 12 (by decide), up_eq]
  · rw [g2 14 (by decide), f2 14 (by decide), up_ne2 (by decide)]; exact dh.2
  · rw [g2 13 (by decide), f2 13 (by decide), up_ne2 (by decide)]; exact sv_cg ds (fun j j1 j2 => fu_ne (by omega))
  · rw [e98]
    unfold fuI
    rw [da j j1 j2]
theorem m164 (hT : txT t n) (hX : WfX A) (hd : mdI D t n A h o) (hm : mtT D t n p) (hp : 0 ≤ p ∧ p ≤ n) (hq : bOut t n (saF t n A h o p) D Q) : WP 124 xF1 none 164 0 [some (.inr (.inr (some 95))), o1] [] D Q := by
  have p1 := tk_le (t := t) hp.2
  have p2 := tk_le (t := t) p1.1
  obtain ⟨dl, dh, ds, da⟩ := id hd
  rw [seg164_0 (ha0 := ho95), m161 hT hm hp]
  simp only [Option.toList_some, Option.toList_none, List.cons_append, List.nil_append, Nat.reduceAdd]
  rw [seg164_4 (ha0 := ho95)]
  by_cases c : plF t n p < 0
  · rw [brF (by omega)]
    exact o_bad hq (by unfold saF; rw [if_pos c]) (by decide) fm_rf hm.2.1
  have pr := pl_rg (show 0 ≤ plF t n p by omega)
  obtain ⟨x, hx⟩ : ∃ x : Nat, plF t n p = x := ⟨(plF t n p).toNat, by omega⟩
  have bt : iand (ishr (D 95 13) (plF t n p)) 1 = 1 ↔ 0 < A (18 + plF t n p) := by
    rw [hx, bit_eq _ x (by omega), ds x (by omega)]
    by_cases y : 0 < A (18 + (x : Int))
    · rw [decide_eq_true y, if_pos rfl]; exact ⟨fun _ => y, fun _ => rfl⟩
    · rw [decide_eq_false y, if_neg (by decide)]; exact ⟨fun z => absurd z (by decide), fun z => absurd z y⟩
  rw [brT (by omega)]
  by_cases c2 : 0 < A (18 + plF t n p)
  · rw [brF (fun z => z (bt.mpr c2))]
    exact o_bad hq (by unfold saF; rw [if_neg c, if_pos c2]) (by decide) fm_rf hm.2.1
  rw [brT (fun z => c2 (bt.mp z))]
  refine m157 hT (lm_up dl (by decide)) (p := tkE t n p) (by rw [up_ne2 (by decide)]; exact hm.2.2.1) ⟨by omega, p1.1⟩ (fun D1 f1 f2 f3 => ?_)
  simp only [Option.toList_some, Option.toList_none, List.cons_append, List.nil_append, Nat.reduceAdd]
  have F1 : fmM D1 D := fm_tr (fm_7 f1 f2) (fm_v fm_rf (by decide))
  rw [seg164_41 (ha0 := ho95), cnX (by omega)]
  refine m162 hT (fm_lm F1 dl) f3 ⟨by omega, p1.1⟩ (by decide) (by decide) (by omega) (fun c3 => ?_) (fun c3 D2 g1 g2 g3 g4 => ?_)
  · simp only [Option.toList_some, Option.toList_none, List.cons_append, List.nil_append, Nat.reduceAdd]
    rw [seg164_52 (ha0 := ho95)]
    exact o_bad hq (by unfold saF; rw [if_neg c, if_neg c2, if_pos c3]) c3 F1 f3.2.1
  simp only [Option.toList_some, Option.toList_none, List.cons_append, List.nil_append, Nat.reduceAdd]
  rw [seg164_52 (ha0 := ho95)]
  have F2 : fmM D2 D := fm_tr (fm_8 g1 g2) F1
  have e : saF t n A h o p = (0, tkE t n (tkE t n p), fuI A (18 + plF t n p) (tkV t n (tkE t n p)), h, o) := by unfold saF; rw [if_neg c, if_neg c2, if_neg (fun z => z c3)]
  rw [e] at hq
  have e98 : ∀ j, D2 98 j = if j = 18 + plF t n p then tkV t n (tkE t n p) else D 98 j := fun j => by rw [g1 98 (by decide), up_at, f1 98 (by decide), up_ne (by decide)]
  refine hq.2 rfl D2 F2 (by rw [e98, if_neg (by omega)]) ⟨fm_lm F2 dl, ⟨?_, ?_⟩, fun k hk => ?_, fun j j1 j2 => ?_⟩ g3
  · rw [g2 12 (by decide), f2 12 (by decide), up_ne2 (by decide)]; exact dh.1
  · rw [g2 14 (by decide), f2 14 (by decide), up_ne2 (by decide)]; exact dh.2
  · rw [g2 13 (by decide), f2 13 (by decide), up_eq, bI_add (by omega) (by omega), ds k hk]
    show (decide (0 < A (18 + (k : Int))) || decide ((k : Int) = plF t n p)) = decide (0 < fuI A (18 + plF t n p) (tkV t n (tkE t n p)) (18 + (k : Int)))
    by_cases y : (k : Int) = plF t n p
    · rw [y, fu_eq, decide_eq_true (show plF t n p = plF t n p from rfl), Bool.or_true, decide_eq_true (show 0 < tkV t n (tkE t n p) by omega)]
    · rw [decide_eq_false y, Bool.or_false, fu_ne (by omega)]
  · rw [e98]
    unfold fuI
    rw [da j j1 j2]
theorem m165 (hT : txT t n) (hX : WfX A) (h16 : ¬ 16 ≤ A 0) (hd : mdI D t n A h o) (hm : mtT D t n p) (hp : 0 ≤ p ∧ p ≤ n) (hq : bOut t n (stF t n A h o p) D Q) : WP 124 xF1 none 165 0 [some (.inr (.inr (some 95))), o1, o2, o3, o4] [] D Q := by
  have p1 := tk_le (t := t) hp.2
  have p2 := tk_le (t := t) p1.1
  have p3 := tk_le (t := t) p2.1
  have p4 := tk_le (t := t) p3.1
  obtain ⟨dl, dh, ds, da⟩ := id hd
  have x0 := hX.1
  have e0 : D 98 0 = A 0 := da 0 (by decide) (by decide)
  rw [seg165_0 (ha0 := ho95), cnB (by decide)]
  simp only [Option.toList_some, Option.toList_none, List.cons_append, List.nil_append, Nat.reduceAdd]
  rw [e0, cnX (by omega), cnX (by omega), m161 hT hm hp]
  simp only [Option.toList_some, Option.toList_none, List.cons_append, List.nil_append, Nat.reduceAdd]
  rw [seg165_17 (ha0 := ho95)]
  by_cases c : plF t n p < 0
  · rw [brF (by omega)]
    exact o_bad hq (by unfold stF; rw [if_pos c]) (by decide) fm_rf hm.2.1
  rw [brT (by omega)]
  refine m157 hT dl (p := tkE t n p) hm.2.2.1 ⟨by omega, p1.1⟩ (fun D1 f1 f2 f3 => ?_)
  simp only [Option.toList_some, Option.toList_none, List.cons_append, List.nil_append, Nat.reduceAdd]
  have F1 : fmM D1 D := fm_7 f1 f2
  rw [seg165_28 (ha0 := ho95), m161 hT f3 ⟨by omega, p1.1⟩]
  simp only [Option.toList_some, Option.toList_none, List.cons_append, List.nil_append, Nat.reduceAdd]
  rw [seg165_32 (ha0 := ho95)]
  by_cases c1 : plF t n (tkE t n p) < 0
  · rw [brF (by omega)]
    exact o_bad hq (by unfold stF; rw [if_neg c, if_pos c1]) (by decide) F1 f3.2.1
  rw [brT (by omega)]
  by_cases c2 : plF t n p = plF t n (tkE t n p)
  · rw [brF (fun z => z c2)]
    exact o_bad hq (by unfold stF; rw [if_neg c, if_neg c1, if_pos c2]) (by decide) F1 f3.2.1
  rw [brT c2, cnB (by omega), cnX (by omega), cnB (by omega), cnX (by omega), cnB (by omega), cnX (by omega), cnB (by omega), cnX (by omega), cnB (by omega)]
  simp only [Option.toList_some, Option.toList_none, List.cons_append, List.nil_append, Nat.reduceAdd]
  obtain ⟨D1', hD1'⟩ : ∃ D1', D1' = xup (xup (xup (xup (xup D1 98 (30 + 7 * A 0) (plF t n p)) 98 (30 + 7 * A 0 + 1) (plF t n (tkE t n p))) 98 (30 + 7 * A 0 + 4) 0) 98 (30 + 7 * A 0 + 5) 12) 98 (30 + 7 * A 0 + 6) 0 := ⟨_, rfl⟩
  rw [← hD1']
  have F1' : fmM D1' D := by rw [hD1']; exact fm_u (fm_u (fm_u (fm_u (fm_u F1))))
  have e1 : ∀ j, D1' 98 j = if j = 30 + 7 * A 0 + 6 then 0 else if j = 30 + 7 * A 0 + 5 then 12 else if j = 30 + 7 * A 0 + 4 then 0 else if j = 30 + 7 * A 0 + 1 then plF t n (tkE t n p) else if j = 30 + 7 * A 0 then plF t n p else D 98 j := fun j => by rw [hD1', up_at, up_at, up_at, up_at, up_at, f1 98 (by decide)]
  have e7 : ∀ j, D1' 95 j = D1 95 j := fun j => by rw [hD1', up_ne (by decide), up_ne (by decide), up_ne (by decide), up_ne (by decide), up_ne (by decide)]
  clear hD1'
  refine m157 hT (fm_lm F1' dl) (p := tkE t n (tkE t n p)) (by rw [e7]; exact f3.2.2.1) ⟨by omega, p2.1⟩ (fun D2 g1 g2 g3 => ?_)
  simp only [Option.toList_some, Option.toList_none, List.cons_append, List.nil_append, Nat.reduceAdd]
  have F2 : fmM D2 D := fm_tr (fm_7 g1 g2) F1'
  rw [seg165_95 (ha0 := ho95), cnX (by omega)]
  refine m162 hT (fm_lm F2 dl) g3 ⟨by omega, p2.1⟩ (by decide) (by decide) (by omega) (fun c3 => ?_) (fun c3 D3 k1 k2 k3 k4 => ?_)
  · simp only [Option.toList_some, Option.toList_none, List.cons_append, List.nil_append, Nat.reduceAdd]
    rw [seg165_104 (ha0 := ho95), brT c3, seg165_123 (ha0 := ho95), brT c3, seg165_138 (ha0 := ho95)]
    exact o_bad hq (by unfold stF; rw [if_neg c, if_neg c1, if_neg c2, if_pos c3]) c3 F2 g3.2.1
  simp only [Option.toList_some, Option.toList_none, List.cons_append, List.nil_append, Nat.reduceAdd]
  have F3 : fmM D3 D := fm_tr (fm_8 k1 k2) F2
  rw [seg165_104 (ha0 := ho95), brF (by decide), cnX (by omega)]
  refine m162 hT (fm_lm F3 dl) k3 ⟨by omega, p3.1⟩ (by decide) (by decide) (by omega) (fun c4 => ?_) (fun c4 D4 r1 r2 r3 r4 => ?_)
  · simp only [Option.toList_some, Option.toList_none, List.cons_append, List.nil_append, Nat.reduceAdd]
    rw [seg165_121 (ha0 := ho95), seg165_123 (ha0 := ho95), brT c4, seg165_138 (ha0 := ho95)]
    exact o_bad hq (by unfold stF; rw [if_neg c, if_neg c1, if_neg c2, if_neg (fun z => z c3), if_pos c4]) c4 F3 k3.2.1
  simp only [Option.toList_some, Option.toList_none, List.cons_append, List.nil_append, Nat.reduceAdd]
  have F4 : fmM D4 D := fm_tr (fm_8 r1 r2) F3
  have e4 : ∀ j, D4 98 j = if j = 30 + 7 * A 0 + 3 then tkV t n (tkE t n (tkE t n (tkE t n p))) else if j = 30 + 7 * A 0 + 2 then tkV t n (tkE t n (tkE t n p)) else D1' 98 j := fun j => by rw [r1 98 (by decide), up_at, k1 98 (by decide), up_at, g1 98 (by decide)]
  have e40 : D4 98 0 = A 0 := by rw [e4, if_neg (by omega), if_neg (by omega), e1, if_neg (by omega), if_neg (by omega), if_neg (by omega), if_neg (by omega), if_neg (by omega), e0]
  rw [seg165_121 (ha0 := ho95), seg165_123 (ha0 := ho95), brF (by decide), cnB (by decide)]
  simp only [Option.toList_some, Option.toList_none, List.cons_append, List.nil_append, Nat.reduceAdd]
  rw [e40, cnX (by omega), cnB (by decide), seg165_138 (ha0 := ho95)]
  have e : stF t n A h o p = (0, tkE t n (tkE t n (tkE t n (tkE t n p))), stA A (plF t n p) (plF t n (tkE t n p)) (tkV t n (tkE t n (tkE t n p))) (tkV t n (tkE t n (tkE t n (tkE t n p)))), h, o) := by unfold stF; rw [if_neg c, if_neg c1, if_neg c2, if_neg (fun z => z c3), if_neg (fun z => z c4)]
  rw [e] at hq
  have F5 : fmM (xup D4 98 0 (A 0 + 1)) D := fm_u F4
  have j95 : ∀ j, 11 < j → D4 95 j = D 95 j := fun j hj => by rw [r2 j (by omega), k2 j (by omega), g2 j (by omega), e7, f2 j (by omega)]
  refine hq.2 rfl _ F5 ?_ ⟨fm_lm F5 dl, ⟨?_, ?_⟩, ?_, fun j j1 j2 => ?_⟩ ?_
  · rw [up_at, if_neg (by decide), e4, if_neg (by omega), if_neg (by omega), e1, if_neg (by omega), if_neg (by omega), if_neg (by omega), if_neg (by omega), if_neg (by omega)]
  · rw [up_ne (by decide), j95 12 (by decide)]; exact dh.1
  · rw [up_ne (by decide), j95 14 (by decide)]; exact dh.2
  · rw [up_ne (by decide), j95 13 (by decide)]
    exact sv_cg ds (fun j j1 j2 => st_at.2.2 j (by omega) (by omega))
  · rw [up_at, e4, e1, da j j1 j2]
    rfl
  · exact ⟨by rw [up_ne (by decide)]; exact r3.1, by rw [up_ne (by decide)]; exact r3.2.1, by rw [up_ne (by decide)]; exact r3.2.2.1, fun z => by rw [up_ne (by decide)]; exact r3.2.2.2.1 z, fun z => by rw [up_ne (by decide)]; exact r3.2.2.2.2 z⟩
theorem m166 (hT : txT t n) (hX : WfX A) (hd : mdI D t n A h o) (hm : mtT D t n p) (hp : 0 ≤ p ∧ p ≤ n) (hq : bOut t n (opF t n A h o p) D Q) : WP 124 xF1 none 166 0 [some (.inr (.inr (some 95))), o1, o2] [] D Q := by
  have p1 := tk_le (t := t) hp.2
  have p2 := tk_le (t := t) p1.1
  have p3 := tk_le (t := t) p2.1
  obtain ⟨dl, dh, ds, da⟩ := id hd
  have x0 := hX.1
  have e0 : D 98 0 = A 0 := da 0 (by decide) (by decide)
  obtain ⟨u1, u2, u3⟩ := nm_t (x1 := 0) (x2 := A 0 - 1) hm hp.2 (by decide) (by omega)
  rw [seg166_0 (ha0 := ho95)]
  by_cases c0 : tkK t n p = 2
  · rw [brT ((mt_1 hm).mpr c0), cnB (by decide)]
    simp only [Option.toList_some, Option.toList_none, List.cons_append, List.nil_append, Nat.reduceAdd]
    rw [e0, cnX (by omega), m149]
    simp only [Option.toList_some, Option.toList_none, List.cons_append, List.nil_append, Nat.reduceAdd]
    rw [seg166_26 (ha0 := ho95)]
    by_cases c1 : 0 ≤ D 95 10 ∧ D 95 10 ≤ A 0 - 1
    · obtain ⟨c, ev⟩ := u3 c0 c1
      rw [if_pos c1, brT (by decide), dh.2]
      rw [ev] at c1 ⊢
      by_cases c2 : iand (ishr o (tkV t n p)) 1 = 1
      · rw [brF (fun z => z c2)]
        exact o_bad hq (by unfold opF; rw [if_neg c, if_pos c2]) (by decide) fm_rf hm.2.1
      rw [brT c2, cnX (by omega), cnX (by omega)]
      refine m157 hT (lm_up dl (by decide)) (p := tkE t n p) (by rw [up_ne2 (by decide)]; exact hm.2.2.1) ⟨by omega, p1.1⟩ (fun D1 f1 f2 f3 => ?_)
      simp only [Option.toList_some, Option.toList_none, List.cons_append, List.nil_append, Nat.reduceAdd]
      have F1 : fmM D1 D := fm_tr (fm_7 f1 f2) (fm_v fm_rf (by decide))
      rw [seg166_78 (ha0 := ho95), cnX (by omega)]
      refine m162 hT (fm_lm F1 dl) f3 ⟨by omega, p1.1⟩ (by decide) (by decide) (by omega) (fun c3 => ?_) (fun c3 D2 g1 g2 g3 g4 => ?_)
      · simp only [Option.toList_some, Option.toList_none, List.cons_append, List.nil_append, Nat.reduceAdd]
        rw [seg166_88 (ha0 := ho95), brF c3, seg166_114 (ha0 := ho95)]
        exact o_bad hq (by unfold opF; rw [if_neg c, if_neg c2, if_pos c3]) c3 F1 f3.2.1
      simp only [Option.toList_some, Option.toList_none, List.cons_append, List.nil_append, Nat.reduceAdd]
      have F2 : fmM D2 D := fm_tr (fm_8 g1 g2) F1
      have e4 : D2 98 (30 + 7 * tkV t n p + 4) = tkV t n (tkE t n p) := by rw [g1 98 (by decide), up_eq]
      rw [seg166_88 (ha0 := ho95), brT rfl, cnX (by omega), cnB (by omega), cnX (by omega)]
      simp only [Option.toList_some, Option.toList_none, List.cons_append, List.nil_append, Nat.reduceAdd]
      rw [e4]
      refine m162 hT (fm_lm F2 dl) g3 ⟨by omega, p2.1⟩ (by omega) (by decide) (by omega) (fun c4 => ?_) (fun c4 D3 k1 k2 k3 k4 => ?_)
      · simp only [Option.toList_some, Option.toList_none, List.cons_append, List.nil_append, Nat.reduceAdd]
        rw [seg166_114 (ha0 := ho95)]
        exact o_bad hq (by unfold opF; rw [if_neg c, if_neg c2, if_neg (fun z => z c3), if_pos c4]) c4 F2 g3.2.1
      simp only [Option.toList_some, Option.toList_none, List.cons_append, List.nil_append, Nat.reduceAdd]
      rw [seg166_114 (ha0 := ho95)]
      have F3 : fmM D3 D := fm_tr (fm_8 k1 k2) F2
      have e : opF t n A h o p = (0, tkE t n (tkE t n (tkE t n p)), fuI (fuI A (30 + 7 * tkV t n p + 4) (tkV t n (tkE t n p))) (30 + 7 * tkV t n p + 5) (tkV t n (tkE t n (tkE t n p))), h, ior o (ishl 1 (tkV t n p))) := by unfold opF; rw [if_neg c, if_neg c2, if_neg (fun z => z c3), if_neg (fun z => z c4)]
      rw [e] at hq
      have e98 : ∀ j, D3 98 j = if j = 30 + 7 * tkV t n p + 5 then tkV t n (tkE t n (tkE t n p)) else if j = 30 + 7 * tkV t n p + 4 then tkV t n (tkE t n p) else D 98 j := fun j => by rw [k1 98 (by decide), up_at, g1 98 (by decide), up_at, f1 98 (by decide), up_ne (by decide)]
      refine hq.2 rfl D3 F3 (by rw [e98, if_neg (by omega), if_neg (by omega)]) ⟨fm_lm F3 dl, ⟨?_, ?_⟩, ?_, fun j j1 j2 => ?_⟩ k3
      · rw [k2 12 (by decide), g2 12 (by decide), f2 12 (by decide), up_ne2 (by decide)]; exact dh.1
      · rw [k2 14 (by decide), g2 14 (by decide), f2 14 (by decide), up_eq]
      · rw [k2 13 (by decide), g2 13 (by decide), f2 13 (by decide), up_ne2 (by decide)]
        exact sv_cg ds (fun j j1 j2 => by dsimp only; rw [fu_ne (by omega), fu_ne (by omega)])
      · rw [e98]
        unfold fuI
        rw [da j j1 j2]
    · rw [if_neg c1, brF (by decide)]
      have e := u2 c0 c1
      have k := o_bad hq (f := nmF t n p 0 (A 0 - 1)) (p := p) (D' := D) (by unfold opF; rw [if_pos (by omega)]) (by omega) fm_rf hm.2.1
      rw [e] at k; exact k
  · rw [brF (fun z => c0 ((mt_1 hm).mp z))]
    have e := u1 c0
    have k := o_bad hq (f := nmF t n p 0 (A 0 - 1)) (p := p) (D' := D) (by unfold opF; rw [if_pos (by omega)]) (by omega) fm_rf hm.2.1
    rw [e] at k; exact k
theorem m167 (hT : txT t n) (hX : WfX A) (hd : mdI D t n A h o) (hm : mtT D t n p) (hp : 0 ≤ p ∧ p ≤ n) (hq : bOut t n (trF t n A h o p) D Q) : WP 124 xF1 none 167 0 [some (.inr (.inr (some 95))), o1] [] D Q := by
  have p1 := tk_le (t := t) hp.2
  obtain ⟨dl, dh, ds, da⟩ := id hd
  have x0 := hX.1
  have x4 := hX.2.2.2.2.1
  have a3 : 0 ≤ A 3 := by
    rw [x4.2.2.1]
    exact (smI_bd (B := 1) _ _ (fun j j1 j2 => by have := (hX.2.1 j j1 (by omega)).2.2.2.2.2; omega)).1
  have e0 : D 98 0 = A 0 := da 0 (by decide) (by decide)
  obtain ⟨u1, u2, u3⟩ := nm_t (x1 := 0) (x2 := A 0 - 1) hm hp.2 (by decide) (by omega)
  rw [seg167_0 (ha0 := ho95)]
  by_cases c0 : tkK t n p = 2
  · rw [brT ((mt_1 hm).mpr c0), cnB (by decide)]
    simp only [Option.toList_some, Option.toList_none, List.cons_append, List.nil_append, Nat.reduceAdd]
    rw [e0, cnX (by omega), m149]
    simp only [Option.toList_some, Option.toList_none, List.cons_append, List.nil_append, Nat.reduceAdd]
    rw [seg167_26 (ha0 := ho95)]
    by_cases c1 : 0 ≤ D 95 10 ∧ D 95 10 ≤ A 0 - 1
    · obtain ⟨c, ev⟩ := u3 c0 c1
      rw [if_pos c1, brT (by decide)]
      rw [ev] at c1 ⊢
      rw [cnX (by omega), cnX (by omega), cnX (by omega), cnB (by omega)]
      simp only [Option.toList_some, Option.toList_none, List.cons_append, List.nil_append, Nat.reduceAdd]
      rw [da (30 + 7 * tkV t n p + 6) (by omega) (by omega)]
      by_cases c2 : A (30 + 7 * tkV t n p + 6) = 1
      · rw [brF (fun z => z c2)]
        exact o_bad hq (by unfold trF; rw [if_neg c, if_pos c2]) (by decide) fm_rf hm.2.1
      rw [brT c2, cnX (by omega), cnB (by omega), cnB (by decide), up_ne2 (show (3 : Int) ≠ 30 + 7 * tkV t n p + 6 by omega), da 3 (by decide) (by decide), cnX (by omega), cnB (by decide)]
      refine m157 hT (p := tkE t n p) ⟨by rw [up_ne (by decide), up_ne (by decide)]; exact dl.1, fun j j1 j2 => by rw [up_ne (by decide), up_ne (by decide)]; exact dl.2 j j1 j2⟩ (by rw [up_ne (by decide), up_ne (by decide)]; exact hm.2.2.1) ⟨by omega, p1.1⟩ (fun D1 f1 f2 f3 => ?_)
      simp only [Option.toList_some, Option.toList_none, List.cons_append, List.nil_append, Nat.reduceAdd]
      rw [seg167_81 (ha0 := ho95)]
      have F1 : fmM D1 D := fm_tr (fm_7 f1 f2) (fm_u (fm_u fm_rf))
      have e : trF t n A h o p = (0, tkE t n p, fuI (fuI A (30 + 7 * tkV t n p + 6) 1) 3 (A 3 + 1), h, o) := by unfold trF; rw [if_neg c, if_neg c2]
      rw [e] at hq
      have e98 : ∀ j, D1 98 j = if j = 3 then A 3 + 1 else if j = 30 + 7 * tkV t n p + 6 then 1 else D 98 j := fun j => by rw [f1 98 (by decide), up_at, up_at]
      refine hq.2 rfl D1 F1 (by rw [e98, if_neg (by decide), if_neg (by omega)]) ⟨fm_lm F1 dl, ⟨?_, ?_⟩, ?_, fun j j1 j2 => ?_⟩ f3
      · rw [f2 12 (by decide), up_ne (by decide), up_ne (by decide)]; exact dh.1
      · rw [f2 14 (by decide), up_ne (by decide), up_ne (by decide)]; exact dh.2
      · rw [f2 13 (by decide), up_ne (by decide), up_ne (by decide)]
        exact sv_cg ds (fun j j1 j2 => by dsimp only; rw [fu_ne (by omega), fu_ne (by omega)])
      · rw [e98]
        unfold fuI
        rw [da j j1 j2]
    · rw [if_neg c1, brF (by decide)]
      have e := u2 c0 c1
      have k := o_bad hq (f := nmF t n p 0 (A 0 - 1)) (p := p) (D' := D) (by unfold trF; rw [if_pos (by omega)]) (by omega) fm_rf hm.2.1
      rw [e] at k; exact k
  · rw [brF (fun z => c0 ((mt_1 hm).mp z))]
    have e := u1 c0
    have k := o_bad hq (f := nmF t n p 0 (A 0 - 1)) (p := p) (D' := D) (by unfold trF; rw [if_pos (by omega)]) (by omega) fm_rf hm.2.1
    rw [e] at k; exact k
theorem m168 (hT : txT t n) (hX : WfX A) (hd : mdI D t n A h o) (hm : mtT D t n p) (hp : 0 ≤ p ∧ p ≤ n) (hq : bOut t n (slF t n A h o p) D Q) : WP 124 xF1 none 168 0 [some (.inr (.inr (some 95))), o1] [] D Q := by
  have p1 := tk_le (t := t) hp.2
  obtain ⟨dl, dh, ds, da⟩ := id hd
  have x0 := hX.1
  have x4 := hX.2.2.2.2.1
  have a7 : 0 ≤ A 7 ∧ A 7 ≤ 180 := by
    rw [x4.2.2.2.2]
    have := smI_bd (f := fun d => if A (150 + 4 * d + 3) = 1 then A (150 + 4 * d + 2) else 0) (B := 30) (A 1).toNat 0 (fun j j1 j2 => by
      have := (hX.2.2.1 j j1 (by omega)).2.2.1
      split <;> omega)
    omega
  have e0 : D 98 1 = A 1 := da 1 (by decide) (by decide)
  obtain ⟨u1, u2, u3⟩ := nm_t (x1 := 0) (x2 := A 1 - 1) hm hp.2 (by decide) (by omega)
  rw [seg168_0 (ha0 := ho95)]
  by_cases c0 : tkK t n p = 2
  · rw [brT ((mt_1 hm).mpr c0), cnB (by decide)]
    simp only [Option.toList_some, Option.toList_none, List.cons_append, List.nil_append, Nat.reduceAdd]
    rw [e0, cnX (by omega), m149]
    simp only [Option.toList_some, Option.toList_none, List.cons_append, List.nil_append, Nat.reduceAdd]
    rw [seg168_26 (ha0 := ho95)]
    by_cases c1 : 0 ≤ D 95 10 ∧ D 95 10 ≤ A 1 - 1
    · obtain ⟨c, ev⟩ := u3 c0 c1
      rw [if_pos c1, brT (by decide)]
      rw [ev] at c1 ⊢
      have pe := (hX.2.2.1 (tkV t n p) c1.1 (by omega)).2.2.1
      rw [cnX (by omega), cnX (by omega), cnX (by omega), cnB (by omega)]
      simp only [Option.toList_some, Option.toList_none, List.cons_append, List.nil_append, Nat.reduceAdd]
      rw [da (150 + 4 * tkV t n p + 3) (by omega) (by omega)]
      by_cases c2 : A (150 + 4 * tkV t n p + 3) = 1
      · rw [brF (fun z => z c2)]
        exact o_bad hq (by unfold slF; rw [if_neg c, if_pos c2]) (by decide) fm_rf hm.2.1
      rw [brT c2, cnX (by omega), cnB (by omega), cnB (by decide), cnX (by omega), cnB (by omega), up_ne2 (show (7 : Int) ≠ 150 + 4 * tkV t n p + 3 by omega), up_ne2 (show 150 + 4 * tkV t n p + 2 ≠ 150 + 4 * tkV t n p + 3 by omega), da 7 (by decide) (by decide), da (150 + 4 * tkV t n p + 2) (by omega) (by omega), cnX (by omega), cnB (by decide)]
      refine m157 hT (p := tkE t n p) ⟨by rw [up_ne (by decide), up_ne (by decide)]; exact dl.1, fun j j1 j2 => by rw [up_ne (by decide), up_ne (by decide)]; exact dl.2 j j1 j2⟩ (by rw [up_ne (by decide), up_ne (by decide)]; exact hm.2.2.1) ⟨by omega, p1.1⟩ (fun D1 f1 f2 f3 => ?_)
      simp only [Option.toList_some, Option.toList_none, List.cons_append, List.nil_append, Nat.reduceAdd]
      rw [seg168_87 (ha0 := ho95)]
      have F1 : fmM D1 D := fm_tr (fm_7 f1 f2) (fm_u (fm_u fm_rf))
      have e : slF t n A h o p = (0, tkE t n p, fuI (fuI A (150 + 4 * tkV t n p + 3) 1) 7 (A 7 + A (150 + 4 * tkV t n p + 2)), h, o) := by unfold slF; rw [if_neg c, if_neg c2]
      rw [e] at hq
      have e98 : ∀ j, D1 98 j = if j = 7 then A 7 + A (150 + 4 * tkV t n p + 2) else if j = 150 + 4 * tkV t n p + 3 then 1 else D 98 j := fun j => by rw [f1 98 (by decide), up_at, up_at]
      refine hq.2 rfl D1 F1 (by rw [e98, if_neg (by decide), if_neg (by omega)]) ⟨fm_lm F1 dl, ⟨?_, ?_⟩, ?_, fun j j1 j2 => ?_⟩ f3
      · rw [f2 12 (by decide), up_ne (by decide), up_ne (by decide)]; exact dh.1
      · rw [f2 14 (by decide), up_ne (by decide), up_ne (by decide)]; exact dh.2
      · rw [f2 13 (by decide), up_ne (by decide), up_ne (by decide)]
        exact sv_cg ds (fun j j1 j2 => by dsimp only; rw [fu_ne (by omega), fu_ne (by omega)])
      · rw [e98]
        unfold fuI
        rw [da j j1 j2]
    · rw [if_neg c1, brF (by decide)]
      have e := u2 c0 c1
      have k := o_bad hq (f := nmF t n p 0 (A 1 - 1)) (p := p) (D' := D) (by unfold slF; rw [if_pos (by omega)]) (by omega) fm_rf hm.2.1
      rw [e] at k; exact k
  · rw [brF (fun z => c0 ((mt_1 hm).mp z))]
    have e := u1 c0
    have k := o_bad hq (f := nmF t n p 0 (A 1 - 1)) (p := p) (D' := D) (by unfold slF; rw [if_pos (by omega)]) (by omega) fm_rf hm.2.1
    rw [e] at k; exact k
theorem m169 (hT : txT t n) (hX : WfX A) (h6 : ¬ 6 ≤ A 1) (hd : mdI D t n A h o) (hm : mtT D t n p) (hp : 0 ≤ p ∧ p ≤ n) (hq : bOut t n (doF t n A h o p) D Q) : WP 124 xF1 none 169 0 [some (.inr (.inr (some 95))), o1, o2, o3] [] D Q := by
  have p1 := tk_le (t := t) hp.2
  have p2 := tk_le (t := t) p1.1
  have p3 := tk_le (t := t) p2.1
  obtain ⟨dl, dh, ds, da⟩ := id hd
  have x0 := hX.1
  have x4 := hX.2.2.2.2.1
  have a2 : 0 ≤ A 2 := by
    rw [x4.1]
    exact (smI_bd (B := 30) _ _ (fun j j1 j2 => by have := (hX.2.2.1 j j1 (by omega)).2.2.1; omega)).1
  have e1 : D 98 1 = A 1 := da 1 (by decide) (by decide)
  rw [seg169_0 (ha0 := ho95), cnB (by decide)]
  simp only [Option.toList_some, Option.toList_none, List.cons_append, List.nil_append, Nat.reduceAdd]
  rw [e1, cnX (by omega), cnX (by omega), m161 hT hm hp]
  simp only [Option.toList_some, Option.toList_none, List.cons_append, List.nil_append, Nat.reduceAdd]
  rw [seg169_17 (ha0 := ho95)]
  by_cases c : plF t n p < 0
  · rw [brF (by omega)]
    exact o_bad hq (by unfold doF; rw [if_pos c]) (by decide) fm_rf hm.2.1
  rw [brT (by omega), cnB (by omega)]
  simp only [Option.toList_some, Option.toList_none, List.cons_append, List.nil_append, Nat.reduceAdd]
  refine m157 hT (p := tkE t n p) ⟨by rw [up_ne (by decide)]; exact dl.1, fun j j1 j2 => by rw [up_ne (by decide)]; exact dl.2 j j1 j2⟩ (by rw [up_ne (by decide)]; exact hm.2.2.1) ⟨by omega, p1.1⟩ (fun D1 f1 f2 f3 => ?_)
  simp only [Option.toList_some, Option.toList_none, List.cons_append, List.nil_append, Nat.reduceAdd]
  have F1 : fmM D1 D := fm_tr (fm_7 f1 f2) (fm_u fm_rf)
  rw [seg169_35 (ha0 := ho95), cnX (by omega)]
  refine m162 hT (fm_lm F1 dl) f3 ⟨by omega, p1.1⟩ (by decide) (by decide) (by omega) (fun c3 => ?_) (fun c3 D2 g1 g2 g3 g4 => ?_)
  · simp only [Option.toList_some, Option.toList_none, List.cons_append, List.nil_append, Nat.reduceAdd]
    rw [seg169_45 (ha0 := ho95), brF c3]
    exact o_bad hq (by unfold doF; rw [if_neg c, if_pos c3]) c3 F1 f3.2.1
  simp only [Option.toList_some, Option.toList_none, List.cons_append, List.nil_append, Nat.reduceAdd]
  have F2 : fmM D2 D := fm_tr (fm_8 g1 g2) F1
  have e2 : ∀ j, D2 98 j = if j = 150 + 4 * A 1 + 1 then tkV t n (tkE t n p) else if j = 150 + 4 * A 1 then plF t n p else D 98 j := fun j => by rw [g1 98 (by decide), up_at, f1 98 (by decide), up_at]
  obtain ⟨u1, u2, u3⟩ := nm_t (x1 := 1) (x2 := 30) g3 p2.1 (by decide) (by decide)
  rw [seg169_45 (ha0 := ho95), brT rfl]
  by_cases c0 : tkK t n (tkE t n (tkE t n p)) = 2
  · rw [brT ((mt_1 g3).mpr c0), m149]
    simp only [Option.toList_some, Option.toList_none, List.cons_append, List.nil_append, Nat.reduceAdd]
    rw [seg169_72 (ha0 := ho95)]
    by_cases c1 : 1 ≤ D2 95 10 ∧ D2 95 10 ≤ 30
    · obtain ⟨c4, ev⟩ := u3 c0 c1
      rw [if_pos c1, brT (by decide), cnB (by decide)]
      rw [ev] at c1 ⊢
      simp only [Option.toList_some, Option.toList_none, List.cons_append, List.nil_append, Nat.reduceAdd]
      rw [e2 2, if_neg (by omega), if_neg (by omega), da 2 (by decide) (by decide), cnX (by omega)]
      by_cases c5 : 99 < A 2 + tkV t n (tkE t n (tkE t n p))
      · rw [brF (by omega)]
        exact o_bad hq (by unfold doF; rw [if_neg c, if_neg (fun z => z c3), if_neg c4, if_pos c5]) (by decide) F2 g3.2.1
      rw [brT (by omega), cnX (by omega), cnB (by omega), cnB (by decide), up_ne2 (show (2 : Int) ≠ 150 + 4 * A 1 + 2 by omega), up_ne2 (show (1 : Int) ≠ 150 + 4 * A 1 + 2 by omega), e2 2, if_neg (by omega), if_neg (by omega), da 2 (by decide) (by decide), e2 1, if_neg (by omega), if_neg (by omega), e1, cnX (by omega), cnB (by decide), cnB (by decide), cnX (by omega), cnB (by decide)]
      refine m157 hT (p := tkE t n (tkE t n (tkE t n p))) ⟨by rw [up_ne (by decide), up_ne (by decide), up_ne (by decide)]; exact (fm_lm F2 dl).1, fun j j1 j2 => by rw [up_ne (by decide), up_ne (by decide), up_ne (by decide)]; exact (fm_lm F2 dl).2 j j1 j2⟩ (by rw [up_ne (by decide), up_ne (by decide), up_ne (by decide)]; exact g3.2.2.1) ⟨by omega, p3.1⟩ (fun D3 k1 k2 k3 => ?_)
      simp only [Option.toList_some, Option.toList_none, List.cons_append, List.nil_append, Nat.reduceAdd]
      rw [seg169_134 (ha0 := ho95)]
      have F3 : fmM D3 D := fm_tr (fm_7 k1 k2) (fm_u (fm_u (fm_u F2)))
      have e : doF t n A h o p = (0, tkE t n (tkE t n (tkE t n p)), doA A (plF t n p) (tkV t n (tkE t n p)) (tkV t n (tkE t n (tkE t n p))), h, o) := by unfold doF; rw [if_neg c, if_neg (fun z => z c3), if_neg c4, if_neg c5]
      rw [e] at hq
      have e98 : ∀ j, D3 98 j = if j = 1 then A 1 + 1 else if j = 2 then A 2 + tkV t n (tkE t n (tkE t n p)) else if j = 150 + 4 * A 1 + 2 then tkV t n (tkE t n (tkE t n p)) else D2 98 j := fun j => by rw [k1 98 (by decide), up_at, up_at, up_at]
      have j95 : ∀ j, 11 < j → D3 95 j = D 95 j := fun j hj => by rw [k2 j (by omega), up_ne (by decide), up_ne (by decide), up_ne (by decide), g2 j (by omega), f2 j (by omega), up_ne (by decide)]
      refine hq.2 rfl D3 F3 (by rw [e98, if_neg (by decide), if_neg (by decide), if_neg (by omega), e2, if_neg (by omega), if_neg (by omega)]) ⟨fm_lm F3 dl, ⟨?_, ?_⟩, ?_, fun j j1 j2 => ?_⟩ k3
      · rw [j95 12 (by decide)]; exact dh.1
      · rw [j95 14 (by decide)]; exact dh.2
      · rw [j95 13 (by decide)]
        exact sv_cg ds (fun j j1 j2 => (do_at x0.2.2.1).2.2.2 j (by omega) (by omega) (by omega))
      · rw [e98, e2, da j j1 j2]
        rfl
    · rw [if_neg c1, brF (by decide)]
      have e := u2 c0 c1
      have k := o_bad hq (f := nmF t n (tkE t n (tkE t n p)) 1 30) (p := tkE t n (tkE t n p)) (D' := D2) (by unfold doF; rw [if_neg c, if_neg (fun z => z c3), if_pos (by omega)]) (by omega) F2 g3.2.1
      rw [e] at k; exact k
  · rw [brF (fun z => c0 ((mt_1 g3).mp z))]
    have e := u1 c0
    have k := o_bad hq (f := nmF t n (tkE t n (tkE t n p)) 1 30) (p := tkE t n (tkE t n p)) (D' := D2) (by unfold doF; rw [if_neg c, if_neg (fun z => z c3), if_pos (by omega)]) (by omega) F2 g3.2.1
    rw [e] at k; exact k
/-- the end of a clause -/
theorem m_end (hT : txT t n) (hq : mOut t n (enX t n R) D Q) (h1 : fmM D1 D) (h4 : 0 ≤ D1 98 4 ∧ D1 98 4 ≤ 1000) (hb : R.1 = 0 → 0 ≤ R.2.1 ∧ R.2.1 ≤ n) : bOut t n R D1 (fun v D9 => WP 124 xF1 none 170 286 [some (.inr (.inr (some 95))), some (.inl x1), some (.inl x2), some (.inl x3), some (.inl x4), some (.inl x5), some (.inl x6), some (.inl x7), o8] (v.toList ++ []) D9 Q) := by
  refine ⟨fun c D' f1 f2 => ?_, fun c D' f1 f2 f3 f4 => ?_⟩
  · have e : enX t n R = R := by unfold enX; rw [if_neg c]
    rw [e] at hq
    simp only [Option.toList_some, Option.toList_none, List.cons_append, List.nil_append, Nat.reduceAdd]
    rw [seg170_286 (ha0 := ho95), brF c]
    exact hq.1 c D' (fm_tr f1 h1) f2
  · have hp := hb c
    have p1 := tk_le (t := t) hp.2
    simp only [Option.toList_some, Option.toList_none, List.cons_append, List.nil_append, Nat.reduceAdd]
    rw [seg170_286 (ha0 := ho95), brT rfl]
    by_cases c1 : tkK t n R.2.1 = 3
    · have e : enX t n R = (0, tkE t n R.2.1, fuI R.2.2.1 4 (R.2.2.1 4 + 1), R.2.2.2.1, R.2.2.2.2) := by unfold enX; rw [if_pos c, if_pos c1]
      rw [e] at hq
      rw [brT ((mt_3 f4).mpr c1), cnB (by decide)]
      simp only [Option.toList_some, Option.toList_none, List.cons_append, List.nil_append, Nat.reduceAdd]
      rw [f2, cnX (by omega), cnB (by decide)]
      have e4 : D1 98 4 = R.2.2.1 4 := by rw [← f2]; exact f3.2.2.2 4 (by decide) (by decide)
      refine m157 hT (p := tkE t n R.2.1) ⟨by rw [up_ne (by decide)]; exact f3.1.1, fun j j1 j2 => by rw [up_ne (by decide)]; exact f3.1.2 j j1 j2⟩ (by rw [up_ne (by decide)]; exact f4.2.2.1) ⟨by omega, p1.1⟩ (fun D2 g1 g2 g3 => ?_)
      simp only [Option.toList_some, Option.toList_none, List.cons_append, List.nil_append, Nat.reduceAdd]
      rw [seg170_321 (ha0 := ho95)]
      have F2 : fmM D2 D' := fm_tr (fm_7 g1 g2) (fm_u fm_rf)
      refine hq.2 rfl D2 (fm_tr F2 (fm_tr f1 h1)) ⟨fm_lm F2 f3.1, ⟨?_, ?_⟩, ?_, fun j j1 j2 => ?_⟩ g3
      · rw [g2 12 (by decide), up_ne (by decide)]; exact f3.2.1.1
      · rw [g2 14 (by decide), up_ne (by decide)]; exact f3.2.1.2
      · rw [g2 13 (by decide), up_ne (by decide)]; exact sv_cg f3.2.2.1 (fun j j1 j2 => fu_ne (by omega))
      · rw [g1 98 (by decide), up_at, e4]
        unfold fuI
        rw [f3.2.2.2 j j1 j2]
    · have e : enX t n R = bdF t n 1 R.2.1 R.2.2.1 R.2.2.2.1 R.2.2.2.2 := by unfold enX; rw [if_pos c, if_neg c1]
      rw [e] at hq
      rw [brF (fun z => c1 ((mt_3 f4).mp z))]
      exact hq.1 (show (1 : Int) ≠ 0 by decide) D' (fm_tr f1 h1) f4.2.1
theorem bo_k {K : Option xv → xD → Prop} (hq : bOut t n R D Q) (k : ∀ v D', Q (some (.inl v)) D' → K (some (.inl v)) D') : bOut t n R D K := ⟨fun c D' a1 a2 => k _ _ (hq.1 c D' a1 a2), fun c D' a1 a2 a3 a4 => k _ _ (hq.2 c D' a1 a2 a3 a4)⟩
theorem cw_ne : ∀ i, i < 7 → ∀ j, j < 7 → cwK i = cwK j → i = j := by decide +kernel
theorem isW_ne {i j : Nat} (hp : p ≤ n) (hi : i < 7) (hj : j < 7) (hij : i ≠ j) (h : isW t n p i = true) : ¬ isW t n p j = true := fun z => hij (cw_ne i hi j hj (((isW_cw hp hi).mp h).2.symm.trans ((isW_cw hp hj).mp z).2))
/-- the bodies end within the text -/
theorem bd_le (hp : 0 ≤ p ∧ p ≤ n) : ((hoF t n A h o p).1 = 0 → 0 ≤ (hoF t n A h o p).2.1 ∧ (hoF t n A h o p).2.1 ≤ n) ∧ ((saF t n A h o p).1 = 0 → 0 ≤ (saF t n A h o p).2.1 ∧ (saF t n A h o p).2.1 ≤ n) ∧ ((stF t n A h o p).1 = 0 → 0 ≤ (stF t n A h o p).2.1 ∧ (stF t n A h o p).2.1 ≤ n) ∧ ((opF t n A h o p).1 = 0 → 0 ≤ (opF t n A h o p).2.1 ∧ (opF t n A h o p).2.1 ≤ n) ∧ ((trF t n A h o p).1 = 0 → 0 ≤ (trF t n A h o p).2.1 ∧ (trF t n A h o p).2.1 ≤ n) ∧ ((doF t n A h o p).1 = 0 → 0 ≤ (doF t n A h o p).2.1 ∧ (doF t n A h o p).2.1 ≤ n) ∧ ((slF t n A h o p).1 = 0 → 0 ≤ (slF t n A h o p).2.1 ∧ (slF t n A h o p).2.1 ≤ n) := by
  have p1 := tk_le (t := t) hp.2
  have p2 := tk_le (t := t) p1.1
  have p3 := tk_le (t := t) p2.1
  have p4 := tk_le (t := t) p3.1
  have bb : ∀ {f q : Int}, q ≤ n → 0 ≤ q → 0 ≤ tkB t n q ∧ tkB t n q ≤ n := fun h1 h2 => by have := tk_b (t := t) h1; omega
  refine ⟨fun _ => ?_, fun _ => ?_, fun _ => ?_, fun _ => ?_, fun _ => ?_, fun _ => ?_, fun _ => ?_⟩
  · unfold hoF
    split
    · exact bb (f := 0) (by omega) (by omega)
    · split
      · exact bb (f := 0) (by omega) (by omega)
      · split
        · exact bb (f := 0) (by omega) (by omega)
        · dsimp only; omega
  · unfold saF
    split
    · exact bb (f := 0) (by omega) (by omega)
    · split
      · exact bb (f := 0) (by omega) (by omega)
      · split
        · exact bb (f := 0) (by omega) (by omega)
        · dsimp only; omega
  · unfold stF
    split
    · exact bb (f := 0) (by omega) (by omega)
    · split
      · exact bb (f := 0) (by omega) (by omega)
      · split
        · exact bb (f := 0) (by omega) (by omega)
        · split
          · exact bb (f := 0) (by omega) (by omega)
          · split
            · exact bb (f := 0) (by omega) (by omega)
            · dsimp only; omega
  · unfold opF
    split
    · exact bb (f := 0) (by omega) (by omega)
    · split
      · exact bb (f := 0) (by omega) (by omega)
      · split
        · exact bb (f := 0) (by omega) (by omega)
        · split
          · exact bb (f := 0) (by omega) (by omega)
          · dsimp only; omega
  · unfold trF
    split
    · exact bb (f := 0) (by omega) (by omega)
    · split
      · exact bb (f := 0) (by omega) (by omega)
      · dsimp only; omega
  · unfold doF
    split
    · exact bb (f := 0) (by omega) (by omega)
    · split
      · exact bb (f := 0) (by omega) (by omega)
      · split
        · exact bb (f := 0) (by omega) (by omega)
        · split
          · exact bb (f := 0) (by omega) (by omega)
          · dsimp only; omega
  · unfold slF
    split
    · exact bb (f := 0) (by omega) (by omega)
    · split
      · exact bb (f := 0) (by omega) (by omega)
      · dsimp only; omega
/-- the reference reads a clause -/
theorem m170 (hT : txT t n) (hX : WfX A) (h4 : 0 ≤ A 4 ∧ A 4 ≤ 1000) (hd : mdI D t n A h o) (hm : mtT D t n p) (hp : 0 ≤ p ∧ p ≤ n) (hq : mOut t n (clF t n A h o p) D Q) : WP 124 xF1 none 170 0 [some (.inr (.inr (some 95))), none, none, none, none, none, none, none, o8] [] D Q := by
  have p1 := tk_le (t := t) hp.2
  have bl := bd_le (t := t) (n := n) (A := A) (h := h) (o := o) (p := tkE t n p) ⟨by omega, p1.1⟩
  have x0 := hX.1
  have x4 := hX.2.2.2.2.1
  have e0 : D 98 0 = A 0 := hd.2.2.2 0 (by decide) (by decide)
  have e1 : D 98 1 = A 1 := hd.2.2.2 1 (by decide) (by decide)
  have e3 : D 98 3 = A 3 := hd.2.2.2 3 (by decide) (by decide)
  have e4 : D 98 4 = A 4 := hd.2.2.2 4 (by decide) (by decide)
  -- behind the word
  have nxt : ∀ {x1 x2 x3 x4 x5 x6 x7 : Int}, (∀ D1 : xD, fmM D1 D → (0 ≤ D1 98 4 ∧ D1 98 4 ≤ 1000) → mdI D1 t n A h o → mtT D1 t n (tkE t n p) → WP 124 xF1 none 170 213 [some (.inr (.inr (some 95))), some (.inl x1), some (.inl x2), some (.inl x3), some (.inl x4), some (.inl x5), some (.inl x6), some (.inl x7), o8] [] D1 Q) → WP 124 xF1 none 170 209 [some (.inr (.inr (some 95))), some (.inl x1), some (.inl x2), some (.inl x3), some (.inl x4), some (.inl x5), some (.inl x6), some (.inl x7), o8] [] D Q := by
    intro x1 x2 x3 x4 x5 x6 x7 k
    rw [seg170_209 (ha0 := ho95)]
    refine m157 hT hd.1 (p := tkE t n p) hm.2.2.1 ⟨by omega, p1.1⟩ (fun D1 f1 f2 f3 => ?_)
    simp only [Option.toList_some, Option.toList_none, List.cons_append, List.nil_append, Nat.reduceAdd]
    have F1 : fmM D1 D := fm_7 f1 f2
    refine k D1 F1 (by rw [f1 98 (by decide), e4]; exact h4) ⟨fm_lm F1 hd.1, ⟨?_, ?_⟩, ?_, fun j j1 j2 => ?_⟩ f3
    · rw [f2 12 (by decide)]; exact hd.2.1.1
    · rw [f2 14 (by decide)]; exact hd.2.1.2
    · rw [f2 13 (by decide)]; exact hd.2.2.1
    · rw [f1 98 (by decide)]; exact hd.2.2.2 j j1 j2
  rw [seg170_0 (ha0 := ho95)]
  rw [seg158_0]
  simp only [Option.toList_some, Option.toList_none, List.cons_append, List.nil_append, Nat.reduceAdd]
  rw [seg170_12 (ha0 := ho95) (hb1 := ho95), m160 (k := 0) hm hp.2 (by decide) (by decide +kernel)]
  simp only [Option.toList_some, Option.toList_none, List.cons_append, List.nil_append, Nat.reduceAdd]
  rw [seg170_15 (ha0 := ho95)]
  rw [seg158_0]
  simp only [Option.toList_some, Option.toList_none, List.cons_append, List.nil_append, Nat.reduceAdd]
  rw [seg170_28 (ha0 := ho95) (hb1 := ho95), m160 (k := 5) hm hp.2 (by decide) (by decide +kernel)]
  simp only [Option.toList_some, Option.toList_none, List.cons_append, List.nil_append, Nat.reduceAdd]
  rw [seg170_31 (ha0 := ho95)]
  rw [seg159_0, seg158_0]
  simp only [Option.toList_some, Option.toList_none, List.cons_append, List.nil_append, Nat.reduceAdd]
  rw [seg159_7]
  simp only [Option.toList_some, Option.toList_none, List.cons_append, List.nil_append, Nat.reduceAdd]
  rw [seg170_46 (ha0 := ho95) (hb1 := ho95), m160 (k := 1) hm hp.2 (by decide) (by decide +kernel)]
  simp only [Option.toList_some, Option.toList_none, List.cons_append, List.nil_append, Nat.reduceAdd]
  rw [seg170_56 (ha0 := ho95)]
  rw [seg158_0]
  simp only [Option.toList_some, Option.toList_none, List.cons_append, List.nil_append, Nat.reduceAdd]
  rw [seg170_69 (ha0 := ho95) (hb1 := ho95), m160 (k := 2) hm hp.2 (by decide) (by decide +kernel)]
  simp only [Option.toList_some, Option.toList_none, List.cons_append, List.nil_append, Nat.reduceAdd]
  rw [seg170_72 (ha0 := ho95)]
  rw [seg159_0, seg158_0]
  simp only [Option.toList_some, Option.toList_none, List.cons_append, List.nil_append, Nat.reduceAdd]
  rw [seg159_7]
  simp only [Option.toList_some, Option.toList_none, List.cons_append, List.nil_append, Nat.reduceAdd]
  rw [seg170_88 (ha0 := ho95) (hb1 := ho95), m160 (k := 3) hm hp.2 (by decide) (by decide +kernel)]
  simp only [Option.toList_some, Option.toList_none, List.cons_append, List.nil_append, Nat.reduceAdd]
  rw [seg170_91 (ha0 := ho95)]
  rw [seg158_0]
  simp only [Option.toList_some, Option.toList_none, List.cons_append, List.nil_append, Nat.reduceAdd]
  rw [seg170_105 (ha0 := ho95) (hb1 := ho95), m160 (k := 4) hm hp.2 (by decide) (by decide +kernel)]
  simp only [Option.toList_some, Option.toList_none, List.cons_append, List.nil_append, Nat.reduceAdd]
  rw [seg170_108 (ha0 := ho95)]
  rw [seg158_0]
  simp only [Option.toList_some, Option.toList_none, List.cons_append, List.nil_append, Nat.reduceAdd]
  rw [seg170_122 (ha0 := ho95) (hb1 := ho95), m160 (k := 6) hm hp.2 (by decide) (by decide +kernel)]
  simp only [Option.toList_some, Option.toList_none, List.cons_append, List.nil_append, Nat.reduceAdd]
  unfold clF at hq
  by_cases w0 : isW t n p 0 = true
  · rw [if_pos w0] at hq
    rw [if_pos w0, if_neg (isW_ne hp.2 (show 0 < 7 by decide) (show 5 < 7 by decide) (by decide) w0), if_neg (isW_ne hp.2 (show 0 < 7 by decide) (show 1 < 7 by decide) (by decide) w0), if_neg (isW_ne hp.2 (show 0 < 7 by decide) (show 2 < 7 by decide) (by decide) w0), if_neg (isW_ne hp.2 (show 0 < 7 by decide) (show 3 < 7 by decide) (by decide) w0), if_neg (isW_ne hp.2 (show 0 < 7 by decide) (show 4 < 7 by decide) (by decide) w0), if_neg (isW_ne hp.2 (show 0 < 7 by decide) (show 6 < 7 by decide) (by decide) w0), seg170_125 (ha0 := ho95), brT (by decide), seg170_161 (ha0 := ho95)]
    rw [brT rfl, seg170_176 (ha0 := ho95), brT rfl, seg170_191 (ha0 := ho95), brT rfl]
    refine nxt (fun D1 F1 b4 hd1 f3 => ?_)
    rw [seg170_213 (ha0 := ho95), brF (by decide)]
    exact m163 hT hd1 f3 ⟨by omega, p1.1⟩ (bo_k (m_end hT hq F1 b4 bl.1) (fun v D9 z => by simp only [Option.toList_some, Option.toList_none, List.cons_append, List.nil_append] at z ⊢; rw [seg170_221 (ha0 := ho95)]; exact z))
  rw [if_neg w0] at hq
  by_cases w1 : isW t n p 1 = true
  · rw [if_pos w1] at hq
    rw [if_neg (isW_ne hp.2 (show 1 < 7 by decide) (show 0 < 7 by decide) (by decide) w1), if_neg (isW_ne hp.2 (show 1 < 7 by decide) (show 5 < 7 by decide) (by decide) w1), if_pos w1, if_neg (isW_ne hp.2 (show 1 < 7 by decide) (show 2 < 7 by decide) (by decide) w1), if_neg (isW_ne hp.2 (show 1 < 7 by decide) (show 3 < 7 by decide) (by decide) w1), if_neg (isW_ne hp.2 (show 1 < 7 by decide) (show 4 < 7 by decide) (by decide) w1), if_neg (isW_ne hp.2 (show 1 < 7 by decide) (show 6 < 7 by decide) (by decide) w1), seg170_125 (ha0 := ho95), brF (by decide), brF (by decide), brT (by decide), seg170_161 (ha0 := ho95)]
    by_cases c0 : 16 ≤ A 0
    · rw [if_pos c0] at hq
      rw [brF (by decide), cnB (by decide)]
      simp only [Option.toList_some, Option.toList_none, List.cons_append, List.nil_append, Nat.reduceAdd]
      rw [e0, brT (by omega), seg170_207 (ha0 := ho95)]
      exact hq.1 (show (4 : Int) ≠ 0 by decide) D fm_rf hm.2.1
    rw [if_neg c0] at hq
    rw [brF (by decide), cnB (by decide)]
    simp only [Option.toList_some, Option.toList_none, List.cons_append, List.nil_append, Nat.reduceAdd]
    rw [e0, brF (by omega), seg170_176 (ha0 := ho95), brT rfl, seg170_191 (ha0 := ho95), brT rfl]
    refine nxt (fun D1 F1 b4 hd1 f3 => ?_)
    rw [seg170_213 (ha0 := ho95), brT rfl, brT rfl, brF (by decide)]
    exact m165 hT hX c0 hd1 f3 ⟨by omega, p1.1⟩ (bo_k (m_end hT hq F1 b4 bl.2.2.1) (fun v D9 z => by simp only [Option.toList_some, Option.toList_none, List.cons_append, List.nil_append] at z ⊢; rw [seg170_243 (ha0 := ho95)]; exact z))
  rw [if_neg w1] at hq
  by_cases w2 : isW t n p 2 = true
  · rw [if_pos w2] at hq
    rw [if_neg (isW_ne hp.2 (show 2 < 7 by decide) (show 0 < 7 by decide) (by decide) w2), if_neg (isW_ne hp.2 (show 2 < 7 by decide) (show 5 < 7 by decide) (by decide) w2), if_neg (isW_ne hp.2 (show 2 < 7 by decide) (show 1 < 7 by decide) (by decide) w2), if_pos w2, if_neg (isW_ne hp.2 (show 2 < 7 by decide) (show 3 < 7 by decide) (by decide) w2), if_neg (isW_ne hp.2 (show 2 < 7 by decide) (show 4 < 7 by decide) (by decide) w2), if_neg (isW_ne hp.2 (show 2 < 7 by decide) (show 6 < 7 by decide) (by decide) w2), seg170_125 (ha0 := ho95), brF (by decide), brF (by decide), brF (by decide), brT (by decide), seg170_161 (ha0 := ho95)]
    rw [brT rfl, seg170_176 (ha0 := ho95), brT rfl, seg170_191 (ha0 := ho95), brT rfl]
    refine nxt (fun D1 F1 b4 hd1 f3 => ?_)
    rw [seg170_213 (ha0 := ho95), brT rfl, brT rfl, brT rfl, brF (by decide)]
    exact m166 hT hX hd1 f3 ⟨by omega, p1.1⟩ (bo_k (m_end hT hq F1 b4 bl.2.2.2.1) (fun v D9 z => by simp only [Option.toList_some, Option.toList_none, List.cons_append, List.nil_append] at z ⊢; rw [seg170_255 (ha0 := ho95)]; exact z))
  rw [if_neg w2] at hq
  by_cases w3 : isW t n p 3 = true
  · rw [if_pos w3] at hq
    rw [if_neg (isW_ne hp.2 (show 3 < 7 by decide) (show 0 < 7 by decide) (by decide) w3), if_neg (isW_ne hp.2 (show 3 < 7 by decide) (show 5 < 7 by decide) (by decide) w3), if_neg (isW_ne hp.2 (show 3 < 7 by decide) (show 1 < 7 by decide) (by decide) w3), if_neg (isW_ne hp.2 (show 3 < 7 by decide) (show 2 < 7 by decide) (by decide) w3), if_pos w3, if_neg (isW_ne hp.2 (show 3 < 7 by decide) (show 4 < 7 by decide) (by decide) w3), if_neg (isW_ne hp.2 (show 3 < 7 by decide) (show 6 < 7 by decide) (by decide) w3), seg170_125 (ha0 := ho95), brF (by decide), brF (by decide), brF (by decide), brF (by decide), brT (by decide), seg170_161 (ha0 := ho95)]
    by_cases c0 : 5 ≤ A 3
    · rw [if_pos c0] at hq
      rw [brT rfl, seg170_176 (ha0 := ho95), brF (by decide), cnB (by decide)]
      simp only [Option.toList_some, Option.toList_none, List.cons_append, List.nil_append, Nat.reduceAdd]
      rw [e3, brT (by omega), seg170_207 (ha0 := ho95)]
      exact hq.1 (show (4 : Int) ≠ 0 by decide) D fm_rf hm.2.1
    rw [if_neg c0] at hq
    rw [brT rfl, seg170_176 (ha0 := ho95), brF (by decide), cnB (by decide)]
    simp only [Option.toList_some, Option.toList_none, List.cons_append, List.nil_append, Nat.reduceAdd]
    rw [e3, brF (by omega), seg170_191 (ha0 := ho95), brT rfl]
    refine nxt (fun D1 F1 b4 hd1 f3 => ?_)
    rw [seg170_213 (ha0 := ho95), brT rfl, brT rfl, brT rfl, brT rfl, brF (by decide)]
    exact m167 hT hX hd1 f3 ⟨by omega, p1.1⟩ (bo_k (m_end hT hq F1 b4 bl.2.2.2.2.1) (fun v D9 z => by simp only [Option.toList_some, Option.toList_none, List.cons_append, List.nil_append] at z ⊢; rw [seg170_267 (ha0 := ho95)]; exact z))
  rw [if_neg w3] at hq
  by_cases w4 : isW t n p 4 = true
  · rw [if_pos w4] at hq
    rw [if_neg (isW_ne hp.2 (show 4 < 7 by decide) (show 0 < 7 by decide) (by decide) w4), if_neg (isW_ne hp.2 (show 4 < 7 by decide) (show 5 < 7 by decide) (by decide) w4), if_neg (isW_ne hp.2 (show 4 < 7 by decide) (show 1 < 7 by decide) (by decide) w4), if_neg (isW_ne hp.2 (show 4 < 7 by decide) (show 2 < 7 by decide) (by decide) w4), if_neg (isW_ne hp.2 (show 4 < 7 by decide) (show 3 < 7 by decide) (by decide) w4), if_pos w4, if_neg (isW_ne hp.2 (show 4 < 7 by decide) (show 6 < 7 by decide) (by decide) w4), seg170_125 (ha0 := ho95), brF (by decide), brF (by decide), brF (by decide), brF (by decide), brF (by decide), brT (by decide), seg170_161 (ha0 := ho95)]
    by_cases c0 : 6 ≤ A 1
    · rw [if_pos c0] at hq
      rw [brT rfl, seg170_176 (ha0 := ho95), brT rfl, seg170_191 (ha0 := ho95), brF (by decide), cnB (by decide)]
      simp only [Option.toList_some, Option.toList_none, List.cons_append, List.nil_append, Nat.reduceAdd]
      rw [e1, brF (by omega), seg170_207 (ha0 := ho95)]
      exact hq.1 (show (4 : Int) ≠ 0 by decide) D fm_rf hm.2.1
    rw [if_neg c0] at hq
    rw [brT rfl, seg170_176 (ha0 := ho95), brT rfl, seg170_191 (ha0 := ho95), brF (by decide), cnB (by decide)]
    simp only [Option.toList_some, Option.toList_none, List.cons_append, List.nil_append, Nat.reduceAdd]
    rw [e1, brT (by omega)]
    refine nxt (fun D1 F1 b4 hd1 f3 => ?_)
    rw [seg170_213 (ha0 := ho95), brT rfl, brT rfl, brT rfl, brT rfl, brT rfl, brF (by decide)]
    exact m169 hT hX c0 hd1 f3 ⟨by omega, p1.1⟩ (bo_k (m_end hT hq F1 b4 bl.2.2.2.2.2.1) (fun v D9 z => by simp only [Option.toList_some, Option.toList_none, List.cons_append, List.nil_append] at z ⊢; rw [seg170_279 (ha0 := ho95)]; exact z))
  rw [if_neg w4] at hq
  by_cases w5 : isW t n p 5 = true
  · rw [if_pos w5] at hq
    rw [if_neg (isW_ne hp.2 (show 5 < 7 by decide) (show 0 < 7 by decide) (by decide) w5), if_pos w5, if_neg (isW_ne hp.2 (show 5 < 7 by decide) (show 1 < 7 by decide) (by decide) w5), if_neg (isW_ne hp.2 (show 5 < 7 by decide) (show 2 < 7 by decide) (by decide) w5), if_neg (isW_ne hp.2 (show 5 < 7 by decide) (show 3 < 7 by decide) (by decide) w5), if_neg (isW_ne hp.2 (show 5 < 7 by decide) (show 4 < 7 by decide) (by decide) w5), if_neg (isW_ne hp.2 (show 5 < 7 by decide) (show 6 < 7 by decide) (by decide) w5), seg170_125 (ha0 := ho95), brF (by decide), brT (by decide), seg170_161 (ha0 := ho95)]
    rw [brT rfl, seg170_176 (ha0 := ho95), brT rfl, seg170_191 (ha0 := ho95), brT rfl]
    refine nxt (fun D1 F1 b4 hd1 f3 => ?_)
    rw [seg170_213 (ha0 := ho95), brT rfl, brF (by decide)]
    exact m164 hT hX hd1 f3 ⟨by omega, p1.1⟩ (bo_k (m_end hT hq F1 b4 bl.2.1) (fun v D9 z => by simp only [Option.toList_some, Option.toList_none, List.cons_append, List.nil_append] at z ⊢; rw [seg170_232 (ha0 := ho95)]; exact z))
  rw [if_neg w5] at hq
  by_cases w6 : isW t n p 6 = true
  · rw [if_pos w6] at hq
    rw [if_neg (isW_ne hp.2 (show 6 < 7 by decide) (show 0 < 7 by decide) (by decide) w6), if_neg (isW_ne hp.2 (show 6 < 7 by decide) (show 5 < 7 by decide) (by decide) w6), if_neg (isW_ne hp.2 (show 6 < 7 by decide) (show 1 < 7 by decide) (by decide) w6), if_neg (isW_ne hp.2 (show 6 < 7 by decide) (show 2 < 7 by decide) (by decide) w6), if_neg (isW_ne hp.2 (show 6 < 7 by decide) (show 3 < 7 by decide) (by decide) w6), if_neg (isW_ne hp.2 (show 6 < 7 by decide) (show 4 < 7 by decide) (by decide) w6), if_pos w6, seg170_125 (ha0 := ho95), brF (by decide), brF (by decide), brF (by decide), brF (by decide), brF (by decide), brF (by decide), brT (by decide), seg170_161 (ha0 := ho95)]
    rw [brT rfl, seg170_176 (ha0 := ho95), brT rfl, seg170_191 (ha0 := ho95), brT rfl]
    refine nxt (fun D1 F1 b4 hd1 f3 => ?_)
    rw [seg170_213 (ha0 := ho95), brT rfl, brT rfl, brT rfl, brT rfl, brT rfl, brT rfl]
    exact m168 hT hX hd1 f3 ⟨by omega, p1.1⟩ (m_end hT hq F1 b4 bl.2.2.2.2.2.2)
  rw [if_neg w6] at hq
  rw [if_neg w0, if_neg w5, if_neg w1, if_neg w2, if_neg w3, if_neg w4, if_neg w6, seg170_125 (ha0 := ho95), brF (by decide), brF (by decide), brF (by decide), brF (by decide), brF (by decide), brF (by decide), brF (by decide)]
  exact hq.1 (show (1 : Int) ≠ 0 by decide) D fm_rf hm.2.1
end M98t
