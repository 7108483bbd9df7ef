/-! outs: the best set -/
def mrT (D' D : xD) : Prop := (∀ a, a ≠ 95 → a ≠ 96 → (a < 100 ∨ 110 < a) → D' a = D a) ∧ (∀ j, j ≠ 21 → D' 95 j = D 95 j) ∧ ∀ j, j ≠ 5 → D' 96 j = D 96 j
section M98n
variable {x M M' s v s' v' r q F x1 x2 x3 x4 x5 x6 x7 j w : Int} {k n : Nat} {D D' D1 D2 : xD} {T c f : Int → Int} {o2 o3 o4 o5 o6 o7 o8 : Option xv} {Q : Option xv → xD → Prop}
theorem sm_sh : ∀ (k : Nat) (i : Int), smI f (i + 1) k = smI (fun j => f (j + 1)) i k := by
  intro k
  induction k with
  | zero => intro i; rfl
  | succ k ih => intro i; simp only [smI]; rw [ih (i + 1)]
theorem bI_tb (hM : 0 ≤ M ∧ M < 65536) (k : Nat) : bI M k = decide (M.toNat / 2 ^ k % 2 = 1) := by
  show Nat.testBit (Int32.ofInt M).toBitVec.toNat k = _
  have e2 : (Int32.ofInt M).toBitVec.toNat = (M % 4294967296).toNat := BitVec.toNat_ofInt M
  rw [e2, show (M % 4294967296).toNat = M.toNat by omega]
  exact Nat.testBit_eq_decide_div_mod_eq
theorem pc_sm : ∀ (k : Nat) (M : Int), 0 ≤ M → (pbS k M : Int) = smI (fun j => ((M.toNat / 2 ^ j.toNat % 2 : Nat) : Int)) 0 k := by
  intro k
  induction k with
  | zero => intro M _; rfl
  | succ k ih =>
    intro M hM
    simp only [pbS, smI]
    rw [sm_sh, Int.natCast_add, ih (M / 2) (by omega)]
    have e1 : (((if M % 2 = 1 then 1 else 0 : Nat)) : Int) = ((M.toNat / 2 ^ (0 : Int).toNat % 2 : Nat) : Int) := by
      rw [show (2 : Nat) ^ (0 : Int).toNat = 1 by decide, Nat.div_one]
      by_cases c : M % 2 = 1
      · rw [if_pos c]; omega
      · rw [if_neg c]; omega
    have e2 : smI (fun j => (((M / 2).toNat / 2 ^ j.toNat % 2 : Nat) : Int)) 0 k = smI (fun j => ((M.toNat / 2 ^ (j + 1).toNat % 2 : Nat) : Int)) 0 k := smI_congr _ _ (fun j j1 j2 => by
      rw [show (j + 1).toNat = j.toNat + 1 by omega, Nat.pow_succ, Nat.mul_comm, ← Nat.div_div_eq_div_mul, show (M / 2).toNat = M.toNat / 2 by omega])
    rw [e1, e2]
theorem pc_5 (hM : 0 ≤ M ∧ M < 65536) (h : smI (fun k => iand (ishr M k) 1) 0 16 ≤ 5) : pbS 16 M ≤ 5 := by
  have e := pc_sm 16 M hM.1
  have e2 : smI (fun k => iand (ishr M k) 1) 0 16 = smI (fun j => ((M.toNat / 2 ^ j.toNat % 2 : Nat) : Int)) 0 16 := smI_congr _ _ (fun j j1 j2 => by
    obtain ⟨m, rfl⟩ : ∃ m : Nat, j = m := ⟨j.toNat, by omega⟩
    rw [bit_eq M m (by omega), bI_tb hM m, Int.toNat_natCast]
    by_cases c : M.toNat / 2 ^ m % 2 = 1
    · rw [decide_eq_true c, if_pos rfl, c]; rfl
    · rw [decide_eq_false c, if_neg (by decide)]
      have := Nat.mod_two_eq_zero_or_one (M.toNat / 2 ^ m)
      rw [this.resolve_right c]; rfl)
  omega
theorem xi_ext (h1 : xin M) (h2 : xin M') (h : ∀ i : Nat, i < 32 → bI M i = bI M' i) : M = M' := by
  rw [← x32 h1, ← x32 h2]
  exact i32_ext h
theorem ts_ne (h : j ≠ 5) : tsT T x j = T j := by unfold tsT; rw [if_neg h]
theorem ts_5 : tsT T x 5 = x := by unfold tsT; rw [if_pos rfl]
theorem ts_W (hT : tnW T) : tnW (tsT T x) := by
  obtain ⟨w0, w1, w2, w3, w4⟩ := hT
  refine ⟨?_, fun s s1 s2 => ?_, fun d d1 d2 => ?_, ?_, fun p p1 p2 => ?_⟩
  · rw [ts_ne (by decide), ts_ne (by decide)]; exact w0
  · rw [ts_ne (by decide)] at s2
    obtain ⟨u1, u2, u3, u4, u5, u6⟩ := w1 s s1 s2
    have e1 : tsT T x (30 + 7 * s) = T (30 + 7 * s) := ts_ne (by omega)
    have e2 : tsT T x (30 + 7 * s + 1) = T (30 + 7 * s + 1) := ts_ne (by omega)
    have b : (0 ≤ T (30 + 7 * s) ∧ T (30 + 7 * s) ≤ 7) ∧ (0 ≤ T (30 + 7 * s + 1) ∧ T (30 + 7 * s + 1) ≤ 7) := by
      unfold frM at u1
      unfold toM at u2
      by_cases c : iand (ishr (T 5) s) 1 = 1
      · rw [if_pos c] at u1 u2; exact ⟨u2, u1⟩
      · rw [if_neg c] at u1 u2; exact ⟨u1, u2⟩
    refine ⟨?_, ?_, ?_, ?_, ?_, ?_⟩
    · unfold frM; rw [e1, e2]; split
      · exact b.2
      · exact b.1
    · unfold toM; rw [e1, e2]; split
      · exact b.1
      · exact b.2
    · rw [ts_ne (by omega)]; exact u3
    · rw [ts_ne (by omega)]; exact u4
    · rw [ts_ne (by omega), ts_ne (by omega)]; exact u5
    · rw [ts_ne (by omega)]; exact u6
  · rw [ts_ne (by decide)] at d2
    rw [ts_ne (by omega), ts_ne (by omega), ts_ne (by omega), ts_ne (by omega)]
    exact w2 d d1 d2
  · rw [ts_ne (by decide), ts_ne (by decide)]
    refine ⟨?_, w3.2⟩
    rw [w3.1]
    exact smI_congr _ _ (fun d d1 d2 => by rw [ts_ne (by omega)])
  · rw [ts_ne (by omega), ts_ne (by omega)]; exact w4 p p1 p2
theorem ts_N (H : tnN D T) : tnN D (tsT T x) := by
  obtain ⟨w0, w1, w2, w3⟩ := H
  refine ⟨?_, fun s s1 s2 => ?_, fun p p1 p2 => ?_, fun d d1 d2 => ?_⟩
  · rw [ts_ne (by decide), ts_ne (by decide)]; exact w0
  · rw [ts_ne (by decide)] at s2
    rw [ts_ne (by omega), ts_ne (by omega), ts_ne (by omega), ts_ne (by omega), ts_ne (by omega), ts_ne (by omega)]
    exact w1 s s1 s2
  · rw [ts_ne (by omega), ts_ne (by omega)]; exact w2 p p1 p2
  · rw [ts_ne (by decide)] at d2
    rw [ts_ne (by omega), ts_ne (by omega), ts_ne (by omega), ts_ne (by omega)]
    exact w3 d d1 d2
theorem qk_rg (h : qkP T q) : q = -1 ∨ (0 ≤ q ∧ q < 13) := by
  rcases h with ⟨a, -⟩ | ⟨a, -⟩
  · exact .inl a
  · exact .inr a
theorem tu_rg : ∀ (n : Nat) (s v : Int), tuR T M n s v → v = -1 ∨ (0 ≤ v ∧ v < 13) := by
  intro n
  induction n with
  | zero => intro s v h; exact .inl h.2
  | succ n ih =>
    intro s v h
    obtain ⟨s', v', q, h1, h2, h3⟩ := h
    have := ih s' v' h1
    have := qk_rg h2
    rcases h3 with ⟨a, b, c, d⟩ | ⟨a, b, c⟩ <;> omega
/-- the class: how quick a set is, if it is quicker -/
theorem l55 (hT : tnW T) (hb : 0 ≤ x3 ∧ x3 ≤ 13) (hq : ∀ (D' : xD) r, (∀ a, a < 57 ∨ 67 < a → D' a = D a) → (∀ q, qkP T q → r = if 0 ≤ q ∧ q < x3 then q else -1) → (r = -1 ∨ (0 ≤ r ∧ r < x3)) → Q (some (.inl r)) D') :
    ∀ (k : Nat) (x6 F : Int) (D' : xD), x6 + k = x3 → 0 ≤ x6 → (∀ a, a < 57 ∨ 67 < a → D' a = D a) → clI D' c x6 F (csS T 0) → (∀ t, 0 ≤ t → t < x6 → ∃ z, opT 0 1 (mdl T (fun _ => 1) (-1) 0 t) z ∧ z ≠ T 2) → WP 124 xF1 none 55 22 [some (.inr (.inr (some 56))), some (.inr (.inr (some 4))), some (.inl x2), some (.inl x3), some (.inl (T 2)), some (.inl F), some (.inl x6)] [] D' Q := by
  intro k
  induction k with
  | zero =>
    intro x6 F D' h1 h2 h3 h4 h5
    rw [seg55_22 (ha0 := ho56) (ha1 := ho4), brT (by omega), seg55_65 (ha0 := ho56) (ha1 := ho4)]
    refine hq D' (-1) h3 (fun q hq => ?_) (.inl rfl)
    rcases hq with ⟨a1, a2⟩ | ⟨a1, a2, a3⟩
    · rw [if_neg (by omega)]
    · by_cases c : q < x3
      · obtain ⟨z, z1, z2⟩ := h5 q a1.1 (by omega)
        exact absurd (op_un z1 a2) z2
      · rw [if_neg (by omega)]
  | succ k ih =>
    intro x6 F D' h1 h2 h3 h4 h5
    rw [seg55_22 (ha0 := ho56) (ha1 := ho4), brF (by omega), brF (by omega)]
    simp only [Nat.reduceAdd]
    refine m36 h4 (cl_W hT (by decide) h4.1) (fun D3 F' g1 g2 g3 g4 => ?_)
    simp only [Option.toList_some, Option.toList_none, List.cons_append, List.nil_append, Nat.reduceAdd]
    have b1 := cl_99 g2 (cl_W hT (by decide) g2.1)
    have b0 := g2.2.2.2
    have b2 := h4.2.2.2
    have op := mo_cl hT (by omega) (by decide) g2 g4
    have F3 : ∀ a, a < 57 ∨ 67 < a → D3 a = D a := fun a ha => by rw [g1 a (by omega) (by omega) (by omega)]; exact h3 a ha
    rw [seg55_46 (ha0 := ho56) (ha1 := ho4), cnX (by omega), show F + (F' - F) = F' by omega]
    by_cases c0 : F' ≠ T 2
    · rw [brT c0, cnX (by omega)]
      refine ih (x6 + 1) F' D3 (by omega) (by omega) F3 (cl_up g2 (by omega)) (fun t t1 t2 => ?_)
      by_cases ct : t = x6
      · rw [ct]; exact ⟨F', op, c0⟩
      · exact h5 t t1 (by omega)
    · rw [brF c0]
      have c1 : F' = T 2 := by omega
      rw [c1] at op
      have K : qkP T x6 := .inr ⟨by omega, op, h5⟩
      refine hq D3 x6 F3 (fun q hq => ?_) (.inr (by omega))
      rw [← qk_un K hq, if_pos (by omega)]
theorem m55 (hT : tnW T) (H : tnN D T) (hb : 0 ≤ x3 ∧ x3 ≤ 13) (hq : ∀ (D' : xD) r, (∀ a, a < 57 ∨ 67 < a → D' a = D a) → (∀ q, qkP (tsT T x2) q → r = if 0 ≤ q ∧ q < x3 then q else -1) → (r = -1 ∨ (0 ≤ r ∧ r < x3)) → Q (some (.inl r)) D') :
    WP 124 xF1 none 55 0 [some (.inr (.inr (some 56))), some (.inr (.inr (some 4))), some (.inl x2), some (.inl x3), o4, o5, o6] [] D Q := by
  have hW : tnW (tsT T x2) := ts_W hT
  have hN : tnN D (tsT T x2) := ts_N H
  rw [seg55_0 (ha0 := ho56) (ha1 := ho4)]
  simp only [Nat.reduceAdd]
  refine m27 (T := tsT T x2) hW hN ts_5.symm (by decide) (fun D2 f1 f2 => ?_)
  simp only [Option.toList_some, Option.toList_none, List.cons_append, List.nil_append, Nat.reduceAdd]
  rw [seg55_10 (ha0 := ho56) (ha1 := ho4)]
  have F2 : ∀ a, a < 57 ∨ 67 < a → D2 a = D a := fun a ha => f1 a (by omega) (by omega) (by omega) (by omega) (by omega) (by omega)
  rw [m100t hW (tnN_fr (fun a a1 a2 => F2 a (by omega)) hN)]
  simp only [Option.toList_some, Option.toList_none, List.cons_append, List.nil_append]
  rw [seg55_14 (ha0 := ho56) (ha1 := ho4)]
  exact l55 (D := D) hW hb hq x3.toNat 0 0 D2 (by omega) (by omega) F2 (cl_0 hW (by decide) f2) (fun t t1 t2 => by omega)
def inT (T : Int → Int) (M : Int) (i : Nat) (w s : Int) : Prop := ∀ s' v', tuR T M i s' v' → w = (if v' < 0 then 13 else v') ∧ s = s'
theorem in_up {w' : Int} {i : Nat} (h : inT T M i w s) (hr : ∀ q, qkP (tsT T (itS M i)) q → r = if 0 ≤ q ∧ q < w then q else -1) (h1 : r = -1 → w' = w ∧ s' = s) (h2 : r ≠ -1 → w' = r ∧ s' = itS M i) : inT T M (i + 1) w' s' := by
  intro s2 v2 ht
  obtain ⟨s3, v3, q, t1, t2, t3⟩ := ht
  obtain ⟨e1, e2⟩ := h s3 v3 t1
  have e3 := hr q t2
  have b1 := qk_rg t2
  have b2 := tu_rg i s3 v3 t1
  by_cases c : v3 < 0
  · rw [if_pos c] at e1
    by_cases c2 : 0 ≤ q ∧ q < w
    · rw [if_pos c2] at e3
      obtain ⟨e4, e5⟩ := h2 (by omega)
      rcases t3 with ⟨a, b, d, e⟩ | ⟨a, b, d⟩
      · rw [if_neg (by omega)]; exact ⟨by omega, by rw [e5, d]⟩
      · exact absurd ⟨c2.1, .inl c⟩ a
    · rw [if_neg c2] at e3
      obtain ⟨e4, e5⟩ := h1 e3
      rcases t3 with ⟨a, b, d, e⟩ | ⟨a, b, d⟩
      · omega
      · rw [if_pos (by omega)]; exact ⟨by omega, by omega⟩
  · rw [if_neg c] at e1
    by_cases c2 : 0 ≤ q ∧ q < w
    · rw [if_pos c2] at e3
      obtain ⟨e4, e5⟩ := h2 (by omega)
      rcases t3 with ⟨a, b, d, e⟩ | ⟨a, b, d⟩
      · rw [if_neg (by omega)]; exact ⟨by omega, by rw [e5, d]⟩
      · exact absurd ⟨c2.1, .inr (by omega)⟩ a
    · rw [if_neg c2] at e3
      obtain ⟨e4, e5⟩ := h1 e3
      rcases t3 with ⟨a, b, d, e⟩ | ⟨a, b, d⟩
      · omega
      · rw [if_neg (by omega)]; exact ⟨by omega, by omega⟩
theorem tu_of {i : Nat} (hM : mskP T M) (he : itS M n = M) (hf : ∀ i, i < n → itS M i ≠ M) (h : inT T M (n + 1) w s) (hv : v = if 13 ≤ w then -1 else w) : tuP T s v := by
  intro M2 n2 s2 v2 k1 k2 k3 k4
  have eM : M2 = M := xi_ext ⟨by have := k1.1; omega, by have := k1.1; omega⟩ ⟨by have := hM.1; omega, by have := hM.1; omega⟩ (fun i hi => by rw [k1.2 i hi, hM.2 i hi])
  subst eM
  have en : n2 = n := by
    rcases Nat.lt_trichotomy n2 n with q | q | q
    · exact absurd k2 (hf n2 q)
    · exact q
    · exact absurd he (k3 n q)
  subst en
  obtain ⟨e1, e2⟩ := h s2 v2 k4
  have := tu_rg _ s2 v2 k4
  refine ⟨e2, ?_⟩
  rw [hv, e1]
  by_cases c : v2 < 0
  · rw [if_pos c, if_pos (by decide)]; omega
  · rw [if_neg c, if_neg (by omega)]
theorem l54 (hT : tnW T) (H : tnN D T) (hM : mskP T M) (h13 : D 4 13 = M) (he : itS M n = M) (hf : ∀ i, i < n → itS M i ≠ M) (hn : n < 32)
    (hq : ∀ (D' : xD), (∀ a, a < 56 ∨ 67 < a → D' a = D a) → (∀ j, j ≠ 10 → j ≠ 11 → D' 56 j = D 56 j) → tuP T (D' 56 10) (D' 56 11) → Q none D') :
    ∀ (k i : Nat) (w : Int) (D' : xD) (o5 : Option xv), i + k = n → (0 ≤ w ∧ w ≤ 13) → (∀ a, a < 56 ∨ 67 < a → D' a = D a) → (∀ j, j ≠ 10 → D' 56 j = D 56 j) → inT T M i w (D' 56 10) → WP 124 xF1 none 54 26 [some (.inr (.inr (some 56))), some (.inr (.inr (some 4))), some (.inl w), some (.inl (itS M i)), some (.inl (i : Int)), o5] [] D' Q := by
  intro k
  induction k with
  | zero =>
    intro i w D' o5 h1 h2 h3 h4 h5
    have ei : i = n := by omega
    subst ei
    rw [seg54_26 (ha0 := ho56) (ha1 := ho4), brF (by omega)]
    refine m55 hT (tnN_fr (fun a a1 a2 => h3 a (by omega)) H) h2 (fun D2 r g1 g2 g3 => ?_)
    simp only [Option.toList_some, Option.toList_none, List.cons_append, List.nil_append]
    have go : ∀ (D3 : xD) w', (0 ≤ w' ∧ w' ≤ 13) → (∀ a, a < 56 ∨ 67 < a → D3 a = D a) → (∀ j, j ≠ 10 → D3 56 j = D 56 j) → inT T M (i + 1) w' (D3 56 10) → WP 124 xF1 none 54 56 [some (.inr (.inr (some 56))), some (.inr (.inr (some 4))), some (.inl w'), some (.inl (itS M i)), some (.inl (i : Int)), some (.inl r)] [] D3 Q := by
      intro D3 w' p1 p2 p3 p4
      rw [seg54_56 (ha0 := ho56) (ha1 := ho4), p2 4 (by decide), h13, he, cnX (by have := hM.1; omega), brF (fun z => z ((nx_0 hM.1 hf).mpr he ▸ (by unfold nxS; rw [he]))), seg54_81 (ha0 := ho56) (ha1 := ho4)]
      by_cases c : 13 ≤ w'
      · rw [brT c, seg54_93 (ha0 := ho56) (ha1 := ho4) (hb1 := ho56)]
        refine hq _ (fun a ha => by rw [up_ne (by omega)]; exact p2 a ha) (fun j j1 j2 => by rw [up_ne2 j2]; exact p3 j j1) ?_
        rw [up_eq, up_ne2 (show (10 : Int) ≠ 11 by decide)]
        exact tu_of (i := 0) hM he hf p4 (by rw [if_pos c])
      · rw [brF c, seg54_93 (ha0 := ho56) (ha1 := ho4) (hb1 := ho56)]
        refine hq _ (fun a ha => by rw [up_ne (by omega)]; exact p2 a ha) (fun j j1 j2 => by rw [up_ne2 j2]; exact p3 j j1) ?_
        rw [up_eq, up_ne2 (show (10 : Int) ≠ 11 by decide)]
        exact tu_of (i := 0) hM he hf p4 (by rw [if_neg c])
    have e56 : D2 56 = D' 56 := g1 56 (by decide)
    have F2 : ∀ a, a < 56 ∨ 67 < a → D2 a = D a := fun a ha => by rw [g1 a (by omega)]; exact h3 a ha
    rw [seg54_40 (ha0 := ho56) (ha1 := ho4)]
    by_cases c : r = -1
    · rw [brT c]
      exact go D2 w h2 F2 (fun j hj => by rw [e56]; exact h4 j hj) (in_up h5 g2 (fun _ => ⟨rfl, by rw [e56]⟩) (fun z => absurd c z))
    · rw [brF c]
      exact go _ r (by omega) (fun a ha => by rw [up_ne (by omega)]; exact F2 a ha) (fun j hj => by rw [up_ne2 hj, e56]; exact h4 j hj) (in_up h5 g2 (fun z => absurd z c) (fun _ => ⟨rfl, by rw [up_eq]⟩))
  | succ k ih =>
    intro i w D' o5 h1 h2 h3 h4 h5
    have hi : itS M i ≠ M := hf i (by omega)
    have sb := su_le 16 (itS M i) M hM.1.1 (it_rk hM.1 i (fun j hj => hf j (by omega))).1
    rw [seg54_26 (ha0 := ho56) (ha1 := ho4), brF (by omega)]
    refine m55 hT (tnN_fr (fun a a1 a2 => h3 a (by omega)) H) h2 (fun D2 r g1 g2 g3 => ?_)
    simp only [Option.toList_some, Option.toList_none, List.cons_append, List.nil_append]
    have go : ∀ (D3 : xD) w', (0 ≤ w' ∧ w' ≤ 13) → (∀ a, a < 56 ∨ 67 < a → D3 a = D a) → (∀ j, j ≠ 10 → D3 56 j = D 56 j) → inT T M (i + 1) w' (D3 56 10) → WP 124 xF1 none 54 56 [some (.inr (.inr (some 56))), some (.inr (.inr (some 4))), some (.inl w'), some (.inl (itS M i)), some (.inl (i : Int)), some (.inl r)] [] D3 Q := by
      intro D3 w' p1 p2 p3 p4
      have nz : iand (itS M i - M) M ≠ 0 := fun z => hi ((nx_0 hM.1 (fun j hj => hf j (by omega))).mp z)
      rw [seg54_56 (ha0 := ho56) (ha1 := ho4), p2 4 (by decide), h13, cnX (by have := hM.1; omega), brT nz, cnX (by omega)]
      exact ih (i + 1) w' D3 _ (by omega) p1 p2 p3 p4
    have e56 : D2 56 = D' 56 := g1 56 (by decide)
    have F2 : ∀ a, a < 56 ∨ 67 < a → D2 a = D a := fun a ha => by rw [g1 a (by omega)]; exact h3 a ha
    rw [seg54_40 (ha0 := ho56) (ha1 := ho4)]
    by_cases c : r = -1
    · rw [brT c]
      exact go D2 w h2 F2 (fun j hj => by rw [e56]; exact h4 j hj) (in_up h5 g2 (fun _ => ⟨rfl, by rw [e56]⟩) (fun z => absurd c z))
    · rw [brF c]
      exact go _ r (by omega) (fun a ha => by rw [up_ne (by omega)]; exact F2 a ha) (fun j hj => by rw [up_ne2 hj, e56]; exact h4 j hj) (in_up h5 g2 (fun z => absurd z c) (fun _ => ⟨rfl, by rw [up_eq]⟩))
theorem m54 (hT : tnW T) (H : tnN D T) (hM : mskP T M) (h13 : D 4 13 = M) (hp : pbS 16 M ≤ 5) (hK : D 56 9 = 0 ∨ tuP T (D 56 10) (D 56 11)) (hq : ∀ (D' : xD), (∀ a, a < 56 ∨ 67 < a → D' a = D a) → (∀ j, j ≠ 9 → j ≠ 10 → j ≠ 11 → D' 56 j = D 56 j) → tuP T (D' 56 10) (D' 56 11) → Q none D') :
    WP 124 xF1 none 54 0 [some (.inr (.inr (some 56))), some (.inr (.inr (some 4))), o2, o3, o4, o5] [] D Q := by
  obtain ⟨n, n1, n2, n3⟩ := it_end hM.1
  have := pw_32 hp
  rw [seg54_0 (ha0 := ho56) (ha1 := ho4)]
  by_cases c : D 56 9 = 0
  · rw [brT c]
    obtain ⟨D1, hD1⟩ : ∃ D1, D1 = xup (xup D 56 9 1) 56 10 0 := ⟨_, rfl⟩
    rw [← hD1]
    have F1 : ∀ a, a ≠ 56 → D1 a = D a := fun a ha => by rw [hD1, up_ne ha, up_ne ha]
    have E1 : D1 56 10 = 0 := by rw [hD1, up_eq]
    have E2 : ∀ j, j ≠ 9 → j ≠ 10 → D1 56 j = D 56 j := fun j j1 j2 => by rw [hD1, up_ne2 j2, up_ne2 j1]
    clear hD1
    have l := l54 (D := D1) (n := n) (Q := Q) hT (tnN_fr (fun a a1 a2 => F1 a (by omega)) H) hM (by rw [F1 4 (by decide)]; exact h13) n2 n3 (by omega) (fun D2 g1 g2 g3 => ?_) n 0 13 D1 o5 (by omega) (by decide) (fun _ _ => rfl) (fun _ _ => rfl) (fun s' v' h => ?_)
    · exact l
    · exact hq D2 (fun a ha => by rw [g1 a ha, F1 a (by omega)]) (fun j j1 j2 j3 => by rw [g2 j j2 j3, E2 j j1 j2]) g3
    · have h : s' = 0 ∧ v' = -1 := h
      rw [E1, h.1, h.2]
      exact ⟨by decide, rfl⟩
  · rw [brF c]
    exact hq D (fun _ _ => rfl) (fun _ _ _ _ => rfl) (hK.resolve_left c)
/-- the reference -/
theorem l183r (hA : ∀ k, 0 ≤ k → k < D 96 0 → D 96 (30 + 7 * k + 6) = 0 ∨ D 96 (30 + 7 * k + 6) = 1) : ∀ (k : Nat) (x1 x2 : Int), D 96 0 = x2 + k → 0 ≤ x2 → D 96 0 ≤ 16 → xin x1 → (∀ i : Nat, i < 32 → bI x1 i = decide ((i : Int) < x2 ∧ D 96 (30 + 7 * i + 6) = 1)) → (∀ x, xin x → (∀ i : Nat, i < 32 → bI x i = decide ((i : Int) < D 96 0 ∧ D 96 (30 + 7 * i + 6) = 1)) → Q (some (.inl x)) D) → WP 124 xF1 none 183 4 [some (.inr (.inr (some 95))), some (.inl x1), some (.inl x2)] [] D Q := by
  intro k
  induction k with
  | zero =>
    intro x1 x2 h1 h2 h3 h4 hb hQ
    rw [seg183_4 (ha0 := ho95), cnB (by omega)]
    simp only [Nat.reduceAdd]
    rw [brT (c := D 96 0 ≤ x2) (by omega)]
    exact hQ x1 h4 (by rw [show D 96 0 = x2 by omega]; exact hb)
  | succ k ih =>
    intro x1 x2 h1 h2 h3 h4 hb hQ
    rw [seg183_4 (ha0 := ho95), cnB (by omega)]
    simp only [Nat.reduceAdd]
    rw [brF (c := D 96 0 ≤ x2) (by omega)]
    simp (disch := omega) only [cnX, cnB]
    refine ih _ _ (by omega) (by omega) h3 (xin32 _) (fun i hi => ?_) hQ
    obtain ⟨n, rfl⟩ : ∃ n : Nat, x2 = n := ⟨x2.toNat, by omega⟩
    rw [bI_ior, hb i hi, bI_ishl _ n (by omega) hi]
    rcases hA n (by omega) (by omega) with h | h <;> rw [h]
    · have z : bI 0 (i - n) = false := b_0 _
      rw [z, Bool.and_false, Bool.or_false, decide_eq_decide]
      constructor
      · rintro ⟨a, b⟩
        exact ⟨by omega, b⟩
      · rintro ⟨a, b⟩
        refine ⟨?_, b⟩
        by_cases e : (i : Int) = n
        · rw [e, h] at b; exact absurd b (by decide)
        · omega
    · rw [bI_1 (by omega)]
      by_cases e : i = n
      · subst e
        simp [h]
        omega
      · by_cases e2 : i < n
        · simp [show ¬ n ≤ i by omega, show (i : Int) < n by omega, show (i : Int) < n + 1 by omega]
        · simp [show ¬ i - n = 0 by omega, show ¬ (i : Int) < n by omega, show ¬ (i : Int) < n + 1 by omega]
theorem l198 (hT : tnW T) (hA : ∀ j, 0 ≤ j → j < 176 → j ≠ 5 → j ≠ 6 → D 96 j = T j) (h22 : D 95 22 = -1) (h23 : D 95 23 = 0) (hM : mskP T M) (he : itS M n = M) (hf : ∀ i, i < n → itS M i ≠ M) (hx2 : x2 = D 96 5)
    (hq : ∀ (D' : xD) s v, mrG D' D → tuR T M (n + 1) s v → Q (some (.inl (if x1 ≠ 0 then v else s))) D') :
    ∀ (k i : Nat) (x4 x5 : Int) (D' : xD) (o8 : Option xv), i + k = n → mrT D' D → tuR T M i x4 x5 → WP 124 xF1 none 198 35 [some (.inr (.inr (some 95))), some (.inl x1), some (.inl x2), some (.inl M), some (.inl x4), some (.inl x5), some (.inl (itS M i)), some (.inl 1), o8] [] D' Q := by
  have one : ∀ (i : Nat) (x4 x5 : Int) (D' : xD) (o8 : Option xv), i ≤ n → mrT D' D → tuR T M i x4 x5 →
      (∀ (D2 : xD) y4 y5 y8, mrT D2 D → tuR T M (i + 1) y4 y5 → WP 124 xF1 none 198 79 [some (.inr (.inr (some 95))), some (.inl x1), some (.inl x2), some (.inl M), some (.inl y4), some (.inl y5), some (.inl (itS M i)), some (.inl 1), some (.inl y8)] [] D2 Q) →
      WP 124 xF1 none 198 35 [some (.inr (.inr (some 95))), some (.inl x1), some (.inl x2), some (.inl M), some (.inl x4), some (.inl x5), some (.inl (itS M i)), some (.inl 1), o8] [] D' Q := by
    intro i x4 x5 D' o8 h1 h2 h3 nx
    rw [seg198_35 (ha0 := ho95), brF (by decide), cnB (by decide)]
    simp only [Nat.reduceAdd]
    refine m193 (T := tsT T (itS M i)) (ts_W hT) (fun j hj => ?_) (by rw [up_ne (by decide), h2.2.1 22 (by decide)]; exact h22) (by rw [up_ne (by decide), h2.2.1 23 (by decide)]; exact h23) (fun D2 r k1 k2 => ?_)
    · by_cases c : j = 5
      · rw [c, up_eq, ts_5]
      · rw [up_ne2 c, ts_ne c, h2.2.2 j c]; exact hA j hj.1 hj.2.1 c hj.2.2
    · simp only [Option.toList_some, Option.toList_none, List.cons_append, List.nil_append]
      have F2 : mrT D2 D := ⟨fun a a1 a2 a3 => by rw [k1.1 a a1 a3, up_ne a2]; exact h2.1 a a1 a2 a3, fun j hj => by rw [k1.2 j hj, up_ne (by decide)]; exact h2.2.1 j hj, fun j hj => by rw [k1.1 96 (by decide) (by decide), up_ne2 hj]; exact h2.2.2 j hj⟩
      rw [seg198_52 (ha0 := ho95)]
      by_cases c1 : r < 0
      · rw [brT c1]
        exact nx D2 x4 x5 r F2 ⟨x4, x5, r, h3, k2, .inr ⟨by omega, rfl, rfl⟩⟩
      · rw [brF c1]
        by_cases c2 : x5 < 0
        · rw [brT c2, seg198_71 (ha0 := ho95)]
          exact nx D2 _ _ r F2 ⟨x4, x5, r, h3, k2, .inl ⟨by omega, .inl c2, rfl, rfl⟩⟩
        · rw [brF c2]
          by_cases c3 : x5 ≤ r
          · rw [brT c3]
            exact nx D2 x4 x5 r F2 ⟨x4, x5, r, h3, k2, .inr ⟨by omega, rfl, rfl⟩⟩
          · rw [brF c3, seg198_71 (ha0 := ho95)]
            exact nx D2 _ _ r F2 ⟨x4, x5, r, h3, k2, .inl ⟨by omega, .inr (by omega), rfl, rfl⟩⟩
  intro k
  induction k with
  | zero =>
    intro i x4 x5 D' o8 h1 h2 h3
    have ei : i = n := by omega
    subst ei
    refine one i x4 x5 D' o8 (by omega) h2 h3 (fun D2 y4 y5 y8 g1 g2 => ?_)
    rw [seg198_79 (ha0 := ho95), he, brT rfl, seg198_90 (ha0 := ho95), cnX (by have := hM.1; omega), seg198_35 (ha0 := ho95), brT rfl, cnB (by decide)]
    simp only [Nat.reduceAdd]
    have fin := hq (xup D2 96 5 x2) y4 y5 ⟨fun a a1 a2 => ?_, fun j hj => by rw [up_ne (by decide)]; exact g1.2.1 j hj⟩ g2
    · by_cases c : x1 ≠ 0
      · rw [brT c, seg198_121 (ha0 := ho95)]
        rw [if_pos c] at fin
        exact fin
      · rw [brF c, seg198_121 (ha0 := ho95)]
        rw [if_neg c] at fin
        exact fin
    · by_cases c : a = 96
      · subst c
        funext j
        by_cases cj : j = 5
        · rw [cj, up_eq, hx2]
        · rw [up_ne2 cj]; exact g1.2.2 j cj
      · rw [up_ne c]; exact g1.1 a a1 c a2
  | succ k ih =>
    intro i x4 x5 D' o8 h1 h2 h3
    have hi : itS M i ≠ M := hf i (by omega)
    have sb := su_le 16 (itS M i) M hM.1.1 (it_rk hM.1 i (fun j hj => hf j (by omega))).1
    refine one i x4 x5 D' o8 (by omega) h2 h3 (fun D2 y4 y5 y8 g1 g2 => ?_)
    rw [seg198_79 (ha0 := ho95), brF hi, seg198_90 (ha0 := ho95), cnX (by have := hM.1; omega)]
    exact ih (i + 1) y4 y5 D2 _ (by omega) g1 g2
theorem pair11 : ∀ (z1 : Int), xinP z1 → xpr (Inv (kAnd (KN2 K2c))) 125 [some (.inr (.inr (some 1))), some (.inl z1)] 198 [some (.inr (.inr (some 95))), some (.inl z1), none, none, none, none, none, none, none] := by
  intro z1 hz D H
  obtain ⟨⟨t, tt, tw⟩, g2, g3, g4, g5, g6, g7⟩ := id H
  obtain ⟨-, hM, hW⟩ := tn_of g2 g3
  obtain ⟨n1, n2⟩ := tnN_of g2 g3
  have bad : ¬ (0 ≤ z1 ∧ z1 ≤ 1) → ∃ r : Int, (some (.inl (-1)) : Option xv) = some (.inl r) ∧ D 0 = D 0 ∧ WP 124 xF1 none 198 0 [some (.inr (.inr (some 95))), some (.inl z1), none, none, none, none, none, none, none] [] D (fun w D2 => w = some (.inl r) ∧ D2 0 = D 0 ∧ Inv (kAnd (KN2 K2c)) D2) := by
    intro hb
    refine ⟨-1, rfl, rfl, ?_⟩
    rw [seg198_0 (ha0 := ho95), m149]
    simp only [Option.toList_some, Option.toList_none, List.cons_append, List.nil_append]
    rw [seg198_6 (ha0 := ho95), if_neg hb, brF (by decide)]
    exact ⟨rfl, rfl, H⟩
  have tb := tn_bits g2 g3
  have eb := g2.2.1
  simp only [Nat.reduceAdd] at eb
  have mk : mskP (trA (D 96)) (D 4 13) := by
    refine ⟨⟨eb.1, eb.2.1⟩, fun i hi => ?_⟩
    rw [tb i hi, tr_at (by decide), decide_eq_decide]
    have w0 := g3.1
    constructor
    · rintro ⟨a, b⟩
      exact ⟨a, by rw [tr_at (by omega)]; exact b⟩
    · rintro ⟨a, b⟩
      refine ⟨a, ?_⟩
      rw [tr_at (by omega)] at b
      exact b
  have pc : pbS 16 (D 4 13) ≤ 5 := pc_5 mk.1 (by rw [bits_A3 g2 g3]; exact g3.2.2.2.1.2.2.2.1)
  have mod : (0 ≤ z1 ∧ z1 ≤ 1) → ∀ (D1 : xD) (v : Int), (∀ a, a < 56 ∨ 67 < a → D1 a = D a) → (∀ j, j ≠ 9 → j ≠ 10 → j ≠ 11 → D1 56 j = D 56 j) → tuP (trA (D 96)) (D1 56 10) (D1 56 11) → v = (if z1 ≠ 0 then D1 56 11 else D1 56 10) →
      ∃ r : Int, (some (.inl v) : Option xv) = some (.inl r) ∧ D1 0 = D 0 ∧ WP 124 xF1 none 198 0 [some (.inr (.inr (some 95))), some (.inl z1), none, none, none, none, none, none, none] [] D1 (fun w D2 => w = some (.inl r) ∧ D2 0 = D 0 ∧ Inv (kAnd (KN2 K2c)) D2) := by
    intro c1 D1 v h1 hj ht hv
    refine ⟨v, rfl, h1 0 (by decide), ?_⟩
    have e96 : D1 96 = D 96 := h1 96 (by decide)
    have w0 := g3.1
    rw [seg198_0 (ha0 := ho95), m149, if_pos c1]
    simp only [Option.toList_some, Option.toList_none, List.cons_append, List.nil_append]
    rw [seg198_6 (ha0 := ho95), brT (by decide), cnB (by decide), seg183_0 (ha0 := ho95)]
    simp only [Nat.reduceAdd]
    refine l183r (fun k k1 k2 => by rw [e96] at k2 ⊢; exact (g3.2.1 k k1 k2).2.2.2.2.2) (D1 96 0).toNat 0 0 (by rw [e96]; omega) (by omega) (by rw [e96]; omega) ⟨by decide, by decide⟩ (fun i hi => ?_) (fun y hy0 hy => ?_)
    · rw [show bI 0 i = false from b_0 i, decide_eq_false (by omega)]
    · simp only [Option.toList_some, Option.toList_none, List.cons_append, List.nil_append]
      have ey : y = D 4 13 := xi_ext hy0 ⟨by omega, by omega⟩ (fun i hi => by rw [hy i hi, tb i hi, e96])
      obtain ⟨n, a1, a2, a3⟩ := it_end mk.1
      rw [seg198_22 (ha0 := ho95), ey]
      have l := l198 (D := D1) (T := trA (D 96)) (x1 := z1) (x2 := D1 96 5) (Q := fun w D2 => w = some (.inl v) ∧ D2 0 = D 0 ∧ Inv (kAnd (KN2 K2c)) D2) hW (fun j j1 j2 j3 j4 => by rw [e96]; exact hM j ⟨j1, j2, j4⟩) (by rw [h1 95 (by decide)]; exact tw.1) (by rw [h1 95 (by decide)]; exact tw.2.1) mk a2 a3 rfl (fun D2 s' v' q1 q2 => ?_) n 0 0 (-1) D1 none (by omega) ⟨fun _ _ _ _ => rfl, fun _ _ => rfl, fun _ _ => rfl⟩ ⟨rfl, rfl⟩
      · exact l
      · obtain ⟨u1, u2⟩ := ht _ n s' v' mk a2 a3 q2
        obtain ⟨i1, i2⟩ := inv_al H (fun a ha => h1 a (by omega)) (.inr ht) (by rw [hj 1 (by decide) (by decide) (by decide), h1 68 (by decide), h1 69 (by decide)]; exact g6.1.1) (by rw [h1 70 (by decide)]; exact g6.1.2.1) (by rw [h1 71 (by decide)]; exact g6.1.2.2.1) (D2 := D2) ⟨fun a a1 a2 => q1.1 a a1 (by omega), q1.2⟩
        exact ⟨by rw [hv, u1, u2], i1, i2⟩
  rw [seg125_0 (ha0 := ho1)]
  by_cases c1 : z1 < 0
  · rw [brT c1, seg125_9 (ha0 := ho1)]
    exact bad (by omega)
  · rw [brF c1]
    by_cases c2 : z1 ≤ 1
    · rw [brT c2]
      simp only [Nat.reduceAdd]
      refine m54 (T := trA (D 96)) hW n1 mk rfl pc g6.1.2.2.2 (fun D1 f1 f2 f3 => ?_)
      simp only [Option.toList_some, Option.toList_none, List.cons_append, List.nil_append]
      rw [seg125_25 (ha0 := ho1)]
      simp only [Nat.reduceAdd]
      by_cases c3 : z1 ≠ 0
      · rw [brT c3, seg125_46 (ha0 := ho1)]
        exact mod (by omega) D1 _ f1 f2 f3 (by rw [if_pos c3])
      · rw [brF c3, seg125_46 (ha0 := ho1)]
        exact mod (by omega) D1 _ f1 f2 f3 (by rw [if_neg c3])
    · rw [brF c2, seg125_9 (ha0 := ho1)]
      exact bad (by omega)
end M98n
