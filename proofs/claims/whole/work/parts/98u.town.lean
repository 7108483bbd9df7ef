/-! texts: both read a text -/
def paF (t : Int → Int) (n : Int) : Nat → (Int → Int) → Int → Int → Int → Int × Int × (Int → Int)
  | 0, A, _, _, _ => (0, -1, A)
  | k + 1, A, h, o, p => if tkK t n p = 0 then (0, -1, A) else if (clF t n A h o p).1 = 0 then paF t n k (clF t n A h o p).2.2.1 (clF t n A h o p).2.2.2.1 (clF t n A h o p).2.2.2.2 (clF t n A h o p).2.1 else ((clF t n A h o p).1, (clF t n A h o p).2.1, A)
/-- nothing told -/
def emA : Int → Int := fun j => if 10 ≤ j ∧ j < 18 then 99 else if 176 ≤ j ∧ j < 184 then -1 else 0
section M98u
variable {n p p0 q i j v w a b m c s h o h' o' f x1 x2 x3 : Int} {k : Nat} {A A' : Int → Int} {t : Int → Int} {R : paR} {D D' D1 D2 : xD} {o1 o2 o3 : Option xv} {Q : Option xv → xD → Prop}
theorem wx_em : WfX emA := by
  have e1 : ∀ j, (j < 10 ∨ (18 ≤ j ∧ j < 176) ∨ 184 ≤ j) → emA j = 0 := fun j hj => by
    unfold emA
    rw [if_neg (by omega), if_neg (by omega)]
  have e0 : emA 0 = 0 := e1 0 (by decide)
  have e11 : emA 1 = 0 := e1 1 (by decide)
  refine ⟨?_, fun s s1 s2 => by omega, fun d d1 d2 => by omega, fun d d1 d2 => e1 _ (by omega), ?_, fun p p1 p2 => ⟨?_, ?_, ?_⟩, fun k k1 k2 => ⟨e1 _ (by omega), e1 _ (by omega)⟩⟩
  · rw [e0, e11, e1 5 (by decide), e1 6 (by decide)]; decide
  · rw [e0, e11, e1 2 (by decide), e1 3 (by decide), e1 7 (by decide)]
    exact ⟨rfl, by decide, rfl, by decide, rfl⟩
  · unfold emA; rw [if_pos (by omega)]; decide
  · rw [e1 _ (by omega)]; decide
  · unfold emA; rw [if_neg (by omega), if_pos (by omega)]
theorem wf_wx (H : WfX A) (h4 : 0 ≤ A 4 ∧ A 4 ≤ 1000) : WfA A := by
  obtain ⟨x0, x1, x2, x3, x4, x5, x6⟩ := H
  have e5 : A 5 = 0 := x0.2.2.2.2.1
  have e6 : A 6 = 0 := x0.2.2.2.2.2
  refine ⟨by omega, x1, x2, ?_, fun p p1 p2 => ?_, fun c c1 c2 => by omega, fun k k1 k2 => ?_, by omega, by omega, h4.1⟩
  · exact ⟨x4.1, x4.2.1, x4.2.2.1, x4.2.2.2.1, x4.2.2.2.2⟩
  · obtain ⟨y1, y2, y3⟩ := x5 p p1 p2
    exact ⟨y1, y2, .inl y3⟩
  · obtain ⟨y1, y2⟩ := x6 k k1 k2
    rw [y1, y2]
    exact ⟨by decide, by decide, fun _ => ⟨rfl, rfl⟩⟩
theorem ts_15 (H : TS D A) : TS (xup D 43 15 v) A := by
  have e : ∀ j, j ≠ 15 → xup D 43 15 v 43 j = D 43 j := fun j hj => up_ne2 hj
  have e2 : ∀ a, a ≠ 43 → xup D 43 15 v a = D a := fun a ha => up_ne ha
  unfold TS at H ⊢
  rw [e 11 (by decide), e 12 (by decide), e 13 (by decide), e 14 (by decide), e2 44 (by decide), e2 45 (by decide), e2 46 (by decide), e2 47 (by decide), e2 48 (by decide), e2 49 (by decide), e2 50 (by decide), e2 51 (by decide), e2 52 (by decide), e2 53 (by decide), e2 54 (by decide)]
  exact H
theorem l58 (hT : txT t n) (hq : ∀ (D' : xD) f q A', (f, q, A') = paF t n k A h o p → (∀ a, (a < 42 ∨ 54 < a) → D' a = D a) → D' 42 9 = f → D' 42 10 = q → (f = 0 → q = -1 ∧ TS D' A' ∧ WfX A' ∧ D' 43 15 = A' 4 ∧ (0 ≤ A' 4 ∧ A' 4 ≤ 300)) → Q (some (.inl f)) D') :
    (n - p < k) → WfX A → (0 ≤ A 4 ∧ A 4 ≤ p) → ∀ (x3 : Int) (D' : xD), (∀ a, (a < 42 ∨ 54 < a) → D' a = D a) → rdI D' t n A h o → clT D' t n p → (0 ≤ p ∧ p ≤ n) → (0 ≤ x3 ∧ x3 ≤ p) → D' 43 15 = A 4 → D' 42 9 = 0 → D' 42 10 = -1 → WP 124 xF1 none 58 72 [some (.inr (.inr (some 42))), some (.inr (.inr (some 2))), some (.inl x2), some (.inl x3)] [] D' Q := by
  induction k generalizing A h o p with
  | zero => intro h1 _ _ x3 D' _ _ _ hp; omega
  | succ k ih =>
    intro hk hX h4 x3 D' fr hr hc hp hx3 h15 h9 h10
    have hb := hT.1
    have b := tk_b (t := t) hp.2
    rw [seg58_72 (ha0 := ho42) (ha1 := show xalen none 124 2 = some 300 from rfl), hc.1]
    by_cases cK : tkK t n p = 0
    · have e : paF t n (k + 1) A h o p = (0, -1, A) := by simp only [paF]; rw [if_pos cK]
      have fin := hq D' 0 (-1) A e.symm fr h9 h10 (fun _ => ⟨rfl, hr.2.2, hX, h15, by omega⟩)
      have last : WP 124 xF1 none 58 117 [some (.inr (.inr (some 42))), some (.inr (.inr (some 2))), some (.inl x2), some (.inl x3)] [] D' Q := by
        rw [seg58_117 (ha0 := ho42) (ha1 := show xalen none 124 2 = some 300 from rfl), h9]
        exact fin
      by_cases c : 300 ≤ x3
      · rw [brT c]; exact last
      · rw [brF c, brT cK]; exact last
    · have s1 := b.2.2.2 cK
      rw [brF (by omega), brF cK]
      obtain ⟨R, hR⟩ : ∃ R, R = clF t n A h o p := ⟨_, rfl⟩
      have ep : paF t n (k + 1) A h o p = if R.1 = 0 then paF t n k R.2.2.1 R.2.2.2.1 R.2.2.2.2 R.2.1 else (R.1, R.2.1, A) := by simp only [paF]; rw [if_neg cK, hR]
      refine m64 hT hX hr hc hp ⟨fun c D2 g1 g2 g3 => ?_, fun c D2 g1 g2 g3 g4 g5 => ?_⟩
      · rw [← hR] at c g2 g3
        rw [if_neg c] at ep
        simp only [Option.toList_some, Option.toList_none, List.cons_append, List.nil_append, Nat.reduceAdd]
        rw [seg58_90 (ha0 := ho42) (ha1 := show xalen none 124 2 = some 300 from rfl), brF (by decide), g2]
        exact hq D2 R.1 R.2.1 A ep.symm (fun a ha => by rw [g1.1 a ha]; exact fr a ha) g2 g3 (fun z => absurd z c)
      · rw [← hR] at c g4 g5
        rw [if_pos c] at ep
        have wx := wx_cl (q := R.2.1) (A' := R.2.2.1) (h' := R.2.2.2.1) (o' := R.2.2.2.2) hX hp.2 (by rw [← hR, ← c])
        have e15 : D2 43 15 = A 4 := by rw [g1.2, h15]
        simp only [Option.toList_some, Option.toList_none, List.cons_append, List.nil_append, Nat.reduceAdd]
        rw [seg58_90 (ha0 := ho42) (ha1 := show xalen none 124 2 = some 300 from rfl), brT (by decide)]
        simp only [Option.toList_some, Option.toList_none, List.cons_append, List.nil_append, Nat.reduceAdd]
        rw [e15, cnX (by omega), cnX (by omega)]
        refine ih (A := R.2.2.1) (h := R.2.2.2.1) (o := R.2.2.2.2) (p := R.2.1) (fun D3 f q A' e1 e2 e3 e4 e5 => hq D3 f q A' (by rw [ep]; exact e1) e2 e3 e4 e5) (by omega) wx.1 (by omega) (x3 + 1) _ (fun a ha => by rw [up_ne (by omega), g1.1 a ha]; exact fr a ha) ⟨⟨by rw [up_ne (by decide)]; exact g4.1.1, fun j j1 j2 => by rw [up_ne (by decide)]; exact g4.1.2 j j1 j2⟩, ⟨by rw [up_ne (by decide)]; exact g4.2.1.1, by rw [up_ne (by decide)]; exact g4.2.1.2⟩, ts_15 g4.2.2⟩ ⟨by rw [up_ne (by decide)]; exact g5.1, by rw [up_ne (by decide)]; exact g5.2.1, by rw [up_ne (by decide)]; exact g5.2.2.1, fun z => by rw [up_ne (by decide)]; exact g5.2.2.2 z⟩ (by omega) (by omega) (by rw [up_eq]; omega) (by rw [up_ne (by decide), g2, h9]) (by rw [up_ne (by decide), g3, h10])
/-- the class reads a text -/
theorem m58 (hT : txT t n) (ht : ∀ j, 0 ≤ j → j < n → D 2 j = t j) (hk : n < k) (hq : ∀ (D' : xD) f q A', (f, q, A') = paF t n k emA 0 0 0 → (∀ a, (a < 42 ∨ 55 < a) → D' a = D a) → D' 42 10 = q → (f = 0 → q = -1 ∧ TS D' A' ∧ WfX A' ∧ D' 43 15 = A' 4 ∧ (0 ≤ A' 4 ∧ A' 4 ≤ 300)) → Q (some (.inl f)) D') :
    WP 124 xF1 none 58 0 [some (.inr (.inr (some 42))), some (.inr (.inr (some 2))), some (.inl n), o3] [] D Q := by
  have hb := hT.1
  rw [seg58_0 (ha0 := ho42) (ha1 := show xalen none 124 2 = some 300 from rfl)]
  refine ⟨by omega, by omega, ?_⟩
  simp only [Option.toList_some, Option.toList_none, List.cons_append, List.nil_append, Nat.reduceAdd]
  rw [show max 0 (min (min n ((300 : Nat) : Int)) 300) = n by omega]
  obtain ⟨D1, hD1⟩ : ∃ D1, D1 = xcpy (xup D 42 2 n) 2 55 0 0 n := ⟨_, rfl⟩
  rw [← hD1]
  have f1 : ∀ a, a ≠ 42 → a ≠ 55 → D1 a = D a := fun a a1 a2 => by rw [hD1, cpy_ne a2, up_ne a1]
  have f2 : D1 42 2 = n := by rw [hD1, cpy_ne (by decide), up_eq]
  have f3 : ∀ j, 0 ≤ j → j < n → D1 55 j = t j := fun j j1 j2 => by rw [hD1, cpy_in ⟨j1, j2⟩, up_ne (by decide)]; exact ht j j1 j2
  clear hD1
  rw [seg92_0 (ha0 := ho43)]
  simp only [Option.toList_some, Option.toList_none, List.cons_append, List.nil_append, Nat.reduceAdd]
  rw [m240 (L := 8) rfl (by decide)]
  simp only [Option.toList_some, Option.toList_none, List.cons_append, List.nil_append, Nat.reduceAdd]
  rw [seg92_9 (ha0 := ho43)]
  simp only [Option.toList_some, Option.toList_none, List.cons_append, List.nil_append, Nat.reduceAdd]
  rw [m240 (L := 8) rfl (by decide)]
  simp only [Option.toList_some, Option.toList_none, List.cons_append, List.nil_append, Nat.reduceAdd]
  rw [seg92_17 (ha0 := ho43)]
  simp only [Option.toList_some, Option.toList_none, List.cons_append, List.nil_append, Nat.reduceAdd]
  obtain ⟨D2, hD2⟩ : ∃ D2, D2 = xup (xup (xup (xup (xup (xfil (xfil D1 50 0 ((8 : Nat) : Int) 99) 51 0 ((8 : Nat) : Int) 0) 43 11 0) 43 12 0) 43 13 0) 43 14 0) 43 15 0 := ⟨_, rfl⟩
  rw [← hD2]
  have g1 : ∀ a, a ≠ 43 → a ≠ 50 → a ≠ 51 → D2 a = D1 a := fun a a1 a2 a3 => by rw [hD2, up_ne a1, up_ne a1, up_ne a1, up_ne a1, up_ne a1, fil_ne a3, fil_ne a2]
  have g50 : ∀ j, 0 ≤ j → j < 8 → D2 50 j = 99 := fun j j1 j2 => by rw [hD2, up_ne (by decide), up_ne (by decide), up_ne (by decide), up_ne (by decide), up_ne (by decide), fil_ne (by decide), fil_in ⟨j1, by omega⟩]
  have g51 : ∀ j, 0 ≤ j → j < 8 → D2 51 j = 0 := fun j j1 j2 => by rw [hD2, up_ne (by decide), up_ne (by decide), up_ne (by decide), up_ne (by decide), up_ne (by decide), fil_in ⟨j1, by omega⟩]
  have g43 : D2 43 11 = 0 ∧ D2 43 12 = 0 ∧ D2 43 13 = 0 ∧ D2 43 14 = 0 ∧ D2 43 15 = 0 := by
    rw [hD2]
    refine ⟨?_, ?_, ?_, ?_, ?_⟩ <;> simp [xup]
  clear hD2
  have e0 : emA 0 = 0 := by decide
  have e1 : emA 1 = 0 := by decide
  have ts : TS D2 emA := by
    refine ⟨⟨by rw [g43.1, e0], by rw [g43.2.1, e1]⟩, ⟨by rw [g43.2.2.1]; decide, fun k hk => ?_⟩, fun k hk => ?_, fun s s1 s2 => by omega, fun p p1 p2 => ⟨?_, ?_⟩, fun d d1 d2 => by omega⟩
    · rw [g43.2.2.1, show bI 0 k = false from b_0 k, decide_eq_false (by omega)]
    · rw [g43.2.2.2.1, show bI 0 k = false from b_0 k, decide_eq_false (by omega)]
    · rw [g50 p p1 p2]; unfold emA; rw [if_pos (by omega)]
    · rw [g51 p p1 p2]; unfold emA; rw [if_neg (by omega), if_neg (by omega)]
  rw [seg58_41 (ha0 := ho42) (ha1 := show xalen none 124 2 = some 300 from rfl)]
  obtain ⟨D3, hD3⟩ : ∃ D3, D3 = xup (xup (xup (xup (xup D2 42 7 0) 42 8 0) 42 9 0) 42 10 (-1)) 42 5 0 := ⟨_, rfl⟩
  rw [← hD3]
  have k1 : ∀ a, a ≠ 42 → D3 a = D2 a := fun a ha => by rw [hD3, up_ne ha, up_ne ha, up_ne ha, up_ne ha, up_ne ha]
  have k2 : D3 42 2 = n ∧ D3 42 7 = 0 ∧ D3 42 8 = 0 ∧ D3 42 9 = 0 ∧ D3 42 10 = -1 ∧ D3 42 5 = 0 := by
    have y : D2 42 2 = n := by rw [g1 42 (by decide) (by decide) (by decide)]; exact f2
    rw [hD3]
    refine ⟨?_, ?_, ?_, ?_, ?_, ?_⟩ <;> simp [xup] <;> exact y
  clear hD3
  have l3 : lxD D3 t n := ⟨k2.1, fun j j1 j2 => by rw [k1 55 (by decide), g1 55 (by decide) (by decide) (by decide)]; exact f3 j j1 j2⟩
  refine m59 hT l3 k2.2.2.2.2.2 (by omega) (fun D4 r1 r2 r3 => ?_)
  simp only [Option.toList_some, Option.toList_none, List.cons_append, List.nil_append, Nat.reduceAdd]
  rw [seg58_70 (ha0 := ho42) (ha1 := show xalen none 124 2 = some 300 from rfl)]
  have F4 : f42 D4 D3 := ⟨r1, r2⟩
  refine l58 (D := D4) (k := k) (A := emA) (h := 0) (o := 0) (p := 0) hT (fun D5 f q A' s1 s2 s3 s4 s5 => hq D5 f q A' s1 (fun a ha => by rw [s2 a (by omega), r1 a (by omega), k1 a (by omega), g1 a (by omega) (by omega) (by omega), f1 a (by omega) (by omega)]) s4 s5) (by omega) wx_em (by decide) 0 D4 (fun _ _ => rfl) ⟨lx_f l3 F4, ⟨?_, ?_⟩, ts_fr ts (fun a a1 a2 => by rw [r1 a (by omega), k1 a (by omega)])⟩ r3 (by omega) (by omega) ?_ ?_ ?_
  · rw [r2 7 (by decide) (by decide) (by decide) (by decide)]; exact k2.2.1
  · rw [r2 8 (by decide) (by decide) (by decide) (by decide)]; exact k2.2.2.1
  · rw [r1 43 (by decide), k1 43 (by decide), g43.2.2.2.2]; decide
  · rw [r2 9 (by decide) (by decide) (by decide) (by decide)]; exact k2.2.2.2.1
  · rw [r2 10 (by decide) (by decide) (by decide) (by decide)]; exact k2.2.2.2.2.1
/-- the reference's empty array -/
theorem l147a (hq : ∀ D' : xD, (∀ a, a ≠ 98 → D' a = D a) → (∀ j, 0 ≤ j → j < 640 → D' 98 j = 0) → WP 124 xF1 none 147 2 [some (.inr (.inr (some 98))), some (.inl 640)] [] D' Q) :
    ∀ (k : Nat) (x1 : Int) (D' : xD), x1 + k = 640 → 0 ≤ x1 → (∀ a, a ≠ 98 → D' a = D a) → (∀ j, 0 ≤ j → j < x1 → D' 98 j = 0) → WP 124 xF1 none 147 2 [some (.inr (.inr (some 98))), some (.inl x1)] [] D' Q := by
  intro k
  induction k with
  | zero =>
    intro x1 D' h1 h2 h3 h4
    have e : x1 = 640 := by omega
    subst e
    exact hq D' h3 h4
  | succ k ih =>
    intro x1 D' h1 h2 h3 h4
    rw [seg147_2 (ha0 := hl98), brF (by omega), cnB (by omega), cnX (by omega)]
    refine ih (x1 + 1) _ (by omega) (by omega) (fun a ha => by rw [up_ne ha]; exact h3 a ha) (fun j j1 j2 => ?_)
    rw [up_at]
    by_cases c : j = x1
    · rw [if_pos c]
    · rw [if_neg c]; exact h4 j j1 (by omega)
theorem l147b (hq : ∀ D' : xD, (∀ a, a ≠ 98 → D' a = D a) → (∀ j, 0 ≤ j → j < 640 → D' 98 j = emA j) → Q none D') :
    ∀ (k : Nat) (x1 : Int) (D' : xD), x1 + k = 8 → 0 ≤ x1 → (∀ a, a ≠ 98 → D' a = D a) → (∀ j, 0 ≤ j → j < 640 → D' 98 j = if 10 ≤ j ∧ j < 10 + x1 then 99 else if 176 ≤ j ∧ j < 176 + x1 then -1 else 0) → WP 124 xF1 none 147 21 [some (.inr (.inr (some 98))), some (.inl x1)] [] D' Q := by
  intro k
  induction k with
  | zero =>
    intro x1 D' h1 h2 h3 h4
    rw [seg147_21 (ha0 := hl98), brT (by omega)]
    refine hq D' h3 (fun j j1 j2 => ?_)
    rw [h4 j j1 j2, show (10 : Int) + x1 = 18 by omega, show (176 : Int) + x1 = 184 by omega]
    rfl
  | succ k ih =>
    intro x1 D' h1 h2 h3 h4
    rw [seg147_21 (ha0 := hl98), brF (by omega), cnX (by omega), cnB (by omega), cnX (by omega), cnB (by omega), cnX (by omega)]
    refine ih (x1 + 1) _ (by omega) (by omega) (fun a ha => by rw [up_ne ha, up_ne ha]; exact h3 a ha) (fun j j1 j2 => ?_)
    rw [up_at, up_at, h4 j j1 j2]
    by_cases c : j = 176 + x1
    · rw [if_pos c, if_neg (by omega), if_pos (by omega)]
    · rw [if_neg c]
      by_cases c2 : j = 10 + x1
      · rw [if_pos c2, if_pos (by omega)]
      · rw [if_neg c2]
        by_cases c3 : 10 ≤ j ∧ j < 10 + x1
        · rw [if_pos c3, if_pos (by omega)]
        · rw [if_neg c3]
          by_cases c4 : 176 ≤ j ∧ j < 176 + x1
          · rw [if_pos c4, if_neg (by omega), if_pos (by omega)]
          · rw [if_neg c4, if_neg (by omega), if_neg (by omega)]
theorem l171 (hT : txT t n) (hq : ∀ (D' : xD) f q A', (f, q, A') = paF t n k A h o p → fmM D' D → (f ≠ 0 → D' 95 8 = q) → (f = 0 → ∀ j, 0 ≤ j → j < 640 → D' 98 j = A' j) → Q (some (.inl f)) D') :
    (n - p < k) → WfX A → (0 ≤ A 4 ∧ A 4 ≤ p) → ∀ (o1 : Option xv) (D' : xD), fmM D' D → mdI D' t n A h o → mtT D' t n p → (0 ≤ p ∧ p ≤ n) → WP 124 xF1 none 171 31 [some (.inr (.inr (some 95))), o1] [] D' Q := by
  induction k generalizing A h o p with
  | zero => intro h1 _ _ o1 D' _ _ _ hp; omega
  | succ k ih =>
    intro hk hX h4 o1 D' fr hd hm hp
    have hb := hT.1
    rw [seg171_31 (ha0 := ho95)]
    by_cases cK : tkK t n p = 0
    · have e : paF t n (k + 1) A h o p = (0, -1, A) := by simp only [paF]; rw [if_pos cK]
      rw [brT ((mt_0 hm).mpr cK)]
      exact hq D' 0 (-1) A e.symm fr (fun z => absurd rfl z) (fun _ => hd.2.2.2)
    · rw [brF (fun z => cK ((mt_0 hm).mp z))]
      obtain ⟨R, hR⟩ : ∃ R, R = clF t n A h o p := ⟨_, rfl⟩
      have ep : paF t n (k + 1) A h o p = if R.1 = 0 then paF t n k R.2.2.1 R.2.2.2.1 R.2.2.2.2 R.2.1 else (R.1, R.2.1, A) := by simp only [paF]; rw [if_neg cK, hR]
      refine m170 hT hX (by omega) hd hm hp ⟨fun c D2 g1 g2 => ?_, fun c D2 g1 g2 g3 => ?_⟩
      · rw [← hR] at c g2 ⊢
        rw [if_neg c] at ep
        simp only [Option.toList_some, Option.toList_none, List.cons_append, List.nil_append, Nat.reduceAdd]
        rw [seg171_42 (ha0 := ho95), brF c]
        exact hq D2 R.1 R.2.1 A ep.symm (fm_tr g1 fr) (fun _ => g2) (fun z => absurd z c)
      · rw [← hR] at c g2 g3
        rw [if_pos c] at ep
        have wx := wx_cl (q := R.2.1) (A' := R.2.2.1) (h' := R.2.2.2.1) (o' := R.2.2.2.2) hX hp.2 (by rw [← hR, ← c])
        simp only [Option.toList_some, Option.toList_none, List.cons_append, List.nil_append, Nat.reduceAdd]
        rw [seg171_42 (ha0 := ho95), brT rfl]
        exact ih (A := R.2.2.1) (h := R.2.2.2.1) (o := R.2.2.2.2) (p := R.2.1) (fun D3 f q A' e1 e2 e3 e4 => hq D3 f q A' (by rw [ep]; exact e1) e2 e3 e4) (by omega) wx.1 (by omega) _ D2 (fm_tr g1 fr) g2 g3 (by omega)
/-- the reference reads a text -/
theorem m171 (hT : txT t n) (hl : lmD D t n) (hk : n < k) (hq : ∀ (D' : xD) f q A', (f, q, A') = paF t n k emA 0 0 0 → fmM D' D → (f ≠ 0 → D' 95 8 = q) → (f = 0 → ∀ j, 0 ≤ j → j < 640 → D' 98 j = A' j) → Q (some (.inl f)) D') :
    WP 124 xF1 none 171 0 [some (.inr (.inr (some 95))), o1] [] D Q := by
  have hb := hT.1
  rw [seg171_0 (ha0 := ho95)]
  simp only [Option.toList_some, Option.toList_none, List.cons_append, List.nil_append, Nat.reduceAdd]
  rw [seg147_0 (ha0 := hl98)]
  refine l147a (fun D1 f1 f2 => ?_) 640 0 D (by omega) (by omega) (fun _ _ => rfl) (fun j j1 j2 => by omega)
  rw [seg147_2 (ha0 := hl98), brT (by omega)]
  refine l147b (D := D1) (fun D2 g1 g2 => ?_) 8 0 D1 (by omega) (by omega) (fun _ _ => rfl) (fun j j1 j2 => by rw [f2 j j1 j2, if_neg (by omega), if_neg (by omega)])
  simp only [Option.toList_some, Option.toList_none, List.cons_append, List.nil_append, Nat.reduceAdd]
  rw [seg171_7 (ha0 := ho95)]
  obtain ⟨D3, hD3⟩ : ∃ D3, D3 = xup (xup (xup (xup D2 95 12 0) 95 13 0) 95 14 0) 95 7 0 := ⟨_, rfl⟩
  rw [← hD3]
  have k1 : ∀ a, a ≠ 95 → D3 a = D2 a := fun a ha => by rw [hD3, up_ne ha, up_ne ha, up_ne ha, up_ne ha]
  have k2 : ∀ j, (j < 7 ∨ 14 < j) → D3 95 j = D2 95 j := fun j hj => by rw [hD3, up_ne2 (by omega), up_ne2 (by omega), up_ne2 (by omega), up_ne2 (by omega)]
  have k3 : D3 95 12 = 0 ∧ D3 95 13 = 0 ∧ D3 95 14 = 0 ∧ D3 95 7 = 0 := by
    rw [hD3]
    refine ⟨?_, ?_, ?_, ?_⟩ <;> simp [xup]
  clear hD3
  have F3 : fmM D3 D := ⟨fun a a1 a2 => by rw [k1 a a1, g1 a a2, f1 a a2], fun j hj => by rw [k2 j hj, g1 95 (by decide), f1 95 (by decide)]⟩
  refine m157 hT (fm_lm F3 hl) k3.2.2.2 (by omega) (fun D4 r1 r2 r3 => ?_)
  simp only [Option.toList_some, Option.toList_none, List.cons_append, List.nil_append, Nat.reduceAdd]
  have F4 : fmM D4 D := fm_tr (fm_7 r1 r2) F3
  refine l171 (D := D) (k := k) (A := emA) (h := 0) (o := 0) (p := 0) hT hq (by omega) wx_em (by decide) _ D4 F4 ⟨fm_lm F4 hl, ⟨?_, ?_⟩, fun k hk => ?_, fun j j1 j2 => ?_⟩ r3 (by omega)
  · rw [r2 12 (by decide)]; exact k3.1
  · rw [r2 14 (by decide)]; exact k3.2.2.1
  · rw [r2 13 (by decide), k3.2.1, show bI 0 k = false from b_0 k]
    have e : emA (18 + (k : Int)) = 0 := by unfold emA; rw [if_neg (by omega), if_neg (by omega)]
    rw [e]; rfl
  · rw [r1 98 (by decide), k1 98 (by decide)]; exact g2 j j1 j2
end M98u
/-! both take a text -/
section M98v
variable {K : (Int → Int) → (Int → Int) → (Int → Int) → (Int → Int) → (Int → Int) → (Int → Int) → (Int → Int) → (Int → Int) → Prop}
variable {A : Int → Int} {D D' D1 D2 : xD} {Q : Option xv → xD → Prop}
/-- the class starts with a town -/
theorem m76 (hq : ∀ D' : xD, (∀ a, (a < 3 ∨ 21 < a) → D' a = D a) → TC D 43 D' 4 → D' 3 1 = 0 → D' 3 3 = 0 → (∀ j, 0 ≤ j → j < 8 → D' 16 j = -1) → (∀ j, 0 ≤ j → j < 208 → D' 20 j = 0 ∧ D' 21 j = 0) → Q none D') : WP 124 xF1 none 76 0 [some (.inr (.inr (some 3))), some (.inr (.inr (some 43)))] [] D Q := by
  rw [seg76_0 (ha0 := ho3) (ha1 := ho43)]
  simp only [Option.toList_some, Option.toList_none, List.cons_append, List.nil_append, Nat.reduceAdd]
  refine m93 ho4 ho43 (by omega) (fun D1 f1 f2 => ?_)
  simp only [Option.toList_some, Option.toList_none, List.cons_append, List.nil_append, Nat.reduceAdd]
  rw [seg76_8 (ha0 := ho3) (ha1 := ho43)]
  simp only [Option.toList_some, Option.toList_none, List.cons_append, List.nil_append, Nat.reduceAdd]
  rw [m240 (L := 8) rfl (by decide)]
  simp only [Option.toList_some, Option.toList_none, List.cons_append, List.nil_append, Nat.reduceAdd]
  rw [seg76_21 (ha0 := ho3) (ha1 := ho43)]
  simp only [Option.toList_some, Option.toList_none, List.cons_append, List.nil_append, Nat.reduceAdd]
  rw [m240 (L := 208) rfl (by decide)]
  simp only [Option.toList_some, Option.toList_none, List.cons_append, List.nil_append, Nat.reduceAdd]
  rw [seg76_34 (ha0 := ho3) (ha1 := ho43)]
  simp only [Option.toList_some, Option.toList_none, List.cons_append, List.nil_append, Nat.reduceAdd]
  rw [m240 (L := 208) rfl (by decide)]
  simp only [Option.toList_some, Option.toList_none, List.cons_append, List.nil_append, Nat.reduceAdd]
  rw [seg76_42 (ha0 := ho3) (ha1 := ho43)]
  obtain ⟨D2, hD2⟩ : ∃ D2, D2 = xfil (xfil (xup (xfil (xup D1 3 1 0) 16 0 ((8 : Nat) : Int) (-1)) 3 3 0) 20 0 ((208 : Nat) : Int) 0) 21 0 ((208 : Nat) : Int) 0 := ⟨_, rfl⟩
  rw [← hD2]
  have g1 : ∀ a, a ≠ 3 → a ≠ 16 → a ≠ 20 → a ≠ 21 → D2 a = D1 a := fun a a1 a2 a3 a4 => by rw [hD2, fil_ne a4, fil_ne a3, up_ne a1, fil_ne a2, up_ne a1]
  refine hq D2 (fun a ha => by rw [g1 a (by omega) (by omega) (by omega) (by omega), f1 a (by omega)]) ?_ ?_ ?_ (fun j j1 j2 => ?_) (fun j j1 j2 => ⟨?_, ?_⟩)
  · unfold TC at f2 ⊢
    simp only [Nat.reduceAdd] at f2 ⊢
    rw [g1 4 (by decide) (by decide) (by decide) (by decide), g1 5 (by decide) (by decide) (by decide) (by decide), g1 6 (by decide) (by decide) (by decide) (by decide), g1 7 (by decide) (by decide) (by decide) (by decide), g1 8 (by decide) (by decide) (by decide) (by decide), g1 9 (by decide) (by decide) (by decide) (by decide), g1 10 (by decide) (by decide) (by decide) (by decide), g1 11 (by decide) (by decide) (by decide) (by decide), g1 12 (by decide) (by decide) (by decide) (by decide), g1 13 (by decide) (by decide) (by decide) (by decide), g1 14 (by decide) (by decide) (by decide) (by decide), g1 15 (by decide) (by decide) (by decide) (by decide)]
    exact f2
  · rw [hD2, fil_ne (by decide), fil_ne (by decide), up_ne2 (by decide), fil_ne (by decide), up_eq]
  · rw [hD2, fil_ne (by decide), fil_ne (by decide), up_eq]
  · rw [hD2, fil_ne (by decide), fil_ne (by decide), up_ne (by decide), fil_in ⟨j1, by omega⟩]
  · rw [hD2, fil_ne (by decide), fil_in ⟨j1, by omega⟩]
  · rw [hD2, fil_in ⟨j1, by omega⟩]
theorem is_ts (hT : TS D A) (h15 : D 43 15 = A 4) (hX : WfX A) (hC : TC D 43 D' 4) (h1 : D' 3 1 = 0) (h3 : D' 3 3 = 0) (hs : ∀ j, 0 ≤ j → j < 8 → D' 16 j = -1) (hp : ∀ j, 0 ≤ j → j < 208 → D' 20 j = 0 ∧ D' 21 j = 0) : IS D' 3 A := by
  obtain ⟨t1, t2, t3, t4, t5, t6⟩ := hT
  obtain ⟨c1, c2, c3, c4⟩ := hC
  have x0 := hX.1
  unfold IS
  simp only [Nat.reduceAdd] at c1 c2 c3 c4 ⊢
  refine ⟨⟨?_, ?_, ?_, ?_, ?_⟩, ⟨?_, ?_, fun k k1 k2 => ?_⟩, fun d d1 d2 => ?_, fun k k1 k2 => ?_, fun p p1 p2 => ?_, fun d d1 d2 => ?_, fun c c1 c2 => by omega, fun k k1 k2 => ?_⟩
  · rw [c1.1]; exact t1.1
  · rw [c1.2.1]; exact t1.2
  · rw [c1.2.2.2.2]; exact h15
  · rw [h1, x0.2.2.2.2.1]
  · rw [h3, x0.2.2.2.2.2]
  · rw [c1.2.2.1]; exact t2.1.1
  · rw [c1.2.2.1]; exact t2.1.2
  · rw [c1.2.2.1]
    obtain ⟨m, rfl⟩ : ∃ m : Nat, k = m := ⟨k.toNat, by omega⟩
    rw [bit_eq _ m (by omega), t2.2 m (by omega)]
    by_cases c : (m : Int) < A 0
    · rw [if_pos c]
      rcases (hX.2.1 m (by omega) c).2.2.2.2.2 with e | e
      · rw [e, decide_eq_false (by omega), if_neg (by decide)]
      · rw [e, decide_eq_true ⟨c, rfl⟩, if_pos rfl]
    · rw [if_neg c, decide_eq_false (by omega), if_neg (by decide)]
  · rw [c1.2.2.2.1]
    obtain ⟨m, rfl⟩ : ∃ m : Nat, d = m := ⟨d.toNat, by omega⟩
    rw [bit_eq _ m (by omega), t3 m (by omega)]
    rcases (hX.2.2.1 m (by omega) d2).2.2.2 with e | e
    · rw [e, decide_eq_false (by omega), if_neg (by decide)]
    · rw [e, decide_eq_true ⟨d2, rfl⟩, if_pos rfl]
  · obtain ⟨y1, y2, y3, y4, y5, y6⟩ := t4 k k1 k2
    obtain ⟨z1, z2, z3, z4, z5, z6⟩ := c2 k k1 (by omega)
    rw [z1, z2, z3, z4, z5, z6]
    exact ⟨y1, y2, y3, y4, y5, y6⟩
  · obtain ⟨y1, y2⟩ := t5 p p1 p2
    obtain ⟨z1, z2⟩ := c3 p p1 p2
    rw [z1, z2, hs p p1 p2, (hX.2.2.2.2.2.1 p p1 p2).2.2]
    exact ⟨y1, y2, rfl⟩
  · obtain ⟨y1, y2, y3⟩ := t6 d d1 d2
    obtain ⟨z1, z2, z3⟩ := c4 d d1 (by omega)
    rw [z1, z2, z3]
    exact ⟨y1, y2, y3⟩
  · obtain ⟨y1, y2⟩ := hX.2.2.2.2.2.2 k k1 k2
    obtain ⟨z1, z2⟩ := hp k k1 k2
    rw [z1, z2, y1, y2]
    exact ⟨rfl, rfl⟩
theorem pair2 (hKF : KF K) : xpr (Inv K) 115 [some (.inr (.inr (some 1)))] 172 [some (.inr (.inr (some 95)))] := by
  intro D H
  obtain ⟨⟨⟨t1, t2, t3, t4, t5⟩, tt, tw⟩, g2, g3, g4, g5, g6, g7⟩ := id H
  have hT : txT (D 2) (D 1 1) := ⟨⟨t2, t3⟩, fun j j1 j2 => by have := tt j j1 (by omega); omega⟩
  rw [seg115_0 (ha0 := ho1)]
  simp only [Option.toList_some, Option.toList_none, List.cons_append, List.nil_append, Nat.reduceAdd]
  refine m58 (k := 301) hT (fun j j1 j2 => rfl) (by omega) (fun D1 f q A e1 f1 f2 f3 => ?_)
  simp only [Option.toList_some, Option.toList_none, List.cons_append, List.nil_append, Nat.reduceAdd]
  rw [seg115_16 (ha0 := ho1) (hb1 := ho1)]
  simp only [Nat.reduceAdd, up_eq]
  rw [up_ne (show (42 : Nat) ≠ 1 by decide), f2]
  -- the reference, from what the class leaves
  have mod : ∀ (D3 : xD) (r : Int), (∀ a, (a < 1 ∨ (21 < a ∧ a < 42) ∨ 91 < a ∨ (72 ≤ a ∧ a < 91)) → D3 a = D a) → D3 2 = D 2 → D3 1 1 = 0 → D3 1 2 = f → D3 1 3 = q → (f ≠ 0 → r = -1 ∧ ∀ a, a ≠ 1 → (a < 42 ∨ 55 < a) → D3 a = D a) → (f = 0 → r = A 0 ∧ IS D3 3 A ∧ WfA A ∧ ∀ T c2 c3 c7, K T (D3 56) c2 c3 (D3 70) (D3 71) (D3 91) c7) →
      ∃ r' : Int, (some (.inl r) : Option xv) = some (.inl r') ∧ D3 0 = D 0 ∧ WP 124 xF1 none 172 0 [some (.inr (.inr (some 95)))] [] D3 (fun w D2 => w = some (.inl r') ∧ D2 0 = D 0 ∧ Inv K D2) := by
    intro D3 r h1 h2 h11 h12 h13 hf hs
    refine ⟨r, rfl, h1 0 (by omega), ?_⟩
    have e95 : D3 95 = D 95 := h1 95 (by omega)
    have e99 : D3 99 = D 99 := h1 99 (by omega)
    rw [seg172_0 (ha0 := ho95)]
    refine m171 (k := 301) (t := D 2) (n := D 1 1) hT ⟨by rw [e95]; exact t1.symm, fun j j1 j2 => by rw [e99]; exact (tt j j1 (by omega)).1.symm⟩ (by omega) (fun D4 f' q' A' e2 k1 k2 k3 => ?_)
    simp only [Option.toList_some, Option.toList_none, List.cons_append, List.nil_append, Nat.reduceAdd]
    rw [← e1] at e2
    simp only [Prod.mk.injEq] at e2
    obtain ⟨ef, eq, eA⟩ := e2
    subst ef
    subst eq
    subst eA
    have itp : ∀ D5 : xD, (∀ a, a ≠ 95 → a ≠ 96 → a ≠ 98 → D5 a = D3 a) → D5 95 4 = 0 → D5 95 5 = f' → D5 95 6 = q' → (∀ j, 14 < j → D5 95 j = D 95 j) → IT (D5 1) (D5 2) (D5 95) (D5 99) := fun D5 y1 y2 y3 y4 y5 => by
      rw [y1 1 (by decide) (by decide) (by decide), y1 2 (by decide) (by decide) (by decide), y1 99 (by decide) (by decide) (by decide), h2, e99]
      refine ⟨⟨by rw [h11, y2], by omega, by omega, by rw [h12, y3], by rw [h13, y4]⟩, tt, ?_, ?_, ?_⟩
      · rw [y5 22 (by decide)]; exact tw.1
      · rw [y5 23 (by decide)]; exact tw.2.1
      · rw [y5 44 (by decide)]; exact tw.2.2
    rw [seg172_5 (ha0 := ho95) (hb1 := ho95)]
    simp only [up_eq]
    by_cases c : f' = 0
    · obtain ⟨s1, s2, s3, s4⟩ := hs c
      have q1 : q' = -1 := (f3 c).1
      rw [brF (fun z => z c), seg172_24 (ha0 := ho95) (hb1 := ho95)]
      rw [up_ne2 (show (5 : Int) ≠ 6 by decide), up_eq, brT c]
      simp only [Option.toList_some, Option.toList_none, List.cons_append, List.nil_append, Nat.reduceAdd]
      rw [m148 hl98 hl96 (by decide)]
      simp only [Option.toList_some, Option.toList_none, List.cons_append, List.nil_append, Nat.reduceAdd]
      rw [seg172_52 (ha0 := ho95), cnB (by decide)]
      simp only [Option.toList_some, Option.toList_none, List.cons_append, List.nil_append, Nat.reduceAdd]
      obtain ⟨D5, hD5⟩ : ∃ D5, D5 = xcpy (xup (xup (xup D4 95 5 f') 95 6 (-1)) 95 4 0) 98 96 0 0 640 := ⟨_, rfl⟩
      rw [← hD5]
      have y0 : ∀ a, a ≠ 95 → a ≠ 96 → D5 a = D4 a := fun a a1 a2 => by rw [hD5, cpy_ne a2, up_ne a1, up_ne a1, up_ne a1]
      have y96 : ∀ j, 0 ≤ j ∧ j < 640 → D5 96 j = A' j := fun j hj => by rw [hD5, cpy_in hj, up_ne (by decide), up_ne (by decide), up_ne (by decide)]; exact k3 c j hj.1 hj.2
      have y95 : D5 95 4 = 0 ∧ D5 95 5 = f' ∧ D5 95 6 = -1 ∧ ∀ j, 14 < j → D5 95 j = D4 95 j := by
        rw [hD5, cpy_ne (by decide)]
        refine ⟨up_eq, ?_, ?_, fun j hj => ?_⟩
        · rw [up_ne2 (by decide), up_ne2 (by decide), up_eq]
        · rw [up_ne2 (by decide), up_eq]
        · rw [up_ne2 (by omega), up_ne2 (by omega), up_ne2 (by omega)]
      clear hD5
      have y1 : ∀ a, a ≠ 95 → a ≠ 96 → a ≠ 98 → D5 a = D3 a := fun a a1 a2 a3 => by rw [y0 a a1 a2, k1.1 a a1 a3]
      refine ⟨by rw [y96 0 (by decide), s1], by rw [y1 0 (by decide) (by decide) (by decide)]; exact h1 0 (by omega), itp D5 y1 y95.1 y95.2.1 (by rw [y95.2.2.1, q1]) (fun j hj => by rw [y95.2.2.2 j hj, k1.2 j (by omega), e95]), ?_, Wf_cgA s3 y96, ?_, ?_, ?_, ?_⟩
      · exact IS_cgA (IS_congr (fun a a1 a2 => y1 a (by omega) (by omega) (by omega)) s2) (by have := s3.1; omega) y96
      · rw [y1 97 (by decide) (by decide) (by decide), h1 97 (by omega)]
        exact IS_congr (fun a a1 a2 => by rw [y1 a (by omega) (by omega) (by omega), h1 a (by omega)]) g4
      · rw [y1 97 (by decide) (by decide) (by decide), h1 97 (by omega)]; exact g5
      · rw [y1 56 (by decide) (by decide) (by decide), y1 70 (by decide) (by decide) (by decide), y1 71 (by decide) (by decide) (by decide), y1 91 (by decide) (by decide) (by decide)]
        exact s4 _ _ _ _
      · rw [y1 85 (by decide) (by decide) (by decide), h1 85 (by omega)]; exact g7
    · obtain ⟨s1, s2⟩ := hf c
      rw [brT c, seg172_24 (ha0 := ho95) (hb1 := ho95), up_ne2 (show (8 : Int) ≠ 5 by decide), k2 c]
      rw [up_ne2 (show (5 : Int) ≠ 6 by decide), up_eq, brF c]
      obtain ⟨D5, hD5⟩ : ∃ D5, D5 = xup (xup (xup D4 95 5 f') 95 6 q') 95 4 0 := ⟨_, rfl⟩
      rw [← hD5]
      have y0 : ∀ a, a ≠ 95 → D5 a = D4 a := fun a a1 => by rw [hD5, up_ne a1, up_ne a1, up_ne a1]
      have y95 : D5 95 4 = 0 ∧ D5 95 5 = f' ∧ D5 95 6 = q' ∧ ∀ j, 14 < j → D5 95 j = D4 95 j := by
        rw [hD5]
        refine ⟨up_eq, ?_, ?_, fun j hj => ?_⟩
        · rw [up_ne2 (by decide), up_ne2 (by decide), up_eq]
        · rw [up_ne2 (by decide), up_eq]
        · rw [up_ne2 (by omega), up_ne2 (by omega), up_ne2 (by omega)]
      clear hD5
      have y1 : ∀ a, a ≠ 95 → a ≠ 98 → D5 a = D3 a := fun a a1 a3 => by rw [y0 a a1, k1.1 a a1 a3]
      have z : ∀ a, a ≠ 1 → a ≠ 95 → a ≠ 98 → (a < 42 ∨ 55 < a) → D5 a = D a := fun a a1 a2 a3 a4 => by rw [y1 a a2 a3]; exact s2 a a1 a4
      refine ⟨by rw [s1], z 0 (by decide) (by decide) (by decide) (by omega), itp D5 (fun a a1 _ a3 => y1 a a1 a3) y95.1 y95.2.1 y95.2.2.1 (fun j hj => by rw [y95.2.2.2 j hj, k1.2 j (by omega), e95]), ?_, ?_, ?_, ?_, ?_, ?_⟩
      · rw [z 96 (by decide) (by decide) (by decide) (by omega)]
        exact IS_congr (fun a a1 a2 => z a (by omega) (by omega) (by omega) (by omega)) g2
      · rw [z 96 (by decide) (by decide) (by decide) (by omega)]; exact g3
      · rw [z 97 (by decide) (by decide) (by decide) (by omega)]
        exact IS_congr (fun a a1 a2 => z a (by omega) (by omega) (by omega) (by omega)) g4
      · rw [z 97 (by decide) (by decide) (by decide) (by omega)]; exact g5
      · rw [z 96 (by decide) (by decide) (by decide) (by omega), z 56 (by decide) (by decide) (by decide) (by omega), z 68 (by decide) (by decide) (by decide) (by omega), z 69 (by decide) (by decide) (by decide) (by omega), z 70 (by decide) (by decide) (by decide) (by omega), z 71 (by decide) (by decide) (by decide) (by omega), z 91 (by decide) (by decide) (by decide) (by omega), z 92 (by decide) (by decide) (by decide) (by omega)]; exact g6
      · rw [z 85 (by decide) (by decide) (by decide) (by omega)]; exact g7
  obtain ⟨D2, hD2⟩ : ∃ D2, D2 = xup (xup (xup D1 1 2 f) 1 3 q) 1 1 0 := ⟨_, rfl⟩
  rw [← hD2]
  have w1 : ∀ a, a ≠ 1 → D2 a = D1 a := fun a ha => by rw [hD2, up_ne ha, up_ne ha, up_ne ha]
  have w2 : D2 1 1 = 0 ∧ D2 1 2 = f ∧ D2 1 3 = q := by
    rw [hD2]
    refine ⟨up_eq, ?_, ?_⟩
    · rw [up_ne2 (by decide), up_ne2 (by decide), up_eq]
    · rw [up_ne2 (by decide), up_eq]
  clear hD2
  by_cases c : f = 0
  · obtain ⟨u1, u2, u3, u4, u5⟩ := f3 c
    rw [brT c]
    refine m76 (fun D3 y1 y2 y3 y4 y5 y6 => ?_)
    simp only [Option.toList_some, Option.toList_none, List.cons_append, List.nil_append, Nat.reduceAdd]
    rw [seg115_58 (ha0 := ho1), m116]
    simp only [Option.toList_some, Option.toList_none, List.cons_append, List.nil_append, Nat.reduceAdd]
    rw [seg115_62 (ha0 := ho1)]
    simp only [Option.toList_some, Option.toList_none, List.cons_append, List.nil_append, Nat.reduceAdd]
    have tsD : TS D2 A := ts_fr u2 (fun a a1 a2 => w1 a (by omega))
    have is3 : IS D3 3 A := is_ts tsD (by rw [w1 43 (by decide)]; exact u4) u3 y2 y3 y4 y5 y6
    have fr : ∀ a, (a < 3 ∨ 21 < a) → a ≠ 1 → (a < 42 ∨ 55 < a) → D3 a = D a := fun a a1 a2 a3 => by rw [y1 a a1, w1 a a2, f1 a (by omega)]
    have ff : ∀ a, (a ≠ 56 ∧ a ≠ 70 ∧ a ≠ 71 ∧ a ≠ 91) → fgt D3 a = D3 a := fun a ha => fgt_ne ha
    refine mod (fgt D3) _ (fun a ha => ?_) ?_ ?_ ?_ ?_ (fun z => absurd c z) (fun _ => ⟨?_, ?_, wf_wx u3 (by omega), fun T c2 c3 c7 => fgt_K hKF (fun a _ => rfl)⟩)
    · rw [ff a (by omega), fr a (by omega) (by omega) (by omega)]
    · rw [ff 2 (by decide), fr 2 (by omega) (by decide) (by omega)]
    · rw [ff 1 (by decide), y1 1 (by omega)]; exact w2.1
    · rw [ff 1 (by decide), y1 1 (by omega)]; exact w2.2.1
    · rw [ff 1 (by decide), y1 1 (by omega)]; exact w2.2.2
    · rw [ff 4 (by decide)]; exact is3.1.1
    · exact IS_congr (fun a a1 a2 => ff a (by omega)) is3
  · rw [brF c]
    exact mod D2 _ (fun a ha => by rw [w1 a (by omega), f1 a (by omega)]) (by rw [w1 2 (by decide), f1 2 (by omega)]) w2.1 w2.2.1 w2.2.2 (fun _ => ⟨rfl, fun a a1 a2 => by rw [w1 a a1, f1 a (by omega)]⟩) (fun z => absurd z c)
end M98v
