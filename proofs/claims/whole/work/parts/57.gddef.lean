/-! the signs that bring people out soonest: what they are -/
def nfT (T : Int → Int) (p s : Int) : Int := fsI (fun q => frM T q = p) (s + 1) (T 0 - (s + 1)).toNat
/-- how many streets from a place lie above one -/
def cnT' (T : Int → Int) (p s : Int) : Int := smI (fun q => if frM T q = p then 1 else 0) (s + 1) (T 0 - (s + 1)).toNat
def mxT (T : Int → Int) (p : Int) : Int := max 1 (cnT' T p (-1))
def prN (T : Int → Int) : Nat → Int
  | 0 => 1
  | k + 1 => prN T k * mxT T k
def rmN (T : Int → Int) : Nat → (Int → Int) → Int
  | 0, _ => 0
  | k + 1, c => rmN T k c * mxT T k + cnT' T k (c k)
def gnN (T : Int → Int) : Nat → (Int → Int) → (Int → Int) × Bool
  | 0, c => (c, false)
  | k + 1, c => if c k = -1 then gnN T k c else if nfT T k (c k) = -1 then gnN T k (fun j => if j = (k : Int) then nfT T k (-1) else c j) else (fun j => if j = (k : Int) then nfT T k (c k) else c j, true)
def chOk (T c : Int → Int) : Prop := ∀ p, 0 ≤ p → p < 8 → (c p = -1 ∧ cnT' T p (-1) = 0) ∨ ((0 ≤ c p ∧ c p < T 0) ∧ frM T (c p) = p)
def fiT (T : Int → Int) : Int → Int := fun p => nfT T p (-1)
def glP (e : Int → Int) (m : Int) (c : Int → Int) : Int → Int → Int := fun p t => if 0 ≤ t ∧ t < m then e p else c p
def bsL (T : Int → Int) (fs fm : Int) (e : Int → Int) (m : Int) : Nat → (Int → Int) → Int → (Int → Int) → Int × (Int → Int)
  | 0, _, w, b => (w, b)
  | n + 1, c, w, b => if w < wkZ T fs fm (glP e m c) 13 then bsL T fs fm e m n (gnN T 8 c).1 (wkZ T fs fm (glP e m c) 13) c else bsL T fs fm e m n (gnN T 8 c).1 w b
/-- the greatest sum of all choices from a minute on, and the first choice that has it -/
def bsV (T : Int → Int) (fs fm : Int) (e : Int → Int) (m : Int) : Int × (Int → Int) := bsL T fs fm e m (prN T 8).toNat (fiT T) (-1) (fun _ => 0)
def gdV (T : Int → Int) : Int × (Int → Int) := bsV T (-1) 0 (fun _ => 0) 0
def KG (T c6 c7 : Int → Int) : Prop := c6 0 = 0 ∨ (c6 0 = 1 ∧ c6 2 = (if prN T 8 ≤ 4096 then (gdV T).1 else -1) ∧ (prN T 8 ≤ 4096 → ∀ p, 0 ≤ p → p < 8 → c7 p = (gdV T).2 p))
def kAnd (KN : (Int → Int) → (Int → Int) → (Int → Int) → (Int → Int) → (Int → Int) → (Int → Int) → Prop) : (Int → Int) → (Int → Int) → (Int → Int) → (Int → Int) → (Int → Int) → (Int → Int) → (Int → Int) → (Int → Int) → Prop :=
  fun T c1 c2 c3 c4 c5 c6 c7 => KN T c1 c2 c3 c4 c5 ∧ KG T c6 c7
section M57
variable {K : (Int → Int) → (Int → Int) → (Int → Int) → (Int → Int) → (Int → Int) → (Int → Int) → (Int → Int) → (Int → Int) → Prop}
variable {D D' : xD} {T c c' e : Int → Int} {fs fm s t p q m i j w : Int}
theorem fs_cnt {P : Int → Prop} [DecidablePred P] : ∀ (k : Nat) (i : Int), (fsI P i k = -1 ∧ smI (fun q => if P q then 1 else 0) i k = 0) ∨ (i ≤ fsI P i k ∧ fsI P i k < i + k ∧ P (fsI P i k) ∧ smI (fun q => if P q then 1 else 0) (fsI P i k + 1) (i + k - (fsI P i k + 1)).toNat + 1 = smI (fun q => if P q then 1 else 0) i k) := by
  intro k
  induction k with
  | zero => intro i; exact .inl ⟨rfl, rfl⟩
  | succ k ih =>
    intro i
    simp only [fsI, smI]
    by_cases c : P i
    · rw [if_pos c, if_pos c]
      refine .inr ⟨by omega, by omega, c, ?_⟩
      rw [show (i + ((k + 1 : Nat) : Int) - (i + 1)).toNat = k by omega]
      omega
    · rw [if_neg c, if_neg c]
      rcases ih (i + 1) with ⟨h1, h2⟩ | ⟨h1, h2, h3, h4⟩
      · exact .inl ⟨h1, by omega⟩
      · refine .inr ⟨by omega, by omega, h3, ?_⟩
        rw [show i + ((k + 1 : Nat) : Int) = i + 1 + (k : Int) by omega]
        omega
theorem nf_spec (hs : -1 ≤ s) : (nfT T p s = -1 ∧ cnT' T p s = 0) ∨ ((s < nfT T p s ∧ nfT T p s < T 0) ∧ frM T (nfT T p s) = p ∧ cnT' T p (nfT T p s) + 1 = cnT' T p s) := by
  unfold nfT cnT'
  by_cases h : s + 1 ≤ T 0
  · rcases fs_cnt (P := fun q => frM T q = p) (T 0 - (s + 1)).toNat (s + 1) with q | ⟨q1, q2, q3, q4⟩
    · exact .inl q
    · refine .inr ⟨⟨by omega, by omega⟩, q3, ?_⟩
      rw [show s + 1 + ((T 0 - (s + 1)).toNat : Int) = T 0 by omega] at q4
      exact q4
  · rw [show (T 0 - (s + 1)).toNat = 0 by omega]
    exact .inl ⟨rfl, rfl⟩
theorem cn_0 (T : Int → Int) (p s : Int) : 0 ≤ cnT' T p s := by
  unfold cnT'
  exact (smI_bd (B := 1) _ _ (fun j _ _ => by split <;> omega)).1
theorem fi_ok : chOk T (fiT T) := fun p p1 p2 => by
  unfold fiT
  rcases nf_spec (T := T) (p := p) (s := -1) (by omega) with ⟨h1, h2⟩ | ⟨h1, h2, -⟩
  · exact .inl ⟨h1, h2⟩
  · exact .inr ⟨⟨by omega, h1.2⟩, h2⟩
theorem rm_fi : ∀ k, rmN T k (fiT T) + 1 = prN T k := by
  intro k
  induction k with
  | zero => rfl
  | succ k ih =>
    simp only [rmN, prN]
    rw [← ih, Int.add_mul, Int.one_mul]
    have h0 := cn_0 T k (-1)
    have e : cnT' T k (fiT T k) + 1 = mxT T k := by
      unfold fiT mxT
      rcases nf_spec (T := T) (p := k) (s := -1) (by omega) with ⟨h1, h2⟩ | ⟨h1, h2, h3⟩
      · rw [h1]; omega
      · have := cn_0 T k (nfT T k (-1)); omega
    omega
theorem rm_cg : ∀ k : Nat, (∀ p, 0 ≤ p → p < (k : Int) → c' p = c p) → rmN T k c' = rmN T k c := by
  intro k
  induction k with
  | zero => intro _; rfl
  | succ k ih =>
    intro h
    simp only [rmN]
    rw [ih (fun p p1 p2 => h p p1 (by omega)), h k (by omega) (by omega)]
theorem ch_up (hc : chOk T c) {k v : Int} (h : (0 ≤ v ∧ v < T 0) ∧ frM T v = k) : chOk T (fun j => if j = k then v else c j) := fun p p1 p2 => by
  show ((if p = k then v else c p) = -1 ∧ cnT' T p (-1) = 0) ∨ ((0 ≤ (if p = k then v else c p) ∧ (if p = k then v else c p) < T 0) ∧ frM T (if p = k then v else c p) = p)
  by_cases e : p = k
  · rw [if_pos e, e]; exact .inr h
  · rw [if_neg e]; exact hc p p1 p2
theorem gn_spec : ∀ (k : Nat) (c : Int → Int), k ≤ 8 → chOk T c → chOk T (gnN T k c).1 ∧ (((gnN T k c).2 = false ∧ rmN T k c = 0) ∨ ((gnN T k c).2 = true ∧ rmN T k (gnN T k c).1 + 1 = rmN T k c)) ∧ ∀ j, (k : Int) ≤ j → (gnN T k c).1 j = c j := by
  intro k
  induction k with
  | zero => intro c _ hc; exact ⟨hc, .inl ⟨rfl, rfl⟩, fun j _ => rfl⟩
  | succ k ih =>
    intro c hk hc
    have hck := hc k (by omega) (by omega)
    simp only [gnN]
    by_cases c1 : c k = -1
    · rw [if_pos c1]
      obtain ⟨i1, i2, i3⟩ := ih c (by omega) hc
      have z : cnT' T k (-1) = 0 := by rcases hck with h | h <;> omega
      have z1 : mxT T k = 1 := by unfold mxT; omega
      refine ⟨i1, ?_, fun j hj => i3 j (by omega)⟩
      simp only [rmN]
      rw [i3 k (by omega), c1, z, z1]
      rcases i2 with ⟨h1, h2⟩ | ⟨h1, h2⟩
      · exact .inl ⟨h1, by omega⟩
      · exact .inr ⟨h1, by omega⟩
    · rw [if_neg c1]
      have hr := hck.resolve_left (fun z => c1 z.1)
      by_cases c2 : nfT T k (c k) = -1
      · rw [if_pos c2]
        have z0 : cnT' T k (c k) = 0 := by
          rcases nf_spec (T := T) (p := k) (s := c k) (by omega) with ⟨h1, h2⟩ | ⟨h1, h2, h3⟩
          · exact h2
          · omega
        have zf : (0 ≤ nfT T k (-1) ∧ nfT T k (-1) < T 0) ∧ frM T (nfT T k (-1)) = k ∧ cnT' T k (nfT T k (-1)) + 1 = mxT T k := by
          rcases nf_spec (T := T) (p := k) (s := -1) (by omega) with ⟨h1, h2⟩ | ⟨h1, h2, h3⟩
          · exfalso
            unfold nfT at h1
            rcases fsI_spec (P := fun q => frM T q = (k : Int)) (T 0 - (-1 + 1)).toNat (-1 + 1) with ⟨-, y⟩ | ⟨y, -⟩
            · exact y (c k) (by omega) (by omega) hr.2
            · omega
          · have := cn_0 T k (nfT T k (-1))
            exact ⟨⟨by omega, h1.2⟩, h2, by unfold mxT; omega⟩
        obtain ⟨i1, i2, i3⟩ := ih (fun j => if j = (k : Int) then nfT T k (-1) else c j) (by omega) (ch_up hc ⟨zf.1, zf.2.1⟩)
        refine ⟨i1, ?_, fun j hj => ?_⟩
        · simp only [rmN]
          rw [rm_cg (c := c) (c' := fun j => if j = (k : Int) then nfT T k (-1) else c j) k (fun p p1 p2 => if_neg (by omega))] at i2
          rw [i3 k (by omega)]
          simp only [if_pos]
          rw [z0]
          rcases i2 with ⟨h1, h2⟩ | ⟨h1, h2⟩
          · exact .inl ⟨h1, by rw [h2]; omega⟩
          · refine .inr ⟨h1, ?_⟩
            rw [← h2, Int.add_mul, Int.one_mul]
            omega
        · rw [i3 j (by omega)]
          exact if_neg (by omega)
      · rw [if_neg c2]
        obtain ⟨h1, h2, h3⟩ := (nf_spec (T := T) (p := k) (s := c k) (by omega)).resolve_left (fun z => c2 z.1)
        refine ⟨ch_up hc ⟨⟨by omega, h1.2⟩, h2⟩, .inr ⟨rfl, ?_⟩, fun j hj => if_neg (by omega)⟩
        simp only [rmN, if_pos]
        rw [rm_cg (c := c) (c' := fun j => if j = (k : Int) then nfT T k (c k) else c j) k (fun p p1 p2 => if_neg (by omega))]
        omega
theorem gl_0 : glP e 0 c = fun p _ => c p := by
  funext p t
  unfold glP
  rw [if_neg (by omega)]
theorem gl_ok (hc : chOk T c) (he : 0 < m → chOk T e) : wkP T (glP e m c) := fun p t p1 p2 t1 t2 => by
  unfold glP
  by_cases h : 0 ≤ t ∧ t < m
  · rw [if_pos h]
    rcases he (by omega) p p1 p2 with q | q
    · exact .inl q.1
    · exact .inr q.1
  · rw [if_neg h]
    rcases hc p p1 p2 with q | q
    · exact .inl q.1
    · exact .inr q.1
theorem bs_m1 {fm' : Int} : ∀ (n : Nat) (c : Int → Int) (w : Int) (b : Int → Int), bsL T (-1) fm e m n c w b = bsL T (-1) fm' e m n c w b := by
  intro n
  induction n with
  | zero => intro c w b; rfl
  | succ n ih =>
    intro c w b
    simp only [bsL]
    rw [wkZ_m1 (fm := fm) (fm' := fm'), ih, ih]
theorem bs_e0 {e' : Int → Int} : ∀ (n : Nat) (c : Int → Int) (w : Int) (b : Int → Int), bsL T fs fm e 0 n c w b = bsL T fs fm e' 0 n c w b := by
  intro n
  induction n with
  | zero => intro c w b; rfl
  | succ n ih =>
    intro c w b
    simp only [bsL]
    rw [gl_0 (e := e), gl_0 (e := e'), ih, ih]
theorem pr_pos : ∀ k, 1 ≤ prN T k := by
  intro k
  induction k with
  | zero => exact Int.le_refl _
  | succ k ih =>
    simp only [prN]
    have h : 1 ≤ mxT T k := by unfold mxT; omega
    have : 1 * 1 ≤ prN T k * mxT T k := Int.mul_le_mul ih h (by omega) (by omega)
    omega
theorem pr_le {k : Nat} : prN T k ≤ prN T (k + 1) := by
  simp only [prN]
  have h : 1 ≤ mxT T k := by unfold mxT; omega
  have h2 := pr_pos (T := T) k
  have : prN T k * 1 ≤ prN T k * mxT T k := Int.mul_le_mul_of_nonneg_left h (by omega)
  omega
theorem pr_mono {k : Nat} : ∀ n, prN T k ≤ prN T (k + n) := by
  intro n
  induction n with
  | zero => exact Int.le_refl _
  | succ n ih => exact Int.le_trans ih pr_le
/-- the first choice is taken over whatever stood there -/
theorem bs_b0 (hT : tnW T) {b b' : Int → Int} {n : Nat} (hn : 1 ≤ n) (hc : chOk T c) (he : 0 < m → chOk T e) : bsL T fs fm e m n c (-1) b = bsL T fs fm e m n c (-1) b' := by
  obtain ⟨n, rfl⟩ : ∃ n', n = n' + 1 := ⟨n - 1, by omega⟩
  have h := (wkZ_bd (fs := fs) (fm := fm) hT (gl_ok hc he) 13 (by omega)).1
  simp only [bsL]
  rw [if_pos (by omega), if_pos (by omega)]
theorem bs_ge : ∀ (n : Nat) (c : Int → Int) (w : Int) (b : Int → Int), w ≤ (bsL T fs fm e m n c w b).1 := by
  intro n
  induction n with
  | zero => intro c w b; exact Int.le_refl _
  | succ n ih =>
    intro c w b
    simp only [bsL]
    by_cases h : w < wkZ T fs fm (glP e m c) 13
    · rw [if_pos h]
      exact Int.le_trans (Int.le_of_lt h) (ih _ _ _)
    · rw [if_neg h]; exact ih _ _ _
theorem bsV_0 (hT : tnW T) (he : 0 < m → chOk T e) : 0 ≤ (bsV T fs fm e m).1 := by
  unfold bsV
  obtain ⟨n, hn⟩ : ∃ n', (prN T 8).toNat = n' + 1 := ⟨(prN T 8).toNat - 1, by have := pr_pos (T := T) 8; omega⟩
  have h := (wkZ_bd (fs := fs) (fm := fm) hT (gl_ok fi_ok he) 13 (by omega)).1
  rw [hn]
  simp only [bsL]
  rw [if_pos (by omega)]
  exact Int.le_trans h (bs_ge _ _ _ _)
theorem bs_ok : ∀ (n : Nat) (c : Int → Int) (w : Int) (b : Int → Int), chOk T c → (n = 0 → chOk T b) → (1 ≤ n → w = -1 ∨ chOk T b) → tnW T → (0 < m → chOk T e) → chOk T (bsL T fs fm e m n c w b).2 := by
  intro n
  induction n with
  | zero => intro c w b _ h _ _ _; exact h rfl
  | succ n ih =>
    intro c w b hc _ h hT he
    have hz := (wkZ_bd (fs := fs) (fm := fm) hT (gl_ok hc he) 13 (by omega)).1
    simp only [bsL]
    by_cases q : w < wkZ T fs fm (glP e m c) 13
    · rw [if_pos q]
      exact ih _ _ _ (gn_spec 8 c (by omega) hc).1 (fun _ => hc) (fun _ => .inr hc) hT he
    · rw [if_neg q]
      have hb := (h (by omega)).resolve_left (by omega)
      exact ih _ _ _ (gn_spec 8 c (by omega) hc).1 (fun _ => hb) (fun _ => .inr hb) hT he
theorem gd_ok (hT : tnW T) : chOk T (gdV T).2 := by
  unfold gdV bsV
  have := pr_pos (T := T) 8
  exact bs_ok _ _ _ _ fi_ok (fun h => by omega) (fun _ => .inl rfl) hT (fun h => by omega)
theorem cn_sum (hT : tnW T) : smI (fun p => cnT' T p (-1)) 0 8 = T 0 := by
  obtain ⟨⟨w0, w1, -⟩, ws, -⟩ := hT
  unfold cnT'
  rw [show (-1 : Int) + 1 = 0 by decide, smI_swap (f := fun p q => if frM T q = p then 1 else 0) 8 _ 0 0]
  have e : ∀ q, 0 ≤ q → q < 0 + ((T 0 - 0).toNat : Int) → smI (fun p => if frM T q = p then (1 : Int) else 0) 0 8 = 1 := fun q q1 q2 => by
    obtain ⟨u, -⟩ := ws q q1 (by omega)
    exact smI_one 8 0 _ (by omega) (by omega)
  rw [smI_congr (g := fun _ => 1) _ _ e]
  have one : ∀ (k : Nat) (i : Int), smI (fun _ => 1) i k = k := by
    intro k
    induction k with
    | zero => intro i; rfl
    | succ k ih => intro i; simp only [smI]; rw [ih]; omega
  rw [one]
  omega
theorem mx_2 (p : Int) : mxT T p ≤ ((2 ^ (cnT' T p (-1)).toNat : Nat) : Int) := by
  have h := Nat.lt_two_pow_self (n := (cnT' T p (-1)).toNat)
  have h2 : 1 ≤ 2 ^ (cnT' T p (-1)).toNat := Nat.one_le_two_pow
  unfold mxT
  omega
theorem pr_2 : ∀ k, prN T k ≤ ((2 ^ (smI (fun p => cnT' T p (-1)) 0 k).toNat : Nat) : Int) := by
  intro k
  induction k with
  | zero => simp [prN, smI]
  | succ k ih =>
    have h0 : 0 ≤ smI (fun p => cnT' T p (-1)) 0 k := by
      have : ∀ (k : Nat) (i : Int), 0 ≤ smI (fun p => cnT' T p (-1)) i k := by
        intro k
        induction k with
        | zero => intro i; exact Int.le_refl _
        | succ k ih => intro i; simp only [smI]; have := ih (i + 1); have := cn_0 T i (-1); omega
      exact this k 0
    rw [smI_last, Int.zero_add, Int.toNat_add h0 (cn_0 T k (-1)), Nat.pow_add, Int.natCast_mul]
    simp only [prN]
    have h1 := pr_pos (T := T) k
    exact Int.mul_le_mul ih (mx_2 k) (by unfold mxT; omega) (by omega)
theorem pr_bd (hT : tnW T) {k : Nat} (hk : k ≤ 8) : 1 ≤ prN T k ∧ prN T k ≤ 65536 := by
  refine ⟨pr_pos k, ?_⟩
  obtain ⟨n, hn⟩ : ∃ n, 8 = k + n := ⟨8 - k, by omega⟩
  have h1 := pr_mono (T := T) (k := k) n
  have h2 := pr_2 (T := T) (k + n)
  rw [← hn] at h1 h2
  rw [cn_sum hT] at h2
  have h3 : 2 ^ (T 0).toNat ≤ 2 ^ 16 := Nat.pow_le_pow_right (by decide) (by have := hT.1; omega)
  have h4 : (2 : Nat) ^ 16 = 65536 := by decide
  omega
theorem Inv_put (H : Inv K D) (h : ∀ a, ¬ xfre a → a ≠ 56 → a ≠ 68 → a ≠ 69 → a ≠ 70 → a ≠ 71 → a ≠ 85 → a ≠ 91 → a ≠ 92 → a ≠ 95 → D' a = D a) (h85 : D' 85 5 = -1) (h95 : ∀ i, (i = 4 ∨ i = 5 ∨ i = 6) → D' 95 i = D 95 i) (h22 : D' 95 22 = -1 ∧ D' 95 23 = 0 ∧ D' 95 44 = -1)
    (hK : K (trA (D 96)) (D' 56) (D' 68) (D' 69) (D' 70) (D' 71) (D' 91) (D' 92)) : Inv K D' := by
  obtain ⟨⟨⟨t1, t2, t3, t4, t5⟩, tt, -⟩, g2, g3, g4, g5, g6, g7⟩ := H
  unfold xfre at h
  have h' : ∀ a, (a = 1 ∨ a = 2 ∨ (3 ≤ a ∧ a ≤ 40) ∨ a = 96 ∨ a = 97 ∨ a = 99) → D' a = D a := fun a ha => h a (by omega) (by omega) (by omega) (by omega) (by omega) (by omega) (by omega) (by omega) (by omega) (by omega)
  refine ⟨?_, ?_, ?_, ?_, ?_, ?_, ?_⟩
  · rw [h' 1 (by decide), h' 2 (by decide), h' 99 (by decide)]
    refine ⟨⟨?_, t2, t3, ?_, ?_⟩, tt, h22⟩
    · rw [h95 4 (by decide)]; exact t1
    · rw [h95 5 (by decide)]; exact t4
    · rw [h95 6 (by decide)]; exact t5
  · rw [h' 96 (by decide)]
    exact IS_congr (fun a e1 e2 => h' a (by omega)) g2
  · rw [h' 96 (by decide)]; exact g3
  · rw [h' 97 (by decide)]
    exact IS_congr (fun a e1 e2 => h' a (by omega)) g4
  · rw [h' 97 (by decide)]; exact g5
  · rw [h' 96 (by decide)]; exact hK
  · exact h85
end M57
