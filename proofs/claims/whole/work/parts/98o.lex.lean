/-! texts: tokens -/
def blB (c : Int) : Bool := decide (c = 32 ∨ c = 10)
def leB (c : Int) : Bool := decide ((97 ≤ c ∧ c ≤ 122) ∨ (65 ≤ c ∧ c ≤ 90))
def diB (c : Int) : Bool := decide (48 ≤ c ∧ c ≤ 57)
def enL (t : Int → Int) (P : Int → Bool) (i : Int) : Nat → Int
  | 0 => i
  | k + 1 => if P (t i) = true then enL t P (i + 1) k else i
/-- where a run of such bytes ends -/
def rnE (t : Int → Int) (n : Int) (P : Int → Bool) (i : Int) : Int := enL t P i (n - i).toNat
def tkB (t : Int → Int) (n p : Int) : Int := rnE t n blB p
/-- 0 the end, 1 letters, 2 a number, 3 a semicolon, 4 another -/
def tkK (t : Int → Int) (n p : Int) : Int := if n ≤ tkB t n p then 0 else if leB (t (tkB t n p)) = true then 1 else if diB (t (tkB t n p)) = true then 2 else if t (tkB t n p) = 59 then 3 else 4
def tkE (t : Int → Int) (n p : Int) : Int := if tkK t n p = 0 then tkB t n p else if tkK t n p = 1 then rnE t n leB (tkB t n p) else if tkK t n p = 2 then rnE t n diB (tkB t n p) else tkB t n p + 1
def nvC (t : Int → Int) (i : Int) : Nat → Int → Int
  | 0, v => v
  | k + 1, v => nvC t (i + 1) k (min 1000 (v * 10 + t i - 48))
def tkV (t : Int → Int) (n p : Int) : Int := nvC t (tkB t n p) (tkE t n p - tkB t n p).toNat 0
def lxD (D : xD) (t : Int → Int) (n : Int) : Prop := D 42 2 = n ∧ (∀ j, 0 ≤ j → j < n → D 55 j = t j)
def txT (t : Int → Int) (n : Int) : Prop := (0 ≤ n ∧ n ≤ 300) ∧ ∀ j, 0 ≤ j → j < n → 0 ≤ t j ∧ t j ≤ 255
def clT (D : xD) (t : Int → Int) (n p : Int) : Prop := D 42 3 = tkK t n p ∧ D 42 4 = tkB t n p ∧ D 42 5 = tkE t n p ∧ (tkK t n p = 2 → D 42 6 = tkV t n p)
section M98o
variable {n p i j v w x0 : Int} {k : Nat} {D D' : xD} {t : Int → Int} {P : Int → Bool} {Q : Option xv → xD → Prop}
theorem rn_hi (h : n ≤ i) : rnE t n P i = i := by
  unfold rnE
  rw [show (n - i).toNat = 0 by omega]
  rfl
theorem rn_t (h : i < n) (hp : P (t i) = true) : rnE t n P i = rnE t n P (i + 1) := by
  unfold rnE
  rw [show (n - i).toNat = (n - (i + 1)).toNat + 1 by omega]
  simp only [enL]
  rw [if_pos hp]
theorem rn_f (h : i < n) (hp : ¬ P (t i) = true) : rnE t n P i = i := by
  unfold rnE
  rw [show (n - i).toNat = (n - (i + 1)).toNat + 1 by omega]
  simp only [enL]
  rw [if_neg hp]
theorem rn_bd : ∀ (k : Nat) (i : Int), i + k = n → i ≤ rnE t n P i ∧ rnE t n P i ≤ n := by
  intro k
  induction k with
  | zero => intro i h; rw [rn_hi (by omega)]; omega
  | succ k ih =>
    intro i h
    by_cases c : P (t i) = true
    · rw [rn_t (by omega) c]
      have := ih (i + 1) (by omega)
      omega
    · rw [rn_f (by omega) c]; omega
theorem rn_b (h : i ≤ n) : i ≤ rnE t n P i ∧ rnE t n P i ≤ n := rn_bd (n - i).toNat i (by omega)
theorem rn_ind : ∀ (k : Nat) (i : Int), i + k = n → ∀ j, i ≤ j → j < rnE t n P i → P (t j) = true := by
  intro k
  induction k with
  | zero => intro i h j j1 j2; rw [rn_hi (by omega)] at j2; omega
  | succ k ih =>
    intro i h j j1 j2
    by_cases c : P (t i) = true
    · rw [rn_t (by omega) c] at j2
      by_cases e : j = i
      · rw [e]; exact c
      · exact ih (i + 1) (by omega) j (by omega) j2
    · rw [rn_f (by omega) c] at j2; omega
theorem rn_i (h : i ≤ n) (j1 : i ≤ j) (j2 : j < rnE t n P i) : P (t j) = true := rn_ind (n - i).toNat i (by omega) j j1 j2
theorem tk_b (h : p ≤ n) : p ≤ tkB t n p ∧ tkB t n p ≤ tkE t n p ∧ tkE t n p ≤ n ∧ (tkK t n p ≠ 0 → tkB t n p < n ∧ tkB t n p < tkE t n p) := by
  have h1 : p ≤ tkB t n p ∧ tkB t n p ≤ n := rn_b h
  have h0 : tkK t n p ≠ 0 → tkB t n p < n := fun z => by
    by_cases c : n ≤ tkB t n p
    · exact absurd (by unfold tkK; rw [if_pos c]) z
    · omega
  unfold tkE
  by_cases c0 : tkK t n p = 0
  · rw [if_pos c0]; exact ⟨h1.1, by omega, by omega, fun z => absurd c0 z⟩
  · rw [if_neg c0]
    have hs := h0 c0
    by_cases c1 : tkK t n p = 1
    · rw [if_pos c1]
      have l : leB (t (tkB t n p)) = true := by
        unfold tkK at c1
        rw [if_neg (by omega)] at c1
        by_cases l : leB (t (tkB t n p)) = true
        · exact l
        · rw [if_neg l] at c1; split at c1
          · omega
          · split at c1 <;> omega
      have b := rn_b (t := t) (P := leB) (show tkB t n p ≤ n by omega)
      have b2 := rn_b (t := t) (P := leB) (show tkB t n p + 1 ≤ n by omega)
      rw [rn_t hs l] at b
      rw [rn_t hs l]
      omega
    · rw [if_neg c1]
      by_cases c2 : tkK t n p = 2
      · rw [if_pos c2]
        have l : diB (t (tkB t n p)) = true := by
          unfold tkK at c2
          rw [if_neg (by omega)] at c2
          by_cases l : leB (t (tkB t n p)) = true
          · rw [if_pos l] at c2; omega
          · rw [if_neg l] at c2
            by_cases l2 : diB (t (tkB t n p)) = true
            · exact l2
            · rw [if_neg l2] at c2; split at c2 <;> omega
        have b := rn_b (t := t) (P := diB) (show tkB t n p ≤ n by omega)
        have b2 := rn_b (t := t) (P := diB) (show tkB t n p + 1 ≤ n by omega)
        rw [rn_t hs l] at b
        rw [rn_t hs l]
        omega
      · rw [if_neg c2]; omega
theorem up_up : xup (xup D 42 i v) 42 i w = xup D 42 i w := by
  funext b j
  simp only [xup]
  split <;> rfl
theorem up_cm (h : i ≠ j) : xup (xup D 42 i v) 42 j w = xup (xup D 42 j w) 42 i v := by
  funext b q
  simp only [xup]
  by_cases c : b = 42 ∧ q = j
  · rw [if_pos c, if_neg (fun z => h (by omega)), if_pos c]
  · rw [if_neg c]
    by_cases c2 : b = 42 ∧ q = i
    · rw [if_pos c2, if_pos c2]
    · rw [if_neg c2, if_neg c2, if_neg c]
theorem up_sf : xup D 42 i (D 42 i) = D := by
  funext b j
  simp only [xup]
  by_cases c : b = 42 ∧ j = i
  · rw [if_pos c, c.1, c.2]
  · rw [if_neg c]
theorem m60 : WP 124 xF1 none 60 0 [some (.inl x0)] [] D Q = Q (some (.inl (if leB x0 = true then 1 else 0))) D := by
  have r : ∀ v : Int, (v = 0 ∨ v = 1) → WP 124 xF1 none 60 29 [some (.inl x0)] [.inl v] D Q = Q (some (.inl v)) D := fun v hv => by rw [seg60_29, cnT hv]
  by_cases c : leB x0 = true
  · rw [if_pos c]
    have c' : (97 ≤ x0 ∧ x0 ≤ 122) ∨ (65 ≤ x0 ∧ x0 ≤ 90) := of_decide_eq_true c
    rw [seg60_0]
    by_cases c1 : x0 < 97
    · rw [brT c1, seg60_12, brF (by omega), brF (by omega), seg60_24, r 1 (.inr rfl)]
    · rw [brF c1]
      by_cases c2 : x0 ≤ 122
      · rw [brT c2, seg60_24, r 1 (.inr rfl)]
      · omega
  · rw [if_neg c]
    have c' : ¬ ((97 ≤ x0 ∧ x0 ≤ 122) ∨ (65 ≤ x0 ∧ x0 ≤ 90)) := fun z => c (decide_eq_true z)
    rw [seg60_0]
    have q : WP 124 xF1 none 60 12 [some (.inl x0)] [] D Q = Q (some (.inl 0)) D := by
      rw [seg60_12]
      by_cases c1 : x0 < 65
      · rw [brT c1, seg60_28, r 0 (.inl rfl)]
      · rw [brF c1]
        by_cases c2 : 90 < x0
        · rw [brT c2, seg60_28, r 0 (.inl rfl)]
        · omega
    by_cases c1 : x0 < 97
    · rw [brT c1, q]
    · rw [brF c1, brF (by omega), q]
theorem m61 : WP 124 xF1 none 61 0 [some (.inl x0)] [] D Q = Q (some (.inl (if diB x0 = true then 1 else 0))) D := by
  have r : ∀ v : Int, (v = 0 ∨ v = 1) → WP 124 xF1 none 61 17 [some (.inl x0)] [.inl v] D Q = Q (some (.inl v)) D := fun v hv => by rw [seg61_17, cnT hv]
  rw [seg61_0]
  by_cases c : diB x0 = true
  · rw [if_pos c]
    have c' : 48 ≤ x0 ∧ x0 ≤ 57 := of_decide_eq_true c
    rw [brF (by omega), brF (by omega), r 1 (.inr rfl)]
  · rw [if_neg c]
    have c' : ¬ (48 ≤ x0 ∧ x0 ≤ 57) := fun z => c (decide_eq_true z)
    by_cases c1 : x0 < 48
    · rw [brT c1, seg61_16, r 0 (.inl rfl)]
    · rw [brF c1, brT (by omega), seg61_16, r 0 (.inl rfl)]
theorem lx_up (hl : lxD D t n) (hi : i ≠ 2) : lxD (xup D 42 i v) t n := ⟨by rw [up_ne2 (fun z => hi z.symm)]; exact hl.1, fun j j1 j2 => by rw [up_ne (by decide)]; exact hl.2 j j1 j2⟩
theorem l59a (hT : txT t n) : ∀ (k : Nat) (D : xD), lxD D t n → 0 ≤ D 42 4 → D 42 4 + k = n → WP 124 xF1 none 59 8 [some (.inr (.inr (some 42)))] [] D Q = WP 124 xF1 none 59 60 [some (.inr (.inr (some 42)))] [] (xup D 42 4 (rnE t n blB (D 42 4))) Q := by
  intro k
  induction k with
  | zero =>
    intro D hl h0 h1
    rw [seg59_8 (ha0 := ho42), hl.1, brT (by omega), rn_hi (by omega), up_sf]
  | succ k ih =>
    intro D hl h0 h1
    have hb := hT.1
    have e : D 55 (D 42 4) = t (D 42 4) := hl.2 _ h0 (by omega)
    have nx : blB (t (D 42 4)) = true → WP 124 xF1 none 59 47 [some (.inr (.inr (some 42)))] [] D Q = WP 124 xF1 none 59 60 [some (.inr (.inr (some 42)))] [] (xup D 42 4 (rnE t n blB (D 42 4))) Q := by
      intro c
      rw [seg59_47 (ha0 := ho42), cnX (by omega), ih _ (lx_up hl (by decide)) (by rw [up_eq]; omega) (by rw [up_eq]; omega), up_eq, up_up, rn_t (by omega) c]
    rw [seg59_8 (ha0 := ho42), hl.1, brF (by omega), cnB (by omega), cnB (by omega)]
    simp only [Nat.reduceAdd]
    rw [e]
    by_cases c1 : t (D 42 4) = 32
    · rw [brT c1]; exact nx (decide_eq_true (.inl c1))
    · rw [brF c1]
      by_cases c2 : t (D 42 4) ≠ 10
      · rw [brT c2, rn_f (by omega) (fun z => by rcases of_decide_eq_true z with q | q <;> omega), up_sf]
      · rw [brF c2]; exact nx (decide_eq_true (.inr (by omega)))
theorem l59b (hT : txT t n) : ∀ (k : Nat) (D : xD), lxD D t n → 0 ≤ D 42 5 → D 42 5 + k = n → WP 124 xF1 none 59 107 [some (.inr (.inr (some 42)))] [] D Q = Q none (xup D 42 5 (rnE t n leB (D 42 5))) := by
  intro k
  induction k with
  | zero =>
    intro D hl h0 h1
    rw [seg59_107 (ha0 := ho42), hl.1, brT (by omega), seg59_273 (ha0 := ho42), rn_hi (by omega), up_sf]
  | succ k ih =>
    intro D hl h0 h1
    have hb := hT.1
    have e : D 55 (D 42 5) = t (D 42 5) := hl.2 _ h0 (by omega)
    rw [seg59_107 (ha0 := ho42), hl.1, brF (by omega), cnB (by omega)]
    simp only [Nat.reduceAdd]
    rw [e, m60]
    simp only [Option.toList_some, Option.toList_none, List.cons_append, List.nil_append]
    rw [seg59_130 (ha0 := ho42)]
    by_cases c1 : leB (t (D 42 5)) = true
    · rw [if_pos c1, brF (by decide), cnX (by omega), ih _ (lx_up hl (by decide)) (by rw [up_eq]; omega) (by rw [up_eq]; omega), up_eq, up_up, ← rn_t (by omega) c1]
    · rw [if_neg c1, brT rfl, seg59_273 (ha0 := ho42), rn_f (by omega) c1, up_sf]
theorem l59c (hT : txT t n) : ∀ (k : Nat) (D : xD), lxD D t n → 0 ≤ D 42 5 → D 42 5 + k = n → (0 ≤ D 42 6 ∧ D 42 6 ≤ 1000) → WP 124 xF1 none 59 171 [some (.inr (.inr (some 42)))] [] D Q = Q none (xup (xup D 42 6 (nvC t (D 42 5) (rnE t n diB (D 42 5) - D 42 5).toNat (D 42 6))) 42 5 (rnE t n diB (D 42 5))) := by
  intro k
  induction k with
  | zero =>
    intro D hl h0 h1 h2
    rw [seg59_171 (ha0 := ho42), hl.1, brT (by omega), seg59_273 (ha0 := ho42), rn_hi (by omega), Int.sub_self]
    show Q none D = Q none (xup (xup D 42 6 (D 42 6)) 42 5 (D 42 5))
    rw [up_sf, up_sf]
  | succ k ih =>
    intro D hl h0 h1 h2
    have hb := hT.1
    have e : D 55 (D 42 5) = t (D 42 5) := hl.2 _ h0 (by omega)
    have et := hT.2 (D 42 5) h0 (by omega)
    rw [seg59_171 (ha0 := ho42), hl.1, brF (by omega), cnB (by omega)]
    simp only [Nat.reduceAdd]
    rw [e, m61]
    simp only [Option.toList_some, Option.toList_none, List.cons_append, List.nil_append]
    rw [seg59_194 (ha0 := ho42)]
    by_cases c1 : diB (t (D 42 5)) = true
    · have c1' : 48 ≤ t (D 42 5) ∧ t (D 42 5) ≤ 57 := of_decide_eq_true c1
      have hr := rn_b (t := t) (P := diB) (show D 42 5 + 1 ≤ n by omega)
      rw [if_pos c1, brF (by decide), cnX (by omega), cnB (by omega)]
      simp only [Nat.reduceAdd]
      rw [e, cnX (by omega), cnX (by omega), cnX (by omega), ih _ (lx_up (lx_up hl (by decide)) (by decide)) (by rw [up_eq]; omega) (by rw [up_eq]; omega) (by rw [up_ne2 (by decide), up_eq]; omega), up_eq, up_ne2 (show (6 : Int) ≠ 5 by decide), up_eq, rn_t (by omega) c1]
      have e2 : (rnE t n diB (D 42 5 + 1) - D 42 5).toNat = (rnE t n diB (D 42 5 + 1) - (D 42 5 + 1)).toNat + 1 := by omega
      rw [e2]
      simp only [nvC]
      rw [up_cm (show (5 : Int) ≠ 6 by decide), up_up, up_up]
    · rw [if_neg c1, brT rfl, seg59_273 (ha0 := ho42), rn_f (by omega) c1, Int.sub_self]
      show Q none D = Q none (xup (xup D 42 6 (D 42 6)) 42 5 (D 42 5))
      rw [up_sf, up_sf]
/-- the class's next token -/
theorem m59 (hT : txT t n) (hl : lxD D t n) (hp : D 42 5 = p) (hpn : 0 ≤ p ∧ p ≤ n) (hq : ∀ D' : xD, (∀ a, a ≠ 42 → D' a = D a) → (∀ j, j ≠ 3 → j ≠ 4 → j ≠ 5 → j ≠ 6 → D' 42 j = D 42 j) → clT D' t n p → Q none D') :
    WP 124 xF1 none 59 0 [some (.inr (.inr (some 42)))] [] D Q := by
  have hb := hT.1
  have hs : p ≤ tkB t n p ∧ tkB t n p ≤ n := rn_b hpn.2
  rw [seg59_0 (ha0 := ho42), hp, l59a hT (n - p).toNat _ (lx_up hl (by decide)) (by rw [up_eq]; omega) (by rw [up_eq]; omega), up_eq, up_up]
  show WP 124 xF1 none 59 60 [some (.inr (.inr (some 42)))] [] (xup D 42 4 (tkB t n p)) Q
  have hl1 : lxD (xup D 42 4 (tkB t n p)) t n := lx_up hl (by decide)
  have fin : ∀ (D' : xD) kk ss ee, D' = xup (xup (xup D 42 4 ss) 42 5 ee) 42 3 kk ∨ (∃ v, D' = xup (xup (xup (xup D 42 4 ss) 42 3 kk) 42 6 v) 42 5 ee ∧ (kk = 2 → v = tkV t n p)) → kk = tkK t n p → (kk = 2 → ∃ v, D' = xup (xup (xup (xup D 42 4 ss) 42 3 kk) 42 6 v) 42 5 ee ∧ v = tkV t n p) → ss = tkB t n p → ee = tkE t n p → Q none D' := by
    intro D' kk ss ee hd h1 h1' h2 h3
    refine hq D' (fun a ha => ?_) (fun j j1 j2 j3 j4 => ?_) ⟨?_, ?_, ?_, fun z => ?_⟩
    · rcases hd with e | ⟨v, e, -⟩ <;> subst e
      · rw [up_ne ha, up_ne ha, up_ne ha]
      · rw [up_ne ha, up_ne ha, up_ne ha, up_ne ha]
    · rcases hd with e | ⟨v, e, -⟩ <;> subst e
      · rw [up_ne2 j1, up_ne2 j3, up_ne2 j2]
      · rw [up_ne2 j3, up_ne2 j4, up_ne2 j1, up_ne2 j2]
    · rw [← h1]
      rcases hd with e | ⟨v, e, -⟩ <;> subst e
      · rw [up_eq]
      · rw [up_ne2 (by decide), up_ne2 (by decide), up_eq]
    · rw [← h2]
      rcases hd with e | ⟨v, e, -⟩ <;> subst e
      · rw [up_ne2 (by decide), up_ne2 (by decide), up_eq]
      · rw [up_ne2 (by decide), up_ne2 (by decide), up_ne2 (by decide), up_eq]
    · rw [← h3]
      rcases hd with e | ⟨v, e, -⟩ <;> subst e
      · rw [up_ne2 (by decide), up_eq]
      · rw [up_eq]
    · obtain ⟨v, e, ev⟩ := h1' (by omega)
      rw [e, up_ne2 (by decide), up_eq, ev]
  rw [seg59_60 (ha0 := ho42), hl1.1]
  simp only [up_eq]
  by_cases c0 : tkB t n p < n
  · rw [brT c0, cnB (by omega)]
    simp only [Nat.reduceAdd]
    have e : (xup D 42 4 (tkB t n p)) 55 (tkB t n p) = t (tkB t n p) := hl1.2 _ (by omega) c0
    rw [e, m60]
    simp only [Option.toList_some, Option.toList_none, List.cons_append, List.nil_append]
    have hl2 : lxD (xup (xup D 42 4 (tkB t n p)) 42 5 (tkB t n p)) t n := lx_up hl1 (by decide)
    have e4 : (xup (xup D 42 4 (tkB t n p)) 42 5 (tkB t n p)) 42 4 = tkB t n p := by rw [up_ne2 (by decide), up_eq]
    rw [seg59_99 (ha0 := ho42)]
    by_cases c1 : leB (t (tkB t n p)) = true
    · have K : tkK t n p = 1 := by unfold tkK; rw [if_neg (by omega), if_pos c1]
      have E : tkE t n p = rnE t n leB (tkB t n p) := by unfold tkE; rw [if_neg (by omega), if_pos K]
      rw [if_pos c1, brF (by decide), l59b hT (n - tkB t n p).toNat _ (lx_up hl2 (by decide)) (by rw [up_ne2 (by decide), up_eq]; omega) (by rw [up_ne2 (by decide), up_eq]; omega), up_ne2 (show (5 : Int) ≠ 3 by decide), up_eq]
      rw [up_cm (show (3 : Int) ≠ 5 by decide), up_up]
      exact fin _ 1 _ _ (.inl rfl) K.symm (fun z => by omega) rfl E.symm
    · rw [if_neg c1, brT rfl, e4, cnB (by omega)]
      simp only [Nat.reduceAdd]
      rw [hl2.2 _ (by omega) c0, m61]
      simp only [Option.toList_some, Option.toList_none, List.cons_append, List.nil_append]
      rw [seg59_158 (ha0 := ho42)]
      by_cases c2 : diB (t (tkB t n p)) = true
      · have K : tkK t n p = 2 := by unfold tkK; rw [if_neg (by omega), if_neg c1, if_pos c2]
        have E : tkE t n p = rnE t n diB (tkB t n p) := by unfold tkE; rw [if_neg (by omega), if_neg (by omega), if_pos K]
        rw [if_pos c2, brF (by decide), l59c hT (n - tkB t n p).toNat _ (lx_up (lx_up hl2 (by decide)) (by decide)) (by rw [up_ne2 (by decide), up_ne2 (by decide), up_eq]; omega) (by rw [up_ne2 (by decide), up_ne2 (by decide), up_eq]; omega) (by rw [up_eq]; omega), up_ne2 (show (5 : Int) ≠ 6 by decide), up_ne2 (show (5 : Int) ≠ 3 by decide), up_eq, up_eq, up_up]
        have ev : nvC t (tkB t n p) (rnE t n diB (tkB t n p) - tkB t n p).toNat 0 = tkV t n p := by unfold tkV; rw [E]
        rw [ev]
        have ed : xup (xup (xup (xup (xup D 42 4 (tkB t n p)) 42 5 (tkB t n p)) 42 3 2) 42 6 (tkV t n p)) 42 5 (rnE t n diB (tkB t n p)) = xup (xup (xup (xup D 42 4 (tkB t n p)) 42 3 2) 42 6 (tkV t n p)) 42 5 (rnE t n diB (tkB t n p)) := by
          rw [up_cm (show (5 : Int) ≠ 3 by decide), up_cm (show (5 : Int) ≠ 6 by decide), up_up]
        rw [ed]
        exact fin _ 2 _ _ (.inr ⟨_, rfl, fun _ => rfl⟩) K.symm (fun _ => ⟨_, rfl, rfl⟩) rfl E.symm
      · rw [if_neg c2, brT rfl, e4, cnB (by omega), hl2.2 _ (by omega) c0]
        have go : ∀ v, v = tkK t n p → (v = 3 ∨ v = 4) → WP 124 xF1 none 59 260 [some (.inr (.inr (some 42)))] [.inl v, .inr (.inr (some 42))] (xup (xup D 42 4 (tkB t n p)) 42 5 (tkB t n p)) Q := by
          intro v hv hv2
          have E : tkE t n p = tkB t n p + 1 := by unfold tkE; rw [if_neg (by omega), if_neg (by omega), if_neg (by omega)]
          rw [seg59_260 (ha0 := ho42) (hb1 := ho42), up_ne2 (show (5 : Int) ≠ 3 by decide), up_eq, cnX (by omega), seg59_273 (ha0 := ho42), up_cm (show (3 : Int) ≠ 5 by decide), up_up]
          exact fin _ v _ _ (.inl rfl) hv (fun z => by omega) rfl E.symm
        by_cases c3 : t (tkB t n p) ≠ 59
        · rw [brT c3]
          exact go 4 (by unfold tkK; rw [if_neg (by omega), if_neg c1, if_neg c2, if_neg c3]) (.inr rfl)
        · rw [brF c3]
          exact go 3 (by unfold tkK; rw [if_neg (by omega), if_neg c1, if_neg c2, if_pos (by omega)]) (.inl rfl)
  · have K : tkK t n p = 0 := by unfold tkK; rw [if_pos (by omega)]
    have E : tkE t n p = tkB t n p := by unfold tkE; rw [if_pos K]
    rw [brF c0, seg59_273 (ha0 := ho42)]
    exact fin _ 0 _ _ (.inl rfl) K.symm (fun z => by omega) rfl E.symm
end M98o
