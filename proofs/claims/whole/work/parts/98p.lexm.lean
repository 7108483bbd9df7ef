/-! texts: the reference's tokens -/
def mtK (k : Int) : Int := if k = 0 then 0 else if k = 1 then 2 else if k = 2 then 1 else if k = 3 then 59 else 3
def nvM (t : Int → Int) (i : Int) : Nat → Int → Int
  | 0, v => v
  | k + 1, v => nvM t (i + 1) k (if v < 100000 then 10 * v + t i - 48 else v)
def tkM (t : Int → Int) (n p : Int) : Int := nvM t (tkB t n p) (tkE t n p - tkB t n p).toNat 0
def wfN (t : Int → Int) (s : Int) : Nat → Int
  | 0 => 0
  | k + 1 => wfN t s k * 256 + t (s + k)
def tkW (t : Int → Int) (n p : Int) : Int := if tkE t n p - tkB t n p ≤ 6 then wfN t (tkB t n p) (tkE t n p - tkB t n p).toNat else 0
def lmD (D : xD) (t : Int → Int) (n : Int) : Prop := D 95 4 = n ∧ (∀ j, 0 ≤ j → j < n → D 99 j = t j)
def mtT (D : xD) (t : Int → Int) (n p : Int) : Prop := D 95 9 = mtK (tkK t n p) ∧ D 95 8 = tkB t n p ∧ D 95 7 = tkE t n p ∧ (tkK t n p = 2 → D 95 10 = tkM t n p) ∧ (tkK t n p = 1 → D 95 11 = tkW t n p)
section M98p
variable {n p i j v w x0 x1 c s : Int} {a k : Nat} {D D' : xD} {t : Int → Int} {P : Int → Bool} {o1 : Option xv} {Q : Option xv → xD → Prop}
theorem lor_8 (hw : 0 ≤ w ∧ w < 1099511627776) (hc : 0 ≤ c ∧ c < 256) : lor (lshl w 8) c = w * 256 + c := by
  unfold lor lshl
  rw [Int64.ofInt_toInt, show (Int32.ofInt 8).toInt64 &&& 63 = 8 by decide]
  show ((Int64.ofInt w <<< (8 : Int64)) ||| Int64.ofInt c).toBitVec.toInt = _
  rw [Int64.toBitVec_or, Int64.toBitVec_shiftLeft]
  show ((Int64.ofInt w).toBitVec <<< ((8 : Int64).toBitVec.smod 64).toNat ||| (Int64.ofInt c).toBitVec).toInt = _
  rw [show ((8 : Int64).toBitVec.smod 64).toNat = 8 by decide]
  have e1 : (Int64.ofInt w).toBitVec.toNat = (w % 18446744073709551616).toNat := BitVec.toNat_ofInt w
  have e2 : (Int64.ofInt c).toBitVec.toNat = (c % 18446744073709551616).toNat := BitVec.toNat_ofInt c
  have e3 : ((Int64.ofInt w).toBitVec <<< 8 ||| (Int64.ofInt c).toBitVec).toNat = w.toNat * 256 + c.toNat := by
    rw [BitVec.toNat_or, BitVec.toNat_shiftLeft, e1, e2, Nat.shiftLeft_eq]
    have p2 : (2 : Nat) ^ 8 = 256 := by decide
    have p3 : (2 : Nat) ^ 64 = 18446744073709551616 := by decide
    rw [p2, p3, show (w % 18446744073709551616).toNat * 256 % 18446744073709551616 = 256 * w.toNat by omega, show (c % 18446744073709551616).toNat = c.toNat by omega]
    have k := Nat.two_pow_add_eq_or_of_lt (i := 8) (b := c.toNat) (by rw [p2]; omega) w.toNat
    rw [p2] at k
    rw [← k]; omega
  rw [BitVec.toInt_eq_toNat_of_lt (by rw [e3]; have p3 : (2 : Nat) ^ 64 = 18446744073709551616 := by decide
                                      rw [p3]; omega), e3]
  omega
theorem upa_up : xup (xup D a i v) a i w = xup D a i w := by
  funext b j
  simp only [xup]
  split <;> rfl
theorem upa_cm (h : i ≠ j) : xup (xup D a i v) a j w = xup (xup D a j w) a i v := by
  funext b q
  simp only [xup]
  by_cases c : b = a ∧ q = j
  · rw [if_pos c, if_neg (fun z => h (by omega)), if_pos c]
  · rw [if_neg c]
    by_cases c2 : b = a ∧ q = i
    · rw [if_pos c2, if_pos c2]
    · rw [if_neg c2, if_neg c2, if_neg c]
theorem upa_sf : xup D a i (D a i) = D := by
  funext b j
  simp only [xup]
  by_cases c : b = a ∧ j = i
  · rw [if_pos c, c.1, c.2]
  · rw [if_neg c]
theorem wf_bd : ∀ k : Nat, k ≤ 5 → (∀ j : Int, s ≤ j → j < s + k → 0 ≤ t j ∧ t j < 256) → 0 ≤ wfN t s k ∧ wfN t s k < 1099511627776 := by
  have key : ∀ k : Nat, (∀ j : Int, s ≤ j → j < s + k → 0 ≤ t j ∧ t j < 256) → 0 ≤ wfN t s k ∧ wfN t s k < 256 ^ k := by
    intro k
    induction k with
    | zero => intro _; show (0 : Int) ≤ 0 ∧ (0 : Int) < 256 ^ 0; decide
    | succ k ih =>
      intro h
      have h1 := ih (fun j j1 j2 => h j j1 (by omega))
      have h2 := h (s + k) (by omega) (by omega)
      simp only [wfN]
      rw [Int.pow_succ]
      omega
  intro k hk h
  have h1 := key k h
  have h2 : ∀ k : Nat, k ≤ 5 → (256 : Int) ^ k ≤ 1099511627776 := by decide
  have := h2 k hk
  omega
theorem m154 (h : 0 ≤ x1) (hl : lmD D t n) (hn : n ≤ 300) : WP 124 xF1 none 154 0 [some (.inr (.inr (some 95))), some (.inl x1)] [] D Q = Q (some (.inl (if n ≤ x1 then -1 else t x1))) D := by
  rw [seg154_0 (ha0 := ho95), hl.1]
  by_cases c : n ≤ x1
  · rw [brT c, seg154_18 (ha0 := ho95), if_pos c]
  · rw [brF c, cnB (by omega), seg154_18 (ha0 := ho95), if_neg c]
    simp only [Nat.reduceAdd]
    rw [hl.2 x1 h (by omega)]
theorem m155 : WP 124 xF1 none 155 0 [some (.inl x0)] [] D Q = Q (some (.inl (if leB x0 = true then 1 else 0))) D := by
  rw [seg155_0, m149]
  simp only [Option.toList_some, Option.toList_none, List.cons_append, List.nil_append]
  rw [seg155_8]
  by_cases c1 : 97 ≤ x0 ∧ x0 ≤ 122
  · rw [if_pos c1, brT (by decide), seg155_22, seg155_27, cnT (.inr rfl), if_pos (show leB x0 = true from decide_eq_true (.inl c1))]
  · rw [if_neg c1, brF (by decide), m149]
    simp only [Option.toList_some, Option.toList_none, List.cons_append, List.nil_append]
    rw [seg155_19]
    by_cases c2 : 65 ≤ x0 ∧ x0 ≤ 90
    · rw [if_pos c2, brF (by decide), seg155_22, seg155_27, cnT (.inr rfl), if_pos (show leB x0 = true from decide_eq_true (.inr c2))]
    · rw [if_neg c2, brT rfl, seg155_27, cnT (.inl rfl), if_neg (show ¬ leB x0 = true from fun z => by rcases of_decide_eq_true z with q | q <;> omega)]
theorem m156 : WP 124 xF1 none 156 0 [some (.inl x0)] [] D Q = Q (some (.inl (if diB x0 = true then 1 else 0))) D := by
  rw [seg156_0, m149]
  simp only [Option.toList_some, Option.toList_none, List.cons_append, List.nil_append]
  rw [seg156_8]
  by_cases c1 : 48 ≤ x0 ∧ x0 ≤ 57
  · rw [if_pos c1, cnT (.inr rfl), if_pos (show diB x0 = true from decide_eq_true c1)]
  · rw [if_neg c1, cnT (.inl rfl), if_neg (show ¬ diB x0 = true from fun z => c1 (of_decide_eq_true z))]
theorem lm_up (hl : lmD D t n) (hi : i ≠ 4) : lmD (xup D 95 i v) t n := ⟨by rw [up_ne2 (fun z => hi z.symm)]; exact hl.1, fun j j1 j2 => by rw [up_ne (by decide)]; exact hl.2 j j1 j2⟩
/-- the byte at a place, -1 at the end -/
def seT (t : Int → Int) (n s : Int) : Int := if n ≤ s then -1 else t s
theorem l157a (hT : txT t n) : ∀ (k : Nat) (D : xD), lmD D t n → 0 ≤ D 95 7 → D 95 7 + k = n → WP 124 xF1 none 157 0 [some (.inr (.inr (some 95))), o1] [] D Q = WP 124 xF1 none 157 55 [some (.inr (.inr (some 95))), o1] [.inl (seT t n (rnE t n blB (D 95 7)))] (xup (xup D 95 7 (rnE t n blB (D 95 7))) 95 8 (rnE t n blB (D 95 7))) Q := by
  intro k
  induction k with
  | zero =>
    intro D hl h0 h1
    have hb := hT.1
    rw [seg157_0 (ha0 := ho95), m154 h0 hl hb.2, if_pos (by omega)]
    simp only [Option.toList_some, Option.toList_none, List.cons_append, List.nil_append]
    rw [seg157_8 (ha0 := ho95), brF (by decide), m154 h0 hl hb.2, if_pos (by omega)]
    simp only [Option.toList_some, Option.toList_none, List.cons_append, List.nil_append]
    rw [seg157_21 (ha0 := ho95), brT (by decide), m154 h0 (lm_up hl (by decide)) hb.2, if_pos (by omega)]
    simp only [Option.toList_some, Option.toList_none, List.cons_append, List.nil_append]
    rw [rn_hi (by omega), upa_sf]
    unfold seT
    rw [if_pos (by omega)]
  | succ k ih =>
    intro D hl h0 h1
    have hb := hT.1
    have nx : blB (t (D 95 7)) = true → WP 124 xF1 none 157 26 [some (.inr (.inr (some 95))), o1] [] D Q = WP 124 xF1 none 157 55 [some (.inr (.inr (some 95))), o1] [.inl (seT t n (rnE t n blB (D 95 7)))] (xup (xup D 95 7 (rnE t n blB (D 95 7))) 95 8 (rnE t n blB (D 95 7))) Q := by
      intro c
      rw [seg157_26 (ha0 := ho95), cnX (by omega), ih _ (lm_up hl (by decide)) (by rw [up_eq]; omega) (by rw [up_eq]; omega), up_eq, upa_up, rn_t (by omega) c]
    rw [seg157_0 (ha0 := ho95), m154 h0 hl hb.2, if_neg (by omega)]
    simp only [Option.toList_some, Option.toList_none, List.cons_append, List.nil_append]
    rw [seg157_8 (ha0 := ho95)]
    by_cases c1 : t (D 95 7) = 32
    · rw [brT c1]; exact nx (decide_eq_true (.inl c1))
    · rw [brF c1, m154 h0 hl hb.2, if_neg (by omega)]
      simp only [Option.toList_some, Option.toList_none, List.cons_append, List.nil_append]
      rw [seg157_21 (ha0 := ho95)]
      by_cases c2 : t (D 95 7) ≠ 10
      · rw [brT c2, m154 h0 (lm_up hl (by decide)) hb.2, if_neg (by omega)]
        simp only [Option.toList_some, Option.toList_none, List.cons_append, List.nil_append]
        rw [rn_f (by omega) (fun z => by rcases of_decide_eq_true z with q | q <;> omega), upa_sf]
        unfold seT
        rw [if_neg (by omega)]
      · rw [brF c2]; exact nx (decide_eq_true (.inr (by omega)))
theorem l157c (hT : txT t n) : ∀ (k : Nat) (D : xD), lmD D t n → 0 ≤ D 95 7 → D 95 7 + k = n → (0 ≤ D 95 10 ∧ D 95 10 ≤ 1000009) → WP 124 xF1 none 157 85 [some (.inr (.inr (some 95))), some (.inl x1)] [] D Q = Q none (xup (xup D 95 10 (nvM t (D 95 7) (rnE t n diB (D 95 7) - D 95 7).toNat (D 95 10))) 95 7 (rnE t n diB (D 95 7))) := by
  intro k
  induction k with
  | zero =>
    intro D hl h0 h1 h2
    have hb := hT.1
    rw [seg157_85 (ha0 := ho95), m154 h0 hl hb.2, if_pos (by omega)]
    simp only [Option.toList_some, Option.toList_none, List.cons_append, List.nil_append]
    rw [seg157_93 (ha0 := ho95), m156, if_neg (by decide)]
    simp only [Option.toList_some, Option.toList_none, List.cons_append, List.nil_append]
    rw [seg157_96 (ha0 := ho95), brT rfl, seg157_270 (ha0 := ho95), rn_hi (by omega), Int.sub_self]
    show Q none D = Q none (xup (xup D 95 10 (D 95 10)) 95 7 (D 95 7))
    rw [upa_sf, upa_sf]
  | succ k ih =>
    intro D hl h0 h1 h2
    have hb := hT.1
    rw [seg157_85 (ha0 := ho95), m154 h0 hl hb.2, if_neg (by omega)]
    simp only [Option.toList_some, Option.toList_none, List.cons_append, List.nil_append]
    rw [seg157_93 (ha0 := ho95), m156]
    simp only [Option.toList_some, Option.toList_none, List.cons_append, List.nil_append]
    rw [seg157_96 (ha0 := ho95)]
    by_cases c1 : diB (t (D 95 7)) = true
    · have c1' : 48 ≤ t (D 95 7) ∧ t (D 95 7) ≤ 57 := of_decide_eq_true c1
      have hr := rn_b (t := t) (P := diB) (show D 95 7 + 1 ≤ n by omega)
      have e2 : (rnE t n diB (D 95 7 + 1) - D 95 7).toNat = (rnE t n diB (D 95 7 + 1) - (D 95 7 + 1)).toNat + 1 := by omega
      rw [if_pos c1, brF (by decide), rn_t (by omega) c1, e2]
      simp only [nvM]
      by_cases c2 : 100000 ≤ D 95 10
      · rw [brT c2, seg157_131 (ha0 := ho95), cnX (by omega), ih _ (lm_up hl (by decide)) (by rw [up_eq]; omega) (by rw [up_eq]; omega) (by rw [up_ne2 (by decide)]; omega), up_eq, up_ne2 (show (10 : Int) ≠ 7 by decide), if_neg (by omega), upa_cm (show (7 : Int) ≠ 10 by decide), upa_up]
      · rw [brF c2, cnX (by omega), m154 h0 hl hb.2, if_neg (by omega)]
        simp only [Option.toList_some, Option.toList_none, List.cons_append, List.nil_append]
        rw [seg157_124 (ha0 := ho95) (hb2 := ho95), cnX (by omega), cnX (by omega), seg157_131 (ha0 := ho95), up_ne2 (show (7 : Int) ≠ 10 by decide), cnX (by omega), ih _ (lm_up (lm_up hl (by decide)) (by decide)) (by rw [up_eq]; omega) (by rw [up_eq]; omega) (by rw [up_ne2 (by decide), up_eq]; omega), up_eq, up_ne2 (show (10 : Int) ≠ 7 by decide), up_eq, if_pos (by omega), upa_cm (show (7 : Int) ≠ 10 by decide), upa_up, upa_up]
    · rw [if_neg c1, brT rfl, seg157_270 (ha0 := ho95), rn_f (by omega) c1, Int.sub_self]
      show Q none D = Q none (xup (xup D 95 10 (D 95 10)) 95 7 (D 95 7))
      rw [upa_sf, upa_sf]
theorem l157d (hT : txT t n) (hs : 0 ≤ s) : ∀ (k : Nat) (D : xD), lmD D t n → D 95 8 = s → s ≤ D 95 7 → D 95 7 + k = n → D 95 11 = wfN t s (min (D 95 7 - s) 6).toNat → WP 124 xF1 none 157 161 [some (.inr (.inr (some 95))), some (.inl x1)] [] D Q = Q none (xup (xup D 95 11 (if rnE t n leB (D 95 7) - s ≤ 6 then wfN t s (rnE t n leB (D 95 7) - s).toNat else 0)) 95 7 (rnE t n leB (D 95 7))) := by
  have last : ∀ (D : xD), lmD D t n → D 95 8 = s → s ≤ D 95 7 → D 95 7 ≤ n → D 95 11 = wfN t s (min (D 95 7 - s) 6).toNat → WP 124 xF1 none 157 172 [some (.inr (.inr (some 95))), some (.inl x1)] [.inl 0] D Q = Q none (xup (xup D 95 11 (if D 95 7 - s ≤ 6 then wfN t s (D 95 7 - s).toNat else 0)) 95 7 (D 95 7)) := by
    intro D hl h8 h0 h1 h2
    have hb := hT.1
    rw [seg157_172 (ha0 := ho95), brT rfl, h8, cnX (by omega)]
    by_cases c : D 95 7 - s ≤ 6
    · rw [brT c, seg157_270 (ha0 := ho95), if_pos c]
      have e : xup D 95 11 (wfN t s (D 95 7 - s).toNat) = D := by
        rw [show (D 95 7 - s).toNat = (min (D 95 7 - s) 6).toNat by omega, ← h2, upa_sf]
      rw [e, upa_sf]
    · rw [brF c, seg157_270 (ha0 := ho95), if_neg c]
      have e : xup (xup D 95 11 0) 95 7 (D 95 7) = xup D 95 11 0 := by
        have k := upa_sf (D := xup D 95 11 0) (a := 95) (i := 7)
        rw [up_ne2 (show (7 : Int) ≠ 11 by decide)] at k
        exact k
      rw [e]
  intro k
  induction k with
  | zero =>
    intro D hl h8 h0 h1 h2
    have hb := hT.1
    rw [seg157_161 (ha0 := ho95), m154 (by omega) hl hb.2, if_pos (by omega)]
    simp only [Option.toList_some, Option.toList_none, List.cons_append, List.nil_append]
    rw [seg157_169 (ha0 := ho95), m155, if_neg (by decide)]
    simp only [Option.toList_some, Option.toList_none, List.cons_append, List.nil_append]
    rw [last D hl h8 h0 (by omega) h2, rn_hi (by omega)]
  | succ k ih =>
    intro D hl h8 h0 h1 h2
    have hb := hT.1
    rw [seg157_161 (ha0 := ho95), m154 (by omega) hl hb.2, if_neg (by omega)]
    simp only [Option.toList_some, Option.toList_none, List.cons_append, List.nil_append]
    rw [seg157_169 (ha0 := ho95), m155]
    simp only [Option.toList_some, Option.toList_none, List.cons_append, List.nil_append]
    by_cases c1 : leB (t (D 95 7)) = true
    · have c1' : (97 ≤ t (D 95 7) ∧ t (D 95 7) ≤ 122) ∨ (65 ≤ t (D 95 7) ∧ t (D 95 7) ≤ 90) := of_decide_eq_true c1
      rw [if_pos c1, seg157_172 (ha0 := ho95), brF (by decide), h8, cnX (by omega), rn_t (by omega) c1]
      by_cases c2 : 6 ≤ D 95 7 - s
      · rw [brT c2, seg157_210 (ha0 := ho95), cnX (by omega), ih _ (lm_up hl (by decide)) (by rw [up_ne2 (by decide)]; exact h8) (by rw [up_eq]; omega) (by rw [up_eq]; omega) (by rw [up_ne2 (by decide), up_eq, h2]; congr 1; omega), up_eq, upa_cm (show (7 : Int) ≠ 11 by decide), upa_up]
      · rw [brF c2, m154 (by omega) hl hb.2, if_neg (by omega)]
        simp only [Option.toList_some, Option.toList_none, List.cons_append, List.nil_append]
        have wb := wf_bd (t := t) (s := s) (D 95 7 - s).toNat (by omega) (fun j j1 j2 => by have := hT.2 j (by omega) (by omega); omega)
        have e11 : D 95 11 = wfN t s (D 95 7 - s).toNat := by rw [h2]; congr 1; omega
        have e12 : wfN t s (D 95 7 + 1 - s).toNat = D 95 11 * 256 + t (D 95 7) := by
          rw [e11, show (D 95 7 + 1 - s).toNat = (D 95 7 - s).toNat + 1 by omega]
          simp only [wfN]
          rw [show s + ((D 95 7 - s).toNat : Int) = D 95 7 by omega]
        rw [seg157_205 (ha0 := ho95) (hb2 := ho95), lor_8 (by rw [e11]; exact wb) (by omega), seg157_210 (ha0 := ho95), up_ne2 (show (7 : Int) ≠ 11 by decide), cnX (by omega), ih _ (lm_up (lm_up hl (by decide)) (by decide)) (by rw [up_ne2 (by decide), up_ne2 (by decide)]; exact h8) (by rw [up_eq]; omega) (by rw [up_eq]; omega) (by rw [up_ne2 (by decide), up_eq, up_eq, ← e12]; congr 1; omega), up_eq, upa_cm (show (7 : Int) ≠ 11 by decide), upa_up, upa_up]
    · rw [if_neg c1, last D hl h8 h0 (by omega) h2, rn_f (by omega) c1]
/-- the reference's next token -/
theorem m157 (hT : txT t n) (hl : lmD D t n) (hp : D 95 7 = p) (hpn : 0 ≤ p ∧ p ≤ n) (hq : ∀ D' : xD, (∀ a, a ≠ 95 → D' a = D a) → (∀ j, (j < 7 ∨ 11 < j) → D' 95 j = D 95 j) → mtT D' t n p → Q none D') :
    WP 124 xF1 none 157 0 [some (.inr (.inr (some 95))), o1] [] D Q := by
  have hb := hT.1
  have hs : p ≤ tkB t n p ∧ tkB t n p ≤ n := rn_b hpn.2
  rw [l157a hT (n - p).toNat D hl (by omega) (by omega), hp]
  show WP 124 xF1 none 157 55 [some (.inr (.inr (some 95))), o1] [.inl (seT t n (tkB t n p))] (xup (xup D 95 7 (tkB t n p)) 95 8 (tkB t n p)) Q
  obtain ⟨D1, hD1⟩ : ∃ D1, D1 = xup (xup D 95 7 (tkB t n p)) 95 8 (tkB t n p) := ⟨_, rfl⟩
  rw [← hD1]
  have hl1 : lmD D1 t n := by rw [hD1]; exact lm_up (lm_up hl (by decide)) (by decide)
  have f1 : ∀ a, a ≠ 95 → D1 a = D a := fun a ha => by rw [hD1, up_ne ha, up_ne ha]
  have f2 : ∀ j, (j < 7 ∨ 11 < j) → D1 95 j = D 95 j := fun j hj => by rw [hD1, up_ne2 (by omega), up_ne2 (by omega)]
  have e7 : D1 95 7 = tkB t n p := by rw [hD1, up_ne2 (by decide), up_eq]
  have e8 : D1 95 8 = tkB t n p := by rw [hD1, up_eq]
  clear hD1
  rw [seg157_55 (ha0 := ho95)]
  by_cases c0 : n ≤ tkB t n p
  · have K : tkK t n p = 0 := by unfold tkK; rw [if_pos c0]
    have E : tkE t n p = tkB t n p := by unfold tkE; rw [if_pos K]
    have es : seT t n (tkB t n p) = -1 := by unfold seT; rw [if_pos c0]
    rw [es, brF (by decide), seg157_270 (ha0 := ho95)]
    refine hq _ (fun a ha => by rw [up_ne ha]; exact f1 a ha) (fun j hj => by rw [up_ne2 (by omega)]; exact f2 j hj) ⟨?_, ?_, ?_, fun z => by omega, fun z => by omega⟩
    · rw [up_eq, K]; rfl
    · rw [up_ne2 (by decide)]; exact e8
    · rw [up_ne2 (by decide), E]; exact e7
  · have es : seT t n (tkB t n p) = t (tkB t n p) := by unfold seT; rw [if_neg c0]
    have et := hT.2 (tkB t n p) (by omega) (by omega)
    rw [es, brT et.1, m156]
    simp only [Option.toList_some, Option.toList_none, List.cons_append, List.nil_append]
    rw [seg157_72 (ha0 := ho95)]
    by_cases c2 : diB (t (tkB t n p)) = true
    · have c2' : 48 ≤ t (tkB t n p) ∧ t (tkB t n p) ≤ 57 := of_decide_eq_true c2
      have nl : ¬ leB (t (tkB t n p)) = true := fun z => by rcases of_decide_eq_true z with q | q <;> omega
      have K : tkK t n p = 2 := by unfold tkK; rw [if_neg c0, if_neg nl, if_pos c2]
      have E : tkE t n p = rnE t n diB (tkB t n p) := by unfold tkE; rw [if_neg (by omega), if_neg (by omega), if_pos K]
      rw [if_pos c2, brF (by decide), l157c hT (n - tkB t n p).toNat _ (lm_up (lm_up hl1 (by decide)) (by decide)) (by rw [up_ne2 (by decide), up_ne2 (by decide)]; omega) (by rw [up_ne2 (by decide), up_ne2 (by decide)]; omega) (by rw [up_eq]; omega), up_ne2 (show (7 : Int) ≠ 10 by decide), up_ne2 (show (7 : Int) ≠ 9 by decide), e7, up_eq]
      refine hq _ (fun a ha => by rw [up_ne ha, up_ne ha, up_ne ha, up_ne ha]; exact f1 a ha) (fun j hj => by rw [up_ne2 (by omega), up_ne2 (by omega), up_ne2 (by omega), up_ne2 (by omega)]; exact f2 j hj) ⟨?_, ?_, ?_, fun _ => ?_, fun z => by omega⟩
      · rw [up_ne2 (by decide), up_ne2 (by decide), up_ne2 (by decide), up_eq, K]; rfl
      · rw [up_ne2 (by decide), up_ne2 (by decide), up_ne2 (by decide), up_ne2 (by decide)]; exact e8
      · rw [up_eq, E]
      · rw [up_ne2 (by decide), up_eq]
        unfold tkM
        rw [E]
    · rw [if_neg c2, brT rfl, m155]
      simp only [Option.toList_some, Option.toList_none, List.cons_append, List.nil_append]
      rw [seg157_148 (ha0 := ho95)]
      by_cases c1 : leB (t (tkB t n p)) = true
      · have K : tkK t n p = 1 := by unfold tkK; rw [if_neg c0, if_pos c1]
        have E : tkE t n p = rnE t n leB (tkB t n p) := by unfold tkE; rw [if_neg (by omega), if_pos K]
        rw [if_pos c1, brF (by decide), l157d hT (show 0 ≤ tkB t n p by omega) (n - tkB t n p).toNat _ (lm_up (lm_up hl1 (by decide)) (by decide)) (by rw [up_ne2 (by decide), up_ne2 (by decide)]; exact e8) (by rw [up_ne2 (by decide), up_ne2 (by decide)]; omega) (by rw [up_ne2 (by decide), up_ne2 (by decide)]; omega) (by rw [up_eq, up_ne2 (by decide), up_ne2 (by decide), e7, Int.sub_self]; rfl), up_ne2 (show (7 : Int) ≠ 11 by decide), up_ne2 (show (7 : Int) ≠ 9 by decide), e7]
        refine hq _ (fun a ha => by rw [up_ne ha, up_ne ha, up_ne ha, up_ne ha]; exact f1 a ha) (fun j hj => by rw [up_ne2 (by omega), up_ne2 (by omega), up_ne2 (by omega), up_ne2 (by omega)]; exact f2 j hj) ⟨?_, ?_, ?_, fun z => by omega, fun _ => ?_⟩
        · rw [up_ne2 (by decide), up_ne2 (by decide), up_ne2 (by decide), up_eq, K]; rfl
        · rw [up_ne2 (by decide), up_ne2 (by decide), up_ne2 (by decide), up_ne2 (by decide)]; exact e8
        · rw [up_eq, E]
        · rw [up_ne2 (by decide), up_eq]
          unfold tkW
          rw [E]
      · rw [if_neg c1, brT rfl, e7, cnX (by omega)]
        have go : ∀ v, v = mtK (tkK t n p) → (tkK t n p = 3 ∨ tkK t n p = 4) → WP 124 xF1 none 157 267 [some (.inr (.inr (some 95))), some (.inl (t (tkB t n p)))] [.inl v, .inr (.inr (some 95))] (xup D1 95 7 (tkB t n p + 1)) Q := by
          intro v hv K
          have E : tkE t n p = tkB t n p + 1 := by unfold tkE; rw [if_neg (by omega), if_neg (by omega), if_neg (by omega)]
          rw [seg157_267 (ha0 := ho95) (hb1 := ho95), seg157_270 (ha0 := ho95)]
          refine hq _ (fun a ha => by rw [up_ne ha, up_ne ha]; exact f1 a ha) (fun j hj => by rw [up_ne2 (by omega), up_ne2 (by omega)]; exact f2 j hj) ⟨?_, ?_, ?_, fun z => by omega, fun z => by omega⟩
          · rw [up_eq, hv]
          · rw [up_ne2 (by decide), up_ne2 (by decide)]; exact e8
          · rw [up_ne2 (by decide), up_eq, E]
        by_cases c3 : t (tkB t n p) ≠ 59
        · rw [brT c3]
          have K : tkK t n p = 4 := by unfold tkK; rw [if_neg c0, if_neg c1, if_neg c2, if_neg c3]
          exact go 3 (by rw [K]; rfl) (.inr K)
        · rw [brF c3]
          have K : tkK t n p = 3 := by unfold tkK; rw [if_neg c0, if_neg c1, if_neg c2, if_pos (by omega)]
          exact go _ (by rw [K]; show t (tkB t n p) = 59; omega) (.inl K)
end M98p
