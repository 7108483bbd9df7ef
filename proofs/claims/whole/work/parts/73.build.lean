/-! nets: the class lays one -/
def ajOk (E : Int) (tl first next : Int → Int) : Prop :=
  (∀ n, 0 ≤ n → n < 120 → first n = -1 ∨ ((0 ≤ first n ∧ first n < E) ∧ tl (first n) = n)) ∧
  (∀ e, 0 ≤ e → e < E → next e = -1 ∨ ((0 ≤ next e ∧ next e < e) ∧ tl (next e) = tl e)) ∧
  (∀ e, 0 ≤ e → e < E → e ≤ first (tl e)) ∧
  (∀ e e', 0 ≤ e' → e' < e → e < E → tl e' = tl e → e' ≤ next e)
def ncS (D : xD) (f : Int → Int → Int → Int → Int) : Int := smI (fun k => f (D 60 (2 * k + 1)) (D 60 (2 * k)) (D 61 (2 * k)) (D 62 (2 * k))) 0 (D 57 0 / 2).toNat
def ncI (D : xD) (V : (Int → Int → Int → Int → Int) → Int) (B : Int) : Prop :=
  (0 ≤ D 57 0 ∧ D 57 0 ≤ B ∧ D 57 0 % 2 = 0) ∧ (∀ f, ncS D f = V f) ∧ ajOk (D 57 0) (fun e => D 60 (prI e)) (D 58) (D 59) ∧ (∀ e, 0 ≤ e → e < D 57 0 → 0 ≤ D 60 e ∧ D 60 e < 120) ∧ (∀ e, 0 ≤ e → e < D 57 0 → e % 2 = 1 → D 61 e = 0)
def ncF (D' D : xD) : Prop := ∀ a, a ≠ 57 → a ≠ 58 → a ≠ 59 → a ≠ 60 → a ≠ 61 → a ≠ 62 → D' a = D a
def tnN (D : xD) (T : Int → Int) : Prop :=
  (D 4 11 = T 0 ∧ D 4 12 = T 1) ∧
  (∀ s, 0 ≤ s → s < T 0 → (D 5 s = T (30 + 7 * s) ∧ D 6 s = T (30 + 7 * s + 1)) ∧ D 7 s = T (30 + 7 * s + 2) ∧ D 8 s = T (30 + 7 * s + 3) ∧ D 9 s = T (30 + 7 * s + 4) ∧ D 10 s = T (30 + 7 * s + 5)) ∧
  (∀ p, 0 ≤ p → p < 8 → D 11 p = T (10 + p) ∧ D 12 p = T (18 + p)) ∧
  (∀ d, 0 ≤ d → d < T 1 → D 13 d = T (150 + 4 * d) ∧ D 14 d = T (150 + 4 * d + 1) ∧ D 15 d = T (150 + 4 * d + 2) ∧ iand (ishr (D 4 14) d) 1 = T (150 + 4 * d + 3))
section M73
variable {E x1 x2 x3 x4 x5 n m s d p wh a b B : Int} {D D' D1 D2 : xD} {T tl first next tl' first' next' : Int → Int} {V : (Int → Int → Int → Int → Int) → Int} {Q : Option xv → xD → Prop}
theorem tnN_fr (h : ∀ a, 4 ≤ a → a ≤ 15 → D' a = D a) (H : tnN D T) : tnN D' T := by
  unfold tnN at H ⊢
  rw [h 4 (by decide) (by decide), h 5 (by decide) (by decide), h 6 (by decide) (by decide), h 7 (by decide) (by decide), h 8 (by decide) (by decide), h 9 (by decide) (by decide), h 10 (by decide) (by decide), h 11 (by decide) (by decide), h 12 (by decide) (by decide), h 13 (by decide) (by decide), h 14 (by decide) (by decide), h 15 (by decide) (by decide)]
  exact H
theorem aj_add (hE : 0 ≤ E ∧ E % 2 = 0) (H : ajOk E tl first next) (hab : a ≠ b) (ht : ∀ e, 0 ≤ e → e < E → tl' e = tl e) (h0 : tl' E = a) (h1 : tl' (E + 1) = b) (hf : ∀ n, first' n = if n = b then E + 1 else if n = a then E else first n) (hn : ∀ e, e < E → next' e = next e) (hn0 : next' E = first a) (hn1 : next' (E + 1) = first b) (ha : 0 ≤ a ∧ a < 120) (hb : 0 ≤ b ∧ b < 120) : ajOk (E + 2) tl' first' next' := by
  obtain ⟨j1, j2, j3, j4⟩ := H
  refine ⟨fun n n1 n2 => ?_, fun e e1 e2 => ?_, fun e e1 e2 => ?_, fun e e' q1 q2 q3 q4 => ?_⟩
  · rw [hf]
    by_cases c1 : n = b
    · rw [if_pos c1]; right; exact ⟨by omega, by rw [h1]; exact c1.symm⟩
    · rw [if_neg c1]
      by_cases c2 : n = a
      · rw [if_pos c2]; right; exact ⟨by omega, by rw [h0]; exact c2.symm⟩
      · rw [if_neg c2]
        rcases j1 n n1 n2 with q | ⟨q1, q2⟩
        · exact .inl q
        · exact .inr ⟨by omega, by rw [ht _ q1.1 q1.2]; exact q2⟩
  · by_cases c1 : e < E
    · rw [hn e c1]
      rcases j2 e e1 c1 with q | ⟨q1, q2⟩
      · exact .inl q
      · exact .inr ⟨q1, by rw [ht _ q1.1 (by omega), ht e e1 c1]; exact q2⟩
    · by_cases c2 : e = E
      · rw [c2, hn0, h0]
        rcases j1 a ha.1 ha.2 with q | ⟨q1, q2⟩
        · exact .inl q
        · exact .inr ⟨q1, by rw [ht _ q1.1 q1.2]; exact q2⟩
      · have c3 : e = E + 1 := by omega
        rw [c3, hn1, h1]
        rcases j1 b hb.1 hb.2 with q | ⟨q1, q2⟩
        · exact .inl q
        · exact .inr ⟨by omega, by rw [ht _ q1.1 q1.2]; exact q2⟩
  · rw [hf]
    by_cases c1 : e < E
    · rw [ht e e1 c1]
      have := j3 e e1 c1
      split
      · omega
      · split <;> omega
    · by_cases c2 : e = E
      · rw [c2, h0, if_neg hab, if_pos rfl]; omega
      · have c3 : e = E + 1 := by omega
        rw [c3, h1, if_pos rfl]; omega
  · by_cases c1 : e < E
    · rw [hn e c1]
      rw [ht e (by omega) c1, ht e' q1 (by omega)] at q4
      exact j4 e e' q1 q2 c1 q4
    · by_cases c2 : e = E
      · rw [c2, h0, ht e' q1 (by omega)] at q4
        rw [c2, hn0, ← q4]
        exact j3 e' q1 (by omega)
      · have c3 : e = E + 1 := by omega
        rw [c3, h1] at q4
        rw [c3, hn1]
        by_cases c4 : e' = E
        · rw [c4, h0] at q4; exact absurd q4 hab
        · rw [ht e' q1 (by omega)] at q4
          rw [← q4]
          exact j3 e' q1 (by omega)
theorem m31 (hI : ncI D V B) (hB : B + 2 ≤ 1016) (h1 : 0 ≤ x1 ∧ x1 < 120) (h2 : 0 ≤ x2 ∧ x2 < 120) (h12 : x1 ≠ x2) (hq : ∀ D' : xD, ncF D' D → ncI D' (fun f => V f + f x1 x2 x3 x4) (B + 2) → Q none D') :
    WP 124 xF1 none 31 0 [some (.inr (.inr (some 57))), some (.inl x1), some (.inl x2), some (.inl x3), some (.inl x4)] [] D Q := by
  obtain ⟨⟨e1, e2, e3⟩, hS, hJ, hN, hO⟩ := hI
  rw [seg31_0 (ha0 := ho57), cnX (by omega), brT (c := D 57 0 + 2 ≤ 1016) (by omega), seg32_0 (ha0 := ho57)]
  simp only [Nat.reduceAdd]
  rw [cnB (by omega), cnB (by omega), cnB (by omega), cnB (by omega), cnB (by omega), cnB (by omega), cnX (by omega)]
  simp only [Option.toList_some, Option.toList_none, List.cons_append, List.nil_append]
  obtain ⟨D1, hD1⟩ : ∃ D1, D1 = xup (xup (xup (xup (xup (xup D 60 (D 57 0) x2) 61 (D 57 0) x3) 62 (D 57 0) x4) 59 (D 57 0) (D 58 x1)) 58 x1 (D 57 0)) 57 0 (D 57 0 + 1) := ⟨_, rfl⟩
  rw [← hD1]
  have a57 : D1 57 0 = D 57 0 + 1 := by rw [hD1, up_eq]
  have a58 : ∀ j, D1 58 j = if j = x1 then D 57 0 else D 58 j := fun j => by rw [hD1, up_ne (by decide), up_at, up_ne (by decide), up_ne (by decide), up_ne (by decide), up_ne (by decide)]
  have a59 : ∀ j, D1 59 j = if j = D 57 0 then D 58 x1 else D 59 j := fun j => by rw [hD1, up_ne (by decide), up_ne (by decide), up_at, up_ne (by decide), up_ne (by decide), up_ne (by decide)]
  have a60 : ∀ j, D1 60 j = if j = D 57 0 then x2 else D 60 j := fun j => by rw [hD1, up_ne (by decide), up_ne (by decide), up_ne (by decide), up_ne (by decide), up_ne (by decide), up_at]
  have a61 : ∀ j, D1 61 j = if j = D 57 0 then x3 else D 61 j := fun j => by rw [hD1, up_ne (by decide), up_ne (by decide), up_ne (by decide), up_ne (by decide), up_at, up_ne (by decide)]
  have a62 : ∀ j, D1 62 j = if j = D 57 0 then x4 else D 62 j := fun j => by rw [hD1, up_ne (by decide), up_ne (by decide), up_ne (by decide), up_at, up_ne (by decide), up_ne (by decide)]
  have aF : ncF D1 D := fun a b1 b2 b3 b4 b5 b6 => by rw [hD1, up_ne b1, up_ne b2, up_ne b3, up_ne b6, up_ne b5, up_ne b4]
  have a57' : ∀ j, j ≠ 0 → D1 57 j = D 57 j := fun j hj => by rw [hD1, up_ne2 hj, up_ne (by decide), up_ne (by decide), up_ne (by decide), up_ne (by decide), up_ne (by decide)]
  clear hD1
  rw [seg31_22 (ha0 := ho57), seg32_0 (ha0 := ho57)]
  simp only [Nat.reduceAdd]
  rw [a57, cnB (by omega), cnB (by omega), cnB (by omega), cnB (by omega), cnB (by omega), cnB (by omega), cnX (by omega)]
  simp only [Option.toList_some, Option.toList_none, List.cons_append, List.nil_append]
  obtain ⟨D2, hD2⟩ : ∃ D2, D2 = xup (xup (xup (xup (xup (xup D1 60 (D 57 0 + 1) x1) 61 (D 57 0 + 1) 0) 62 (D 57 0 + 1) x4) 59 (D 57 0 + 1) (D1 58 x2)) 58 x2 (D 57 0 + 1)) 57 0 (D 57 0 + 1 + 1) := ⟨_, rfl⟩
  rw [← hD2, seg31_31 (ha0 := ho57)]
  have b57 : D2 57 0 = D 57 0 + 2 := by rw [hD2, up_eq]; omega
  have b58 : ∀ j, D2 58 j = if j = x2 then D 57 0 + 1 else if j = x1 then D 57 0 else D 58 j := fun j => by rw [hD2, up_ne (by decide), up_at, up_ne (by decide), up_ne (by decide), up_ne (by decide), up_ne (by decide), a58]
  have b59 : ∀ j, D2 59 j = if j = D 57 0 + 1 then D 58 x2 else if j = D 57 0 then D 58 x1 else D 59 j := fun j => by rw [hD2, up_ne (by decide), up_ne (by decide), up_at, up_ne (by decide), up_ne (by decide), up_ne (by decide), a59, a58, if_neg (show ¬ (x2 = x1) from fun z => h12 z.symm)]
  have b60 : ∀ j, D2 60 j = if j = D 57 0 + 1 then x1 else if j = D 57 0 then x2 else D 60 j := fun j => by rw [hD2, up_ne (by decide), up_ne (by decide), up_ne (by decide), up_ne (by decide), up_ne (by decide), up_at, a60]
  have b61 : ∀ j, D2 61 j = if j = D 57 0 + 1 then 0 else if j = D 57 0 then x3 else D 61 j := fun j => by rw [hD2, up_ne (by decide), up_ne (by decide), up_ne (by decide), up_ne (by decide), up_at, up_ne (by decide), a61]
  have b62 : ∀ j, D2 62 j = if j = D 57 0 + 1 then x4 else if j = D 57 0 then x4 else D 62 j := fun j => by rw [hD2, up_ne (by decide), up_ne (by decide), up_ne (by decide), up_at, up_ne (by decide), up_ne (by decide), a62]
  have bF : ncF D2 D := fun a b1 b2 b3 b4 b5 b6 => by rw [hD2, up_ne b1, up_ne b2, up_ne b3, up_ne b6, up_ne b5, up_ne b4]; exact aF a b1 b2 b3 b4 b5 b6
  clear hD2
  refine hq D2 bF ⟨by rw [b57]; omega, fun f => ?_, ?_, fun e q1 q2 => ?_, fun e q1 q2 q3 => ?_⟩
  · show ncS D2 f = V f + f x1 x2 x3 x4
    rw [← hS f]
    unfold ncS
    rw [b57, show ((D 57 0 + 2) / 2).toNat = (D 57 0 / 2).toNat + 1 by omega, smI_last]
    have ek : 2 * (0 + ((D 57 0 / 2).toNat : Int)) = D 57 0 := by omega
    rw [ek]
    congr 1
    · refine smI_congr _ _ (fun j j1 j2 => ?_)
      rw [b60, b60, b61, b62, if_neg (show ¬ (2 * j + 1 = D 57 0 + 1) by omega), if_neg (show ¬ (2 * j + 1 = D 57 0) by omega), if_neg (show ¬ (2 * j = D 57 0 + 1) by omega), if_neg (show ¬ (2 * j = D 57 0) by omega), if_neg (show ¬ (2 * j = D 57 0 + 1) by omega), if_neg (show ¬ (2 * j = D 57 0) by omega), if_neg (show ¬ (2 * j = D 57 0 + 1) by omega), if_neg (show ¬ (2 * j = D 57 0) by omega)]
    · rw [b60, b60, b61, b62, if_pos rfl, if_neg (show ¬ (D 57 0 = D 57 0 + 1) by omega), if_pos rfl, if_neg (show ¬ (D 57 0 = D 57 0 + 1) by omega), if_pos rfl, if_neg (show ¬ (D 57 0 = D 57 0 + 1) by omega), if_pos rfl]
  · rw [b57]
    refine aj_add (a := x1) (b := x2) ⟨e1, e3⟩ hJ h12 (fun e q1 q2 => ?_) ?_ ?_ (fun n => b58 n) (fun e q1 => ?_) ?_ ?_ h1 h2
    · show D2 60 (prI e) = D 60 (prI e)
      have := prI_rg ⟨e1, e3⟩ ⟨q1, q2⟩
      rw [b60, if_neg (by omega), if_neg (by omega)]
    · show D2 60 (prI (D 57 0)) = x1
      have : prI (D 57 0) = D 57 0 + 1 := by unfold prI; rw [if_pos e3]
      rw [this, b60, if_pos rfl]
    · show D2 60 (prI (D 57 0 + 1)) = x2
      have : prI (D 57 0 + 1) = D 57 0 := by unfold prI; rw [if_neg (by omega)]; omega
      rw [this, b60, if_neg (by omega), if_pos rfl]
    · rw [b59, if_neg (by omega), if_neg (by omega)]
    · rw [b59, if_neg (by omega), if_pos rfl]
    · rw [b59, if_pos rfl]
  · rw [b57] at q2
    rw [b60]
    by_cases c1 : e = D 57 0 + 1
    · rw [if_pos c1]; exact h1
    · rw [if_neg c1]
      by_cases c2 : e = D 57 0
      · rw [if_pos c2]; exact h2
      · rw [if_neg c2]; exact hN e q1 (by omega)
  · rw [b57] at q2
    rw [b61]
    by_cases c1 : e = D 57 0 + 1
    · rw [if_pos c1]
    · rw [if_neg c1, if_neg (by omega)]; exact hO e q1 (by omega) q3
theorem ncI_cg {V' : (Int → Int → Int → Int → Int) → Int} {B' : Int} (h : ncI D V B) (hV : ∀ f, V f = V' f) (hB : B ≤ B') : ncI D V' B' := by
  obtain ⟨⟨e1, e2, e3⟩, hS, hJ, hN, hO⟩ := h
  exact ⟨⟨e1, by omega, e3⟩, fun f => by rw [hS f, hV f], hJ, hN, hO⟩
theorem ncF_tr (h1 : ncF D2 D1) (h2 : ncF D1 D) : ncF D2 D := fun a b1 b2 b3 b4 b5 b6 => by rw [h1 a b1 b2 b3 b4 b5 b6, h2 a b1 b2 b3 b4 b5 b6]
theorem m30' (h : 0 ≤ p ∧ p < 8) (h2 : 0 ≤ m ∧ m ≤ 20) : WP 124 xF1 none 30 0 [some (.inl p), some (.inl m)] [] D Q = Q (some (.inl (13 * p + m))) D := by
  rw [m30 (by omega), Int.mul_comm]
theorem l28a (hT : tnW T) (H : tnN D T) (hm : 0 ≤ m ∧ m < 13) (hB : B + 12 ≤ 1016) (hq : ∀ (D' : xD), ncF D' D → ncI D' (fun f => V f + csA T f m (T 1).toNat) (B + 12) → WP 124 xF1 none 28 49 [some (.inr (.inr (some 57))), some (.inr (.inr (some 4))), some (.inl m), some (.inl 0)] [] D' Q) :
    ∀ (k d : Nat) (D' : xD), T 1 = d + k → ncF D' D → ncI D' (fun f => V f + csA T f m d) (B + 2 * d) → WP 124 xF1 none 28 2 [some (.inr (.inr (some 57))), some (.inr (.inr (some 4))), some (.inl m), some (.inl d)] [] D' Q := by
  have w := hT.1
  intro k
  induction k with
  | zero =>
    intro d D' h1 hF hI
    have H' : tnN D' T := tnN_fr (fun a a1 a2 => hF a (by omega) (by omega) (by omega) (by omega) (by omega) (by omega)) H
    rw [seg28_2 (ha0 := ho57) (ha1 := ho4), H'.1.2, brT (c := T 1 ≤ (d : Int)) (by omega)]
    rw [show (T 1).toNat = d by omega] at hq
    exact hq D' hF (ncI_cg hI (fun _ => rfl) (by omega))
  | succ k ih =>
    intro d D' h1 hF hI
    have H' : tnN D' T := tnN_fr (fun a a1 a2 => hF a (by omega) (by omega) (by omega) (by omega) (by omega) (by omega)) H
    obtain ⟨u1, u2, u3, u4⟩ := H'.2.2.2 d (by omega) (by omega)
    obtain ⟨v1, v2, v3, v4⟩ := hT.2.2.1 d (by omega) (by omega)
    have ed : (d : Int) + 1 = ((d + 1 : Nat) : Int) := by omega
    have nx : ∀ D2 : xD, ncF D2 D' → ncI D2 (fun f => V f + csA T f m (d + 1)) (B + 2 * d + 2) → WP 124 xF1 none 28 41 [some (.inr (.inr (some 57))), some (.inr (.inr (some 4))), some (.inl m), some (.inl (d : Int))] [] D2 Q := by
      intro D2 f1 f2
      rw [seg28_41 (ha0 := ho57) (ha1 := ho4), cnX (by omega), ed]
      exact ih (d + 1) D2 (by omega) (ncF_tr f1 hF) (ncI_cg f2 (fun _ => rfl) (by omega))
    rw [seg28_2 (ha0 := ho57) (ha1 := ho4), H'.1.2, brF (c := T 1 ≤ (d : Int)) (by omega), cnB (by omega)]
    simp only [Nat.reduceAdd]
    rw [u1, u2]
    by_cases c : m < T (150 + 4 * (d : Int) + 1)
    · rw [brT c]
      refine nx D' (fun _ _ _ _ _ _ _ => rfl) (ncI_cg hI (fun f => ?_) (by omega))
      unfold csA
      rw [smI_last, Int.zero_add, if_neg (by omega)]; omega
    · rw [brF c, cnX (by omega), cnB (by omega), m30' (by omega) (by omega)]
      simp only [Option.toList_some, Option.toList_none, List.cons_append, List.nil_append]
      rw [seg28_35 (ha0 := ho57) (ha1 := ho4) (hb2 := ho57)]
      refine m31 hI (by omega) (by omega) (by omega) (by omega) (fun D2 f1 f2 => ?_)
      simp only [Option.toList_some, Option.toList_none, List.cons_append, List.nil_append]
      refine nx D2 f1 (ncI_cg f2 (fun f => ?_) (by omega))
      unfold csA
      rw [smI_last, Int.zero_add, if_pos (by omega)]; omega
theorem l28b (hT : tnW T) (H : tnN D T) (hm : 0 ≤ m ∧ m < 13) (hB : B + 32 ≤ 1016) (hq : ∀ (D' : xD), ncF D' D → ncI D' (fun f => V f + csB T f m 8) (B + 32) → Q none D') :
    ∀ (k p : Nat) (D' : xD), 8 = p + k → ncF D' D → ncI D' (fun f => V f + csB T f m p) (B + 4 * p) → WP 124 xF1 none 28 49 [some (.inr (.inr (some 57))), some (.inr (.inr (some 4))), some (.inl m), some (.inl p)] [] D' Q := by
  intro k
  induction k with
  | zero =>
    intro p D' h1 hF hI
    rw [seg28_49 (ha0 := ho57) (ha1 := ho4), brT (c := (8 : Int) ≤ (p : Int)) (by omega)]
    have e : p = 8 := by omega
    subst e
    exact hq D' hF (ncI_cg hI (fun _ => rfl) (by omega))
  | succ k ih =>
    intro p D' h1 hF hI
    have H' : tnN D' T := tnN_fr (fun a a1 a2 => hF a (by omega) (by omega) (by omega) (by omega) (by omega) (by omega)) H
    obtain ⟨v1, v2⟩ := hT.2.2.2.2 p (by omega) (by omega)
    have ep : (p : Int) + 1 = ((p + 1 : Nat) : Int) := by omega
    have last : ∀ (D2 : xD), ncF D2 D' → ncI D2 (fun f => V f + csB T f m p + (if m < 12 then f (13 * (p : Int) + m) (13 * (p : Int) + (m + 1)) (T (10 + p)) (-1) else 0)) (B + 4 * p + 2) → WP 124 xF1 none 28 84 [some (.inr (.inr (some 57))), some (.inr (.inr (some 4))), some (.inl m), some (.inl (p : Int))] [] D2 Q := by
      intro D2 f1 f2
      have F2 := ncF_tr f1 hF
      have H2 : tnN D2 T := tnN_fr (fun a a1 a2 => F2 a (by omega) (by omega) (by omega) (by omega) (by omega) (by omega)) H
      have nx : ∀ D3 : xD, ncF D3 D → ncI D3 (fun f => V f + csB T f m (p + 1)) (B + 4 * p + 4) → WP 124 xF1 none 28 112 [some (.inr (.inr (some 57))), some (.inr (.inr (some 4))), some (.inl m), some (.inl (p : Int))] [] D3 Q := by
        intro D3 g1 g2
        rw [seg28_112 (ha0 := ho57) (ha1 := ho4), cnX (by omega), ep]
        exact ih (p + 1) D3 (by omega) g1 (ncI_cg g2 (fun _ => rfl) (by omega))
      rw [seg28_84 (ha0 := ho57) (ha1 := ho4), cnB (by omega)]
      simp only [Nat.reduceAdd]
      rw [(H2.2.2.1 p (by omega) (by omega)).2]
      by_cases c : T (18 + (p : Int)) ≤ 0
      · rw [brT c]
        refine nx D2 F2 (ncI_cg f2 (fun f => ?_) (by omega))
        unfold csB
        rw [smI_last, Int.zero_add, if_neg (show ¬ (0 < T (18 + (p : Int))) by omega)]; omega
      · rw [brF c, m30' (by omega) (by omega)]
        simp only [Option.toList_some, Option.toList_none, List.cons_append, List.nil_append]
        rw [seg28_99 (ha0 := ho57) (ha1 := ho4) (hb1 := ho57), cnX (by omega), cnX (by omega)]
        refine m31 f2 (by omega) (by omega) (by omega) (by omega) (fun D3 g1 g2 => ?_)
        simp only [Option.toList_some, Option.toList_none, List.cons_append, List.nil_append]
        refine nx D3 (ncF_tr g1 F2) (ncI_cg g2 (fun f => ?_) (by omega))
        unfold csB
        rw [smI_last, Int.zero_add, if_pos (show 0 < T (18 + (p : Int)) by omega)]; omega
    rw [seg28_49 (ha0 := ho57) (ha1 := ho4), brF (c := (8 : Int) ≤ (p : Int)) (by omega)]
    by_cases c : 12 ≤ m
    · rw [brT c]
      refine last D' (fun _ _ _ _ _ _ _ => rfl) (ncI_cg hI (fun f => ?_) (by omega))
      rw [if_neg (by omega)]; omega
    · rw [brF c, m30' (by omega) (by omega)]
      simp only [Option.toList_some, Option.toList_none, List.cons_append, List.nil_append]
      rw [seg28_67 (ha0 := ho57) (ha1 := ho4) (hb1 := ho57), cnX (by omega), m30' (by omega) (by omega)]
      simp only [Option.toList_some, Option.toList_none, List.cons_append, List.nil_append]
      rw [seg28_74 (ha0 := ho57) (ha1 := ho4) (hb2 := ho57), cnB (by omega)]
      simp only [Nat.reduceAdd]
      rw [(H'.2.2.1 p (by omega) (by omega)).1]
      refine m31 hI (by omega) (by omega) (by omega) (by omega) (fun D3 g1 g2 => ?_)
      simp only [Option.toList_some, Option.toList_none, List.cons_append, List.nil_append]
      refine last D3 g1 (ncI_cg g2 (fun f => ?_) (by omega))
      rw [if_pos (by omega)]
theorem m28 (hT : tnW T) (H : tnN D T) (hm : 0 ≤ m ∧ m < 13) (hB : B + 44 ≤ 1016) (hI : ncI D V B) (hq : ∀ (D' : xD), ncF D' D → ncI D' (fun f => V f + (csA T f m (T 1).toNat + csB T f m 8)) (B + 44) → Q none D') :
    WP 124 xF1 none 28 0 [some (.inr (.inr (some 57))), some (.inr (.inr (some 4))), some (.inl m), none] [] D Q := by
  rw [seg28_0 (ha0 := ho57) (ha1 := ho4)]
  have l := l28a (Q := Q) (V := V) (B := B) hT H hm (by omega) (fun D1 f1 f2 => ?_) (T 1).toNat 0 D (by have := hT.1; omega) (fun _ _ _ _ _ _ _ => rfl) (ncI_cg hI (fun f => by unfold csA; simp [smI]) (by omega))
  · exact l
  · have H1 : tnN D1 T := tnN_fr (fun a a1 a2 => f1 a (by omega) (by omega) (by omega) (by omega) (by omega) (by omega)) H
    have l := l28b (Q := Q) (V := fun f => V f + csA T f m (T 1).toNat) (B := B + 12) hT H1 hm (by omega) (fun D2 g1 g2 => ?_) 8 0 D1 rfl (fun _ _ _ _ _ _ _ => rfl) (ncI_cg f2 (fun f => by unfold csB; simp [smI]) (by omega))
    · exact l
    · exact hq D2 (ncF_tr g1 f1) (ncI_cg g2 (fun f => by omega) (by omega))
theorem idv2 (h : 1 ≤ n ∧ n ≤ 9) : idv n 2 = n / 2 := by
  rcases (show n = 1 ∨ n = 2 ∨ n = 3 ∨ n = 4 ∨ n = 5 ∨ n = 6 ∨ n = 7 ∨ n = 8 ∨ n = 9 by omega) with rfl | rfl | rfl | rfl | rfl | rfl | rfl | rfl | rfl <;> rfl
theorem fr_N (hT : tnW T) (H : tnN D T) (hs : 0 ≤ s ∧ s < T 0) : (if iand (ishr (T 5) s) 1 = 0 then D 5 s else D 6 s) = frM T s ∧ (if iand (ishr (T 5) s) 1 = 0 then D 6 s else D 5 s) = toM T s := by
  have w := hT.1
  obtain ⟨⟨a1, a2⟩, -⟩ := H.2.1 s hs.1 hs.2
  have hb := bit_01 (T 5) s.toNat (by omega)
  rw [show ((s.toNat : Nat) : Int) = s by omega] at hb
  unfold frM toM
  rw [a1, a2]
  rcases hb with e | e <;> rw [e] <;> simp
theorem l29 (hT : tnW T) (H : tnN D T) (hx2 : x2 = T 5) (hx3 : x3 = if wh = 2 then 1 else 0) (hm : 0 ≤ m ∧ m < 13) (hB : B + 32 ≤ 1016) (hq : ∀ (D' : xD), ncF D' D → ncI D' (fun f => V f + csE T wh f m (T 0).toNat) (B + 32) → Q none D') :
    ∀ (k s : Nat) (D' : xD) (o6 o7 o8 : Option xv), T 0 = s + k → ncF D' D → ncI D' (fun f => V f + csE T wh f m s) (B + 2 * s) → WP 124 xF1 none 29 3 [some (.inr (.inr (some 57))), some (.inr (.inr (some 4))), some (.inl x2), some (.inl x3), some (.inl m), some (.inl s), o6, o7, o8] [] D' Q := by
  have w := hT.1
  intro k
  induction k with
  | zero =>
    intro s D' o6 o7 o8 h1 hF hI
    have H' : tnN D' T := tnN_fr (fun a a1 a2 => hF a (by omega) (by omega) (by omega) (by omega) (by omega) (by omega)) H
    rw [seg29_3 (ha0 := ho57) (ha1 := ho4), H'.1.1, brT (c := T 0 ≤ (s : Int)) (by omega)]
    rw [show (T 0).toNat = s by omega] at hq
    exact hq D' hF (ncI_cg hI (fun _ => rfl) (by omega))
  | succ k ih =>
    intro s D' o6 o7 o8 h1 hF hI
    have H' : tnN D' T := tnN_fr (fun a a1 a2 => hF a (by omega) (by omega) (by omega) (by omega) (by omega) (by omega)) H
    obtain ⟨-, u2, u3, u4, u5⟩ := H'.2.1 s (by omega) (by omega)
    obtain ⟨v1, v2, v3, v4, v5, -⟩ := hT.2.1 s (by omega) (by omega)
    obtain ⟨r1, r2⟩ := fr_N hT H' ⟨by omega, show (s : Int) < T 0 by omega⟩
    have es : (s : Int) + 1 = ((s + 1 : Nat) : Int) := by omega
    have nx : ∀ (D2 : xD) (u6 u7 : Int) (o8 : Option xv), ncF D2 D' → ncI D2 (fun f => V f + csE T wh f m (s + 1)) (B + 2 * s + 2) → WP 124 xF1 none 29 113 [some (.inr (.inr (some 57))), some (.inr (.inr (some 4))), some (.inl x2), some (.inl x3), some (.inl m), some (.inl (s : Int)), some (.inl u6), some (.inl u7), o8] [] D2 Q := by
      intro D2 u6 u7 o8 f1 f2
      rw [seg29_113 (ha0 := ho57) (ha1 := ho4), cnX (by omega), es]
      exact ih (s + 1) D2 _ _ _ (by omega) (ncF_tr f1 hF) (ncI_cg f2 (fun _ => rfl) (by omega))
    have go : WP 124 xF1 none 29 57 [some (.inr (.inr (some 57))), some (.inr (.inr (some 4))), some (.inl x2), some (.inl x3), some (.inl m), some (.inl (s : Int)), some (.inl (m + tkS T wh s)), o7, o8] [.inl (wiS T wh s)] D' Q := by
      have tk : 1 ≤ tkS T wh s ∧ tkS T wh s ≤ 6 := by unfold tkS; split <;> omega
      rw [seg29_57 (ha0 := ho57) (ha1 := ho4), m97 (by omega), u4, u5]
      simp only [Option.toList_some, Option.toList_none, List.cons_append, List.nil_append]
      rw [seg29_67 (ha0 := ho57) (ha1 := ho4)]
      by_cases c1 : T (30 + 7 * (s : Int) + 4) ≤ m ∧ m ≤ T (30 + 7 * (s : Int) + 5)
      · rw [if_pos c1, brF (by decide)]
        by_cases c2 : 12 < m + tkS T wh s
        · rw [brT c2]
          refine nx D' _ _ _ (fun _ _ _ _ _ _ _ => rfl) (ncI_cg hI (fun f => ?_) (by omega))
          unfold csE
          rw [smI_last, Int.zero_add, if_neg (fun z => by omega)]; omega
        · rw [brF c2, m95 (by omega), hx2, r1]
          simp only [Option.toList_some, Option.toList_none, List.cons_append, List.nil_append]
          rw [seg29_84 (ha0 := ho57) (ha1 := ho4), m30' (by omega) (by omega)]
          simp only [Option.toList_some, Option.toList_none, List.cons_append, List.nil_append]
          rw [seg29_89 (ha0 := ho57) (ha1 := ho4), m96 (by omega), r2]
          simp only [Option.toList_some, Option.toList_none, List.cons_append, List.nil_append]
          rw [seg29_101 (ha0 := ho57) (ha1 := ho4) (hb2 := ho57), m30' (by omega) (by omega)]
          simp only [Option.toList_some, Option.toList_none, List.cons_append, List.nil_append]
          rw [seg29_106 (ha0 := ho57) (ha1 := ho4) (hb2 := ho57)]
          refine m31 hI (by omega) (by omega) (by omega) (by omega) (fun D2 f1 f2 => ?_)
          simp only [Option.toList_some, Option.toList_none, List.cons_append, List.nil_append]
          rw [← hx2]
          refine nx D2 _ _ _ f1 (ncI_cg f2 (fun f => ?_) (by omega))
          unfold csE
          rw [smI_last, Int.zero_add, if_pos ⟨c1, by omega⟩]; omega
      · rw [if_neg c1, brT rfl]
        refine nx D' _ _ _ (fun _ _ _ _ _ _ _ => rfl) (ncI_cg hI (fun f => ?_) (by omega))
        unfold csE
        rw [smI_last, Int.zero_add, if_neg (fun z => c1 z.1)]; omega
    rw [seg29_3 (ha0 := ho57) (ha1 := ho4), H'.1.1, brF (c := T 0 ≤ (s : Int)) (by omega), cnB (by omega)]
    simp only [Nat.reduceAdd]
    rw [u2, cnX (by omega)]
    unfold tkS wiS at go
    by_cases c : wh = 2
    · rw [if_pos c] at hx3
      rw [if_pos c, if_pos c] at go
      rw [brF (c := x3 = 0) (by omega), seg29_31 (ha0 := ho57) (ha1 := ho4), cnX (by omega), brF (c := x3 = 0) (by omega), cnB (by omega), cnT (by decide)]
      simp only [Nat.reduceAdd]
      rw [u3, idv2 v4, Int.add_assoc]
      exact go
    · rw [if_neg c] at hx3
      rw [if_neg c, if_neg c] at go
      rw [brT (c := x3 = 0) hx3, seg29_31 (ha0 := ho57) (ha1 := ho4), cnX (by omega), brT (c := x3 = 0) hx3, cnB (by omega)]
      simp only [Nat.reduceAdd]
      rw [u3, Int.add_assoc]
      exact go
theorem l27m (hT : tnW T) (H : tnN D T) (hx2 : x2 = T 5) (hB : B + 988 ≤ 1016) (hq : ∀ (D' : xD), ncF D' D → ncI D' (fun f => V f + smI (csM T wh f) 0 13) (B + 988) → Q none D') :
    ∀ (k m : Nat) (D' : xD), 13 = m + k → ncF D' D → ncI D' (fun f => V f + smI (csM T wh f) 0 m) (B + 76 * m) → WP 124 xF1 none 27 111 [some (.inr (.inr (some 57))), some (.inr (.inr (some 4))), some (.inl x2), some (.inl wh), some (.inl m)] [] D' Q := by
  intro k
  induction k with
  | zero =>
    intro m D' h1 hF hI
    rw [seg27_111 (ha0 := ho57) (ha1 := ho4), brT (c := (13 : Int) ≤ (m : Int)) (by omega)]
    have e : m = 13 := by omega
    subst e
    exact hq D' hF (ncI_cg hI (fun _ => rfl) (by omega))
  | succ k ih =>
    intro m D' h1 hF hI
    have H' : tnN D' T := tnN_fr (fun a a1 a2 => hF a (by omega) (by omega) (by omega) (by omega) (by omega) (by omega)) H
    have em : (m : Int) + 1 = ((m + 1 : Nat) : Int) := by omega
    rw [seg27_111 (ha0 := ho57) (ha1 := ho4), brF (c := (13 : Int) ≤ (m : Int)) (by omega)]
    refine m28 hT H' (m := (m : Int)) (by omega) (by omega) hI (fun D1 f1 f2 => ?_)
    simp only [Option.toList_some, Option.toList_none, List.cons_append, List.nil_append]
    have F1 := ncF_tr f1 hF
    have H1 : tnN D1 T := tnN_fr (fun a a1 a2 => F1 a (by omega) (by omega) (by omega) (by omega) (by omega) (by omega)) H
    have go : ∀ x3 : Int, (x3 = if wh = 2 then 1 else 0) → WP 124 xF1 none 27 138 [some (.inr (.inr (some 57))), some (.inr (.inr (some 4))), some (.inl x2), some (.inl wh), some (.inl (m : Int))] [.inl x3, .inl x2, .inr (.inr (some 4)), .inr (.inr (some 57))] D1 Q := by
      intro x3 hx3
      rw [seg27_138 (ha0 := ho57) (ha1 := ho4) (hb2 := ho4) (hb3 := ho57), seg29_0 (ha0 := ho57) (ha1 := ho4)]
      have l := l29 (Q := fun v D9 => WP 124 xF1 none 27 143 [some (.inr (.inr (some 57))), some (.inr (.inr (some 4))), some (.inl x2), some (.inl wh), some (.inl (m : Int))] (v.toList ++ []) D9 Q) (V := fun f => V f + smI (csM T wh f) 0 m + (csA T f m (T 1).toNat + csB T f m 8)) (B := B + 76 * m + 44) (wh := wh) hT H1 hx2 hx3 (m := (m : Int)) (by omega) (by omega) (fun D2 g1 g2 => ?_) (T 0).toNat 0 D1 none none none (by have := hT.1; omega) (fun _ _ _ _ _ _ _ => rfl) (ncI_cg f2 (fun f => by unfold csE; simp [smI]) (by omega))
      · exact l
      · simp only [Option.toList_some, Option.toList_none, List.cons_append, List.nil_append]
        rw [seg27_143 (ha0 := ho57) (ha1 := ho4), cnX (by omega), em]
        refine ih (m + 1) D2 (by omega) (ncF_tr g1 F1) (ncI_cg g2 (fun f => ?_) (by omega))
        rw [smI_last, Int.zero_add]
        unfold csM
        omega
    rw [seg27_125 (ha0 := ho57) (ha1 := ho4)]
    by_cases c : wh = 2
    · rw [brF (c := wh ≠ 2) (fun z => z c)]
      exact go 1 (by rw [if_pos c])
    · rw [brT (c := wh ≠ 2) c]
      exact go 0 (by rw [if_neg c])
theorem l27p (hT : tnW T) (H : tnN D T) (hB : B + 16 ≤ 1016) (hq : ∀ (D' : xD), ncF D' D → ncI D' (fun f => V f + csP T f 8) (B + 16) → WP 124 xF1 none 27 111 [some (.inr (.inr (some 57))), some (.inr (.inr (some 4))), some (.inl x2), some (.inl wh), some (.inl 0)] [] D' Q) :
    ∀ (k p : Nat) (D' : xD), 8 = p + k → ncF D' D → ncI D' (fun f => V f + csP T f p) (B + 2 * p) → WP 124 xF1 none 27 76 [some (.inr (.inr (some 57))), some (.inr (.inr (some 4))), some (.inl x2), some (.inl wh), some (.inl p)] [] D' Q := by
  intro k
  induction k with
  | zero =>
    intro p D' h1 hF hI
    rw [seg27_76 (ha0 := ho57) (ha1 := ho4), brT (c := (8 : Int) ≤ (p : Int)) (by omega)]
    have e : p = 8 := by omega
    subst e
    exact hq D' hF (ncI_cg hI (fun _ => rfl) (by omega))
  | succ k ih =>
    intro p D' h1 hF hI
    have H' : tnN D' T := tnN_fr (fun a a1 a2 => hF a (by omega) (by omega) (by omega) (by omega) (by omega) (by omega)) H
    have ep : (p : Int) + 1 = ((p + 1 : Nat) : Int) := by omega
    rw [seg27_76 (ha0 := ho57) (ha1 := ho4), brF (c := (8 : Int) ≤ (p : Int)) (by omega), cnX (by omega), cnB (by omega)]
    simp only [Nat.reduceAdd]
    rw [(H'.2.2.1 p (by omega) (by omega)).2]
    refine m31 hI (by omega) (by omega) (by omega) (by omega) (fun D2 f1 f2 => ?_)
    simp only [Option.toList_some, Option.toList_none, List.cons_append, List.nil_append]
    rw [seg27_102 (ha0 := ho57) (ha1 := ho4), cnX (by omega), ep]
    refine ih (p + 1) D2 (by omega) (ncF_tr f1 hF) (ncI_cg f2 (fun f => ?_) (by omega))
    unfold csP
    rw [smI_last, Int.zero_add]; omega
theorem l27d (hT : tnW T) (H : tnN D T) (hw : 0 ≤ wh ∧ wh ≤ 2) (hB : B + 12 ≤ 1016) (hq : ∀ (D' : xD), ncF D' D → ncI D' (fun f => V f + csD T wh f (T 1).toNat) (B + 12) → WP 124 xF1 none 27 76 [some (.inr (.inr (some 57))), some (.inr (.inr (some 4))), some (.inl x2), some (.inl wh), some (.inl 0)] [] D' Q) :
    ∀ (k d : Nat) (D' : xD), T 1 = d + k → ncF D' D → ncI D' (fun f => V f + csD T wh f d) (B + 2 * d) → WP 124 xF1 none 27 16 [some (.inr (.inr (some 57))), some (.inr (.inr (some 4))), some (.inl x2), some (.inl wh), some (.inl d)] [] D' Q := by
  have w := hT.1
  intro k
  induction k with
  | zero =>
    intro d D' h1 hF hI
    have H' : tnN D' T := tnN_fr (fun a a1 a2 => hF a (by omega) (by omega) (by omega) (by omega) (by omega) (by omega)) H
    rw [seg27_16 (ha0 := ho57) (ha1 := ho4), H'.1.2, brT (c := T 1 ≤ (d : Int)) (by omega)]
    rw [show (T 1).toNat = d by omega] at hq
    exact hq D' hF (ncI_cg hI (fun _ => rfl) (by omega))
  | succ k ih =>
    intro d D' h1 hF hI
    have H' : tnN D' T := tnN_fr (fun a a1 a2 => hF a (by omega) (by omega) (by omega) (by omega) (by omega) (by omega)) H
    obtain ⟨u1, u2, u3, u4⟩ := H'.2.2.2 d (by omega) (by omega)
    obtain ⟨v1, v2, v3, v4⟩ := hT.2.2.1 d (by omega) (by omega)
    have ed : (d : Int) + 1 = ((d + 1 : Nat) : Int) := by omega
    have nx : ∀ D2 : xD, ncF D2 D' → ncI D2 (fun f => V f + csD T wh f (d + 1)) (B + 2 * d + 2) → WP 124 xF1 none 27 67 [some (.inr (.inr (some 57))), some (.inr (.inr (some 4))), some (.inl x2), some (.inl wh), some (.inl (d : Int))] [] D2 Q := by
      intro D2 f1 f2
      rw [seg27_67 (ha0 := ho57) (ha1 := ho4), cnX (by omega), ed]
      exact ih (d + 1) D2 (by omega) (ncF_tr f1 hF) (ncI_cg f2 (fun _ => rfl) (by omega))
    have yes : (wh = 0 ∨ T (150 + 4 * (d : Int) + 3) = wh - 1) → WP 124 xF1 none 27 48 [some (.inr (.inr (some 57))), some (.inr (.inr (some 4))), some (.inl x2), some (.inl wh), some (.inl (d : Int))] [] D' Q := by
      intro c
      rw [seg27_48 (ha0 := ho57) (ha1 := ho4), cnX (by omega), cnB (by omega)]
      simp only [Nat.reduceAdd]
      rw [u3]
      refine m31 hI (by omega) (by omega) (by omega) (by omega) (fun D2 f1 f2 => ?_)
      simp only [Option.toList_some, Option.toList_none, List.cons_append, List.nil_append]
      refine nx D2 f1 (ncI_cg f2 (fun f => ?_) (by omega))
      unfold csD
      rw [smI_last, Int.zero_add, if_pos c]; omega
    have no : ¬ (wh = 0 ∨ T (150 + 4 * (d : Int) + 3) = wh - 1) → WP 124 xF1 none 27 67 [some (.inr (.inr (some 57))), some (.inr (.inr (some 4))), some (.inl x2), some (.inl wh), some (.inl (d : Int))] [] D' Q := by
      intro c
      refine nx D' (fun _ _ _ _ _ _ _ => rfl) (ncI_cg hI (fun f => ?_) (by omega))
      unfold csD
      rw [smI_last, Int.zero_add, if_neg c]; omega
    rw [seg27_16 (ha0 := ho57) (ha1 := ho4), H'.1.2, brF (c := T 1 ≤ (d : Int)) (by omega)]
    by_cases c : wh = 0
    · rw [brT c]; exact yes (.inl c)
    · rw [brF c, m98 ho4, u4]
      simp only [Option.toList_some, Option.toList_none, List.cons_append, List.nil_append]
      have e5 : (if T (150 + 4 * (d : Int) + 3) = 1 then (1 : Int) else 0) = T (150 + 4 * (d : Int) + 3) := by
        rcases v4 with e | e <;> rw [e] <;> rfl
      rw [seg27_35 (ha0 := ho57) (ha1 := ho4), e5]
      by_cases c2 : wh = 2
      · rw [brF (c := wh ≠ 2) (fun z => z c2), seg27_45 (ha0 := ho57) (ha1 := ho4)]
        by_cases c3 : T (150 + 4 * (d : Int) + 3) = 1
        · rw [brF (c := T (150 + 4 * (d : Int) + 3) ≠ 1) (fun z => z c3)]; exact yes (.inr (by omega))
        · rw [brT (c := T (150 + 4 * (d : Int) + 3) ≠ 1) c3]; exact no (by omega)
      · rw [brT (c := wh ≠ 2) c2, seg27_45 (ha0 := ho57) (ha1 := ho4)]
        by_cases c3 : T (150 + 4 * (d : Int) + 3) = 0
        · rw [brF (c := T (150 + 4 * (d : Int) + 3) ≠ 0) (fun z => z c3)]; exact yes (.inr (by omega))
        · rw [brT (c := T (150 + 4 * (d : Int) + 3) ≠ 0) c3]; exact no (by omega)
/-- the net is laid -/
theorem m27 (hT : tnW T) (H : tnN D T) (hx2 : x2 = T 5) (hw : 0 ≤ wh ∧ wh ≤ 2) (hq : ∀ (D' : xD), ncF D' D → ncI D' (csS T wh) 1016 → Q none D') :
    WP 124 xF1 none 27 0 [some (.inr (.inr (some 57))), some (.inr (.inr (some 4))), some (.inl x2), some (.inl wh), none] [] D Q := by
  rw [seg27_0 (ha0 := ho57) (ha1 := ho4), m240 (a := 57 + 1) (L := 120) rfl (by decide)]
  simp only [Option.toList_some, Option.toList_none, List.cons_append, List.nil_append, Nat.reduceAdd]
  rw [seg27_13 (ha0 := ho57) (ha1 := ho4)]
  obtain ⟨D1, hD1⟩ : ∃ D1, D1 = xfil (xup D 57 0 0) 58 0 (120 : Nat) (-1) := ⟨_, rfl⟩
  rw [← hD1]
  have F1 : ncF D1 D := fun a b1 b2 b3 b4 b5 b6 => by rw [hD1, fil_ne b2, up_ne b1]
  have e57 : D1 57 0 = 0 := by rw [hD1, fil_ne (by decide), up_eq]
  have e58 : ∀ n, 0 ≤ n → n < 120 → D1 58 n = -1 := fun n n1 n2 => by rw [hD1, fil_in ⟨n1, by omega⟩]
  clear hD1
  have H1 : tnN D1 T := tnN_fr (fun a a1 a2 => F1 a (by omega) (by omega) (by omega) (by omega) (by omega) (by omega)) H
  have I1 : ncI D1 (fun _ => 0) 0 := ⟨by rw [e57]; omega, fun f => by unfold ncS; rw [e57]; rfl, ⟨fun n n1 n2 => .inl (e58 n n1 n2), fun e q1 q2 => by rw [e57] at q2; omega, fun e q1 q2 => by rw [e57] at q2; omega, fun e e' q1 q2 q3 => by rw [e57] at q3; omega⟩, fun e q1 q2 => by rw [e57] at q2; omega, fun e q1 q2 => by rw [e57] at q2; omega⟩
  have l := l27d (Q := Q) (V := fun _ => 0) (B := 0) (x2 := x2) hT H1 hw (by omega) (fun D2 f1 f2 => ?_) (T 1).toNat 0 D1 (by have := hT.1; omega) (fun _ _ _ _ _ _ _ => rfl) (ncI_cg I1 (fun f => by unfold csD; simp [smI]) (by omega))
  · exact l
  · have F2 := ncF_tr f1 F1
    have H2 : tnN D2 T := tnN_fr (fun a a1 a2 => F2 a (by omega) (by omega) (by omega) (by omega) (by omega) (by omega)) H
    have l := l27p (Q := Q) (V := fun f => 0 + csD T wh f (T 1).toNat) (B := 12) (x2 := x2) (wh := wh) hT H2 (by omega) (fun D3 g1 g2 => ?_) 8 0 D2 rfl (fun _ _ _ _ _ _ _ => rfl) (ncI_cg f2 (fun f => by unfold csP; simp [smI]) (by omega))
    · exact l
    · have F3 := ncF_tr g1 F2
      have H3 : tnN D3 T := tnN_fr (fun a a1 a2 => F3 a (by omega) (by omega) (by omega) (by omega) (by omega) (by omega)) H
      have l := l27m (Q := Q) (V := fun f => 0 + csD T wh f (T 1).toNat + csP T f 8) (B := 28) (x2 := x2) (wh := wh) hT H3 hx2 (by omega) (fun D4 k1 k2 => ?_) 13 0 D3 rfl (fun _ _ _ _ _ _ _ => rfl) (ncI_cg g2 (fun f => by simp [smI]) (by omega))
      · exact l
      · refine hq D4 (ncF_tr k1 F3) (ncI_cg k2 (fun f => ?_) (by omega))
        unfold csS
        omega
end M73
