/-! people who go by signs: the class -/
theorem hl87 : xalen none 124 87 = some 8 := rfl
theorem hl89 : xalen none 124 89 = some 144 := rfl
def wcF (D' D : xD) : Prop := ∀ a, a ≠ 87 → a ≠ 88 → a ≠ 89 → a ≠ 90 → D' a = D a
/-- ahead of minute k -/
def wcJ (T : Int → Int) (fs fm : Int) (P : Int → Int → Int) (D' : xD) (k : Nat) : Prop :=
  (∀ p, 0 ≤ p → p < 8 → D' 87 p = (wkG T fs fm P k).1 p ∧ D' 88 p = (wkG T fs fm P k).2.1 p) ∧
  (∀ q u, 0 ≤ q → q < 8 → 0 ≤ u → u < 18 → D' 89 (q * 18 + u) = (wkG T fs fm P k).2.2 q u) ∧
  (∀ j : Nat, j < k → D' 90 j = wkO T fs fm P (j + 1))
/-- in minute k, at place m -/
def wcI (T : Int → Int) (fs fm : Int) (P : Int → Int → Int) (D' : xD) (k m : Nat) : Prop :=
  (∀ p, 0 ≤ p → p < 8 → D' 87 p = (if p < m then wk1 T (wkG T fs fm P k) k p - wkN T (wkG T fs fm P k) k p - wkE T fs fm P (wkG T fs fm P k) k p else (wkG T fs fm P k).1 p + wkD T k p) ∧ D' 88 p = (if p < m then (wkG T fs fm P k).2.1 p - wkN T (wkG T fs fm P k) k p else (wkG T fs fm P k).2.1 p)) ∧
  (∀ q u, 0 ≤ q → q < 8 → 0 ≤ u → u < 18 → D' 89 (q * 18 + u) = (wkG T fs fm P k).2.2 q u + smI (wkC T fs fm P (wkG T fs fm P k) k q u) 0 m) ∧
  (∀ j : Nat, j < k → D' 90 j = wkO T fs fm P (j + 1))
section M54
variable {x1 x2 x3 x4 x5 x6 s t p fs fm : Int} {D D' : xD} {T : Int → Int} {P : Int → Int → Int} {Q : Option xv → xD → Prop}
theorem tnC_fr (h : ∀ a, 3 ≤ a → a ≤ 15 → D' a = D a) (H : tnC D T) : tnC D' T := by
  unfold tnC frC toC at H ⊢
  rw [h 3 (by decide) (by decide), h 4 (by decide) (by decide), h 5 (by decide) (by decide), h 6 (by decide) (by decide), h 7 (by decide) (by decide), h 8 (by decide) (by decide), h 9 (by decide) (by decide), h 10 (by decide) (by decide), h 11 (by decide) (by decide), h 12 (by decide) (by decide), h 13 (by decide) (by decide), h 14 (by decide) (by decide), h 15 (by decide) (by decide)]
  exact H
theorem m109 (hT : tnW T) (H : tnC D T) (hp : 0 ≤ x2 ∧ x2 < 8) (ht : 0 ≤ x3 ∧ x3 ≤ 12) (hs : D 86 (13 * x2 + x3) = s) (hr : s = -1 ∨ (0 ≤ s ∧ s < T 0)) (h1 : 0 ≤ D 87 x2 ∧ D 87 x2 ≤ 100000)
    (h2 : wkOk T (D 85 5) (D 85 6) s x3 → 0 ≤ D 89 (toM T s * 18 + x3 + T (30 + 7 * s + 2)) ∧ D 89 (toM T s * 18 + x3 + T (30 + 7 * s + 2)) ≤ 100000)
    (q1 : wkOk T (D 85 5) (D 85 6) s x3 → Q none (xup (xup D 87 x2 (D 87 x2 - min (D 87 x2) (T (30 + 7 * s + 3)))) 89 (toM T s * 18 + x3 + T (30 + 7 * s + 2)) (D 89 (toM T s * 18 + x3 + T (30 + 7 * s + 2)) + min (D 87 x2) (T (30 + 7 * s + 3)))))
    (q2 : ¬ wkOk T (D 85 5) (D 85 6) s x3 → Q none D) : WP 124 xF1 none 109 0 [some (.inr (.inr (some 85))), some (.inr (.inr (some 3))), some (.inl x2), some (.inl x3), none, none] [] D Q := by
  obtain ⟨⟨w0, w1, w2, w3⟩, ws, -⟩ := id hT
  rw [seg109_0 (ha0 := ho85) (ha1 := ho3), cnX (by omega), cnX (by omega), cnB (by omega)]
  simp only [Nat.reduceAdd]
  rw [show x2 * 13 + x3 = 13 * x2 + x3 by omega, hs]
  by_cases c1 : s = -1
  · rw [brT c1, seg109_49 (ha0 := ho85) (ha1 := ho3)]
    exact q2 (fun z => z.1 c1)
  · have hs' := hr.resolve_left c1
    obtain ⟨⟨a1, a2⟩, a3, a4, a5, a6⟩ := H.2.1 s hs'.1 hs'.2
    obtain ⟨b1, b2, b3, b4, b5, -⟩ := ws s hs'.1 hs'.2
    rw [brF c1, m97 (by omega), a5, a6]
    simp only [Option.toList_some, Option.toList_none, List.cons_append, List.nil_append]
    rw [seg109_29 (ha0 := ho85) (ha1 := ho3)]
    by_cases c2 : T (30 + 7 * s + 4) ≤ x3 ∧ x3 ≤ T (30 + 7 * s + 5)
    · rw [if_pos c2, brF (by decide)]
      have go : wkOk T (D 85 5) (D 85 6) s x3 → WP 124 xF1 none 109 50 [some (.inr (.inr (some 85))), some (.inr (.inr (some 3))), some (.inl x2), some (.inl x3), some (.inl s), none] [] D Q := by
        intro ok
        have g2 := h2 ok
        have g1 := q1 ok
        rw [seg109_50 (ha0 := ho85) (ha1 := ho3), cnB (by omega), cnB (by omega), cnB (by omega)]
        simp only [Nat.reduceAdd]
        rw [a4, cnX (by omega), cnB (by omega), n79 (by omega)]
        simp only [Option.toList_some, Option.toList_none, List.cons_append, List.nil_append]
        rw [seg109_92 (ha0 := ho85) (ha1 := ho3) (hb1 := hl89)]
        have e1 : toC (xup D 87 x2 (D 87 x2 - min (D 87 x2) (T (30 + 7 * s + 3)))) s = toM T s := by
          rw [← a2]; unfold toC; rw [up_ne (by decide), up_ne (by decide), up_ne (by decide)]
        simp only [Nat.reduceAdd]
        rw [e1, up_ne (a := 87) (b := 7) (by decide), up_ne (a := 87) (b := 89) (by decide), a3, cnX (by omega), cnX (by omega), cnB (by omega), cnX (by omega), cnB (by omega), cnX (by omega), cnB (by omega)]
        exact g1
      by_cases c3 : s = D 85 5
      · rw [brF (c := s ≠ D 85 5) (fun z => z c3)]
        by_cases c4 : x3 < D 85 6
        · rw [brT c4]
          exact go ⟨c1, c2, fun z => by omega⟩
        · rw [brF c4, seg109_49 (ha0 := ho85) (ha1 := ho3)]
          exact q2 (fun z => z.2.2 ⟨c3, by omega⟩)
      · rw [brT (c := s ≠ D 85 5) c3]
        exact go ⟨c1, c2, fun z => c3 z.1⟩
    · rw [if_neg c2, brT rfl, seg109_49 (ha0 := ho85) (ha1 := ho3)]
      exact q2 (fun z => c2 z.2.1)
theorem l108d (hT : tnW T) (H : tnC D T) {k : Nat} (hk : k ≤ 12) {P : Int → Int → Int} (hP : wkP T P) (o7 : Option xv) : ∀ (m d : Nat) (D' : xD), T 1 = d + m → wcF D' D → (∀ a, a ≠ 87 → D' a = D a) →
    (∀ p, 0 ≤ p → p < 8 → D' 87 p = (wkG T fs fm P k).1 p + smI (fun d => if T (150 + 4 * d) = p ∧ T (150 + 4 * d + 1) = k then T (150 + 4 * d + 2) else 0) 0 d) →
    (∀ D'' : xD, (∀ a, a ≠ 87 → D'' a = D a) → (∀ p, 0 ≤ p → p < 8 → D'' 87 p = (wkG T fs fm P k).1 p + wkD T k p) → WP 124 xF1 none 108 126 [some (.inr (.inr (some 85))), some (.inr (.inr (some 3))), some (.inl x2), some (.inl x3), some (.inl x4), some (.inl k), some (.inl 0), o7] [] D'' Q) →
    WP 124 xF1 none 108 58 [some (.inr (.inr (some 85))), some (.inr (.inr (some 3))), some (.inl x2), some (.inl x3), some (.inl x4), some (.inl k), some (.inl d), o7] [] D' Q := by
  obtain ⟨⟨w0, w1, w2, w3⟩, ws, wd, -⟩ := id hT
  intro m
  induction m with
  | zero =>
    intro d D' h1 hF hA hth hc
    have H' : tnC D' T := tnC_fr (fun a a1 a2 => hA a (by omega)) H
    rw [seg108_58 (ha0 := ho85) (ha1 := ho3)]
    simp only [Nat.reduceAdd]
    rw [H'.1.2, brT (c := T 1 ≤ (d : Int)) (by omega)]
    refine hc D' hA (fun p p1 p2 => ?_)
    rw [hth p p1 p2]
    unfold wkD
    rw [show (T 1).toNat = d by omega]
  | succ m ih =>
    intro d D' h1 hF hA hth hc
    have H' : tnC D' T := tnC_fr (fun a a1 a2 => hA a (by omega)) H
    obtain ⟨u1, u2, u3, -⟩ := H'.2.2.2 d (by omega) (by omega)
    obtain ⟨v1, v2, v3, -⟩ := wd d (by omega) (by omega)
    have hB := wkG_bd (fs := fs) (fm := fm) hT hP k (by omega)
    have hd0 := hth (T (150 + 4 * (d : Int))) v1.1 (by omega)
    have hX := (hB.1 (T (150 + 4 * (d : Int))) v1.1 (by omega)).1
    have hsm := smI_bd (f := fun d => if T (150 + 4 * d) = T (150 + 4 * (d : Int)) ∧ T (150 + 4 * d + 1) = k then T (150 + 4 * d + 2) else 0) (B := 30) d 0 (fun j j1 j2 => by
      obtain ⟨-, -, u, -⟩ := wd j j1 (by omega)
      split <;> omega)
    have hsm' := smI_bd (f := fun e => if T (150 + 4 * e) = T (150 + 4 * (d : Int)) ∧ T (150 + 4 * e + 1) = k then T (150 + 4 * e + 2) else 0) (B := 30) d 0 (fun j j1 j2 => by
      obtain ⟨-, -, u, -⟩ := wd j j1 (by omega)
      split <;> omega)
    have b0 : 0 ≤ D' 87 (T (150 + 4 * (d : Int))) ∧ D' 87 (T (150 + 4 * (d : Int))) ≤ 50000 := by rw [hd0]; omega
    have e : (d : Int) + 1 = ((d + 1 : Nat) : Int) := by omega
    rw [seg108_58 (ha0 := ho85) (ha1 := ho3)]
    simp only [Nat.reduceAdd]
    rw [H'.1.2, brF (c := T 1 ≤ (d : Int)) (by omega), u1, u2, u3, cnB (by omega), cnB (by omega), cnB (by omega)]
    have fin : ∀ v : Int, v = (if T (150 + 4 * (d : Int) + 1) = k then T (150 + 4 * (d : Int) + 2) else 0) → WP 124 xF1 none 108 115 [some (.inr (.inr (some 85))), some (.inr (.inr (some 3))), some (.inl x2), some (.inl x3), some (.inl x4), some (.inl k), some (.inl d), o7] [.inl v, .inl (D' 87 (T (150 + 4 * (d : Int)))), .inl (T (150 + 4 * (d : Int))), .inr (.inr (some 87))] D' Q := by
      intro v hv
      have vb : 0 ≤ v ∧ v ≤ 30 := by rw [hv]; split <;> omega
      rw [seg108_115 (ha0 := ho85) (ha1 := ho3) (hb3 := hl87), cnX (by omega), cnB (by omega), cnX (by omega), e]
      refine ih (d + 1) _ (by omega) (fun a a1 a2 a3 a4 => by rw [up_ne a1]; exact hF a a1 a2 a3 a4) (fun a a1 => by rw [up_ne a1]; exact hA a a1) (fun p p1 p2 => ?_) hc
      rw [up_at, smI_last]
      by_cases c : p = T (150 + 4 * (d : Int))
      · rw [if_pos c, ← c, hth p p1 p2, hv, Int.zero_add]
        by_cases c2 : T (150 + 4 * (d : Int) + 1) = k
        · rw [if_pos c2, if_pos ⟨c.symm, c2⟩]; omega
        · rw [if_neg c2, if_neg (fun z => c2 z.2)]; omega
      · rw [if_neg c, hth p p1 p2, Int.zero_add, if_neg (fun z => c z.1.symm)]; omega
    by_cases c : T (150 + 4 * (d : Int) + 1) = k
    · rw [brF (c := T (150 + 4 * (d : Int) + 1) ≠ k) (fun z => z c), cnB (by omega)]
      exact fin _ (by rw [if_pos c])
    · rw [brT (c := T (150 + 4 * (d : Int) + 1) ≠ k) c]
      exact fin _ (by rw [if_neg c])
theorem l108p (hT : tnW T) (H : tnC D T) {k : Nat} (hk : k ≤ 12) (hP : wkP T P) (h5 : D 85 5 = fs) (h6 : D 85 6 = fm) (hp : ∀ p, 0 ≤ p → p < 8 → D 86 (13 * p + k) = P p k) : ∀ (n m : Nat) (D' : xD) (o7 : Option xv), 8 = m + n → wcF D' D → wcI T fs fm P D' k m →
    (∀ (D'' : xD) (o7 : Option xv), wcF D'' D → wcI T fs fm P D'' k 8 → WP 124 xF1 none 108 126 [some (.inr (.inr (some 85))), some (.inr (.inr (some 3))), some (.inl x2), some (.inl (wkO T fs fm P (k + 1))), some (.inl x4), some (.inl k), some (.inl 8), o7] [] D'' Q) →
    WP 124 xF1 none 108 126 [some (.inr (.inr (some 85))), some (.inr (.inr (some 3))), some (.inl x2), some (.inl (wkO T fs fm P k + smI (wkN T (wkG T fs fm P k) k) 0 m)), some (.inl x4), some (.inl k), some (.inl m), o7] [] D' Q := by
  obtain ⟨⟨w0, w1, w2, w3⟩, ws, wd, -⟩ := id hT
  have hB := wkG_bd (fs := fs) (fm := fm) hT hP k (by omega)
  intro n
  induction n with
  | zero =>
    intro m D' o7 h1 hF hI hc
    have : m = 8 := by omega
    subst this
    exact hc D' o7 hF hI
  | succ n ih =>
    intro m D' o7 h1 hF hI hc
    have H' : tnC D' T := tnC_fr (fun a a1 a2 => hF a (by omega) (by omega) (by omega) (by omega)) H
    obtain ⟨i1, i2, i3⟩ := id hI
    obtain ⟨t1, t2⟩ := i1 m (by omega) (by omega)
    rw [if_neg (by omega)] at t1 t2
    have t3 := i2 m k (by omega) (by omega) (by omega) (by omega)
    have z0 : smI (wkC T fs fm P (wkG T fs fm P k) k m k) 0 m = 0 := smI_0 _ _ (fun j j1 j2 => by
      unfold wkC
      by_cases c : wkOk T fs fm (P j k) k
      · have hs := (hP j k j1 (by omega) (by omega) (by omega)).resolve_left c.1
        obtain ⟨-, -, u, -⟩ := ws _ hs.1 hs.2
        rw [if_neg (fun z => by omega)]
      · have : wkE T fs fm P (wkG T fs fm P k) k j = 0 := by unfold wkE; rw [if_neg c]
        rw [this, ite_self])
    rw [z0, Int.add_zero] at t3
    obtain ⟨⟨b1, b2⟩, ⟨b3, b4, b5, b6⟩, ⟨b7, b8, b9⟩⟩ := wkE_bd (fs := fs) (fm := fm) (P := P) hT hP hB (p := m) (t := k) (by omega) (by omega)
    obtain ⟨⟨c1, c2⟩, c3, c4⟩ := hB.1 m (by omega) (by omega)
    have c5 := hB.2 m k
    have c6 := wkD_bd hT k m
    have o1 := wkO_bd (fs := fs) (fm := fm) hT hP k (by omega)
    have o2 := wkN_bd (fs := fs) (fm := fm) hT hP k m (by omega) (by omega)
    have e1 : D' 87 m + D' 89 ((m : Int) * 18 + k) = wk1 T (wkG T fs fm P k) k m := by rw [t1, t3]; rfl
    have e2 : min (D' 87 m + D' 89 ((m : Int) * 18 + k)) (D' 88 m) = wkN T (wkG T fs fm P k) k m := by rw [e1, t2]; rfl
    have e3 : min (wk1 T (wkG T fs fm P k) k m) (D' 88 m) = wkN T (wkG T fs fm P k) k m := by rw [t2]; rfl
    have em : (m : Int) + 1 = ((m + 1 : Nat) : Int) := by omega
    rw [seg108_126 (ha0 := ho85) (ha1 := ho3), brF (c := (8 : Int) ≤ m) (by omega)]
    simp only [Nat.reduceAdd]
    rw [e1, e3, cnB (by omega), cnX (by omega), cnX (by omega), cnB (by omega), cnX (by omega), cnB (by omega), cnB (by omega), cnB (by omega), cnB (by omega), cnX (by omega), cnB (by omega), cnB (by omega), cnX (by omega), cnB (by omega), cnX (by omega)]
    obtain ⟨D1, hD1⟩ : ∃ D1, D1 = xup (xup (xup D' 87 m (wk1 T (wkG T fs fm P k) k m)) 87 m (wk1 T (wkG T fs fm P k) k m - wkN T (wkG T fs fm P k) k m)) 88 m (D' 88 m - wkN T (wkG T fs fm P k) k m) := ⟨_, rfl⟩
    rw [← hD1]
    have g0 : ∀ a, a ≠ 87 → a ≠ 88 → D1 a = D' a := fun a a1 a2 => by rw [hD1, up_ne a2, up_ne a1, up_ne a1]
    have g1 : ∀ p, D1 87 p = if p = m then wk1 T (wkG T fs fm P k) k m - wkN T (wkG T fs fm P k) k m else D' 87 p := fun p => by
      rw [hD1, up_ne (by decide), up_at, up_at]
      by_cases c : p = m
      · rw [if_pos c, if_pos c]
      · rw [if_neg c, if_neg c, if_neg c]
    have g2 : ∀ p, D1 88 p = if p = m then (wkG T fs fm P k).2.1 m - wkN T (wkG T fs fm P k) k m else D' 88 p := fun p => by
      rw [hD1, up_at, up_ne (by decide), up_ne (by decide), t2]
    clear hD1
    have g85 : D1 85 = D 85 := by rw [g0 85 (by decide) (by decide), hF 85 (by decide) (by decide) (by decide) (by decide)]
    have g86 : D1 86 (13 * (m : Int) + k) = P m k := by rw [g0 86 (by decide) (by decide), hF 86 (by decide) (by decide) (by decide) (by decide), hp m (by omega) (by omega)]
    have H1 : tnC D1 T := tnC_fr (fun a a1 a2 => by rw [g0 a (by omega) (by omega)]) H'
    have v87 : D1 87 m = wk1 T (wkG T fs fm P k) k m - wkN T (wkG T fs fm P k) k m := by rw [g1, if_pos rfl]
    have g89 : D1 89 = D' 89 := g0 89 (by decide) (by decide)
    have en : wkO T fs fm P k + smI (wkN T (wkG T fs fm P k) k) 0 m + wkN T (wkG T fs fm P k) k m = wkO T fs fm P k + smI (wkN T (wkG T fs fm P k) k) 0 (m + 1) := by rw [smI_last, Int.zero_add]; omega
    have nx : ∀ D2 : xD, wcF D2 D → wcI T fs fm P D2 k (m + 1) → WP 124 xF1 none 108 213 [some (.inr (.inr (some 85))), some (.inr (.inr (some 3))), some (.inl x2), some (.inl (wkO T fs fm P k + smI (wkN T (wkG T fs fm P k) k) 0 m + wkN T (wkG T fs fm P k) k m)), some (.inl x4), some (.inl k), some (.inl m), some (.inl (wkN T (wkG T fs fm P k) k m))] [] D2 Q := by
      intro D2 f1 f2
      rw [seg108_213 (ha0 := ho85) (ha1 := ho3), cnX (by omega), em, en]
      exact ih (m + 1) D2 _ (by omega) f1 f2 hc
    refine m109 (s := P m k) hT H1 (by omega) (by omega) g86 (hP m k (by omega) (by omega) (by omega) (by omega)) (by rw [v87]; omega) (fun ok => ?_) (fun ok => ?_) (fun ok => ?_)
    · have hs := (hP m k (by omega) (by omega) (by omega) (by omega)).resolve_left ok.1
      obtain ⟨-, u2, u3, -⟩ := ws _ hs.1 hs.2
      have q1 := i2 (toM T (P m k)) (k + T (30 + 7 * P m k + 2)) u2.1 (by omega) (by omega) (by omega)
      rw [g89, Int.add_assoc, q1]
      have q2 := hB.2 (toM T (P m k)) (k + T (30 + 7 * P m k + 2))
      have q3 := wkC_bd (fs := fs) (fm := fm) (q := toM T (P m k)) (u := k + T (30 + 7 * P m k + 2)) hT hP hB (t := k) (by omega) m (by omega)
      omega
    · rw [g85, h5, h6] at ok
      have hs := (hP m k (by omega) (by omega) (by omega) (by omega)).resolve_left ok.1
      obtain ⟨-, u2, u3, -⟩ := ws _ hs.1 hs.2
      have eE : min (wk1 T (wkG T fs fm P k) k m - wkN T (wkG T fs fm P k) k m) (T (30 + 7 * P m k + 3)) = wkE T fs fm P (wkG T fs fm P k) k m := by unfold wkE; rw [if_pos ok]
      rw [v87, eE]
      simp only [Option.toList_none, List.nil_append]
      refine nx _ (fun a a1 a2 a3 a4 => ?_) ⟨fun p p1 p2 => ⟨?_, ?_⟩, fun q u q1 q2 u1 u2' => ?_, fun j hj => ?_⟩
      · rw [up_ne a3, up_ne a1, g0 a a1 a2]; exact hF a a1 a2 a3 a4
      · rw [up_ne (by decide), up_at, g1]
        by_cases c : p = m
        · rw [if_pos c, if_pos (by omega), c]
        · rw [if_neg c, if_neg c, (i1 p p1 p2).1]
          by_cases c' : p < m
          · rw [if_pos c', if_pos (by omega)]
          · rw [if_neg c', if_neg (by omega)]
      · rw [up_ne (by decide), up_ne (by decide), g2]
        by_cases c : p = m
        · rw [if_pos c, if_pos (by omega), c]
        · rw [if_neg c, (i1 p p1 p2).2]
          by_cases c' : p < m
          · rw [if_pos c', if_pos (by omega)]
          · rw [if_neg c', if_neg (by omega)]
      · rw [up_at, smI_last, Int.zero_add, up_ne (by decide), g89]
        have q3 := i2 q u q1 q2 u1 u2'
        by_cases c : toM T (P m k) = q ∧ (k : Int) + T (30 + 7 * P m k + 2) = u
        · rw [if_pos (by omega), show toM T (P m k) * 18 + k + T (30 + 7 * P m k + 2) = q * 18 + u by omega, q3]
          have : wkC T fs fm P (wkG T fs fm P k) k q u m = wkE T fs fm P (wkG T fs fm P k) k m := by unfold wkC; rw [if_pos c]
          rw [this]; omega
        · rw [if_neg (by omega), q3]
          have : wkC T fs fm P (wkG T fs fm P k) k q u m = 0 := by unfold wkC; rw [if_neg c]
          rw [this]; omega
      · rw [up_ne (by decide), up_ne (by decide), g0 90 (by decide) (by decide)]; exact i3 j hj
    · rw [g85, h5, h6] at ok
      have eE : wkE T fs fm P (wkG T fs fm P k) k m = 0 := by unfold wkE; rw [if_neg ok]
      simp only [Option.toList_none, List.nil_append]
      refine nx _ (fun a a1 a2 a3 a4 => ?_) ⟨fun p p1 p2 => ⟨?_, ?_⟩, fun q u q1 q2 u1 u2' => ?_, fun j hj => ?_⟩
      · rw [g0 a a1 a2]; exact hF a a1 a2 a3 a4
      · rw [g1]
        by_cases c : p = m
        · rw [if_pos c, if_pos (by omega), c, eE]; omega
        · rw [if_neg c, (i1 p p1 p2).1]
          by_cases c' : p < m
          · rw [if_pos c', if_pos (by omega)]
          · rw [if_neg c', if_neg (by omega)]
      · rw [g2]
        by_cases c : p = m
        · rw [if_pos c, if_pos (by omega), c]
        · rw [if_neg c, (i1 p p1 p2).2]
          by_cases c' : p < m
          · rw [if_pos c', if_pos (by omega)]
          · rw [if_neg c', if_neg (by omega)]
      · rw [smI_last, Int.zero_add, g89, i2 q u q1 q2 u1 u2']
        have : wkC T fs fm P (wkG T fs fm P k) k q u m = 0 := by unfold wkC; rw [eE, ite_self]
        rw [this]; omega
      · rw [g0 90 (by decide) (by decide)]; exact i3 j hj
theorem l108m (hT : tnW T) (H : tnC D T) (hP : wkP T P) (h5 : D 85 5 = fs) (h6 : D 85 6 = fm) (hx2 : x2 ≤ 12) (hp : ∀ p t, 0 ≤ p → p < 8 → 0 ≤ t → t ≤ x2 → D 86 (13 * p + t) = P p t) : ∀ (n k : Nat) (D' : xD) (o6 o7 : Option xv), x2 + 1 = k + n → wcF D' D → wcJ T fs fm P D' k →
    (∀ (D'' : xD), wcF D'' D → wcJ T fs fm P D'' (k + n) → Q (some (.inl (wkZ T fs fm P (k + n)))) D'') →
    WP 124 xF1 none 108 42 [some (.inr (.inr (some 85))), some (.inr (.inr (some 3))), some (.inl x2), some (.inl (wkO T fs fm P k)), some (.inl (wkZ T fs fm P k)), some (.inl k), o6, o7] [] D' Q := by
  obtain ⟨⟨w0, w1, w2, w3⟩, -⟩ := id hT
  intro n
  induction n with
  | zero =>
    intro k D' o6 o7 h1 hF hJ hc
    rw [seg108_42 (ha0 := ho85) (ha1 := ho3), brT (c := x2 < (k : Int)) (by omega), seg108_239 (ha0 := ho85) (ha1 := ho3)]
    exact hc D' hF hJ
  | succ n ih =>
    intro k D' o6 o7 h1 hF hJ hc
    have H' : tnC D' T := tnC_fr (fun a a1 a2 => hF a (by omega) (by omega) (by omega) (by omega)) H
    have hf85 : D' 85 = D 85 := hF 85 (by decide) (by decide) (by decide) (by decide)
    have hf86 : D' 86 = D 86 := hF 86 (by decide) (by decide) (by decide) (by decide)
    rw [seg108_42 (ha0 := ho85) (ha1 := ho3), brF (c := x2 < (k : Int)) (by omega), brF (c := (13 : Int) ≤ (k : Int)) (by omega)]
    obtain ⟨j1, j2, j3⟩ := hJ
    refine l108d (fs := fs) (fm := fm) (P := P) hT H' (k := k) (by omega) hP o7 (T 1).toNat 0 D' (by omega) (fun _ _ _ _ _ => rfl) (fun _ _ => rfl) (fun p p1 p2 => ?_) (fun D1 f1 f2 => ?_)
    · rw [(j1 p p1 p2).1]; simp [smI]
    · have z : wkO T fs fm P k = wkO T fs fm P k + smI (wkN T (wkG T fs fm P k) k) 0 (0 : Nat) := by simp [smI]
      have F1 : wcF D1 D := fun a a1 a2 a3 a4 => by rw [f1 a a1]; exact hF a a1 a2 a3 a4
      have l := l108p (x2 := x2) (x4 := wkZ T fs fm P k) (Q := Q) (D := D) hT H (k := k) (by omega) hP h5 h6 (fun p p1 p2 => hp p k p1 p2 (by omega) (by omega)) 8 0 D1 o7 rfl F1 ⟨fun p p1 p2 => ⟨?_, ?_⟩, fun q u q1 q2 u1 u2 => ?_, fun j hj => ?_⟩ (fun D2 o f3 f4 => ?_)
      · rw [← z] at l
        exact l
      · rw [if_neg (by omega)]; exact f2 p p1 p2
      · rw [if_neg (by omega), f1 88 (by decide)]; exact (j1 p p1 p2).2
      · rw [f1 89 (by decide), j2 q u q1 q2 u1 u2]; simp [smI]
      · rw [f1 90 (by decide)]; exact j3 j hj
      · have o1 := wkO_bd (fs := fs) (fm := fm) hT hP (k + 1) (by omega)
        have o2 := wkZ_bd (fs := fs) (fm := fm) hT hP k (by omega)
        have ek : (k : Int) + 1 = ((k + 1 : Nat) : Int) := by omega
        rw [seg108_126 (ha0 := ho85) (ha1 := ho3), brT (c := (8 : Int) ≤ 8) (by decide), cnB (by omega), cnX (by omega), cnX (by omega), ek]
        simp only [Nat.reduceAdd]
        show WP 124 xF1 none 108 42 [some (.inr (.inr (some 85))), some (.inr (.inr (some 3))), some (.inl x2), some (.inl (wkO T fs fm P (k + 1))), some (.inl (wkZ T fs fm P (k + 1))), some (.inl ((k + 1 : Nat) : Int)), some (.inl 8), o] [] _ Q
        obtain ⟨i1, i2, i3⟩ := f4
        refine ih (k + 1) _ _ _ (by omega) (fun a a1 a2 a3 a4 => by rw [up_ne a4]; exact f3 a a1 a2 a3 a4) ⟨fun p p1 p2 => ?_, fun q u q1 q2 u1 u2 => ?_, fun j hj => ?_⟩ (fun D3 g1 g2 => ?_)
        · obtain ⟨r1, r2⟩ := i1 p p1 p2
          rw [if_pos (by omega)] at r1 r2
          rw [up_ne (by decide), up_ne (by decide), r1, r2]
          exact ⟨rfl, rfl⟩
        · rw [up_ne (by decide), i2 q u q1 q2 u1 u2]
          rfl
        · rw [up_at]
          by_cases c : j = k
          · rw [if_pos (by omega), c]
          · rw [if_neg (by omega)]; exact i3 j (by omega)
        · have : k + 1 + n = k + (n + 1) := by omega
          rw [this] at g2 ⊢
          exact hc D3 g1 g2
/-- people go up to minute x2 -/
theorem m108 (hT : tnW T) (H : tnC D T) (hP : wkP T P) (h5 : D 85 5 = fs) (h6 : D 85 6 = fm) {n : Nat} (hn : x2 + 1 = n) (hx2 : x2 ≤ 12) (hp : ∀ p t, 0 ≤ p → p < 8 → 0 ≤ t → t ≤ x2 → D 86 (13 * p + t) = P p t)
    (hc : ∀ (D'' : xD), wcF D'' D → wcJ T fs fm P D'' n → Q (some (.inl (wkZ T fs fm P n))) D'') :
    WP 124 xF1 none 108 0 [some (.inr (.inr (some 85))), some (.inr (.inr (some 3))), some (.inl x2), none, none, none, none, none] [] D Q := by
  rw [seg108_0 (ha0 := ho85) (ha1 := ho3), m240 (a := 85 + 2) (L := 8) rfl (by decide)]
  simp only [Option.toList_some, Option.toList_none, List.cons_append, List.nil_append, Nat.reduceAdd]
  rw [seg108_8 (ha0 := ho85) (ha1 := ho3), m240 (a := 85 + 4) (L := 144) rfl (by decide)]
  simp only [Option.toList_some, Option.toList_none, List.cons_append, List.nil_append, Nat.reduceAdd]
  rw [seg108_16 (ha0 := ho85) (ha1 := ho3), cnT (by decide)]
  simp only [Nat.reduceAdd]
  have f1 : wcF (xcpy (xfil (xfil D 87 0 (8 : Nat) 0) 89 0 (144 : Nat) 0) 12 88 0 0 8) D := fun a a1 a2 a3 a4 => by rw [cpy_ne a2, fil_ne a3, fil_ne a1]
  refine l108m (fs := fs) (fm := fm) (P := P) (D := D) hT H hP h5 h6 hx2 hp n 0 _ _ _ (by omega) f1 ⟨fun p p1 p2 => ⟨?_, ?_⟩, fun q u q1 q2 u1 u2 => ?_, fun j hj => by omega⟩ (fun D3 g1 g2 => ?_)
  · rw [cpy_ne (by decide), fil_ne (by decide), fil_in (by omega)]; rfl
  · rw [cpy_in (by omega), fil_ne (by decide), fil_ne (by decide), (H.2.2.1 p p1 p2).2]; rfl
  · rw [cpy_ne (by decide), fil_in (by omega)]; rfl
  · rw [show 0 + n = n by omega] at g2 ⊢
    exact hc D3 g1 g2
theorem l110i {x1 : Int} (h1 : 0 ≤ x1 ∧ x1 ≤ 12) {g : Int → Int → Int} (hx3 : 0 ≤ x3 ∧ x3 < 8) (hg : ∀ q u, 0 ≤ q → q < 8 → 0 ≤ u → u < 18 → D 89 (q * 18 + u) = g q u ∧ 0 ≤ g q u ∧ g q u ≤ 1000) : ∀ (k : Nat) (x2 x4 : Int), 18 = x4 + k → 0 ≤ x4 → 0 ≤ x2 → x2 ≤ 20000 * x3 + 1000 * x4 → WP 124 xF1 none 110 15 [some (.inr (.inr (some 85))), some (.inl x1), some (.inl x2), some (.inl x3), some (.inl x4)] [] D Q = WP 124 xF1 none 110 4 [some (.inr (.inr (some 85))), some (.inl x1), some (.inl (x2 + smI (fun u => g x3 u) x4 k)), some (.inl (x3 + 1)), some (.inl 18)] [] D Q := by
  intro k
  induction k with
  | zero =>
    intro x2 x4 e1 e2 e3 e4
    rw [seg110_15 (ha0 := ho85), brT (c := 18 ≤ x4) (by omega), cnX (by omega), show x4 = 18 by omega]
    simp [smI]
  | succ k ih =>
    intro x2 x4 e1 e2 e3 e4
    obtain ⟨r1, r2, r3⟩ := hg x3 x4 hx3.1 hx3.2 e2 (by omega)
    rw [seg110_15 (ha0 := ho85), brF (c := 18 ≤ x4) (by omega)]
    simp only [Nat.reduceAdd]
    rw [r1, cnX (by omega), cnX (by omega), cnB (by omega), cnX (by omega), cnX (by omega), ih _ _ (by omega) (by omega) (by omega) (by omega)]
    simp only [smI]
    rw [Int.add_assoc]
theorem l110 {x1 : Int} (h1 : 0 ≤ x1 ∧ x1 ≤ 12) {g : Int → Int → Int} (hg : ∀ q u, 0 ≤ q → q < 8 → 0 ≤ u → u < 18 → D 89 (q * 18 + u) = g q u ∧ 0 ≤ g q u ∧ g q u ≤ 1000) {n : Nat} (hn : 18 = x1 + 1 + n) : ∀ (k : Nat) (x2 x3 : Int) (o4 : Option xv), 8 = x3 + k → 0 ≤ x3 → 0 ≤ x2 → x2 ≤ 20000 * x3 → WP 124 xF1 none 110 4 [some (.inr (.inr (some 85))), some (.inl x1), some (.inl x2), some (.inl x3), o4] [] D Q = Q (some (.inl (x2 + smI (fun q => smI (fun u => g q u) (x1 + 1) n) x3 k))) D := by
  intro k
  induction k with
  | zero =>
    intro x2 x3 o4 e1 e2 e3 e4
    rw [seg110_4 (ha0 := ho85), brT (c := 8 ≤ x3) (by omega)]
    simp [smI]
  | succ k ih =>
    intro x2 x3 o4 e1 e2 e3 e4
    have b := smI_bd (f := fun u => g x3 u) (B := 1000) n (x1 + 1) (fun j j1 j2 => (hg x3 j e2 (by omega) (by omega) (by omega)).2)
    rw [seg110_4 (ha0 := ho85), brF (c := 8 ≤ x3) (by omega), cnX (by omega), l110i h1 (by omega) hg n x2 (x1 + 1) (by omega) (by omega) e3 (by omega), ih _ _ _ (by omega) (by omega) (by omega) (by omega)]
    simp only [smI]
    exact cgQ (Int.add_assoc _ _ _)
theorem m110 {x1 : Int} (h1 : 0 ≤ x1 ∧ x1 ≤ 12) {g : Int → Int → Int} (hg : ∀ q u, 0 ≤ q → q < 8 → 0 ≤ u → u < 18 → D 89 (q * 18 + u) = g q u ∧ 0 ≤ g q u ∧ g q u ≤ 1000) {n : Nat} (hn : 18 = x1 + 1 + n) : WP 124 xF1 none 110 0 [some (.inr (.inr (some 85))), some (.inl x1), none, none, none] [] D Q = Q (some (.inl (smI (fun q => smI (fun u => g q u) (x1 + 1) n) 0 8))) D := by
  rw [seg110_0 (ha0 := ho85), l110 h1 hg hn 8 0 0 _ (by omega) (by omega) (by omega) (by omega), Int.zero_add]
end M54
