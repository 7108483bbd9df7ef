/-! people who go by signs: the model -/
theorem hl114 : xalen none 124 114 = some 16 := rfl
theorem hl115 : xalen none 124 115 = some 6 := rfl
theorem hl116 : xalen none 124 116 = some 208 := rfl
def bgF (D' D : xD) : Prop := (∀ a, a ≠ 95 → a ≠ 114 → a ≠ 115 → a ≠ 116 → a ≠ 117 → D' a = D a) ∧ ∀ i, i ≠ 41 → i ≠ 42 → D' 95 i = D 95 i
def wmF (D' D : xD) : Prop := (∀ a, a ≠ 95 → a ≠ 114 → a ≠ 115 → a ≠ 116 → a ≠ 117 → a ≠ 118 → D' a = D a) ∧ ∀ i, i ≠ 41 → i ≠ 42 → i ≠ 46 → D' 95 i = D 95 i
def wmJ (T : Int → Int) (fs fm : Int) (P : Int → Int → Int) (D' : xD) (k : Nat) : Prop :=
  (∀ p, 0 ≤ p → p < 8 → D' 114 p = (wkG T fs fm P k).1 p ∧ D' 117 p = (wkG T fs fm P k).2.1 p) ∧
  (∀ q u, 0 ≤ q → q < 8 → 0 ≤ u → u < 13 → D' 116 (13 * q + u) = (wkG T fs fm P k).2.2 q u) ∧
  (∀ j : Nat, j < k → D' 118 j = wkO T fs fm P (j + 1)) ∧ (∀ d, 0 ≤ d → d < T 1 → D' 115 d = T (150 + 4 * d + 2)) ∧ D' 95 46 = wkR T fs fm P k
/-- first round: who comes and who goes out -/
def wmI1 (T : Int → Int) (fs fm : Int) (P : Int → Int → Int) (D' : xD) (k m : Nat) : Prop :=
  (∀ p, 0 ≤ p → p < 8 → D' 114 p = (if p < m then wk1 T (wkG T fs fm P k) k p - wkN T (wkG T fs fm P k) k p else (wkG T fs fm P k).1 p + wkD T k p) ∧ D' 117 p = (if p < m then (wkG T fs fm P k).2.1 p - wkN T (wkG T fs fm P k) k p else (wkG T fs fm P k).2.1 p)) ∧
  (∀ q u, 0 ≤ q → q < 8 → 0 ≤ u → u < 13 → D' 116 (13 * q + u) = (wkG T fs fm P k).2.2 q u) ∧
  (∀ j : Nat, j < k → D' 118 j = wkO T fs fm P (j + 1)) ∧ (∀ d, 0 ≤ d → d < T 1 → D' 115 d = T (150 + 4 * d + 2)) ∧ D' 95 46 = wkR T fs fm P k - smI (fun p => (wkG T fs fm P k).2.2 p k) 0 m
/-- second round: who enters -/
def wmI2 (T : Int → Int) (fs fm : Int) (P : Int → Int → Int) (D' : xD) (k m : Nat) : Prop :=
  (∀ p, 0 ≤ p → p < 8 → D' 114 p = (if p < m then wk1 T (wkG T fs fm P k) k p - wkN T (wkG T fs fm P k) k p - wkE T fs fm P (wkG T fs fm P k) k p else wk1 T (wkG T fs fm P k) k p - wkN T (wkG T fs fm P k) k p) ∧ D' 117 p = (wkG T fs fm P k).2.1 p - wkN T (wkG T fs fm P k) k p) ∧
  (∀ q u, 0 ≤ q → q < 8 → 0 ≤ u → u < 13 → D' 116 (13 * q + u) = (wkG T fs fm P k).2.2 q u + smI (wkC T fs fm P (wkG T fs fm P k) k q u) 0 m) ∧
  (∀ j : Nat, j < k → D' 118 j = wkO T fs fm P (j + 1)) ∧ (∀ d, 0 ≤ d → d < T 1 → D' 115 d = T (150 + 4 * d + 2)) ∧ D' 95 46 = wkR T fs fm P k - smI (fun p => (wkG T fs fm P k).2.2 p k) 0 8 + smI (wkE T fs fm P (wkG T fs fm P k) k) 0 m
section M55
variable {x1 x2 x3 x4 x5 x6 s t p fs fm : Int} {D D' : xD} {T A : Int → Int} {P : Int → Int → Int} {Q : Option xv → xD → Prop}
theorem l207a : ∀ (k : Nat) (x1 : Int) (D : xD), 16 = x1 + k → 0 ≤ x1 → WP 124 xF1 none 207 2 [some (.inr (.inr (some 95))), some (.inl x1)] [] D Q = WP 124 xF1 none 207 23 [some (.inr (.inr (some 95))), some (.inl 0)] [] (xfil D 114 x1 16 0) Q := by
  intro k
  induction k with
  | zero =>
    intro x1 D h1 h2
    rw [seg207_2 (ha0 := ho95), brT (c := 16 ≤ x1) (by omega), fil_0 (by omega)]
  | succ k ih =>
    intro x1 D h1 h2
    rw [seg207_2 (ha0 := ho95), brF (c := 16 ≤ x1) (by omega), cnB (by omega), cnX (by omega)]
    simp only [Nat.reduceAdd]
    rw [ih _ _ (by omega) (by omega), fil_up (by omega)]
theorem l207b : ∀ (k : Nat) (x1 : Int) (D : xD), 8 = x1 + k → 0 ≤ x1 → WP 124 xF1 none 207 23 [some (.inr (.inr (some 95))), some (.inl x1)] [] D Q = WP 124 xF1 none 207 52 [some (.inr (.inr (some 95))), some (.inl 0)] [] (xcpy D 96 117 (18 + x1) x1 (8 - x1)) Q := by
  intro k
  induction k with
  | zero =>
    intro x1 D h1 h2
    rw [seg207_23 (ha0 := ho95), brT (c := 8 ≤ x1) (by omega), show 8 - x1 = 0 by omega, cpy_0]
  | succ k ih =>
    intro x1 D h1 h2
    rw [seg207_23 (ha0 := ho95), brF (c := 8 ≤ x1) (by omega), cnX (by omega), cnB (by omega), cnB (by omega), cnX (by omega)]
    simp only [Nat.reduceAdd]
    rw [ih _ _ (by omega) (by omega), show 18 + (x1 + 1) = 18 + x1 + 1 by omega, show 8 - (x1 + 1) = 8 - x1 - 1 by omega, cpy_up (by decide) (by omega)]
theorem l207c (h1 : 0 ≤ A 1 ∧ A 1 ≤ 6) : ∀ (k : Nat) (x1 : Int) (D' : xD), D' 96 = A → 6 = x1 + k → 0 ≤ x1 → (∀ a, a ≠ 115 → D' a = D a) → (∀ d, 0 ≤ d → d < x1 → D' 115 d = if d < A 1 then A (150 + 4 * d + 2) else 0) → (∀ D'' : xD, (∀ a, a ≠ 115 → D'' a = D a) → (∀ d, 0 ≤ d → d < 6 → D'' 115 d = if d < A 1 then A (150 + 4 * d + 2) else 0) → WP 124 xF1 none 207 100 [some (.inr (.inr (some 95))), some (.inl 0)] [] D'' Q) → WP 124 xF1 none 207 52 [some (.inr (.inr (some 95))), some (.inl x1)] [] D' Q := by
  intro k
  induction k with
  | zero =>
    intro x1 D' he h2 h3 hF hd hc
    rw [seg207_52 (ha0 := ho95), brT (c := 6 ≤ x1) (by omega)]
    exact hc D' hF (fun d d1 d2 => hd d d1 (by omega))
  | succ k ih =>
    intro x1 D' he h2 h3 hF hd hc
    rw [seg207_52 (ha0 := ho95), brF (c := 6 ≤ x1) (by omega), cnB (by omega)]
    simp only [Nat.reduceAdd]
    rw [he]
    have go : ∀ v : Int, v = (if x1 < A 1 then A (150 + 4 * x1 + 2) else 0) → WP 124 xF1 none 207 91 [some (.inr (.inr (some 95))), some (.inl x1)] [.inl v, .inl x1, .inr (.inr (some 115))] D' Q := by
      intro v hv
      rw [seg207_91 (ha0 := ho95) (hb2 := hl115), cnB (by omega), cnX (by omega)]
      refine ih (x1 + 1) _ (by rw [up_ne (by decide), he]) (by omega) (by omega) (fun a ha => by rw [up_ne ha]; exact hF a ha) (fun d d1 d2 => ?_) hc
      rw [up_at]
      by_cases c : d = x1
      · rw [if_pos c, c, hv]
      · rw [if_neg c]; exact hd d d1 (by omega)
    by_cases c : A 1 ≤ x1
    · rw [brT c]; exact go 0 (by rw [if_neg (by omega)])
    · rw [brF c, cnX (by omega), cnX (by omega), cnX (by omega), cnB (by omega)]
      exact go _ (by rw [if_pos (by omega)])
theorem l207d : ∀ (k : Nat) (x1 : Int) (D : xD), 208 = x1 + k → 0 ≤ x1 → WP 124 xF1 none 207 100 [some (.inr (.inr (some 95))), some (.inl x1)] [] D Q = Q none (xup (xup (xfil D 116 x1 208 0) 95 41 (-1)) 95 42 (-1)) := by
  intro k
  induction k with
  | zero =>
    intro x1 D h1 h2
    rw [seg207_100 (ha0 := ho95), brT (c := 208 ≤ x1) (by omega), fil_0 (by omega)]
  | succ k ih =>
    intro x1 D h1 h2
    rw [seg207_100 (ha0 := ho95), brF (c := 208 ≤ x1) (by omega), cnB (by omega), cnX (by omega)]
    simp only [Nat.reduceAdd]
    rw [ih _ _ (by omega) (by omega), fil_up (by omega)]
theorem m207 (he : D 96 = A) (h1 : 0 ≤ A 1 ∧ A 1 ≤ 6) (hc : ∀ D'' : xD, bgF D'' D → (∀ p, 0 ≤ p → p < 16 → D'' 114 p = 0) → (∀ p, 0 ≤ p → p < 8 → D'' 117 p = A (18 + p)) → (∀ d, 0 ≤ d → d < 6 → D'' 115 d = if d < A 1 then A (150 + 4 * d + 2) else 0) → (∀ c, 0 ≤ c → c < 208 → D'' 116 c = 0) → D'' 95 41 = -1 → D'' 95 42 = -1 → Q none D'') :
    WP 124 xF1 none 207 0 [some (.inr (.inr (some 95))), none] [] D Q := by
  rw [seg207_0 (ha0 := ho95), l207a 16 0 D (by omega) (by omega), l207b 8 0 _ (by omega) (by omega)]
  refine l207c (D := xcpy (xfil D 114 0 16 0) 96 117 (18 + 0) 0 (8 - 0)) (A := A) h1 6 0 _ (by rw [cpy_ne (by decide), fil_ne (by decide), he]) (by omega) (by omega) (fun _ _ => rfl) (fun d d1 d2 => by omega) (fun D1 f1 f2 => ?_)
  rw [l207d 208 0 _ (by omega) (by omega)]
  refine hc _ ⟨fun a a1 a2 a3 a4 a5 => ?_, fun i i1 i2 => ?_⟩ (fun p p1 p2 => ?_) (fun p p1 p2 => ?_) (fun d d1 d2 => ?_) (fun c c1 c2 => ?_) ?_ ?_
  · rw [up_ne a1, up_ne a1, fil_ne a4, f1 a a3, cpy_ne a5, fil_ne a2]
  · rw [up_ne2 i2, up_ne2 i1, fil_ne (by decide), f1 95 (by decide), cpy_ne (by decide), fil_ne (by decide)]
  · rw [up_ne (by decide), up_ne (by decide), fil_ne (by decide), f1 114 (by decide), cpy_ne (by decide), fil_in (by omega)]
  · rw [up_ne (by decide), up_ne (by decide), fil_ne (by decide), f1 117 (by decide)]
    unfold xcpy
    rw [if_pos ⟨rfl, by omega, by omega⟩, fil_ne (by decide), he]
    congr 1; omega
  · rw [up_ne (by decide), up_ne (by decide), fil_ne (by decide)]; exact f2 d d1 d2
  · rw [up_ne (by decide), up_ne (by decide), fil_in (by omega)]
  · rw [up_ne2 (by decide), up_eq]
  · rw [up_eq]
theorem m222 (hT : tnW T) (H : tnM (D 96) T) (hs : x1 = -1 ∨ (0 ≤ x1 ∧ x1 < T 0)) : WP 124 xF1 none 222 0 [some (.inr (.inr (some 95))), some (.inl x1), some (.inl x2)] [] D Q = Q (some (.inl (if wkOk T (D 95 44) (D 95 45) x1 x2 then 1 else 0))) D := by
  obtain ⟨⟨w0, w1, w2, w3⟩, ws, -⟩ := id hT
  have e0 : WP 124 xF1 none 222 33 [some (.inr (.inr (some 95))), some (.inl x1), some (.inl x2)] [] D Q = Q (some (.inl 0)) D := by
    rw [seg222_33 (ha0 := ho95), seg222_34 (ha0 := ho95)]
    exact cnT (.inl rfl)
  have e1 : WP 124 xF1 none 222 29 [some (.inr (.inr (some 95))), some (.inl x1), some (.inl x2)] [] D Q = Q (some (.inl 1)) D := by
    rw [seg222_29 (ha0 := ho95), seg222_34 (ha0 := ho95)]
    exact cnT (.inr rfl)
  rw [seg222_0 (ha0 := ho95)]
  by_cases c1 : x1 = -1
  · rw [brT (c := x1 < 0) (by omega), e0, if_neg (fun z => z.1 c1)]
  · have hs' := hs.resolve_left c1
    rw [brF (c := x1 < 0) (by omega), m179 (by omega), H _ (by omega), H _ (by omega)]
    simp only [Option.toList_some, Option.toList_none, List.cons_append, List.nil_append]
    rw [seg222_10 (ha0 := ho95)]
    by_cases c2 : T (30 + 7 * x1 + 4) ≤ x2 ∧ x2 ≤ T (30 + 7 * x1 + 5)
    · rw [if_pos c2, brF (by decide)]
      by_cases c3 : x1 = D 95 44
      · rw [brF (c := x1 ≠ D 95 44) (fun z => z c3)]
        by_cases c4 : D 95 45 ≤ x2
        · rw [brT c4, e0, if_neg (fun z => z.2.2 ⟨c3, c4⟩)]
        · rw [brF c4, e1, if_pos ⟨c1, c2, fun z => c4 z.2⟩]
      · rw [brT (c := x1 ≠ D 95 44) c3, e1, if_pos ⟨c1, c2, fun z => c3 z.1⟩]
    · rw [if_neg c2, brT rfl, e0, if_neg (fun z => c2 z.2.1)]
theorem l223d (hT : tnW T) (H : tnM (D 96) T) {k : Nat} (hk : k ≤ 12) (hP : wkP T P) {o5 o6 o7 : Option xv} (hd : ∀ d, 0 ≤ d → d < T 1 → D 115 d = T (150 + 4 * d + 2)) : ∀ (m d : Nat) (D' : xD), T 1 = d + m → (∀ a, a ≠ 114 → D' a = D a) →
    (∀ p, 0 ≤ p → p < 8 → D' 114 p = (wkG T fs fm P k).1 p + smI (fun d => if T (150 + 4 * d) = p ∧ T (150 + 4 * d + 1) = k then T (150 + 4 * d + 2) else 0) 0 d) →
    (∀ D'' : xD, (∀ a, a ≠ 114 → D'' a = D a) → (∀ p, 0 ≤ p → p < 8 → D'' 114 p = (wkG T fs fm P k).1 p + wkD T k p) → WP 124 xF1 none 223 88 [some (.inr (.inr (some 95))), some (.inl x1), some (.inl x2), some (.inl k), some (.inl 0), o5, o6, o7] [] D'' Q) →
    WP 124 xF1 none 223 21 [some (.inr (.inr (some 95))), some (.inl x1), some (.inl x2), some (.inl k), some (.inl d), o5, o6, o7] [] D' Q := by
  obtain ⟨⟨w0, w1, w2, w3⟩, ws, wd, -⟩ := id hT
  intro m
  induction m with
  | zero =>
    intro d D' h1 hA hth hc
    have H' : tnM (D' 96) T := by rw [hA 96 (by decide)]; exact H
    rw [seg223_21 (ha0 := ho95), cnB (by omega)]
    simp only [Nat.reduceAdd]
    rw [H' 1 (by decide), brT (c := T 1 ≤ (d : Int)) (by omega)]
    refine hc D' hA (fun p p1 p2 => ?_)
    rw [hth p p1 p2]
    unfold wkD
    rw [show (T 1).toNat = d by omega]
  | succ m ih =>
    intro d D' h1 hA hth hc
    have H' : tnM (D' 96) T := by rw [hA 96 (by decide)]; exact H
    obtain ⟨v1, v2, v3, -⟩ := wd d (by omega) (by omega)
    have hB := wkG_bd (fs := fs) (fm := fm) hT hP k (by omega)
    have hd0 := hth (T (150 + 4 * (d : Int))) v1.1 (by omega)
    have hX := (hB.1 (T (150 + 4 * (d : Int))) v1.1 (by omega)).1
    have hsm := smI_bd (f := fun e => if T (150 + 4 * e) = T (150 + 4 * (d : Int)) ∧ T (150 + 4 * e + 1) = k then T (150 + 4 * e + 2) else 0) (B := 30) d 0 (fun j j1 j2 => by
      obtain ⟨-, -, u, -⟩ := wd j j1 (by omega)
      split <;> omega)
    have b0 : 0 ≤ D' 114 (T (150 + 4 * (d : Int))) ∧ D' 114 (T (150 + 4 * (d : Int))) ≤ 50000 := by rw [hd0]; omega
    have e : (d : Int) + 1 = ((d + 1 : Nat) : Int) := by omega
    have e5 : D' 115 d = T (150 + 4 * (d : Int) + 2) := by rw [hA 115 (by decide)]; exact hd d (by omega) (by omega)
    rw [seg223_21 (ha0 := ho95), cnB (by omega)]
    simp only [Nat.reduceAdd]
    rw [H' 1 (by decide), brF (c := T 1 ≤ (d : Int)) (by omega), cnX (by omega), cnX (by omega), cnX (by omega), cnB (by omega), H' (150 + 4 * (d : Int) + 1) (by omega), H' (150 + 4 * (d : Int)) (by omega), e5]
    have fin : ∀ D2 : xD, (∀ a, a ≠ 114 → D2 a = D a) → (∀ p, 0 ≤ p → p < 8 → D2 114 p = D' 114 p + (if T (150 + 4 * (d : Int)) = p ∧ T (150 + 4 * (d : Int) + 1) = k then T (150 + 4 * (d : Int) + 2) else 0)) → WP 124 xF1 none 223 79 [some (.inr (.inr (some 95))), some (.inl x1), some (.inl x2), some (.inl k), some (.inl d), o5, o6, o7] [] D2 Q := by
      intro D2 g1 g2
      rw [seg223_79 (ha0 := ho95), cnX (by omega), e]
      refine ih (d + 1) _ (by omega) g1 (fun p p1 p2 => ?_) hc
      rw [g2 p p1 p2, smI_last, hth p p1 p2, Int.zero_add]; omega
    by_cases c : T (150 + 4 * (d : Int) + 1) = k
    · rw [brF (c := T (150 + 4 * (d : Int) + 1) ≠ k) (fun z => z c), cnX (by omega), cnX (by omega), cnB (by omega), cnB (by omega), cnB (by omega), cnX (by omega), cnB (by omega)]
      refine fin _ (fun a ha => by rw [up_ne ha]; exact hA a ha) (fun p p1 p2 => ?_)
      rw [up_at]
      by_cases c2 : p = T (150 + 4 * (d : Int))
      · rw [if_pos c2, if_pos ⟨c2.symm, c⟩, ← c2]
      · rw [if_neg c2, if_neg (fun z => c2 z.1.symm)]; omega
    · rw [brT (c := T (150 + 4 * (d : Int) + 1) ≠ k) c]
      refine fin _ hA (fun p p1 p2 => ?_)
      rw [if_neg (fun z => c z.2)]; omega
theorem wkR_bd (hT : tnW T) (hP : wkP T P) (k : Nat) (hk : k ≤ 13) : 0 ≤ wkR T fs fm P k ∧ wkR T fs fm P k ≤ 200000 := by
  have hB := wkG_bd (fs := fs) (fm := fm) hT hP k hk
  rw [wkR_eq hT hP k (18 - k) (by omega) hk]
  have := smI_bd (f := fun q => smI (fun u => (wkG T fs fm P k).2.2 q u) k (18 - k)) (B := 20000) 8 0 (fun q _ _ => by
    have := smI_bd (f := fun u => (wkG T fs fm P k).2.2 q u) (B := 1000) (18 - k) k (fun u _ _ => by
      have := hB.2 q u
      omega)
    omega)
  omega
theorem l223a (hT : tnW T) {k : Nat} (hk : k ≤ 12) (hP : wkP T P) {o6 o7 : Option xv} : ∀ (n m : Nat) (D' : xD) (o5 : Option xv), 8 = m + n → wmF D' D → wmI1 T fs fm P D' k m →
    (∀ (D'' : xD) (o5 : Option xv), wmF D'' D → wmI1 T fs fm P D'' k 8 → WP 124 xF1 none 223 212 [some (.inr (.inr (some 95))), some (.inl x1), some (.inl (wkO T fs fm P (k + 1))), some (.inl k), some (.inl 0), o5, o6, o7] [] D'' Q) →
    WP 124 xF1 none 223 88 [some (.inr (.inr (some 95))), some (.inl x1), some (.inl (wkO T fs fm P k + smI (wkN T (wkG T fs fm P k) k) 0 m)), some (.inl k), some (.inl m), o5, o6, o7] [] D' Q := by
  have hB := wkG_bd (fs := fs) (fm := fm) hT hP k (by omega)
  intro n
  induction n with
  | zero =>
    intro m D' o5 h1 hF hI hc
    have : m = 8 := by omega
    subst this
    rw [seg223_88 (ha0 := ho95), brT (c := (8 : Int) ≤ (8 : Nat)) (by omega)]
    exact hc D' o5 hF hI
  | succ n ih =>
    intro m D' o5 h1 hF hI hc
    obtain ⟨i1, i2, i3, i4, i5⟩ := id hI
    obtain ⟨t1, t2⟩ := i1 m (by omega) (by omega)
    rw [if_neg (by omega)] at t1 t2
    have t3 := i2 m k (by omega) (by omega) (by omega) (by omega)
    obtain ⟨⟨b1, b2⟩, ⟨b3, b4, b5, b6⟩, -⟩ := wkE_bd (fs := fs) (fm := fm) (P := P) hT hP hB (p := m) (t := k) (by omega) (by omega)
    obtain ⟨⟨c1, c2⟩, c3, c4⟩ := hB.1 m (by omega) (by omega)
    have c5 := hB.2 m k
    have c6 := wkD_bd hT k m
    have o1 := wkO_bd (fs := fs) (fm := fm) hT hP k (by omega)
    have o2 := wkN_bd (fs := fs) (fm := fm) hT hP k m (by omega) (by omega)
    have o3 := wkR_bd (fs := fs) (fm := fm) hT hP k (by omega)
    have o4 := smI_bd (f := fun p => (wkG T fs fm P k).2.2 p k) (B := 1000) m 0 (fun j _ _ => by have := hB.2 j k; omega)
    have e1 : D' 114 m + D' 116 (13 * (m : Int) + k) = wk1 T (wkG T fs fm P k) k m := by rw [t1, t3]; rfl
    have em : (m : Int) + 1 = ((m + 1 : Nat) : Int) := by omega
    rw [seg223_88 (ha0 := ho95), brF (c := (8 : Int) ≤ m) (by omega)]
    simp only [Nat.reduceAdd]
    rw [e1, i5, t2, t3, cnB (by omega), cnX (by omega), cnX (by omega), cnB (by omega), cnX (by omega), cnB (by omega), cnX (by omega), cnX (by omega), cnB (by omega), cnX (by omega), cnB (by omega), cnB (by omega)]
    obtain ⟨D1, hD1⟩ : ∃ D1, D1 = xup (xup D' 114 m (wk1 T (wkG T fs fm P k) k m)) 95 46 (wkR T fs fm P k - smI (fun p => (wkG T fs fm P k).2.2 p k) 0 m - (wkG T fs fm P k).2.2 m k) := ⟨_, rfl⟩
    rw [← hD1]
    have g0 : ∀ a, a ≠ 95 → a ≠ 114 → D1 a = D' a := fun a a1 a2 => by rw [hD1, up_ne a1, up_ne a2]
    have g5 : ∀ i, i ≠ 46 → D1 95 i = D' 95 i := fun i i1 => by rw [hD1, up_ne2 i1, up_ne (by decide)]
    have g6 : D1 95 46 = wkR T fs fm P k - smI (fun p => (wkG T fs fm P k).2.2 p k) 0 m - (wkG T fs fm P k).2.2 m k := by rw [hD1, up_eq]
    have g1 : ∀ p, D1 114 p = if p = m then wk1 T (wkG T fs fm P k) k m else D' 114 p := fun p => by rw [hD1, up_ne (by decide), up_at]
    clear hD1
    have en : wkO T fs fm P k + smI (wkN T (wkG T fs fm P k) k) 0 m + wkN T (wkG T fs fm P k) k m = wkO T fs fm P k + smI (wkN T (wkG T fs fm P k) k) 0 (m + 1) := by rw [smI_last, Int.zero_add]; omega
    have nx : WP 124 xF1 none 223 172 [some (.inr (.inr (some 95))), some (.inl x1), some (.inl (wkO T fs fm P k + smI (wkN T (wkG T fs fm P k) k) 0 m)), some (.inl k), some (.inl m), o5, o6, o7] [.inl (wkN T (wkG T fs fm P k) k m)] D1 Q := by
      have v1 : D1 114 m = wk1 T (wkG T fs fm P k) k m := by rw [g1, if_pos rfl]
      have v2 : D1 117 m = (wkG T fs fm P k).2.1 m := by rw [g0 117 (by decide) (by decide), t2]
      rw [seg223_172 (ha0 := ho95)]
      simp only [Nat.reduceAdd]
      rw [v1, v2, cnB (by omega), cnX (by omega), cnB (by omega), cnB (by omega), cnX (by omega), cnB (by omega), cnX (by omega), cnX (by omega), em, en]
      refine ih (m + 1) _ _ (by omega) ⟨fun a a1 a2 a3 a4 a5 a6 => ?_, fun i i1 i2 i3 => ?_⟩ ⟨fun p p1 p2 => ⟨?_, ?_⟩, fun q u q1 q2 u1 u2 => ?_, fun j hj => ?_, fun d d1 d2 => ?_, ?_⟩ hc
      · rw [up_ne a2, up_ne a5, g0 a a1 a2]; exact hF.1 a a1 a2 a3 a4 a5 a6
      · rw [up_ne (by decide), up_ne (by decide), g5 i i3]; exact hF.2 i i1 i2 i3
      · rw [up_at, up_ne (by decide), g1]
        by_cases c : p = m
        · rw [if_pos c, if_pos (by omega), c]
        · rw [if_neg c, if_neg c, (i1 p p1 p2).1]
          by_cases c' : p < m
          · rw [if_pos c', if_pos (by omega)]
          · rw [if_neg c', if_neg (by omega)]
      · rw [up_ne (by decide), up_at, g0 117 (by decide) (by decide)]
        by_cases c : p = m
        · rw [if_pos c, if_pos (by omega), c]
        · rw [if_neg c, (i1 p p1 p2).2]
          by_cases c' : p < m
          · rw [if_pos c', if_pos (by omega)]
          · rw [if_neg c', if_neg (by omega)]
      · rw [up_ne (by decide), up_ne (by decide), g0 116 (by decide) (by decide)]; exact i2 q u q1 q2 u1 u2
      · rw [up_ne (by decide), up_ne (by decide), g0 118 (by decide) (by decide)]; exact i3 j hj
      · rw [up_ne (by decide), up_ne (by decide), g0 115 (by decide) (by decide)]; exact i4 d d1 d2
      · rw [up_ne (by decide), up_ne (by decide), g6, smI_last, Int.zero_add]; omega
    by_cases c : (wkG T fs fm P k).2.1 m ≤ wk1 T (wkG T fs fm P k) k m
    · rw [brT c, cnB (by omega)]
      have : wkN T (wkG T fs fm P k) k m = (wkG T fs fm P k).2.1 m := by unfold wkN; omega
      rw [this] at nx
      exact nx
    · rw [brF c, cnB (by omega)]
      have : wkN T (wkG T fs fm P k) k m = wk1 T (wkG T fs fm P k) k m := by unfold wkN; omega
      rw [this] at nx
      exact nx
theorem l223b (hT : tnW T) (H : tnM (D 96) T) {k : Nat} (hk : k ≤ 12) (hP : wkP T P) (h5 : D 95 44 = fs) (h6 : D 95 45 = fm) (hp : ∀ p, 0 ≤ p → p < 8 → D 120 (13 * p + k) = P p k) : ∀ (n m : Nat) (D' : xD) (o5 o6 o7 : Option xv), 8 = m + n → wmF D' D → wmI2 T fs fm P D' k m →
    (∀ (D'' : xD) (o5 o6 o7 : Option xv), wmF D'' D → wmI2 T fs fm P D'' k 8 → WP 124 xF1 none 223 212 [some (.inr (.inr (some 95))), some (.inl x1), some (.inl x2), some (.inl k), some (.inl (8 : Nat)), o5, o6, o7] [] D'' Q) →
    WP 124 xF1 none 223 212 [some (.inr (.inr (some 95))), some (.inl x1), some (.inl x2), some (.inl k), some (.inl m), o5, o6, o7] [] D' Q := by
  obtain ⟨⟨w0, w1, w2, w3⟩, ws, -⟩ := id hT
  have hB := wkG_bd (fs := fs) (fm := fm) hT hP k (by omega)
  intro n
  induction n with
  | zero =>
    intro m D' o5 o6 o7 h1 hF hI hc
    have : m = 8 := by omega
    subst this
    exact hc D' o5 o6 o7 hF hI
  | succ n ih =>
    intro m D' o5 o6 o7 h1 hF hI hc
    obtain ⟨i1, i2, i3, i4, i5⟩ := id hI
    have H' : tnM (D' 96) T := by rw [hF.1 96 (by decide) (by decide) (by decide) (by decide) (by decide) (by decide)]; exact H
    obtain ⟨t1, t2⟩ := i1 m (by omega) (by omega)
    rw [if_neg (by omega)] at t1
    obtain ⟨⟨b1, b2⟩, ⟨b3, b4, b5, b6⟩, ⟨b7, b8, b9⟩⟩ := wkE_bd (fs := fs) (fm := fm) (P := P) hT hP hB (p := m) (t := k) (by omega) (by omega)
    have o3 := wkR_bd (fs := fs) (fm := fm) hT hP k (by omega)
    have o4 := smI_bd (f := fun p => (wkG T fs fm P k).2.2 p k) (B := 1000) 8 0 (fun j _ _ => by have := hB.2 j k; omega)
    have o5' := smI_bd (f := wkE T fs fm P (wkG T fs fm P k) k) (B := 9) m 0 (fun j j1 j2 => by
      have := (wkE_bd (fs := fs) (fm := fm) (P := P) hT hP hB (p := j) (t := k) (by omega) (by omega)).2.2
      omega)
    have em : (m : Int) + 1 = ((m + 1 : Nat) : Int) := by omega
    have e120 : D' 120 (13 * (m : Int) + k) = P m k := by rw [hF.1 120 (by decide) (by decide) (by decide) (by decide) (by decide) (by decide)]; exact hp m (by omega) (by omega)
    have hr := hP m k (by omega) (by omega) (by omega) (by omega)
    rw [seg223_212 (ha0 := ho95), brF (c := (8 : Int) ≤ m) (by omega), cnX (by omega), cnX (by omega), cnB (by omega)]
    simp only [Nat.reduceAdd]
    rw [e120, m222 hT H' hr, hF.2 44 (by decide) (by decide) (by decide), hF.2 45 (by decide) (by decide) (by decide), h5, h6]
    simp only [Option.toList_some, Option.toList_none, List.cons_append, List.nil_append]
    rw [seg223_240 (ha0 := ho95)]
    have nx : ∀ (D2 : xD) (o6 o7 : Option xv), wmF D2 D → wmI2 T fs fm P D2 k (m + 1) → WP 124 xF1 none 223 369 [some (.inr (.inr (some 95))), some (.inl x1), some (.inl x2), some (.inl k), some (.inl m), some (.inl (P m k)), o6, o7] [] D2 Q := by
      intro D2 o6 o7 f1 f2
      rw [seg223_369 (ha0 := ho95), cnX (by omega), em]
      exact ih (m + 1) D2 _ _ _ (by omega) f1 f2 hc
    by_cases ok : wkOk T fs fm (P m k) k
    · rw [if_pos ok, brT (by decide)]
      have hs := hr.resolve_left ok.1
      obtain ⟨-, u2, u3, u4, -⟩ := ws _ hs.1 hs.2
      have eE : wkE T fs fm P (wkG T fs fm P k) k m = min (wk1 T (wkG T fs fm P k) k m - wkN T (wkG T fs fm P k) k m) (T (30 + 7 * P m k + 3)) := by unfold wkE; rw [if_pos ok]
      simp only [Nat.reduceAdd]
      rw [H' (30 + 7 * P m k + 3) (by omega), t1]
      have go : WP 124 xF1 none 223 296 [some (.inr (.inr (some 95))), some (.inl x1), some (.inl x2), some (.inl k), some (.inl m), some (.inl (P m k)), o6, o7] [.inl (wkE T fs fm P (wkG T fs fm P k) k m)] D' Q := by
        rw [seg223_296 (ha0 := ho95)]
        simp only [Nat.reduceAdd]
        rw [H' (30 + 7 * P m k + 2) (by omega), t1, i5]
        rw [cnX (by omega), cnX (by omega), cnX (by omega), cnB (by omega), cnX (by omega), cnB (by omega), cnX (by omega), cnB (by omega), cnX (by omega)]
        obtain ⟨D1, hD1⟩ : ∃ D1, D1 = xup (xup D' 114 m (wk1 T (wkG T fs fm P k) k m - wkN T (wkG T fs fm P k) k m - wkE T fs fm P (wkG T fs fm P k) k m)) 95 46 (wkR T fs fm P k - smI (fun p => (wkG T fs fm P k).2.2 p k) 0 8 + smI (wkE T fs fm P (wkG T fs fm P k) k) 0 m + wkE T fs fm P (wkG T fs fm P k) k m) := ⟨_, rfl⟩
        rw [← hD1]
        have g0 : ∀ a, a ≠ 95 → a ≠ 114 → D1 a = D' a := fun a a1 a2 => by rw [hD1, up_ne a1, up_ne a2]
        have g5 : ∀ i, i ≠ 46 → D1 95 i = D' 95 i := fun i i1 => by rw [hD1, up_ne2 i1, up_ne (by decide)]
        have g6 : D1 95 46 = wkR T fs fm P k - smI (fun p => (wkG T fs fm P k).2.2 p k) 0 8 + smI (wkE T fs fm P (wkG T fs fm P k) k) 0 m + wkE T fs fm P (wkG T fs fm P k) k m := by rw [hD1, up_eq]
        have g1 : ∀ p, D1 114 p = if p = m then wk1 T (wkG T fs fm P k) k m - wkN T (wkG T fs fm P k) k m - wkE T fs fm P (wkG T fs fm P k) k m else D' 114 p := fun p => by rw [hD1, up_ne (by decide), up_at]
        clear hD1
        have H1 : tnM (D1 96) T := by rw [g0 96 (by decide) (by decide)]; exact H'
        have fin : ∀ (D2 : xD), (∀ a, a ≠ 116 → D2 a = D1 a) → (∀ q u, 0 ≤ q → q < 8 → 0 ≤ u → u < 13 → D2 116 (13 * q + u) = D1 116 (13 * q + u) + wkC T fs fm P (wkG T fs fm P k) k q u m) → wmF D2 D ∧ wmI2 T fs fm P D2 k (m + 1) := by
          intro D2 f1 f2
          refine ⟨⟨fun a a1 a2 a3 a4 a5 a6 => ?_, fun i i1 i2 i3 => ?_⟩, fun p p1 p2 => ⟨?_, ?_⟩, fun q u q1 q2 u1 u2 => ?_, fun j hj => ?_, fun d d1 d2 => ?_, ?_⟩
          · rw [f1 a a4, g0 a a1 a2]; exact hF.1 a a1 a2 a3 a4 a5 a6
          · rw [f1 95 (by decide), g5 i i3]; exact hF.2 i i1 i2 i3
          · rw [f1 114 (by decide), g1]
            by_cases c : p = m
            · rw [if_pos c, if_pos (by omega), c]
            · rw [if_neg c, (i1 p p1 p2).1]
              by_cases c' : p < m
              · rw [if_pos c', if_pos (by omega)]
              · rw [if_neg c', if_neg (by omega)]
          · rw [f1 117 (by decide), g0 117 (by decide) (by decide)]; exact (i1 p p1 p2).2
          · rw [f2 q u q1 q2 u1 u2, g0 116 (by decide) (by decide), i2 q u q1 q2 u1 u2, smI_last, Int.zero_add]; omega
          · rw [f1 118 (by decide), g0 118 (by decide) (by decide)]; exact i3 j hj
          · rw [f1 115 (by decide), g0 115 (by decide) (by decide)]; exact i4 d d1 d2
          · rw [f1 95 (by decide), g6, smI_last (f := wkE T fs fm P (wkG T fs fm P k) k) m 0, Int.zero_add]; omega
        by_cases c : 12 < (k : Int) + T (30 + 7 * P m k + 2)
        · rw [brT c]
          obtain ⟨f1, f2⟩ := fin D1 (fun _ _ => rfl) (fun q u q1 q2 u1 u2 => by
            have : wkC T fs fm P (wkG T fs fm P k) k q u m = 0 := by unfold wkC; rw [if_neg (by omega)]
            rw [this]; omega)
          exact nx D1 _ _ f1 f2
        · rw [brF c, n178 (by omega), (frM_cg2 H1 (by omega)).2]
          simp only [Option.toList_some, Option.toList_none, List.cons_append, List.nil_append]
          have q1 := i2 (toM T (P m k)) (k + T (30 + 7 * P m k + 2)) u2.1 (by omega) (by omega) (by omega)
          have q2 := hB.2 (toM T (P m k)) (k + T (30 + 7 * P m k + 2))
          have q3 := wkC_bd (fs := fs) (fm := fm) (q := toM T (P m k)) (u := k + T (30 + 7 * P m k + 2)) hT hP hB (t := k) (by omega) m (by omega)
          have q4 : D1 116 (13 * toM T (P m k) + (k + T (30 + 7 * P m k + 2))) = (wkG T fs fm P k).2.2 (toM T (P m k)) (k + T (30 + 7 * P m k + 2)) + smI (wkC T fs fm P (wkG T fs fm P k) k (toM T (P m k)) (k + T (30 + 7 * P m k + 2))) 0 m := by rw [g0 116 (by decide) (by decide), q1]
          rw [seg223_359 (ha0 := ho95) (hb2 := hl116), q4, cnX (by omega), cnX (by omega), cnB (by omega), cnX (by omega), cnB (by omega), ← q4]
          obtain ⟨f1, f2⟩ := fin (xup D1 116 (13 * toM T (P m k) + (k + T (30 + 7 * P m k + 2))) (D1 116 (13 * toM T (P m k) + (k + T (30 + 7 * P m k + 2))) + wkE T fs fm P (wkG T fs fm P k) k m)) (fun a ha => up_ne ha) (fun q u q1 q2 u1 u2 => by
            rw [up_at]
            by_cases e : toM T (P m k) = q ∧ (k : Int) + T (30 + 7 * P m k + 2) = u
            · have : wkC T fs fm P (wkG T fs fm P k) k q u m = wkE T fs fm P (wkG T fs fm P k) k m := by unfold wkC; rw [if_pos e]
              rw [if_pos (by omega), this, e.1, e.2]
            · have : wkC T fs fm P (wkG T fs fm P k) k q u m = 0 := by unfold wkC; rw [if_neg e]
              rw [if_neg (by omega), this]; omega)
          exact nx _ _ _ f1 f2
      by_cases c : T (30 + 7 * P m k + 3) ≤ wk1 T (wkG T fs fm P k) k m - wkN T (wkG T fs fm P k) k m
      · have : wkE T fs fm P (wkG T fs fm P k) k m = T (30 + 7 * P m k + 3) := by rw [eE]; omega
        rw [this] at go
        rw [brT c, cnB (by omega), cnX (by omega), cnX (by omega), cnX (by omega), cnB (by omega), cnX (by omega), cnX (by omega), cnX (by omega), cnB (by omega)]
        exact go
      · have : wkE T fs fm P (wkG T fs fm P k) k m = wk1 T (wkG T fs fm P k) k m - wkN T (wkG T fs fm P k) k m := by rw [eE]; omega
        rw [this] at go
        rw [brF c, cnB (by omega), cnX (by omega), cnX (by omega), cnX (by omega), cnB (by omega), cnB (by omega)]
        exact go
    · rw [if_neg ok, brF (by decide)]
      have eE : wkE T fs fm P (wkG T fs fm P k) k m = 0 := by unfold wkE; rw [if_neg ok]
      refine nx D' _ _ hF ⟨fun p p1 p2 => ⟨?_, (i1 p p1 p2).2⟩, fun q u q1 q2 u1 u2 => ?_, i3, i4, ?_⟩
      · rw [(i1 p p1 p2).1]
        by_cases c : p = m
        · rw [c, if_neg (by omega), if_pos (by omega), eE]; omega
        · by_cases c' : p < m
          · rw [if_pos c', if_pos (by omega)]
          · rw [if_neg c', if_neg (by omega)]
      · rw [i2 q u q1 q2 u1 u2, smI_last, Int.zero_add]
        have : wkC T fs fm P (wkG T fs fm P k) k q u m = 0 := by unfold wkC; rw [eE, ite_self]
        rw [this]; omega
      · rw [i5, smI_last (f := wkE T fs fm P (wkG T fs fm P k) k) m 0, Int.zero_add, eE]; omega
theorem l223m (hT : tnW T) (H : tnM (D 96) T) (hP : wkP T P) (h5 : D 95 44 = fs) (h6 : D 95 45 = fm) (hx1 : x1 ≤ 12) (hp : ∀ p t, 0 ≤ p → p < 8 → 0 ≤ t → t ≤ x1 → D 120 (13 * p + t) = P p t) : ∀ (n k : Nat) (D' : xD) (o4 o5 o6 o7 : Option xv), x1 + 1 = k + n → wmF D' D → wmJ T fs fm P D' k →
    (∀ (D'' : xD), wmF D'' D → wmJ T fs fm P D'' (k + n) → Q (some (.inl (wkO T fs fm P (k + n)))) D'') →
    WP 124 xF1 none 223 13 [some (.inr (.inr (some 95))), some (.inl x1), some (.inl (wkO T fs fm P k)), some (.inl k), o4, o5, o6, o7] [] D' Q := by
  intro n
  induction n with
  | zero =>
    intro k D' o4 o5 o6 o7 h1 hF hJ hc
    rw [seg223_13 (ha0 := ho95), brT (c := x1 < (k : Int)) (by omega)]
    exact hc D' hF hJ
  | succ n ih =>
    intro k D' o4 o5 o6 o7 h1 hF hJ hc
    obtain ⟨j1, j2, j3, j4, j5⟩ := hJ
    have H' : tnM (D' 96) T := by rw [hF.1 96 (by decide) (by decide) (by decide) (by decide) (by decide) (by decide)]; exact H
    rw [seg223_13 (ha0 := ho95), brF (c := x1 < (k : Int)) (by omega)]
    refine l223d (fs := fs) (fm := fm) (P := P) hT H' (k := k) (by omega) hP j4 (T 1).toNat 0 D' (by have := hT.1; omega) (fun _ _ => rfl) (fun p p1 p2 => ?_) (fun D1 f1 f2 => ?_)
    · rw [(j1 p p1 p2).1]; simp [smI]
    · have z : wkO T fs fm P k = wkO T fs fm P k + smI (wkN T (wkG T fs fm P k) k) 0 (0 : Nat) := by simp [smI]
      have F1 : wmF D1 D := ⟨fun a a1 a2 a3 a4 a5 a6 => by rw [f1 a a2]; exact hF.1 a a1 a2 a3 a4 a5 a6, fun i i1 i2 i3 => by rw [f1 95 (by decide)]; exact hF.2 i i1 i2 i3⟩
      have l := l223a (x1 := x1) (Q := Q) (D := D) (fs := fs) (fm := fm) (P := P) (o6 := o6) (o7 := o7) hT (k := k) (by omega) hP 8 0 D1 o5 rfl F1 ⟨fun p p1 p2 => ⟨?_, ?_⟩, fun q u q1 q2 u1 u2 => ?_, fun j hj => ?_, fun d d1 d2 => ?_, ?_⟩ (fun D2 o f3 f4 => ?_)
      · rw [← z] at l
        exact l
      · rw [if_neg (by omega)]; exact f2 p p1 p2
      · rw [if_neg (by omega), f1 117 (by decide)]; exact (j1 p p1 p2).2
      · rw [f1 116 (by decide)]; exact j2 q u q1 q2 u1 u2
      · rw [f1 118 (by decide)]; exact j3 j hj
      · rw [f1 115 (by decide)]; exact j4 d d1 d2
      · rw [f1 95 (by decide), j5]; simp [smI]
      · obtain ⟨i1, i2, i3, i4, i5⟩ := f4
        have l2 := l223b (x1 := x1) (x2 := wkO T fs fm P (k + 1)) (Q := Q) (D := D) (fs := fs) (fm := fm) (P := P) hT H (k := k) (by omega) hP h5 h6 (fun p p1 p2 => hp p k p1 p2 (by omega) (by omega)) 8 0 D2 o o6 o7 rfl f3 ⟨fun p p1 p2 => ⟨?_, ?_⟩, fun q u q1 q2 u1 u2 => ?_, i3, i4, ?_⟩ (fun D3 o5 o6 o7 f5 f6 => ?_)
        · exact l2
        · rw [if_neg (by omega), (i1 p p1 p2).1, if_pos (by omega)]
        · rw [(i1 p p1 p2).2, if_pos (by omega)]
        · rw [i2 q u q1 q2 u1 u2]; simp [smI]
        · rw [i5]; simp [smI]
        · obtain ⟨s1, s2, s3, s4, s5⟩ := f6
          have ek : (k : Int) + 1 = ((k + 1 : Nat) : Int) := by omega
          rw [seg223_212 (ha0 := ho95), brT (c := (8 : Int) ≤ (8 : Nat)) (by omega), cnB (by omega), cnX (by omega), ek]
          simp only [Nat.reduceAdd]
          refine ih (k + 1) _ _ _ _ _ (by omega) ⟨fun a a1 a2 a3 a4 a5 a6 => by rw [up_ne a6]; exact f5.1 a a1 a2 a3 a4 a5 a6, fun i i1 i2 i3 => by rw [up_ne (by decide)]; exact f5.2 i i1 i2 i3⟩ ⟨fun p p1 p2 => ?_, fun q u q1 q2 u1 u2 => ?_, fun j hj => ?_, fun d d1 d2 => ?_, ?_⟩ (fun D4 g1 g2 => ?_)
          · obtain ⟨r1, r2⟩ := s1 p p1 p2
            rw [if_pos (by omega)] at r1
            rw [up_ne (by decide), up_ne (by decide), r1, r2]
            exact ⟨rfl, rfl⟩
          · rw [up_ne (by decide), s2 q u q1 q2 u1 u2]
            rfl
          · rw [up_at]
            by_cases c : j = k
            · rw [if_pos (by omega), c]
            · rw [if_neg (by omega)]; exact s3 j (by omega)
          · rw [up_ne (by decide)]; exact s4 d d1 d2
          · rw [up_ne (by decide), s5]; rfl
          · have : k + 1 + n = k + (n + 1) := by omega
            rw [this] at g2 ⊢
            exact hc D4 g1 g2
theorem m223 (hT : tnW T) (H : tnM (D 96) T) (hP : wkP T P) (h5 : D 95 44 = fs) (h6 : D 95 45 = fm) {n : Nat} (hn : x1 + 1 = n) (hx1 : x1 ≤ 12) (hp : ∀ p t, 0 ≤ p → p < 8 → 0 ≤ t → t ≤ x1 → D 120 (13 * p + t) = P p t)
    (hc : ∀ (D'' : xD), wmF D'' D → wmJ T fs fm P D'' n → Q (some (.inl (wkO T fs fm P n))) D'') :
    WP 124 xF1 none 223 0 [some (.inr (.inr (some 95))), some (.inl x1), none, none, none, none, none, none] [] D Q := by
  have hA : 0 ≤ D 96 1 ∧ D 96 1 ≤ 6 := by rw [H 1 (by decide)]; exact ⟨hT.1.2.2.1, hT.1.2.2.2⟩
  rw [seg223_0 (ha0 := ho95)]
  refine m207 (A := D 96) rfl hA (fun D1 f1 f2 f3 f4 f5 f6 f7 => ?_)
  simp only [Option.toList_some, Option.toList_none, List.cons_append, List.nil_append]
  rw [seg223_4 (ha0 := ho95)]
  have F1 : wmF (xup D1 95 46 0) D := ⟨fun a a1 a2 a3 a4 a5 a6 => by rw [up_ne a1]; exact f1.1 a a1 a2 a3 a4 a5, fun i i1 i2 i3 => by rw [up_ne2 i3]; exact f1.2 i i1 i2⟩
  refine l223m (fs := fs) (fm := fm) (P := P) (D := D) hT H hP h5 h6 hx1 hp n 0 _ _ _ _ _ (by omega) F1 ⟨fun p p1 p2 => ⟨?_, ?_⟩, fun q u q1 q2 u1 u2 => ?_, fun j hj => by omega, fun d d1 d2 => ?_, ?_⟩ (fun D3 g1 g2 => ?_)
  · rw [up_ne (by decide), f2 p p1 (by omega)]; rfl
  · rw [up_ne (by decide), f3 p p1 p2, H _ (by omega)]; rfl
  · rw [up_ne (by decide), f5 _ (by omega) (by omega)]; rfl
  · have := hT.1
    rw [up_ne (by decide), f4 d d1 (by omega), if_pos (by rw [H 1 (by decide)]; exact d2), H _ (by omega)]
  · rw [up_eq]; rfl
  · rw [show 0 + n = n by omega] at g2 ⊢
    exact hc D3 g1 g2
theorem l225 (hT : tnW T) (hP : wkP T P) (hj : ∀ j : Nat, j < 13 → D 118 j = wkO T fs fm P (j + 1)) : ∀ (n k : Nat), 13 = k + n → WP 124 xF1 none 225 11 [some (.inr (.inr (some 95))), some (.inl (wkZ T fs fm P k)), some (.inl k)] [] D Q = Q (some (.inl (wkZ T fs fm P 13))) D := by
  intro n
  induction n with
  | zero =>
    intro k h1
    rw [seg225_11 (ha0 := ho95), brT (c := (12 : Int) < k) (by omega), show k = 13 by omega]
  | succ n ih =>
    intro k h1
    have o1 := wkO_bd (fs := fs) (fm := fm) hT hP (k + 1) (by omega)
    have o2 := wkZ_bd (fs := fs) (fm := fm) hT hP k (by omega)
    have ek : (k : Int) + 1 = ((k + 1 : Nat) : Int) := by omega
    rw [seg225_11 (ha0 := ho95), brF (c := (12 : Int) < k) (by omega)]
    simp only [Nat.reduceAdd]
    rw [hj k (by omega), cnB (by omega), cnX (by omega), cnX (by omega), ek]
    exact ih (k + 1) (by omega)
/-- the sum of what are out by each minute -/
theorem m225 (hT : tnW T) (H : tnM (D 96) T) (hP : wkP T P) (h5 : D 95 44 = fs) (h6 : D 95 45 = fm) (hp : ∀ p t, 0 ≤ p → p < 8 → 0 ≤ t → t ≤ 12 → D 120 (13 * p + t) = P p t)
    (hc : ∀ (D'' : xD), wmF D'' D → Q (some (.inl (wkZ T fs fm P 13))) D'') :
    WP 124 xF1 none 225 0 [some (.inr (.inr (some 95))), none, none] [] D Q := by
  rw [seg225_0 (ha0 := ho95)]
  refine m223 (fs := fs) (fm := fm) (P := P) (n := 13) hT H hP h5 h6 (by omega) (by omega) hp (fun D1 f1 f2 => ?_)
  simp only [Option.toList_some, Option.toList_none, List.cons_append, List.nil_append]
  rw [seg225_6 (ha0 := ho95)]
  have l := l225 (Q := Q) (D := D1) (fs := fs) (fm := fm) (P := P) hT hP f2.2.2.1 13 0 rfl
  have l' : WP 124 xF1 none 225 11 [some (.inr (.inr (some 95))), some (.inl 0), some (.inl 0)] [] D1 Q = _ := l
  rw [l']
  exact hc D1 f1
end M55
