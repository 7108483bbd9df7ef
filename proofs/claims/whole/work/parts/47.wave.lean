/-! wave -/
def xset (D : xD) (a : Nat) (g : Int → Int) : xD := fun b j => if b = a then g j else D b j
/-- n more at each of the cells of a list, if no minute is behind 12 and no cell gets more than 30 -/
def wvR (n : Int) : List (Int × Int) → (Int → Int) → Option (Int → Int)
  | [], f => some f
  | h :: L, f => if 12 < h.2 then none else if 30 < f (13 * h.1 + h.2) + n then none else wvR n L (fun c => if c = 13 * h.1 + h.2 then f (13 * h.1 + h.2) + n else f c)
def wvN (w : Int → Int → Int) : List (Int × Int) → Int
  | [] => 0
  | h :: L => w h.1 h.2 + wvN w L
def wvS (s fr : Int) : Nat → List (Int × Int)
  | 0 => []
  | k + 1 => (s, fr) :: wvS s (fr + 1) k
def wvC (A : Int → Int) : List Int → Int → Nat → List (Int × Int)
  | [], _, _ => []
  | s :: r, fr, k => wvS s fr k ++ wvC A r (fr + A (30 + 7 * s + 2)) k
def wvW (A : Int → Int) : List Int → Int → List (Int × Int)
  | [], _ => []
  | s :: r, t => (s, t) :: wvW A r (t + A (30 + 7 * s + 2))
def wvM (A : Int → Int) (ws : List Int) : Int → Nat → List (Int × Int)
  | _, 0 => []
  | fr, k + 1 => wvW A ws fr ++ wvM A ws (fr + 1) k
def wvT (_ t : Int) : Int := if 12 < t then 1 else 0
def wvX (c s t : Int) : Int := if 13 * s + t = c then 1 else 0
def wvO (z s t : Int) : Int := if (0 ≤ s ∧ s < z) ∧ 0 ≤ t then 0 else 1
section M47
variable {K : (Int → Int) → (Int → Int) → (Int → Int) → (Int → Int) → (Int → Int) → (Int → Int) → (Int → Int) → (Int → Int) → Prop}
variable {x0 x1 x2 x3 x4 x5 x6 x7 x8 n s z v : Int} {a b : Nat} {D D' : xD} {Q : Option xv → xD → Prop}
theorem set_ne {g : Int → Int} (h : b ≠ a) : xset D a g b = D b := by
  funext j
  unfold xset
  rw [if_neg h]
theorem set_eq {g : Int → Int} : xset D a g a = g := by
  funext j
  unfold xset
  rw [if_pos rfl]
theorem set_set {g g' : Int → Int} : xset (xset D a g) a g' = xset D a g' := by
  funext b j
  unfold xset
  by_cases h : b = a
  · rw [if_pos h, if_pos h]
  · rw [if_neg h, if_neg h, if_neg h]
theorem set_up {i v : Int} : xup D a i v = xset D a (fun c => if c = i then v else D a c) := by
  funext b j
  unfold xset xup
  by_cases h : b = a
  · subst h
    by_cases g : j = i
    · simp [g]
    · simp [g]
  · simp [h]
theorem set_id : xset D a (D a) = D := by
  funext b j
  unfold xset
  by_cases h : b = a
  · rw [if_pos h, h]
  · rw [if_neg h]
theorem wvN_app (w : Int → Int → Int) : ∀ (L M : List (Int × Int)), wvN w (L ++ M) = wvN w L + wvN w M := by
  intro L M
  induction L with
  | nil => simp [wvN]
  | cons h L ih => simp only [List.cons_append, wvN]; rw [ih]; omega
theorem wvR_app : ∀ (L M : List (Int × Int)) (f : Int → Int), wvR n (L ++ M) f = (wvR n L f).bind (wvR n M) := by
  intro L
  induction L with
  | nil => intro M f; rfl
  | cons h L ih =>
    intro M f
    simp only [List.cons_append, wvR]
    split
    · rfl
    · split
      · rfl
      · exact ih M _
theorem wvN_0 {w : Int → Int → Int} (hw : ∀ s t, 0 ≤ w s t) : ∀ L, 0 ≤ wvN w L := by
  intro L
  induction L with
  | nil => simp [wvN]
  | cons h L ih => simp only [wvN]; have := hw h.1 h.2; omega
theorem wvT_0 (s t : Int) : 0 ≤ wvT s t := by unfold wvT; split <;> omega
theorem wvX_0 (c s t : Int) : 0 ≤ wvX c s t := by unfold wvX; split <;> omega
theorem wvO_0 (c s t : Int) : 0 ≤ wvO c s t := by unfold wvO; split <;> omega
theorem wvR_some (hn : 0 ≤ n) : ∀ (L : List (Int × Int)) (f g : Int → Int), wvR n L f = some g → wvN wvT L = 0 ∧ (∀ c, f c + n * wvN (wvX c) L ≤ 30 ∨ wvN (wvX c) L = 0) ∧ ∀ c, g c = f c + n * wvN (wvX c) L := by
  intro L
  induction L with
  | nil =>
    intro f g h
    simp only [wvR, Option.some.injEq] at h
    subst h
    exact ⟨rfl, fun c => .inr rfl, fun c => by simp [wvN]⟩
  | cons h L ih =>
    intro f g hg
    simp only [wvR] at hg
    by_cases c1 : 12 < h.2
    · rw [if_pos c1] at hg; exact absurd hg (by simp)
    · rw [if_neg c1] at hg
      by_cases c2 : 30 < f (13 * h.1 + h.2) + n
      · rw [if_pos c2] at hg; exact absurd hg (by simp)
      · rw [if_neg c2] at hg
        obtain ⟨i1, i2, i3⟩ := ih _ _ hg
        refine ⟨?_, fun c => ?_, fun c => ?_⟩
        · simp only [wvN]; rw [i1]; unfold wvT; rw [if_neg c1]; rfl
        · have q := i2 c
          have q0 := wvN_0 (wvX_0 c) L
          simp only [wvN, wvX] at q q0 ⊢
          by_cases e : 13 * h.1 + h.2 = c
          · rw [if_pos e, Int.mul_add]
            rw [if_pos e.symm, e] at q
            left
            rcases q with q | q
            · omega
            · rw [q]; rw [e] at c2; omega
          · rw [if_neg e, Int.zero_add]
            rw [if_neg (fun z => e z.symm)] at q
            exact q
        · have q := i3 c
          simp only [wvN, wvX] at q ⊢
          rw [q]
          by_cases e : 13 * h.1 + h.2 = c
          · rw [if_pos e, if_pos e.symm, Int.mul_add, e]; omega
          · rw [if_neg e, if_neg (fun z => e z.symm), Int.zero_add]
theorem wvR_ok (hn : 0 ≤ n) : ∀ (L : List (Int × Int)) (f : Int → Int), wvN wvT L = 0 → (∀ c, f c + n * wvN (wvX c) L ≤ 30 ∨ wvN (wvX c) L = 0) → wvR n L f = some (fun c => f c + n * wvN (wvX c) L) := by
  intro L
  induction L with
  | nil =>
    intro f _ _
    simp [wvR, wvN]
  | cons h L ih =>
    intro f h1 h2
    have t0 := wvN_0 wvT_0 L
    have t1 := wvT_0 h.1 h.2
    simp only [wvN] at h1
    have c1 : ¬ 12 < h.2 := fun c => by
      have : wvT h.1 h.2 = 1 := if_pos c
      omega
    simp only [wvR]
    have q := h2 (13 * h.1 + h.2)
    have q0 := wvN_0 (wvX_0 (13 * h.1 + h.2)) L
    have m0 := Int.mul_nonneg hn q0
    simp only [wvN] at q
    have e1 : wvX (13 * h.1 + h.2) h.1 h.2 = 1 := if_pos rfl
    rw [e1, Int.mul_add] at q
    have c2 : ¬ 30 < f (13 * h.1 + h.2) + n := by
      rcases q with q | q <;> omega
    rw [if_neg c1, if_neg c2, ih _ (by omega) (fun c => ?_)]
    · refine congrArg some (funext fun c => ?_)
      simp only [wvN, wvX]
      by_cases e : 13 * h.1 + h.2 = c
      · rw [if_pos e, if_pos e.symm, Int.mul_add, e]; omega
      · rw [if_neg e, if_neg (fun z => e z.symm), Int.zero_add]
    · have r := h2 c
      simp only [wvN, wvX] at r ⊢
      by_cases e : 13 * h.1 + h.2 = c
      · rw [if_pos e, Int.mul_add] at r
        rw [if_pos e.symm, e]
        rcases r with r | r
        · left; omega
        · have := wvN_0 (wvX_0 c) L
          omega
      · rw [if_neg e, Int.zero_add] at r
        rw [if_neg (fun z => e z.symm)]
        exact r
theorem wvC_0 (w : Int → Int → Int) (A : Int → Int) : ∀ (ws : List Int) (fr : Int), wvN w (wvC A ws fr 0) = 0 := by
  intro ws
  induction ws with
  | nil => intro fr; rfl
  | cons s r ih => intro fr; simp only [wvC, wvS, List.nil_append]; exact ih _
theorem wvC_up (w : Int → Int → Int) (A : Int → Int) (k : Nat) : ∀ (ws : List Int) (fr : Int), wvN w (wvC A ws fr (k + 1)) = wvN w (wvW A ws fr) + wvN w (wvC A ws (fr + 1) k) := by
  intro ws
  induction ws with
  | nil => intro fr; rfl
  | cons s r ih =>
    intro fr
    simp only [wvC, wvS, wvW, List.cons_append, wvN, wvN_app]
    rw [ih, show fr + 1 + A (30 + 7 * s + 2) = fr + A (30 + 7 * s + 2) + 1 by omega]
    omega
theorem wvCM (w : Int → Int → Int) (A : Int → Int) (ws : List Int) : ∀ (k : Nat) (fr : Int), wvN w (wvC A ws fr k) = wvN w (wvM A ws fr k) := by
  intro k
  induction k with
  | zero => intro fr; rw [wvC_0]; rfl
  | succ k ih =>
    intro fr
    rw [wvC_up, ih]
    simp only [wvM]
    rw [wvN_app]
/-- streets of the town, one behind the other -/
def wvV (A : Int → Int) : List Int → Prop
  | [] => True
  | s :: r => (0 ≤ s ∧ s < A 0) ∧ 0 ≤ A (30 + 7 * s + 2) ∧ A (30 + 7 * s + 2) ≤ 5 ∧ wvV A r
theorem wvS_O : ∀ (k : Nat) (fr : Int), (0 ≤ s ∧ s < z) → 0 ≤ fr → wvN (wvO z) (wvS s fr k) = 0 := by
  intro k
  induction k with
  | zero => intro fr _ _; rfl
  | succ k ih =>
    intro fr h1 h2
    simp only [wvS, wvN]
    rw [ih _ h1 (by omega)]
    unfold wvO
    rw [if_pos ⟨h1, h2⟩]
    rfl
theorem wvC_O {A : Int → Int} (k : Nat) : ∀ (ws : List Int) (fr : Int), wvV A ws → 0 ≤ fr → wvN (wvO (A 0)) (wvC A ws fr k) = 0 := by
  intro ws
  induction ws with
  | nil => intro fr _ _; rfl
  | cons s r ih =>
    intro fr h1 h2
    obtain ⟨v1, v2, v3, v4⟩ := h1
    simp only [wvC]
    rw [wvN_app, wvS_O k fr v1 h2, ih _ v4 (by omega)]
    rfl
theorem wvS_T : ∀ (k : Nat) (fr : Int), wvN wvT (wvS s fr (k + 1)) = 0 → fr + k ≤ 12 := by
  intro k
  induction k with
  | zero =>
    intro fr h
    simp only [wvS, wvN, wvT] at h
    by_cases c : 12 < fr
    · rw [if_pos c] at h; exact absurd h (by decide)
    · omega
  | succ k ih =>
    intro fr h
    have e : wvS s fr (k + 1 + 1) = (s, fr) :: wvS s (fr + 1) (k + 1) := rfl
    rw [e] at h
    simp only [wvN] at h
    have h1 := wvN_0 wvT_0 (wvS s (fr + 1) (k + 1))
    have h2 := wvT_0 s fr
    have := ih (fr + 1) (by omega)
    omega
theorem wv_rg : ∀ (L : List (Int × Int)) (c : Int), wvN wvT L = 0 → wvN (wvO z) L = 0 → wvN (wvX c) L ≠ 0 → 0 ≤ c ∧ c < 13 * z := by
  intro L
  induction L with
  | nil => intro c _ _ h; exact absurd rfl h
  | cons h L ih =>
    intro c h1 h2 h3
    simp only [wvN] at h1 h2 h3
    have a1 := wvN_0 wvT_0 L
    have a2 := wvT_0 h.1 h.2
    have a3 := wvN_0 (wvO_0 z) L
    have a4 := wvO_0 z h.1 h.2
    by_cases e : 13 * h.1 + h.2 = c
    · have b1 : wvT h.1 h.2 = 0 := by omega
      have b2 : wvO z h.1 h.2 = 0 := by omega
      unfold wvT at b1
      unfold wvO at b2
      have c1 : ¬ 12 < h.2 := fun q => by rw [if_pos q] at b1; exact absurd b1 (by decide)
      have c2 : (0 ≤ h.1 ∧ h.1 < z) ∧ 0 ≤ h.2 := Decidable.not_not.mp (fun q => by rw [if_neg q] at b2; exact absurd b2 (by decide))
      omega
    · have e2 : wvX c h.1 h.2 = 0 := if_neg e
      exact ih c (by omega) (by omega) (by omega)
/-- both ways round come to the same -/
theorem wv_tr {L M : List (Int × Int)} {f f' : Int → Int} (hn : 0 ≤ n) (hN : ∀ w, wvN w L = wvN w M) (hO : wvN (wvO z) L = 0) (hf : ∀ c, 0 ≤ c → c < 13 * z → f c = f' c) : (wvR n L f = none → wvR n M f' = none) ∧ (∀ g, wvR n L f = some g → wvR n M f' = some (fun c => f' c + n * wvN (wvX c) L) ∧ (∀ c, g c = f c + n * wvN (wvX c) L) ∧ (∀ c, f c + n * wvN (wvX c) L ≤ 30 ∨ wvN (wvX c) L = 0) ∧ wvN wvT L = 0) := by
  refine ⟨fun h => ?_, fun g h => ?_⟩
  · cases e : wvR n M f' with
    | none => rfl
    | some g =>
      obtain ⟨q1, q2, q3⟩ := wvR_some hn _ _ _ e
      rw [← hN] at q1
      have := wvR_ok hn L f q1 (fun c => by
        have r := q2 c
        rw [← hN] at r
        by_cases e0 : wvN (wvX c) L = 0
        · exact .inr e0
        · have rg := wv_rg L c q1 hO e0
          rw [hf c rg.1 rg.2]; exact r)
      rw [h] at this
      exact absurd this (by simp)
  · obtain ⟨q1, q2, q3⟩ := wvR_some hn _ _ _ h
    refine ⟨?_, q3, q2, q1⟩
    have := wvR_ok hn M f' (by rw [← hN]; exact q1) (fun c => by
      rw [← hN]
      by_cases e0 : wvN (wvX c) L = 0
      · exact .inr e0
      · have rg := wv_rg L c q1 hO e0
        rw [← hf c rg.1 rg.2]; exact q2 c)
    rw [this]
    exact congrArg some (funext fun c => by rw [hN])

theorem l130 (h1 : 0 ≤ x1 ∧ x1 < 16) (h4 : 1 ≤ x4 ∧ x4 ≤ 30) (h2 : 0 ≤ x2 ∧ x2 ≤ 12) (h3 : x3 ≤ 12) (h7 : 0 ≤ D 7 x1 ∧ D 7 x1 ≤ 5) : ∀ (k : Nat) (x5 : Int) (o6 : Option xv) (D' : xD), x3 + 1 = x5 + k → 0 ≤ x5 → (∀ a, a ≠ 41 → D' a = D a) → (∀ c, 0 ≤ c → c < 208 → 0 ≤ D' 41 c ∧ D' 41 c ≤ 30) → (∀ g, wvR x4 (wvS x1 x5 k) (D' 41) = some g → Q (some (.inl (x2 + D 7 x1))) (xset D 41 g)) → (wvR x4 (wvS x1 x5 k) (D' 41) = none → ∀ D', (∀ a, a ≠ 41 → D' a = D a) → Q (some (.inl (-1))) D') → WP 124 xF1 none 130 36 [some (.inr (.inr (some 1))), some (.inl x1), some (.inl x2), some (.inl x3), some (.inl x4), some (.inl x5), o6] [] D' Q := by
  intro k
  induction k with
  | zero =>
    intro x5 o6 D' e1 e2 hD hB hs hf
    rw [seg130_36 (ha0 := ho1), brT (c := x3 < x5) (by omega)]
    simp only [Nat.reduceAdd]
    rw [cnB (by omega), hD 7 (by decide), cnX (by omega)]
    have := hs (D' 41) rfl
    rw [show xset D 41 (D' 41) = D' from by
      funext b j
      unfold xset
      by_cases e : b = 41
      · rw [if_pos e, e]
      · rw [if_neg e, hD b e]] at this
    exact this
  | succ k ih =>
    intro x5 o6 D' e1 e2 hD hB hs hf
    have b := hB (x1 * 13 + x5) (by omega) (by omega)
    have ec : 13 * x1 + x5 = x1 * 13 + x5 := by omega
    rw [seg130_36 (ha0 := ho1), brF (c := x3 < x5) (by omega)]
    simp only [Nat.reduceAdd]
    rw [cnX (by omega), cnX (by omega), cnB (by omega), cnX (by omega), cnB (by omega), cnB (by omega)]
    simp only [wvS, wvR] at hs hf
    rw [if_neg (by omega), ec] at hs hf
    by_cases c : D' 41 (x1 * 13 + x5) + x4 ≤ 30
    · rw [brT c, cnX (by omega)]
      rw [if_neg (by omega)] at hs hf
      refine ih (x5 + 1) _ _ (by omega) (by omega) (fun a ha => by rw [up_ne ha]; exact hD a ha) (fun i i1 i2 => ?_) ?_ ?_
      · rw [up_at]
        split
        · omega
        · exact hB i i1 i2
      · rw [set_up, set_eq]; exact hs
      · rw [set_up, set_eq]; exact hf
    · rw [brF c]
      rw [if_pos (by omega)] at hf
      exact hf rfl _ (fun a ha => by rw [up_ne ha]; exact hD a ha)
theorem m130 (h0 : 0 ≤ x1 ∧ x1 < D 4 11) (h16 : D 4 11 ≤ 16) (h4 : 1 ≤ x4 ∧ x4 ≤ 30) (h2 : 0 ≤ x2) {k : Nat} (h3 : x3 + 1 = x2 + (k + 1 : Nat)) (h7 : 0 ≤ D 7 x1 ∧ D 7 x1 ≤ 5) (hB : ∀ c, 0 ≤ c → c < 208 → 0 ≤ D 41 c ∧ D 41 c ≤ 30)
    (hs : x3 ≤ 12 → ∀ g, wvR x4 (wvS x1 x2 (k + 1)) (D 41) = some g → Q (some (.inl (x2 + D 7 x1))) (xset D 41 g)) (hf : wvR x4 (wvS x1 x2 (k + 1)) (D 41) = none → ∀ D', (∀ a, a ≠ 41 → D' a = D a) → Q (some (.inl (-1))) D') : WP 124 xF1 none 130 0 [some (.inr (.inr (some 1))), some (.inl x1), some (.inl x2), some (.inl x3), some (.inl x4), none, none] [] D Q := by
  rw [seg130_0 (ha0 := ho1), brF (c := x2 = -1) (by omega)]
  simp only [Nat.reduceAdd]
  rw [m94]
  simp only [Option.toList_some, Option.toList_none, List.cons_append, List.nil_append]
  rw [seg130_16 (ha0 := ho1), if_pos h0, brT (by decide), brF (c := x2 < 0) (by omega)]
  by_cases c : x3 ≤ 12
  · rw [brT c]
    exact l130 (by omega) h4 (by omega) c h7 (k + 1) x2 none D h3 h2 (fun _ _ => rfl) hB (hs c) hf
  · rw [brF c, seg130_31 (ha0 := ho1)]
    refine hf ?_ D (fun _ _ => rfl)
    cases e : wvR x4 (wvS x1 x2 (k + 1)) (D 41) with
    | none => rfl
    | some g =>
      have := wvS_T k x2 (wvR_some (by omega) _ _ _ e).1
      omega
theorem m130n (h : x2 = -1 ∨ x1 = -1) : WP 124 xF1 none 130 0 [some (.inr (.inr (some 1))), some (.inl x1), some (.inl x2), some (.inl x3), some (.inl x4), none, none] [] D Q = Q (some (.inl x2)) D := by
  rw [seg130_0 (ha0 := ho1)]
  by_cases c : x2 = -1
  · rw [brT c, seg130_19 (ha0 := ho1)]
  · rw [brF c]
    simp only [Nat.reduceAdd]
    rw [m94]
    simp only [Option.toList_some, Option.toList_none, List.cons_append, List.nil_append]
    rw [seg130_16 (ha0 := ho1), if_neg (by omega), brF (by decide), seg130_19 (ha0 := ho1)]
def wvL3 (d : Int) : List Int := if d = -1 then [] else [d]
def wvL2 (c d : Int) : List Int := if c = -1 then [] else c :: wvL3 d
def wvL1 (b c d : Int) : List Int := if b = -1 then [] else b :: wvL2 c d
theorem c179 : WP 124 xF1 none 129 179 [some (.inr (.inr (some 1))), some (.inl x1), some (.inl x2), some (.inl x3), some (.inl x4), some (.inl x5), some (.inl x6), some (.inl x7), some (.inl z)] [.inl s] D Q = ((s ≠ -1 → Q (some (.inl 1)) (xcpy D 41 20 0 0 208)) ∧ (¬ s ≠ -1 → Q (some (.inl 0)) D)) := by
  rw [seg129_179 (ha0 := ho1)]
  by_cases c : s = -1
  · rw [brF (c := s ≠ -1) (fun q => q c), brF (c := s ≠ -1) (fun q => q c)]
  · rw [brT (c := s ≠ -1) c, brT (c := s ≠ -1) c, cnT (by decide)]

theorem wv_bd {L : List (Int × Int)} {f g : Int → Int} (hn : 0 ≤ n) (h : wvR n L f = some g) (hB : ∀ c, 0 ≤ c → c < 208 → 0 ≤ f c ∧ f c ≤ 30) : ∀ c, 0 ≤ c → c < 208 → 0 ≤ g c ∧ g c ≤ 30 := by
  intro c c1 c2
  obtain ⟨-, q2, q3⟩ := wvR_some hn _ _ _ h
  have b := hB c c1 c2
  have r := q2 c
  have r0 := Int.mul_nonneg hn (wvN_0 (wvX_0 c) L)
  rw [q3 c]
  rcases r with r | r
  · omega
  · rw [r, Int.mul_zero]; omega
theorem s179 {A : Int → Int} {k : Nat} (hA : ∀ s, 0 ≤ s → s < D 4 11 → D 7 s = A (30 + 7 * s + 2) ∧ 0 ≤ D 7 s ∧ D 7 s ≤ 5) (h16 : D 4 11 ≤ 16) (h5 : 0 ≤ x5 ∧ x5 ≤ 12 ∧ 0 ≤ x6 ∧ x6 ≤ 12) (hk : x6 + 1 = x5 + (k + 1 : Nat)) (h7 : 1 ≤ x7 ∧ x7 ≤ 30) (hz : 0 ≤ z ∧ z ≤ 17) (hB : ∀ c, 0 ≤ c → c < 208 → 0 ≤ D 41 c ∧ D 41 c ≤ 30)
    (hs : ∀ g, wvR x7 (wvC A [] z (k + 1)) (D 41) = some g → Q (some (.inl 1)) (xcpy (xset D 41 g) 41 20 0 0 208)) (hf : wvR x7 (wvC A [] z (k + 1)) (D 41) = none → ∀ D', (∀ a, a ≠ 41 → D' a = D a) → Q (some (.inl 0)) D') : WP 124 xF1 none 129 179 [some (.inr (.inr (some 1))), some (.inl x1), some (.inl x2), some (.inl x3), some (.inl x4), some (.inl x5), some (.inl x6), some (.inl x7), some (.inl x8)] [.inl z] D Q := by
  rw [c179, brT (c := z ≠ -1) (by omega)]
  have := hs (D 41) rfl
  rw [set_id] at this
  exact this

theorem c159m (h5 : 0 ≤ x5 ∧ x5 ≤ 12 ∧ 0 ≤ x6 ∧ x6 ≤ 12) : WP 124 xF1 none 129 159 [some (.inr (.inr (some 1))), some (.inl x1), some (.inl x2), some (.inl x3), some (.inl x4), some (.inl x5), some (.inl x6), some (.inl x7), some (.inl x8)] [.inl (-1)] D Q = Q (some (.inl 0)) D := by
  rw [seg129_159 (ha0 := ho1), cnX (by omega), cnX (by omega), m130n (.inl rfl)]
  simp only [Option.toList_some, Option.toList_none, List.cons_append, List.nil_append]
  rw [c179, brF (c := (-1 : Int) ≠ -1) (by decide)]
theorem s159 {A : Int → Int} {k : Nat} (hd : x4 = -1 ∨ (0 ≤ x4 ∧ x4 < D 4 11))  (hA : ∀ s, 0 ≤ s → s < D 4 11 → D 7 s = A (30 + 7 * s + 2) ∧ 0 ≤ D 7 s ∧ D 7 s ≤ 5) (h16 : D 4 11 ≤ 16) (h5 : 0 ≤ x5 ∧ x5 ≤ 12 ∧ 0 ≤ x6 ∧ x6 ≤ 12) (hk : x6 + 1 = x5 + (k + 1 : Nat)) (h7 : 1 ≤ x7 ∧ x7 ≤ 30) (hz : 0 ≤ z ∧ z ≤ 17) (hB : ∀ c, 0 ≤ c → c < 208 → 0 ≤ D 41 c ∧ D 41 c ≤ 30)
    (hs : ∀ g, wvR x7 (wvC A (wvL3 x4) z (k + 1)) (D 41) = some g → Q (some (.inl 1)) (xcpy (xset D 41 g) 41 20 0 0 208)) (hf : wvR x7 (wvC A (wvL3 x4) z (k + 1)) (D 41) = none → ∀ D', (∀ a, a ≠ 41 → D' a = D a) → Q (some (.inl 0)) D') : WP 124 xF1 none 129 159 [some (.inr (.inr (some 1))), some (.inl x1), some (.inl x2), some (.inl x3), some (.inl x4), some (.inl x5), some (.inl x6), some (.inl x7), some (.inl x8)] [.inl z] D Q := by
  rw [seg129_159 (ha0 := ho1), cnX (by omega), cnX (by omega)]
  by_cases e : x4 = -1
  · rw [m130n (.inr e)]
    simp only [Option.toList_some, Option.toList_none, List.cons_append, List.nil_append]
    have el : (wvL3 x4) = [] := if_pos e
    rw [el] at hs hf
    exact s179 hA h16 h5 hk h7 hz hB hs hf
  · have el : (wvL3 x4) = x4 :: [] := if_neg e
    have ha : 0 ≤ x4 ∧ x4 < D 4 11 := by omega
    obtain ⟨q1, q2⟩ := hA _ ha.1 ha.2
    have ew : wvC A (wvL3 x4) z (k + 1) = wvS x4 z (k + 1) ++ wvC A [] (z + D 7 x4) (k + 1) := by rw [el, q1]; rfl
    rw [ew, wvR_app] at hs hf
    refine m130 (k := k) ha h16 h7 hz.1 (by omega) q2 hB (fun h3 g hg => ?_) (fun hg D' hD' => ?_)
    · rw [hg] at hs hf
      simp only [Option.toList_some, Option.toList_none, List.cons_append, List.nil_append]
      have eg : xset D 41 g 41 = g := set_eq
      refine s179 (by rw [set_ne (by decide), set_ne (by decide)]; exact hA) (by rw [set_ne (by decide)]; exact h16) h5 hk h7 (by omega) (by rw [eg]; exact wv_bd (by omega) hg hB) ?_ ?_
      · rw [eg]
        intro g' hg'
        rw [set_set]
        exact hs g' hg'
      · rw [eg]
        intro hn D' hD'
        exact hf hn D' (fun a ha => by rw [hD' a ha, set_ne ha])
    · rw [hg] at hf
      simp only [Option.toList_some, Option.toList_none, List.cons_append, List.nil_append]
      rw [c179, brF (c := (-1 : Int) ≠ -1) (by decide)]
      exact hf rfl D' hD'

theorem c140m (h5 : 0 ≤ x5 ∧ x5 ≤ 12 ∧ 0 ≤ x6 ∧ x6 ≤ 12) : WP 124 xF1 none 129 140 [some (.inr (.inr (some 1))), some (.inl x1), some (.inl x2), some (.inl x3), some (.inl x4), some (.inl x5), some (.inl x6), some (.inl x7), some (.inl x8)] [.inl (-1)] D Q = Q (some (.inl 0)) D := by
  rw [seg129_140 (ha0 := ho1), cnX (by omega), cnX (by omega), m130n (.inl rfl)]
  simp only [Option.toList_some, Option.toList_none, List.cons_append, List.nil_append]
  rw [c159m h5]
theorem s140 {A : Int → Int} {k : Nat} (hc : x3 = -1 ∨ (0 ≤ x3 ∧ x3 < D 4 11)) (hd : x4 = -1 ∨ (x3 ≠ -1 ∧ 0 ≤ x4 ∧ x4 < D 4 11))  (hA : ∀ s, 0 ≤ s → s < D 4 11 → D 7 s = A (30 + 7 * s + 2) ∧ 0 ≤ D 7 s ∧ D 7 s ≤ 5) (h16 : D 4 11 ≤ 16) (h5 : 0 ≤ x5 ∧ x5 ≤ 12 ∧ 0 ≤ x6 ∧ x6 ≤ 12) (hk : x6 + 1 = x5 + (k + 1 : Nat)) (h7 : 1 ≤ x7 ∧ x7 ≤ 30) (hz : 0 ≤ z ∧ z ≤ 17) (hB : ∀ c, 0 ≤ c → c < 208 → 0 ≤ D 41 c ∧ D 41 c ≤ 30)
    (hs : ∀ g, wvR x7 (wvC A (wvL2 x3 x4) z (k + 1)) (D 41) = some g → Q (some (.inl 1)) (xcpy (xset D 41 g) 41 20 0 0 208)) (hf : wvR x7 (wvC A (wvL2 x3 x4) z (k + 1)) (D 41) = none → ∀ D', (∀ a, a ≠ 41 → D' a = D a) → Q (some (.inl 0)) D') : WP 124 xF1 none 129 140 [some (.inr (.inr (some 1))), some (.inl x1), some (.inl x2), some (.inl x3), some (.inl x4), some (.inl x5), some (.inl x6), some (.inl x7), some (.inl x8)] [.inl z] D Q := by
  rw [seg129_140 (ha0 := ho1), cnX (by omega), cnX (by omega)]
  by_cases e : x3 = -1
  · rw [m130n (.inr e)]
    simp only [Option.toList_some, Option.toList_none, List.cons_append, List.nil_append]
    have el : (wvL2 x3 x4) = (wvL3 x4) := by unfold wvL2 wvL3; rw [if_pos e, if_pos (by omega)]
    rw [el] at hs hf
    exact s159 (by omega) hA h16 h5 hk h7 hz hB hs hf
  · have el : (wvL2 x3 x4) = x3 :: (wvL3 x4) := if_neg e
    have ha : 0 ≤ x3 ∧ x3 < D 4 11 := by omega
    obtain ⟨q1, q2⟩ := hA _ ha.1 ha.2
    have ew : wvC A (wvL2 x3 x4) z (k + 1) = wvS x3 z (k + 1) ++ wvC A (wvL3 x4) (z + D 7 x3) (k + 1) := by rw [el, q1]; rfl
    rw [ew, wvR_app] at hs hf
    refine m130 (k := k) ha h16 h7 hz.1 (by omega) q2 hB (fun h3 g hg => ?_) (fun hg D' hD' => ?_)
    · rw [hg] at hs hf
      simp only [Option.toList_some, Option.toList_none, List.cons_append, List.nil_append]
      have eg : xset D 41 g 41 = g := set_eq
      refine s159 (by rw [set_ne (by decide)]; omega) (by rw [set_ne (by decide), set_ne (by decide)]; exact hA) (by rw [set_ne (by decide)]; exact h16) h5 hk h7 (by omega) (by rw [eg]; exact wv_bd (by omega) hg hB) ?_ ?_
      · rw [eg]
        intro g' hg'
        rw [set_set]
        exact hs g' hg'
      · rw [eg]
        intro hn D' hD'
        exact hf hn D' (fun a ha => by rw [hD' a ha, set_ne ha])
    · rw [hg] at hf
      simp only [Option.toList_some, Option.toList_none, List.cons_append, List.nil_append]
      rw [c159m h5]
      exact hf rfl D' hD'

theorem c121m (o8 : Option xv)(h5 : 0 ≤ x5 ∧ x5 ≤ 12 ∧ 0 ≤ x6 ∧ x6 ≤ 12) : WP 124 xF1 none 129 121 [some (.inr (.inr (some 1))), some (.inl x1), some (.inl x2), some (.inl x3), some (.inl x4), some (.inl x5), some (.inl x6), some (.inl x7), o8] [.inl (-1)] D Q = Q (some (.inl 0)) D := by
  rw [seg129_121 (ha0 := ho1), cnX (by omega), cnX (by omega), m130n (.inl rfl)]
  simp only [Option.toList_some, Option.toList_none, List.cons_append, List.nil_append]
  rw [c140m h5]
theorem s121 {A : Int → Int} {k : Nat} (o8 : Option xv)(hb : x2 = -1 ∨ (0 ≤ x2 ∧ x2 < D 4 11)) (hc : x3 = -1 ∨ (x2 ≠ -1 ∧ 0 ≤ x3 ∧ x3 < D 4 11)) (hd : x4 = -1 ∨ (x3 ≠ -1 ∧ 0 ≤ x4 ∧ x4 < D 4 11))  (hA : ∀ s, 0 ≤ s → s < D 4 11 → D 7 s = A (30 + 7 * s + 2) ∧ 0 ≤ D 7 s ∧ D 7 s ≤ 5) (h16 : D 4 11 ≤ 16) (h5 : 0 ≤ x5 ∧ x5 ≤ 12 ∧ 0 ≤ x6 ∧ x6 ≤ 12) (hk : x6 + 1 = x5 + (k + 1 : Nat)) (h7 : 1 ≤ x7 ∧ x7 ≤ 30) (hz : 0 ≤ z ∧ z ≤ 17) (hB : ∀ c, 0 ≤ c → c < 208 → 0 ≤ D 41 c ∧ D 41 c ≤ 30)
    (hs : ∀ g, wvR x7 (wvC A (wvL1 x2 x3 x4) z (k + 1)) (D 41) = some g → Q (some (.inl 1)) (xcpy (xset D 41 g) 41 20 0 0 208)) (hf : wvR x7 (wvC A (wvL1 x2 x3 x4) z (k + 1)) (D 41) = none → ∀ D', (∀ a, a ≠ 41 → D' a = D a) → Q (some (.inl 0)) D') : WP 124 xF1 none 129 121 [some (.inr (.inr (some 1))), some (.inl x1), some (.inl x2), some (.inl x3), some (.inl x4), some (.inl x5), some (.inl x6), some (.inl x7), o8] [.inl z] D Q := by
  rw [seg129_121 (ha0 := ho1), cnX (by omega), cnX (by omega)]
  by_cases e : x2 = -1
  · rw [m130n (.inr e)]
    simp only [Option.toList_some, Option.toList_none, List.cons_append, List.nil_append]
    have el : (wvL1 x2 x3 x4) = (wvL2 x3 x4) := by unfold wvL1 wvL2; rw [if_pos e, if_pos (by omega)]
    rw [el] at hs hf
    exact s140 (by omega) (by omega) hA h16 h5 hk h7 hz hB hs hf
  · have el : (wvL1 x2 x3 x4) = x2 :: (wvL2 x3 x4) := if_neg e
    have ha : 0 ≤ x2 ∧ x2 < D 4 11 := by omega
    obtain ⟨q1, q2⟩ := hA _ ha.1 ha.2
    have ew : wvC A (wvL1 x2 x3 x4) z (k + 1) = wvS x2 z (k + 1) ++ wvC A (wvL2 x3 x4) (z + D 7 x2) (k + 1) := by rw [el, q1]; rfl
    rw [ew, wvR_app] at hs hf
    refine m130 (k := k) ha h16 h7 hz.1 (by omega) q2 hB (fun h3 g hg => ?_) (fun hg D' hD' => ?_)
    · rw [hg] at hs hf
      simp only [Option.toList_some, Option.toList_none, List.cons_append, List.nil_append]
      have eg : xset D 41 g 41 = g := set_eq
      refine s140 (by rw [set_ne (by decide)]; omega) (by rw [set_ne (by decide)]; omega) (by rw [set_ne (by decide), set_ne (by decide)]; exact hA) (by rw [set_ne (by decide)]; exact h16) h5 hk h7 (by omega) (by rw [eg]; exact wv_bd (by omega) hg hB) ?_ ?_
      · rw [eg]
        intro g' hg'
        rw [set_set]
        exact hs g' hg'
      · rw [eg]
        intro hn D' hD'
        exact hf hn D' (fun a ha => by rw [hD' a ha, set_ne ha])
    · rw [hg] at hf
      simp only [Option.toList_some, Option.toList_none, List.cons_append, List.nil_append]
      rw [c140m h5]
      exact hf rfl D' hD'

end M47
