/-! changed: what it is; the class -/
/-- where a change at t ends: the next one told for the place, or 13 -/
def ceA (A : Int → Int) (p t : Int) : Int := if fsI (fun k => chA A p k ≠ -1) (t + 1) (12 - t).toNat = -1 then 13 else fsI (fun k => chA A p k ≠ -1) (t + 1) (12 - t).toNat
def ccP (A : Int → Int) (p t s : Int) : Int → Int → Int := fun q u => if q = p ∧ t ≤ u ∧ u < ceA A p t then s else shP A q u
def ccV (A T : Int → Int) (p t s : Int) : Int := wkZ T (-1) 0 (ccP A p t s) 13
abbrev cfZ : Type := Int × Int × Int × Int
def cfU (A T : Int → Int) (p t s : Int) (z : cfZ) : cfZ := if z.1 < ccV A T p t s then (ccV A T p t s, p, t, s) else z
def cfS (A T : Int → Int) (p t : Int) : Nat → Int → cfZ → cfZ
  | 0, _, z => z
  | k + 1, s, z => cfS A T p t k (s + 1) (if frM T s = p then cfU A T p t s z else z)
def cfO (A : Int → Int) (p t : Int) : Prop := A 6 < 8 ∨ chA A p t ≠ -1
def cfM (A T : Int → Int) (p : Int) : Nat → Int → cfZ → cfZ
  | 0, _, z => z
  | k + 1, t, z => cfM A T p k (t + 1) (if A 6 = 8 ∧ chA A p t = -1 then z else cfS A T p t (T 0).toNat 0 z)
def cfP (A T : Int → Int) : Nat → Int → cfZ → cfZ
  | 0, _, z => z
  | k + 1, p, z => cfP A T k (p + 1) (cfM A T p 12 1 z)
/-- what findChange leaves in the guide -/
def cgI (z : cfZ) (h : Int) (c6 : Int → Int) : Prop := c6 5 = z.2.1 ∧ c6 6 = z.2.2.1 ∧ c6 7 = z.2.2.2 ∧ c6 8 = (if z.2.1 = -1 then -1 else z.1) ∧ c6 9 = h
/-- z: the greatest so far is h while nothing is found, more behind it -/
def cfI (z : cfZ) (h : Int) : Prop := 0 ≤ h ∧ h ≤ z.1 ∧ ((z.2.1 = -1 ∧ z.1 = h) ∨ (0 ≤ z.2.1 ∧ h < z.1))
section M61
variable {x1 x2 x3 x4 x5 x6 s t p q u h fm : Int} {D D' : xD} {A T : Int → Int} {z : cfZ} {Q : Option xv → xD → Prop}
theorem ce_of (ht : 1 ≤ t) (hu : t < u ∧ u ≤ 13) (h : ∀ k, t < k → k < u → chA A p k = -1) (h2 : u = 13 ∨ chA A p u ≠ -1) : ceA A p t = u := by
  unfold ceA
  rcases fsI_spec (P := fun k => chA A p k ≠ -1) (12 - t).toNat (t + 1) with ⟨q, r⟩ | ⟨q1, q2, q3, q4⟩
  · rw [if_pos q]
    rcases h2 with e | e
    · exact e.symm
    · by_cases c : u = 13
      · exact c.symm
      · exact absurd e (r u (by omega) (by omega))
  · rw [if_neg (by omega)]
    generalize fsI (fun k => chA A p k ≠ -1) (t + 1) (12 - t).toNat = f at q1 q2 q3 q4
    rcases Int.lt_trichotomy f u with c | c | c
    · exact absurd (h f (by omega) c) q3
    · exact c
    · rcases h2 with e | e
      · omega
      · exact absurd e (q4 u (by omega) c)
theorem ce_rg (ht : 1 ≤ t ∧ t ≤ 12) : t < ceA A p t ∧ ceA A p t ≤ 13 := by
  unfold ceA
  rcases fsI_spec (P := fun k => chA A p k ≠ -1) (12 - t).toNat (t + 1) with ⟨q, r⟩ | ⟨q1, q2, q3, q4⟩
  · rw [if_pos q]; omega
  · rw [if_neg (by omega)]; omega
theorem cc_ok (W : WfA A) (hT : T 0 = A 0) (hs : 0 ≤ s ∧ s < T 0) : wkP T (ccP A p t s) := fun q u q1 q2 u1 u2 => by
  unfold ccP
  by_cases c : q = p ∧ t ≤ u ∧ u < ceA A p t
  · rw [if_pos c]; exact .inr hs
  · rw [if_neg c]; exact shP_wkP W hT q u q1 q2 u1 u2
theorem l107 (H : chC D A) (hp : 0 ≤ x2 ∧ x2 < 8) (ht : 1 ≤ x3 ∧ x3 ≤ 12) : ∀ (k : Nat) (u : Int), 13 = u + k → x3 ≤ u → (∀ k, x3 < k → k < u → chA A x2 k = -1) → WP 124 xF1 none 107 3 [some (.inr (.inr (some 85))), some (.inr (.inr (some 3))), some (.inl x2), some (.inl x3), some (.inl x4), some (.inl u)] [] (xset D 86 (fun c => if 13 * x2 + x3 ≤ c ∧ c < 13 * x2 + u then x4 else D 86 c)) Q = Q none (xset D 86 (fun c => if 13 * x2 + x3 ≤ c ∧ c < 13 * x2 + ceA A x2 x3 then x4 else D 86 c)) := by
  intro k
  induction k with
  | zero =>
    intro u h1 h2 h3
    rw [seg107_3 (ha0 := ho85) (ha1 := ho3), brT (c := 13 ≤ u) (by omega), ce_of (u := u) ht.1 (by omega) h3 (.inl (by omega))]
  | succ k ih =>
    intro u h1 h2 h3
    have H' : chC (xset D 86 (fun c => if 13 * x2 + x3 ≤ c ∧ c < 13 * x2 + u then x4 else D 86 c)) A := chC_fr (fun a a1 a2 => set_ne (by omega)) H
    have go : (x3 < u → chA A x2 u = -1) → WP 124 xF1 none 107 28 [some (.inr (.inr (some 85))), some (.inr (.inr (some 3))), some (.inl x2), some (.inl x3), some (.inl x4), some (.inl u)] [] (xset D 86 (fun c => if 13 * x2 + x3 ≤ c ∧ c < 13 * x2 + u then x4 else D 86 c)) Q = Q none (xset D 86 (fun c => if 13 * x2 + x3 ≤ c ∧ c < 13 * x2 + ceA A x2 x3 then x4 else D 86 c)) := by
      intro hz
      rw [seg107_28 (ha0 := ho85) (ha1 := ho3), cnX (by omega), cnX (by omega), cnB (by omega), cnX (by omega)]
      simp only [Nat.reduceAdd]
      rw [set_up, set_set, set_eq]
      have e : (fun c => if c = x2 * 13 + u then x4 else (fun c => if 13 * x2 + x3 ≤ c ∧ c < 13 * x2 + u then x4 else D 86 c) c) = (fun c => if 13 * x2 + x3 ≤ c ∧ c < 13 * x2 + (u + 1) then x4 else D 86 c) := by
        funext c
        show (if c = x2 * 13 + u then x4 else (if 13 * x2 + x3 ≤ c ∧ c < 13 * x2 + u then x4 else D 86 c)) = _
        by_cases c1 : c = x2 * 13 + u
        · rw [if_pos c1, if_pos (by omega)]
        · rw [if_neg c1]
          by_cases c2 : 13 * x2 + x3 ≤ c ∧ c < 13 * x2 + u
          · rw [if_pos c2, if_pos (by omega)]
          · rw [if_neg c2, if_neg (by omega)]
      rw [e]
      refine ih (u + 1) (by omega) (by omega) (fun j j1 j2 => ?_)
      by_cases c : j = u
      · rw [c]; exact hz (by omega)
      · exact h3 j j1 (by omega)
    rw [seg107_3 (ha0 := ho85) (ha1 := ho3), brF (c := 13 ≤ u) (by omega)]
    by_cases c : u ≤ x3
    · rw [brT c]; exact go (fun z => by omega)
    · rw [brF c, m87 H']
      simp only [Option.toList_some, Option.toList_none, List.cons_append, List.nil_append]
      rw [seg107_23 (ha0 := ho85) (ha1 := ho3)]
      by_cases c2 : chA A x2 u = -1
      · rw [brT c2]; exact go (fun _ => c2)
      · rw [brF c2, ce_of (u := u) ht.1 (by omega) h3 (.inr c2)]
theorem m107 (H : chC D A) (hp : 0 ≤ x2 ∧ x2 < 8) (ht : 1 ≤ x3 ∧ x3 ≤ 12) : WP 124 xF1 none 107 0 [some (.inr (.inr (some 85))), some (.inr (.inr (some 3))), some (.inl x2), some (.inl x3), some (.inl x4), none] [] D Q = Q none (xset D 86 (fun c => if 13 * x2 + x3 ≤ c ∧ c < 13 * x2 + ceA A x2 x3 then x4 else D 86 c)) := by
  rw [seg107_0 (ha0 := ho85) (ha1 := ho3)]
  have l := l107 (Q := Q) (x4 := x4) H hp ht (13 - x3).toNat x3 (by omega) (by omega) (fun k k1 k2 => by omega)
  have e : (fun c => if 13 * x2 + x3 ≤ c ∧ c < 13 * x2 + x3 then x4 else D 86 c) = D 86 := by
    funext c
    rw [if_neg (by omega)]
  rw [e, set_id] at l
  exact l
theorem cfS_nf : ∀ (k : Nat) (s : Int) (z : cfZ), T 0 = s + k → 0 ≤ s → (nfT T p (s - 1) = -1 ∧ cfS A T p t k s z = z) ∨ (∃ m : Nat, (s ≤ nfT T p (s - 1) ∧ T 0 = nfT T p (s - 1) + 1 + m) ∧ cfS A T p t k s z = cfS A T p t m (nfT T p (s - 1) + 1) (cfU A T p t (nfT T p (s - 1)) z)) := by
  intro k
  induction k with
  | zero =>
    intro s z h1 h2
    refine .inl ⟨?_, rfl⟩
    unfold nfT
    rw [show (T 0 - (s - 1 + 1)).toNat = 0 by omega]
    rfl
  | succ k ih =>
    intro s z h1 h2
    have e : nfT T p (s - 1) = if frM T s = p then s else nfT T p s := by
      unfold nfT
      rw [show s - 1 + 1 = s by omega, show (T 0 - s).toNat = k + 1 by omega, show (T 0 - (s + 1)).toNat = k by omega]
      rfl
    simp only [cfS]
    by_cases c : frM T s = p
    · rw [if_pos c] at e
      rw [if_pos c, e]
      exact .inr ⟨k, ⟨by omega, by omega⟩, rfl⟩
    · rw [if_neg c] at e
      rw [if_neg c, e]
      have := ih (s + 1) z (by omega) (by omega)
      rw [show s + 1 - 1 = s by omega] at this
      rcases this with ⟨a, b⟩ | ⟨m, ⟨a, b⟩, d⟩
      · exact .inl ⟨a, b⟩
      · exact .inr ⟨m, ⟨by omega, b⟩, d⟩
theorem cfU_I (hz : cfI z h) (hp : 0 ≤ p) : cfI (cfU A T p t s z) h := by
  obtain ⟨h1, h2, h3⟩ := hz
  unfold cfU
  by_cases c : z.1 < ccV A T p t s
  · rw [if_pos c]
    refine ⟨h1, ?_, .inr ⟨hp, ?_⟩⟩
    · show h ≤ ccV A T p t s; omega
    · show h < ccV A T p t s; omega
  · rw [if_neg c]
    exact ⟨h1, h2, h3⟩
theorem cfS_I (hp : 0 ≤ p) : ∀ (k : Nat) (s : Int) (z : cfZ), cfI z h → cfI (cfS A T p t k s z) h := by
  intro k
  induction k with
  | zero => intro s z hz; exact hz
  | succ k ih =>
    intro s z hz
    simp only [cfS]
    refine ih _ _ ?_
    by_cases c : frM T s = p
    · rw [if_pos c]; exact cfU_I hz hp
    · rw [if_neg c]; exact hz
theorem cfM_I (hp : 0 ≤ p) : ∀ (k : Nat) (t : Int) (z : cfZ), cfI z h → cfI (cfM A T p k t z) h := by
  intro k
  induction k with
  | zero => intro t z hz; exact hz
  | succ k ih =>
    intro t z hz
    simp only [cfM]
    refine ih _ _ ?_
    by_cases c : A 6 = 8 ∧ chA A p t = -1
    · rw [if_pos c]; exact hz
    · rw [if_neg c]; exact cfS_I hp _ _ _ hz
/-- the class's frame while it looks -/
def ckF (D' D : xD) : Prop := (∀ a, a ≠ 86 → a ≠ 87 → a ≠ 88 → a ≠ 89 → a ≠ 90 → a ≠ 91 → D' a = D a) ∧ ∀ i, i ≠ 5 → i ≠ 6 → i ≠ 7 → i ≠ 8 → i ≠ 9 → D' 91 i = D 91 i
def ckP (A : Int → Int) (D' : xD) : Prop := ∀ q u, 0 ≤ q → q < 8 → 0 ≤ u → u ≤ 12 → D' 86 (13 * q + u) = shP A q u
theorem l15 (W : WfA A) (hT0 : T 0 = A 0) (hT : tnW T) (H : tnC D T) (Hc : chC D A) (h5 : D 85 5 = -1) (hp : 0 ≤ x3 ∧ x3 < 8) (ht : 1 ≤ x4 ∧ x4 ≤ 12) : ∀ (k m : Nat) (s x6 : Int) (z : cfZ) (D' : xD) (o7 : Option xv), T 0 = s + m → m ≤ k → 0 ≤ s → 0 ≤ x6 → x6 ≤ s → cfI z h → ckF D' D → cgI z h (D' 91) → (∀ q u, 0 ≤ q → q < 8 → 0 ≤ u → u ≤ 12 → ¬ (q = x3 ∧ x4 ≤ u ∧ u < ceA A x3 x4) → D' 86 (13 * q + u) = shP A q u) →
    (∀ D'' : xD, ckF D'' D → cgI (cfS A T x3 x4 m s z) h (D'' 91) → ckP A D'' → Q none D'') →
    WP 124 xF1 none 15 11 [some (.inr (.inr (some 91))), some (.inr (.inr (some 3))), some (.inr (.inr (some 85))), some (.inl x3), some (.inl x4), some (.inl (nfT T x3 (s - 1))), some (.inl x6), o7] [] D' Q := by
  have w := hT.1
  intro k
  induction k with
  | zero =>
    intro m s x6 z D' o7 h1 h2 h3 h4 h4' hz hF hI h86 hq
    have hm : m = 0 := by omega
    subst hm
    have hc' : chC D' A := chC_fr (fun a a1 a2 => hF.1 a (by omega) (by omega) (by omega) (by omega) (by omega) (by omega)) Hc
    have en : nfT T x3 (s - 1) = -1 := by
      unfold nfT
      rw [show (T 0 - (s - 1 + 1)).toNat = 0 by omega]
      rfl
    have fin : WP 124 xF1 none 15 99 [some (.inr (.inr (some 91))), some (.inr (.inr (some 3))), some (.inr (.inr (some 85))), some (.inl x3), some (.inl x4), some (.inl (nfT T x3 (s - 1))), some (.inl x6), o7] [] D' Q := by
      rw [seg15_99 (ha0 := ho91) (ha1 := ho3) (ha2 := ho85), m106 hc' hp]
      simp only [Option.toList_some, Option.toList_none, List.cons_append, List.nil_append]
      rw [seg15_105 (ha0 := ho91) (ha1 := ho3) (ha2 := ho85)]
      refine hq _ ⟨fun a a1 a2 a3 a4 a5 a6 => by rw [set_ne a1]; exact hF.1 a a1 a2 a3 a4 a5 a6, fun i i1 i2 i3 i4 i5 => by rw [set_ne (by decide)]; exact hF.2 i i1 i2 i3 i4 i5⟩ (by rw [set_ne (by decide)]; exact hI) (fun q u q1 q2 u1 u2 => ?_)
      rw [set_eq]
      unfold plG
      by_cases e : q = x3
      · subst e
        rw [if_pos (by omega), show (min (13 * q + u - 13 * q) ((12 : Nat) : Int)) = u by omega]
        rfl
      · rw [if_neg (by omega)]
        exact h86 q u q1 q2 u1 u2 (fun z => e z.1)
    rw [seg15_11 (ha0 := ho91) (ha1 := ho3) (ha2 := ho85)]
    by_cases c : 16 ≤ x6
    · rw [brT c]; exact fin
    · rw [brF c, brT en]; exact fin
  | succ k ih =>
    intro m s x6 z D' o7 h1 h2 h3 h4 h4' hz hF hI h86 hq
    have hc' : chC D' A := chC_fr (fun a a1 a2 => hF.1 a (by omega) (by omega) (by omega) (by omega) (by omega) (by omega)) Hc
    have hC' : tnC D' T := tnC_fr (fun a a1 a2 => hF.1 a (by omega) (by omega) (by omega) (by omega) (by omega) (by omega)) H
    rcases cfS_nf (A := A) (t := x4) (p := x3) m s z h1 h3 with ⟨en, ez⟩ | ⟨m', ⟨n1, n2⟩, ez⟩
    · rw [ez] at hq
      have fin : WP 124 xF1 none 15 99 [some (.inr (.inr (some 91))), some (.inr (.inr (some 3))), some (.inr (.inr (some 85))), some (.inl x3), some (.inl x4), some (.inl (nfT T x3 (s - 1))), some (.inl x6), o7] [] D' Q := by
        rw [seg15_99 (ha0 := ho91) (ha1 := ho3) (ha2 := ho85), m106 hc' hp]
        simp only [Option.toList_some, Option.toList_none, List.cons_append, List.nil_append]
        rw [seg15_105 (ha0 := ho91) (ha1 := ho3) (ha2 := ho85)]
        refine hq _ ⟨fun a a1 a2 a3 a4 a5 a6 => by rw [set_ne a1]; exact hF.1 a a1 a2 a3 a4 a5 a6, fun i i1 i2 i3 i4 i5 => by rw [set_ne (by decide)]; exact hF.2 i i1 i2 i3 i4 i5⟩ (by rw [set_ne (by decide)]; exact hI) (fun q u q1 q2 u1 u2 => ?_)
        rw [set_eq]
        unfold plG
        by_cases e : q = x3
        · subst e
          rw [if_pos (by omega), show (min (13 * q + u - 13 * q) ((12 : Nat) : Int)) = u by omega]
          rfl
        · rw [if_neg (by omega)]
          exact h86 q u q1 q2 u1 u2 (fun z => e z.1)
      rw [seg15_11 (ha0 := ho91) (ha1 := ho3) (ha2 := ho85)]
      by_cases c : 16 ≤ x6
      · rw [brT c]; exact fin
      · rw [brF c, brT en]; exact fin
    · rw [ez] at hq
      generalize nfT T x3 (s - 1) = n at n1 n2 hq ez ⊢
      have ns : 0 ≤ n ∧ n < T 0 := ⟨by omega, by omega⟩
      rw [seg15_11 (ha0 := ho91) (ha1 := ho3) (ha2 := ho85), brF (c := 16 ≤ x6) (by omega), brF (c := n = -1) (by omega), m107 hc' hp ht]
      simp only [Option.toList_some, Option.toList_none, List.cons_append, List.nil_append]
      rw [seg15_34 (ha0 := ho91) (ha1 := ho3) (ha2 := ho85)]
      obtain ⟨D1, hD1⟩ : ∃ D1, D1 = xset D' 86 (fun c => if 13 * x3 + x4 ≤ c ∧ c < 13 * x3 + ceA A x3 x4 then n else D' 86 c) := ⟨_, rfl⟩
      rw [← hD1]
      have cr := ce_rg (A := A) (p := x3) ht
      have g0 : ∀ a, a ≠ 86 → D1 a = D' a := fun a ha => by rw [hD1, set_ne ha]
      have g86 : ∀ q u, 0 ≤ q → q < 8 → 0 ≤ u → u ≤ 12 → D1 86 (13 * q + u) = ccP A x3 x4 n q u := fun q u q1 q2 u1 u2 => by
        rw [hD1, set_eq]
        unfold ccP
        by_cases e : q = x3 ∧ x4 ≤ u ∧ u < ceA A x3 x4
        · rw [if_pos (by omega), if_pos e]
        · rw [if_neg (by omega), if_neg e]
          exact h86 q u q1 q2 u1 u2 e
      clear hD1
      have hC1 : tnC D1 T := tnC_fr (fun a a1 a2 => g0 a (by omega)) hC'
      have e85 : D1 85 = D 85 := by rw [g0 85 (by decide), hF.1 85 (by decide) (by decide) (by decide) (by decide) (by decide) (by decide)]
      refine m108 (fs := -1) (fm := D 85 6) (P := ccP A x3 x4 n) (n := 13) hT hC1 (cc_ok W hT0 ns) (by rw [e85]; exact h5) (by rw [e85]) (by omega) (by omega) g86 (fun D2 f1 f2 => ?_)
      have ev : wkZ T (-1) (D 85 6) (ccP A x3 x4 n) 13 = ccV A T x3 x4 n := wkZ_m1 13
      rw [ev]
      simp only [Option.toList_some, Option.toList_none, List.cons_append, List.nil_append]
      have e91 : D2 91 = D' 91 := by rw [f1 91 (by decide) (by decide) (by decide) (by decide), g0 91 (by decide)]
      have F2 : ckF D2 D := ⟨fun a a1 a2 a3 a4 a5 a6 => by rw [f1 a a2 a3 a4 a5, g0 a a1]; exact hF.1 a a1 a2 a3 a4 a5 a6, fun i i1 i2 i3 i4 i5 => by rw [e91]; exact hF.2 i i1 i2 i3 i4 i5⟩
      have e86 : D2 86 = D1 86 := f1 86 (by decide) (by decide) (by decide) (by decide)
      obtain ⟨c5, c6, c7, c8, c9⟩ := id hI
      have nx : ∀ (D3 : xD), ckF D3 D → cgI (cfU A T x3 x4 n z) h (D3 91) → D3 86 = D1 86 → WP 124 xF1 none 15 84 [some (.inr (.inr (some 91))), some (.inr (.inr (some 3))), some (.inr (.inr (some 85))), some (.inl x3), some (.inl x4), some (.inl n), some (.inl x6), some (.inl (ccV A T x3 x4 n))] [] D3 Q := by
        intro D3 F3 I3 e3
        have hC3 : tnC D3 T := tnC_fr (fun a a1 a2 => F3.1 a (by omega) (by omega) (by omega) (by omega) (by omega) (by omega)) H
        rw [seg15_84 (ha0 := ho91) (ha1 := ho3) (ha2 := ho85), m86 hT hC3 (by omega) (.inl ns.2)]
        simp only [Option.toList_some, Option.toList_none, List.cons_append, List.nil_append]
        rw [seg15_91 (ha0 := ho91) (ha1 := ho3) (ha2 := ho85), cnX (by omega)]
        have := ih m' (n + 1) (x6 + 1) (cfU A T x3 x4 n z) D3 (some (.inl (ccV A T x3 x4 n))) (by omega) (by omega) (by omega) (by omega) (by omega) (cfU_I hz hp.1) F3 I3 (fun q u q1 q2 u1 u2 hn => by
          rw [e3, g86 q u q1 q2 u1 u2]
          unfold ccP
          rw [if_neg hn]) hq
        rw [show n + 1 - 1 = n by omega] at this
        exact this
      rw [seg15_41 (ha0 := ho91) (ha1 := ho3) (ha2 := ho85), e91, c8, c9]
      obtain ⟨z1, z2, z3⟩ := id hz
      unfold cfU at nx
      by_cases cv : z.1 < ccV A T x3 x4 n
      · rw [brF (c := ccV A T x3 x4 n ≤ h) (by omega), brF (c := ccV A T x3 x4 n ≤ (if z.2.1 = -1 then -1 else z.1)) (by split <;> omega)]
        refine nx _ ⟨fun a a1 a2 a3 a4 a5 a6 => by rw [up_ne a6, up_ne a6, up_ne a6, up_ne a6]; exact F2.1 a a1 a2 a3 a4 a5 a6, fun i i1 i2 i3 i4 i5 => by rw [up_ne2 i4, up_ne2 i3, up_ne2 i2, up_ne2 i1]; exact F2.2 i i1 i2 i3 i4 i5⟩ ?_ ?_
        · rw [if_pos cv]
          refine ⟨?_, ?_, ?_, ?_, ?_⟩
          · rw [up_ne2 (by decide), up_ne2 (by decide), up_ne2 (by decide), up_eq]
          · rw [up_ne2 (by decide), up_ne2 (by decide), up_eq]
          · rw [up_ne2 (by decide), up_eq]
          · rw [up_eq]
            show _ = if x3 = -1 then -1 else ccV A T x3 x4 n
            rw [if_neg (by omega)]
          · rw [up_ne2 (by decide), up_ne2 (by decide), up_ne2 (by decide), up_ne2 (by decide), e91]; exact c9
        · rw [up_ne (by decide), up_ne (by decide), up_ne (by decide), up_ne (by decide), e86]
      · rw [if_neg cv] at nx
        have fin := nx D2 F2 (by rw [e91]; exact hI) e86
        by_cases c1 : ccV A T x3 x4 n ≤ h
        · rw [brT c1]; exact fin
        · rw [brF c1, brT (c := ccV A T x3 x4 n ≤ (if z.2.1 = -1 then -1 else z.1)) (by
            rcases z3 with y | y
            · omega
            · rw [if_neg (by omega)]; omega)]
          exact fin
theorem m15 (W : WfA A) (hT0 : T 0 = A 0) (hT : tnW T) (H : tnC D T) (Hc : chC D A) (h5 : D 85 5 = -1) (hp : 0 ≤ x3 ∧ x3 < 8) (ht : 1 ≤ x4 ∧ x4 ≤ 12) (hz : cfI z h) (hI : cgI z h (D 91)) (h86 : ckP A D)
    (hq : ∀ D'' : xD, ckF D'' D → cgI (cfS A T x3 x4 (T 0).toNat 0 z) h (D'' 91) → ckP A D'' → Q none D'') :
    WP 124 xF1 none 15 0 [some (.inr (.inr (some 91))), some (.inr (.inr (some 3))), some (.inr (.inr (some 85))), some (.inl x3), some (.inl x4), none, none, none] [] D Q := by
  have w := hT.1
  rw [seg15_0 (ha0 := ho91) (ha1 := ho3) (ha2 := ho85), m86 hT H (by omega) (.inr rfl)]
  simp only [Option.toList_some, Option.toList_none, List.cons_append, List.nil_append]
  rw [seg15_6 (ha0 := ho91) (ha1 := ho3) (ha2 := ho85)]
  exact l15 (h := h) (D := D) W hT0 hT H Hc h5 hp ht (T 0).toNat (T 0).toNat 0 0 z D _ (by omega) (by omega) (by omega) (by omega) (by omega) hz ⟨fun _ _ _ _ _ _ _ => rfl, fun _ _ _ _ _ _ => rfl⟩ hI (fun q u q1 q2 u1 u2 _ => h86 q u q1 q2 u1 u2) hq
theorem ckF_tr {D1 D2 : xD} (h1 : ckF D2 D1) (h2 : ckF D1 D) : ckF D2 D := ⟨fun a a1 a2 a3 a4 a5 a6 => by rw [h1.1 a a1 a2 a3 a4 a5 a6, h2.1 a a1 a2 a3 a4 a5 a6], fun i i1 i2 i3 i4 i5 => by rw [h1.2 i i1 i2 i3 i4 i5, h2.2 i i1 i2 i3 i4 i5]⟩
theorem l14m (W : WfA A) (hT0 : T 0 = A 0) (hT : tnW T) (H : tnC D T) (Hc : chC D A) (h5 : D 85 5 = -1) (hp : 0 ≤ x3 ∧ x3 < 8) : ∀ (k : Nat) (t : Int) (z : cfZ) (D' : xD), 13 = t + k → 1 ≤ t → cfI z h → ckF D' D → cgI z h (D' 91) → ckP A D' →
    (∀ D'' : xD, ckF D'' D → cgI (cfM A T x3 k t z) h (D'' 91) → ckP A D'' → WP 124 xF1 none 14 38 [some (.inr (.inr (some 91))), some (.inr (.inr (some 3))), some (.inr (.inr (some 85))), some (.inl (x3 + 1)), some (.inl 13)] [] D'' Q) →
    WP 124 xF1 none 14 47 [some (.inr (.inr (some 91))), some (.inr (.inr (some 3))), some (.inr (.inr (some 85))), some (.inl x3), some (.inl t)] [] D' Q := by
  intro k
  induction k with
  | zero =>
    intro t z D' h1 h2 hz hF hI h86 hq
    have : t = 13 := by omega
    subst this
    rw [seg14_47 (ha0 := ho91) (ha1 := ho3) (ha2 := ho85), brT (c := (13 : Int) ≤ 13) (by decide), cnX (by omega)]
    exact hq D' hF hI h86
  | succ k ih =>
    intro t z D' h1 h2 hz hF hI h86 hq
    have hc' : chC D' A := chC_fr (fun a a1 a2 => hF.1 a (by omega) (by omega) (by omega) (by omega) (by omega) (by omega)) Hc
    have hC' : tnC D' T := tnC_fr (fun a a1 a2 => hF.1 a (by omega) (by omega) (by omega) (by omega) (by omega) (by omega)) H
    have e85 : D' 85 = D 85 := hF.1 85 (by decide) (by decide) (by decide) (by decide) (by decide) (by decide)
    simp only [cfM] at hq
    have yes : ¬ (A 6 = 8 ∧ chA A x3 t = -1) → WP 124 xF1 none 14 74 [some (.inr (.inr (some 91))), some (.inr (.inr (some 3))), some (.inr (.inr (some 85))), some (.inl x3), some (.inl t)] [] D' Q := by
      intro ho
      rw [if_neg ho] at hq
      rw [seg14_74 (ha0 := ho91) (ha1 := ho3) (ha2 := ho85)]
      refine m15 (h := h) W hT0 hT hC' hc' (by rw [e85]; exact h5) hp (by omega) hz hI h86 (fun D1 f1 f2 f3 => ?_)
      simp only [Option.toList_some, Option.toList_none, List.cons_append, List.nil_append]
      rw [seg14_83 (ha0 := ho91) (ha1 := ho3) (ha2 := ho85), cnX (by omega)]
      exact ih (t + 1) _ D1 (by omega) (by omega) (cfS_I hp.1 _ _ _ hz) (ckF_tr f1 hF) f2 f3 hq
    obtain ⟨⟨d1, d2, d3⟩, -, -⟩ := id hc'
    rw [seg14_47 (ha0 := ho91) (ha1 := ho3) (ha2 := ho85), brF (c := 13 ≤ t) (by omega)]
    by_cases c : D' 3 3 < 8
    · rw [brT c]; exact yes (fun z => by omega)
    · rw [brF c, m87 hc']
      simp only [Option.toList_some, Option.toList_none, List.cons_append, List.nil_append]
      rw [seg14_70 (ha0 := ho91) (ha1 := ho3) (ha2 := ho85)]
      by_cases c2 : chA A x3 t = -1
      · rw [if_pos ⟨by omega, c2⟩] at hq
        rw [brT c2, seg14_83 (ha0 := ho91) (ha1 := ho3) (ha2 := ho85), cnX (by omega)]
        exact ih (t + 1) _ D' (by omega) (by omega) hz hF hI h86 hq
      · rw [brF c2]; exact yes (fun z => c2 z.2)
theorem l14p (W : WfA A) (hT0 : T 0 = A 0) (hT : tnW T) (H : tnC D T) (Hc : chC D A) (h5 : D 85 5 = -1) : ∀ (k : Nat) (p : Int) (z : cfZ) (D' : xD) (o4 : Option xv), 8 = p + k → 0 ≤ p → cfI z h → ckF D' D → cgI z h (D' 91) → ckP A D' →
    (∀ D'' : xD, ckF D'' D → cgI (cfP A T k p z) h (D'' 91) → Q none D'') →
    WP 124 xF1 none 14 38 [some (.inr (.inr (some 91))), some (.inr (.inr (some 3))), some (.inr (.inr (some 85))), some (.inl p), o4] [] D' Q := by
  intro k
  induction k with
  | zero =>
    intro p z D' o4 h1 h2 hz hF hI h86 hq
    rw [seg14_38 (ha0 := ho91) (ha1 := ho3) (ha2 := ho85), brT (c := 8 ≤ p) (by omega)]
    exact hq D' hF hI
  | succ k ih =>
    intro p z D' o4 h1 h2 hz hF hI h86 hq
    rw [seg14_38 (ha0 := ho91) (ha1 := ho3) (ha2 := ho85), brF (c := 8 ≤ p) (by omega)]
    refine l14m (h := h) (D := D) W hT0 hT H Hc h5 ⟨h2, by omega⟩ 12 1 z D' (by omega) (by omega) hz hF hI h86 (fun D1 f1 f2 f3 => ?_)
    exact ih (p + 1) _ D1 _ (by omega) (by omega) (cfM_I h2 _ _ _ hz) f1 f2 f3 hq
/-- the sum without a change -/
def chW (A T : Int → Int) : Int := wkZ T (-1) 0 (shP A) 13
def chR (A T : Int → Int) : cfZ := cfP A T 8 0 (chW A T, -1, -1, -1)
theorem m14 (W : WfA A) (hT0 : T 0 = A 0) (hT : tnW T) (H : tnC D T) (Hc : chC D A) (h5 : D 85 5 = -1) (hq : ∀ D'' : xD, ckF D'' D → cgI (chR A T) (chW A T) (D'' 91) → Q none D'') :
    WP 124 xF1 none 14 0 [some (.inr (.inr (some 91))), some (.inr (.inr (some 3))), some (.inr (.inr (some 85))), none, none] [] D Q := by
  rw [seg14_0 (ha0 := ho91) (ha1 := ho3) (ha2 := ho85)]
  obtain ⟨D1, hD1⟩ : ∃ D1, D1 = xup (xup (xup (xup D 91 5 (-1)) 91 6 (-1)) 91 7 (-1)) 91 8 (-1) := ⟨_, rfl⟩
  rw [← hD1]
  have F1 : ckF D1 D := ⟨fun a a1 a2 a3 a4 a5 a6 => by rw [hD1, up_ne a6, up_ne a6, up_ne a6, up_ne a6], fun i i1 i2 i3 i4 i5 => by rw [hD1, up_ne2 i4, up_ne2 i3, up_ne2 i2, up_ne2 i1]⟩
  have k5 : D1 91 5 = -1 := by rw [hD1, up_ne2 (by decide), up_ne2 (by decide), up_ne2 (by decide), up_eq]
  have k6 : D1 91 6 = -1 := by rw [hD1, up_ne2 (by decide), up_ne2 (by decide), up_eq]
  have k7 : D1 91 7 = -1 := by rw [hD1, up_ne2 (by decide), up_eq]
  have k8 : D1 91 8 = -1 := by rw [hD1, up_eq]
  clear hD1
  have Hc1 : chC D1 A := chC_fr (fun a a1 a2 => F1.1 a (by omega) (by omega) (by omega) (by omega) (by omega) (by omega)) Hc
  refine m105 Hc1 (fun g hg => ?_)
  simp only [Option.toList_some, Option.toList_none, List.cons_append, List.nil_append]
  rw [seg14_25 (ha0 := ho91) (ha1 := ho3) (ha2 := ho85)]
  have F2 : ckF (xset D1 86 g) D := ⟨fun a a1 a2 a3 a4 a5 a6 => by rw [set_ne a1]; exact F1.1 a a1 a2 a3 a4 a5 a6, fun i i1 i2 i3 i4 i5 => by rw [set_ne (by decide)]; exact F1.2 i i1 i2 i3 i4 i5⟩
  have H2 : tnC (xset D1 86 g) T := tnC_fr (fun a a1 a2 => F2.1 a (by omega) (by omega) (by omega) (by omega) (by omega) (by omega)) H
  have e85 : (xset D1 86 g) 85 = D 85 := F2.1 85 (by decide) (by decide) (by decide) (by decide) (by decide) (by decide)
  refine m108 (fs := -1) (fm := D 85 6) (P := shP A) (n := 13) hT H2 (shP_wkP W hT0) (by rw [e85]; exact h5) (by rw [e85]) (by omega) (by omega) (fun p t p1 p2 t1 t2 => by rw [set_eq]; exact hg p t p1 p2 t1 t2) (fun D3 f1 f2 => ?_)
  have ev : wkZ T (-1) (D 85 6) (shP A) 13 = chW A T := wkZ_m1 13
  rw [ev]
  simp only [Option.toList_some, Option.toList_none, List.cons_append, List.nil_append]
  rw [seg14_33 (ha0 := ho91) (ha1 := ho3) (ha2 := ho85) (hb1 := ho91)]
  have e91 : D3 91 = D1 91 := by rw [f1 91 (by decide) (by decide) (by decide) (by decide), set_ne (by decide)]
  have F3 : ckF (xup D3 91 9 (chW A T)) D := ⟨fun a a1 a2 a3 a4 a5 a6 => by rw [up_ne a6, f1 a a2 a3 a4 a5]; exact F2.1 a a1 a2 a3 a4 a5 a6, fun i i1 i2 i3 i4 i5 => by rw [up_ne2 i5, e91]; exact F1.2 i i1 i2 i3 i4 i5⟩
  have w0 := (wkZ_bd (fs := -1) (fm := 0) hT (shP_wkP W hT0) 13 (by omega)).1
  refine l14p (h := chW A T) (D := D) W hT0 hT H Hc h5 8 0 (chW A T, -1, -1, -1) _ _ (by omega) (by omega) ⟨w0, Int.le_refl _, .inl ⟨rfl, rfl⟩⟩ F3 ⟨?_, ?_, ?_, ?_, ?_⟩ (fun q u q1 q2 u1 u2 => ?_) hq
  · rw [up_ne2 (by decide), e91, k5]
  · rw [up_ne2 (by decide), e91, k6]
  · rw [up_ne2 (by decide), e91, k7]
  · rw [up_ne2 (by decide), e91, k8, if_pos rfl]
  · rw [up_eq]
  · rw [up_ne (by decide), f1 86 (by decide) (by decide) (by decide) (by decide), set_eq]
    exact hg q u q1 q2 u1 u2
end M61
