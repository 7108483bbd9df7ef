/-! changed: the model, and the pair -/
def cmF (D' D : xD) : Prop := (∀ a, a ≠ 95 → a ≠ 114 → a ≠ 115 → a ≠ 116 → a ≠ 117 → a ≠ 118 → a ≠ 120 → D' a = D a) ∧ ∀ i, i ≠ 41 → i ≠ 42 → i ≠ 46 → i ≠ 47 → i ≠ 48 → i ≠ 49 → D' 95 i = D 95 i
def cmI (z : cfZ) (f : Int → Int) : Prop := f 47 = z.2.1 ∧ (z.2.1 ≠ -1 → f 48 = z.2.2.1 ∧ f 49 = z.2.2.2)
def cfJ (z : cfZ) : Prop := (z.2.1 = -1 ∧ z.2.2.1 = -1 ∧ z.2.2.2 = -1) ∨ 0 ≤ z.2.1
def chV (A T : Int → Int) (x : Int) : Int := if x = 4 then chW A T else if (chR A T).2.1 = -1 then -1 else if x = 0 then (chR A T).2.1 else if x = 1 then (chR A T).2.2.1 else if x = 2 then (chR A T).2.2.2 else (chR A T).1
section M62
variable {KN : (Int → Int) → (Int → Int) → (Int → Int) → (Int → Int) → (Int → Int) → (Int → Int) → Prop}
variable {x1 x2 x3 x4 x5 x6 s t p q u h fm : Int} {D D' D1 D2 : xD} {A T : Int → Int} {z : cfZ} {Q : Option xv → xD → Prop}
theorem cmF_tr (h1 : cmF D2 D1) (h2 : cmF D1 D) : cmF D2 D := ⟨fun a a1 a2 a3 a4 a5 a6 a7 => by rw [h1.1 a a1 a2 a3 a4 a5 a6 a7, h2.1 a a1 a2 a3 a4 a5 a6 a7], fun i i1 i2 i3 i4 i5 i6 => by rw [h1.2 i i1 i2 i3 i4 i5 i6, h2.2 i i1 i2 i3 i4 i5 i6]⟩
theorem cfU_J (hz : cfJ z) (hp : 0 ≤ p) : cfJ (cfU A T p t s z) := by
  unfold cfU
  by_cases c : z.1 < ccV A T p t s
  · rw [if_pos c]; exact .inr hp
  · rw [if_neg c]; exact hz
theorem cfS_J (hp : 0 ≤ p) : ∀ (k : Nat) (s : Int) (z : cfZ), cfJ z → cfJ (cfS A T p t k s z) := by
  intro k
  induction k with
  | zero => intro s z hz; exact hz
  | succ k ih =>
    intro s z hz
    simp only [cfS]
    refine ih _ _ ?_
    by_cases c : frM T s = p
    · rw [if_pos c]; exact cfU_J hz hp
    · rw [if_neg c]; exact hz
theorem cfM_J (hp : 0 ≤ p) : ∀ (k : Nat) (t : Int) (z : cfZ), cfJ z → cfJ (cfM A T p k t z) := by
  intro k
  induction k with
  | zero => intro t z hz; exact hz
  | succ k ih =>
    intro t z hz
    simp only [cfM]
    refine ih _ _ ?_
    by_cases c : A 6 = 8 ∧ chA A p t = -1
    · rw [if_pos c]; exact hz
    · rw [if_neg c]; exact cfS_J hp _ _ _ hz
theorem cfP_J : ∀ (k : Nat) (p : Int) (z : cfZ), 0 ≤ p → cfJ z → cfJ (cfP A T k p z) := by
  intro k
  induction k with
  | zero => intro p z _ hz; exact hz
  | succ k ih =>
    intro p z hp hz
    exact ih (p + 1) _ (by omega) (cfM_J hp _ _ _ hz)
theorem chR_J : cfJ (chR A T) := cfP_J 8 0 _ (by omega) (.inl ⟨rfl, rfl, rfl⟩)
theorem l226k {g : Int → Int} (he : D 96 = A) (h6 : 0 ≤ A 6 ∧ A 6 ≤ 8) (hp : 0 ≤ x3 ∧ x3 < 8) (ht : 1 ≤ x4 ∧ x4 ≤ 12) (hq : ∀ v : Int, WP 124 xF1 none 226 129 [some (.inr (.inr (some 95))), some (.inl x1), some (.inl x2), some (.inl x3), some (.inl x4), some (.inl x5), some (.inl v)] [] (xset D 120 (fun c => if 13 * x3 + x4 ≤ c ∧ c < 13 * x3 + ceA A x3 x4 then x5 else g c)) Q) : ∀ (k : Nat) (u : Int), 13 = u + k → x4 ≤ u → (∀ k, x4 < k → k < u → chA A x3 k = -1) → WP 124 xF1 none 226 85 [some (.inr (.inr (some 95))), some (.inl x1), some (.inl x2), some (.inl x3), some (.inl x4), some (.inl x5), some (.inl u)] [] (xset D 120 (fun c => if 13 * x3 + x4 ≤ c ∧ c < 13 * x3 + u then x5 else g c)) Q := by
  intro k
  induction k with
  | zero =>
    intro u h1 h2 h3
    have e := ce_of (A := A) (p := x3) (u := u) ht.1 (by omega) h3 (.inl (by omega))
    rw [seg226_85 (ha0 := ho95), brT (c := 12 < u) (by omega), ← e]
    exact hq _
  | succ k ih =>
    intro u h1 h2 h3
    have e96 : (xset D 120 (fun c => if 13 * x3 + x4 ≤ c ∧ c < 13 * x3 + u then x5 else g c)) 96 = A := by rw [set_ne (by decide)]; exact he
    have go : (x4 < u → chA A x3 u = -1) → WP 124 xF1 none 226 109 [some (.inr (.inr (some 95))), some (.inl x1), some (.inl x2), some (.inl x3), some (.inl x4), some (.inl x5), some (.inl u)] [] (xset D 120 (fun c => if 13 * x3 + x4 ≤ c ∧ c < 13 * x3 + u then x5 else g c)) Q := by
      intro hz
      rw [seg226_109 (ha0 := ho95), cnX (by omega), cnX (by omega), cnB (by omega), cnX (by omega)]
      simp only [Nat.reduceAdd]
      rw [set_up, set_set, set_eq]
      have e : (fun c => if c = 13 * x3 + u then x5 else (fun c => if 13 * x3 + x4 ≤ c ∧ c < 13 * x3 + u then x5 else g c) c) = (fun c => if 13 * x3 + x4 ≤ c ∧ c < 13 * x3 + (u + 1) then x5 else g c) := by
        funext c
        show (if c = 13 * x3 + u then x5 else (if 13 * x3 + x4 ≤ c ∧ c < 13 * x3 + u then x5 else g c)) = _
        by_cases c1 : c = 13 * x3 + u
        · rw [if_pos c1, if_pos (by omega)]
        · rw [if_neg c1]
          by_cases c2 : 13 * x3 + x4 ≤ c ∧ c < 13 * x3 + u
          · rw [if_pos c2, if_pos (by omega)]
          · rw [if_neg c2, if_neg (by omega)]
      rw [e]
      refine ih (u + 1) (by omega) (by omega) (fun j j1 j2 => ?_)
      by_cases c : j = u
      · rw [c]; exact hz (by omega)
      · exact h3 j j1 (by omega)
    rw [seg226_85 (ha0 := ho95), brF (c := 12 < u) (by omega)]
    by_cases c : u = x4
    · rw [brT c]; exact go (fun z => by omega)
    · rw [brF c, m218 e96 h6]
      simp only [Option.toList_some, Option.toList_none, List.cons_append, List.nil_append]
      rw [seg226_106 (ha0 := ho95)]
      by_cases c2 : chA A x3 u = -1
      · rw [brF (c := 0 ≤ chA A x3 u) (by omega)]; exact go (fun _ => c2)
      · have := (chA_rg A x3 u h6.1).resolve_left c2
        have e := ce_of (A := A) (p := x3) (u := u) ht.1 (by omega) h3 (.inr c2)
        rw [brT (c := 0 ≤ chA A x3 u) this.1, ← e]
        exact hq _
theorem l226s (W : WfA A) (hT0 : T 0 = A 0) (hT : tnW T) (H : tnM A T) (he : D 96 = A) (h44 : D 95 44 = -1) (hp : 0 ≤ x3 ∧ x3 < 8) (ht : 1 ≤ x4 ∧ x4 ≤ 12) : ∀ (k : Nat) (s : Int) (z : cfZ) (D' : xD) (o6 : Option xv), T 0 = s + k → 0 ≤ s → cmF D' D → cmI z (D' 95) →
    (∀ (D'' : xD) (o5 o6 : Option xv), cmF D'' D → cmI (cfS A T x3 x4 k s z) (D'' 95) → WP 124 xF1 none 226 170 [some (.inr (.inr (some 95))), some (.inl x1), some (.inl (cfS A T x3 x4 k s z).1), some (.inl x3), some (.inl x4), o5, o6] [] D'' Q) →
    WP 124 xF1 none 226 53 [some (.inr (.inr (some 95))), some (.inl x1), some (.inl z.1), some (.inl x3), some (.inl x4), some (.inl s), o6] [] D' Q := by
  have w := hT.1
  have h6 : 0 ≤ A 6 ∧ A 6 ≤ 8 := ⟨W.1.2.2.2.2.1, W.1.2.2.2.2.2⟩
  intro k
  induction k with
  | zero =>
    intro s z D' o6 h1 h2 hF hI hq
    have e96 : D' 96 = A := by rw [hF.1 96 (by decide) (by decide) (by decide) (by decide) (by decide) (by decide) (by decide), he]
    rw [seg226_53 (ha0 := ho95), cnB (by omega)]
    simp only [Nat.reduceAdd]
    rw [e96, brT (c := A 0 ≤ s) (by omega)]
    exact hq D' _ _ hF hI
  | succ k ih =>
    intro s z D' o6 h1 h2 hF hI hq
    have e96 : D' 96 = A := by rw [hF.1 96 (by decide) (by decide) (by decide) (by decide) (by decide) (by decide) (by decide), he]
    rw [seg226_53 (ha0 := ho95), cnB (by omega)]
    simp only [Nat.reduceAdd]
    rw [e96, brF (c := A 0 ≤ s) (by omega), n177 (by omega), e96, (frM_cg2 H (by omega)).1]
    simp only [Option.toList_some, Option.toList_none, List.cons_append, List.nil_append]
    rw [seg226_70 (ha0 := ho95)]
    simp only [cfS] at hq
    by_cases c : frM T s = x3
    · rw [if_pos c] at hq
      rw [brT c]
      refine m221 (A := A) e96 h6 (fun g hg => ?_)
      simp only [Option.toList_some, Option.toList_none, List.cons_append, List.nil_append]
      rw [seg226_81 (ha0 := ho95)]
      have fin : ∀ v : Int, WP 124 xF1 none 226 129 [some (.inr (.inr (some 95))), some (.inl x1), some (.inl z.1), some (.inl x3), some (.inl x4), some (.inl s), some (.inl v)] [] (xset D' 120 (fun c => if 13 * x3 + x4 ≤ c ∧ c < 13 * x3 + ceA A x3 x4 then s else g c)) Q := by
        intro v
        rw [seg226_129 (ha0 := ho95)]
        obtain ⟨D1, hD1⟩ : ∃ D1, D1 = xset D' 120 (fun c => if 13 * x3 + x4 ≤ c ∧ c < 13 * x3 + ceA A x3 x4 then s else g c) := ⟨_, rfl⟩
        rw [← hD1]
        have cr := ce_rg (A := A) (p := x3) ht
        have g0 : ∀ a, a ≠ 120 → D1 a = D' a := fun a ha => by rw [hD1, set_ne ha]
        have g120 : ∀ q u, 0 ≤ q → q < 8 → 0 ≤ u → u ≤ 12 → D1 120 (13 * q + u) = ccP A x3 x4 s q u := fun q u q1 q2 u1 u2 => by
          rw [hD1, set_eq]
          unfold ccP
          by_cases e : q = x3 ∧ x4 ≤ u ∧ u < ceA A x3 x4
          · rw [if_pos (by omega), if_pos e]
          · rw [if_neg (by omega), if_neg e]
            exact hg q u q1 q2 u1 u2
        clear hD1
        have e95 : D1 95 = D' 95 := g0 95 (by decide)
        refine m225 (fs := -1) (fm := D' 95 45) (P := ccP A x3 x4 s) hT (by rw [g0 96 (by decide), e96]; exact H) (cc_ok W hT0 ⟨h2, by omega⟩) (by rw [e95, hF.2 44 (by decide) (by decide) (by decide) (by decide) (by decide) (by decide)]; exact h44) (by rw [e95]) g120 (fun D2 k1 => ?_)
        have ev : wkZ T (-1) (D' 95 45) (ccP A x3 x4 s) 13 = ccV A T x3 x4 s := wkZ_m1 13
        rw [ev]
        simp only [Option.toList_some, Option.toList_none, List.cons_append, List.nil_append]
        have F2 : cmF D2 D := ⟨fun a a1 a2 a3 a4 a5 a6 a7 => by rw [k1.1 a a1 a2 a3 a4 a5 a6, g0 a a7]; exact hF.1 a a1 a2 a3 a4 a5 a6 a7, fun i i1 i2 i3 i4 i5 i6 => by rw [k1.2 i i1 i2 i3, e95]; exact hF.2 i i1 i2 i3 i4 i5 i6⟩
        have k47 : ∀ i, (i = 47 ∨ i = 48 ∨ i = 49) → D2 95 i = D' 95 i := fun i hi => by rw [k1.2 i (by omega) (by omega) (by omega), e95]
        rw [seg226_133 (ha0 := ho95)]
        unfold cfU at hq
        by_cases cv : z.1 < ccV A T x3 x4 s
        · rw [if_pos cv] at hq
          rw [brT cv, seg226_164 (ha0 := ho95), cnX (by omega)]
          refine ih (s + 1) (ccV A T x3 x4 s, x3, x4, s) _ _ (by omega) (by omega) ⟨fun a a1 a2 a3 a4 a5 a6 a7 => by rw [up_ne a1, up_ne a1, up_ne a1]; exact F2.1 a a1 a2 a3 a4 a5 a6 a7, fun i i1 i2 i3 i4 i5 i6 => by rw [up_ne2 i6, up_ne2 i5, up_ne2 i4]; exact F2.2 i i1 i2 i3 i4 i5 i6⟩ ⟨?_, fun _ => ⟨?_, ?_⟩⟩ hq
          · rw [up_ne2 (by decide), up_ne2 (by decide), up_eq]
          · rw [up_ne2 (by decide), up_eq]
          · rw [up_eq]
        · rw [if_neg cv] at hq
          rw [brF cv, seg226_164 (ha0 := ho95), cnX (by omega)]
          refine ih (s + 1) z D2 _ (by omega) (by omega) F2 ⟨?_, fun hn => ⟨?_, ?_⟩⟩ hq
          · rw [k47 47 (by decide)]; exact hI.1
          · rw [k47 48 (by decide)]; exact (hI.2 hn).1
          · rw [k47 49 (by decide)]; exact (hI.2 hn).2
      have l := l226k (x1 := x1) (x2 := z.1) (x5 := s) (g := g) (D := D') (A := A) (Q := Q) e96 h6 hp ht fin (13 - x4).toNat x4 (by omega) (by omega) (fun k k1 k2 => by omega)
      have e : (fun c => if 13 * x3 + x4 ≤ c ∧ c < 13 * x3 + x4 then s else g c) = g := by
        funext c
        rw [if_neg (by omega)]
      rw [e] at l
      exact l
    · rw [if_neg c] at hq
      rw [brF c, seg226_164 (ha0 := ho95), cnX (by omega)]
      exact ih (s + 1) z D' _ (by omega) (by omega) hF hI hq
theorem l226t (W : WfA A) (hT0 : T 0 = A 0) (hT : tnW T) (H : tnM A T) (he : D 96 = A) (h44 : D 95 44 = -1) (hp : 0 ≤ x3 ∧ x3 < 8) : ∀ (k : Nat) (t : Int) (z : cfZ) (D' : xD) (o5 o6 : Option xv), 13 = t + k → 1 ≤ t → cmF D' D → cmI z (D' 95) →
    (∀ (D'' : xD) (o4 o5 o6 : Option xv), cmF D'' D → cmI (cfM A T x3 k t z) (D'' 95) → WP 124 xF1 none 226 9 [some (.inr (.inr (some 95))), some (.inl x1), some (.inl (cfM A T x3 k t z).1), some (.inl (x3 + 1)), o4, o5, o6] [] D'' Q) →
    WP 124 xF1 none 226 18 [some (.inr (.inr (some 95))), some (.inl x1), some (.inl z.1), some (.inl x3), some (.inl t), o5, o6] [] D' Q := by
  have w := hT.1
  have h6 : 0 ≤ A 6 ∧ A 6 ≤ 8 := ⟨W.1.2.2.2.2.1, W.1.2.2.2.2.2⟩
  intro k
  induction k with
  | zero =>
    intro t z D' o5 o6 h1 h2 hF hI hq
    rw [seg226_18 (ha0 := ho95), brT (c := 12 < t) (by omega), cnX (by omega)]
    exact hq D' _ _ _ hF hI
  | succ k ih =>
    intro t z D' o5 o6 h1 h2 hF hI hq
    have e96 : D' 96 = A := by rw [hF.1 96 (by decide) (by decide) (by decide) (by decide) (by decide) (by decide) (by decide), he]
    simp only [cfM] at hq
    have yes : ¬ (A 6 = 8 ∧ chA A x3 t = -1) → WP 124 xF1 none 226 50 [some (.inr (.inr (some 95))), some (.inl x1), some (.inl z.1), some (.inl x3), some (.inl t), o5, o6] [] D' Q := by
      intro ho
      rw [if_neg ho] at hq
      rw [seg226_50 (ha0 := ho95)]
      refine l226s (D := D) W hT0 hT H he h44 hp ⟨h2, by omega⟩ (T 0).toNat 0 z D' _ (by omega) (by omega) hF hI (fun D1 o5 o6 f1 f2 => ?_)
      rw [seg226_170 (ha0 := ho95), cnX (by omega)]
      exact ih (t + 1) _ D1 _ _ (by omega) (by omega) f1 f2 hq
    rw [seg226_18 (ha0 := ho95), brF (c := 12 < t) (by omega), m218 e96 h6]
    simp only [Option.toList_some, Option.toList_none, List.cons_append, List.nil_append]
    rw [seg226_32 (ha0 := ho95)]
    by_cases c : chA A x3 t = -1
    · rw [brF (c := 0 ≤ chA A x3 t) (by omega), cnB (by omega)]
      simp only [Nat.reduceAdd]
      rw [e96]
      by_cases c2 : A 6 = 8
      · rw [if_pos ⟨c2, c⟩] at hq
        rw [brF (c := A 6 ≠ 8) (fun z => z c2), seg226_170 (ha0 := ho95), cnX (by omega)]
        exact ih (t + 1) z D' _ _ (by omega) (by omega) hF hI hq
      · rw [brT (c := A 6 ≠ 8) c2]; exact yes (fun z => c2 z.1)
    · have := (chA_rg A x3 t h6.1).resolve_left c
      rw [brT (c := 0 ≤ chA A x3 t) this.1]
      exact yes (fun z => c z.2)
theorem l226p (W : WfA A) (hT0 : T 0 = A 0) (hT : tnW T) (H : tnM A T) (he : D 96 = A) (h44 : D 95 44 = -1) : ∀ (k : Nat) (p : Int) (z : cfZ) (D' : xD) (o4 o5 o6 : Option xv), 8 = p + k → 0 ≤ p → cmF D' D → cmI z (D' 95) →
    (∀ (D'' : xD), cmF D'' D → cmI (cfP A T k p z) (D'' 95) → Q (some (.inl (cfP A T k p z).1)) D'') →
    WP 124 xF1 none 226 9 [some (.inr (.inr (some 95))), some (.inl x1), some (.inl z.1), some (.inl p), o4, o5, o6] [] D' Q := by
  intro k
  induction k with
  | zero =>
    intro p z D' o4 o5 o6 h1 h2 hF hI hq
    rw [seg226_9 (ha0 := ho95), brT (c := 8 ≤ p) (by omega)]
    exact hq D' hF hI
  | succ k ih =>
    intro p z D' o4 o5 o6 h1 h2 hF hI hq
    rw [seg226_9 (ha0 := ho95), brF (c := 8 ≤ p) (by omega)]
    refine l226t (D := D) W hT0 hT H he h44 ⟨h2, by omega⟩ 12 1 z D' _ _ (by omega) (by omega) hF hI (fun D1 o4 o5 o6 f1 f2 => ?_)
    exact ih (p + 1) _ D1 _ _ _ (by omega) (by omega) f1 f2 hq
theorem m227 (W : WfA A) (hT0 : T 0 = A 0) (hT : tnW T) (H : tnM A T) (he : D 96 = A) (h44 : D 95 44 = -1) (hx : 0 ≤ x1 ∧ x1 ≤ 4) (hq : ∀ D'' : xD, cmF D'' D → Q (some (.inl (chV A T x1))) D'') : WP 124 xF1 none 227 0 [some (.inr (.inr (some 95))), some (.inl x1), none, none] [] D Q := by
  have h6 : 0 ≤ A 6 ∧ A 6 ≤ 8 := ⟨W.1.2.2.2.2.1, W.1.2.2.2.2.2⟩
  rw [seg227_0 (ha0 := ho95), m149, if_pos hx]
  simp only [Option.toList_some, Option.toList_none, List.cons_append, List.nil_append]
  rw [seg227_6 (ha0 := ho95), brT (by decide)]
  refine m221 (A := A) he h6 (fun g hg => ?_)
  simp only [Option.toList_some, Option.toList_none, List.cons_append, List.nil_append]
  rw [seg227_15 (ha0 := ho95)]
  have e95 : (xset D 120 g) 95 = D 95 := set_ne (by decide)
  refine m225 (fs := -1) (fm := D 95 45) (P := shP A) hT (by rw [set_ne (by decide), he]; exact H) (shP_wkP W hT0) (by rw [e95]; exact h44) (by rw [e95]) (fun p t p1 p2 t1 t2 => by rw [set_eq]; exact hg p t p1 p2 t1 t2) (fun D1 k1 => ?_)
  have ev : wkZ T (-1) (D 95 45) (shP A) 13 = chW A T := wkZ_m1 13
  rw [ev]
  simp only [Option.toList_some, Option.toList_none, List.cons_append, List.nil_append]
  have F1 : cmF D1 D := ⟨fun a a1 a2 a3 a4 a5 a6 a7 => by rw [k1.1 a a1 a2 a3 a4 a5 a6, set_ne a7], fun i i1 i2 i3 i4 i5 i6 => by rw [k1.2 i i1 i2 i3, e95]⟩
  rw [seg227_19 (ha0 := ho95)]
  by_cases c4 : x1 = 4
  · rw [brF (c := x1 ≠ 4) (fun z => z c4)]
    have := hq D1 F1
    unfold chV at this
    rw [if_pos c4] at this
    exact this
  · rw [brT (c := x1 ≠ 4) c4, seg226_0 (ha0 := ho95)]
    refine l226p (D := D) W hT0 hT H he h44 8 0 (chW A T, -1, -1, -1) _ _ _ _ (by omega) (by omega) ⟨fun a a1 a2 a3 a4 a5 a6 a7 => by rw [up_ne a1]; exact F1.1 a a1 a2 a3 a4 a5 a6 a7, fun i i1 i2 i3 i4 i5 i6 => by rw [up_ne2 i4]; exact F1.2 i i1 i2 i3 i4 i5 i6⟩ ⟨by rw [up_eq], fun hn => absurd rfl hn⟩ (fun D2 f1 f2 => ?_)
    simp only [Option.toList_some, Option.toList_none, List.cons_append, List.nil_append]
    rw [seg227_32 (ha0 := ho95)]
    have f2 : cmI (chR A T) (D2 95) := f2
    have fin := hq D2 f1
    unfold chV at fin
    rw [if_neg c4] at fin
    obtain ⟨j1, j2⟩ := f2
    show (0 ≤ D2 95 47 → (x1 ≠ 0 → (x1 ≠ 1 → (x1 ≠ 2 → WP 124 xF1 none 227 78 [some (.inr (.inr (some 95))), some (.inl x1), some (.inl (chW A T)), some (.inl (chR A T).1)] [.inl (chR A T).1] D2 Q) ∧ (¬ (x1 ≠ 2) → WP 124 xF1 none 227 78 [some (.inr (.inr (some 95))), some (.inl x1), some (.inl (chW A T)), some (.inl (chR A T).1)] [.inl (D2 95 49)] D2 Q)) ∧ (¬ (x1 ≠ 1) → WP 124 xF1 none 227 78 [some (.inr (.inr (some 95))), some (.inl x1), some (.inl (chW A T)), some (.inl (chR A T).1)] [.inl (D2 95 48)] D2 Q)) ∧ (¬ (x1 ≠ 0) → WP 124 xF1 none 227 78 [some (.inr (.inr (some 95))), some (.inl x1), some (.inl (chW A T)), some (.inl (chR A T).1)] [.inl (D2 95 47)] D2 Q)) ∧ (¬ 0 ≤ D2 95 47 → Q (some (.inl (-1))) D2)
    rcases chR_J (A := A) (T := T) with ⟨n1, n2, n3⟩ | n1
    · rw [if_pos n1] at fin
      rw [brF (c := 0 ≤ D2 95 47) (by omega)]
      exact fin
    · rw [if_neg (by omega)] at fin
      have j3 := j2 (by omega)
      rw [brT (c := 0 ≤ D2 95 47) (by omega)]
      by_cases d0 : x1 = 0
      · rw [if_pos d0] at fin
        rw [brF (c := x1 ≠ 0) (fun z => z d0), seg227_78 (ha0 := ho95), j1]
        exact fin
      · rw [if_neg d0] at fin
        rw [brT (c := x1 ≠ 0) d0]
        by_cases d1 : x1 = 1
        · rw [if_pos d1] at fin
          rw [brF (c := x1 ≠ 1) (fun z => z d1), seg227_78 (ha0 := ho95), j3.1]
          exact fin
        · rw [if_neg d1] at fin
          rw [brT (c := x1 ≠ 1) d1]
          by_cases d2 : x1 = 2
          · rw [if_pos d2] at fin
            rw [brF (c := x1 ≠ 2) (fun z => z d2), seg227_78 (ha0 := ho95), j3.2]
            exact fin
          · rw [if_neg d2] at fin
            rw [brT (c := x1 ≠ 2) d2, seg227_78 (ha0 := ho95)]
            exact fin
theorem pair22 : ∀ (z1 : Int), xinP z1 → xpr (Inv (kAnd KN)) 137 [some (.inr (.inr (some 1))), some (.inl z1)] 227 [some (.inr (.inr (some 95))), some (.inl z1), none, none] := by
  intro z1 y1 D H
  obtain ⟨hit, hs, hw, -, -, hK, h85⟩ := id H
  obtain ⟨hC, hM, hT⟩ := tn_of hs hw
  have hch := chC_of hs hw
  have h44 : D 95 44 = -1 := hit.2.2.2.2
  obtain ⟨hKN, hKG⟩ := hK
  have hT0 : trA (D 96) 0 = D 96 0 := tr_at (by decide)
  have bad : ¬ (0 ≤ z1 ∧ z1 ≤ 4) → ∃ r : Int, (some (.inl (-1)) : Option xv) = some (.inl r) ∧ D 0 = D 0 ∧ WP 124 xF1 none 227 0 [some (.inr (.inr (some 95))), some (.inl z1), none, none] [] D (fun w D2 => w = some (.inl r) ∧ D2 0 = D 0 ∧ Inv (kAnd KN) D2) := by
    intro hb
    refine ⟨-1, rfl, rfl, ?_⟩
    rw [seg227_0 (ha0 := ho95), m149, if_neg hb]
    simp only [Option.toList_some, Option.toList_none, List.cons_append, List.nil_append]
    rw [seg227_6 (ha0 := ho95), brF (by decide)]
    exact ⟨rfl, rfl, H⟩
  rw [seg137_0 (ha0 := ho1)]
  by_cases c1 : z1 < 0
  · rw [brT c1, seg137_9 (ha0 := ho1)]; exact bad (fun z => by omega)
  · rw [brF c1]
    by_cases c2 : z1 ≤ 4
    · rw [brT c2]
      simp only [Nat.reduceAdd]
      refine m14 (A := D 96) (T := trA (D 96)) hw hT0 hT hC hch h85 (fun D1 f1 f2 => ?_)
      simp only [Option.toList_some, Option.toList_none, List.cons_append, List.nil_append]
      rw [seg137_26 (ha0 := ho1)]
      have g96 : D1 96 = D 96 := f1.1 96 (by decide) (by decide) (by decide) (by decide) (by decide) (by decide)
      have g95 : D1 95 = D 95 := f1.1 95 (by decide) (by decide) (by decide) (by decide) (by decide) (by decide)
      have g85 : D1 85 = D 85 := f1.1 85 (by decide) (by decide) (by decide) (by decide) (by decide) (by decide)
      have mod : ∀ v : Int, v = chV (D 96) (trA (D 96)) z1 → ∃ r : Int, (some (.inl v) : Option xv) = some (.inl r) ∧ D1 0 = D 0 ∧ WP 124 xF1 none 227 0 [some (.inr (.inr (some 95))), some (.inl z1), none, none] [] D1 (fun w D2 => w = some (.inl r) ∧ D2 0 = D 0 ∧ Inv (kAnd KN) D2) := by
        intro v hv
        refine ⟨v, rfl, f1.1 0 (by decide) (by decide) (by decide) (by decide) (by decide) (by decide), ?_⟩
        refine m227 (A := D 96) (T := trA (D 96)) hw hT0 hT hM g96 (by rw [g95]; exact h44) ⟨by omega, c2⟩ (fun D2 k1 => ⟨by rw [hv], ?_⟩)
        have e92 : D1 92 = D 92 := f1.1 92 (by decide) (by decide) (by decide) (by decide) (by decide) (by decide)
        refine inv_gd H (fun a a1 a2 a3 a4 a5 a6 a7 a8 a9 a10 => f1.1 a a2 a3 a4 a5 a6 a7) (by rw [g85]; exact h85) ?_ (fun a a1 a2 a3 a4 a5 a6 a7 a8 a9 a10 => k1.1 a a1 a2 a3 a4 a5 a6 a7) (fun i i1 i2 i3 i4 i5 i6 i7 i8 => k1.2 i i1 i2 i5 i6 i7 i8) (by rw [k1.2 44 (by decide) (by decide) (by decide) (by decide) (by decide) (by decide), g95]; exact h44)
        unfold KG
        rw [f1.2 0 (by decide) (by decide) (by decide) (by decide) (by decide), f1.2 2 (by decide) (by decide) (by decide) (by decide) (by decide), e92]
        exact hKG
      obtain ⟨q5, q6, q7, q8, q9⟩ := f2
      have hJ := chR_J (A := D 96) (T := trA (D 96))
      unfold chV at mod
      rcases (show z1 = 0 ∨ z1 = 1 ∨ z1 = 2 ∨ z1 = 3 ∨ z1 = 4 by omega) with rfl | rfl | rfl | rfl | rfl
      · show WP 124 xF1 none 137 56 _ _ _ _
        rw [seg137_56 (ha0 := ho1)]
        simp only [Nat.reduceAdd]
        refine mod _ ?_
        rw [q5, if_neg (by decide), if_pos rfl]
        rcases hJ with ⟨n1, n2, n3⟩ | n1
        · rw [if_pos n1]; exact n1
        · rw [if_neg (by omega)]
      · show WP 124 xF1 none 137 64 _ _ _ _
        rw [seg137_64 (ha0 := ho1)]
        simp only [Nat.reduceAdd]
        refine mod _ ?_
        rw [q6, if_neg (by decide), if_neg (c := (1 : Int) = 0) (by decide), if_pos (c := (1 : Int) = 1) rfl]
        rcases hJ with ⟨n1, n2, n3⟩ | n1
        · rw [if_pos n1]; exact n2
        · rw [if_neg (by omega)]
      · show WP 124 xF1 none 137 72 _ _ _ _
        rw [seg137_72 (ha0 := ho1)]
        simp only [Nat.reduceAdd]
        refine mod _ ?_
        rw [q7, if_neg (by decide), if_neg (c := (2 : Int) = 0) (by decide), if_neg (c := (2 : Int) = 1) (by decide), if_pos (c := (2 : Int) = 2) rfl]
        rcases hJ with ⟨n1, n2, n3⟩ | n1
        · rw [if_pos n1]; exact n3
        · rw [if_neg (by omega)]
      · show WP 124 xF1 none 137 80 _ _ _ _
        rw [seg137_80 (ha0 := ho1)]
        simp only [Nat.reduceAdd]
        refine mod _ ?_
        rw [q8, if_neg (c := (3 : Int) = 4) (by decide), if_neg (c := (3 : Int) = 0) (by decide), if_neg (c := (3 : Int) = 1) (by decide), if_neg (c := (3 : Int) = 2) (by decide)]
      · show WP 124 xF1 none 137 88 _ _ _ _
        rw [seg137_88 (ha0 := ho1)]
        simp only [Nat.reduceAdd]
        refine mod _ ?_
        rw [q9, if_pos rfl]
    · rw [brF c2, seg137_9 (ha0 := ho1)]; exact bad (fun z => c2 z.2)
end M62
