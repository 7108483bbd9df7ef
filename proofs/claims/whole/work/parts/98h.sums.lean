/-! outs: the class's sums -/
section M98h
variable {x1 x2 x3 h F z wd wh t : Int} {D D' : xD} {T c w w' : Int → Int} {f : Int → Int → Int → Int → Int} {o2 o3 o4 o5 : Option xv} {Q : Option xv → xD → Prop}
theorem mdl_cg (hw : ∀ t, 0 ≤ t → t ≤ h → w' t = w t) : mdl T w' wd wh h = mdl T w wd wh h := by
  funext y
  unfold mdl msS
  have e : msP T w' h (mfY y) 8 = msP T w h (mfY y) 8 := by
    unfold msP
    refine smI_congr _ _ (fun p _ _ => ?_)
    have e2 : smI (fun t => mfY y (16 + 13 * p + t) (8 + p) 99 (w' t)) 0 (h + 1).toNat = smI (fun t => mfY y (16 + 13 * p + t) (8 + p) 99 (w t)) 0 (h + 1).toNat := smI_congr _ _ (fun t t1 t2 => by rw [hw t t1 (by omega)])
    rw [e2]
  rw [e]
/-- the best sum of minute t -/
def suP (T : Int → Int) (t z : Int) : Prop := opT 0 1 (mdl T (fun k => t - k + 1) (-1) 0 t) z
theorem l50 (hx : 0 ≤ x2 ∧ x2 ≤ 12) (hq : ∀ D' : xD, (∀ a, a ≠ 72 → D' a = D a) → (∀ t, 0 ≤ t → t ≤ 12 → D' 72 t = max 0 (x2 - t + 1)) → WP 124 xF1 none 50 13 [some (.inr (.inr (some 56))), some (.inr (.inr (some 3))), some (.inl x2), some (.inl 13)] [] D' Q) :
    ∀ (k : Nat) (x3 : Int) (D' : xD), x3 + k = 13 → 0 ≤ x3 → (∀ a, a ≠ 72 → D' a = D a) → (∀ t, 0 ≤ t → t < x3 → D' 72 t = max 0 (x2 - t + 1)) → WP 124 xF1 none 50 13 [some (.inr (.inr (some 56))), some (.inr (.inr (some 3))), some (.inl x2), some (.inl x3)] [] D' Q := by
  intro k
  induction k with
  | zero =>
    intro x3 D' h1 h2 h3 h4
    have e : x3 = 13 := by omega
    subst e
    exact hq D' h3 (fun t t1 t2 => h4 t t1 (by omega))
  | succ k ih =>
    intro x3 D' h1 h2 h3 h4
    rw [seg50_13 (ha0 := ho56) (ha1 := ho3), brF (by omega), cnX (by omega), cnX (by omega), cnB (by omega), cnX (by omega)]
    simp only [Nat.reduceAdd]
    refine ih (x3 + 1) _ (by omega) (by omega) (fun a ha => by rw [up_ne ha]; exact h3 a ha) (fun t t1 t2 => ?_)
    rw [up_at]
    by_cases c : t = x3
    · rw [if_pos c, c]
    · rw [if_neg c]; exact h4 t t1 (by omega)
theorem m50 (hT : tnW T) (H : tnN D T) (h5 : D 3 1 = T 5) (hx : 0 ≤ x2 ∧ x2 ≤ 12) (hK : ∀ t, 0 ≤ t → t < 13 → D 70 t = -1 ∨ suP T t (D 70 t)) (hq : ∀ D' : xD, (∀ a, a < 57 ∨ (67 < a ∧ a ≠ 70 ∧ a ≠ 72) → D' a = D a) → (∀ t, 0 ≤ t → t < 13 → D' 70 t = -1 ∨ suP T t (D' 70 t)) → suP T x2 (D' 70 x2) → Q none D') :
    WP 124 xF1 none 50 0 [some (.inr (.inr (some 56))), some (.inr (.inr (some 3))), some (.inl x2), o3] [] D Q := by
  rw [seg50_0 (ha0 := ho56) (ha1 := ho3), cnB (by omega)]
  simp only [Nat.reduceAdd]
  by_cases c : D 70 x2 = -1
  · rw [brT c]
    refine l50 hx (fun D1 f1 f2 => ?_) 13 0 D (by omega) (by omega) (fun _ _ => rfl) (fun t t1 t2 => by omega)
    rw [seg50_13 (ha0 := ho56) (ha1 := ho3), brT (by omega)]
    simp only [Nat.reduceAdd]
    rw [f1 3 (by decide), h5]
    refine m27 (T := T) hT (tnN_fr (fun a a1 a2 => f1 a (by omega)) H) rfl (by decide) (fun D2 g1 g2 => ?_)
    simp only [Option.toList_some, Option.toList_none, List.cons_append, List.nil_append, Nat.reduceAdd]
    rw [seg50_56 (ha0 := ho56) (ha1 := ho3)]
    simp only [Nat.reduceAdd]
    have e72 : D2 72 = D1 72 := g1 72 (by decide) (by decide) (by decide) (by decide) (by decide) (by decide)
    refine m42 hT (by decide) hx g2 (fun m m1 m2 => by rw [e72, f2 m m1 m2]; omega) (fun D3 z k1 k2 k3 => ?_)
    simp only [Option.toList_some, Option.toList_none, List.cons_append, List.nil_append, Nat.reduceAdd]
    rw [seg50_73 (ha0 := ho56) (ha1 := ho3) (hb2 := show xalen none 124 70 = some 13 from rfl), cnB (by omega)]
    have F3 : ∀ a, a < 57 ∨ (67 < a ∧ a ≠ 72) → D3 a = D a := fun a ha => by rw [k1 a (by omega) (by omega) (by omega) (by omega) (by omega), g1 a (by omega) (by omega) (by omega) (by omega) (by omega) (by omega), f1 a (by omega)]
    have su : suP T x2 z := by
      unfold suP
      rw [← mdl_cg (w' := D2 72) (fun t t1 t2 => by rw [e72, f2 t t1 (by omega)]; omega)]
      exact k2
    refine hq _ (fun a ha => by rw [up_ne (by omega)]; exact F3 a (by omega)) (fun t t1 t2 => ?_) (by rw [up_eq]; exact su)
    rw [up_at]
    by_cases c2 : t = x2
    · rw [if_pos c2, c2]; exact .inr su
    · rw [if_neg c2, F3 70 (by decide)]; exact hK t t1 t2
  · rw [brF c]
    exact hq D (fun _ _ => rfl) hK ((hK x2 hx.1 (by omega)).resolve_left c)
end M98h
