/-! outs: the reference's worths -/
section M98g
variable {x1 x2 x3 h F z wd wh : Int} {D D' : xD} {T c w : Int → Int} {o2 o3 o4 o5 : Option xv} {Q : Option xv → xD → Prop}
theorem l195 (hx : x1 ≤ 12) (hq : ∀ D' : xD, (∀ a, a ≠ 106 → D' a = D a) → (∀ t, 0 ≤ t → t ≤ x1 → D' 106 t = x1 - t + 1) → WP 124 xF1 none 195 2 [some (.inr (.inr (some 95))), some (.inl x1), some (.inl (x1 + 1))] [] D' Q) :
    ∀ (k : Nat) (x2 : Int) (D' : xD), x2 + k = x1 + 1 → 0 ≤ x2 → (∀ a, a ≠ 106 → D' a = D a) → (∀ t, 0 ≤ t → t < x2 → D' 106 t = x1 - t + 1) → WP 124 xF1 none 195 2 [some (.inr (.inr (some 95))), some (.inl x1), some (.inl x2)] [] D' Q := by
  intro k
  induction k with
  | zero =>
    intro x2 D' h1 h2 h3 h4
    have e : x2 = x1 + 1 := by omega
    subst e
    exact hq D' h3 (fun t t1 t2 => h4 t t1 (by omega))
  | succ k ih =>
    intro x2 D' h1 h2 h3 h4
    rw [seg195_2 (ha0 := ho95), brF (by omega), cnX (by omega), cnX (by omega), cnB (by omega), cnX (by omega)]
    simp only [Nat.reduceAdd]
    refine ih (x2 + 1) _ (by omega) (by omega) (fun a ha => by rw [up_ne ha]; exact h3 a ha) (fun t t1 t2 => ?_)
    rw [up_at]
    by_cases c : t = x2
    · rw [if_pos c, c]
    · rw [if_neg c]; exact h4 t t1 (by omega)
theorem m195 (hT : tnW T) (hA : tnM (D 96) T) (h22 : D 95 22 = wd) (h23 : D 95 23 = wh) (hh : 0 ≤ x1 ∧ x1 ≤ 12) (hwh : 0 ≤ wh ∧ wh ≤ 2) (hq : ∀ D' z, mrG D' D → opT 0 1 (mdl T (fun t => x1 - t + 1) wd wh x1) z → (0 ≤ z ∧ z ≤ 1287) → Q (some (.inl z)) D') :
    WP 124 xF1 none 195 0 [some (.inr (.inr (some 95))), some (.inl x1), o2] [] D Q := by
  rw [seg195_0 (ha0 := ho95)]
  refine l195 hh.2 (fun D1 f1 f2 => ?_) (x1 + 1).toNat 0 D (by omega) (by omega) (fun _ _ => rfl) (fun t t1 t2 => by omega)
  rw [seg195_2 (ha0 := ho95), brT (by omega)]
  refine m189 (T := T) (w := fun t => x1 - t + 1) (wd := wd) (wh := wh) hT ⟨by rw [f1 96 (by decide)]; exact hA, f2, by rw [f1 95 (by decide)]; exact h22, by rw [f1 95 (by decide)]; exact h23⟩ hh (fun t t1 t2 => by show 0 ≤ x1 - t + 1 ∧ x1 - t + 1 ≤ 13; omega) hwh (fun D2 z g1 g2 g3 g4 => ?_)
  simp only [Option.toList_some, Option.toList_none, List.cons_append, List.nil_append]
  rw [seg195_29 (ha0 := ho95)]
  exact hq D2 z ⟨fun a a1 a2 => by rw [g1.1 a a1 (by omega), f1 a (by omega)], fun j hj => by rw [g1.2 j hj, f1 95 (by decide)]⟩ g2 g4
end M98g
