/-! outs: the reference's worths -/
section M98g
variable {x1 x2 x3 h F z wd wh : Int} {D D' : xD} {T c w : Int → Int} {o2 o3 o4 o5 : Option xv} {Q : Option xv → xD → Prop}
theorem l195 (hx : x1 ≤ 12) (hq : ∀ D' : xD, (∀ a, a ≠ 106 → D' a = D a) → (∀ t, 0 ≤ t → t ≤ x1 → D' 106 t = x1 - t + 1) → WP 124 xF1 none 195 2 [some (.inr (.inr (some 95))), some (.inl x1), some (.inl (x1 + 1))] [] D' Q) :
    ∀ (k : Nat) (x2 : Int) (D' : xD), x2 + k = x1 + 1 → 0 ≤ x2 → (∀ a, a ≠ 106 → D' a = D a) → (∀ t, 0 ≤ t → t < x2 → D' 106 t = x1 - t + 1) → WP 124 xF1 none 195 2 [some (.inr (.inr (some 95))), some (.inl x1), some (.inl x2)] [] D' Q := by
  intro k
  induction k with
  | zero =>
    intro x2 D' h1 h2 h3 h4
    have e : x2 = x1 + 1 := by omega
    subst e
    exact hq D' h3 (fun t t1 t2 => h4 t t1 (by omega))
  | succ k ih =>
    intro x2 D' h1 h2 h3 h4
    rw [seg195_2 (ha0 := ho95), brF (by omega), cnX (by omega), cnX (by omega), cnB (by omega), cnX (by omega)]
    simp only [Nat.reduceAdd]
    refine ih (x2 + 1) _ (by omega) (by omega) (fun a ha => by rw [up_ne ha]; exact h3 a ha) (fun t t1 t2 => ?_)
    rw [up_at]
    by_cases c : t = x2
    · rw [if_pos c, c]
    · rw [if_neg c]; exact h4 t t1 (by omega)
theorem m195 (hT : tnW T) (hA : tnM (D 96) T) (h22 : D 95 22 = wd) (h23 : D 95 23 = wh) (hh : 0 ≤ x1 ∧ x1 ≤ 12) (hwh : 0 ≤ wh ∧ wh ≤ 2) (hq : ∀ D' z, mrG D' D → opT 0 1 (mdl T (fun t => x1 - t + 1) wd wh x1) z → (0 ≤ z ∧ z ≤ 1287) → Q (some (.inl z)) D') :
    WP 124 xF1 none 195 0 [some (.inr (.inr (some 95))), some (.inl x1), o2] [] D Q := by
  rw [seg195_0 (ha0 := ho95)]
  refine l195 hh.2 (fun D1 f1 f2 => ?_) (x1 + 1).toNat 0 D (by omega) (by omega) (fun _ _ => rfl) (fun t t1 t2 => by omega)
  rw [seg195_2 (ha0 := ho95), brT (by omega)]
  refine m189 (T := T) (w := fun t => x1 - t + 1) (wd := wd) (wh := wh) hT ⟨by rw [f1 96 (by decide)]; exact hA, f2, by rw [f1 95 (by decide)]; exact h22, by rw [f1 95 (by decide)]; exact h23⟩ hh (fun t t1 t2 => by show 0 ≤ x1 - t + 1 ∧ x1 - t + 1 ≤ 13; omega) hwh (fun D2 z g1 g2 g3 g4 => ?_)
  simp only [Option.toList_some, Option.toList_none, List.cons_append, List.nil_append]
  rw [seg195_29 (ha0 := ho95)]
  exact hq D2 z ⟨fun a a1 a2 => by rw [g1.1 a a1 (by omega), f1 a (by omega)], fun j hj => by rw [g1.2 j hj, f1 95 (by decide)]⟩ g2 g4
def wqQ (a : Int) : Int → Int := fun t => if t ≤ a then 2 else 1
theorem l196 (hq : ∀ D' : xD, (∀ a, a ≠ 106 → D' a = D a) → (∀ t, 0 ≤ t → t ≤ 12 → D' 106 t = wqQ x1 t) → WP 124 xF1 none 196 3 [some (.inr (.inr (some 95))), some (.inl x1), some (.inl x2), some (.inl x3), some (.inl 13)] [] D' Q) :
    ∀ (k : Nat) (x4 : Int) (D' : xD), x4 + k = 13 → 0 ≤ x4 → (∀ a, a ≠ 106 → D' a = D a) → (∀ t, 0 ≤ t → t < x4 → D' 106 t = wqQ x1 t) → WP 124 xF1 none 196 3 [some (.inr (.inr (some 95))), some (.inl x1), some (.inl x2), some (.inl x3), some (.inl x4)] [] D' Q := by
  intro k
  induction k with
  | zero =>
    intro x4 D' h1 h2 h3 h4
    have e : x4 = 13 := by omega
    subst e
    exact hq D' h3 (fun t t1 t2 => h4 t t1 (by omega))
  | succ k ih =>
    intro x4 D' h1 h2 h3 h4
    have nx : ∀ v, v = wqQ x1 x4 → WP 124 xF1 none 196 27 [some (.inr (.inr (some 95))), some (.inl x1), some (.inl x2), some (.inl x3), some (.inl x4)] [.inl v, .inl x4, .inr (.inr (some 106))] D' Q := by
      intro v hv
      rw [seg196_27 (ha0 := ho95) (hb2 := show xalen none 124 106 = some 13 from rfl), cnB (by omega), cnX (by omega)]
      refine ih (x4 + 1) _ (by omega) (by omega) (fun a ha => by rw [up_ne ha]; exact h3 a ha) (fun t t1 t2 => ?_)
      rw [up_at]
      by_cases c : t = x4
      · rw [if_pos c, c, hv]
      · rw [if_neg c]; exact h4 t t1 (by omega)
    rw [seg196_3 (ha0 := ho95), brF (by omega)]
    simp only [Nat.reduceAdd]
    by_cases c : x1 < x4
    · rw [brT c]; exact nx 1 (by unfold wqQ; rw [if_neg (by omega)])
    · rw [brF c]; exact nx 2 (by unfold wqQ; rw [if_pos (by omega)])
theorem m196 (hT : tnW T) (hA : tnM (D 96) T) (h22 : D 95 22 = wd) (h23 : D 95 23 = wh) (hh : 0 ≤ x2 ∧ x2 ≤ 12) (hwh : 0 ≤ wh ∧ wh ≤ 2) (hq : ∀ D' z, mrG D' D → opT 0 1 (mdl T (wqQ x1) wd wh x2) z → Q (some (.inl (if x3 ≤ z then 0 else 1))) D') :
    WP 124 xF1 none 196 0 [some (.inr (.inr (some 95))), some (.inl x1), some (.inl x2), some (.inl x3), o4] [] D Q := by
  rw [seg196_0 (ha0 := ho95)]
  refine l196 (fun D1 f1 f2 => ?_) 13 0 D (by omega) (by omega) (fun _ _ => rfl) (fun t t1 t2 => by omega)
  rw [seg196_3 (ha0 := ho95), brT (by omega)]
  refine m189 (T := T) (w := wqQ x1) (wd := wd) (wh := wh) hT ⟨by rw [f1 96 (by decide)]; exact hA, fun t t1 t2 => f2 t t1 (by omega), by rw [f1 95 (by decide)]; exact h22, by rw [f1 95 (by decide)]; exact h23⟩ hh (fun t t1 t2 => by unfold wqQ; split <;> omega) hwh (fun D2 z g1 g2 g3 g4 => ?_)
  simp only [Option.toList_some, Option.toList_none, List.cons_append, List.nil_append]
  rw [seg196_39 (ha0 := ho95)]
  have k := hq D2 z ⟨fun a a1 a2 => by rw [g1.1 a a1 (by omega), f1 a (by omega)], fun j hj => by rw [g1.2 j hj, f1 95 (by decide)]⟩ g2
  by_cases c : x3 ≤ z
  · rw [brT c, seg196_48 (ha0 := ho95)]
    rw [if_pos c] at k
    exact ⟨.inl rfl, k⟩
  · rw [brF c, seg196_48 (ha0 := ho95)]
    rw [if_neg c] at k
    exact ⟨.inr rfl, k⟩
end M98g
