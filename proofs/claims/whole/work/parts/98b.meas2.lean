/-! nets: the class measures, whole -/
def meE (D D' : xD) (h : Int) (p : Int → Int) : Prop := (∀ a, a ≠ 67 → D' a = D a) ∧ ∃ vi rk st, lbC D D' h p vi rk st ∧ ∀ e, 0 ≤ e → e < D 57 0 → okB D h e → (D 60 (prI e) = 118 ∨ vi (D 60 (prI e)) ≠ -1) → D' 67 (D 60 (prI e)) + D 63 e ≤ D' 67 (D 60 e)
section M98b
variable {E x1 x2 x3 x4 x5 x6 n m h t F z s B : Int} {D D' D1 D2 : xD} {p vi st : Int → Int} {rk : Int → Nat} {o1 o2 o3 o4 o5 o6 : Option xv} {Q : Option xv → xD → Prop}
theorem l43a (hE : 0 ≤ D 57 0 ∧ D 57 0 ≤ 1016 ∧ D 57 0 % 2 = 0) (hN : ntOk (D 57 0) (fun e => D 60 (prI e)) (D 60) (D 63)) (hP : ∀ e, 0 ≤ e → e < D 57 0 → okB D h e → p (D 60 (prI e)) + D 63 e ≤ p (D 60 e)) (hb : ∀ v, -13 ≤ p v ∧ p v ≤ 3000)
    (hq : ∀ D' : xD, meE D D' h p → Q none D') :
    ∀ (k : Nat) (x2 x3 : Int) (D' : xD) (vi : Int → Int) (rk : Int → Nat) (st : Int → Int) (o4 o5 o6 : Option xv), x3 + k = 120 → 0 ≤ x3 → (∀ a, a ≠ 67 → D' a = D a) → lbC D D' h p vi rk st → (∀ v, 0 ≤ v → v < 120 → st v ≤ x3) →
    ((x2 = 0 ∧ ∀ e, 0 ≤ e → e < D 57 0 → okB D h e → (D 60 (prI e) = 118 ∨ vi (D 60 (prI e)) ≠ -1) → D' 67 (D 60 (prI e)) + D 63 e ≤ D' 67 (D 60 e)) ∨ (x2 = 1 ∧ scB D D' h vi st (x3 + 1) 0 ∧ (x3 = 0 ∨ ∃ v, (0 ≤ v ∧ v < 120) ∧ st v = x3))) →
    WP 124 xF1 none 43 21 [some (.inr (.inr (some 57))), some (.inl h), some (.inl x2), some (.inl x3), o4, o5, o6] [] D' Q := by
  intro k
  induction k with
  | zero =>
    intro x2 x3 D' vi rk st o4 o5 o6 h1 h2 hF hI hst hc
    rw [seg43_21 (ha0 := ho57), brT (by omega), seg43_158 (ha0 := ho57)]
    rcases hc with ⟨_, c2⟩ | ⟨_, _, c3⟩
    · exact hq D' ⟨hF, vi, rk, st, hI, c2⟩
    · rcases c3 with c3 | ⟨v, v1, v2⟩
      · omega
      · have a := st_le hN hI (rk v) v (Nat.le_refl _) v1.1 v1.2
        have b := lw_119 (rk := rk) v1
        omega
  | succ k ih =>
    intro x2 x3 D' vi rk st o4 o5 o6 h1 h2 hF hI hst hc
    rw [seg43_21 (ha0 := ho57), brF (by omega)]
    rcases hc with ⟨c1, c2⟩ | ⟨c1, c2, _⟩
    · rw [brT c1, seg43_158 (ha0 := ho57)]
      exact hq D' ⟨hF, vi, rk, st, hI, c2⟩
    · rw [brF (by omega)]
      refine l43b hE hN hP hb h2 (fun D2 vi2 rk2 st2 x2' x4' o5 o6 k1 k2 k3 k4 k5 => ?_) (by omega) (D 57 0).toNat 0 0 D' vi rk st _ _ (by omega) (by omega) hF hI c2 (fun v v1 v2 => by have := hst v v1 v2; omega) (.inl ⟨rfl, hst⟩)
      refine ih x2' (x3 + 1) D2 vi2 rk2 st2 _ _ _ (by omega) (by omega) k1 k2 k4 ?_
      rcases k5 with ⟨d1, d2⟩ | ⟨d1, d2⟩
      · left
        refine ⟨d1, fun e q1 q2 q3 q4 => ?_⟩
        rcases k3 e q1 q2 q3 q4 with z | z | z
        · exact z
        · have := d2 (D 60 (prI e)) (hN.2 e q1 q2).1.1 (hN.2 e q1 q2).1.2
          omega
        · omega
      · right
        refine ⟨d1, fun e q1 q2 q3 q4 => ?_, .inr d2⟩
        rcases k3 e q1 q2 q3 q4 with z | z | z
        · exact .inl z
        · exact .inr (.inr ⟨q1, by omega⟩)
        · omega
/-- far at the end: labels that no arc with room betters -/
theorem m43 (hE : 0 ≤ D 57 0 ∧ D 57 0 ≤ 1016 ∧ D 57 0 % 2 = 0) (hN : ntOk (D 57 0) (fun e => D 60 (prI e)) (D 60) (D 63)) (hP : ∀ e, 0 ≤ e → e < D 57 0 → okB D h e → p (D 60 (prI e)) + D 63 e ≤ p (D 60 e)) (hb : ∀ v, -13 ≤ p v ∧ p v ≤ 3000)
    (hq : ∀ D' : xD, meE D D' h p → Q none D') : WP 124 xF1 none 43 0 [some (.inr (.inr (some 57))), some (.inl h), o2, o3, o4, o5, o6] [] D Q := by
  rw [seg43_0 (ha0 := ho57), m240 (a := 57 + 10) (L := 120) rfl (by decide)]
  simp only [Option.toList_some, Option.toList_none, List.cons_append, List.nil_append, Nat.reduceAdd]
  rw [seg43_9 (ha0 := ho57)]
  simp only [Nat.reduceAdd]
  rw [cnB (by decide)]
  have a67 : ∀ j, 0 ≤ j → j < 120 → xup (xfil D 67 0 (120 : Nat) (-1000000)) 67 118 0 67 j = if j = 118 then 0 else -1000000 := fun j j1 j2 => by
    rw [up_at]
    by_cases c : j = 118
    · rw [if_pos c, if_pos c]
    · rw [if_neg c, if_neg c, fil_in (by omega)]
  refine l43a hE hN hP hb hq 120 1 0 _ (fun _ => -1) (fun _ => 0) (fun _ => 0) _ _ _ (by omega) (by omega) (fun a ha => by rw [up_ne ha, fil_ne ha]) ⟨⟨by rw [a67 118 (by decide) (by decide), if_pos rfl], rfl⟩, fun v v1 v2 => ?_, fun v v1 v2 z => absurd rfl z⟩ (fun _ _ _ => Int.le_refl _) (.inr ⟨rfl, fun e q1 q2 q3 q4 => .inr (.inr ⟨q1, (by decide : (0 : Int) + 1 - 1 ≤ 0)⟩), .inl rfl⟩)
  rw [a67 v v1 v2]
  have pv := hb v
  have p0 := hb 118
  by_cases c : v = 118
  · rw [if_pos c, c]; exact ⟨by omega, fun z => absurd rfl z, Int.le_refl _, fun _ => rfl⟩
  · rw [if_neg c]; exact ⟨by omega, fun _ _ => rfl, Int.le_refl _, fun _ => rfl⟩
end M98b
