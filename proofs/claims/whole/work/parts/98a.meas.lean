/-! nets: the class measures -/
def okB (D : xD) (h e : Int) : Prop := 0 < D 61 e ∧ alH h (D 60 (prI e)) = true ∧ alH h (D 60 e) = true
def lbC (D D' : xD) (h : Int) (p : Int → Int) (vi : Int → Int) (rk : Int → Nat) (st : Int → Int) : Prop := lbI (D 57 0) (fun e => D 60 (prI e)) (D 60) (D 63) (okB D h) 118 p (D' 67) vi rk st
/-- the scan of pass k stands at arc x4 -/
def scB (D D' : xD) (h : Int) (vi st : Int → Int) (k x4 : Int) : Prop := ∀ e, 0 ≤ e → e < D 57 0 → okB D h e → (D 60 (prI e) = 118 ∨ vi (D 60 (prI e)) ≠ -1) → D' 67 (D 60 (prI e)) + D 63 e ≤ D' 67 (D 60 e) ∨ (e < x4 ∧ k ≤ st (D 60 (prI e))) ∨ (x4 ≤ e ∧ k - 1 ≤ st (D 60 (prI e)))
section M98a
variable {E x1 x2 x3 x4 x5 x6 n m h t F z s B : Int} {D D' D1 D2 : xD} {p vi st : Int → Int} {rk : Int → Nat} {o1 o2 o3 o4 o5 o6 : Option xv} {Q : Option xv → xD → Prop}
theorem lb_al (hI : lbC D D' h p vi rk st) {v : Int} (hv : 0 ≤ v ∧ v < 120) (hr : v = 118 ∨ vi v ≠ -1) : alH h v = true := by
  by_cases c : v = 118
  · rw [c]; exact al_big (by decide)
  · obtain ⟨a1, a2, a3, a4, -⟩ := hI.2.2 v hv.1 hv.2 (hr.resolve_left c)
    rw [← a2]; exact a4.2.2
theorem l43b (hE : 0 ≤ D 57 0 ∧ D 57 0 ≤ 1016 ∧ D 57 0 % 2 = 0) (hN : ntOk (D 57 0) (fun e => D 60 (prI e)) (D 60) (D 63)) (hP : ∀ e, 0 ≤ e → e < D 57 0 → okB D h e → p (D 60 (prI e)) + D 63 e ≤ p (D 60 e)) (hb : ∀ v, -13 ≤ p v ∧ p v ≤ 3000) (h3 : 0 ≤ x3)
    (hq : ∀ (D' : xD) vi rk st x2 x4 o5 o6, (∀ a, a ≠ 67 → D' a = D a) → lbC D D' h p vi rk st → scB D D' h vi st (x3 + 1) (D 57 0) → (∀ v, 0 ≤ v → v < 120 → st v ≤ x3 + 1) → ((x2 = 0 ∧ ∀ v, 0 ≤ v → v < 120 → st v ≤ x3) ∨ (x2 = 1 ∧ ∃ v, (0 ≤ v ∧ v < 120) ∧ st v = x3 + 1)) → WP 124 xF1 none 43 21 [some (.inr (.inr (some 57))), some (.inl h), some (.inl x2), some (.inl (x3 + 1)), some (.inl x4), o5, o6] [] D' Q)
    (hx : x3 + 1 ≤ 1000) :
    ∀ (k : Nat) (x2 x4 : Int) (D' : xD) (vi : Int → Int) (rk : Int → Nat) (st : Int → Int) (o5 o6 : Option xv), x4 + k = D 57 0 → 0 ≤ x4 → (∀ a, a ≠ 67 → D' a = D a) → lbC D D' h p vi rk st → scB D D' h vi st (x3 + 1) x4 → (∀ v, 0 ≤ v → v < 120 → st v ≤ x3 + 1) → ((x2 = 0 ∧ ∀ v, 0 ≤ v → v < 120 → st v ≤ x3) ∨ (x2 = 1 ∧ ∃ v, (0 ≤ v ∧ v < 120) ∧ st v = x3 + 1)) →
    WP 124 xF1 none 43 36 [some (.inr (.inr (some 57))), some (.inl h), some (.inl x2), some (.inl x3), some (.inl x4), o5, o6] [] D' Q := by
  intro k
  induction k with
  | zero =>
    intro x2 x4 D' vi rk st o5 o6 h1 h2 hF hI hS hst hch
    rw [seg43_36 (ha0 := ho57), hF 57 (by decide), brT (by omega), cnX (by omega)]
    have e : x4 = D 57 0 := by omega
    rw [e] at hS
    exact hq D' vi rk st x2 x4 o5 o6 hF hI hS hst hch
  | succ k ih =>
    intro x2 x4 D' vi rk st o5 o6 h1 h2 hF hI hS hst hch
    have he : 0 ≤ x4 ∧ x4 < D 57 0 := ⟨h2, by omega⟩
    have n4 := hN.2 x4 he.1 he.2
    obtain ⟨n41, n42, n43, -, -, -, n47⟩ := n4
    have n41 : 0 ≤ D 60 (prI x4) ∧ D 60 (prI x4) < 120 := n41
    have rp := prI_rg ⟨hE.1, hE.2.2⟩ he
    have f60 := hF 60 (by decide)
    have f61 := hF 61 (by decide)
    have f63 := hF 63 (by decide)
    have bt := (hI.2.1 _ n41.1 n41.2).1
    have bh := (hI.2.1 _ n42.1 n42.2).1
    have pt := hb (D 60 (prI x4))
    have p0 := hb 118
    -- on
    have nx : ∀ (x2 : Int) (D2 : xD) (vi2 : Int → Int) (rk2 : Int → Nat) (st2 : Int → Int) (o5 o6 : Int), (∀ a, a ≠ 67 → D2 a = D a) → lbC D D2 h p vi2 rk2 st2 → scB D D2 h vi2 st2 (x3 + 1) (x4 + 1) → (∀ v, 0 ≤ v → v < 120 → st2 v ≤ x3 + 1) → ((x2 = 0 ∧ ∀ v, 0 ≤ v → v < 120 → st2 v ≤ x3) ∨ (x2 = 1 ∧ ∃ v, (0 ≤ v ∧ v < 120) ∧ st2 v = x3 + 1)) → WP 124 xF1 none 43 146 [some (.inr (.inr (some 57))), some (.inl h), some (.inl x2), some (.inl x3), some (.inl x4), some (.inl o5), some (.inl o6)] [] D2 Q := by
      intro x2 D2 vi2 rk2 st2 o5 o6 k1 k2 k3 k4 k5
      rw [seg43_146 (ha0 := ho57), cnX (by omega)]
      exact ih x2 (x4 + 1) D2 vi2 rk2 st2 _ _ (by omega) (by omega) k1 k2 k3 k4 k5
    -- nothing to better at this arc
    have sk : (okB D h x4 → (D 60 (prI x4) = 118 ∨ vi (D 60 (prI x4)) ≠ -1) → D' 67 (D 60 (prI x4)) + D 63 x4 ≤ D' 67 (D 60 x4)) → scB D D' h vi st (x3 + 1) (x4 + 1) := fun hs e q1 q2 q3 q4 => by
      by_cases c : e = x4
      · rw [c] at q3 q4 ⊢; exact .inl (hs q3 q4)
      · rcases hS e q1 q2 q3 q4 with z | z | z
        · exact .inl z
        · exact .inr (.inl ⟨by omega, z.2⟩)
        · exact .inr (.inr ⟨by omega, z.2⟩)
    rw [seg43_36 (ha0 := ho57), hF 57 (by decide), brF (by omega), ixor_1 (by omega)]
    simp only [Nat.reduceAdd]
    rw [cnB (by omega), cnB (by omega), cnB (by omega), f60, f61, f63]
    by_cases c1 : D 61 x4 ≤ 0
    · rw [brT c1]
      exact nx x2 D' vi rk st _ _ hF hI (sk (fun z _ => by have := z.1; omega)) hst hch
    · rw [brF c1, cnB (by omega)]
      by_cases c2 : D' 67 (D 60 (prI x4)) = -1000000
      · rw [brT c2]
        refine nx x2 D' vi rk st _ _ hF hI (sk (fun _ z => ?_)) hst hch
        exfalso
        rcases z with z | z
        · have := hI.1.1
          rw [z] at c2
          omega
        · have := (hI.2.2 _ n41.1 n41.2 z).2.2.2.2.2.2.1
          omega
      · have hre : D 60 (prI x4) = 118 ∨ vi (D 60 (prI x4)) ≠ -1 := by
          by_cases c3 : D 60 (prI x4) = 118
          · exact .inl c3
          · exact .inr (fun z => c2 ((hI.2.1 _ n41.1 n41.2).2.1 c3 z))
        rw [brF c2, cnB (by omega), cnB (by omega), cnX (by omega), cnB (by omega)]
        by_cases c3 : D' 67 (D 60 (prI x4)) + D 63 x4 ≤ D' 67 (D 60 x4)
        · rw [brT c3]
          exact nx x2 D' vi rk st _ _ hF hI (sk (fun _ _ => c3)) hst hch
        · rw [brF c3, m37 n42.1]
          simp only [Option.toList_some, Option.toList_none, List.cons_append, List.nil_append]
          by_cases c4 : alH h (D 60 x4) = true
          · rw [if_pos c4, seg43_119 (ha0 := ho57), brF (by decide)]
            simp only [Nat.reduceAdd]
            rw [cnB (by omega), cnB (by omega), f63, cnX (by omega), cnB (by omega)]
            have hk : okB D h x4 := ⟨by omega, lb_al hI n41 hre, c4⟩
            have hst1 : x3 ≤ st (D 60 (prI x4)) := by
              rcases hS x4 he.1 he.2 hk hre with z | z | z
              · exact absurd z c3
              · omega
              · omega
            have a67 : ∀ j, xup D' 67 (D 60 x4) (D' 67 (D 60 (prI x4)) + D 63 x4) 67 j = if j = D 60 x4 then D' 67 (D 60 (prI x4)) + D 63 x4 else D' 67 j := fun j => up_at
            obtain ⟨h0, rk', hI'⟩ := lb_up (k := x3 + 1) (b' := xup D' 67 (D 60 x4) (D' 67 (D 60 (prI x4)) + D 63 x4) 67) (vi' := fun j => if j = D 60 x4 then x4 else vi j) (st' := fun j => if j = D 60 x4 then x3 + 1 else st j) hN hP hI he hk hre (by show D' 67 (D 60 x4) < D' 67 (D 60 (prI x4)) + D 63 x4; omega) (by show 0 ≤ x3 + 1 ∧ x3 + 1 ≤ st (D 60 (prI x4)) + 1; omega) (hst _ n42.1 n42.2) a67 (fun _ => rfl) (fun _ => rfl)
            refine nx 1 _ _ rk' _ _ _ (fun a ha => by rw [up_ne ha]; exact hF a ha) hI' (fun e q1 q2 q3 q4 => ?_) (fun v v1 v2 => ?_) (.inr ⟨rfl, D 60 x4, n42, by show (if D 60 x4 = D 60 x4 then x3 + 1 else _) = _; rw [if_pos rfl]⟩)
            · show _ ∨ (e < x4 + 1 ∧ x3 + 1 ≤ (if D 60 (prI e) = D 60 x4 then x3 + 1 else st (D 60 (prI e)))) ∨ (x4 + 1 ≤ e ∧ x3 + 1 - 1 ≤ (if D 60 (prI e) = D 60 x4 then x3 + 1 else st (D 60 (prI e))))
              by_cases c5 : D 60 (prI e) = D 60 x4
              · rw [if_pos c5]
                right
                by_cases c6 : e < x4 + 1
                · exact .inl ⟨c6, Int.le_refl _⟩
                · exact .inr ⟨by omega, by omega⟩
              · rw [if_neg c5]
                have q4 : D 60 (prI e) = 118 ∨ (if D 60 (prI e) = D 60 x4 then x4 else vi (D 60 (prI e))) ≠ -1 := q4
                rw [if_neg c5] at q4
                rw [a67, a67, if_neg c5]
                by_cases c6 : e = x4
                · left; rw [c6, if_pos rfl]; exact Int.le_refl _
                · rcases hS e q1 q2 q3 q4 with z | z | z
                  · left
                    by_cases c7 : D 60 e = D 60 x4
                    · rw [if_pos c7]; rw [c7] at z; omega
                    · rw [if_neg c7]; exact z
                  · exact .inr (.inl ⟨by omega, z.2⟩)
                  · exact .inr (.inr ⟨by omega, z.2⟩)
            · show (if v = D 60 x4 then x3 + 1 else st v) ≤ x3 + 1
              split
              · omega
              · exact hst v v1 v2
          · rw [if_neg c4, seg43_119 (ha0 := ho57), brT (by decide)]
            exact nx x2 D' vi rk st _ _ hF hI (sk (fun z _ => absurd z.2.2 c4)) hst hch
end M98a
