/-! nets: the search whole, and the push -/
section M77
variable {E x1 x2 x3 x4 x5 x6 x7 x8 x9 n m h tg v e : Int} {D D' D1 D2 : xD} {via c r : Int → Int} {rk : Int → Nat} {o1 o2 o3 o4 o5 o6 o7 o8 o9 : Option xv} {Q : Option xv → xD → Prop}
theorem l38a (hB : srB D h tg) (hq : ∀ D' r, srE D D' h tg r → Q (some (.inl r)) D') :
    ∀ (k : Nat) (x4 n : Int) (D' : xD) (o5 o6 o7 o8 o9 : Option xv) (rk : Int → Nat), 120 ≤ x4 + k → 0 ≤ x4 → x4 ≤ n → srI D D' h tg n rk → srC D (viA D') h tg (fun e => ∃ i, (0 ≤ i ∧ i < x4) ∧ D 60 (prI e) = D' 66 i) →
    WP 124 xF1 none 38 29 [some (.inr (.inr (some 57))), some (.inl h), some (.inl tg), some (.inl n), some (.inl x4), o5, o6, o7, o8, o9] [] D' Q := by
  obtain ⟨hJ, hE, hN, htg⟩ := id hB
  have fin : ∀ (x4 n : Int) (D' : xD) (o5 o6 o7 o8 o9 : Option xv) (rk : Int → Nat), 0 ≤ x4 → n ≤ x4 → x4 ≤ n → srI D D' h tg n rk → srC D (viA D') h tg (fun e => ∃ i, (0 ≤ i ∧ i < x4) ∧ D 60 (prI e) = D' 66 i) → WP 124 xF1 none 38 29 [some (.inr (.inr (some 57))), some (.inl h), some (.inl tg), some (.inl n), some (.inl x4), o5, o6, o7, o8, o9] [] D' Q := by
    intro x4 n D' o5 o6 o7 o8 o9 rk h0 h1 h2 h3 h4
    rw [seg38_29 (ha0 := ho57), brT h1, seg38_214 (ha0 := ho57)]
    refine hq D' 0 ⟨h3.1, rk, h3.2.1, .inr ⟨rfl, h3.2.2.1, fun e q1 q2 q3 q4 => ?_⟩⟩
    obtain ⟨_, i, i1, i2⟩ := h3.2.2.2.2.2 _ q3
    exact h4 e q1 q2 ⟨i, by omega, i2.symm⟩ q4
  intro k
  induction k with
  | zero =>
    intro x4 n D' o5 o6 o7 o8 o9 rk h1 h2 h3 h4 h5
    have := sr_cnt h4.2.2
    omega
  | succ k ih =>
    intro x4 n D' o5 o6 o7 o8 o9 rk h1 h2 h3 h4 h5
    by_cases c : n ≤ x4
    · exact fin x4 n D' o5 o6 o7 o8 o9 rk h2 c h3 h4 h5
    · have cn := sr_cnt h4.2.2
      obtain ⟨a1, a2, a3⟩ := h4.2.2.2.2.1 x4 h2 (by omega)
      have f58 := h4.1 58 (by decide) (by decide)
      rw [seg38_29 (ha0 := ho57), brF c, brF (by omega)]
      simp only [Nat.reduceAdd]
      rw [cnB (by omega), cnB (by omega), f58]
      have j1 := hJ.1 (D' 66 x4) a1.1 a1.2
      have l := l38b (Q := Q) (x4 := x4) (x5 := D' 66 x4) hB h2 a1 hq (fun D2 n2 o8 o9 x6 x7 rk2 k1 k2 k3 k4 k5 => ?_) 1017 (D 58 (D' 66 x4)) 0 n D' o8 o9 rk (by omega) ?_ (by omega) (by omega) h4 h5 rfl (fun e q1 q2 q3 _ => ?_)
      · exact l
      · rw [seg38_208 (ha0 := ho57), cnX (by have := sr_cnt k2.2.2; omega)]
        refine ih (x4 + 1) n2 D2 _ _ _ _ _ rk2 (by omega) (by omega) (by omega) k2 (fun e q1 q2 q3 q4 => ?_)
        obtain ⟨i, i1, i2⟩ := q3
        by_cases ci : i < x4
        · exact k3 e q1 q2 ⟨i, ⟨i1.1, ci⟩, i2⟩ q4
        · refine k5 e q1 q2 ?_ q4
          show D 60 (prI e) = D' 66 x4
          rw [← k4, i2, show i = x4 by omega]
      · rcases j1 with z | ⟨z1, z2⟩
        · exact .inl z
        · exact .inr ⟨z1, z2⟩
      · exfalso
        have := hJ.2.2.1 e q1 q2
        have q31 : D 60 (prI e) = D' 66 x4 := q3.1
        have : e ≤ D 58 (D 60 (prI e)) := this
        rw [q31] at this
        omega
theorem m38 (hB : srB D h tg) (hq : ∀ D' r, srE D D' h tg r → Q (some (.inl r)) D') : WP 124 xF1 none 38 0 [some (.inr (.inr (some 57))), some (.inl h), some (.inl tg), o3, o4, o5, o6, o7, o8, o9] [] D Q := by
  rw [seg38_0 (ha0 := ho57), m240 (a := 57 + 8) (L := 120) rfl (by decide)]
  simp only [Option.toList_some, Option.toList_none, List.cons_append, List.nil_append, Nat.reduceAdd]
  rw [seg38_8 (ha0 := ho57)]
  simp only [Nat.reduceAdd]
  rw [cnB (by omega), cnB (by omega)]
  have hV : ∀ u, viA (xup (xup (xfil D 65 0 (120 : Nat) (-1)) 65 118 0) 66 0 118) u = if u = 118 then 0 else -1 := fun u => by
    unfold viA
    rw [up_ne (by decide), up_at]
    by_cases q : u = 118
    · rw [if_pos q, if_pos q, if_pos (by omega)]
    · rw [if_neg q, if_neg q]
      by_cases q2 : 0 ≤ u ∧ u < 120
      · rw [if_pos q2, fil_in (by omega)]
      · rw [if_neg q2]
  refine l38a hB hq 120 0 1 _ _ _ _ _ _ (fun _ => 0) (by omega) (by omega) (by omega) ⟨fun a a1 a2 => by rw [up_ne a2, up_ne a1, fil_ne a1], ⟨by rw [hV, if_pos rfl]; decide, fun v v1 v2 => ?_⟩, by rw [hV, if_neg (by decide)], ?_, fun i i1 i2 => ?_, fun v hv => ?_⟩ (fun e _ _ q3 _ => ?_)
  · rw [hV, if_neg v1] at v2; exact absurd rfl v2
  · have key := smI_pt (f := fun _ => (0 : Int)) (g := fun v => if viA (xup (xup (xfil D 65 0 (120 : Nat) (-1)) 65 118 0) 66 0 118) v = -1 then (0 : Int) else 1) 120 0 118 1 (by omega) (by omega) (fun j hj => ?_) ?_
    · rw [key, smI_0 _ _ (fun _ _ _ => rfl)]; rfl
    · show (if viA (xup (xup (xfil D 65 0 (120 : Nat) (-1)) 65 118 0) 66 0 118) j = -1 then (0 : Int) else 1) = 0
      rw [hV, if_neg hj, if_pos rfl]
    · show (if viA (xup (xup (xfil D 65 0 (120 : Nat) (-1)) 65 118 0) 66 0 118) 118 = -1 then (0 : Int) else 1) = 0 + 1
      rw [hV, if_pos rfl, if_neg (by decide)]; rfl
  · rw [up_at, if_pos (by omega), hV, if_pos rfl]
    exact ⟨by omega, by decide, by show ((0 : Nat) : Int) = i; omega⟩
  · rw [hV] at hv
    by_cases q : v = 118
    · exact ⟨by omega, 0, by omega, by rw [up_at, if_pos rfl, q]⟩
    · rw [if_neg q] at hv; exact absurd rfl hv
  · obtain ⟨i, i1, -⟩ := q3
    omega
theorem sr_fr (hF : sfF D' D) (h1 : srT D via h tg rk) : srT D' via h tg rk := by
  unfold srT okA at *
  rw [hF 57 (by decide) (by decide), hF 60 (by decide) (by decide), hF 61 (by decide) (by decide), hF 63 (by decide) (by decide), hF 67 (by decide) (by decide)]
  exact h1
theorem sr_tr (h1 : srT D via h tg rk) : trI (D 57 0) (fun e => D 60 (prI e)) (D 60) (D 61) via rk 118 := fun v v1 v2 => by
  obtain ⟨a1, a2, a3, a4, a5⟩ := h1.2 v v1 v2
  exact ⟨a1, a2, .inr a3, a4.1, a5⟩
theorem sr_al (h1 : srT D via h tg rk) (hv : via v ≠ -1) : alH h v = true := by
  by_cases c : v = 118
  · rw [c]; exact al_big (by decide)
  · obtain ⟨a1, a2, a3, a4, a5⟩ := h1.2 v c hv
    rw [← a2]; exact a4.2.1
/-- the least room of the way -/
theorem l39a (hE : 0 ≤ D 57 0 ∧ D 57 0 ≤ 1016 ∧ D 57 0 % 2 = 0) (hR : ∀ e, 0 ≤ e → e < D 57 0 → 0 ≤ D 60 e ∧ D 60 e < 120) (hT : srT D (viA D) h tg rk) :
    ∀ (k : Nat) (x1 x2 x3 : Int) (o4 : Option xv), x3 + k = 120 → 0 ≤ x3 → viA D x2 ≠ -1 → rk x2 < k → (∀ x2' x3' o4', WP 124 xF1 none 39 66 [some (.inr (.inr (some 57))), some (.inl (pmN (fun e => D 60 (prI e)) (viA D) (D 61) 118 k x2 x1)), some (.inl x2'), some (.inl x3'), o4'] [] D Q) →
    WP 124 xF1 none 39 8 [some (.inr (.inr (some 57))), some (.inl x1), some (.inl x2), some (.inl x3), o4] [] D Q := by
  intro k
  induction k with
  | zero => intro x1 x2 x3 o4 h1 h2 h3 h4; omega
  | succ k ih =>
    intro x1 x2 x3 o4 h1 h0 h2 h3 h4
    rw [seg39_8 (ha0 := ho57), brF (by omega)]
    simp only [pmN] at h4
    by_cases c : x2 = 118
    · rw [brT c]
      have := h4 x2 x3 o4
      rw [if_pos c] at this
      exact this
    · obtain ⟨a1, a2, a3, a4, a5⟩ := hT.2 x2 c h2
      have hx2 : 0 ≤ x2 ∧ x2 < 120 := by rw [← a2]; exact hR _ a1.1 a1.2
      have ev : D 65 x2 = viA D x2 := (vi_in hx2).symm
      rw [brF c]
      simp only [Nat.reduceAdd]
      have rp := prI_rg ⟨hE.1, hE.2.2⟩ a1
      rw [cnB (by omega), ev, brF (by omega), cnB (by omega), cnB (by omega), ixor_1 (by omega), cnB (by omega), cnX (by omega)]
      refine ih _ _ (x3 + 1) _ (by omega) (by omega) a3 (by omega) (fun x2' x3' o4' => ?_)
      have := h4 x2' x3' o4'
      rw [if_neg c] at this
      exact this
theorem l39b (hE : 0 ≤ D 57 0 ∧ D 57 0 ≤ 1016 ∧ D 57 0 % 2 = 0) (hR : ∀ e, 0 ≤ e → e < D 57 0 → 0 ≤ D 60 e ∧ D 60 e < 120) (hT : srT D (viA D) h tg rk) (hn : 0 ≤ n ∧ n ≤ 99) :
    ∀ (k : Nat) (x2 x3 : Int) (D' : xD) (o4 : Option xv), x3 + k = 120 → 0 ≤ x3 → viA D x2 ≠ -1 → rk x2 < k → (∀ a, a ≠ 61 → D' a = D a) → (∀ e, 0 ≤ e → e < D 57 0 → -(1000000 + 100 * x3) ≤ D' 61 e ∧ D' 61 e ≤ 1000000 + 100 * x3) →
    (∀ D2 : xD, (∀ a, a ≠ 61 → D2 a = D a) → D2 61 = puN (fun e => D 60 (prI e)) (viA D) 118 n k x2 (D' 61) → Q (some (.inl n)) D2) →
    WP 124 xF1 none 39 71 [some (.inr (.inr (some 57))), some (.inl n), some (.inl x2), some (.inl x3), o4] [] D' Q := by
  intro k
  induction k with
  | zero => intro x2 x3 D' o4 h1 h2 h3 h4; omega
  | succ k ih =>
    intro x2 x3 D' o4 h1 h0 h2 h3 hF hb h4
    rw [seg39_71 (ha0 := ho57), brF (by omega)]
    simp only [puN] at h4
    by_cases c : x2 = 118
    · rw [brT c, seg39_141 (ha0 := ho57)]
      rw [if_pos c] at h4
      exact h4 D' hF rfl
    · obtain ⟨a1, a2, a3, a4, a5⟩ := hT.2 x2 c h2
      have hx2 : 0 ≤ x2 ∧ x2 < 120 := by rw [← a2]; exact hR _ a1.1 a1.2
      have f60 := hF 60 (by decide)
      have ev : D' 65 x2 = viA D x2 := by rw [hF 65 (by decide)]; exact (vi_in hx2).symm
      rw [brF c]
      simp only [Nat.reduceAdd]
      have rp := prI_rg ⟨hE.1, hE.2.2⟩ a1
      have np := prI_ne (viA D x2)
      have b1 := hb _ a1.1 a1.2
      have b2 := hb _ rp.1 rp.2
      rw [if_neg c] at h4
      have e2 : xup D' 61 (viA D x2) (D' 61 (viA D x2) - n) 61 (prI (viA D x2)) = D' 61 (prI (viA D x2)) := by rw [up_at, if_neg np]
      have e61 : xup (xup D' 61 (viA D x2) (D' 61 (viA D x2) - n)) 61 (prI (viA D x2)) (D' 61 (prI (viA D x2)) + n) 61 = puR (viA D) n x2 (D' 61) := by
        funext j
        unfold puR
        rw [up_at, up_at]
      rw [cnB (by omega), ev, brF (by omega), cnB (by omega), cnB (by omega), cnX (by omega), cnB (by omega), ixor_1 (by omega), cnB (by omega), e2, cnX (by omega), cnB (by omega), cnB (by omega), cnX (by omega), f60]
      refine ih _ (x3 + 1) _ _ (by omega) (by omega) a3 (by omega) (fun a ha => by rw [up_ne ha, up_ne ha]; exact hF a ha) (fun e q1 q2 => ?_) (fun D2 g1 g2 => h4 D2 g1 ?_)
      · rw [e61]
        have b3 := hb e q1 q2
        unfold puR
        split
        · omega
        · split <;> omega
      · rw [e61] at g2; exact g2
theorem m39 (hE : 0 ≤ D 57 0 ∧ D 57 0 ≤ 1016 ∧ D 57 0 % 2 = 0) (hR : ∀ e, 0 ≤ e → e < D 57 0 → 0 ≤ D 60 e ∧ D 60 e < 120) (hT : srT D (viA D) h tg rk) (hv : viA D 119 ≠ -1) (hk : rk 119 ≤ 119) (hb : ∀ e, 0 ≤ e → e < D 57 0 → 0 ≤ D 61 e ∧ D 61 e ≤ 1000)
    (hq : ∀ D2 : xD, (∀ a, a ≠ 61 → D2 a = D a) → D2 61 = puN (fun e => D 60 (prI e)) (viA D) 118 (pmN (fun e => D 60 (prI e)) (viA D) (D 61) 118 120 119 99) 120 119 (D 61) → Q (some (.inl (pmN (fun e => D 60 (prI e)) (viA D) (D 61) 118 120 119 99))) D2) :
    WP 124 xF1 none 39 0 [some (.inr (.inr (some 57))), o1, o2, o3, o4] [] D Q := by
  have hp := (pm_sp (sr_tr hT) 120 119 99 (.inr hv) (by decide)).1
  rw [seg39_0 (ha0 := ho57)]
  refine l39a hE hR hT 120 99 119 0 _ (by omega) (by omega) hv (by omega) (fun x2' x3' o4' => ?_)
  rw [seg39_66 (ha0 := ho57)]
  exact l39b hE hR hT (by omega) 120 119 0 D _ (by omega) (by omega) hv (by omega) (fun _ _ => rfl) (fun e q1 q2 => by have := hb e q1 q2; omega) hq
end M77
