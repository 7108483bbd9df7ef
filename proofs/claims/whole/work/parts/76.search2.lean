/-! nets: the class's search, its run -/
/-- what stands in the midst -/
def srI (D D' : xD) (h tg n : Int) (rk : Int → Nat) : Prop := sfF D' D ∧ srT D (viA D') h tg rk ∧ srQ (viA D') (D' 66) n rk
/-- bounds that the search asks for -/
def srB (D : xD) (h tg : Int) : Prop := ajOk (D 57 0) (fun e => D 60 (prI e)) (D 58) (D 59) ∧ (0 ≤ D 57 0 ∧ D 57 0 ≤ 1016 ∧ D 57 0 % 2 = 0) ∧ (∀ e, 0 ≤ e → e < D 57 0 → 0 ≤ D 60 e ∧ D 60 e < 120) ∧ (tg = 0 ∨ (tg = 1 ∧ (∀ v, 0 ≤ v → v < 120 → -1000000 ≤ D 67 v ∧ D 67 v ≤ 1000000) ∧ ∀ e, 0 ≤ e → e < D 57 0 → -13 ≤ D 63 e ∧ D 63 e ≤ 13))
/-- the end of a search: all is seen that can be, or 119 -/
def srE (D D' : xD) (h tg r : Int) : Prop := sfF D' D ∧ ∃ rk, srT D (viA D') h tg rk ∧ ((r = 1 ∧ viA D' 119 ≠ -1 ∧ rk 119 ≤ 119) ∨ (r = 0 ∧ viA D' 119 = -1 ∧ srC D (viA D') h tg (fun e => viA D' (D 60 (prI e)) ≠ -1)))
section M76
variable {E x1 x2 x3 x4 x5 x6 x7 x8 x9 n m h tg v e : Int} {D D' D1 D2 : xD} {via via' qu qu' c : Int → Int} {rk : Int → Nat} {P : Int → Prop} {o3 o4 o5 o6 o7 o8 o9 : Option xv} {V : (Int → Int → Int → Int → Int) → Int} {Q : Option xv → xD → Prop}
theorem vi_in (hv : 0 ≤ v ∧ v < 120) : viA D v = D 65 v := by unfold viA; rw [if_pos hv]
theorem l38b (hB : srB D h tg) (h4 : 0 ≤ x4) (h5 : 0 ≤ x5 ∧ x5 < 120) (hq : ∀ D' r, srE D D' h tg r → Q (some (.inl r)) D')
    (hn : ∀ D' n o8 o9 x6 x7 rk, x4 < n → srI D D' h tg n rk → srC D (viA D') h tg (fun e => ∃ i, (0 ≤ i ∧ i < x4) ∧ D 60 (prI e) = D' 66 i) → D' 66 x4 = x5 → srC D (viA D') h tg (fun e => D 60 (prI e) = x5) → WP 124 xF1 none 38 208 [some (.inr (.inr (some 57))), some (.inl h), some (.inl tg), some (.inl n), some (.inl x4), some (.inl x5), some (.inl x6), some (.inl x7), o8, o9] [] D' Q) :
    ∀ (k : Nat) (x6 x7 n : Int) (D' : xD) (o8 o9 : Option xv) (rk : Int → Nat), x6 + 1 ≤ k → (x6 = -1 ∨ ((0 ≤ x6 ∧ x6 < D 57 0) ∧ D 60 (prI x6) = x5)) → (0 ≤ x7 ∧ x7 + x6 + 1 ≤ D 57 0) → x4 < n → srI D D' h tg n rk → srC D (viA D') h tg (fun e => ∃ i, (0 ≤ i ∧ i < x4) ∧ D 60 (prI e) = D' 66 i) → D' 66 x4 = x5 → srC D (viA D') h tg (fun e => D 60 (prI e) = x5 ∧ x6 < e) →
    WP 124 xF1 none 38 63 [some (.inr (.inr (some 57))), some (.inl h), some (.inl tg), some (.inl n), some (.inl x4), some (.inl x5), some (.inl x6), some (.inl x7), o8, o9] [] D' Q := by
  obtain ⟨hJ, hE, hN, htg⟩ := hB
  intro k
  induction k with
  | zero =>
    intro x6 x7 n D' o8 o9 rk g1 g2 g3 g4 g5 g6 g7 g8
    have e6 : x6 = -1 := by omega
    have h := hn D' n o8 o9 x6 x7 rk g4 g5 g6 g7 (fun e q1 q2 q3 q4 => g8 e q1 q2 ⟨q3, by omega⟩ q4)
    rw [seg38_63 (ha0 := ho57)]
    by_cases c : 1016 ≤ x7
    · rw [brT c]; exact h
    · rw [brF c, brT e6]; exact h
  | succ k ih =>
    intro x6 x7 n D' o8 o9 rk g1 g2 g3 g4 g5 g6 g7 g8
    by_cases e6 : x6 = -1
    · have h := hn D' n o8 o9 x6 x7 rk g4 g5 g6 g7 (fun e q1 q2 q3 q4 => g8 e q1 q2 ⟨q3, by omega⟩ q4)
      rw [seg38_63 (ha0 := ho57)]
      by_cases c : 1016 ≤ x7
      · rw [brT c]; exact h
      · rw [brF c, brT e6]; exact h
    · obtain ⟨g21, g22⟩ := g2.resolve_left e6
      obtain ⟨hF, hT, hQ⟩ := id g5
      have cn := sr_cnt hQ
      have f57 := hF 57 (by decide) (by decide)
      have f59 := hF 59 (by decide) (by decide)
      have f60 := hF 60 (by decide) (by decide)
      have f61 := hF 61 (by decide) (by decide)
      have f63 := hF 63 (by decide) (by decide)
      have f67 := hF 67 (by decide) (by decide)
      have n6 := hN x6 g21.1 g21.2
      -- the next arc
      have nx : ∀ (D2 : xD) (n2 : Int) (rk2 : Int → Nat) (x9 : Int), x4 < n2 → srI D D2 h tg n2 rk2 → (∀ u, viA D' u ≠ -1 → viA D2 u ≠ -1) → (∀ i, 0 ≤ i → i ≤ x4 → D2 66 i = D' 66 i) → (okA D h tg x6 → viA D2 (D 60 x6) ≠ -1) → WP 124 xF1 none 38 193 [some (.inr (.inr (some 57))), some (.inl h), some (.inl tg), some (.inl n2), some (.inl x4), some (.inl x5), some (.inl x6), some (.inl x7), some (.inl (D 60 x6)), some (.inl x9)] [] D2 Q := by
        intro D2 n2 rk2 x9 k1 k2 k3 k4 k5
        have f59 := k2.1 59 (by decide) (by decide)
        rw [seg38_193 (ha0 := ho57)]
        simp only [Nat.reduceAdd]
        rw [cnB (by omega), cnX (by omega), f59]
        have j2 := hJ.2.1 x6 g21.1 g21.2
        refine ih (D 59 x6) (x7 + 1) n2 D2 _ _ rk2 (by omega) ?_ (by omega) k1 k2 (fun e q1 q2 q3 q4 => ?_) (by rw [k4 x4 h4 (Int.le_refl _)]; exact g7) (fun e q1 q2 q3 q4 => ?_)
        · rcases j2 with z | ⟨z1, z2⟩
          · exact .inl z
          · exact .inr ⟨by omega, by rw [← g22]; exact z2⟩
        · obtain ⟨i, i1, i2⟩ := q3
          exact k3 _ (g6 e q1 q2 ⟨i, i1, by rw [← k4 i i1.1 (by omega)]; exact i2⟩ q4)
        · by_cases c1 : x6 < e
          · exact k3 _ (g8 e q1 q2 ⟨q3.1, c1⟩ q4)
          · by_cases c2 : e = x6
            · rw [c2] at q4 ⊢; exact k5 q4
            · have := hJ.2.2.2 x6 e q1 (by omega) g21.2 (by show D 60 (prI e) = D 60 (prI x6); rw [g22]; exact q3.1)
              omega
      -- the middle
      have md : ∀ s0 o9, (s0 = if tg = 0 ∨ D 67 (D 60 (prI x6)) + D 63 x6 = D 67 (D 60 x6) then 1 else 0) → WP 124 xF1 none 38 120 [some (.inr (.inr (some 57))), some (.inl h), some (.inl tg), some (.inl n), some (.inl x4), some (.inl x5), some (.inl x6), some (.inl x7), some (.inl (D 60 x6)), o9] [.inl s0] D' Q := by
        intro s0 o9 hs
        have sk := fun ho : okA D h tg x6 → viA D' (D 60 x6) ≠ -1 => nx D' n rk s0 g4 g5 (fun _ z => z) (fun _ _ _ => rfl) ho
        rw [seg38_120 (ha0 := ho57)]
        simp only [Nat.reduceAdd]
        rw [cnB (by omega), f61]
        by_cases c1 : D 61 x6 ≤ 0
        · rw [brT c1]
          exact sk (fun z => absurd z.1 (by omega))
        · rw [brF c1, cnB (by omega)]
          by_cases c2 : D' 65 (D 60 x6) ≠ -1
          · rw [brT c2]
            exact sk (fun _ => by rw [vi_in n6]; exact c2)
          · rw [brF c2, brF (show ¬ 120 ≤ n by omega)]
            have c2' : viA D' (D 60 x6) = -1 := by rw [vi_in n6]; omega
            by_cases c3 : tg = 0 ∨ D 67 (D 60 (prI x6)) + D 63 x6 = D 67 (D 60 x6)
            · rw [if_pos c3] at hs
              rw [brF (show ¬ s0 = 0 by omega), m37 n6.1]
              simp only [Option.toList_some, Option.toList_none, List.cons_append, List.nil_append]
              by_cases c4 : alH h (D 60 x6) = true
              · rw [if_pos c4, seg38_161 (ha0 := ho57)]
                simp only [Nat.reduceAdd]
                rw [brF (by decide), cnB (by omega)]
                have hk : okA D h tg x6 := ⟨by omega, c4, c3⟩
                have hx := (hQ.2.2.1 x4 h4 g4)
                rw [g7] at hx
                by_cases c5 : D 60 x6 ≠ 119
                · have n118 : D 60 x6 < 119 := by omega
                  rw [brT c5, cnB (by omega), cnX (by omega)]
                  have hV : ∀ u, viA (xup (xup D' 65 (D 60 x6) x6) 66 n (D 60 x6)) u = if u = D 60 x6 then x6 else viA D' u := fun u => by
                    unfold viA
                    rw [up_ne (by decide), up_at]
                    by_cases q : u = D 60 x6
                    · rw [if_pos q, if_pos q, if_pos (by omega)]
                    · rw [if_neg q, if_neg q]
                  have hU : ∀ i, xup (xup D' 65 (D 60 x6) x6) 66 n (D 60 x6) 66 i = if i = n then D 60 x6 else D' 66 i := fun i => by rw [up_at, up_ne (by decide)]
                  have n0 : 0 ≤ n := by omega
                  refine nx _ (n + 1) (fun u => if u = D 60 x6 then n.toNat else rk u) s0 (by omega) ⟨fun a a1 a2 => by rw [up_ne a2, up_ne a1]; exact hF a a1 a2, ?_, sq_add hQ n0 c2' ⟨n6.1, n118⟩ g21.1 hV hU⟩ (fun u hu => ?_) (fun i i1 i2 => by rw [hU, if_neg (by omega)]) (fun _ => ?_)
                  · refine st_add hT c2' g21 rfl ?_ hk ?_ hV
                    · rw [g22]; exact hx.2.1
                    · rw [g22]; have := hx.2.2; omega
                  · rw [hV]
                    by_cases q : u = D 60 x6
                    · rw [if_pos q]; omega
                    · rw [if_neg q]; exact hu
                  · rw [hV, if_pos rfl]; omega
                · rw [brF c5]
                  have e119 : D 60 x6 = 119 := by omega
                  have hV : ∀ u, viA (xup D' 65 (D 60 x6) x6) u = if u = D 60 x6 then x6 else viA D' u := fun u => by
                    unfold viA
                    rw [up_at]
                    by_cases q : u = D 60 x6
                    · rw [if_pos q, if_pos q, if_pos (by omega)]
                    · rw [if_neg q, if_neg q]
                  refine hq _ 1 ⟨fun a a1 a2 => by rw [up_ne a1]; exact hF a a1 a2, (fun u => if u = D 60 x6 then n.toNat else rk u), st_add hT c2' g21 rfl (by rw [g22]; exact hx.2.1) hk (by rw [g22]; have := hx.2.2; omega) hV, .inl ⟨rfl, ?_, ?_⟩⟩
                  · rw [hV, if_pos e119.symm]; omega
                  · show (if (119 : Int) = D 60 x6 then n.toNat else rk 119) ≤ 119
                    rw [if_pos e119.symm]; omega
              · rw [if_neg c4, seg38_161 (ha0 := ho57)]
                rw [brT (by decide)]
                exact sk (fun z => absurd z.2.1 c4)
            · rw [if_neg c3] at hs
              rw [brT hs]
              exact sk (fun z => absurd z.2.2 c3)
      rw [seg38_63 (ha0 := ho57)]
      simp only [Nat.reduceAdd]
      rw [brF (show ¬ 1016 ≤ x7 by omega), brF e6, cnB (by omega), f60, f63, f67]
      by_cases c0 : tg = 0
      · rw [brT c0, seg38_115 (ha0 := ho57)]
        exact md 1 _ (by rw [if_pos (.inl c0)])
      · obtain ⟨b1, b2, b3⟩ := htg.resolve_left c0
        have b2' := b2 x5 h5.1 h5.2
        have b3' := b3 x6 g21.1 g21.2
        rw [brF c0, cnB (by omega), cnB (by omega), cnX (by omega), cnB (by omega)]
        by_cases c1 : D 67 x5 + D 63 x6 = D 67 (D 60 x6)
        · rw [brF (by omega), seg38_115 (ha0 := ho57)]
          exact md 1 _ (by rw [g22, if_pos (.inr c1)])
        · rw [brT (by omega)]
          exact md 0 _ (by rw [g22, if_neg (by omega)])
end M76
