/-! the way told, judged: the class's minutes -/
/-- places, streets and tables as they stand while streets bring people -/
def jcB (A T : Int → Int) (k : Int) (J : jgT) (s : Nat) (D' D : xD) : Prop :=
  (∀ a, a ≠ 76 → a ≠ 77 → a ≠ 78 → a ≠ 79 → D' a = D a) ∧
  ∀ q, 0 ≤ q → q < 8 → D' 76 q = J.1 q + smI (fun s => if toM T s = q ∧ 0 ≤ k - T (30 + 7 * s + 2) - 0 then A (220 + 13 * s + (k - T (30 + 7 * s + 2) - 0)) else 0) 0 s ∧
    D' 77 q = J.2.1 q + smI (fun s => if toM T s = q ∧ 0 ≤ k - T (30 + 7 * s + 2) - 1 then A (430 + 13 * s + (k - T (30 + 7 * s + 2) - 1)) else 0) 0 s ∧
    D' 78 q = smI (fun s => if frM T s = q then A (220 + 13 * s + k) else 0) 0 s ∧
    D' 79 q = smI (fun s => if frM T s = q then A (430 + 13 * s + k) else 0) 0 s
section M65
variable {x1 x2 x3 s t p q k n M : Int} {D D' D1 D2 : xD} {A T b : Int → Int} {J : jgT} {Q : Option xv → xD → Prop}
theorem l19 (hT : tnW T) (hA : jgW A T) (H : tnC D T) (hc : jcA D A) (hk : 0 ≤ x2 ∧ x2 ≤ 12) (h0 : D 73 0 = 0) : ∀ (r : Nat) (s : Int) (o4 o5 o6 : Option xv), T 0 = s + r → 0 ≤ s →
    (fsI (fun s => (0 < A (220 + 13 * s + x2) + A (430 + 13 * s + x2) ∧ ¬ (T (30 + 7 * s + 4) ≤ x2 ∧ x2 ≤ T (30 + 7 * s + 5))) ∨ T (30 + 7 * s + 3) < A (220 + 13 * s + x2) + 2 * A (430 + 13 * s + x2)) s r = -1 → Q none D) →
    (∀ v : Int, v = fsI (fun s => (0 < A (220 + 13 * s + x2) + A (430 + 13 * s + x2) ∧ ¬ (T (30 + 7 * s + 4) ≤ x2 ∧ x2 ≤ T (30 + 7 * s + 5))) ∨ T (30 + 7 * s + 3) < A (220 + 13 * s + x2) + 2 * A (430 + 13 * s + x2)) s r → v ≠ -1 → Q none (xup (xup (xup D 73 0 1) 73 1 x2) 73 2 v)) →
    WP 124 xF1 none 19 2 [some (.inr (.inr (some 73))), some (.inr (.inr (some 3))), some (.inl x2), some (.inl s), o4, o5, o6] [] D Q := by
  obtain ⟨⟨w0, w1, w2, w3⟩, ws, wd, -⟩ := id hT
  intro r
  induction r with
  | zero =>
    intro s o4 o5 o6 h1 h2 qn qy
    rw [seg19_2 (ha0 := ho73) (ha1 := ho3)]
    simp only [Nat.reduceAdd]
    rw [H.1.1, brT (c := T 0 ≤ s) (by omega), seg19_110 (ha0 := ho73) (ha1 := ho3)]
    exact qn rfl
  | succ r ih =>
    intro s o4 o5 o6 h1 h2 qn qy
    have b1 := hA s x2 h2 (by omega) hk.1 hk.2
    obtain ⟨-, -, v1, v2, v3, -⟩ := ws s h2 (by omega)
    obtain ⟨-, a3, a4, a5, a6⟩ := H.2.1 s h2 (by omega)
    obtain ⟨c1, c2⟩ := hc (s * 13 + x2) (by omega) (by omega)
    rw [show 220 + (s * 13 + x2) = 220 + 13 * s + x2 by omega] at c1
    rw [show 430 + (s * 13 + x2) = 430 + 13 * s + x2 by omega] at c2
    simp only [fsI] at qn qy
    rw [seg19_2 (ha0 := ho73) (ha1 := ho3)]
    simp only [Nat.reduceAdd]
    rw [H.1.1, brF (c := T 0 ≤ s) (by omega), h0, brF (by decide), c1, c2, cnX (by omega), cnX (by omega), cnB (by omega), cnX (by omega), cnX (by omega), cnB (by omega), cnX (by omega)]
    have bad : (0 < A (220 + 13 * s + x2) + A (430 + 13 * s + x2) ∧ ¬ (T (30 + 7 * s + 4) ≤ x2 ∧ x2 ≤ T (30 + 7 * s + 5))) ∨ T (30 + 7 * s + 3) < A (220 + 13 * s + x2) + 2 * A (430 + 13 * s + x2) → ∀ x6 : Int, WP 124 xF1 none 19 97 [some (.inr (.inr (some 73))), some (.inr (.inr (some 3))), some (.inl x2), some (.inl s), some (.inl (A (220 + 13 * s + x2))), some (.inl (A (430 + 13 * s + x2))), some (.inl x6)] [] D Q := by
      intro hb x6
      rw [if_pos hb] at qy
      rw [seg19_97 (ha0 := ho73) (ha1 := ho3), m18]
      simp only [Option.toList_some, Option.toList_none, List.cons_append, List.nil_append]
      rw [seg19_104 (ha0 := ho73) (ha1 := ho3), cnX (by omega), seg19_2 (ha0 := ho73) (ha1 := ho3)]
      simp only [Nat.reduceAdd]
      obtain ⟨z1, z2, z3⟩ := bar_3 (D := D) (x1 := 1) (x2 := x2) (x3 := s)
      rw [z1]
      have fin : WP 124 xF1 none 19 110 [some (.inr (.inr (some 73))), some (.inr (.inr (some 3))), some (.inl x2), some (.inl (s + 1)), some (.inl (A (220 + 13 * s + x2))), some (.inl (A (430 + 13 * s + x2))), some (.inl x6)] [] (xup (xup (xup D 73 0 1) 73 1 x2) 73 2 s) Q := by
        rw [seg19_110 (ha0 := ho73) (ha1 := ho3)]
        exact qy s rfl (by omega)
      by_cases e : (xup (xup (xup D 73 0 1) 73 1 x2) 73 2 s) 4 11 ≤ s + 1
      · rw [brT e]; exact fin
      · rw [brF e, brT (by decide)]; exact fin
    have good : ¬ ((0 < A (220 + 13 * s + x2) + A (430 + 13 * s + x2) ∧ ¬ (T (30 + 7 * s + 4) ≤ x2 ∧ x2 ≤ T (30 + 7 * s + 5))) ∨ T (30 + 7 * s + 3) < A (220 + 13 * s + x2) + 2 * A (430 + 13 * s + x2)) → ∀ x6 : Int, WP 124 xF1 none 19 104 [some (.inr (.inr (some 73))), some (.inr (.inr (some 3))), some (.inl x2), some (.inl s), some (.inl (A (220 + 13 * s + x2))), some (.inl (A (430 + 13 * s + x2))), some (.inl x6)] [] D Q := by
      intro hb x6
      rw [if_neg hb] at qn qy
      rw [seg19_104 (ha0 := ho73) (ha1 := ho3), cnX (by omega)]
      exact ih (s + 1) _ _ _ (by omega) (by omega) qn qy
    have wide : (¬ (0 < A (220 + 13 * s + x2) + A (430 + 13 * s + x2) ∧ ¬ (T (30 + 7 * s + 4) ≤ x2 ∧ x2 ≤ T (30 + 7 * s + 5)))) → WP 124 xF1 none 19 70 [some (.inr (.inr (some 73))), some (.inr (.inr (some 3))), some (.inl x2), some (.inl s), some (.inl (A (220 + 13 * s + x2))), some (.inl (A (430 + 13 * s + x2))), o6] [] D Q := by
      intro hw
      rw [seg19_70 (ha0 := ho73) (ha1 := ho3), seg19_71 (ha0 := ho73) (ha1 := ho3), brF (by decide), cnX (by omega), cnX (by omega), cnB (by omega)]
      simp only [Nat.reduceAdd]
      rw [a4]
      by_cases e : A (220 + 13 * s + x2) + 2 * A (430 + 13 * s + x2) ≤ T (30 + 7 * s + 3)
      · rw [brT e]; exact good (fun z => z.elim hw (fun y => by omega)) 0
      · rw [brF e]; exact bad (.inr (by omega)) 0
    by_cases e1 : A (220 + 13 * s + x2) + A (430 + 13 * s + x2) ≤ 0
    · rw [brT e1]; exact wide (fun z => by omega)
    · rw [brF e1, m97 (by omega), a5, a6]
      simp only [Option.toList_some, Option.toList_none, List.cons_append, List.nil_append]
      rw [seg19_63 (ha0 := ho73) (ha1 := ho3)]
      by_cases e2 : T (30 + 7 * s + 4) ≤ x2 ∧ x2 ≤ T (30 + 7 * s + 5)
      · rw [if_pos e2, brT (by decide)]; exact wide (fun z => z.2 e2)
      · rw [if_neg e2, brF (by decide), seg19_71 (ha0 := ho73) (ha1 := ho3), brT (by decide)]
        exact bad (.inl ⟨by omega, e2⟩) 1
theorem l20 (hT : tnW T) (hA : jgW A T) (H : tnC D T) (hc : jcA D A) (hk : 0 ≤ k ∧ k ≤ 12) (hJ : jgB T 90000 J) : ∀ (r s : Nat) (D' : xD) (o4 o5 o6 : Option xv), T 0 = s + r → jcB A T k J s D' D →
    (∀ D'' : xD, jcB A T k J (T 0).toNat D'' D → Q none D'') →
    WP 124 xF1 none 20 18 [some (.inr (.inr (some 73))), some (.inr (.inr (some 3))), some (.inl k), some (.inl s), o4, o5, o6] [] D' Q := by
  obtain ⟨⟨w0, w1, w2, w3⟩, ws, wd, -⟩ := id hT
  intro r
  induction r with
  | zero =>
    intro s D' o4 o5 o6 h1 hB hq
    have H' : tnC D' T := tnC_fr (fun a a1 a2 => hB.1 a (by omega) (by omega) (by omega) (by omega)) H
    rw [seg20_18 (ha0 := ho73) (ha1 := ho3)]
    simp only [Nat.reduceAdd]
    rw [H'.1.1, brT (c := T 0 ≤ (s : Int)) (by omega)]
    rw [show (T 0).toNat = s by omega] at hq
    exact hq D' hB
  | succ r ih =>
    intro s D' o4 o5 o6 h1 hB hq
    have H' : tnC D' T := tnC_fr (fun a a1 a2 => hB.1 a (by omega) (by omega) (by omega) (by omega)) H
    have e20 : D' 20 = D 20 := hB.1 20 (by decide) (by decide) (by decide) (by decide)
    have e21 : D' 21 = D 21 := hB.1 21 (by decide) (by decide) (by decide) (by decide)
    obtain ⟨v1, v2, v3, v4, v5, -⟩ := ws s (by omega) (by omega)
    obtain ⟨⟨a1, a2⟩, a3, a4, a5, a6⟩ := H'.2.1 s (by omega) (by omega)
    have b1 := hA s k (by omega) (by omega) hk.1 hk.2
    obtain ⟨c1, c2⟩ := hc (s * 13 + k) (by omega) (by omega)
    rw [show 220 + ((s : Int) * 13 + k) = 220 + 13 * s + k by omega] at c1
    rw [show 430 + ((s : Int) * 13 + k) = 430 + 13 * s + k by omega] at c2
    have sb1 : ∀ q, 0 ≤ smI (fun s => if frM T s = q then A (220 + 13 * s + k) else 0) 0 s ∧ smI (fun s => if frM T s = q then A (220 + 13 * s + k) else 0) 0 s ≤ 480 := fun q => by
      have := smI_bd (f := fun s => if frM T s = q then A (220 + 13 * s + k) else 0) (B := 30) s 0 (fun j j1 j2 => by have := hA j k j1 (by omega) hk.1 hk.2; split <;> omega)
      omega
    have sb2 : ∀ q, 0 ≤ smI (fun s => if frM T s = q then A (430 + 13 * s + k) else 0) 0 s ∧ smI (fun s => if frM T s = q then A (430 + 13 * s + k) else 0) 0 s ≤ 480 := fun q => by
      have := smI_bd (f := fun s => if frM T s = q then A (430 + 13 * s + k) else 0) (B := 30) s 0 (fun j j1 j2 => by have := hA j k j1 (by omega) hk.1 hk.2; split <;> omega)
      omega
    have sb3 : ∀ q told lag, (told = 220 ∨ told = 430) → (lag = 0 ∨ lag = 1) → 0 ≤ smI (fun s => if toM T s = q ∧ 0 ≤ k - T (30 + 7 * s + 2) - lag then A (told + 13 * s + (k - T (30 + 7 * s + 2) - lag)) else 0) 0 s ∧ smI (fun s => if toM T s = q ∧ 0 ≤ k - T (30 + 7 * s + 2) - lag then A (told + 13 * s + (k - T (30 + 7 * s + 2) - lag)) else 0) 0 s ≤ 480 := fun q told lag ht hl => by
      have := smI_bd (f := fun s => if toM T s = q ∧ 0 ≤ k - T (30 + 7 * s + 2) - lag then A (told + 13 * s + (k - T (30 + 7 * s + 2) - lag)) else 0) (B := 30) s 0 (fun j j1 j2 => by
        have l := (ws j j1 (by omega)).2.2.1
        by_cases c : toM T j = q ∧ 0 ≤ k - T (30 + 7 * j + 2) - lag
        · rw [if_pos c]
          have := hA j (k - T (30 + 7 * j + 2) - lag) j1 (by omega) (by omega) (by omega)
          rcases ht with e | e <;> rw [e] <;> omega
        · rw [if_neg c]; omega)
      omega
    obtain ⟨-, -, q3, q4⟩ := hB.2 (frM T s) v1.1 (by omega)
    obtain ⟨p1, p2, -, -⟩ := hB.2 (toM T s) v2.1 (by omega)
    have jb := hJ.1 (toM T s) v2.1 (by omega)
    have sq1 := sb1 (frM T s)
    have sq2 := sb2 (frM T s)
    have sp1 := sb3 (toM T s) 220 0 (.inl rfl) (.inl rfl)
    have sp2 := sb3 (toM T s) 430 1 (.inr rfl) (.inr rfl)
    rw [seg20_18 (ha0 := ho73) (ha1 := ho3)]
    simp only [Nat.reduceAdd]
    rw [H'.1.1, brF (c := T 0 ≤ (s : Int)) (by omega), n78 (by omega), a1]
    simp only [Option.toList_some, Option.toList_none, List.cons_append, List.nil_append]
    rw [seg20_34 (ha0 := ho73) (ha1 := ho3), n79 (by omega), a2]
    simp only [Option.toList_some, Option.toList_none, List.cons_append, List.nil_append]
    rw [seg20_41 (ha0 := ho73) (ha1 := ho3)]
    simp only [Nat.reduceAdd]
    rw [up_ne (a := 78) (b := 21) (by decide), up_ne (a := 79) (b := 20) (by decide), up_ne (a := 78) (b := 20) (by decide)]
    have e76 : ∀ u v : Int, (xup (xup D' 78 (frM T s) u) 79 (frM T s) v) 76 = D' 76 := fun u v => by rw [up_ne (by decide), up_ne (by decide)]
    rw [a3, e20, e21, c1, c2]
    rw [cnB (by omega), cnX (by omega), cnB (by omega), cnX (by omega), cnX (by omega), cnB (by omega), cnX (by omega), cnB (by omega), cnB (by omega), cnX (by omega), cnX (by omega), cnB (by omega), cnX (by omega), cnB (by omega)]
    obtain ⟨D1, hD1⟩ : ∃ D1, D1 = xup (xup D' 78 (frM T s) (D' 78 (frM T s) + A (220 + 13 * s + k))) 79 (frM T s) (D' 79 (frM T s) + A (430 + 13 * s + k)) := ⟨_, rfl⟩
    rw [← hD1]
    have g0 : ∀ a, a ≠ 78 → a ≠ 79 → D1 a = D' a := fun a a1 a2 => by rw [hD1, up_ne a2, up_ne a1]
    have g78 : ∀ q, D1 78 q = if q = frM T s then D' 78 (frM T s) + A (220 + 13 * s + k) else D' 78 q := fun q => by rw [hD1, up_ne (by decide), up_at]
    have g79 : ∀ q, D1 79 q = if q = frM T s then D' 79 (frM T s) + A (430 + 13 * s + k) else D' 79 q := fun q => by rw [hD1, up_at, up_ne (by decide)]
    clear hD1 e76
    have em : (s : Int) + 1 = ((s + 1 : Nat) : Int) := by omega
    have fin : ∀ D3 : xD, (∀ a, a ≠ 76 → a ≠ 77 → D3 a = D1 a) → (∀ q, 0 ≤ q → q < 8 → D3 76 q = D' 76 q + (if toM T s = q ∧ 0 ≤ k - T (30 + 7 * s + 2) - 0 then A (220 + 13 * s + (k - T (30 + 7 * s + 2) - 0)) else 0)) → (∀ q, 0 ≤ q → q < 8 → D3 77 q = D' 77 q + (if toM T s = q ∧ 0 ≤ k - T (30 + 7 * s + 2) - 1 then A (430 + 13 * s + (k - T (30 + 7 * s + 2) - 1)) else 0)) → WP 124 xF1 none 20 155 [some (.inr (.inr (some 73))), some (.inr (.inr (some 3))), some (.inl k), some (.inl s), some (.inl (frM T s)), some (.inl (toM T s)), some (.inl (k - T (30 + 7 * s + 2)))] [] D3 Q := by
      intro D3 f0 f1 f2
      rw [seg20_155 (ha0 := ho73) (ha1 := ho3), cnX (by omega), em]
      refine ih (s + 1) D3 _ _ _ (by omega) ⟨fun a a1 a2 a3 a4 => by rw [f0 a a1 a2, g0 a a3 a4]; exact hB.1 a a1 a2 a3 a4, fun q q1 q2 => ?_⟩ hq
      obtain ⟨y1, y2, y3, y4⟩ := hB.2 q q1 q2
      refine ⟨?_, ?_, ?_, ?_⟩
      · rw [f1 q q1 q2, y1, smI_last, Int.zero_add]; omega
      · rw [f2 q q1 q2, y2, smI_last, Int.zero_add]; omega
      · rw [f0 78 (by decide) (by decide), g78, smI_last, Int.zero_add]
        by_cases e : q = frM T s
        · rw [if_pos e, if_pos e.symm, ← e, y3]
        · rw [if_neg e, if_neg (fun z => e z.symm), y3, Int.add_zero]
      · rw [f0 79 (by decide) (by decide), g79, smI_last, Int.zero_add]
        by_cases e : q = frM T s
        · rw [if_pos e, if_pos e.symm, ← e, y4]
        · rw [if_neg e, if_neg (fun z => e z.symm), y4, Int.add_zero]
    -- the slow ones
    have slowly : ∀ D2 : xD, (∀ a, a ≠ 76 → D2 a = D1 a) → (∀ q, 0 ≤ q → q < 8 → D2 76 q = D' 76 q + (if toM T s = q ∧ 0 ≤ k - T (30 + 7 * s + 2) - 0 then A (220 + 13 * s + (k - T (30 + 7 * s + 2) - 0)) else 0)) → WP 124 xF1 none 20 125 [some (.inr (.inr (some 73))), some (.inr (.inr (some 3))), some (.inl k), some (.inl s), some (.inl (frM T s)), some (.inl (toM T s)), some (.inl (k - T (30 + 7 * s + 2)))] [] D2 Q := by
      intro D2 f0 f1
      have e77 : D2 77 = D' 77 := by rw [f0 77 (by decide), g0 77 (by decide) (by decide)]
      rw [seg20_125 (ha0 := ho73) (ha1 := ho3)]
      by_cases e : k - T (30 + 7 * s + 2) < 1
      · rw [brT e]
        exact fin D2 (fun a a1 a2 => f0 a a1) f1 (fun q q1 q2 => by rw [e77, if_neg (by omega), Int.add_zero])
      · have b2 := hA s (k - T (30 + 7 * s + 2) - 1) (by omega) (by omega) (by omega) (by omega)
        obtain ⟨-, c4⟩ := hc ((s : Int) * 13 + (k - T (30 + 7 * s + 2)) - 1) (by omega) (by omega)
        rw [show 430 + ((s : Int) * 13 + (k - T (30 + 7 * s + 2)) - 1) = 430 + 13 * s + (k - T (30 + 7 * s + 2) - 1) by omega] at c4
        rw [brF e]
        simp only [Nat.reduceAdd]
        rw [f0 21 (by decide), g0 21 (by decide) (by decide), e21, e77, c4, p2]
        rw [cnB (by omega), cnX (by omega), cnX (by omega), cnX (by omega), cnB (by omega), cnX (by omega), cnB (by omega)]
        refine fin _ (fun a a1 a2 => by rw [up_ne a2]; exact f0 a a1) (fun q q1 q2 => by rw [up_ne (by decide)]; exact f1 q q1 q2) (fun q q1 q2 => ?_)
        rw [up_at, e77]
        by_cases e2 : q = toM T s
        · rw [if_pos e2, if_pos ⟨e2.symm, by omega⟩, e2, p2]
        · rw [if_neg e2, if_neg (fun z => e2 z.1.symm), Int.add_zero]
    by_cases e : k - T (30 + 7 * s + 2) < 0
    · rw [brT e]
      exact slowly D1 (fun _ _ => rfl) (fun q q1 q2 => by rw [g0 76 (by decide) (by decide), if_neg (by omega), Int.add_zero])
    · have b2 := hA s (k - T (30 + 7 * s + 2)) (by omega) (by omega) (by omega) (by omega)
      obtain ⟨c3, -⟩ := hc ((s : Int) * 13 + (k - T (30 + 7 * s + 2))) (by omega) (by omega)
      rw [show 220 + ((s : Int) * 13 + (k - T (30 + 7 * s + 2))) = 220 + 13 * s + (k - T (30 + 7 * s + 2) - 0) by omega] at c3
      rw [brF e, c3, p1]
      rw [cnB (by omega), cnX (by omega), cnX (by omega), cnB (by omega), cnX (by rw [Int.sub_zero]; omega), cnB (by omega)]
      refine slowly _ (fun a a1 => by rw [up_ne a1]) (fun q q1 q2 => ?_)
      rw [up_at, g0 76 (by decide) (by decide)]
      by_cases e2 : q = toM T s
      · rw [if_pos e2, if_pos ⟨e2.symm, by omega⟩, e2, p1]
      · rw [if_neg e2, if_neg (fun z => e2 z.1.symm), Int.add_zero]
theorem m20 (hT : tnW T) (hA : jgW A T) (H : tnC D T) (hc : jcA D A) (hk : 0 ≤ k ∧ k ≤ 12) (hJ : jgB T 90000 J) (h76 : ∀ q, 0 ≤ q → q < 8 → D 76 q = J.1 q ∧ D 77 q = J.2.1 q) (hq : ∀ D'' : xD, jcB A T k J (T 0).toNat D'' D → Q none D'') :
    WP 124 xF1 none 20 0 [some (.inr (.inr (some 73))), some (.inr (.inr (some 3))), some (.inl k), none, none, none, none] [] D Q := by
  rw [seg20_0 (ha0 := ho73) (ha1 := ho3), m240 (a := 73 + 5) (L := 8) rfl (by decide)]
  simp only [Option.toList_some, Option.toList_none, List.cons_append, List.nil_append, Nat.reduceAdd]
  rw [seg20_8 (ha0 := ho73) (ha1 := ho3), m240 (a := 73 + 6) (L := 8) rfl (by decide)]
  simp only [Option.toList_some, Option.toList_none, List.cons_append, List.nil_append, Nat.reduceAdd]
  rw [seg20_16 (ha0 := ho73) (ha1 := ho3)]
  have l := l20 (Q := Q) (J := J) hT hA H hc hk hJ (T 0).toNat 0 (xfil (xfil D 78 0 (8 : Nat) 0) 79 0 (8 : Nat) 0) none none none (by have := hT.1; omega) ⟨fun a a1 a2 a3 a4 => by rw [fil_ne a4, fil_ne a3], fun q q1 q2 => ⟨?_, ?_, ?_, ?_⟩⟩ hq
  · exact l
  · rw [fil_ne (by decide), fil_ne (by decide), (h76 q q1 q2).1]; simp [smI]
  · rw [fil_ne (by decide), fil_ne (by decide), (h76 q q1 q2).2]; simp [smI]
  · rw [fil_ne (by decide), fil_in (by omega)]; rfl
  · rw [fil_in (by omega)]; rfl
/-- people, takes and doors ahead of a minute -/
def jcK (T : Int → Int) (J : jgT) (D' : xD) : Prop := (∀ q, 0 ≤ q → q < 8 → D' 76 q = J.1 q ∧ D' 77 q = J.2.1 q ∧ D' 80 q = J.2.2.1 q) ∧ (∀ d, 0 ≤ d → d < T 1 → D' 81 d = J.2.2.2.1 d) ∧ D' 73 3 = J.2.2.2.2.1 ∧ D' 73 4 = J.2.2.2.2.2
def jcO (A T : Int → Int) (k : Nat) (D' : xD) : Prop := ∀ j : Nat, j < k → D' 74 j = (jgN A T (j + 1)).2.2.2.2.1 ∧ D' 75 j = (jgN A T (j + 1)).2.2.2.2.2
def jcG (D' D : xD) : Prop := ∀ a, (a < 73 ∨ 81 < a) → D' a = D a
theorem l17p (hT : tnW T) (hA : jgW A T) (H : tnC D T) (hk : 0 ≤ k ∧ k ≤ 12) : ∀ (n : Nat) (p M : Int) (J : jgT) (D' : xD), 8 = p + n → 0 ≤ p → M + 580 * n ≤ 90000 → jgB T M J → jcF D' D → jcI A T k J p D' → D' 73 0 = 0 → D' 73 1 = -1 → D' 73 2 = -1 →
    ((jgP A T k n p J).1.1 = 0 → ∀ (D'' : xD) (u3 : Int), jcF D'' D → jcI A T k (jgP A T k n p J).2 8 D'' → D'' 73 0 = 0 → D'' 73 1 = -1 → D'' 73 2 = -1 → WP 124 xF1 none 17 135 [some (.inr (.inr (some 73))), some (.inr (.inr (some 3))), some (.inl k), some (.inl u3)] [] D'' Q) →
    ((jgP A T k n p J).1.1 ≠ 0 → ∀ (D'' : xD) (u3 : Int), jcF D'' D → D'' 73 0 = (jgP A T k n p J).1.1 → D'' 73 1 = k → D'' 73 2 = (jgP A T k n p J).1.2 → WP 124 xF1 none 17 135 [some (.inr (.inr (some 73))), some (.inr (.inr (some 3))), some (.inl k), some (.inl u3)] [] D'' Q) →
    WP 124 xF1 none 17 106 [some (.inr (.inr (some 73))), some (.inr (.inr (some 3))), some (.inl k), some (.inl p)] [] D' Q := by
  intro n
  induction n with
  | zero =>
    intro p M J D' h1 h2 hM hJ hF hI z0 z1 z2 q0 q1
    rw [seg17_106 (ha0 := ho73) (ha1 := ho3), brT (c := 8 ≤ p) (by omega)]
    have e : p = 8 := by omega
    rw [e] at hI
    exact q0 rfl D' _ hF hI z0 z1 z2
  | succ n ih =>
    intro p M J D' h1 h2 hM hJ hF hI z0 z1 z2 q0 q1
    have H' : tnC D' T := tnC_fr (fun a a1 a2 => hF a (by omega)) H
    simp only [jgP] at q0 q1
    rw [seg17_106 (ha0 := ho73) (ha1 := ho3), brF (c := 8 ≤ p) (by omega), z0, brF (by decide)]
    simp only [Nat.reduceAdd]
    refine m21 (M := M) hT hA H' hk ⟨h2, by omega⟩ (by omega) hJ hI (fun hR D1 f1 f2 f3 => ?_) (fun hR D1 f1 f2 f3 f4 => ?_)
    · rw [if_pos hR] at q0 q1
      simp only [Option.toList_some, Option.toList_none, List.cons_append, List.nil_append]
      rw [seg17_129 (ha0 := ho73) (ha1 := ho3), cnX (by omega)]
      exact ih (p + 1) (M + 580) _ D1 (by omega) (by omega) (by omega) (jgJ_bd (p := p) hT hA hk ⟨h2, by omega⟩ hJ).2 (fun a ha => by rw [f1 a ha]; exact hF a ha) f3 (by rw [f2 0 (by decide) (by decide)]; exact z0) (by rw [f2 1 (by decide) (by decide)]; exact z1) (by rw [f2 2 (by decide) (by decide)]; exact z2) q0 q1
    · rw [if_neg hR] at q1
      simp only [Option.toList_some, Option.toList_none, List.cons_append, List.nil_append]
      rw [seg17_129 (ha0 := ho73) (ha1 := ho3), cnX (by omega), seg17_106 (ha0 := ho73) (ha1 := ho3)]
      have fin := q1 hR D1 (p + 1) (fun a ha => by rw [f1 a ha]; exact hF a ha) f2 f3 f4
      by_cases c : 8 ≤ p + 1
      · rw [brT c]; exact fin
      · rw [brF c, brT (c := D1 73 0 ≠ 0) (by rw [f2]; exact hR)]; exact fin
theorem l17 (hT : tnW T) (hA : jgW A T) (H : tnC D T) (hc : jcA D A) : ∀ (n k : Nat) (D' : xD) (o3 : Option xv), 13 = k + n → jcG D' D → jcK T (jgN A T k) D' → jcO A T k D' → D' 73 0 = 0 → D' 73 1 = -1 → D' 73 2 = -1 →
    (∀ D'' : xD, jcG D'' D → D'' 73 0 = (jgM A T n k).1 → D'' 73 1 = (jgM A T n k).2.1 → D'' 73 2 = (jgM A T n k).2.2 → ((jgM A T n k).1 = 0 → jcO A T 13 D'') → Q none D'') →
    WP 124 xF1 none 17 79 [some (.inr (.inr (some 73))), some (.inr (.inr (some 3))), some (.inl k), o3] [] D' Q := by
  intro n
  induction n with
  | zero =>
    intro k D' o3 h1 hF hK hO z0 z1 z2 hq
    rw [seg17_79 (ha0 := ho73) (ha1 := ho3), brT (c := (13 : Int) ≤ (k : Int)) (by omega), seg17_161 (ha0 := ho73) (ha1 := ho3)]
    have e : k = 13 := by omega
    rw [e] at hO
    exact hq D' hF z0 z1 z2 (fun _ => hO)
  | succ n ih =>
    intro k D' o3 h1 hF hK hO z0 z1 z2 hq
    have H' : tnC D' T := tnC_fr (fun a a1 a2 => hF a (by omega)) H
    have hc' : jcA D' A := by unfold jcA; rw [hF 20 (by decide), hF 21 (by decide)]; exact hc
    have hJ := jgN_bd hT hA k (by omega)
    have hJ' : jgB T 90000 (jgN A T k) := jgB_mono hJ (by omega)
    obtain ⟨k1, k2, k3, k4⟩ := hK
    simp only [jgM] at hq
    -- what follows behind a bar
    have stop : ∀ (D2 : xD) (u3 : Int) (b m a : Int), b ≠ 0 → jcG D2 D → D2 73 0 = b → D2 73 1 = m → D2 73 2 = a → (∀ D'' : xD, jcG D'' D → D'' 73 0 = b → D'' 73 1 = m → D'' 73 2 = a → Q none D'') → WP 124 xF1 none 17 135 [some (.inr (.inr (some 73))), some (.inr (.inr (some 3))), some (.inl (k : Int)), some (.inl u3)] [] D2 Q := by
      intro D2 u3 b m a hb f0 e0 e1 e2 hq2
      rw [seg17_135 (ha0 := ho73) (ha1 := ho3), cnB (by omega), cnB (by omega), cnX (by omega), seg17_79 (ha0 := ho73) (ha1 := ho3)]
      simp only [Nat.reduceAdd]
      have e73 : (xup (xup D2 74 k (D2 73 3)) 75 k (D2 73 4)) 73 = D2 73 := by rw [up_ne (by decide), up_ne (by decide)]
      have fin : ∀ o3 : Option xv, WP 124 xF1 none 17 161 [some (.inr (.inr (some 73))), some (.inr (.inr (some 3))), some (.inl ((k : Int) + 1)), o3] [] (xup (xup D2 74 k (D2 73 3)) 75 k (D2 73 4)) Q := fun o3 => by
        rw [seg17_161 (ha0 := ho73) (ha1 := ho3)]
        exact hq2 _ (fun a ha => by rw [up_ne (by omega), up_ne (by omega)]; exact f0 a ha) (by rw [e73]; exact e0) (by rw [e73]; exact e1) (by rw [e73]; exact e2)
      by_cases c : (13 : Int) ≤ (k : Int) + 1
      · rw [brT c]; exact fin _
      · rw [brF c, e73, e0, brT (c := b ≠ 0) hb]; exact fin _
    rw [seg17_79 (ha0 := ho73) (ha1 := ho3), brF (c := (13 : Int) ≤ (k : Int)) (by omega), z0, brF (by decide), seg19_0 (ha0 := ho73) (ha1 := ho3)]
    refine l19 (A := A) hT hA H' hc' (by omega) z0 (T 0).toNat 0 _ _ _ (by have := hT.1; omega) (by omega) (fun hn => ?_) (fun v hv hn => ?_)
    · have hn : jbS A T k = -1 := hn
      rw [if_pos hn] at hq
      simp only [Option.toList_some, Option.toList_none, List.cons_append, List.nil_append]
      rw [seg17_98 (ha0 := ho73) (ha1 := ho3)]
      refine m20 (J := jgN A T k) hT hA H' hc' (by omega) hJ' (fun q q1 q2 => ⟨(k1 q q1 q2).1, (k1 q q1 q2).2.1⟩) (fun D1 hB => ?_)
      simp only [Option.toList_some, Option.toList_none, List.cons_append, List.nil_append]
      rw [seg17_104 (ha0 := ho73) (ha1 := ho3)]
      have H1 : tnC D1 T := tnC_fr (fun a a1 a2 => hB.1 a (by omega) (by omega) (by omega) (by omega)) H'
      have e73 : D1 73 = D' 73 := hB.1 73 (by decide) (by decide) (by decide) (by decide)
      have F1 : jcG D1 D := fun a ha => by rw [hB.1 a (by omega) (by omega) (by omega) (by omega)]; exact hF a ha
      have I1 : jcI A T k (jgN A T k) 0 D1 := by
        refine ⟨fun q q1 q2 => ?_, fun d d1 d2 => by rw [hB.1 81 (by decide) (by decide) (by decide) (by decide)]; exact k2 d d1 d2, by rw [e73]; exact k3, by rw [e73]; exact k4⟩
        obtain ⟨y1, y2, y3, y4⟩ := hB.2 q q1 q2
        rw [if_neg (by omega), if_neg (by omega)]
        refine ⟨y1, y2, ?_, y3, y4⟩
        rw [hB.1 80 (by decide) (by decide) (by decide) (by decide)]; exact (k1 q q1 q2).2.2
      refine l17p (D := D1) hT hA H1 (by omega) 8 0 (4640 * k) (jgN A T k) D1 (by omega) (by omega) (by omega) hJ (fun _ _ => rfl) I1 (by rw [e73]; exact z0) (by rw [e73]; exact z1) (by rw [e73]; exact z2) (fun h0 D2 u3 f1 f2 e0 e1 e2 => ?_) (fun h0 D2 u3 f1 e0 e1 e2 => ?_)
      · rw [if_pos h0] at hq
        have F2 : jcG D2 D := fun a ha => by rw [f1 a (by omega)]; exact F1 a ha
        obtain ⟨j1, j2, j3, j4⟩ := f2
        have ek : (k : Int) + 1 = ((k + 1 : Nat) : Int) := by omega
        rw [seg17_135 (ha0 := ho73) (ha1 := ho3), cnB (by omega), cnB (by omega), cnX (by omega), ek]
        simp only [Nat.reduceAdd]
        refine ih (k + 1) _ _ (by omega) (fun a ha => by rw [up_ne (by omega), up_ne (by omega)]; exact F2 a ha) ⟨fun q q1 q2 => ?_, fun d d1 d2 => ?_, ?_, ?_⟩ (fun j hj => ?_) ?_ ?_ ?_ hq
        · obtain ⟨y1, y2, y3, -⟩ := j1 q q1 q2
          rw [if_pos (by omega), Int.add_zero] at y1 y2
          rw [up_ne (by decide), up_ne (by decide), up_ne (by decide), up_ne (by decide), up_ne (by decide), up_ne (by decide)]
          exact ⟨y1, y2, y3⟩
        · rw [up_ne (by decide), up_ne (by decide)]; exact j2 d d1 d2
        · rw [up_ne (by decide), up_ne (by decide)]; exact j3
        · rw [up_ne (by decide), up_ne (by decide)]; exact j4
        · rw [up_ne (a := 75) (b := 74) (by decide), up_at, up_at, up_ne (a := 74) (b := 75) (by decide)]
          by_cases e : j = k
          · rw [if_pos (by omega), if_pos (by omega), e]
            exact ⟨j3, j4⟩
          · rw [if_neg (by omega), if_neg (by omega)]
            have := hO j (by omega)
            rw [f1 74 (by decide), f1 75 (by decide), hB.1 74 (by decide) (by decide) (by decide) (by decide), hB.1 75 (by decide) (by decide) (by decide) (by decide)]
            exact this
        · rw [up_ne (by decide), up_ne (by decide)]; exact e0
        · rw [up_ne (by decide), up_ne (by decide)]; exact e1
        · rw [up_ne (by decide), up_ne (by decide)]; exact e2
      · rw [if_neg h0] at hq
        exact stop D2 u3 _ _ _ h0 (fun a ha => by rw [f1 a (by omega)]; exact F1 a ha) e0 e1 e2 (fun D'' g0 g1 g2 g3 => hq D'' g0 g1 g2 g3 (fun z => absurd z h0))
    · have hn : jbS A T k ≠ -1 := by rw [hv] at hn; exact hn
      have hv : v = jbS A T k := hv
      rw [if_neg hn] at hq
      simp only [Option.toList_some, Option.toList_none, List.cons_append, List.nil_append]
      obtain ⟨y0, y1, y2⟩ := bar_3 (D := D') (x1 := 1) (x2 := (k : Int)) (x3 := v)
      obtain ⟨D1, hD1⟩ : ∃ D1, D1 = xup (xup (xup D' 73 0 1) 73 1 k) 73 2 v := ⟨_, rfl⟩
      rw [← hD1] at y0 y1 y2 ⊢
      have g0 : ∀ a, a ≠ 73 → D1 a = D' a := fun a ha => by rw [hD1, up_ne ha, up_ne ha, up_ne ha]
      clear hD1
      rw [seg17_98 (ha0 := ho73) (ha1 := ho3)]
      have H1 : tnC D1 T := tnC_fr (fun a a1 a2 => g0 a (by omega)) H'
      have hc1 : jcA D1 A := by unfold jcA; rw [g0 20 (by decide), g0 21 (by decide)]; exact hc'
      refine m20 (J := jgN A T k) hT hA H1 hc1 (by omega) hJ' (fun q q1 q2 => by rw [g0 76 (by decide), g0 77 (by decide)]; exact ⟨(k1 q q1 q2).1, (k1 q q1 q2).2.1⟩) (fun D2 hB => ?_)
      simp only [Option.toList_some, Option.toList_none, List.cons_append, List.nil_append]
      have e73 : D2 73 = D1 73 := hB.1 73 (by decide) (by decide) (by decide) (by decide)
      rw [seg17_104 (ha0 := ho73) (ha1 := ho3), seg17_106 (ha0 := ho73) (ha1 := ho3), brF (by decide), e73, y0, brT (by decide)]
      refine stop D2 _ 1 k v (by decide) (fun a ha => by rw [hB.1 a (by omega) (by omega) (by omega) (by omega), g0 a (by omega)]; exact hF a ha) (by rw [e73]; exact y0) (by rw [e73]; exact y1) (by rw [e73]; exact y2) (fun D'' g1 g2 g3 g4 => hq D'' g1 g2 g3 (by rw [g4, hv]) (fun z => absurd z (show ¬ ((1 : Int) = 0) by decide)))
theorem m17 (hT : tnW T) (hA : jgW A T) (H : tnC D T) (hc : jcA D A) (hq : ∀ D'' : xD, jcG D'' D → D'' 73 0 = (jgM A T 13 0).1 → D'' 73 1 = (jgM A T 13 0).2.1 → D'' 73 2 = (jgM A T 13 0).2.2 → ((jgM A T 13 0).1 = 0 → jcO A T 13 D'') → Q none D'') :
    WP 124 xF1 none 17 0 [some (.inr (.inr (some 73))), some (.inr (.inr (some 3))), none, none] [] D Q := by
  have w := hT.1
  rw [seg17_0 (ha0 := ho73) (ha1 := ho3), m240 (a := 73 + 3) (L := 8) rfl (by decide)]
  simp only [Option.toList_some, Option.toList_none, List.cons_append, List.nil_append, Nat.reduceAdd]
  rw [seg17_33 (ha0 := ho73) (ha1 := ho3), m240 (a := 73 + 4) (L := 8) rfl (by decide)]
  simp only [Option.toList_some, Option.toList_none, List.cons_append, List.nil_append, Nat.reduceAdd]
  rw [seg17_41 (ha0 := ho73) (ha1 := ho3), cnT (by decide), cnT (by decide)]
  simp only [Nat.reduceAdd]
  obtain ⟨D1, hD1⟩ : ∃ D1, D1 = xup (xup (xup (xup (xup D 73 0 0) 73 1 (-1)) 73 2 (-1)) 73 3 0) 73 4 0 := ⟨_, rfl⟩
  rw [← hD1]
  have g0 : ∀ a, a ≠ 73 → D1 a = D a := fun a ha => by rw [hD1, up_ne ha, up_ne ha, up_ne ha, up_ne ha, up_ne ha]
  have v0 : D1 73 0 = 0 := by rw [hD1, up_ne2 (by decide), up_ne2 (by decide), up_ne2 (by decide), up_ne2 (by decide), up_eq]
  have v1 : D1 73 1 = -1 := by rw [hD1, up_ne2 (by decide), up_ne2 (by decide), up_ne2 (by decide), up_eq]
  have v2 : D1 73 2 = -1 := by rw [hD1, up_ne2 (by decide), up_ne2 (by decide), up_eq]
  have v3 : D1 73 3 = 0 := by rw [hD1, up_ne2 (by decide), up_eq]
  have v4 : D1 73 4 = 0 := by rw [hD1, up_eq]
  clear hD1
  obtain ⟨D2, hD2⟩ : ∃ D2, D2 = xcpy (xcpy (xfil (xfil D1 76 0 (8 : Nat) 0) 77 0 (8 : Nat) 0) 12 80 0 0 8) 15 81 0 0 6 := ⟨_, rfl⟩
  rw [← hD2]
  have f0 : ∀ a, a ≠ 76 → a ≠ 77 → a ≠ 80 → a ≠ 81 → D2 a = D1 a := fun a a1 a2 a3 a4 => by rw [hD2, cpy_ne a4, cpy_ne a3, fil_ne a2, fil_ne a1]
  have e73 : D2 73 = D1 73 := f0 73 (by decide) (by decide) (by decide) (by decide)
  have l := l17 (Q := Q) (D := D) hT hA H hc 13 0 D2 none rfl (fun a ha => by rw [f0 a (by omega) (by omega) (by omega) (by omega), g0 a (by omega)]) ⟨fun q q1 q2 => ⟨?_, ?_, ?_⟩, fun d d1 d2 => ?_, ?_, ?_⟩ (fun j hj => by omega) (by rw [e73]; exact v0) (by rw [e73]; exact v1) (by rw [e73]; exact v2) hq
  · exact l
  · rw [hD2, cpy_ne (by decide), cpy_ne (by decide), fil_ne (by decide), fil_in (by omega)]; rfl
  · rw [hD2, cpy_ne (by decide), cpy_ne (by decide), fil_in (by omega)]; rfl
  · rw [hD2, cpy_ne (by decide), cpy_in (by omega), fil_ne (by decide), fil_ne (by decide), g0 12 (by decide), (H.2.2.1 q q1 q2).2]; rfl
  · rw [hD2, cpy_in (by omega), cpy_ne (by decide), fil_ne (by decide), fil_ne (by decide), g0 15 (by decide), (H.2.2.2 d d1 d2).2.2.1]; rfl
  · rw [e73, v3]; rfl
  · rw [e73, v4]; rfl
end M65
