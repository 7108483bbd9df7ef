/-! the way told, judged: the model's minutes, and the pair -/
/-- who come to q at minute u of those who entered ahead of minute k, or in it by a street below s0 -/
def jgH (A T : Int → Int) (told lag k s0 q u : Int) : Int := smI (fun s => if toM T s = q ∧ 0 ≤ u - T (30 + 7 * s + 2) - lag ∧ (u - T (30 + 7 * s + 2) - lag < k ∨ (u - T (30 + 7 * s + 2) - lag = k ∧ s < s0)) then A (told + 13 * s + (u - T (30 + 7 * s + 2) - lag)) else 0) 0 (T 0).toNat
def jmH (A T : Int → Int) (k s0 : Int) (f : Int → Int) : Prop := ∀ q u, 0 ≤ q → q < 8 → k ≤ u → u ≤ 12 → f (13 * q + u) = jgH A T 220 0 k s0 q u ∧ f (13 * (q + 8) + u) = jgH A T 430 1 k s0 q u
def jmI (T : Int → Int) (k : Int) (J : jgT) (D' : xD) : Prop :=
  (∀ q, 0 ≤ q → q < 8 → D' 114 q = J.1 q ∧ D' 114 (q + 8) = J.2.1 q ∧ D' 117 q = J.2.2.1 q) ∧ (∀ d, 0 ≤ d → d < T 1 → D' 115 d = J.2.2.2.1 d) ∧ D' 118 k = J.2.2.2.2.1 ∧ D' 119 k = J.2.2.2.2.2
def jkF (D' D : xD) : Prop := (∀ a, a ≠ 95 → a ≠ 114 → a ≠ 115 → a ≠ 116 → a ≠ 117 → a ≠ 118 → a ≠ 119 → D' a = D a) ∧ ∀ i, i ≠ 41 → i ≠ 42 → D' 95 i = D 95 i
def jmO (A T : Int → Int) (k : Nat) (D' : xD) : Prop := ∀ j : Nat, j < k → D' 118 j = (jgN A T (j + 1)).2.2.2.2.1 ∧ D' 119 j = (jgN A T (j + 1)).2.2.2.2.2
def tdV (A : Int → Int) : Int := smI (fun c => if 0 < A (220 + c) ∨ 0 < A (430 + c) then 1 else 0) 0 208
/-- what judged answers -/
def jdV (A T : Int → Int) (x : Int) : Int := if x = 3 then tdV A else if x = 0 then (jgM A T 13 0).1 else if x = 1 then (jgM A T 13 0).2.1 else if x = 2 then (jgM A T 13 0).2.2 else if 10 ≤ x ∧ x ≤ 22 then (if (jgM A T 13 0).1 = 0 then (jgN A T ((x - 10).toNat + 1)).2.2.2.2.1 else -1) else if 30 ≤ x ∧ x ≤ 42 then (if (jgM A T 13 0).1 = 0 then (jgN A T ((x - 30).toNat + 1)).2.2.2.2.2 else -1) else -1
section M67
variable {K : (Int → Int) → (Int → Int) → (Int → Int) → (Int → Int) → (Int → Int) → (Int → Int) → (Int → Int) → (Int → Int) → Prop}
variable {x1 x2 x3 s s0 t p q u k n v M told lag : Int} {D D' D1 D2 : xD} {A T : Int → Int} {J : jgT} {Q : Option xv → xD → Prop}
theorem smI_pt {f g : Int → Int} : ∀ (k : Nat) (i c v : Int), i ≤ c → c < i + k → (∀ j, j ≠ c → g j = f j) → g c = f c + v → smI g i k = smI f i k + v := by
  intro k
  induction k with
  | zero => intro i c v h1 h2; omega
  | succ k ih =>
    intro i c v h1 h2 h3 h4
    simp only [smI]
    by_cases e : c = i
    · rw [← e, h4, smI_congr (f := g) (g := f) k (c + 1) (fun j a b => h3 j (by omega))]; omega
    · rw [ih (i + 1) c v (by omega) (by omega) h3 h4, h3 i (fun z => e z.symm)]; omega
theorem jgH_up (hT : tnW T) (hs : 0 ≤ s0 ∧ s0 < T 0) (hk : 0 ≤ k) : jgH A T told lag k (s0 + 1) q u = jgH A T told lag k s0 q u + (if toM T s0 = q ∧ u = k + T (30 + 7 * s0 + 2) + lag then A (told + 13 * s0 + k) else 0) := by
  unfold jgH
  refine smI_pt (T 0).toNat 0 s0 _ hs.1 (by omega) (fun j hj => ?_) ?_
  · by_cases c : toM T j = q ∧ 0 ≤ u - T (30 + 7 * j + 2) - lag ∧ (u - T (30 + 7 * j + 2) - lag < k ∨ (u - T (30 + 7 * j + 2) - lag = k ∧ j < s0))
    · rw [if_pos c, if_pos ⟨c.1, c.2.1, by omega⟩]
    · rw [if_neg c, if_neg (fun z => c ⟨z.1, z.2.1, by omega⟩)]
  · by_cases c : toM T s0 = q ∧ u = k + T (30 + 7 * s0 + 2) + lag
    · rw [if_pos c, if_pos ⟨c.1, by omega, by omega⟩, if_neg (fun z => by omega), show u - T (30 + 7 * s0 + 2) - lag = k by omega]; omega
    · rw [if_neg c, Int.add_zero]
      by_cases e : toM T s0 = q ∧ 0 ≤ u - T (30 + 7 * s0 + 2) - lag ∧ u - T (30 + 7 * s0 + 2) - lag < k
      · rw [if_pos ⟨e.1, e.2.1, by omega⟩, if_pos ⟨e.1, e.2.1, by omega⟩]
      · rw [if_neg (fun z => by
          by_cases y : u - T (30 + 7 * s0 + 2) - lag < k
          · exact e ⟨z.1, z.2.1, y⟩
          · exact c ⟨z.1, by omega⟩), if_neg (fun z => e ⟨z.1, z.2.1, by omega⟩)]
theorem jgH_k (hT : tnW T) (hl : 0 ≤ lag) : jgH A T told lag k s0 q k = jgA A T told lag k q := by
  unfold jgH jgA
  refine smI_congr _ _ (fun j j1 j2 => ?_)
  have w := hT.1
  have l := (hT.2.1 j j1 (by omega)).2.2.1
  by_cases c : toM T j = q ∧ 0 ≤ k - T (30 + 7 * j + 2) - lag
  · rw [if_pos c, if_pos ⟨c.1, c.2, by omega⟩]
  · rw [if_neg c, if_neg (fun z => c ⟨z.1, z.2.1⟩)]
theorem jgH_T (hT : tnW T) : jgH A T told lag k (T 0) q u = jgH A T told lag (k + 1) 0 q u := by
  unfold jgH
  refine smI_congr _ _ (fun j j1 j2 => ?_)
  have w := hT.1
  by_cases c : toM T j = q ∧ 0 ≤ u - T (30 + 7 * j + 2) - lag ∧ u - T (30 + 7 * j + 2) - lag ≤ k
  · rw [if_pos ⟨c.1, c.2.1, by omega⟩, if_pos ⟨c.1, c.2.1, by omega⟩]
  · rw [if_neg (fun z => c ⟨z.1, z.2.1, by omega⟩), if_neg (fun z => c ⟨z.1, z.2.1, by omega⟩)]
theorem jgH_0 : jgH A T told lag 0 0 q u = 0 := by
  unfold jgH
  refine smI_0 _ _ (fun j j1 j2 => ?_)
  rw [if_neg (fun z => by omega)]
theorem jgH_bd (hT : tnW T) (hA : jgW A T) (ht : told = 220 ∨ told = 430) (hl : 0 ≤ lag) (hu : u ≤ 12) : 0 ≤ jgH A T told lag k s0 q u ∧ jgH A T told lag k s0 q u ≤ 480 := by
  have w := hT.1
  have := smI_bd (f := fun s => if toM T s = q ∧ 0 ≤ u - T (30 + 7 * s + 2) - lag ∧ (u - T (30 + 7 * s + 2) - lag < k ∨ (u - T (30 + 7 * s + 2) - lag = k ∧ s < s0)) then A (told + 13 * s + (u - T (30 + 7 * s + 2) - lag)) else 0) (B := 30) (T 0).toNat 0 (fun j j1 j2 => by
    have l := (hT.2.1 j j1 (by omega)).2.2.1
    by_cases c : toM T j = q ∧ 0 ≤ u - T (30 + 7 * j + 2) - lag ∧ (u - T (30 + 7 * j + 2) - lag < k ∨ (u - T (30 + 7 * j + 2) - lag = k ∧ j < s0))
    · rw [if_pos c]
      have := hA j (u - T (30 + 7 * j + 2) - lag) j1 (by omega) (by omega) (by omega)
      rcases ht with e | e <;> rw [e] <;> omega
    · rw [if_neg c]; omega)
  unfold jgH
  omega
theorem l214s (hT : tnW T) (hA : jgW A T) (H : tnM A T) (he : D 96 = A) (hk : 0 ≤ x1 ∧ x1 ≤ 12) : ∀ (r : Nat) (s : Int) (D' : xD) (o3 o4 o5 : Option xv), T 0 = s + r → 0 ≤ s → (∀ a, a ≠ 95 → a ≠ 116 → D' a = D a) → (∀ i, i ≠ 42 → D' 95 i = D 95 i) → jmH A T x1 s (D' 116) →
    (fsI (fun s => (0 < A (220 + 13 * s + x1) + A (430 + 13 * s + x1) ∧ ¬ (T (30 + 7 * s + 4) ≤ x1 ∧ x1 ≤ T (30 + 7 * s + 5))) ∨ T (30 + 7 * s + 3) < A (220 + 13 * s + x1) + 2 * A (430 + 13 * s + x1)) s r = -1 → ∀ (D'' : xD) (o3 o4 o5 : Option xv), (∀ a, a ≠ 95 → a ≠ 116 → D'' a = D a) → (∀ i, i ≠ 42 → D'' 95 i = D 95 i) → jmH A T x1 (T 0) (D'' 116) → WP 124 xF1 none 214 177 [some (.inr (.inr (some 95))), some (.inl x1), some (.inl 0), o3, o4, o5] [] D'' Q) →
    (∀ v : Int, v = fsI (fun s => (0 < A (220 + 13 * s + x1) + A (430 + 13 * s + x1) ∧ ¬ (T (30 + 7 * s + 4) ≤ x1 ∧ x1 ≤ T (30 + 7 * s + 5))) ∨ T (30 + 7 * s + 3) < A (220 + 13 * s + x1) + 2 * A (430 + 13 * s + x1)) s r → v ≠ -1 → ∀ D'' : xD, (∀ a, a ≠ 95 → a ≠ 116 → D'' a = D a) → (∀ i, i ≠ 42 → D'' 95 i = D 95 i) → D'' 95 42 = v → Q (some (.inl 1)) D'') →
    WP 124 xF1 none 214 2 [some (.inr (.inr (some 95))), some (.inl x1), some (.inl s), o3, o4, o5] [] D' Q := by
  obtain ⟨⟨w0, w1, w2, w3⟩, ws, wd, -⟩ := id hT
  have e0 : A 0 = T 0 := H 0 (by decide)
  intro r
  induction r with
  | zero =>
    intro s D' o3 o4 o5 h1 h2 hF h95 hH qn qy
    rw [seg214_2 (ha0 := ho95), cnB (by omega)]
    simp only [Nat.reduceAdd]
    rw [hF 96 (by decide) (by decide), he, brT (c := A 0 ≤ s) (by omega)]
    have e : s = T 0 := by omega
    rw [e] at hH
    exact qn rfl D' _ _ _ hF h95 hH
  | succ r ih =>
    intro s D' o3 o4 o5 h1 h2 hF h95 hH qn qy
    have he' : D' 96 = A := by rw [hF 96 (by decide) (by decide)]; exact he
    have b1 := hA s x1 h2 (by omega) hk.1 hk.2
    obtain ⟨-, v0, v1, v2, v3, -⟩ := ws s h2 (by omega)
    simp only [fsI] at qn qy
    rw [seg214_2 (ha0 := ho95), cnB (by omega)]
    simp only [Nat.reduceAdd]
    rw [he', brF (c := A 0 ≤ s) (by omega), cnX (by omega), cnX (by omega), cnX (by omega), cnB (by omega), cnX (by omega), cnX (by omega), cnX (by omega), cnB (by omega), cnX (by omega)]
    have F1 : ∀ a, a ≠ 95 → a ≠ 116 → (xup D' 95 42 s) a = D a := fun a a1 a2 => by rw [up_ne a1]; exact hF a a1 a2
    have G1 : ∀ i, i ≠ 42 → (xup D' 95 42 s) 95 i = D 95 i := fun i i1 => by rw [up_ne2 i1]; exact h95 i i1
    have bad : (0 < A (220 + 13 * s + x1) + A (430 + 13 * s + x1) ∧ ¬ (T (30 + 7 * s + 4) ≤ x1 ∧ x1 ≤ T (30 + 7 * s + 5))) ∨ T (30 + 7 * s + 3) < A (220 + 13 * s + x1) + 2 * A (430 + 13 * s + x1) → WP 124 xF1 none 214 89 [some (.inr (.inr (some 95))), some (.inl x1), some (.inl s), some (.inl (A (220 + 13 * s + x1))), some (.inl (A (430 + 13 * s + x1))), o5] [] (xup D' 95 42 s) Q := by
      intro hb
      rw [if_pos hb] at qy
      rw [seg214_89 (ha0 := ho95)]
      exact qy s rfl (by omega) _ F1 G1 (by rw [up_eq])
    have good : ¬ ((0 < A (220 + 13 * s + x1) + A (430 + 13 * s + x1) ∧ ¬ (T (30 + 7 * s + 4) ≤ x1 ∧ x1 ≤ T (30 + 7 * s + 5))) ∨ T (30 + 7 * s + 3) < A (220 + 13 * s + x1) + 2 * A (430 + 13 * s + x1)) → WP 124 xF1 none 214 91 [some (.inr (.inr (some 95))), some (.inl x1), some (.inl s), some (.inl (A (220 + 13 * s + x1))), some (.inl (A (430 + 13 * s + x1))), o5] [] (xup D' 95 42 s) Q := by
      intro hb
      rw [if_neg hb] at qn qy
      have he1 : (xup D' 95 42 s) 96 = A := by rw [up_ne (by decide)]; exact he'
      have e116 : (xup D' 95 42 s) 116 = D' 116 := up_ne (by decide)
      obtain ⟨D1, hD1⟩ : ∃ D1, D1 = xup D' 95 42 s := ⟨_, rfl⟩
      rw [← hD1] at F1 G1 he1 e116 ⊢
      clear hD1
      rw [seg214_91 (ha0 := ho95)]
      simp only [Nat.reduceAdd]
      rw [he1, H (30 + 7 * s + 2) (by omega), cnX (by omega), cnX (by omega), cnX (by omega), cnB (by omega), cnX (by omega)]
      have fin : ∀ (D3 : xD) (o5 : Option xv), (∀ a, a ≠ 116 → D3 a = D1 a) → jmH A T x1 (s + 1) (D3 116) → WP 124 xF1 none 214 169 [some (.inr (.inr (some 95))), some (.inl x1), some (.inl s), some (.inl (A (220 + 13 * s + x1))), some (.inl (A (430 + 13 * s + x1))), some (.inl (x1 + T (30 + 7 * s + 2)))] [] D3 Q := by
        intro D3 o5 f0 f1
        rw [seg214_169 (ha0 := ho95), cnX (by omega)]
        exact ih (s + 1) D3 _ _ _ (by omega) (by omega) (fun a a1 a2 => by rw [f0 a a2]; exact F1 a a1 a2) (fun i i1 => by rw [f0 95 (by decide)]; exact G1 i i1) f1 qn qy
      -- the slow ones
      have slowly : ∀ (D2 : xD), (∀ a, a ≠ 116 → D2 a = D1 a) → (∀ q u, 0 ≤ q → q < 8 → x1 ≤ u → u ≤ 12 → D2 116 (13 * q + u) = jgH A T 220 0 x1 (s + 1) q u ∧ D2 116 (13 * (q + 8) + u) = jgH A T 430 1 x1 s q u) → WP 124 xF1 none 214 136 [some (.inr (.inr (some 95))), some (.inl x1), some (.inl s), some (.inl (A (220 + 13 * s + x1))), some (.inl (A (430 + 13 * s + x1))), some (.inl (x1 + T (30 + 7 * s + 2)))] [] D2 Q := by
        intro D2 f0 f1
        have he2 : D2 96 = A := by rw [f0 96 (by decide)]; exact he1
        rw [seg214_136 (ha0 := ho95)]
        by_cases c : 12 ≤ x1 + T (30 + 7 * s + 2)
        · rw [brT c]
          refine fin D2 o5 f0 (fun q u q1 q2 u1 u2 => ⟨(f1 q u q1 q2 u1 u2).1, ?_⟩)
          rw [(f1 q u q1 q2 u1 u2).2, jgH_up hT ⟨h2, by omega⟩ hk.1, if_neg (fun z => by omega), Int.add_zero]
        · have y := (f1 (toM T s) (x1 + T (30 + 7 * s + 2) + 1) v0.1 (by omega) (by omega) (by omega)).2
          have yb := jgH_bd (k := x1) (s0 := s) (q := toM T s) (u := x1 + T (30 + 7 * s + 2) + 1) (told := 430) (lag := 1) hT hA (.inr rfl) (by omega) (by omega)
          rw [show 13 * (toM T s + 8) + (x1 + T (30 + 7 * s + 2) + 1) = 13 * (toM T s + 8) + (x1 + T (30 + 7 * s + 2)) + 1 by omega] at y
          rw [brF c, n178 (by omega), he2, (frM_cg2 H (by omega)).2]
          simp only [Option.toList_some, Option.toList_none, List.cons_append, List.nil_append]
          rw [seg214_154 (ha0 := ho95) (hb2 := hl116), y, cnX (by omega), cnX (by omega), cnX (by omega), cnX (by omega), cnB (by omega), cnX (by omega), cnB (by omega)]
          refine fin _ o5 (fun a a1 => by rw [up_ne a1]; exact f0 a a1) (fun q u q1 q2 u1 u2 => ⟨?_, ?_⟩)
          · rw [up_at, if_neg (by omega)]; exact (f1 q u q1 q2 u1 u2).1
          · rw [up_at, jgH_up hT ⟨h2, by omega⟩ hk.1]
            by_cases e : toM T s = q ∧ u = x1 + T (30 + 7 * s + 2) + 1
            · rw [if_pos (by omega), if_pos e, e.1, e.2]
            · rw [if_neg (by omega), if_neg e, (f1 q u q1 q2 u1 u2).2, Int.add_zero]
      by_cases c : 12 < x1 + T (30 + 7 * s + 2)
      · rw [brT c]
        refine slowly D1 (fun _ _ => rfl) (fun q u q1 q2 u1 u2 => ?_)
        rw [e116]
        refine ⟨?_, (hH q u q1 q2 u1 u2).2⟩
        rw [(hH q u q1 q2 u1 u2).1, jgH_up hT ⟨h2, by omega⟩ hk.1, if_neg (fun z => by omega), Int.add_zero]
      · have y := (hH (toM T s) (x1 + T (30 + 7 * s + 2)) v0.1 (by omega) (by omega) (by omega)).1
        have yb := jgH_bd (k := x1) (s0 := s) (q := toM T s) (u := x1 + T (30 + 7 * s + 2)) (told := 220) (lag := 0) hT hA (.inl rfl) (by omega) (by omega)
        rw [brF c, n178 (by omega), he1, (frM_cg2 H (by omega)).2]
        simp only [Option.toList_some, Option.toList_none, List.cons_append, List.nil_append]
        rw [seg214_127 (ha0 := ho95) (hb2 := hl116), e116, y, cnX (by omega), cnX (by omega), cnB (by omega), cnX (by omega), cnB (by omega)]
        refine slowly _ (fun a a1 => by rw [up_ne a1]) (fun q u q1 q2 u1 u2 => ⟨?_, ?_⟩)
        · rw [up_at, e116, jgH_up hT ⟨h2, by omega⟩ hk.1]
          by_cases e : toM T s = q ∧ u = x1 + T (30 + 7 * s + 2) + 0
          · rw [if_pos (by omega), if_pos e, ← e.1, show u = x1 + T (30 + 7 * s + 2) by omega]
          · rw [if_neg (by omega), if_neg e, (hH q u q1 q2 u1 u2).1, Int.add_zero]
        · rw [up_at, e116, if_neg (by omega)]; exact (hH q u q1 q2 u1 u2).2
    by_cases c1 : A (220 + 13 * s + x1) + A (430 + 13 * s + x1) ≤ 0
    · rw [brT c1]
      exact good (fun z => by omega)
    · rw [brF c1, cnX (by omega), cnX (by omega), cnX (by omega), cnX (by omega), cnX (by omega), cnB (by omega), H (30 + 7 * s + 3) (by omega)]
      by_cases c2 : T (30 + 7 * s + 3) < A (220 + 13 * s + x1) + 2 * A (430 + 13 * s + x1)
      · rw [brT c2]; exact bad (.inr c2)
      · have he1 : (xup D' 95 42 s) 96 = A := by rw [up_ne (by decide)]; exact he'
        rw [brF c2, m179 (by omega), he1, H (30 + 7 * s + 4) (by omega), H (30 + 7 * s + 5) (by omega)]
        simp only [Option.toList_some, Option.toList_none, List.cons_append, List.nil_append]
        rw [seg214_86 (ha0 := ho95)]
        by_cases c3 : T (30 + 7 * s + 4) ≤ x1 ∧ x1 ≤ T (30 + 7 * s + 5)
        · rw [if_pos c3, brT (by decide)]; exact good (fun z => z.elim (fun y => y.2 c3) c2)
        · rw [if_neg c3, brF (by decide)]; exact bad (.inl ⟨by omega, c3⟩)
/-- frame over places -/
def jpF (k : Int) (D' D : xD) : Prop := (∀ a, a ≠ 95 → a ≠ 114 → a ≠ 115 → a ≠ 117 → a ≠ 118 → a ≠ 119 → D' a = D a) ∧ (∀ i, i ≠ 42 → D' 95 i = D 95 i) ∧ ∀ j, j ≠ k → D' 118 j = D 118 j ∧ D' 119 j = D 119 j
theorem l214p (hT : tnW T) (hA : jgW A T) (H : tnM A T) (he : D 96 = A) (hk : 0 ≤ k ∧ k ≤ 12) (hcm : ∀ q, 0 ≤ q → q < 8 → D 116 (13 * q + k) = jgA A T 220 0 k q ∧ D 116 (13 * (q + 8) + k) = jgA A T 430 1 k q) {o3 o4 o5 : Option xv} : ∀ (n : Nat) (p M : Int) (J : jgT) (D' : xD), 8 = p + n → 0 ≤ p → M + 580 * n ≤ 90000 → jgB T M J → jpF k D' D → jmI T k J D' →
    ((jgP A T k n p J).1.1 = 0 → ∀ (D'' : xD), jpF k D'' D → jmI T k (jgP A T k n p J).2 D'' → Q (some (.inl 0)) D'') →
    ((jgP A T k n p J).1.1 ≠ 0 → ∀ (D'' : xD), (∀ a, a ≠ 95 → a ≠ 114 → a ≠ 115 → a ≠ 117 → a ≠ 118 → a ≠ 119 → D'' a = D a) → (∀ i, i ≠ 42 → D'' 95 i = D 95 i) → D'' 95 42 = (jgP A T k n p J).1.2 → Q (some (.inl (jgP A T k n p J).1.1)) D'') →
    WP 124 xF1 none 214 177 [some (.inr (.inr (some 95))), some (.inl k), some (.inl p), o3, o4, o5] [] D' Q := by
  intro n
  induction n with
  | zero =>
    intro p M J D' h1 h2 hM hJ hF hI q0 q1
    rw [seg214_177 (ha0 := ho95), brT (c := 8 ≤ p) (by omega)]
    exact q0 rfl D' hF hI
  | succ n ih =>
    intro p M J D' h1 h2 hM hJ hF hI q0 q1
    have he' : D' 96 = A := by rw [hF.1 96 (by decide) (by decide) (by decide) (by decide) (by decide) (by decide)]; exact he
    have hp : 0 ≤ p ∧ p < 8 := ⟨h2, by omega⟩
    obtain ⟨i1, i2, i3, i4⟩ := hI
    obtain ⟨a1, a2, a3⟩ := i1 p h2 (by omega)
    obtain ⟨⟨b1, b1'⟩, ⟨b2, b2'⟩, b3, b4, b5, b6⟩ := jg_bd (p := p) hT hA hk hp hJ
    obtain ⟨g1, g2, g3, g4⟩ := jgg_bd (p := p) hT hA hk hp hJ
    obtain ⟨c1, c2, c3, c4⟩ := id hJ
    obtain ⟨d1, d2, d3⟩ := c1 p h2 (by omega)
    obtain ⟨m1, m2⟩ := hcm p h2 (by omega)
    have f1 := jgA_bd (p := p) (told := 220) (lag := 0) hT hA hk (.inl rfl) (by omega)
    have f2 := jgA_bd (p := p) (told := 430) (lag := 1) hT hA hk (.inr rfl) (by omega)
    have e116 : D' 116 = D 116 := hF.1 116 (by decide) (by decide) (by decide) (by decide) (by decide) (by decide)
    simp only [jgP] at q0 q1
    rw [seg214_177 (ha0 := ho95), brF (c := 8 ≤ p) (by omega)]
    obtain ⟨D1, hD1⟩ : ∃ D1, D1 = xup D' 95 42 p := ⟨_, rfl⟩
    rw [← hD1]
    have r0 : ∀ a, a ≠ 95 → D1 a = D' a := fun a ha => by rw [hD1, up_ne ha]
    have r95 : ∀ i, i ≠ 42 → D1 95 i = D' 95 i := fun i hi => by rw [hD1, up_ne2 hi]
    have r42 : D1 95 42 = p := by rw [hD1, up_eq]
    clear hD1
    have he1 : D1 96 = A := by rw [r0 96 (by decide)]; exact he'
    have fail : ∀ D2 : xD, 0 < (jc1 A T k p J).1 ∨ 0 < (jc2 A T k p J).1 → (∀ a, a ≠ 114 → a ≠ 115 → D2 a = D1 a) → WP 124 xF1 none 214 208 [some (.inr (.inr (some 95))), some (.inl k), some (.inl p), o3, o4, o5] [] D2 Q := by
      intro D2 hf f0
      have hR : jgR A T k p J = 2 := by unfold jgR; rw [if_pos hf]
      rw [if_neg (by omega)] at q1
      rw [seg214_208 (ha0 := ho95)]
      have := q1 (show jgR A T k p J ≠ 0 by omega) D2 (fun a a1 a2 a3 a4 a5 a6 => by rw [f0 a a2 a3, r0 a a1]; exact hF.1 a a1 a2 a3 a4 a5 a6) (fun i hi => by rw [f0 95 (by decide) (by decide), r95 i hi]; exact hF.2.1 i hi) (by rw [f0 95 (by decide) (by decide), r42])
      have this : Q (some (.inl (jgR A T k p J))) D2 := this
      rw [hR] at this
      exact this
    refine m211 (told := 220) (th := J.1 p) (cm := jgA A T 220 0 k p) (b := J.2.2.2.1) (c := jc1 A T k p J) hT H he1 hA hp hk (.inl rfl) rfl (by rw [r0 114 (by decide), Int.mul_zero, Int.add_zero]; exact a1) (by rw [r0 116 (by decide), e116, Int.mul_zero, Int.add_zero]; exact m1) (by omega) (by omega) c2 (fun d d1 d2 => by rw [r0 115 (by decide)]; exact i2 d d1 d2) rfl (fun hn D2 k0 k1 k2 => ?_) (fun hn D2 k0 => ?_)
    · simp only [Option.toList_some, Option.toList_none, List.cons_append, List.nil_append]
      rw [seg214_195 (ha0 := ho95), brF (by decide)]
      have he2 : D2 96 = A := by rw [k0 96 (by decide) (by decide)]; exact he1
      rw [Int.mul_zero, Int.add_zero] at k1
      refine m211 (told := 430) (th := J.2.1 p) (cm := jgA A T 430 1 k p) (b := (jc1 A T k p J).2) (c := jc2 A T k p J) hT H he2 hA hp hk (.inr rfl) rfl (by rw [k1, if_neg (by omega), r0 114 (by decide), Int.mul_one]; exact a2) (by rw [k0 116 (by decide) (by decide), r0 116 (by decide), e116, Int.mul_one]; exact m2) (by omega) (by omega) b1' k2 rfl (fun hn2 D3 l0 l1 l2 => ?_) (fun hn2 D3 l0 => ?_)
      · rw [Int.mul_one] at l1
        simp only [Option.toList_some, Option.toList_none, List.cons_append, List.nil_append]
        rw [seg214_205 (ha0 := ho95), brT (by decide)]
        have s0 : ∀ a, a ≠ 114 → a ≠ 115 → D3 a = D1 a := fun a a1 a2 => by rw [l0 a a1 a2, k0 a a1 a2]
        have he3 : D3 96 = A := by rw [s0 96 (by decide) (by decide)]; exact he1
        have v1 : D3 114 p = jt1 A T k p J := by rw [l1, if_neg (by omega), k1, if_pos rfl]; rfl
        have v2 : D3 114 (p + 8) = jt2 A T k p J := by rw [l1, if_pos rfl]; rfl
        refine m213 (b := (jc2 A T k p J).2) (n1 := jn1 A T k p J) (n2 := jn2 A T k p J) (g := jgg A T k p J) hT H he3 hp hk v1 v2 (z := J.2.2.1 p) (by rw [s0 117 (by decide) (by decide), r0 117 (by decide)]; exact a3) (o := J.2.2.2.2.1) (by rw [s0 118 (by decide) (by decide), r0 118 (by decide)]; exact i3) (u := J.2.2.2.2.2) (by rw [s0 119 (by decide) (by decide), r0 119 (by decide)]; exact i4) (by omega) (by omega) (by omega) (by omega) (by omega) b2' l2 rfl rfl rfl (fun D4 t0 t1 t2 t3 t4 t5 => ?_)
        simp only [Option.toList_some, Option.toList_none, List.cons_append, List.nil_append]
        have w1 : D4 114 p = jt1 A T k p J - jn1 A T k p J := by rw [t1, if_pos rfl]
        have w2 : D4 114 (p + 8) = jt2 A T k p J - jn2 A T k p J := by rw [t1, if_neg (by omega), if_pos rfl]
        have he4 : D4 96 = A := by rw [t0 96 (by decide) (by decide) (by decide) (by decide) (by decide)]; exact he3
        have F4 : ∀ a, a ≠ 95 → a ≠ 114 → a ≠ 115 → a ≠ 117 → a ≠ 118 → a ≠ 119 → D4 a = D a := fun a a1 a2 a3 a4 a5 a6 => by rw [t0 a a2 a3 a4 a5 a6, s0 a a2 a3, r0 a a1]; exact hF.1 a a1 a2 a3 a4 a5 a6
        have e95 : D4 95 = D1 95 := by rw [t0 95 (by decide) (by decide) (by decide) (by decide) (by decide), s0 95 (by decide) (by decide)]
        have G4 : ∀ i, i ≠ 42 → D4 95 i = D 95 i := fun i hi => by rw [e95, r95 i hi]; exact hF.2.1 i hi
        rw [seg214_216 (ha0 := ho95), cnB (by omega), cnX (by omega), cnB (by omega)]
        simp only [Nat.reduceAdd]
        rw [w1, w2, he4, H (10 + p) (by omega), cnX (by omega), cnX (by omega), cnB (by omega)]
        by_cases hd : T (10 + p) < (jt1 A T k p J - jn1 A T k p J) + (jt2 A T k p J - jn2 A T k p J)
        · have hR : jgR A T k p J = 3 := by unfold jgR; rw [if_neg (by omega), if_pos hd]
          rw [if_neg (by omega)] at q1
          rw [brF (c := jt1 A T k p J - jn1 A T k p J + (jt2 A T k p J - jn2 A T k p J) ≤ T (10 + p)) (by omega)]
          have := q1 (show jgR A T k p J ≠ 0 by omega) D4 F4 G4 (by rw [e95]; exact r42)
          have this : Q (some (.inl (jgR A T k p J))) D4 := this
          rw [hR] at this
          exact this
        · have hR : jgR A T k p J = 0 := by unfold jgR; rw [if_neg (by omega), if_neg hd]
          rw [if_pos hR] at q0 q1
          rw [brT (c := jt1 A T k p J - jn1 A T k p J + (jt2 A T k p J - jn2 A T k p J) ≤ T (10 + p)) (by omega), cnX (by omega)]
          refine ih (p + 1) (M + 580) _ D4 (by omega) (by omega) (by omega) (jgJ_bd (p := p) hT hA hk hp hJ).2 ⟨F4, G4, fun j hj => ?_⟩ ⟨fun q q1 q2 => ?_, t3, by rw [t4, if_pos rfl]; rfl, by rw [t5, if_pos rfl]; rfl⟩ q0 q1
          · rw [t4, t5, if_neg hj, if_neg hj, s0 118 (by decide) (by decide), s0 119 (by decide) (by decide), r0 118 (by decide), r0 119 (by decide)]
            exact hF.2.2 j hj
          · obtain ⟨y1, y2, y3⟩ := i1 q q1 q2
            refine ⟨?_, ?_, ?_⟩
            · rw [t1]
              show _ = if q = p then jt1 A T k p J - jn1 A T k p J else J.1 q
              by_cases e : q = p
              · rw [if_pos e, if_pos e]
              · rw [if_neg e, if_neg (by omega), if_neg e, l1, if_neg (by omega), k1, if_neg e, r0 114 (by decide)]; exact y1
            · rw [t1, if_neg (by omega)]
              show _ = if q = p then jt2 A T k p J - jn2 A T k p J else J.2.1 q
              by_cases e : q = p
              · rw [if_pos (by omega), if_pos e]
              · rw [if_neg (by omega), if_neg e, l1, if_neg (by omega), k1, if_neg (by omega), r0 114 (by decide)]; exact y2
            · rw [t2]
              show _ = if q = p then (jgg A T k p J).1 else J.2.2.1 q
              by_cases e : q = p
              · rw [if_pos e, if_pos e]
              · rw [if_neg e, if_neg e, s0 117 (by decide) (by decide), r0 117 (by decide)]; exact y3
      · simp only [Option.toList_some, Option.toList_none, List.cons_append, List.nil_append]
        rw [seg214_205 (ha0 := ho95), brF (by decide)]
        exact fail D3 (.inr hn2) (fun a a1 a2 => by rw [l0 a a1 a2, k0 a a1 a2])
    · simp only [Option.toList_some, Option.toList_none, List.cons_append, List.nil_append]
      rw [seg214_195 (ha0 := ho95), brT rfl]
      exact fail D2 (.inl hn) k0
theorem l216 (hT : tnW T) (hA : jgW A T) (H : tnM A T) (he : D 96 = A) : ∀ (n k : Nat) (D' : xD), 13 = k + n → jkF D' D → jmH A T k 0 (D' 116) → (∀ q, 0 ≤ q → q < 8 → D' 114 q = (jgN A T k).1 q ∧ D' 114 (q + 8) = (jgN A T k).2.1 q ∧ D' 117 q = (jgN A T k).2.2.1 q) → (∀ d, 0 ≤ d → d < T 1 → D' 115 d = (jgN A T k).2.2.2.1 d) → jmO A T k D' → D' 95 41 = -1 →
    (∀ (D'' : xD) (u3 : Int), jkF D'' D → D'' 95 41 = (jgM A T n k).2.1 → ((jgM A T n k).1 ≠ 0 → D'' 95 42 = (jgM A T n k).2.2) → ((jgM A T n k).1 = 0 → (jgM A T n k).2.2 = -1 ∧ jmO A T 13 D'') → (0 ≤ (jgM A T n k).1) → WP 124 xF1 none 216 126 [some (.inr (.inr (some 95))), some (.inl x1), some (.inl (jgM A T n k).1), some (.inl u3)] [] D'' Q) →
    WP 124 xF1 none 216 51 [some (.inr (.inr (some 95))), some (.inl x1), some (.inl 0), some (.inl k)] [] D' Q := by
  intro n
  induction n with
  | zero =>
    intro k D' h1 hF hH hI hd hO h41 hq
    rw [seg216_51 (ha0 := ho95), brT (c := (12 : Int) < (k : Int)) (by omega)]
    have e : k = 13 := by omega
    rw [e] at hO
    exact hq D' k hF h41 (fun z => absurd rfl z) (fun _ => ⟨rfl, hO⟩) (Int.le_refl _)
  | succ n ih =>
    intro k D' h1 hF hH hI hd hO h41 hq
    have he' : D' 96 = A := by rw [hF.1 96 (by decide) (by decide) (by decide) (by decide) (by decide) (by decide) (by decide)]; exact he
    have hJ := jgN_bd hT hA k (by omega)
    -- the outs ahead of this minute
    have ho : (if k = 0 then (0 : Int) else D' 118 ((k : Int) - 1)) = (jgN A T k).2.2.2.2.1 ∧ (if k = 0 then (0 : Int) else D' 119 ((k : Int) - 1)) = (jgN A T k).2.2.2.2.2 := by
      by_cases c : k = 0
      · rw [if_pos c, if_pos c, c]; exact ⟨rfl, rfl⟩
      · rw [if_neg c, if_neg c]
        have := hO (k - 1) (by omega)
        rw [show ((k - 1 : Nat) : Int) = (k : Int) - 1 by omega, show k - 1 + 1 = k by omega] at this
        exact this
    have body : ∀ D1 : xD, (∀ a, a ≠ 118 → a ≠ 119 → D1 a = D' a) → (∀ j, D1 118 j = if j = (k : Int) then (jgN A T k).2.2.2.2.1 else D' 118 j) → (∀ j, D1 119 j = if j = (k : Int) then (jgN A T k).2.2.2.2.2 else D' 119 j) → WP 124 xF1 none 214 0 [some (.inr (.inr (some 95))), some (.inl (k : Int)), none, none, none, none] [] D1 (fun v D9 => WP 124 xF1 none 216 110 [some (.inr (.inr (some 95))), some (.inl x1), some (.inl 0), some (.inl (k : Int))] (v.toList ++ []) D9 Q) := by
      intro D1 f0 f118 f119
      have he1 : D1 96 = A := by rw [f0 96 (by decide) (by decide)]; exact he'
      simp only [jgM] at hq
      -- behind a bar
      have stop : ∀ (D2 : xD) (b a : Int), 1 ≤ b → (∀ a, a ≠ 95 → a ≠ 114 → a ≠ 115 → a ≠ 116 → a ≠ 117 → a ≠ 118 → a ≠ 119 → D2 a = D1 a) → (∀ i, i ≠ 42 → D2 95 i = D1 95 i) → D2 95 42 = a → (∀ (D'' : xD) (u3 : Int), jkF D'' D → D'' 95 41 = k → D'' 95 42 = a → WP 124 xF1 none 216 126 [some (.inr (.inr (some 95))), some (.inl x1), some (.inl b), some (.inl u3)] [] D'' Q) → WP 124 xF1 none 216 110 [some (.inr (.inr (some 95))), some (.inl x1), some (.inl 0), some (.inl (k : Int))] [.inl b] D2 Q := by
        intro D2 b a hb k0 k95 k42 hq2
        rw [seg216_110 (ha0 := ho95), brF (c := b ≤ 0) (by omega), seg216_120 (ha0 := ho95), cnX (by omega), seg216_51 (ha0 := ho95)]
        have fin := hq2 (xup D2 95 41 k) ((k : Int) + 1) ⟨fun a a1 a2 a3 a4 a5 a6 a7 => by rw [up_ne a1, k0 a a1 a2 a3 a4 a5 a6 a7, f0 a a6 a7]; exact hF.1 a a1 a2 a3 a4 a5 a6 a7, fun i i1 i2 => by rw [up_ne2 i1, k95 i i2, f0 95 (by decide) (by decide)]; exact hF.2 i i1 i2⟩ (by rw [up_eq]) (by rw [up_ne2 (by decide)]; exact k42)
        by_cases c : 12 < (k : Int) + 1
        · rw [brT c]; exact fin
        · rw [brF c, brT (c := b ≠ 0) (by omega)]; exact fin
      rw [seg214_0 (ha0 := ho95)]
      refine l214s (A := A) (D := D1) hT hA H he1 (x1 := (k : Int)) (by omega) (T 0).toNat 0 D1 _ _ _ (by have := hT.1; omega) (by omega) (fun _ _ _ => rfl) (fun _ _ => rfl) (by rw [f0 116 (by decide) (by decide)]; exact hH) (fun hn D2 o3 o4 o5 g0 g95 gH => ?_) (fun v hv hn D2 g0 g95 g42 => ?_)
      · have hn : jbS A T k = -1 := hn
        rw [if_pos hn] at hq
        have he2 : D2 96 = A := by rw [g0 96 (by decide) (by decide)]; exact he1
        refine l214p (D := D2) hT hA H he2 (k := (k : Int)) (by omega) (fun q q1 q2 => ?_) 8 0 (4640 * k) (jgN A T k) D2 (by omega) (by omega) (by omega) hJ ⟨fun _ _ _ _ _ _ _ => rfl, fun _ _ => rfl, fun _ _ => ⟨rfl, rfl⟩⟩ ⟨fun q q1 q2 => ?_, fun d d1 d2 => ?_, ?_, ?_⟩ (fun h0 D3 r0 r1 => ?_) (fun h0 D3 r0 r95 r42 => ?_)
        · obtain ⟨y1, y2⟩ := gH q k q1 q2 (Int.le_refl _) (by omega)
          rw [y1, y2, jgH_k hT (by omega), jgH_k hT (by omega)]
          exact ⟨rfl, rfl⟩
        · rw [g0 114 (by decide) (by decide), g0 117 (by decide) (by decide), f0 114 (by decide) (by decide), f0 117 (by decide) (by decide)]; exact hI q q1 q2
        · rw [g0 115 (by decide) (by decide), f0 115 (by decide) (by decide)]; exact hd d d1 d2
        · rw [g0 118 (by decide) (by decide), f118, if_pos rfl]
        · rw [g0 119 (by decide) (by decide), f119, if_pos rfl]
        · rw [if_pos h0] at hq
          simp only [Option.toList_some, Option.toList_none, List.cons_append, List.nil_append]
          have ek : (k : Int) + 1 = ((k + 1 : Nat) : Int) := by omega
          obtain ⟨j1, j2, j3, j4⟩ := r1
          rw [seg216_110 (ha0 := ho95), brT (by decide), seg216_120 (ha0 := ho95), cnX (by omega), ek]
          refine ih (k + 1) D3 (by omega) ⟨fun a a1 a2 a3 a4 a5 a6 a7 => by rw [r0.1 a a1 a2 a3 a5 a6 a7, g0 a a1 a4, f0 a a6 a7]; exact hF.1 a a1 a2 a3 a4 a5 a6 a7, fun i i1 i2 => by rw [r0.2.1 i i2, g95 i i2, f0 95 (by decide) (by decide)]; exact hF.2 i i1 i2⟩ (fun q u q1 q2 u1 u2 => ?_) j1 j2 (fun j hj => ?_) (by rw [r0.2.1 41 (by decide), g95 41 (by decide), f0 95 (by decide) (by decide)]; exact h41) hq
          · have := gH q u q1 q2 (by omega) u2
            rw [r0.1 116 (by decide) (by decide) (by decide) (by decide) (by decide) (by decide), this.1, this.2, jgH_T hT, jgH_T hT, ek]
            exact ⟨rfl, rfl⟩
          · by_cases e : j = k
            · rw [e]; exact ⟨j3, j4⟩
            · have := r0.2.2 j (by omega)
              rw [this.1, this.2, g0 118 (by decide) (by decide), g0 119 (by decide) (by decide), f118, f119, if_neg (by omega), if_neg (by omega)]
              exact hO j (by omega)
        · rw [if_neg h0] at hq
          simp only [Option.toList_some, Option.toList_none, List.cons_append, List.nil_append]
          have hR1 : 1 ≤ (jgP A T k 8 0 (jgN A T k)).1.1 := by
            have : ∀ (n : Nat) (p : Int) (J : jgT), 0 ≤ (jgP A T k n p J).1.1 := by
              intro n
              induction n with
              | zero => intro p J; exact Int.le_refl _
              | succ n ih =>
                intro p J
                simp only [jgP]
                by_cases c : jgR A T k p J = 0
                · rw [if_pos c]; exact ih _ _
                · rw [if_neg c]
                  show 0 ≤ jgR A T k p J
                  unfold jgR
                  split
                  · decide
                  · split <;> decide
            have := this 8 0 (jgN A T k)
            omega
          refine stop D3 _ _ hR1 (fun a a1 a2 a3 a4 a5 a6 a7 => by rw [r0 a a1 a2 a3 a5 a6 a7]; exact g0 a a1 a4) (fun i hi => by rw [r95 i hi]; exact g95 i hi) r42 (fun D'' u3 m0 m1 m2 => hq D'' u3 m0 m1 (fun _ => m2) (fun z => absurd z h0) ?_)
          show 0 ≤ (jgP A T k 8 0 (jgN A T k)).1.1
          omega
      · have hn : jbS A T k ≠ -1 := by rw [hv] at hn; exact hn
        have hv : v = jbS A T k := hv
        rw [if_neg hn] at hq
        simp only [Option.toList_some, Option.toList_none, List.cons_append, List.nil_append]
        refine stop D2 1 v (by omega) (fun a a1 a2 a3 a4 a5 a6 a7 => g0 a a1 a4) g95 g42 (fun D'' u3 m0 m1 m2 => hq D'' u3 m0 m1 (fun _ => by rw [m2, hv]) (fun z => absurd z (show ¬ ((1 : Int) = 0) by decide)) (show (0 : Int) ≤ 1 by decide))
    rw [seg216_51 (ha0 := ho95), brF (c := (12 : Int) < (k : Int)) (by omega), brF (by decide)]
    simp only [Nat.reduceAdd]
    have st2 : ∀ v1 : Int, v1 = (jgN A T k).2.2.2.2.1 → WP 124 xF1 none 216 82 [some (.inr (.inr (some 95))), some (.inl x1), some (.inl 0), some (.inl (k : Int))] [.inl v1, .inl (k : Int), .inr (.inr (some 118))] D' Q := by
      intro v1 hv1
      rw [seg216_82 (ha0 := ho95) (hb2 := hl118), cnB (by omega)]
      simp only [Nat.reduceAdd]
      have st3 : ∀ v2 : Int, v2 = (jgN A T k).2.2.2.2.2 → WP 124 xF1 none 216 104 [some (.inr (.inr (some 95))), some (.inl x1), some (.inl 0), some (.inl (k : Int))] [.inl v2, .inl (k : Int), .inr (.inr (some 119))] (xup D' 118 k v1) Q := by
        intro v2 hv2
        rw [seg216_104 (ha0 := ho95) (hb2 := hl119), cnB (by omega)]
        exact body _ (fun a a1 a2 => by rw [up_ne a2, up_ne a1]) (fun j => by rw [up_ne (by decide), up_at, hv1]) (fun j => by rw [up_at, up_ne (by decide), hv2])
      rw [up_ne (a := 118) (b := 119) (by decide)]
      by_cases c : k = 0
      · have ho2 := ho.2
        rw [if_pos c] at ho2
        rw [brF (c := (k : Int) ≠ 0) (fun z => z (by omega))]
        exact st3 0 ho2
      · have ho2 := ho.2
        rw [if_neg c] at ho2
        rw [brT (c := (k : Int) ≠ 0) (by omega), cnX (by omega), cnB (by omega)]
        exact st3 _ ho2
    by_cases c : k = 0
    · have ho1 := ho.1
      rw [if_pos c] at ho1
      rw [brF (c := (k : Int) ≠ 0) (fun z => z (by omega))]
      exact st2 0 ho1
    · have ho1 := ho.1
      rw [if_neg c] at ho1
      rw [brT (c := (k : Int) ≠ 0) (by omega), cnX (by omega), cnB (by omega)]
      exact st2 _ ho1
end M67
