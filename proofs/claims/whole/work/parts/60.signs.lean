/-! signs, falls -/
section M60
variable {KN : (Int → Int) → (Int → Int) → (Int → Int) → (Int → Int) → (Int → Int) → (Int → Int) → Prop}
variable {x1 x2 x3 s t p : Int} {D D' D1 D2 : xD} {T : Int → Int} {Q : Option xv → xD → Prop}
theorem gb_KG (h : gbK T D) : KG T (D 91) (D 92) := .inr h
theorem gd_0 (hT : tnW T) : 0 ≤ (gdV T).1 := bsV_0 hT (fun z => by omega)
/-- behind both, where nothing but the guide's and the walks' cells changed -/
theorem inv_gd (H : Inv (kAnd KN) D) (h1 : ∀ a, a ≠ 85 → a ≠ 86 → a ≠ 87 → a ≠ 88 → a ≠ 89 → a ≠ 90 → a ≠ 91 → a ≠ 92 → a ≠ 93 → a ≠ 94 → D1 a = D a) (h85 : D1 85 5 = -1) (hK : KG (trA (D 96)) (D1 91) (D1 92))
    (h2 : ∀ a, a ≠ 95 → a ≠ 114 → a ≠ 115 → a ≠ 116 → a ≠ 117 → a ≠ 118 → a ≠ 120 → a ≠ 121 → a ≠ 122 → a ≠ 123 → D2 a = D1 a) (h3 : ∀ i, i ≠ 41 → i ≠ 42 → i ≠ 44 → i ≠ 45 → i ≠ 46 → i ≠ 47 → i ≠ 48 → i ≠ 49 → D2 95 i = D1 95 i) (h44 : D2 95 44 = -1) : D2 0 = D 0 ∧ Inv (kAnd KN) D2 := by
  obtain ⟨⟨-, -, t22, t23, t44⟩, -, -, -, -, g6, -⟩ := id H
  have e95 : D1 95 = D 95 := h1 95 (by decide) (by decide) (by decide) (by decide) (by decide) (by decide) (by decide) (by decide) (by decide) (by decide)
  have k : ∀ a, (a = 85 ∨ a = 91 ∨ a = 92) → D2 a = D1 a := fun a ha => h2 a (by omega) (by omega) (by omega) (by omega) (by omega) (by omega) (by omega) (by omega) (by omega) (by omega)
  have k2 : ∀ a, (a = 56 ∨ a = 68 ∨ a = 69 ∨ a = 70 ∨ a = 71 ∨ a = 0) → D2 a = D a := fun a ha => by rw [h2 a (by omega) (by omega) (by omega) (by omega) (by omega) (by omega) (by omega) (by omega) (by omega) (by omega), h1 a (by omega) (by omega) (by omega) (by omega) (by omega) (by omega) (by omega) (by omega) (by omega) (by omega)]
  refine ⟨k2 0 (by decide), Inv_put H (fun a q q1 q2 q3 q4 q5 q6 q7 q8 q9 => ?_) (by rw [k 85 (by decide)]; exact h85) (fun i hi => by rw [h3 i (by omega) (by omega) (by omega) (by omega) (by omega) (by omega) (by omega) (by omega), e95]) ⟨?_, ?_, h44⟩ ⟨?_, ?_⟩⟩
  · unfold xfre at q
    rw [h2 a (by omega) (by omega) (by omega) (by omega) (by omega) (by omega) (by omega) (by omega) (by omega) (by omega), h1 a (by omega) (by omega) (by omega) (by omega) (by omega) (by omega) (by omega) (by omega) (by omega) (by omega)]
  · rw [h3 22 (by decide) (by decide) (by decide) (by decide) (by decide) (by decide) (by decide) (by decide), e95]; exact t22
  · rw [h3 23 (by decide) (by decide) (by decide) (by decide) (by decide) (by decide) (by decide) (by decide), e95]; exact t23
  · rw [k2 56 (by decide), k2 68 (by decide), k2 69 (by decide), k2 70 (by decide), k2 71 (by decide)]; exact g6.1
  · rw [k 91 (by decide), k 92 (by decide)]; exact hK
theorem m234 (hT : tnW T) (H : tnM (D 96) T) (h44 : D 95 44 = -1) {v : Int} (hx : x1 = -1 ∨ (0 ≤ x1 ∧ x1 ≤ 7)) (hv : v = if prN T 8 ≤ 4096 then (if x1 = -1 then (gdV T).1 else (gdV T).2 x1) else -1) (hq : ∀ D' : xD, gmF D' D → Q (some (.inl v)) D') : WP 124 xF1 none 234 0 [some (.inr (.inr (some 95))), some (.inl x1), none] [] D Q := by
  have go : WP 124 xF1 none 234 12 [some (.inr (.inr (some 95))), some (.inl x1), none] [] D Q := by
    rw [seg234_12 (ha0 := ho95), m231 hT H]
    simp only [Option.toList_some, Option.toList_none, List.cons_append, List.nil_append]
    rw [seg234_16 (ha0 := ho95)]
    by_cases c : prN T 8 ≤ 4096
    · rw [if_pos c] at hv
      rw [if_pos c, brT rfl]
      refine m233 (fs := -1) (fm := D 95 45) (e := fun _ => 0) hT H h44 rfl (by omega) (fun z => by omega) (fun z => by omega) (fun D1 f1 f2 => ?_)
      have eB : bsV T (-1) (D 95 45) (fun _ => 0) 0 = gdV T := bs_m1 _ _ _ _
      rw [eB] at f2 ⊢
      simp only [Option.toList_some, Option.toList_none, List.cons_append, List.nil_append]
      rw [seg234_26 (ha0 := ho95)]
      by_cases c2 : x1 = -1
      · rw [if_pos c2] at hv
        rw [brF (c := x1 ≠ -1) (fun z => z c2), seg234_42 (ha0 := ho95), ← hv]
        exact hq D1 f1
      · rw [if_neg c2] at hv
        have h0 := hx.resolve_left c2
        rw [brT (c := x1 ≠ -1) c2, cnB (by omega)]
        simp only [Nat.reduceAdd]
        rw [seg234_42 (ha0 := ho95), f2 x1 h0.1 (by omega), ← hv]
        exact hq D1 f1
    · rw [if_neg c] at hv
      rw [if_neg c, brF (by decide), seg234_19 (ha0 := ho95), ← hv]
      exact hq D ⟨fun _ _ _ _ _ _ _ _ _ _ => rfl, fun _ _ _ _ => rfl⟩
  rw [seg234_0 (ha0 := ho95)]
  by_cases c : x1 = -1
  · rw [brT c]; exact go
  · rw [brF c, m175, if_pos (hx.resolve_left c)]
    simp only [Option.toList_some, Option.toList_none, List.cons_append, List.nil_append]
    rw [seg234_9 (ha0 := ho95), brF (by decide)]
    exact go
theorem pair25 : ∀ (z1 : Int), xinP z1 → xpr (Inv (kAnd KN)) 140 [some (.inr (.inr (some 1))), some (.inl z1)] 234 [some (.inr (.inr (some 95))), some (.inl z1), none] := by
  intro z1 y1 D H
  obtain ⟨hit, hs, hw, -, -, hK, h85⟩ := id H
  obtain ⟨hC, hM, hT⟩ := tn_of hs hw
  have h44 : D 95 44 = -1 := hit.2.2.2.2
  obtain ⟨hKN, hKG⟩ := hK
  have hg0 := gd_0 hT
  have go : (z1 = -1 ∨ (0 ≤ z1 ∧ z1 ≤ 7)) → WP 124 xF1 none 140 14 [some (.inr (.inr (some 1))), some (.inl z1)] [] D (fun v D1 => ∃ r : Int, v = some (.inl r) ∧ D1 0 = D 0 ∧ WP 124 xF1 none 234 0 [some (.inr (.inr (some 95))), some (.inl z1), none] [] D1 (fun w D2 => w = some (.inl r) ∧ D2 0 = D 0 ∧ Inv (kAnd KN) D2)) := by
    intro hz
    rw [seg140_14 (ha0 := ho1)]
    simp only [Nat.reduceAdd]
    refine m8 (T := trA (D 96)) hT hC h85 hKG (fun D1 f1 f2 => ?_)
    simp only [Option.toList_some, Option.toList_none, List.cons_append, List.nil_append]
    have g1 : ∀ a, a ≠ 85 → a ≠ 86 → a ≠ 87 → a ≠ 88 → a ≠ 89 → a ≠ 90 → a ≠ 91 → a ≠ 92 → a ≠ 93 → a ≠ 94 → D1 a = D a := fun a a1 a2 a3 a4 a5 a6 a7 a8 a9 a10 => f1 a a7 a8 a2 a3 a4 a5 a6 a9 a10
    have g85 : D1 85 = D 85 := f1 85 (by decide) (by decide) (by decide) (by decide) (by decide) (by decide) (by decide) (by decide) (by decide)
    have g96 : D1 96 = D 96 := f1 96 (by decide) (by decide) (by decide) (by decide) (by decide) (by decide) (by decide) (by decide) (by decide)
    have g95 : D1 95 = D 95 := f1 95 (by decide) (by decide) (by decide) (by decide) (by decide) (by decide) (by decide) (by decide) (by decide)
    have g0 : D1 0 = D 0 := f1 0 (by decide) (by decide) (by decide) (by decide) (by decide) (by decide) (by decide) (by decide) (by decide)
    have mod : ∀ v : Int, v = (if prN (trA (D 96)) 8 ≤ 4096 then (if z1 = -1 then (gdV (trA (D 96))).1 else (gdV (trA (D 96))).2 z1) else -1) → ∃ r : Int, (some (.inl v) : Option xv) = some (.inl r) ∧ D1 0 = D 0 ∧ WP 124 xF1 none 234 0 [some (.inr (.inr (some 95))), some (.inl z1), none] [] D1 (fun w D2 => w = some (.inl r) ∧ D2 0 = D 0 ∧ Inv (kAnd KN) D2) := by
      intro v hv
      refine ⟨v, rfl, g0, ?_⟩
      refine m234 (T := trA (D 96)) hT (by rw [g96]; exact hM) (by rw [g95]; exact h44) hz hv (fun D2 k1 => ⟨rfl, ?_⟩)
      exact inv_gd H g1 (by rw [g85]; exact h85) (gb_KG f2) (fun a a1 a2 a3 a4 a5 a6 a7 a8 a9 a10 => k1.1 a a1 a2 a3 a4 a5 a6 a7 a8 a9) (fun i i1 i2 i3 i4 i5 i6 i7 i8 => k1.2 i i1 i2 i5) (by rw [k1.2 44 (by decide) (by decide) (by decide), g95]; exact h44)
    obtain ⟨b1, b2, b3⟩ := f2
    rw [seg140_29 (ha0 := ho1)]
    simp only [Nat.reduceAdd]
    by_cases c : z1 = -1
    · rw [brT c, seg140_45 (ha0 := ho1), seg140_64 (ha0 := ho1)]
      simp only [Nat.reduceAdd]
      refine mod _ ?_
      rw [b2]
      by_cases c2 : prN (trA (D 96)) 8 ≤ 4096
      · rw [if_pos c2, if_pos c2, if_pos c]
      · rw [if_neg c2, if_neg c2]
    · rw [brF c]
      by_cases c2 : prN (trA (D 96)) 8 ≤ 4096
      · rw [if_pos c2] at b2
        have h0 := hz.resolve_left c
        rw [brT (c := D1 91 2 ≠ -1) (by omega), cnB (by omega), seg140_64 (ha0 := ho1)]
        refine mod _ ?_
        rw [b3 c2 z1 h0.1 (by omega), if_pos c2, if_neg c]
      · rw [if_neg c2] at b2
        rw [brF (c := D1 91 2 ≠ -1) (fun z => z b2), seg140_45 (ha0 := ho1), seg140_64 (ha0 := ho1)]
        simp only [Nat.reduceAdd]
        refine mod _ ?_
        rw [b2, if_neg c2]
  rw [seg140_0 (ha0 := ho1)]
  by_cases c : z1 = -1
  · rw [brT c]; exact go (.inl c)
  · rw [brF c, m145]
    simp only [Option.toList_some, Option.toList_none, List.cons_append, List.nil_append]
    rw [seg140_9 (ha0 := ho1)]
    by_cases c2 : 0 ≤ z1 ∧ z1 ≤ 7
    · rw [if_pos c2, brT (by decide)]; exact go (.inr c2)
    · rw [if_neg c2, brF (by decide)]
      refine ⟨-1, rfl, rfl, ?_⟩
      rw [seg234_0 (ha0 := ho95), brF c, m175, if_neg c2]
      simp only [Option.toList_some, Option.toList_none, List.cons_append, List.nil_append]
      rw [seg234_9 (ha0 := ho95), brT rfl, seg234_19 (ha0 := ho95)]
      exact ⟨rfl, rfl, H⟩
theorem l235 (hq : ∀ D'' : xD, (∀ a, a ≠ 123 → D'' a = D a) → (∀ p, 0 ≤ p → p < 8 → D'' 123 p = D 122 p) → WP 124 xF1 none 235 74 [some (.inr (.inr (some 95))), some (.inl x1), some (.inl x2), some (.inl x3), some (.inl 8)] [] D'' Q) : ∀ (k : Nat) (x4 : Int) (D' : xD), 8 = x4 + k → 0 ≤ x4 → (∀ a, a ≠ 123 → D' a = D a) → (∀ p, 0 ≤ p → p < x4 → D' 123 p = D 122 p) → WP 124 xF1 none 235 47 [some (.inr (.inr (some 95))), some (.inl x1), some (.inl x2), some (.inl x3), some (.inl x4)] [] D' Q := by
  intro k
  induction k with
  | zero =>
    intro x4 D' h1 h2 hF h
    have : x4 = 8 := by omega
    subst this
    rw [seg235_47 (ha0 := ho95), brT (c := (8 : Int) ≤ 8) (by decide)]
    exact hq D' hF h
  | succ k ih =>
    intro x4 D' h1 h2 hF h
    rw [seg235_47 (ha0 := ho95), brF (c := 8 ≤ x4) (by omega), cnB (by omega), cnB (by omega), cnX (by omega)]
    simp only [Nat.reduceAdd]
    refine ih (x4 + 1) _ (by omega) (by omega) (fun a a1 => by rw [up_ne a1]; exact hF a a1) (fun p p1 p2 => ?_)
    rw [up_at, hF 122 (by decide)]
    by_cases q : p = x4
    · rw [if_pos q, q]
    · rw [if_neg q]; exact h p p1 (by omega)
def gfF (D' D : xD) : Prop := (∀ a, a ≠ 95 → a ≠ 114 → a ≠ 115 → a ≠ 116 → a ≠ 117 → a ≠ 118 → a ≠ 120 → a ≠ 121 → a ≠ 122 → a ≠ 123 → D' a = D a) ∧ (∀ i, i ≠ 41 → i ≠ 42 → i ≠ 44 → i ≠ 45 → i ≠ 46 → i ≠ 47 → i ≠ 48 → i ≠ 49 → D' 95 i = D 95 i) ∧ D' 95 44 = -1
theorem m235 (hT : tnW T) (H : tnM (D 96) T) (h44 : D 95 44 = -1) (h1 : 0 ≤ x1 ∧ x1 < T 0) (h2 : 0 ≤ x2 ∧ x2 ≤ 12) (h3 : x3 = 0 ∨ x3 = 1) (hq : ∀ D' : xD, gfF D' D → Q (some (.inl (flV T x1 x2 x3))) D') : WP 124 xF1 none 235 0 [some (.inr (.inr (some 95))), some (.inl x1), some (.inl x2), some (.inl x3), none] [] D Q := by
  have e0 := H 0 (by decide)
  have w := hT.1
  rw [seg235_0 (ha0 := ho95), m174 (by omega), if_pos (by omega)]
  simp only [Option.toList_some, Option.toList_none, List.cons_append, List.nil_append]
  rw [seg235_5 (ha0 := ho95), brF (by decide), m150, if_pos h2]
  simp only [Option.toList_some, Option.toList_none, List.cons_append, List.nil_append]
  rw [seg235_12 (ha0 := ho95), brF (by decide), m149, if_pos (by omega)]
  simp only [Option.toList_some, Option.toList_none, List.cons_append, List.nil_append]
  rw [seg235_21 (ha0 := ho95), brF (by decide), m231 hT H]
  simp only [Option.toList_some, Option.toList_none, List.cons_append, List.nil_append]
  rw [seg235_28 (ha0 := ho95)]
  by_cases c : prN T 8 ≤ 4096
  · rw [if_pos c, brT rfl]
    have fin : ∀ (u : Int) (D3 : xD), (∀ a, a ≠ 95 → a ≠ 114 → a ≠ 115 → a ≠ 116 → a ≠ 117 → a ≠ 118 → a ≠ 120 → a ≠ 121 → a ≠ 122 → a ≠ 123 → D3 a = D a) → (∀ i, i ≠ 41 → i ≠ 42 → i ≠ 44 → i ≠ 45 → i ≠ 46 → D3 95 i = D 95 i) → u = flV T x1 x2 x3 → ∀ o4, WP 124 xF1 none 235 98 [some (.inr (.inr (some 95))), some (.inl x1), some (.inl x2), some (.inl x3), o4] [.inl u] D3 Q := by
      intro u D3 f1 f2 hu o4
      rw [seg235_98 (ha0 := ho95), hu]
      refine hq _ ⟨fun a a1 a2 a3 a4 a5 a6 a7 a8 a9 a10 => by rw [up_ne a1]; exact f1 a a1 a2 a3 a4 a5 a6 a7 a8 a9 a10, fun i i1 i2 i3 i4 i5 i6 i7 i8 => by rw [up_ne2 i3]; exact f2 i i1 i2 i3 i4 i5, by rw [up_eq]⟩
    rcases h3 with h3 | h3
    · rw [brT (c := x3 ≠ 1) (by omega), seg235_74 (ha0 := ho95), brT (c := x3 ≠ 1) (by omega), seg235_95 (ha0 := ho95) (hb1 := ho95)]
      have H1 : tnM ((xup (xup D 95 44 x1) 95 45 x2) 96) T := by rw [up_ne (by decide), up_ne (by decide)]; exact H
      refine m233 (fs := x1) (fm := x2) (e := fun _ => 0) hT H1 (by rw [up_ne2 (by decide), up_eq]) (by rw [up_eq]) (by omega) (fun z => by omega) (fun z => by omega) (fun D1 f1 f2 => ?_)
      simp only [Option.toList_some, Option.toList_none, List.cons_append, List.nil_append]
      refine fin _ D1 (fun a a1 a2 a3 a4 a5 a6 a7 a8 a9 a10 => by rw [f1.1 a a1 a2 a3 a4 a5 a6 a7 a8 a9, up_ne a1, up_ne a1]) (fun i i1 i2 i3 i4 i5 => by rw [f1.2 i i1 i2 i5, up_ne2 i4, up_ne2 i3]) ?_ _
      unfold flV
      rw [if_pos c, if_pos h3]
    · rw [brF (c := x3 ≠ 1) (fun z => z h3)]
      refine m233 (fs := -1) (fm := D 95 45) (e := fun _ => 0) hT H h44 rfl (by omega) (fun z => by omega) (fun z => by omega) (fun D1 f1 f2 => ?_)
      have eB : bsV T (-1) (D 95 45) (fun _ => 0) 0 = gdV T := bs_m1 _ _ _ _
      rw [eB] at f2
      simp only [Option.toList_some, Option.toList_none, List.cons_append, List.nil_append]
      rw [seg235_43 (ha0 := ho95)]
      refine l235 (D := D1) (fun D2 g1 g2 => ?_) 8 0 D1 (by omega) (by omega) (fun _ _ => rfl) (fun p p1 p2 => by omega)
      rw [seg235_74 (ha0 := ho95), brF (c := x3 ≠ 1) (fun z => z h3), seg235_95 (ha0 := ho95) (hb1 := ho95)]
      have e96 : D2 96 = D 96 := by rw [g1 96 (by decide), f1.1 96 (by decide) (by decide) (by decide) (by decide) (by decide) (by decide) (by decide) (by decide) (by decide)]
      have H1 : tnM ((xup (xup D2 95 44 x1) 95 45 x2) 96) T := by rw [up_ne (by decide), up_ne (by decide), e96]; exact H
      refine m233 (fs := x1) (fm := x2) (e := (gdV T).2) hT H1 (by rw [up_ne2 (by decide), up_eq]) (by rw [up_eq]) h2 (fun _ => gd_ok hT) (fun z p p1 p2 => by rw [up_ne (by decide), up_ne (by decide), g2 p p1 p2]; exact f2 p p1 p2) (fun D3 k1 k2 => ?_)
      simp only [Option.toList_some, Option.toList_none, List.cons_append, List.nil_append]
      refine fin _ D3 (fun a a1 a2 a3 a4 a5 a6 a7 a8 a9 a10 => by rw [k1.1 a a1 a2 a3 a4 a5 a6 a7 a8 a9, up_ne a1, up_ne a1, g1 a a10, f1.1 a a1 a2 a3 a4 a5 a6 a7 a8 a9]) (fun i i1 i2 i3 i4 i5 => by rw [k1.2 i i1 i2 i5, up_ne2 i4, up_ne2 i3, g1 95 (by decide), f1.2 i i1 i2 i5]) ?_ _
      unfold flV
      rw [if_pos c, if_neg (by omega)]
  · rw [if_neg c, brF (by decide), seg235_31 (ha0 := ho95)]
    have : flV T x1 x2 x3 = -1 := by unfold flV; rw [if_neg c]
    rw [← this]
    exact hq D ⟨fun _ _ _ _ _ _ _ _ _ _ _ => rfl, fun _ _ _ _ _ _ _ _ _ => rfl, h44⟩
theorem pair23 : ∀ (z1 z2 z3 : Int), xinP z1 → xinP z2 → xinP z3 → xpr (Inv (kAnd KN)) 138 [some (.inr (.inr (some 1))), some (.inl z1), some (.inl z2), some (.inl z3)] 235 [some (.inr (.inr (some 95))), some (.inl z1), some (.inl z2), some (.inl z3), none] := by
  intro z1 z2 z3 y1 y2 y3 D H
  obtain ⟨hit, hs, hw, -, -, hK, h85⟩ := id H
  obtain ⟨hC, hM, hT⟩ := tn_of hs hw
  have h44 : D 95 44 = -1 := hit.2.2.2.2
  obtain ⟨hKN, hKG⟩ := hK
  have e0 : D 96 0 = trA (D 96) 0 := hM 0 (by decide)
  have w := hT.1
  have bad : ¬ ((0 ≤ z1 ∧ z1 < trA (D 96) 0) ∧ (0 ≤ z2 ∧ z2 ≤ 12) ∧ (0 ≤ z3 ∧ z3 ≤ 1)) → ∃ r : Int, (some (.inl (-1)) : Option xv) = some (.inl r) ∧ D 0 = D 0 ∧ WP 124 xF1 none 235 0 [some (.inr (.inr (some 95))), some (.inl z1), some (.inl z2), some (.inl z3), none] [] D (fun w D2 => w = some (.inl r) ∧ D2 0 = D 0 ∧ Inv (kAnd KN) D2) := by
    intro hb
    refine ⟨-1, rfl, rfl, ?_⟩
    rw [seg235_0 (ha0 := ho95), m174 (by omega)]
    simp only [Option.toList_some, Option.toList_none, List.cons_append, List.nil_append]
    rw [seg235_5 (ha0 := ho95)]
    by_cases c1 : 0 ≤ z1 ∧ z1 < D 96 0
    · rw [if_pos c1, brF (by decide), m150]
      simp only [Option.toList_some, Option.toList_none, List.cons_append, List.nil_append]
      rw [seg235_12 (ha0 := ho95)]
      by_cases c2 : 0 ≤ z2 ∧ z2 ≤ 12
      · rw [if_pos c2, brF (by decide), m149, if_neg (fun z => hb ⟨by omega, c2, z⟩)]
        simp only [Option.toList_some, Option.toList_none, List.cons_append, List.nil_append]
        rw [seg235_21 (ha0 := ho95), brT rfl, seg235_31 (ha0 := ho95)]
        exact ⟨rfl, rfl, H⟩
      · rw [if_neg c2, brT rfl, seg235_31 (ha0 := ho95)]
        exact ⟨rfl, rfl, H⟩
    · rw [if_neg c1, brT rfl, seg235_31 (ha0 := ho95)]
      exact ⟨rfl, rfl, H⟩
  have b21 : ¬ ((0 ≤ z1 ∧ z1 < trA (D 96) 0) ∧ (0 ≤ z2 ∧ z2 ≤ 12) ∧ (0 ≤ z3 ∧ z3 ≤ 1)) → WP 124 xF1 none 138 21 [some (.inr (.inr (some 1))), some (.inl z1), some (.inl z2), some (.inl z3)] [] D (fun v D1 => ∃ r : Int, v = some (.inl r) ∧ D1 0 = D 0 ∧ WP 124 xF1 none 235 0 [some (.inr (.inr (some 95))), some (.inl z1), some (.inl z2), some (.inl z3), none] [] D1 (fun w D2 => w = some (.inl r) ∧ D2 0 = D 0 ∧ Inv (kAnd KN) D2)) := by
    intro hb
    rw [seg138_21 (ha0 := ho1)]
    exact bad hb
  rw [seg138_0 (ha0 := ho1)]
  simp only [Nat.reduceAdd]
  rw [m94, hC.1.1]
  simp only [Option.toList_some, Option.toList_none, List.cons_append, List.nil_append]
  rw [seg138_11 (ha0 := ho1)]
  by_cases c1 : 0 ≤ z1 ∧ z1 < trA (D 96) 0
  · rw [if_pos c1, brF (by decide), m144]
    simp only [Option.toList_some, Option.toList_none, List.cons_append, List.nil_append]
    rw [seg138_18 (ha0 := ho1)]
    by_cases c2 : 0 ≤ z2 ∧ z2 ≤ 12
    · rw [if_pos c2, brT (by decide)]
      have mod : ∀ (x : Int) (D1 : xD), x = z3 → (x = 0 ∨ x = 1) → (∀ a, a ≠ 85 → a ≠ 86 → a ≠ 87 → a ≠ 88 → a ≠ 89 → a ≠ 90 → a ≠ 91 → a ≠ 92 → a ≠ 93 → a ≠ 94 → D1 a = D a) → D1 85 5 = -1 → KG (trA (D 96)) (D1 91) (D1 92) → ∃ r : Int, (some (.inl (flV (trA (D 96)) z1 z2 x)) : Option xv) = some (.inl r) ∧ D1 0 = D 0 ∧ WP 124 xF1 none 235 0 [some (.inr (.inr (some 95))), some (.inl z1), some (.inl z2), some (.inl z3), none] [] D1 (fun w D2 => w = some (.inl r) ∧ D2 0 = D 0 ∧ Inv (kAnd KN) D2) := by
        intro x D1 hx h01 g1 g85 gK
        have g96 : D1 96 = D 96 := g1 96 (by decide) (by decide) (by decide) (by decide) (by decide) (by decide) (by decide) (by decide) (by decide) (by decide)
        have g95 : D1 95 = D 95 := g1 95 (by decide) (by decide) (by decide) (by decide) (by decide) (by decide) (by decide) (by decide) (by decide) (by decide)
        refine ⟨_, rfl, g1 0 (by decide) (by decide) (by decide) (by decide) (by decide) (by decide) (by decide) (by decide) (by decide) (by decide), ?_⟩
        refine m235 (T := trA (D 96)) hT (by rw [g96]; exact hM) (by rw [g95]; exact h44) c1 c2 (by omega) (fun D2 k1 => ⟨by rw [hx], ?_⟩)
        exact inv_gd H g1 g85 gK k1.1 k1.2.1 k1.2.2
      by_cases d0 : z3 = 0
      · subst d0
        show WP 124 xF1 none 138 52 _ _ _ _
        rw [seg138_52 (ha0 := ho1)]
        simp only [Nat.reduceAdd]
        refine m9 (T := trA (D 96)) hT hC (fun D1 f1 => ?_)
        simp only [Option.toList_some, Option.toList_none, List.cons_append, List.nil_append]
        rw [seg138_69 (ha0 := ho1)]
        refine mod 0 D1 rfl (.inl rfl) (fun a a1 a2 a3 a4 a5 a6 a7 a8 a9 a10 => f1.1 a a1 a2 a3 a4 a5 a6 a9 a10) f1.2 ?_
        rw [f1.1 91 (by decide) (by decide) (by decide) (by decide) (by decide) (by decide) (by decide) (by decide), f1.1 92 (by decide) (by decide) (by decide) (by decide) (by decide) (by decide) (by decide) (by decide)]
        exact hKG
      · by_cases d1 : z3 = 1
        · subst d1
          show WP 124 xF1 none 138 70 _ _ _ _
          rw [seg138_70 (ha0 := ho1)]
          simp only [Nat.reduceAdd]
          refine m8 (T := trA (D 96)) hT hC h85 hKG (fun D1 f1 f2 => ?_)
          simp only [Option.toList_some, Option.toList_none, List.cons_append, List.nil_append]
          rw [seg138_85 (ha0 := ho1)]
          simp only [Nat.reduceAdd]
          have H1 : tnC D1 (trA (D 96)) := tnC_fr (fun a a1 a2 => f1 a (by omega) (by omega) (by omega) (by omega) (by omega) (by omega) (by omega) (by omega) (by omega)) hC
          refine m10 (T := trA (D 96)) hT H1 c2 f2.2.2 (fun D2 g1 => ?_)
          simp only [Option.toList_some, Option.toList_none, List.cons_append, List.nil_append]
          rw [seg138_102 (ha0 := ho1)]
          refine mod 1 D2 rfl (.inr rfl) (fun a a1 a2 a3 a4 a5 a6 a7 a8 a9 a10 => by rw [g1.1 a a1 a2 a3 a4 a5 a6 a9 a10, f1 a a7 a8 a2 a3 a4 a5 a6 a9 a10]) g1.2 ?_
          rw [g1.1 91 (by decide) (by decide) (by decide) (by decide) (by decide) (by decide) (by decide) (by decide), g1.1 92 (by decide) (by decide) (by decide) (by decide) (by decide) (by decide) (by decide) (by decide)]
          exact gb_KG f2
        · have e : xlook z3 103 [0, 52, 1, 70] = 103 := by simp [xlook, d0, d1]
          rw [e, seg138_103 (ha0 := ho1)]
          exact bad (fun z => by omega)
    · rw [if_neg c2, brF (by decide)]
      exact b21 (fun z => c2 z.2.1)
  · rw [if_neg c1, brT rfl]
    exact b21 (fun z => c1 z.1)
end M60
