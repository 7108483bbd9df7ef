/-! outs: both sides, the wider street, the pair -/
section M96
variable {K2 : (Int → Int) → Int → Int → Int → (Int → Int) → (Int → Int) → Prop}
variable {E x1 x2 x3 x4 n m h t F z s B wd wh : Int} {D D' D1 D2 : xD} {T w c c' r p b y G G' : Int → Int} {o1 o2 o3 o4 o5 o7 : Option xv} {V : (Int → Int → Int → Int → Int) → Int} {Q : Option xv → xD → Prop}
theorem m56 (hT : tnW T) (H : tnN D T) (h5 : D 3 1 = T 5) (hh : 0 ≤ x2 ∧ x2 ≤ 12) (hq : ∀ (D' : xD) G F, (∀ a, a < 56 ∨ 66 < a → D' a = D a) → (∀ j, j ≠ 12 → j ≠ 13 → D' 56 j = D 56 j) → opT 0 1 (mdl T (fun _ => 1) (-1) 0 x2) F → (∀ s, 0 ≤ s → s < T 0 → opT 0 1 (mdl T (fun _ => 1) s 0 x2) (F + G s)) → D' 56 12 = (foC G (T 0).toNat).1 → D' 56 13 = (foC G (T 0).toNat).2 → Q none D') :
    WP 124 xF1 none 56 0 [some (.inr (.inr (some 56))), some (.inr (.inr (some 3))), some (.inl x2), o3, o4] [] D Q := by
  have w0 := hT.1
  rw [seg56_0 (ha0 := ho56) (ha1 := ho3)]
  simp only [Nat.reduceAdd]
  rw [h5]
  refine m27 (T := T) hT H rfl (by decide) (fun D2 f1 f2 => ?_)
  simp only [Option.toList_some, Option.toList_none, List.cons_append, List.nil_append, Nat.reduceAdd]
  rw [seg56_16 (ha0 := ho56) (ha1 := ho3)]
  simp only [Nat.reduceAdd]
  have c0 := cl_0 (h := x2) hT (by decide) f2
  have c99 := nc_99 hT (by decide) f2
  refine m36 c0 (cl_W hT (by decide) c0.1) (fun D3 F' g1 g2 g3 g4 => ?_)
  simp only [Option.toList_some, Option.toList_none, List.cons_append, List.nil_append, Nat.reduceAdd]
  rw [seg56_24 (ha0 := ho56) (ha1 := ho3)]
  simp only [Nat.reduceAdd]
  have e57 : D3 57 = D2 57 := g1 57 (by decide) (by decide) (by decide)
  have hE := g2.1.1
  rw [seg33_0 (ha0 := ho57)]
  refine ⟨by omega, ?_⟩
  simp only [Option.toList_some, Option.toList_none, List.cons_append, List.nil_append, Nat.reduceAdd]
  obtain ⟨D4, hD4⟩ : ∃ D4, D4 = xcpy D3 61 64 0 0 (D3 57 0) := ⟨_, rfl⟩
  rw [← hD4]
  have k4 : ∀ a, a ≠ 64 → D4 a = D3 a := fun a ha => by rw [hD4, cpy_ne ha]
  have l4 : ∀ j, 0 ≤ j → j < D3 57 0 → D4 64 j = D3 61 j := fun j j1 j2 => by rw [hD4, cpy_in ⟨j1, j2⟩]
  clear hD4
  rw [seg56_32 (ha0 := ho56) (ha1 := ho3)]
  obtain ⟨D5, hD5⟩ : ∃ D5, D5 = xup (xup D4 56 12 (-1)) 56 13 (-1) := ⟨_, rfl⟩
  rw [← hD5]
  have k5 : ∀ a, a ≠ 56 → D5 a = D4 a := fun a ha => by rw [hD5, up_ne ha, up_ne ha]
  have a12 : D5 56 12 = -1 := by rw [hD5, up_ne2 (by decide), up_eq]
  have a13 : D5 56 13 = -1 := by rw [hD5, up_eq]
  have a56 : ∀ j, j ≠ 12 → j ≠ 13 → D5 56 j = D4 56 j := fun j j1 j2 => by rw [hD5, up_ne2 j2, up_ne2 j1]
  clear hD5
  have c5 : clI D5 (cPr (D2 61)) x2 F' (csS T 0) := cl_fr (fun a a1 a2 => by rw [k5 a (by omega), k4 a (by omega)]) g2
  have F5 : ∀ a, a < 56 ∨ 66 < a → D5 a = D a := fun a ha => by rw [k5 a (by omega), k4 a (by omega), g1 a (by omega) (by omega) (by omega), f1 a (by omega) (by omega) (by omega) (by omega) (by omega) (by omega)]
  have m0 := mo_cl hT hh (by decide) g2 g4
  have d4 : D5 4 11 = T 0 := by rw [F5 4 (by decide)]; exact H.1.1
  have e557 : D5 57 = D2 57 := by rw [k5 57 (by decide), k4 57 (by decide), e57]
  have e561 : D5 61 = D3 61 := by rw [k5 61 (by decide), k4 61 (by decide)]
  have e564 : D5 64 = D4 64 := k5 64 (by decide)
  have l := l56 (Q := Q) (D := D5) hT hh d4 c5 (by rw [e557]; exact c99) (by rw [e564, e561, e557, ← e57]; exact l4) (fun D6 G q1 q2 q3 q4 => ?_) (T 0).toNat 0 D5 o4 (fun _ => 0) (by omega) ⟨fun _ _ _ _ _ => rfl, fun _ _ _ => rfl⟩ (fun s s1 s2 => by omega) a12 a13
  · exact l
  · exact hq D6 G F' (fun a ha => by rw [q1.1 a (by omega) (by omega) (by omega) (by omega), F5 a ha]) (fun j j1 j2 => by rw [q1.2 j j1 j2, a56 j j1 j2, k4 56 (by decide), g1 56 (by decide) (by decide) (by decide), f1 56 (by decide) (by decide) (by decide) (by decide) (by decide) (by decide)]) m0 q2 q3 q4
def mrW (D' D : xD) : Prop := (∀ a, a ≠ 95 → (a < 100 ∨ 110 < a) → D' a = D a) ∧ ∀ j, j ≠ 21 → j ≠ 22 → D' 95 j = D 95 j
theorem l199 (hT : tnW T) (hA : tnM (D 96) T) (h23 : D 95 23 = 0) (hh : 0 ≤ x1 ∧ x1 ≤ 12) (hF : 0 ≤ F ∧ F ≤ 1287) (hop : ∀ s, 0 ≤ s → s < T 0 → opT 0 1 (mdl T (fun _ => 1) s 0 x1) (F + G s))
    (hq : ∀ (D' : xD), mrG D' (xup D 95 22 (-1)) → Q (some (.inl (if 0 ≤ (foM G (T 0).toNat).1 then (if x2 ≠ 0 then (foM G (T 0).toNat).2 else (foM G (T 0).toNat).1) else -1))) D') :
    ∀ (k n : Nat) (D' : xD) (o7 : Option xv), T 0 = n + k → mrW D' D → WP 124 xF1 none 199 33 [some (.inr (.inr (some 95))), some (.inl x1), some (.inl x2), some (.inl F), some (.inl (foM G n).1), some (.inl (foM G n).2), some (.inl (n : Int)), o7] [] D' Q := by
  have w0 := hT.1
  intro k
  induction k with
  | zero =>
    intro n D' o7 h1 h2
    have e0 : D' 96 0 = T 0 := by rw [h2.1 96 (by decide) (by decide)]; exact hA 0 (by decide)
    have hq2 := hq (xup D' 95 22 (-1)) ⟨fun a a1 a2 => by rw [up_ne a1, up_ne a1]; exact h2.1 a a1 a2, fun j hj => by
      by_cases cj : j = 22
      · rw [cj, up_eq, up_eq]
      · rw [up_ne2 cj, up_ne2 cj]; exact h2.2 j hj cj⟩
    rw [show (T 0).toNat = n by omega] at hq2
    rw [seg199_33 (ha0 := ho95), cnB (by decide)]
    simp only [Nat.reduceAdd]
    rw [e0, brT (by omega)]
    by_cases c1 : 0 ≤ (foM G n).1
    · rw [brT c1]
      rw [if_pos c1] at hq2
      by_cases c2 : x2 ≠ 0
      · rw [brT c2, seg199_108 (ha0 := ho95)]
        rw [if_pos c2] at hq2
        exact hq2
      · rw [brF c2, seg199_108 (ha0 := ho95)]
        rw [if_neg c2] at hq2
        exact hq2
    · rw [brF c1, seg199_108 (ha0 := ho95)]
      rw [if_neg c1] at hq2
      exact hq2
  | succ k ih =>
    intro n D' o7 h1 h2
    have e0 : D' 96 0 = T 0 := by rw [h2.1 96 (by decide) (by decide)]; exact hA 0 (by decide)
    rw [seg199_33 (ha0 := ho95), cnB (by decide)]
    simp only [Nat.reduceAdd]
    rw [e0, brF (by omega)]
    refine m190 (T := T) (wd := n) (wh := 0) hT (by rw [up_ne (by decide), h2.1 96 (by decide) (by decide)]; exact hA) (by rw [up_eq]) (by rw [up_ne2 (by decide), h2.2 23 (by decide) (by decide)]; exact h23) hh (by decide) (fun D2 z k1 k2 k3 k4 => ?_)
    simp only [Option.toList_some, Option.toList_none, List.cons_append, List.nil_append]
    have ez := op_un k2 (hop n (by omega) (by omega))
    have F2 : mrW D2 D := ⟨fun a a1 a2 => by rw [k1.1 a a1 a2, up_ne a1]; exact h2.1 a a1 a2, fun j j1 j2 => by rw [k1.2 j j1, up_ne2 j2]; exact h2.2 j j1 j2⟩
    have nx := fun o7 => ih (n + 1) D2 o7 (by omega) F2
    simp only [foM] at nx
    rw [seg199_55 (ha0 := ho95), cnX (by omega), show z - F = G n by omega]
    by_cases c1 : (foM G n).2 < G n
    · rw [brT c1, seg199_77 (ha0 := ho95), cnX (by omega), show (n : Int) + 1 = ((n + 1 : Nat) : Int) by omega]
      rw [if_pos c1] at nx
      exact nx _
    · rw [brF c1, seg199_77 (ha0 := ho95), cnX (by omega), show (n : Int) + 1 = ((n + 1 : Nat) : Int) by omega]
      rw [if_neg c1] at nx
      exact nx _
theorem pair12 : ∀ (z1 z2 : Int), xinP z1 → xinP z2 → xpr (Inv (kAnd (KN2 K2))) 126 [some (.inr (.inr (some 1))), some (.inl z1), some (.inl z2)] 199 [some (.inr (.inr (some 95))), some (.inl z1), some (.inl z2), none, none, none, none, none] := by
  intro z1 z2 hz hz2 D H
  obtain ⟨⟨t, tt, tw⟩, g2, g3, g4, g5, g6, g7⟩ := id H
  obtain ⟨-, hM, hW⟩ := tn_of g2 g3
  obtain ⟨n1, n2⟩ := tnN_of g2 g3
  have bad : ¬ ((0 ≤ z1 ∧ z1 ≤ 12) ∧ (0 ≤ z2 ∧ z2 ≤ 1)) → ∃ r : Int, (some (.inl (-1)) : Option xv) = some (.inl r) ∧ D 0 = D 0 ∧ WP 124 xF1 none 199 0 [some (.inr (.inr (some 95))), some (.inl z1), some (.inl z2), none, none, none, none, none] [] D (fun w D2 => w = some (.inl r) ∧ D2 0 = D 0 ∧ Inv (kAnd (KN2 K2)) D2) := by
    intro hb
    refine ⟨-1, rfl, rfl, ?_⟩
    rw [seg199_0 (ha0 := ho95), m150]
    simp only [Option.toList_some, Option.toList_none, List.cons_append, List.nil_append]
    rw [seg199_4 (ha0 := ho95)]
    by_cases c1 : 0 ≤ z1 ∧ z1 ≤ 12
    · rw [if_pos c1, brF (by decide), m149]
      simp only [Option.toList_some, Option.toList_none, List.cons_append, List.nil_append]
      rw [seg199_13 (ha0 := ho95), if_neg (by omega), brF (by decide), seg199_16 (ha0 := ho95)]
      exact ⟨rfl, rfl, H⟩
    · rw [if_neg c1, brT rfl, seg199_16 (ha0 := ho95)]
      exact ⟨rfl, rfl, H⟩
  rw [seg126_0 (ha0 := ho1), m144]
  simp only [Option.toList_some, Option.toList_none, List.cons_append, List.nil_append]
  rw [seg126_4 (ha0 := ho1)]
  by_cases c1 : 0 ≤ z1 ∧ z1 ≤ 12
  · rw [if_pos c1, brF (by decide)]
    by_cases c2 : z2 < 0
    · rw [brT c2, seg126_16 (ha0 := ho1)]
      exact bad (by omega)
    · rw [brF c2]
      by_cases c3 : z2 ≤ 1
      · rw [brT c3]
        simp only [Nat.reduceAdd]
        refine m56 (T := trA (D 96)) hW n1 n2 c1 (fun D1 G F f1 f2 f3 f4 f5 f6 => ?_)
        simp only [Option.toList_some, Option.toList_none, List.cons_append, List.nil_append]
        have mod : ∀ v, (v = if z2 ≠ 0 then (foC G (trA (D 96) 0).toNat).2 else (foC G (trA (D 96) 0).toNat).1) → ∃ r : Int, (some (.inl v) : Option xv) = some (.inl r) ∧ D1 0 = D 0 ∧ WP 124 xF1 none 199 0 [some (.inr (.inr (some 95))), some (.inl z1), some (.inl z2), none, none, none, none, none] [] D1 (fun w D2 => w = some (.inl r) ∧ D2 0 = D 0 ∧ Inv (kAnd (KN2 K2)) D2) := by
          intro v hv
          refine ⟨v, rfl, f1 0 (by decide), ?_⟩
          rw [seg199_0 (ha0 := ho95), m150, if_pos c1]
          simp only [Option.toList_some, Option.toList_none, List.cons_append, List.nil_append]
          rw [seg199_4 (ha0 := ho95), brF (by decide), m149, if_pos (by omega)]
          simp only [Option.toList_some, Option.toList_none, List.cons_append, List.nil_append]
          rw [seg199_13 (ha0 := ho95), brT (by decide)]
          refine m190 (T := trA (D 96)) (wd := -1) (wh := 0) hW (by rw [f1 96 (by decide)]; exact hM) (by rw [f1 95 (by decide)]; exact tw.1) (by rw [f1 95 (by decide)]; exact tw.2.1) c1 (by decide) (fun D2 z k1 k2 k3 k4 => ?_)
          simp only [Option.toList_some, Option.toList_none, List.cons_append, List.nil_append]
          have ez := op_un k2 f3
          subst ez
          rw [seg199_23 (ha0 := ho95)]
          have l := l199 (D := D2) (G := G) (x2 := z2) (Q := fun w D2 => w = some (.inl v) ∧ D2 0 = D 0 ∧ Inv (kAnd (KN2 K2)) D2) hW (by rw [k1.1 96 (by decide) (by decide), f1 96 (by decide)]; exact hM) (by rw [k1.2 23 (by decide), f1 95 (by decide)]; exact tw.2.1) c1 k4 f4 (fun D3 q1 => ?_) (trA (D 96) 0).toNat 0 D2 none (by have := hW.1; omega) ⟨fun _ _ _ => rfl, fun _ _ _ => rfl⟩
          · exact l
          · have q2 : mrG D3 D1 := mrG_tr (D1 := D2) ⟨fun a a1 a2 => by rw [q1.1 a a1 a2, up_ne a1], fun j hj => by
              rw [q1.2 j hj]
              by_cases cj : j = 22
              · rw [cj, up_eq, k1.2 22 (by decide), f1 95 (by decide)]; exact tw.1.symm
              · rw [up_ne2 cj]⟩ k1
            obtain ⟨i1, i2⟩ := inv_mo H ⟨fun a ha => f1 a (by omega), fun j hj => f2 j (by omega) (by omega)⟩ (by rw [f2 1 (by decide) (by decide), f1 68 (by decide), f1 69 (by decide)]; exact g6.1.1) q2
            refine ⟨?_, i1, i2⟩
            rw [hv]
            rcases fo_eq (G := G) (trA (D 96) 0).toNat with ⟨a1, a2, a3⟩ | ⟨a1, a2, a3⟩
            · rw [if_neg (by omega), a3]
              simp
            · rw [if_pos a1, a3]
        rw [seg126_30 (ha0 := ho1)]
        simp only [Nat.reduceAdd]
        by_cases c4 : z2 ≠ 0
        · rw [brT c4, seg126_51 (ha0 := ho1)]
          exact mod _ (by rw [if_pos c4, f6])
        · rw [brF c4, seg126_51 (ha0 := ho1)]
          exact mod _ (by rw [if_neg c4, f5])
      · rw [brF c3, seg126_16 (ha0 := ho1)]
        exact bad (by omega)
  · rw [if_neg c1, brT rfl, seg126_16 (ha0 := ho1)]
    exact bad (by omega)
end M96
