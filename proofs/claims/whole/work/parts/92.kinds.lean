/-! outs: both sides, kinds -/
section M92
variable {K2 : (Int → Int) → Int → Int → Int → (Int → Int) → (Int → Int) → Prop}
variable {E x1 x2 x3 x4 n m h t F z r r' B wd wh : Int} {D D' D1 D2 : xD} {T w c c2 c3 p b y : Int → Int} {o1 o2 o3 o4 o5 : Option xv} {Q : Option xv → xD → Prop}
theorem up_mr {v : Int} (h1 : mrG D2 (xup D1 95 23 v)) : (∀ a, a ≠ 95 → (a < 100 ∨ 110 < a) → D2 a = D1 a) ∧ (∀ j, j ≠ 21 → j ≠ 23 → D2 95 j = D1 95 j) ∧ D2 95 23 = v := ⟨fun a a1 a2 => by rw [h1.1 a a1 a2, up_ne a1], fun j j1 j2 => by rw [h1.2 j j1, up_ne2 j2], by rw [h1.2 23 (by decide), up_eq]⟩
theorem pair18 : ∀ (z1 z2 : Int), xinP z1 → xinP z2 → xpr (Inv (kAnd (KN2 K2))) 133 [some (.inr (.inr (some 1))), some (.inl z1), some (.inl z2), none, none] 200 [some (.inr (.inr (some 95))), some (.inl z1), some (.inl z2), none, none, none] := by
  intro z1 z2 hz hz2 D H
  obtain ⟨⟨t, tt, tw⟩, g2, g3, g4, g5, g6, g7⟩ := id H
  obtain ⟨-, hM, hW⟩ := tn_of g2 g3
  obtain ⟨n1, n2⟩ := tnN_of g2 g3
  obtain ⟨T, hT⟩ : ∃ T, T = trA (D 96) := ⟨_, rfl⟩
  have bad : ¬ ((0 ≤ z1 ∧ z1 ≤ 12) ∧ (0 ≤ z2 ∧ z2 ≤ 2)) → ∃ r : Int, (some (.inl (-1)) : Option xv) = some (.inl r) ∧ D 0 = D 0 ∧ WP 124 xF1 none 200 0 [some (.inr (.inr (some 95))), some (.inl z1), some (.inl z2), none, none, none] [] D (fun w D2 => w = some (.inl r) ∧ D2 0 = D 0 ∧ Inv (kAnd (KN2 K2)) D2) := by
    intro hb
    refine ⟨-1, rfl, rfl, ?_⟩
    rw [seg200_0 (ha0 := ho95), m150]
    simp only [Option.toList_some, Option.toList_none, List.cons_append, List.nil_append]
    rw [seg200_4 (ha0 := ho95)]
    by_cases c1 : 0 ≤ z1 ∧ z1 ≤ 12
    · rw [if_pos c1, brF (by decide), m149]
      simp only [Option.toList_some, Option.toList_none, List.cons_append, List.nil_append]
      rw [seg200_13 (ha0 := ho95), if_neg (by omega), brF (by decide), seg200_16 (ha0 := ho95)]
      exact ⟨rfl, rfl, H⟩
    · rw [if_neg c1, brT rfl, seg200_16 (ha0 := ho95)]
      exact ⟨rfl, rfl, H⟩
  -- the reference's part, from what the class leaves
  have mod : (0 ≤ z1 ∧ z1 ≤ 12) → (0 ≤ z2 ∧ z2 ≤ 2) → ∀ (D1 : xD) (v : Int), coF D1 D → (D1 56 1 = 0 ∨ moK T (D1 68) (D1 69) 13) → (z2 = 0 → opT 0 1 (mdl T (fun _ => 1) (-1) 1 z1) v) → (z2 = 1 → opT 0 1 (mdl T (fun _ => 1) (-1) 2 z1) v) → (z2 = 2 → ∃ a1 a2 a3, opT 0 1 (mdl T (fun _ => 1) (-1) 1 z1) a1 ∧ opT 0 1 (mdl T (fun _ => 1) (-1) 2 z1) a2 ∧ opT 0 1 (mdl T (fun _ => 1) (-1) 0 z1) a3 ∧ v = min a3 (a1 + a2)) →
      ∃ r : Int, (some (.inl v) : Option xv) = some (.inl r) ∧ D1 0 = D 0 ∧ WP 124 xF1 none 200 0 [some (.inr (.inr (some 95))), some (.inl z1), some (.inl z2), none, none, none] [] D1 (fun w D2 => w = some (.inl r) ∧ D2 0 = D 0 ∧ Inv (kAnd (KN2 K2)) D2) := by
    intro c1 c2 D1 v f1 hm k0 k1 k2
    refine ⟨v, rfl, f1.1 0 (by decide), ?_⟩
    have hA1 : tnM (D1 96) T := by rw [f1.1 96 (by decide), hT]; exact hM
    have hWT : tnW T := by rw [hT]; exact hW
    have hm' : D1 56 1 = 0 ∨ moK (trA (D 96)) (D1 68) (D1 69) 13 := by rw [← hT]; exact hm
    have e22 : D1 95 22 = -1 := by rw [f1.1 95 (by decide)]; exact tw.1
    rw [seg200_0 (ha0 := ho95), m150]
    simp only [Option.toList_some, Option.toList_none, List.cons_append, List.nil_append]
    rw [seg200_4 (ha0 := ho95), if_pos c1, brF (by decide), m149]
    simp only [Option.toList_some, Option.toList_none, List.cons_append, List.nil_append]
    rw [seg200_13 (ha0 := ho95), if_pos c2, brT (by decide)]
    refine m190 (T := T) (wd := -1) (wh := 1) hWT (by rw [up_ne (by decide)]; exact hA1) (by rw [up_ne2 (by decide)]; exact e22) (by rw [up_eq]) c1 (by decide) (fun D2 y1 p1 p2 p3 p4 => ?_)
    simp only [Option.toList_some, Option.toList_none, List.cons_append, List.nil_append]
    obtain ⟨p11, p12, p13⟩ := up_mr p1
    rw [seg200_28 (ha0 := ho95)]
    refine m190 (T := T) (wd := -1) (wh := 2) hWT (by rw [up_ne (by decide), p11 96 (by decide) (by decide)]; exact hA1) (by rw [up_ne2 (by decide), p12 22 (by decide) (by decide)]; exact e22) (by rw [up_eq]) c1 (by decide) (fun D3 y2 q1 q2 q3 q4 => ?_)
    simp only [Option.toList_some, Option.toList_none, List.cons_append, List.nil_append]
    obtain ⟨q11, q12, q13⟩ := up_mr q1
    have F3 : mrG (xup D3 95 23 0) D1 := ⟨fun a a1 a2 => by rw [up_ne a1, q11 a a1 a2, p11 a a1 a2], fun j hj => by
      by_cases cj : j = 23
      · rw [cj, up_eq, f1.1 95 (by decide)]; exact tw.2.1.symm
      · rw [up_ne2 cj, q12 j hj cj, p12 j hj cj]⟩
    rw [seg200_39 (ha0 := ho95)]
    by_cases c3 : 2 ≤ z2
    · rw [brT c3]
      have e2 : z2 = 2 := by omega
      obtain ⟨a1, a2, a3, b1, b2, b3, b4⟩ := k2 e2
      refine m190 (T := T) (wd := -1) (wh := 0) hWT (by rw [F3.1 96 (by decide) (by decide)]; exact hA1) (by rw [F3.2 22 (by decide)]; exact e22) (by rw [up_eq]) c1 (by decide) (fun D4 y3 s1 s2 s3 s4 => ?_)
      simp only [Option.toList_some, Option.toList_none, List.cons_append, List.nil_append]
      obtain ⟨i1, i2⟩ := inv_mo H f1 hm' (mrG_tr s1 F3)
      have u1 := op_un p2 b1
      have u2 := op_un q2 b2
      have u3 := op_un s2 b3
      rw [seg200_67 (ha0 := ho95), cnX (by omega)]
      by_cases c4 : y1 + y2 ≤ y3
      · rw [brT c4, cnX (by omega), seg200_87 (ha0 := ho95)]
        exact ⟨by rw [show y1 + y2 = v by omega], i1, i2⟩
      · rw [brF c4, seg200_87 (ha0 := ho95)]
        exact ⟨by rw [show y3 = v by omega], i1, i2⟩
    · rw [brF c3]
      obtain ⟨i1, i2⟩ := inv_mo H f1 hm' F3
      by_cases c4 : z2 = 0
      · rw [brF (by omega), seg200_61 (ha0 := ho95)]
        exact ⟨by rw [op_un p2 (k0 c4)], i1, i2⟩
      · rw [brT c4, seg200_61 (ha0 := ho95)]
        exact ⟨by rw [op_un q2 (k1 (by omega))], i1, i2⟩
  rw [← hT] at n1 n2 hW
  rw [seg133_0 (ha0 := ho1), m144]
  simp only [Option.toList_some, Option.toList_none, List.cons_append, List.nil_append]
  rw [seg133_4 (ha0 := ho1)]
  by_cases c1 : 0 ≤ z1 ∧ z1 ≤ 12
  · rw [if_pos c1, brF (by decide)]
    by_cases c2 : z2 < 0
    · rw [brT c2, seg133_16 (ha0 := ho1)]
      exact bad (by omega)
    · rw [brF c2]
      by_cases c3 : z2 ≤ 2
      · rw [brT c3]
        have hm0 : D 56 1 = 0 ∨ moK T (D 68) (D 69) 13 := by rw [hT]; exact g6.1.1
        -- behind both kinds
        have last : ∀ (D3 : xD) (x3 x4 : Int) (o5 : Option xv), (∀ a, a < 57 ∨ 66 < a → D3 a = D a) → (0 ≤ x3 ∧ x3 ≤ 99) → (0 ≤ x4 ∧ x4 ≤ 99) → (z2 ≠ 1 → opT 0 1 (mdl T (fun _ => 1) (-1) 1 z1) x3) → (z2 = 1 → x3 = 0) → (z2 ≠ 0 → opT 0 1 (mdl T (fun _ => 1) (-1) 2 z1) x4) → (z2 = 0 → x4 = 0) → WP 124 xF1 none 133 62 [some (.inr (.inr (some 1))), some (.inl z1), some (.inl z2), some (.inl x3), o5] [.inl x4] D3 (fun v D1 => ∃ r : Int, v = some (.inl r) ∧ D1 0 = D 0 ∧ WP 124 xF1 none 200 0 [some (.inr (.inr (some 95))), some (.inl z1), some (.inl z2), none, none, none] [] D1 (fun w D2 => w = some (.inl r) ∧ D2 0 = D 0 ∧ Inv (kAnd (KN2 K2)) D2)) := by
          intro D3 x3 x4 o5 f3 b3 b4 v1 v2 v3 v4
          rw [seg133_62 (ha0 := ho1)]
          by_cases c4 : 2 ≤ z2
          · rw [brT c4]
            simp only [Nat.reduceAdd]
            refine m46 (T := T) hW (tnN_fr (fun a a1 a2 => f3 a (by omega)) n1) (by rw [f3 3 (by decide)]; exact n2) (by rw [f3 56 (by decide), f3 68 (by decide), f3 69 (by decide)]; exact hm0) (fun D4 k1 k2 k3 k4 => ?_)
            simp only [Option.toList_some, Option.toList_none, List.cons_append, List.nil_append]
            have kb := k4 z1 c1.1 (by omega)
            rw [seg133_85 (ha0 := ho1), cnB (by omega), cnX (by omega)]
            simp only [Nat.reduceAdd]
            exact mod c1 ⟨by omega, c3⟩ D4 _ ⟨fun a ha => by rw [k1 a ha, f3 a (by omega)], fun j hj => by rw [k2 j (by omega), f3 56 (by decide)]⟩ (.inr k4) (fun z => by omega) (fun z => by omega) (fun _ => ⟨x3, x4, D4 68 z1, v1 (by omega), v3 (by omega), kb.2.1, rfl⟩)
          · rw [brF c4, cnX (by omega)]
            have f3c : coF D3 D := ⟨fun a ha => f3 a (by omega), fun j hj => by rw [f3 56 (by decide)]⟩
            refine mod c1 ⟨by omega, c3⟩ D3 _ f3c (by rw [f3 56 (by decide), f3 68 (by decide), f3 69 (by decide)]; exact hm0) (fun z => ?_) (fun z => ?_) (fun z => by omega)
            · rw [v4 z, Int.add_zero]; exact v1 (by omega)
            · rw [v2 z, Int.zero_add]; exact v3 (by omega)
        have mid : ∀ (D3 : xD) (x3 : Int), (∀ a, a < 57 ∨ 66 < a → D3 a = D a) → (0 ≤ x3 ∧ x3 ≤ 99) → (z2 ≠ 1 → opT 0 1 (mdl T (fun _ => 1) (-1) 1 z1) x3) → (z2 = 1 → x3 = 0) → WP 124 xF1 none 133 40 [some (.inr (.inr (some 1))), some (.inl z1), some (.inl z2), none, none] [.inl x3] D3 (fun v D1 => ∃ r : Int, v = some (.inl r) ∧ D1 0 = D 0 ∧ WP 124 xF1 none 200 0 [some (.inr (.inr (some 95))), some (.inl z1), some (.inl z2), none, none, none] [] D1 (fun w D2 => w = some (.inl r) ∧ D2 0 = D 0 ∧ Inv (kAnd (KN2 K2)) D2)) := by
          intro D3 x3 f3 b3 v1 v2
          rw [seg133_40 (ha0 := ho1)]
          by_cases c4 : z2 = 0
          · rw [brF (by omega)]
            exact last D3 x3 0 _ f3 b3 (by decide) v1 v2 (fun z => absurd c4 z) (fun _ => rfl)
          · rw [brT c4]
            simp only [Nat.reduceAdd]
            refine m49 (T := T) hW (tnN_fr (fun a a1 a2 => f3 a (by omega)) n1) (by rw [f3 3 (by decide)]; exact n2) c1 (by decide) (fun D4 F k1 k2 k3 => ?_)
            simp only [Option.toList_some, Option.toList_none, List.cons_append, List.nil_append]
            exact last D4 x3 F _ (fun a ha => by rw [k1 a ha, f3 a ha]) b3 k3 v1 v2 (fun _ => k2) (fun z => absurd z c4)
        by_cases c4 : z2 = 1
        · rw [brF (by omega)]
          exact mid D 0 (fun _ _ => rfl) (by decide) (fun z => absurd c4 z) (fun _ => rfl)
        · rw [brT c4]
          simp only [Nat.reduceAdd]
          refine m49 (T := T) hW n1 n2 c1 (by decide) (fun D4 F k1 k2 k3 => ?_)
          simp only [Option.toList_some, Option.toList_none, List.cons_append, List.nil_append]
          exact mid D4 F k1 k3 (fun _ => k2) (fun z => absurd z c4)
      · rw [brF c3, seg133_16 (ha0 := ho1)]
        exact bad (by omega)
  · rw [if_neg c1, brT rfl, seg133_16 (ha0 := ho1)]
    exact bad (by omega)
end M92
