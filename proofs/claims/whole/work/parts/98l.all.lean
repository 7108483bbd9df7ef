/-! outs: both sides, all -/
def nxS (M s : Int) : Int := iand (s - M) M
def itS (M : Int) : Nat → Int
  | 0 => 0
  | n + 1 => nxS M (itS M n)
def tsT (T : Int → Int) (x : Int) : Int → Int := fun j => if j = 5 then x else T j
/-- the streets that may be turned -/
def mskP (T : Int → Int) (M : Int) : Prop := (0 ≤ M ∧ M < 65536) ∧ ∀ i : Nat, i < 32 → bI M i = decide ((i : Int) < T 0 ∧ T (30 + 7 * i + 6) = 1)
/-- the best of so many sets -/
def tuR (T : Int → Int) (M : Int) : Nat → Int → Int → Prop
  | 0, s, v => s = 0 ∧ v = -1
  | n + 1, s, v => ∃ s' v' q, tuR T M n s' v' ∧ qkP (tsT T (itS M n)) q ∧ ((0 ≤ q ∧ (v' < 0 ∨ q < v') ∧ s = itS M n ∧ v = q) ∨ (¬ (0 ≤ q ∧ (v' < 0 ∨ q < v')) ∧ s = s' ∧ v = v'))
def tuP (T : Int → Int) (s v : Int) : Prop := ∀ (M : Int) (n : Nat) (s' v' : Int), mskP T M → itS M n = M → (∀ i, i < n → itS M i ≠ M) → tuR T M (n + 1) s' v' → s = s' ∧ v = v'
def K2c (T : Int → Int) (k9 k10 k11 : Int) (c4 c5 : Int → Int) : Prop := (∀ t, 0 ≤ t → t < 13 → c4 t = -1 ∨ suP T t (c4 t)) ∧ k71 T c5 ∧ (k9 = 0 ∨ tuP T k10 k11)
section M98l
variable {z1 z2 : Int} {D D1 D2 : xD}
theorem inv_al (H : Inv (kAnd (KN2 K2c)) D) (h1 : ∀ a, a < 56 ∨ 72 < a → D1 a = D a) (h9 : D1 56 9 = 0 ∨ tuP (trA (D 96)) (D1 56 10) (D1 56 11)) (hm : D1 56 1 = 0 ∨ moK (trA (D 96)) (D1 68) (D1 69) 13) (h70 : ∀ t, 0 ≤ t → t < 13 → D1 70 t = -1 ∨ suP (trA (D 96)) t (D1 70 t)) (h71 : k71 (trA (D 96)) (D1 71)) (h2 : mrH D2 D1) : D2 0 = D 0 ∧ Inv (kAnd (KN2 K2c)) D2 := by
  obtain ⟨⟨t, tt, tw⟩, g2, g3, g4, g5, g6, g7⟩ := id H
  have e : ∀ a, a ≠ 95 → a < 56 ∨ (72 < a ∧ a < 100) → D2 a = D a := fun a a1 a2 => by rw [h2.1 a a1 (by omega), h1 a (by omega)]
  have e95 : ∀ j, j ≠ 21 → D2 95 j = D 95 j := fun j hj => by rw [h2.2 j hj, h1 95 (by decide)]
  have e56 : D2 56 = D1 56 := h2.1 56 (by decide) (by decide)
  refine ⟨e 0 (by decide) (by decide), Inv_put H (fun a a1 a2 a3 a4 a5 a6 a7 a8 a9 a10 => e a a10 (by unfold xfre at a1; omega)) (by rw [e 85 (by decide) (by decide)]; exact g7) (fun i hi => e95 i (by omega)) ⟨by rw [e95 22 (by decide)]; exact tw.1, by rw [e95 23 (by decide)]; exact tw.2.1, by rw [e95 44 (by decide)]; exact tw.2.2⟩ ⟨⟨?_, ?_, ?_, ?_⟩, ?_⟩⟩
  · rw [e56, h2.1 68 (by decide) (by decide), h2.1 69 (by decide) (by decide)]; exact hm
  · rw [h2.1 70 (by decide) (by decide)]; exact h70
  · rw [h2.1 71 (by decide) (by decide)]; exact h71
  · rw [e56]; exact h9
  · rw [e 91 (by decide) (by decide), e 92 (by decide) (by decide)]; exact g6.2
theorem pair10 : ∀ (z1 z2 : Int), xinP z1 → xinP z2 → xpr (Inv (kAnd (KN2 K2c))) 124 [some (.inr (.inr (some 1))), some (.inl z1), some (.inl z2)] 197 [some (.inr (.inr (some 95))), some (.inl z1), some (.inl z2), none, none, none, none] := by
  intro z1 z2 hz hz2 D H
  obtain ⟨⟨t, tt, tw⟩, g2, g3, g4, g5, g6, g7⟩ := id H
  obtain ⟨-, hM, hW⟩ := tn_of g2 g3
  obtain ⟨n1, n2⟩ := tnN_of g2 g3
  have bad : ¬ ((0 ≤ z1 ∧ z1 ≤ 12) ∧ (0 ≤ z2 ∧ z2 ≤ 3)) → ∃ r : Int, (some (.inl (-1)) : Option xv) = some (.inl r) ∧ D 0 = D 0 ∧ WP 124 xF1 none 197 0 [some (.inr (.inr (some 95))), some (.inl z1), some (.inl z2), none, none, none, none] [] D (fun w D2 => w = some (.inl r) ∧ D2 0 = D 0 ∧ Inv (kAnd (KN2 K2c)) D2) := by
    intro hb
    refine ⟨-1, rfl, rfl, ?_⟩
    rw [seg197_0 (ha0 := ho95), m150]
    simp only [Option.toList_some, Option.toList_none, List.cons_append, List.nil_append]
    rw [seg197_4 (ha0 := ho95)]
    by_cases c1 : 0 ≤ z1 ∧ z1 ≤ 12
    · rw [if_pos c1, brF (by decide), m149]
      simp only [Option.toList_some, Option.toList_none, List.cons_append, List.nil_append]
      rw [seg197_13 (ha0 := ho95), if_neg (by omega), brF (by decide), seg197_16 (ha0 := ho95)]
      exact ⟨rfl, rfl, H⟩
    · rw [if_neg c1, brT rfl, seg197_16 (ha0 := ho95)]
      exact ⟨rfl, rfl, H⟩
  have mod : (0 ≤ z1 ∧ z1 ≤ 12) → (0 ≤ z2 ∧ z2 ≤ 3) → ∀ (D1 : xD) (v : Int), (∀ a, a < 56 ∨ 72 < a → D1 a = D a) → (∀ j, j = 9 ∨ j = 10 ∨ j = 11 → D1 56 j = D 56 j) → moK (trA (D 96)) (D1 68) (D1 69) 13 → (∀ t, 0 ≤ t → t < 13 → D1 70 t = -1 ∨ suP (trA (D 96)) t (D1 70 t)) → k71 (trA (D 96)) (D1 71) → suP (trA (D 96)) z1 (D1 70 z1) → (z2 = 0 → v = D1 70 z1) → (z2 = 1 → v = if D1 70 z1 = smI (D1 68) 0 (z1 + 1).toNat then 1 else 0) → (2 ≤ z2 → (D1 70 z1 = smI (D1 68) 0 (z1 + 1).toNat → v = -1) ∧ (D1 70 z1 ≠ smI (D1 68) 0 (z1 + 1).toNat → ∃ r1 r2, quF (trA (D 96)) z1 r1 r2 ∧ v = if z2 = 2 then r1 else r2)) →
      ∃ r : Int, (some (.inl v) : Option xv) = some (.inl r) ∧ D1 0 = D 0 ∧ WP 124 xF1 none 197 0 [some (.inr (.inr (some 95))), some (.inl z1), some (.inl z2), none, none, none, none] [] D1 (fun w D2 => w = some (.inl r) ∧ D2 0 = D 0 ∧ Inv (kAnd (KN2 K2c)) D2) := by
    intro c1 c2 D1 v h1 hj hm h70 h71 hs v0 v1 v2
    refine ⟨v, rfl, h1 0 (by decide), ?_⟩
    refine m197 (T := trA (D 96)) (c2 := D1 68) (c3 := D1 69) (z := D1 70 z1) hW (by rw [h1 96 (by decide)]; exact hM) (by rw [h1 95 (by decide)]; exact tw.1) (by rw [h1 95 (by decide)]; exact tw.2.1) hm hs c1 c2 (fun D2 r k1 k2 k3 k4 => ?_)
    obtain ⟨i1, i2⟩ := inv_al H h1 (by rw [hj 9 (by decide), hj 10 (by decide), hj 11 (by decide)]; exact g6.1.2.2.2) (.inr hm) h70 h71 k1
    refine ⟨?_, i1, i2⟩
    have e : r = v := by
      by_cases q0 : z2 = 0
      · rw [k2 q0, v0 q0]
      · by_cases q1 : z2 = 1
        · rw [k3 q1, v1 q1]
        · have q2 : 2 ≤ z2 := by omega
          by_cases q3 : D1 70 z1 = smI (D1 68) 0 (z1 + 1).toNat
          · rw [(k4 q2).1 q3, (v2 q2).1 q3]
          · obtain ⟨r1, r2, a1, a2⟩ := (k4 q2).2 q3
            obtain ⟨r3, r4, b1, b2⟩ := (v2 q2).2 q3
            obtain ⟨u1, u2⟩ := qu_un a1 b1
            rw [a2, b2, u1, u2]
    rw [e]
  rw [seg124_0 (ha0 := ho1), m144]
  simp only [Option.toList_some, Option.toList_none, List.cons_append, List.nil_append]
  rw [seg124_4 (ha0 := ho1)]
  by_cases c1 : 0 ≤ z1 ∧ z1 ≤ 12
  · rw [if_pos c1, brF (by decide)]
    by_cases c2 : z2 < 0
    · rw [brT c2, seg124_16 (ha0 := ho1)]
      exact bad (by omega)
    · rw [brF c2]
      by_cases c3 : z2 ≤ 3
      · rw [brT c3]
        simp only [Nat.reduceAdd]
        refine cls46 H (fun D1 f1 f2 f3 => ?_)
        simp only [Option.toList_some, Option.toList_none, List.cons_append, List.nil_append]
        rw [seg124_29 (ha0 := ho1)]
        simp only [Nat.reduceAdd]
        have N1 : tnN D1 (trA (D 96)) := tnN_fr (fun a a1 a2 => f1.1 a (by omega)) n1
        refine m50 (T := trA (D 96)) hW N1 (by rw [f1.1 3 (by decide)]; exact n2) c1 (by rw [f1.1 70 (by decide)]; exact g6.1.2.1) (fun D2 k1 k2 k3 => ?_)
        simp only [Option.toList_some, Option.toList_none, List.cons_append, List.nil_append]
        have F2 : ∀ a, a < 56 ∨ 72 < a → D2 a = D a := fun a ha => by rw [k1 a (by omega), f1.1 a (by omega)]
        have J2 : ∀ j, j = 9 ∨ j = 10 ∨ j = 11 → D2 56 j = D 56 j := fun j hj => by rw [k1 56 (by decide)]; exact f1.2 j hj
        have M2 : moK (trA (D 96)) (D2 68) (D2 69) 13 := by rw [k1 68 (by decide), k1 69 (by decide)]; exact f3
        have K7 : k71 (trA (D 96)) (D2 71) := by rw [k1 71 (by decide), f1.1 71 (by decide)]; exact g6.1.2.2.1
        rw [seg124_41 (ha0 := ho1)]
        simp only [Nat.reduceAdd]
        by_cases c4 : z2 ≠ 0
        · rw [brT c4]
          by_cases c5 : z2 ≠ 1
          · rw [brT c5]
            refine m52 (T := trA (D 96)) hW (tnN_fr (fun a a1 a2 => F2 a (by omega)) n1) (by rw [F2 3 (by decide)]; exact n2) M2 K7 c1 (fun D3 q1 q2 q3 q4 q5 => ?_)
            simp only [Option.toList_some, Option.toList_none, List.cons_append, List.nil_append]
            rw [seg124_89 (ha0 := ho1)]
            simp only [Nat.reduceAdd]
            have go : ∀ v, v = (if z2 = 2 then D3 56 7 else D3 56 8) → ∃ r : Int, (some (.inl v) : Option xv) = some (.inl r) ∧ D3 0 = D 0 ∧ WP 124 xF1 none 197 0 [some (.inr (.inr (some 95))), some (.inl z1), some (.inl z2), none, none, none, none] [] D3 (fun w D2 => w = some (.inl r) ∧ D2 0 = D 0 ∧ Inv (kAnd (KN2 K2c)) D2) := by
              intro v hv
              have e68 : D3 68 = D2 68 := q1 68 (by decide)
              have e70 : D3 70 = D2 70 := q1 70 (by decide)
              refine mod c1 (by omega) D3 v (fun a ha => by rw [q1 a (by omega)]; exact F2 a ha) (fun j hj => by rw [q2 j (by omega) (by omega)]; exact J2 j hj) (by rw [e68, q1 69 (by decide)]; exact M2) (by rw [e70]; exact k2) q3 (by rw [e70]; exact k3) (fun z => absurd z c4) (fun z => absurd z c5) (fun _ => ⟨fun z => ?_, fun z => ⟨_, _, q5 (by rw [← e68, ← e70]; exact z), hv⟩⟩)
              obtain ⟨p1, p2⟩ := q4 (by rw [← e68, ← e70]; exact z)
              rw [hv, p1, p2, ite_self]
            by_cases c6 : z2 ≠ 2
            · rw [brT c6, seg124_111 (ha0 := ho1)]
              exact go _ (by rw [if_neg c6])
            · rw [brF c6, seg124_111 (ha0 := ho1)]
              exact go _ (by rw [if_pos (by omega)])
          · rw [brF c5, m51 c1 (fun j j1 j2 => (M2 j j1 j2).1)]
            simp only [Option.toList_some, Option.toList_none, List.cons_append, List.nil_append]
            rw [seg124_68 (ha0 := ho1)]
            have go := fun v hv => mod c1 (by omega) D2 v F2 J2 M2 k2 K7 k3 (fun z => absurd z c4) hv (fun z => by omega)
            by_cases c6 : D2 70 z1 = smI (D2 68) 0 (z1 + 1).toNat
            · rw [if_pos c6, brF (by decide), seg124_76 (ha0 := ho1)]
              exact go _ (fun _ => by rw [if_pos c6])
            · rw [if_neg c6, brT rfl, seg124_76 (ha0 := ho1)]
              exact go _ (fun _ => by rw [if_neg c6])
        · rw [brF c4, cnB (by omega)]
          exact mod c1 (by omega) D2 _ F2 J2 M2 k2 K7 k3 (fun _ => rfl) (fun z => by omega) (fun z => by omega)
      · rw [brF c3, seg124_16 (ha0 := ho1)]
        exact bad (by omega)
  · rw [if_neg c1, brT rfl, seg124_16 (ha0 := ho1)]
    exact bad (by omega)
end M98l
