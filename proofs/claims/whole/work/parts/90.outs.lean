/-! outs: both sides, the most -/
def mrG (D' D : xD) : Prop := (∀ a, a ≠ 95 → (a < 100 ∨ 110 < a) → D' a = D a) ∧ ∀ j, j ≠ 21 → D' 95 j = D 95 j
def KN2 (K2 : (Int → Int) → Int → Int → Int → (Int → Int) → (Int → Int) → Prop) : (Int → Int) → (Int → Int) → (Int → Int) → (Int → Int) → (Int → Int) → (Int → Int) → Prop :=
  fun T c1 c2 c3 c4 c5 => (c1 1 = 0 ∨ moK T c2 c3 13) ∧ K2 T (c1 9) (c1 10) (c1 11) c4 c5
/-- what the class may have changed in finding the most -/
def coF (D1 D : xD) : Prop := (∀ a, a < 56 ∨ 69 < a → D1 a = D a) ∧ (∀ j, j = 9 ∨ j = 10 ∨ j = 11 → D1 56 j = D 56 j)
section M90
variable {K2 : (Int → Int) → Int → Int → Int → (Int → Int) → (Int → Int) → Prop}
variable {E x1 x2 x3 x4 n m h t F z B wd wh : Int} {D D' D1 D2 : xD} {T w c r p b y : Int → Int} {o1 o2 o3 o4 : Option xv} {Q : Option xv → xD → Prop}
theorem mrG_tr (h1 : mrG D2 D1) (h2 : mrG D1 D) : mrG D2 D := ⟨fun a a1 a2 => by rw [h1.1 a a1 a2, h2.1 a a1 a2], fun j hj => by rw [h1.2 j hj, h2.2 j hj]⟩
theorem tnN_of (hs : IS D 3 (D 96)) (hw : WfA (D 96)) : tnN D (trA (D 96)) ∧ D 3 1 = trA (D 96) 5 := by
  obtain ⟨⟨e1, e2, e3, e4, e5⟩, hb, hsl, hst, hp, hd, hcc, hk⟩ := id hs
  simp only [Nat.reduceAdd] at e1 e2 e3 e4 e5 hb hsl hst hp hd hcc hk
  have w0 := hw.1
  have t0 : trA (D 96) 0 = D 96 0 := tr_at (by decide)
  have t1 : trA (D 96) 1 = D 96 1 := tr_at (by decide)
  refine ⟨⟨⟨by rw [t0, e1], by rw [t1, e2]⟩, fun s s1 s2 => ?_, fun p p1 p2 => ?_, fun d d1 d2 => ?_⟩, by rw [tr_at (by decide), e4]⟩
  · rw [t0] at s2
    obtain ⟨u1, u2, u3, u4, u5, u6⟩ := hst s s1 s2
    rw [tr_at (by omega), tr_at (by omega), tr_at (by omega), tr_at (by omega), tr_at (by omega), tr_at (by omega)]
    exact ⟨⟨u1, u2⟩, u3, u4, u5, u6⟩
  · obtain ⟨u1, u2, u3⟩ := hp p p1 p2
    rw [tr_at (by omega), tr_at (by omega)]
    exact ⟨u1, u2⟩
  · rw [t1] at d2
    obtain ⟨u1, u2, u3⟩ := hd d d1 d2
    rw [tr_at (by omega), tr_at (by omega), tr_at (by omega), tr_at (by omega)]
    exact ⟨u1, u2, u3, hsl d d1 d2⟩
theorem l190 (hq : ∀ D' : xD, (∀ a, a ≠ 106 → D' a = D a) → (∀ t, 0 ≤ t → t ≤ 12 → D' 106 t = 1) → WP 124 xF1 none 190 2 [some (.inr (.inr (some 95))), some (.inl x1), some (.inl 13)] [] D' Q) :
    ∀ (k : Nat) (x2 : Int) (D' : xD), x2 + k = 13 → 0 ≤ x2 → (∀ a, a ≠ 106 → D' a = D a) → (∀ t, 0 ≤ t → t < x2 → D' 106 t = 1) → WP 124 xF1 none 190 2 [some (.inr (.inr (some 95))), some (.inl x1), some (.inl x2)] [] D' Q := by
  intro k
  induction k with
  | zero =>
    intro x2 D' h1 h2 h3 h4
    have e : x2 = 13 := by omega
    subst e
    exact hq D' h3 (fun t t1 t2 => h4 t t1 (by omega))
  | succ k ih =>
    intro x2 D' h1 h2 h3 h4
    rw [seg190_2 (ha0 := ho95), brF (by omega), cnB (by omega), cnX (by omega)]
    simp only [Nat.reduceAdd]
    refine ih (x2 + 1) _ (by omega) (by omega) (fun a ha => by rw [up_ne ha]; exact h3 a ha) (fun t t1 t2 => ?_)
    rw [up_at]
    by_cases c : t = x2
    · rw [if_pos c]
    · rw [if_neg c]; exact h4 t t1 (by omega)
theorem m190 (hT : tnW T) (hA : tnM (D 96) T) (h22 : D 95 22 = wd) (h23 : D 95 23 = wh) (hh : 0 ≤ x1 ∧ x1 ≤ 12) (hwh : 0 ≤ wh ∧ wh ≤ 2) (hq : ∀ D' z, mrG D' D → opT 0 1 (mdl T (fun _ => 1) wd wh x1) z → mdX D' T (fun _ => 1) wd wh x1 z → (0 ≤ z ∧ z ≤ 1287) → Q (some (.inl z)) D') :
    WP 124 xF1 none 190 0 [some (.inr (.inr (some 95))), some (.inl x1), o2] [] D Q := by
  rw [seg190_0 (ha0 := ho95)]
  refine l190 (fun D1 f1 f2 => ?_) 13 0 D (by omega) (by omega) (fun _ _ => rfl) (fun t t1 t2 => by omega)
  rw [seg190_2 (ha0 := ho95), brT (by omega)]
  refine m189 (T := T) (w := fun _ => 1) (wd := wd) (wh := wh) hT ⟨by rw [f1 96 (by decide)]; exact hA, fun t t1 t2 => f2 t t1 (by omega), by rw [f1 95 (by decide)]; exact h22, by rw [f1 95 (by decide)]; exact h23⟩ hh (fun _ _ _ => ⟨by decide, by decide⟩) hwh (fun D2 z g1 g2 g3 g4 => ?_)
  simp only [Option.toList_some, Option.toList_none, List.cons_append, List.nil_append]
  rw [seg190_26 (ha0 := ho95)]
  exact hq D2 z ⟨fun a a1 a2 => by rw [g1.1 a a1 (by omega), f1 a (by omega)], fun j hj => by rw [g1.2 j hj, f1 95 (by decide)]⟩ g2 g3 g4
theorem cls46 (H : Inv (kAnd (KN2 K2)) D) (hq : ∀ D1 : xD, coF D1 D → D1 56 1 ≠ 0 → moK (trA (D 96)) (D1 68) (D1 69) 13 → Q none D1) : WP 124 xF1 none 46 0 [some (.inr (.inr (some 56))), some (.inr (.inr (some 3))), o2, o3] [] D Q := by
  obtain ⟨g1, g2, g3, g4, g5, g6, g7⟩ := H
  obtain ⟨n1, n2⟩ := tnN_of g2 g3
  exact m46 (tn_of g2 g3).2.2 n1 n2 g6.1.1 (fun D1 f1 f2 f3 f4 => hq D1 ⟨f1, fun j hj => f2 j (by omega)⟩ f3 f4)
theorem inv_mo (H : Inv (kAnd (KN2 K2)) D) (h1 : coF D1 D) (hm : D1 56 1 = 0 ∨ moK (trA (D 96)) (D1 68) (D1 69) 13) (h2 : mrG D2 D1) : D2 0 = D 0 ∧ Inv (kAnd (KN2 K2)) D2 := by
  obtain ⟨⟨t, tt, tw⟩, g2, g3, g4, g5, g6, g7⟩ := id H
  obtain ⟨c1, c2⟩ := h1
  have e : ∀ a, a ≠ 95 → a < 56 ∨ (69 < a ∧ a < 100) → D2 a = D a := fun a a1 a2 => by rw [h2.1 a a1 (by omega), c1 a (by omega)]
  have e95 : ∀ j, j ≠ 21 → D2 95 j = D 95 j := fun j hj => by rw [h2.2 j hj, c1 95 (by decide)]
  have e56 : D2 56 = D1 56 := h2.1 56 (by decide) (by decide)
  refine ⟨e 0 (by decide) (by decide), Inv_put H (fun a a1 a2 a3 a4 a5 a6 a7 a8 a9 a10 => e a a10 (by unfold xfre at a1; omega)) (by rw [e 85 (by decide) (by decide)]; exact g7) (fun i hi => e95 i (by omega)) ⟨by rw [e95 22 (by decide)]; exact tw.1, by rw [e95 23 (by decide)]; exact tw.2.1, by rw [e95 44 (by decide)]; exact tw.2.2⟩ ⟨⟨?_, ?_⟩, ?_⟩⟩
  · rw [e56, h2.1 68 (by decide) (by decide), h2.1 69 (by decide) (by decide)]; exact hm
  · rw [e56, c2 9 (by decide), c2 10 (by decide), c2 11 (by decide), e 70 (by decide) (by decide), e 71 (by decide) (by decide)]; exact g6.1.2
  · rw [e 91 (by decide) (by decide), e 92 (by decide) (by decide)]; exact g6.2
theorem coF_rf : coF D D := ⟨fun _ _ => rfl, fun _ _ => rfl⟩
theorem mrG_rf : mrG D D := ⟨fun _ _ _ => rfl, fun _ _ => rfl⟩
theorem pair7 : ∀ (z1 : Int), xinP z1 → xpr (Inv (kAnd (KN2 K2))) 121 [some (.inr (.inr (some 1))), some (.inl z1)] 191 [some (.inr (.inr (some 95))), some (.inl z1)] := by
  intro z1 hz D H
  obtain ⟨⟨t, tt, tw⟩, g2, g3, g4, g5, g6, g7⟩ := id H
  obtain ⟨-, hM, hW⟩ := tn_of g2 g3
  rw [seg121_0 (ha0 := ho1), m144]
  simp only [Option.toList_some, Option.toList_none, List.cons_append, List.nil_append]
  rw [seg121_4 (ha0 := ho1)]
  by_cases c : 0 ≤ z1 ∧ z1 ≤ 12
  · rw [if_pos c, brT (by decide)]
    simp only [Nat.reduceAdd]
    refine cls46 H (fun D1 f1 f2 f3 => ?_)
    simp only [Option.toList_some, Option.toList_none, List.cons_append, List.nil_append]
    rw [seg121_20 (ha0 := ho1), cnB (by omega)]
    simp only [Nat.reduceAdd]
    refine ⟨_, rfl, f1.1 0 (by decide), ?_⟩
    rw [seg191_0 (ha0 := ho95), m150, if_pos c]
    simp only [Option.toList_some, Option.toList_none, List.cons_append, List.nil_append]
    rw [seg191_4 (ha0 := ho95), brF (by decide)]
    refine m190 (T := trA (D 96)) (wd := -1) (wh := 0) hW (by rw [f1.1 96 (by decide)]; exact hM) (by rw [f1.1 95 (by decide)]; exact tw.1) (by rw [f1.1 95 (by decide)]; exact tw.2.1) c (by decide) (fun D2 z k1 k2 k3 k4 => ?_)
    simp only [Option.toList_some, Option.toList_none, List.cons_append, List.nil_append]
    rw [seg191_12 (ha0 := ho95), seg191_16 (ha0 := ho95)]
    obtain ⟨i1, i2⟩ := inv_mo H f1 (.inr f3) k1
    exact ⟨by rw [op_un k2 (f3 z1 c.1 (by omega)).2.1], i1, i2⟩
  · rw [if_neg c, brF (by decide)]
    refine ⟨_, rfl, rfl, ?_⟩
    rw [seg191_0 (ha0 := ho95), m150, if_neg c]
    simp only [Option.toList_some, Option.toList_none, List.cons_append, List.nil_append]
    rw [seg191_4 (ha0 := ho95), brT rfl, seg191_16 (ha0 := ho95)]
    exact ⟨rfl, rfl, H⟩
end M90
