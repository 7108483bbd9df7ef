/-! outs: both sides, how quick -/
def qkP (T : Int → Int) (r : Int) : Prop := (r = -1 ∧ ∀ t, 0 ≤ t → t < 13 → ∃ z, opT 0 1 (mdl T (fun _ => 1) (-1) 0 t) z ∧ z ≠ T 2) ∨ ((0 ≤ r ∧ r < 13) ∧ opT 0 1 (mdl T (fun _ => 1) (-1) 0 r) (T 2) ∧ ∀ t, 0 ≤ t → t < r → ∃ z, opT 0 1 (mdl T (fun _ => 1) (-1) 0 t) z ∧ z ≠ T 2)
section M91
variable {K2 : (Int → Int) → Int → Int → Int → (Int → Int) → (Int → Int) → Prop}
variable {E x1 x2 x3 x4 n m h t F z r r' B wd wh : Int} {D D' D1 D2 : xD} {T w c c2 c3 p b y : Int → Int} {o1 o2 o3 o4 : Option xv} {Q : Option xv → xD → Prop}
theorem qk_un (h1 : qkP T r) (h2 : qkP T r') : r = r' := by
  rcases h1 with ⟨a1, a2⟩ | ⟨a1, a2, a3⟩ <;> rcases h2 with ⟨b1, b2⟩ | ⟨b1, b2, b3⟩
  · omega
  · obtain ⟨z, z1, z2⟩ := a2 r' b1.1 b1.2
    exact absurd (op_un z1 b2) z2
  · obtain ⟨z, z1, z2⟩ := b2 r a1.1 a1.2
    exact absurd (op_un z1 a2) z2
  · rcases Int.lt_trichotomy r r' with q | q | q
    · obtain ⟨z, z1, z2⟩ := b3 r a1.1 q
      exact absurd (op_un z1 a2) z2
    · exact q
    · obtain ⟨z, z1, z2⟩ := a3 r' b1.1 q
      exact absurd (op_un z1 b2) z2
theorem qk_fs (hm : moK T c2 c3 13) : qkP T (fsI (fun t => c2 t = T 2) 0 13) := by
  rcases fsI_spec (P := fun t => c2 t = T 2) 13 0 with ⟨a1, a2⟩ | ⟨a1, a2, a3, a4⟩
  · exact .inl ⟨a1, fun t t1 t2 => ⟨c2 t, (hm t t1 t2).2.1, a2 t t1 (by omega)⟩⟩
  · have := (hm _ a1 (by omega)).2.1
    rw [a3] at this
    exact .inr ⟨⟨a1, by omega⟩, this, fun t t1 t2 => ⟨c2 t, (hm t t1 (by omega)).2.1, a4 t t1 t2⟩⟩
theorem l193 (hT : tnW T) (hA : tnM (D 96) T) (h22 : D 95 22 = -1) (h23 : D 95 23 = 0) (hq : ∀ D' r, mrG D' D → qkP T r → Q (some (.inl r)) D') :
    ∀ (k : Nat) (x1 : Int) (D' : xD), x1 + k = 13 → 0 ≤ x1 → mrG D' D → (∀ t, 0 ≤ t → t < x1 → ∃ z, opT 0 1 (mdl T (fun _ => 1) (-1) 0 t) z ∧ z ≠ T 2) → WP 124 xF1 none 193 2 [some (.inr (.inr (some 95))), some (.inl x1)] [] D' Q := by
  intro k
  induction k with
  | zero =>
    intro x1 D' h1 h2 h3 h4
    rw [seg193_2 (ha0 := ho95), brT (by omega)]
    exact hq D' (-1) h3 (.inl ⟨rfl, fun t t1 t2 => h4 t t1 (by omega)⟩)
  | succ k ih =>
    intro x1 D' h1 h2 h3 h4
    rw [seg193_2 (ha0 := ho95), brF (by omega)]
    refine m190 (T := T) (wd := -1) (wh := 0) hT (by rw [h3.1 96 (by decide) (by decide)]; exact hA) (by rw [h3.2 22 (by decide)]; exact h22) (by rw [h3.2 23 (by decide)]; exact h23) (by omega) (by decide) (fun D2 z k1 k2 k3 k4 => ?_)
    simp only [Option.toList_some, Option.toList_none, List.cons_append, List.nil_append]
    have F2 := mrG_tr k1 h3
    have e2 : D2 96 2 = T 2 := by rw [F2.1 96 (by decide) (by decide)]; exact hA 2 (by decide)
    rw [seg193_13 (ha0 := ho95), cnB (by decide)]
    simp only [Nat.reduceAdd]
    rw [e2]
    by_cases c : z = T 2
    · rw [brF (by omega)]
      exact hq D2 x1 F2 (.inr ⟨by omega, by rw [← c]; exact k2, h4⟩)
    · rw [brT c, cnX (by omega)]
      refine ih (x1 + 1) D2 (by omega) (by omega) F2 (fun t t1 t2 => ?_)
      by_cases c2 : t = x1
      · rw [c2]; exact ⟨z, k2, c⟩
      · exact h4 t t1 (by omega)
theorem m193 (hT : tnW T) (hA : tnM (D 96) T) (h22 : D 95 22 = -1) (h23 : D 95 23 = 0) (hq : ∀ D' r, mrG D' D → qkP T r → Q (some (.inl r)) D') : WP 124 xF1 none 193 0 [some (.inr (.inr (some 95))), o1] [] D Q := by
  rw [seg193_0 (ha0 := ho95)]
  exact l193 hT hA h22 h23 hq 13 0 D (by omega) (by omega) mrG_rf (fun t t1 t2 => by omega)
theorem m100t (hW : tnW T) (H : tnN D T) : WP 124 xF1 none 100 0 [some (.inr (.inr (some 4))), none, none] [] D Q = Q (some (.inl (T 2))) D := by
  have w0 := hW.1
  rw [m100 ho4 (fun j j1 j2 => ?_) (by rw [H.1.2]; omega)]
  · simp only [Nat.reduceAdd]
    rw [hW.2.2.2.1.1, H.1.2]
    refine cgQ (smI_congr _ _ (fun j j1 j2 => ?_))
    exact (H.2.2.2 j j1 (by omega)).2.2.1
  · rw [H.1.2] at j2
    have := (H.2.2.2 j j1 j2).2.2.1
    have v := (hW.2.2.1 j j1 j2).2.2.1
    simp only [Nat.reduceAdd]
    omega
theorem pair9 : xpr (Inv (kAnd (KN2 K2))) 123 [some (.inr (.inr (some 1)))] 194 [some (.inr (.inr (some 95)))] := by
  intro D H
  obtain ⟨⟨t, tt, tw⟩, g2, g3, g4, g5, g6, g7⟩ := id H
  obtain ⟨-, hM, hW⟩ := tn_of g2 g3
  obtain ⟨n1, n2⟩ := tnN_of g2 g3
  rw [seg123_0 (ha0 := ho1)]
  simp only [Nat.reduceAdd]
  refine cls46 H (fun D1 f1 f2 f3 => ?_)
  simp only [Option.toList_some, Option.toList_none, List.cons_append, List.nil_append]
  rw [seg123_11 (ha0 := ho1)]
  simp only [Nat.reduceAdd]
  rw [m100t hW (tnN_fr (fun a a1 a2 => f1.1 a (by omega)) n1)]
  simp only [Option.toList_some, Option.toList_none, List.cons_append, List.nil_append]
  rw [seg123_25 (ha0 := ho1) (hb1 := ho56), m48]
  simp only [Option.toList_some, Option.toList_none, List.cons_append, List.nil_append]
  rw [seg123_28 (ha0 := ho1)]
  refine ⟨_, rfl, f1.1 0 (by decide), ?_⟩
  rw [seg194_0 (ha0 := ho95)]
  refine m193 (T := trA (D 96)) hW (by rw [f1.1 96 (by decide)]; exact hM) (by rw [f1.1 95 (by decide)]; exact tw.1) (by rw [f1.1 95 (by decide)]; exact tw.2.1) (fun D2 r k1 k2 => ?_)
  simp only [Option.toList_some, Option.toList_none, List.cons_append, List.nil_append]
  rw [seg194_4 (ha0 := ho95)]
  obtain ⟨i1, i2⟩ := inv_mo H f1 (.inr f3) k1
  exact ⟨by rw [qk_un k2 (qk_fs f3)], i1, i2⟩
end M91
