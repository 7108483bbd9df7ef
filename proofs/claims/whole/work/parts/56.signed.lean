/-! signed -/
section M56
variable {K : (Int → Int) → (Int → Int) → (Int → Int) → (Int → Int) → (Int → Int) → (Int → Int) → (Int → Int) → (Int → Int) → Prop}
variable {x1 x2 x3 s t p q u fs fm fm' : Int} {D D' : xD} {T A : Int → Int} {P : Int → Int → Int} {X : wkX} {Q : Option xv → xD → Prop}
theorem wkE_m1 : wkE T (-1) fm P X t p = wkE T (-1) fm' P X t p := by
  have e : wkOk T (-1) fm (P p t) t ↔ wkOk T (-1) fm' (P p t) t := ⟨fun z => ⟨z.1, z.2.1, fun y => z.1 y.1⟩, fun z => ⟨z.1, z.2.1, fun y => z.1 y.1⟩⟩
  unfold wkE
  by_cases c : wkOk T (-1) fm (P p t) t
  · rw [if_pos c, if_pos (e.mp c)]
  · rw [if_neg c, if_neg (fun z => c (e.mpr z))]
theorem wkS_m1 : wkS T (-1) fm P X t = wkS T (-1) fm' P X t := by
  have e1 : wkE T (-1) fm P X t = wkE T (-1) fm' P X t := funext fun p => wkE_m1
  have e2 : ∀ q u, wkC T (-1) fm P X t q u = wkC T (-1) fm' P X t q u := fun q u => funext fun p => by unfold wkC; rw [e1]
  unfold wkS
  rw [e1]
  simp only [e2]
theorem wkG_m1 : ∀ k, wkG T (-1) fm P k = wkG T (-1) fm' P k := by
  intro k
  induction k with
  | zero => rfl
  | succ k ih => simp only [wkG]; rw [ih, wkS_m1 (fm := fm) (fm' := fm')]
theorem wkO_m1 : ∀ k, wkO T (-1) fm P k = wkO T (-1) fm' P k := by
  intro k
  induction k with
  | zero => rfl
  | succ k ih => simp only [wkO]; rw [ih, wkG_m1 (fm := fm) (fm' := fm')]
theorem wkZ_m1 : ∀ k, wkZ T (-1) fm P k = wkZ T (-1) fm' P k := by
  intro k
  induction k with
  | zero => rfl
  | succ k ih => simp only [wkZ]; rw [ih, wkO_m1 (fm := fm) (fm' := fm')]
theorem wkR_m1 : ∀ k, wkR T (-1) fm P k = wkR T (-1) fm' P k := by
  intro k
  induction k with
  | zero => rfl
  | succ k ih =>
    simp only [wkR]
    rw [ih, wkG_m1 (fm := fm) (fm' := fm')]
    have e1 : wkE T (-1) fm P (wkG T (-1) fm' P k) k = wkE T (-1) fm' P (wkG T (-1) fm' P k) k := funext fun p => wkE_m1
    rw [e1]
/-- what signed answers -/
def sgV (T : Int → Int) (P : Int → Int → Int) (n : Nat) (x : Int) : Int := if x = -1 then wkO T (-1) 0 P n else if x = 8 then wkR T (-1) 0 P n else (wkG T (-1) 0 P n).1 x
theorem pair20 : ∀ (z1 z2 : Int), xinP z1 → xinP z2 → xpr (Inv K) 135 [some (.inr (.inr (some 1))), some (.inl z1), some (.inl z2)] 224 [some (.inr (.inr (some 95))), some (.inl z1), some (.inl z2), none] := by
  intro z1 z2 y1 y2 D H
  obtain ⟨hit, hs, hw, -, -, -, h85⟩ := id H
  obtain ⟨hC, hM, hT⟩ := tn_of hs hw
  have hch := chC_of hs hw
  have hP : wkP (trA (D 96)) (shP (D 96)) := shP_wkP hw (tr_at (by decide))
  have h44 : D 95 44 = -1 := hit.2.2.2.2
  have w6 : 0 ≤ D 96 6 ∧ D 96 6 ≤ 8 := ⟨hw.1.2.2.2.2.1, hw.1.2.2.2.2.2⟩
  generalize trA (D 96) = T at hC hM hT hP
  have bad : ¬ ((0 ≤ z1 ∧ z1 ≤ 12) ∧ (-1 ≤ z2 ∧ z2 ≤ 8)) → ∃ r : Int, (some (.inl (-1)) : Option xv) = some (.inl r) ∧ D 0 = D 0 ∧ WP 124 xF1 none 224 0 [some (.inr (.inr (some 95))), some (.inl z1), some (.inl z2), none] [] D (fun w D2 => w = some (.inl r) ∧ D2 0 = D 0 ∧ Inv K D2) := by
    intro hb
    refine ⟨-1, rfl, rfl, ?_⟩
    rw [seg224_0 (ha0 := ho95), m150]
    simp only [Option.toList_some, Option.toList_none, List.cons_append, List.nil_append]
    rw [seg224_4 (ha0 := ho95)]
    by_cases c : 0 ≤ z1 ∧ z1 ≤ 12
    · rw [if_pos c, brF (by decide), m149, if_neg (fun z => hb ⟨c, z⟩)]
      simp only [Option.toList_some, Option.toList_none, List.cons_append, List.nil_append]
      rw [seg224_14 (ha0 := ho95), brF (by decide), seg224_17 (ha0 := ho95)]
      exact ⟨rfl, rfl, H⟩
    · rw [if_neg c, brT rfl, seg224_17 (ha0 := ho95)]
      exact ⟨rfl, rfl, H⟩
  rw [seg135_0 (ha0 := ho1), m144]
  simp only [Option.toList_some, Option.toList_none, List.cons_append, List.nil_append]
  rw [seg135_4 (ha0 := ho1)]
  by_cases c1 : 0 ≤ z1 ∧ z1 ≤ 12
  · rw [if_pos c1, brF (by decide)]
    by_cases c2 : z2 < -1
    · rw [brT c2, seg135_18 (ha0 := ho1)]
      exact bad (fun z => by omega)
    · rw [brF c2]
      by_cases c3 : z2 ≤ 8
      · rw [brT c3]
        simp only [Nat.reduceAdd]
        refine m105 hch (fun g' hg => ?_)
        simp only [Option.toList_some, Option.toList_none, List.cons_append, List.nil_append]
        rw [seg135_31 (ha0 := ho1)]
        simp only [Nat.reduceAdd]
        have hC1 : tnC (xset D 86 g') T := tnC_fr (fun a a1 a2 => set_ne (by omega)) hC
        have e85 : (xset D 86 g') 85 = D 85 := set_ne (by decide)
        obtain ⟨n, hn⟩ : ∃ n : Nat, z1 + 1 = n := ⟨(z1 + 1).toNat, by omega⟩
        refine m108 (fs := -1) (fm := D 85 6) (P := shP (D 96)) (n := n) hT hC1 hP (by rw [e85]; exact h85) (by rw [e85]) hn c1.2 (fun p t p1 p2 t1 t2 => by rw [set_eq]; exact hg p t p1 p2 t1 (by omega)) (fun D1 f1 f2 => ?_)
        simp only [Option.toList_some, Option.toList_none, List.cons_append, List.nil_append]
        have F1 : ∀ a, a ≠ 86 → a ≠ 87 → a ≠ 88 → a ≠ 89 → a ≠ 90 → D1 a = D a := fun a a1 a2 a3 a4 a5 => by rw [f1 a a2 a3 a4 a5, set_ne a1]
        have e96 : D1 96 = D 96 := F1 96 (by decide) (by decide) (by decide) (by decide) (by decide)
        have e95 : D1 95 = D 95 := F1 95 (by decide) (by decide) (by decide) (by decide) (by decide)
        obtain ⟨r1, r2, r3⟩ := f2
        have mod : ∀ v : Int, v = sgV T (shP (D 96)) n z2 → ∃ r : Int, (some (.inl v) : Option xv) = some (.inl r) ∧ D1 0 = D 0 ∧ WP 124 xF1 none 224 0 [some (.inr (.inr (some 95))), some (.inl z1), some (.inl z2), none] [] D1 (fun w D2 => w = some (.inl r) ∧ D2 0 = D 0 ∧ Inv K D2) := by
          intro v hv
          refine ⟨v, rfl, F1 0 (by decide) (by decide) (by decide) (by decide) (by decide), ?_⟩
          rw [seg224_0 (ha0 := ho95), m150, if_pos c1]
          simp only [Option.toList_some, Option.toList_none, List.cons_append, List.nil_append]
          rw [seg224_4 (ha0 := ho95), brF (by decide), m149, if_pos (by omega)]
          simp only [Option.toList_some, Option.toList_none, List.cons_append, List.nil_append]
          rw [seg224_14 (ha0 := ho95), brT (by decide)]
          refine m221 (A := D 96) e96 w6 (fun g2 hg2 => ?_)
          simp only [Option.toList_some, Option.toList_none, List.cons_append, List.nil_append]
          rw [seg224_23 (ha0 := ho95)]
          have f96 : (xset D1 120 g2) 96 = D 96 := by rw [set_ne (by decide), e96]
          have f95 : (xset D1 120 g2) 95 = D 95 := by rw [set_ne (by decide), e95]
          refine m223 (fs := -1) (fm := D 95 45) (P := shP (D 96)) (n := n) hT (by rw [f96]; exact hM) hP (by rw [f95]; exact h44) (by rw [f95]) hn c1.2 (fun p t p1 p2 t1 t2 => by rw [set_eq]; exact hg2 p t p1 p2 t1 (by omega)) (fun D2 d1 d2 => ?_)
          simp only [Option.toList_some, Option.toList_none, List.cons_append, List.nil_append]
          have inv : D2 0 = D 0 ∧ Inv K D2 := by
            refine ⟨by rw [d1.1 0 (by decide) (by decide) (by decide) (by decide) (by decide) (by decide), set_ne (by decide), F1 0 (by decide) (by decide) (by decide) (by decide) (by decide)], Inv_free2 H (fun a ha1 ha2 => ?_) (fun i hi => ?_)⟩
            · unfold xfre at ha1
              rw [d1.1 a ha2 (by omega) (by omega) (by omega) (by omega) (by omega), set_ne (by omega), F1 a (by omega) (by omega) (by omega) (by omega) (by omega)]
            · rw [d1.2 i (by omega) (by omega) (by omega), f95]
          obtain ⟨m1, m2, m3, m4, m5⟩ := d2
          rw [seg224_28 (ha0 := ho95)]
          have fin : ∀ v2 : Int, v2 = v → WP 124 xF1 none 224 57 [some (.inr (.inr (some 95))), some (.inl z1), some (.inl z2), some (.inl (wkO T (-1) (D 95 45) (shP (D 96)) n))] [.inl v2] D2 (fun w D2 => w = some (.inl v) ∧ D2 0 = D 0 ∧ Inv K D2) := by
            intro v2 h2
            rw [seg224_57 (ha0 := ho95), h2]
            exact ⟨rfl, inv⟩
          by_cases k1 : z2 = -1
          · rw [brF (c := z2 ≠ -1) (fun z => z k1)]
            exact fin _ (by rw [hv]; unfold sgV; rw [if_pos k1]; exact wkO_m1 n)
          · rw [brT (c := z2 ≠ -1) k1]
            by_cases k2 : z2 = 8
            · rw [brF (c := z2 ≠ 8) (fun z => z k2)]
              exact fin _ (by rw [hv, m5]; unfold sgV; rw [if_neg k1, if_pos k2]; exact wkR_m1 n)
            · rw [brT (c := z2 ≠ 8) k2, cnB (by omega)]
              simp only [Nat.reduceAdd]
              exact fin _ (by rw [hv, (m1 z2 (by omega) (by omega)).1]; unfold sgV; rw [if_neg k1, if_neg k2, wkG_m1 (fm := D 95 45) (fm' := 0)])
        rw [seg135_43 (ha0 := ho1)]
        by_cases k1 : z2 = -1
        · rw [brF (c := z2 ≠ -1) (fun z => z k1), cnB (by omega)]
          simp only [Nat.reduceAdd]
          refine mod _ ?_
          unfold sgV
          rw [if_pos k1]
          have := r3 (n - 1) (by omega)
          rw [show ((n - 1 : Nat) : Int) = z1 by omega, show n - 1 + 1 = n by omega] at this
          rw [this]
          exact wkO_m1 n
        · rw [brT (c := z2 ≠ -1) k1]
          by_cases k2 : z2 = 8
          · rw [brF (c := z2 ≠ 8) (fun z => z k2)]
            simp only [Nat.reduceAdd]
            have hB := wkG_bd (fs := -1) (fm := D 85 6) hT hP n (by omega)
            rw [m110 (g := (wkG T (-1) (D 85 6) (shP (D 96)) n).2.2) (n := 18 - n) c1 (fun q u q1 q2 u1 u2 => ⟨r2 q u q1 q2 u1 u2, by have := hB.2 q u; omega⟩) (by omega)]
            simp only [Option.toList_some, Option.toList_none, List.cons_append, List.nil_append]
            rw [seg135_73 (ha0 := ho1), seg135_85 (ha0 := ho1)]
            refine mod _ ?_
            unfold sgV
            rw [if_neg k1, if_pos k2, hn, ← wkR_eq hT hP n (18 - n) (by omega) (by omega)]
            exact wkR_m1 n
          · rw [brT (c := z2 ≠ 8) k2, cnB (by omega), seg135_85 (ha0 := ho1)]
            simp only [Nat.reduceAdd]
            refine mod _ ?_
            rw [(r1 z2 (by omega) (by omega)).1]
            unfold sgV
            rw [if_neg k1, if_neg k2, wkG_m1 (fm := D 85 6) (fm' := 0)]
      · rw [brF c3, seg135_18 (ha0 := ho1)]
        exact bad (fun z => by omega)
  · rw [if_neg c1, brT rfl, seg135_18 (ha0 := ho1)]
    exact bad (fun z => c1 z.1)
end M56
