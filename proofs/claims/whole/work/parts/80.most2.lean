/-! outs: the class finds the most -/
section M80
variable {c' E x1 x2 x3 x4 n m p h t wd wh a b l v e F F' : Int} {D D' D1 D2 : xD} {T c r w y : Int → Int} {o1 o2 o3 o4 : Option xv} {V : (Int → Int → Int → Int → Int) → Int} {Q : Option xv → xD → Prop}
theorem cl_fr (hF : ∀ a, 57 ≤ a → a ≤ 62 → D' a = D a) (hc : clI D c h F V) : clI D' c h F V := by
  unfold clI nsI at *
  rw [hF 57 (by decide) (by decide), hF 58 (by decide) (by decide), hF 59 (by decide) (by decide), hF 60 (by decide) (by decide), hF 61 (by decide) (by decide), hF 62 (by decide) (by decide)]
  exact hc
theorem l46 (hT : tnW T) (hq : ∀ D' : xD, (∀ a, a ≠ 61 → a ≠ 65 → a ≠ 66 → a ≠ 68 → a ≠ 69 → D' a = D a) → moK T (D' 68) (D' 69) 13 → Q none D') :
    ∀ (k : Nat) (x3 F : Int) (D' : xD), x3 + k = 13 → 0 ≤ x3 → (∀ a, a ≠ 61 → a ≠ 65 → a ≠ 66 → a ≠ 68 → a ≠ 69 → D' a = D a) → clI D' c x3 F (csS T 0) → moK T (D' 68) (D' 69) x3 → WP 124 xF1 none 46 33 [some (.inr (.inr (some 56))), some (.inr (.inr (some 3))), some (.inl F), some (.inl x3)] [] D' Q := by
  intro k
  induction k with
  | zero =>
    intro x3 F D' h1 h2 h3 h4 h5
    rw [seg46_33 (ha0 := ho56) (ha1 := ho3), brT (by omega)]
    have e : x3 = 13 := by omega
    rw [e] at h5
    exact hq D' h3 h5
  | succ k ih =>
    intro x3 F D' h1 h2 h3 h4 h5
    rw [seg46_33 (ha0 := ho56) (ha1 := ho3), brF (by omega)]
    simp only [Nat.reduceAdd]
    refine m36 h4 (cl_W hT (by decide) h4.1) (fun D3 F' g1 g2 g3 g4 => ?_)
    simp only [Option.toList_some, Option.toList_none, List.cons_append, List.nil_append, Nat.reduceAdd]
    have b1 := cl_99 g2 (cl_W hT (by decide) g2.1)
    have b0 := g2.2.2.2
    have b2 := h4.2.2.2
    rw [seg46_48 (ha0 := ho56) (ha1 := ho3), cnX (by omega), cnB (by omega), show F + (F' - F) = F' by omega]
    simp only [Nat.reduceAdd]
    refine m47 (by omega) (fun D5 k1 k2 k3 => ?_)
    simp only [Option.toList_some, Option.toList_none, List.cons_append, List.nil_append, Nat.reduceAdd]
    rw [seg46_62 (ha0 := ho56) (ha1 := ho3), cnX (by omega)]
    have vv : ∀ v, viA (xup D3 68 x3 F') v = viA D3 v := fun v => by unfold viA; rw [up_ne (by decide)]
    have e68 : ∀ j, D5 68 j = if j = x3 then F' else D' 68 j := fun j => by rw [k1 68 (by decide), up_at, g1 68 (by decide) (by decide) (by decide)]
    have e69 : ∀ j, j < 8 * x3 → D5 69 j = D' 69 j := fun j hj => by rw [k2 j hj, up_ne (by decide), g1 69 (by decide) (by decide) (by decide)]
    refine ih (x3 + 1) F' D5 (by omega) (by omega) (fun a a1 a2 a3 a4 a5 => by rw [k1 a a5, up_ne a4, g1 a a1 a2 a3]; exact h3 a a1 a2 a3 a4 a5) (cl_up (cl_fr (fun a a1 a2 => by rw [k1 a (by omega), up_ne (by omega)]) g2) (by omega)) (fun t t1 t2 => ?_)
    by_cases ct : t = x3
    · rw [e68, if_pos ct, ct]
      refine ⟨⟨b0, b1⟩, mo_cl hT (by omega) (by decide) g2 g4, fun p m p1 p2 m1 m2 => ?_, sh_cl hT (by omega) (by decide) g2 g4⟩
      have key := cu_cl hT (by omega) (by decide) g2 g4 ⟨p1, p2⟩ (show 0 ≤ m ∧ m < 13 by omega)
      rw [k3 p m p1 p2 m1 m2, vv]
      by_cases q : viA D3 (13 * p + m) = -1
      · rw [if_pos q]
        exact .inr ⟨rfl, fun z => (key.mpr z) q⟩
      · rw [if_neg q]
        exact .inl ⟨rfl, key.mp q⟩
    · rw [e68, if_neg ct]
      obtain ⟨z1, z2, z3, z4⟩ := h5 t t1 (by omega)
      refine ⟨z1, z2, fun p m p1 p2 m1 m2 => ?_, z4⟩
      rw [e69 _ (by omega)]
      exact z3 p m p1 p2 m1 m2
theorem m46 (hT : tnW T) (H : tnN D T) (h5 : D 3 1 = T 5) (hK : D 56 1 = 0 ∨ moK T (D 68) (D 69) 13) (hq : ∀ D' : xD, (∀ a, a < 56 ∨ 69 < a → D' a = D a) → (∀ j, j ≠ 1 → D' 56 j = D 56 j) → D' 56 1 ≠ 0 → moK T (D' 68) (D' 69) 13 → Q none D') :
    WP 124 xF1 none 46 0 [some (.inr (.inr (some 56))), some (.inr (.inr (some 3))), o2, o3] [] D Q := by
  rw [seg46_0 (ha0 := ho56) (ha1 := ho3)]
  simp only [Nat.reduceAdd]
  by_cases c0 : D 56 1 = 0
  · rw [brT c0, up_ne (by decide), h5]
    obtain ⟨D1, hD1⟩ : ∃ D1, D1 = xup D 56 1 1 := ⟨_, rfl⟩
    rw [← hD1]
    have F1 : ∀ a, a ≠ 56 → D1 a = D a := fun a ha => by rw [hD1, up_ne ha]
    have E1 : D1 56 1 = 1 := by rw [hD1, up_eq]
    have E2 : ∀ j, j ≠ 1 → D1 56 j = D 56 j := fun j hj => by rw [hD1, up_ne2 hj]
    clear hD1
    refine m27 (T := T) hT (tnN_fr (fun a a1 a2 => F1 a (by omega)) H) rfl (by decide) (fun D2 f1 f2 => ?_)
    simp only [Option.toList_some, Option.toList_none, List.cons_append, List.nil_append, Nat.reduceAdd]
    rw [seg46_29 (ha0 := ho56) (ha1 := ho3)]
    refine l46 (D := D2) hT (fun D3 g1 g2 => ?_) 13 0 0 D2 (by omega) (by omega) (fun _ _ _ _ _ _ => rfl) (cl_0 hT (by decide) f2) (fun t t1 t2 => by omega)
    have e56 : D3 56 = D1 56 := by rw [g1 56 (by decide) (by decide) (by decide) (by decide) (by decide), f1 56 (by decide) (by decide) (by decide) (by decide) (by decide) (by decide)]
    exact hq D3 (fun a ha => by rw [g1 a (by omega) (by omega) (by omega) (by omega) (by omega), f1 a (by omega) (by omega) (by omega) (by omega) (by omega) (by omega), F1 a (by omega)]) (fun j hj => by rw [e56]; exact E2 j hj) (by rw [e56, E1]; decide) g2
  · rw [brF c0]
    exact hq D (fun _ _ => rfl) (fun _ _ => rfl) c0 (hK.resolve_left c0)
theorem m48 : WP 124 xF1 none 48 0 [some (.inr (.inr (some 56))), some (.inl x1), o2] [] D Q = Q (some (.inl (fsI (fun t => D 68 t = x1) 0 13))) D := by
  rw [seg48_0 (ha0 := ho56)]
  exact l48 13 0 (by omega) (by omega) (by omega)
/-- one most anew -/
theorem m49 (hT : tnW T) (H : tnN D T) (h5 : D 3 1 = T 5) (hh : 0 ≤ x2 ∧ x2 ≤ 12) (hw : 0 ≤ x3 ∧ x3 ≤ 2) (hq : ∀ (D' : xD) F, (∀ a, a < 57 ∨ 66 < a → D' a = D a) → opT 0 1 (mdl T (fun _ => 1) (-1) x3 x2) F → (0 ≤ F ∧ F ≤ 99) → Q (some (.inl F)) D') :
    WP 124 xF1 none 49 0 [some (.inr (.inr (some 56))), some (.inr (.inr (some 3))), some (.inl x2), some (.inl x3)] [] D Q := by
  rw [seg49_0 (ha0 := ho56) (ha1 := ho3)]
  simp only [Nat.reduceAdd]
  rw [h5]
  refine m27 (T := T) hT H rfl hw (fun D2 f1 f2 => ?_)
  simp only [Option.toList_some, Option.toList_none, List.cons_append, List.nil_append, Nat.reduceAdd]
  rw [seg49_16 (ha0 := ho56) (ha1 := ho3)]
  simp only [Nat.reduceAdd]
  have c0 := cl_0 (h := x2) hT hw f2
  refine m36 c0 (cl_W hT hw c0.1) (fun D3 F' g1 g2 g3 g4 => ?_)
  simp only [Option.toList_some, Option.toList_none, List.cons_append, List.nil_append, Nat.reduceAdd]
  rw [seg49_24 (ha0 := ho56) (ha1 := ho3), Int.sub_zero]
  exact hq D3 F' (fun a ha => by rw [g1 a (by omega) (by omega) (by omega), f1 a (by omega) (by omega) (by omega) (by omega) (by omega) (by omega)]) (mo_cl hT hh hw g2 g4) ⟨g3, cl_99 g2 (cl_W hT hw g2.1)⟩
end M80
