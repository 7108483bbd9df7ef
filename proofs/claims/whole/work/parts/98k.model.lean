/-! outs: the reference's quarrels -/
def mrH (D' D : xD) : Prop := (∀ a, a ≠ 95 → (a < 100 ∨ 111 < a) → D' a = D a) ∧ ∀ j, j ≠ 21 → D' 95 j = D 95 j
section M98k
variable {a b r r1 r2 z t x1 x2 x3 x4 x5 x6 s0 : Int} {D D' D1 D2 : xD} {T c c2 c3 : Int → Int} {o2 o3 o4 o5 o6 : Option xv} {Q : Option xv → xD → Prop}
theorem mrH_G (h1 : mrG D2 D1) (h2 : mrH D1 D) : mrH D2 D := ⟨fun a a1 a2 => by rw [h1.1 a a1 (by omega), h2.1 a a1 a2], fun j hj => by rw [h1.2 j hj, h2.2 j hj]⟩
theorem l197a (hT : tnW T) (hA : tnM (D 96) T) (h22 : D 95 22 = -1) (h23 : D 95 23 = 0) (hm : moK T c2 c3 13) (hx : 0 ≤ x1 ∧ x1 ≤ 12)
    (hq : ∀ D' : xD, mrH D' D → (∀ j, 0 ≤ j → j ≤ x1 → D' 111 j = c2 j) → WP 124 xF1 none 197 33 [some (.inr (.inr (some 95))), some (.inl x1), some (.inl x2), some (.inl (smI c2 0 (x1 + 1).toNat)), some (.inl (x1 + 1)), o5, o6] [] D' Q) :
    ∀ (k n : Nat) (D' : xD), (n : Int) + k = x1 + 1 → mrH D' D → (∀ j : Int, 0 ≤ j → j < n → D' 111 j = c2 j) → (0 ≤ smI c2 0 n ∧ smI c2 0 n ≤ 99 * n) → WP 124 xF1 none 197 33 [some (.inr (.inr (some 95))), some (.inl x1), some (.inl x2), some (.inl (smI c2 0 n)), some (.inl (n : Int)), o5, o6] [] D' Q := by
  intro k
  induction k with
  | zero =>
    intro n D' h1 h2 h3 h4
    have k := hq D' h2 (fun j j1 j2 => h3 j j1 (by omega))
    rw [show (x1 + 1).toNat = n by omega, show x1 + 1 = (n : Int) by omega] at k
    exact k
  | succ k ih =>
    intro n D' h1 h2 h3 h4
    rw [seg197_33 (ha0 := ho95), brF (by omega)]
    simp only [Nat.reduceAdd]
    refine m190 (T := T) (wd := -1) (wh := 0) hT (by rw [h2.1 96 (by decide) (by decide)]; exact hA) (by rw [h2.2 22 (by decide)]; exact h22) (by rw [h2.2 23 (by decide)]; exact h23) (by omega) (by decide) (fun D2 z k1 k2 k3 k4 => ?_)
    simp only [Option.toList_some, Option.toList_none, List.cons_append, List.nil_append]
    obtain ⟨b1, b2, -⟩ := hm n (by omega) (by omega)
    have ez := op_un k2 b2
    rw [seg197_51 (ha0 := ho95) (hb2 := show xalen none 124 111 = some 13 from rfl), cnB (by omega), cnB (by omega)]
    simp only [Nat.reduceAdd]
    have F2 := mrH_G k1 h2
    have e1 : smI c2 0 (n + 1) = smI c2 0 n + z := by rw [smI_last, Int.zero_add, ez]
    rw [up_eq, cnX (by omega), cnX (by omega), ← e1, show (n : Int) + 1 = ((n + 1 : Nat) : Int) by omega]
    refine ih (n + 1) _ (by omega) ⟨fun a a1 a2 => by rw [up_ne (by omega)]; exact F2.1 a a1 a2, fun j hj => by rw [up_ne (by decide)]; exact F2.2 j hj⟩ (fun j j1 j2 => ?_) (by omega)
    rw [up_at]
    by_cases c : j = (n : Int)
    · rw [if_pos c, c, ez]
    · rw [if_neg c, k1.1 111 (by decide) (by decide)]; exact h3 j j1 (by omega)
theorem l197i (hT : tnW T) (hA : tnM (D 96) T) (h22 : D 95 22 = -1) (h23 : D 95 23 = 0) (hm : moK T c2 c3 13) (h11 : ∀ j, 0 ≤ j → j ≤ x1 → D 111 j = c2 j) (hx : 0 ≤ x5 ∧ x5 < x1 ∧ x1 ≤ 12)
    (hq1 : ∀ (D' : xD) o6, mrG D' D → (∀ b, x5 < b → b ≤ x1 → agT T x5 b) → WP 124 xF1 none 197 103 [some (.inr (.inr (some 95))), some (.inl x1), some (.inl x2), some (.inl x3), some (.inl x4), some (.inl (x5 + 1)), o6] [] D' Q)
    (hq2 : ∀ (D' : xD) x6, mrG D' D → (x5 < x6 ∧ x6 ≤ x1) → quT T x5 x6 → (∀ b, x5 < b → b < x6 → agT T x5 b) → Q (some (.inl (if x2 = 2 then x5 else x6))) D') :
    ∀ (k : Nat) (x6 : Int) (D' : xD), x6 + k = x1 + 1 → x5 < x6 → mrG D' D → (∀ b, x5 < b → b < x6 → agT T x5 b) → WP 124 xF1 none 197 120 [some (.inr (.inr (some 95))), some (.inl x1), some (.inl x2), some (.inl x3), some (.inl x4), some (.inl x5), some (.inl x6)] [] D' Q := by
  intro k
  induction k with
  | zero =>
    intro x6 D' h1 h2 h3 h4
    rw [seg197_120 (ha0 := ho95), brT (by omega), cnX (by omega)]
    exact hq1 D' _ h3 (fun b b1 b2 => h4 b b1 (by omega))
  | succ k ih =>
    intro x6 D' h1 h2 h3 h4
    obtain ⟨u1, u2, -⟩ := hm x5 hx.1 (by omega)
    obtain ⟨v1, v2, -⟩ := hm x6 (by omega) (by omega)
    rw [seg197_120 (ha0 := ho95), brF (by omega), cnB (by omega), cnB (by omega)]
    simp only [Nat.reduceAdd]
    rw [h3.1 111 (by decide) (by decide), h11 x5 (by omega) (by omega), h11 x6 (by omega) (by omega), cnX (by omega)]
    refine m196 (T := T) (wd := -1) (wh := 0) hT (by rw [h3.1 96 (by decide) (by decide)]; exact hA) (by rw [h3.2 22 (by decide)]; exact h22) (by rw [h3.2 23 (by decide)]; exact h23) (by omega) (by decide) (fun D2 z k1 k2 => ?_)
    simp only [Option.toList_some, Option.toList_none, List.cons_append, List.nil_append]
    have F2 := mrG_tr k1 h3
    have le := qu_le hT hm (by omega) (by omega) k2
    rw [seg197_149 (ha0 := ho95)]
    by_cases c : c2 x5 + c2 x6 ≤ z
    · rw [if_pos c, brT rfl, cnX (by omega)]
      refine ih (x6 + 1) D2 (by omega) (by omega) F2 (fun b b1 b2 => ?_)
      by_cases c2' : b = x6
      · rw [c2']; exact ⟨z, _, _, k2, u2, v2, by omega⟩
      · exact h4 b b1 (by omega)
    · rw [if_neg c, brF (by decide)]
      have fin := hq2 D2 x6 F2 (by omega) ⟨z, _, _, k2, u2, v2, by omega⟩ h4
      by_cases c3 : x2 ≠ 2
      · rw [brT c3, seg197_164 (ha0 := ho95)]
        rw [if_neg c3] at fin
        exact fin
      · rw [brF c3, seg197_164 (ha0 := ho95)]
        rw [if_pos (by omega)] at fin
        exact fin
theorem l197 (hT : tnW T) (hA : tnM (D 96) T) (h22 : D 95 22 = -1) (h23 : D 95 23 = 0) (hm : moK T c2 c3 13) (h11 : ∀ j, 0 ≤ j → j ≤ x1 → D 111 j = c2 j) (hx : 0 ≤ x1 ∧ x1 ≤ 12)
    (hq : ∀ (D' : xD) r1 r2, mrG D' D → quF T x1 r1 r2 → Q (some (.inl (if x2 = 2 then r1 else r2))) D') :
    ∀ (k : Nat) (x5 : Int) (D' : xD) (o6 : Option xv), x5 + k = x1 → 0 ≤ x5 → mrG D' D → (∀ a b, 0 ≤ a → a < b → b ≤ x1 → a < x5 → agT T a b) → WP 124 xF1 none 197 103 [some (.inr (.inr (some 95))), some (.inl x1), some (.inl x2), some (.inl x3), some (.inl 0), some (.inl x5), o6] [] D' Q := by
  intro k
  induction k with
  | zero =>
    intro x5 D' o6 h1 h2 h3 h4
    rw [seg197_103 (ha0 := ho95), brT (by omega), seg197_177 (ha0 := ho95)]
    have k := hq D' (-1) (-1) h3 (.inl ⟨rfl, rfl, fun a b a1 a2 a3 => h4 a b a1 a2 a3 (by omega)⟩)
    rw [ite_self] at k
    exact k
  | succ k ih =>
    intro x5 D' o6 h1 h2 h3 h4
    rw [seg197_103 (ha0 := ho95), brF (by omega), brF (by decide), cnX (by omega)]
    refine l197i (D := D') hT (by rw [h3.1 96 (by decide) (by decide)]; exact hA) (by rw [h3.2 22 (by decide)]; exact h22) (by rw [h3.2 23 (by decide)]; exact h23) hm (fun j j1 j2 => by rw [h3.1 111 (by decide) (by decide)]; exact h11 j j1 j2) (by omega) (fun D2 o6 g1 g2 => ?_) (fun D2 x6 g1 g2 g3 g4 => ?_) (x1 - x5).toNat (x5 + 1) D' (by omega) (by omega) mrG_rf (fun b b1 b2 => by omega)
    · refine ih (x5 + 1) D2 o6 (by omega) (by omega) (mrG_tr g1 h3) (fun a b a1 a2 a3 a4 => ?_)
      by_cases c : a = x5
      · rw [c]; exact g2 b (by omega) a3
      · exact h4 a b a1 a2 a3 (by omega)
    · refine hq D2 x5 x6 (mrG_tr g1 h3) (.inr ⟨by omega, g3, fun a b a1 a2 a3 a4 => ?_⟩)
      rcases a4 with a4 | ⟨a4, a5⟩
      · exact h4 a b a1 a2 a3 a4
      · rw [a4]; exact g4 b (by omega) a5
/-- what the reference answers of all, from the second kind on -/
theorem m197 (hT : tnW T) (hA : tnM (D 96) T) (h22 : D 95 22 = -1) (h23 : D 95 23 = 0) (hm : moK T c2 c3 13) (hz : suP T x1 z) (hx : 0 ≤ x1 ∧ x1 ≤ 12) (h2 : 0 ≤ x2 ∧ x2 ≤ 3)
    (hq : ∀ (D' : xD) r, mrH D' D → (x2 = 0 → r = z) → (x2 = 1 → r = if z = smI c2 0 (x1 + 1).toNat then 1 else 0) → (2 ≤ x2 → (z = smI c2 0 (x1 + 1).toNat → r = -1) ∧ (z ≠ smI c2 0 (x1 + 1).toNat → ∃ r1 r2, quF T x1 r1 r2 ∧ r = if x2 = 2 then r1 else r2)) → Q (some (.inl r)) D') :
    WP 124 xF1 none 197 0 [some (.inr (.inr (some 95))), some (.inl x1), some (.inl x2), o3, o4, o5, o6] [] D Q := by
  rw [seg197_0 (ha0 := ho95), m150, if_pos hx]
  simp only [Option.toList_some, Option.toList_none, List.cons_append, List.nil_append]
  rw [seg197_4 (ha0 := ho95), brF (by decide), m149, if_pos h2]
  simp only [Option.toList_some, Option.toList_none, List.cons_append, List.nil_append]
  rw [seg197_13 (ha0 := ho95), brT (by decide)]
  by_cases c0 : x2 ≠ 0
  · rw [brT c0]
    have l := l197a (D := D) (x2 := x2) (o5 := o5) (o6 := o6) (Q := Q) hT hA h22 h23 hm hx (fun D1 f1 f2 => ?_) (x1 + 1).toNat 0 D (by omega) ⟨fun _ _ _ => rfl, fun _ _ => rfl⟩ (fun j j1 j2 => by omega) (by simp [smI])
    · exact l
    · rw [seg197_33 (ha0 := ho95), brT (by omega)]
      refine m195 (T := T) (wd := -1) (wh := 0) hT (by rw [f1.1 96 (by decide) (by decide)]; exact hA) (by rw [f1.2 22 (by decide)]; exact h22) (by rw [f1.2 23 (by decide)]; exact h23) hx (by decide) (fun D2 z' k1 k2 k3 => ?_)
      simp only [Option.toList_some, Option.toList_none, List.cons_append, List.nil_append]
      have ez := op_un k2 hz
      subst ez
      have F2 := mrH_G k1 f1
      have go : ∀ v, v = (if z' = smI c2 0 (x1 + 1).toNat then 1 else 0) → WP 124 xF1 none 197 82 [some (.inr (.inr (some 95))), some (.inl x1), some (.inl x2), some (.inl (smI c2 0 (x1 + 1).toNat)), some (.inl (x1 + 1)), o5, o6] [.inl v] D2 Q := by
        intro v hv
        rw [seg197_82 (ha0 := ho95)]
        by_cases c1 : x2 ≠ 1
        · rw [brT c1]
          by_cases c2' : z' = smI c2 0 (x1 + 1).toNat
          · rw [if_pos c2'] at hv
            have fin := hq D2 (-1) F2 (fun z => absurd z c0) (fun z => absurd z c1) (fun _ => ⟨fun _ => rfl, fun z => absurd c2' z⟩)
            rw [seg197_103 (ha0 := ho95), seg197_177 (ha0 := ho95), hv]
            by_cases c4 : x1 ≤ 0
            · rw [brT c4]; exact fin
            · rw [brF c4, brT (by decide)]; exact fin
          · rw [if_neg c2'] at hv
            rw [hv]
            refine l197 (D := D2) hT (by rw [F2.1 96 (by decide) (by decide)]; exact hA) (by rw [F2.2 22 (by decide)]; exact h22) (by rw [F2.2 23 (by decide)]; exact h23) hm (fun j j1 j2 => by rw [k1.1 111 (by decide) (by decide)]; exact f2 j j1 j2) hx (fun D3 r1 r2 g1 g2 => ?_) x1.toNat 0 D2 _ (by omega) (by omega) mrG_rf (fun a b a1 a2 a3 a4 => by omega)
            exact hq D3 _ (mrH_G g1 F2) (fun z => absurd z c0) (fun z => absurd z c1) (fun _ => ⟨fun z => absurd z c2', fun _ => ⟨r1, r2, g2, rfl⟩⟩)
        · rw [brF c1]
          have fin := hq D2 v F2 (fun z => absurd z c0) (fun _ => hv) (fun z => by omega)
          by_cases c2' : z' = smI c2 0 (x1 + 1).toNat
          · rw [if_pos c2'] at hv
            rw [hv, brF (by decide), seg197_99 (ha0 := ho95)]
            rw [hv] at fin
            exact fin
          · rw [if_neg c2'] at hv
            rw [hv, brT rfl, seg197_99 (ha0 := ho95)]
            rw [hv] at fin
            exact fin
      rw [seg197_73 (ha0 := ho95)]
      by_cases c3 : z' ≠ smI c2 0 (x1 + 1).toNat
      · rw [brT c3]; exact go 0 (by rw [if_neg c3])
      · rw [brF c3]; exact go 1 (by rw [if_pos (by omega)])
  · rw [brF c0]
    refine m195 (T := T) (wd := -1) (wh := 0) hT hA h22 h23 hx (by decide) (fun D2 z' k1 k2 k3 => ?_)
    simp only [Option.toList_some, Option.toList_none, List.cons_append, List.nil_append]
    rw [seg197_27 (ha0 := ho95)]
    exact hq D2 z' ⟨fun a a1 a2 => k1.1 a a1 (by omega), k1.2⟩ (fun _ => op_un k2 hz) (fun z => by omega) (fun z => by omega)
end M98k
