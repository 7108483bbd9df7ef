/-! outs: the class's quarrels -/
def agT (T : Int → Int) (a b : Int) : Prop := ∃ z m1 m2, opT 0 1 (mdl T (wqQ a) (-1) 0 b) z ∧ opT 0 1 (mdl T (fun _ => 1) (-1) 0 a) m1 ∧ opT 0 1 (mdl T (fun _ => 1) (-1) 0 b) m2 ∧ z = m1 + m2
def quT (T : Int → Int) (a b : Int) : Prop := ∃ z m1 m2, opT 0 1 (mdl T (wqQ a) (-1) 0 b) z ∧ opT 0 1 (mdl T (fun _ => 1) (-1) 0 a) m1 ∧ opT 0 1 (mdl T (fun _ => 1) (-1) 0 b) m2 ∧ z ≠ m1 + m2
def k71 (T c5 : Int → Int) : Prop := ∀ a b, 0 ≤ a → a < b → b < 13 → c5 (a * 13 + b) = 0 ∨ (c5 (a * 13 + b) = 1 ∧ agT T a b) ∨ (c5 (a * 13 + b) = 2 ∧ quT T a b)
/-- the first two that quarrel -/
def quF (T : Int → Int) (t r1 r2 : Int) : Prop := (r1 = -1 ∧ r2 = -1 ∧ ∀ a b, 0 ≤ a → a < b → b ≤ t → agT T a b) ∨ ((0 ≤ r1 ∧ r1 < r2 ∧ r2 ≤ t) ∧ quT T r1 r2 ∧ ∀ a b, 0 ≤ a → a < b → b ≤ t → (a < r1 ∨ (a = r1 ∧ b < r2)) → agT T a b)
def frQ (D' D : xD) : Prop := ∀ a, a < 57 ∨ (67 < a ∧ a ≠ 71 ∧ a ≠ 72) → D' a = D a
section M98j
variable {a b r r1 r2 r3 r4 t x1 x2 x3 x4 x5 x6 s0 : Int} {D D' : xD} {T c c2 c3 : Int → Int} {o2 o3 o4 o5 : Option xv} {Q : Option xv → xD → Prop}
theorem aq_no (h1 : agT T a b) (h2 : quT T a b) : False := by
  obtain ⟨z, m1, m2, a1, a2, a3, a4⟩ := h1
  obtain ⟨z', m1', m2', b1, b2, b3, b4⟩ := h2
  rw [op_un b1 a1, op_un b2 a2, op_un b3 a3] at b4
  exact b4 a4
theorem qu_un (h1 : quF T t r1 r2) (h2 : quF T t r3 r4) : r1 = r3 ∧ r2 = r4 := by
  rcases h1 with ⟨a1, a2, a3⟩ | ⟨a1, a2, a3⟩ <;> rcases h2 with ⟨b1, b2, b3⟩ | ⟨b1, b2, b3⟩
  · omega
  · exact (aq_no (a3 r3 r4 b1.1 b1.2.1 b1.2.2) b2).elim
  · exact (aq_no (b3 r1 r2 a1.1 a1.2.1 a1.2.2) a2).elim
  · by_cases q1 : r3 < r1 ∨ (r3 = r1 ∧ r4 < r2)
    · exact (aq_no (a3 r3 r4 b1.1 b1.2.1 b1.2.2 q1) b2).elim
    · by_cases q2 : r1 < r3 ∨ (r1 = r3 ∧ r2 < r4)
      · exact (aq_no (b3 r1 r2 a1.1 a1.2.1 a1.2.2 q2) a2).elim
      · omega
theorem l53 (hx : 0 ≤ x2 ∧ x2 < x3 ∧ x3 ≤ 12) (hq : ∀ D' : xD, (∀ a, a ≠ 72 → D' a = D a) → (∀ t, 0 ≤ t → t ≤ 12 → D' 72 t = if x2 < t then (if x3 < t then 0 else 1) else 2) → WP 124 xF1 none 53 21 [some (.inr (.inr (some 56))), some (.inr (.inr (some 3))), some (.inl x2), some (.inl x3), some (.inl x4), some (.inl 13)] [] D' Q) :
    ∀ (k : Nat) (x5 : Int) (D' : xD), x5 + k = 13 → 0 ≤ x5 → (∀ a, a ≠ 72 → D' a = D a) → (∀ t, 0 ≤ t → t < x5 → D' 72 t = if x2 < t then (if x3 < t then 0 else 1) else 2) → WP 124 xF1 none 53 21 [some (.inr (.inr (some 56))), some (.inr (.inr (some 3))), some (.inl x2), some (.inl x3), some (.inl x4), some (.inl x5)] [] D' Q := by
  intro k
  induction k with
  | zero =>
    intro x5 D' h1 h2 h3 h4
    have e : x5 = 13 := by omega
    subst e
    exact hq D' h3 (fun t t1 t2 => h4 t t1 (by omega))
  | succ k ih =>
    intro x5 D' h1 h2 h3 h4
    have nx : ∀ v, v = (if x2 < x5 then (if x3 < x5 then 0 else 1) else 2) → WP 124 xF1 none 53 55 [some (.inr (.inr (some 56))), some (.inr (.inr (some 3))), some (.inl x2), some (.inl x3), some (.inl x4), some (.inl x5)] [.inl v, .inl x5, .inr (.inr (some 72))] D' Q := by
      intro v hv
      rw [seg53_55 (ha0 := ho56) (ha1 := ho3) (hb2 := show xalen none 124 72 = some 13 from rfl), cnB (by omega), cnX (by omega)]
      refine ih (x5 + 1) _ (by omega) (by omega) (fun a ha => by rw [up_ne ha]; exact h3 a ha) (fun t t1 t2 => ?_)
      rw [up_at]
      by_cases c : t = x5
      · rw [if_pos c, c, hv]
      · rw [if_neg c]; exact h4 t t1 (by omega)
    rw [seg53_21 (ha0 := ho56) (ha1 := ho3), brF (by omega)]
    simp only [Nat.reduceAdd]
    by_cases c : x2 < x5
    · rw [brT c]
      by_cases c2 : x3 < x5
      · rw [brT c2]; exact nx 0 (by rw [if_pos c, if_pos c2])
      · rw [brF c2]; exact nx 1 (by rw [if_pos c, if_neg c2])
    · rw [brF c]; exact nx 2 (by rw [if_neg c])
theorem m53 (hT : tnW T) (H : tnN D T) (h5 : D 3 1 = T 5) (hx : 0 ≤ x2 ∧ x2 < x3 ∧ x3 ≤ 12) (hm : moK T (D 68) (D 69) 13) (hK : k71 T (D 71)) (hq : ∀ (D' : xD) r, frQ D' D → k71 T (D' 71) → ((r = 0 ∧ agT T x2 x3) ∨ (r = 1 ∧ quT T x2 x3)) → Q (some (.inl r)) D') :
    WP 124 xF1 none 53 0 [some (.inr (.inr (some 56))), some (.inr (.inr (some 3))), some (.inl x2), some (.inl x3), o4, o5] [] D Q := by
  obtain ⟨u1, u2, -⟩ := hm x2 hx.1 (by omega)
  obtain ⟨v1, v2, -⟩ := hm x3 (by omega) (by omega)
  have last : ∀ (D' : xD) (o5 : Option xv), frQ D' D → k71 T (D' 71) → D' 71 (x2 * 13 + x3) ≠ 0 → WP 124 xF1 none 53 130 [some (.inr (.inr (some 56))), some (.inr (.inr (some 3))), some (.inl x2), some (.inl x3), some (.inl (x2 * 13 + x3)), o5] [] D' Q := by
    intro D' o5 f1 f2 f3
    rw [seg53_130 (ha0 := ho56) (ha1 := ho3), cnB (by omega)]
    simp only [Nat.reduceAdd]
    rcases f2 x2 x3 hx.1 hx.2.1 (by omega) with z | ⟨z1, z2⟩ | ⟨z1, z2⟩
    · exact absurd z f3
    · rw [brT (by omega), seg53_146 (ha0 := ho56) (ha1 := ho3)]
      exact ⟨.inl rfl, hq D' 0 f1 f2 (.inl ⟨rfl, z2⟩)⟩
    · rw [brF (by omega), seg53_146 (ha0 := ho56) (ha1 := ho3)]
      exact ⟨.inr rfl, hq D' 1 f1 f2 (.inr ⟨rfl, z2⟩)⟩
  rw [seg53_0 (ha0 := ho56) (ha1 := ho3), cnX (by omega), cnX (by omega), cnB (by omega)]
  simp only [Nat.reduceAdd]
  by_cases c0 : D 71 (x2 * 13 + x3) ≠ 0
  · rw [brT c0]
    exact last D _ (fun _ _ => rfl) hK c0
  · rw [brF c0]
    refine l53 hx (fun D1 f1 f2 => ?_) 13 0 D (by omega) (by omega) (fun _ _ => rfl) (fun t t1 t2 => by omega)
    rw [seg53_21 (ha0 := ho56) (ha1 := ho3), brT (by omega)]
    simp only [Nat.reduceAdd]
    rw [f1 3 (by decide), h5]
    refine m27 (T := T) hT (tnN_fr (fun a a1 a2 => f1 a (by omega)) H) rfl (by decide) (fun D2 g1 g2 => ?_)
    simp only [Option.toList_some, Option.toList_none, List.cons_append, List.nil_append, Nat.reduceAdd]
    rw [seg53_78 (ha0 := ho56) (ha1 := ho3)]
    simp only [Nat.reduceAdd]
    have e72 : D2 72 = D1 72 := g1 72 (by decide) (by decide) (by decide) (by decide) (by decide) (by decide)
    refine m42 hT (by decide) (by omega) g2 (fun m m1 m2 => by rw [e72, f2 m m1 m2]; (repeat' split) <;> omega) (fun D3 z k1 k2 k3 => ?_)
    simp only [Option.toList_some, Option.toList_none, List.cons_append, List.nil_append, Nat.reduceAdd]
    have F3 : frQ D3 D := fun a ha => by rw [k1 a (by omega) (by omega) (by omega) (by omega) (by omega), g1 a (by omega) (by omega) (by omega) (by omega) (by omega) (by omega), f1 a (by omega)]
    have F71 : D3 71 = D 71 := by rw [k1 71 (by decide) (by decide) (by decide) (by decide) (by decide), g1 71 (by decide) (by decide) (by decide) (by decide) (by decide) (by decide), f1 71 (by decide)]
    rw [mdl_cg (w := wqQ x2) (fun t t1 t2 => by rw [e72, f2 t t1 (by omega)]; unfold wqQ; (repeat' split) <;> omega)] at k2
    rw [seg53_90 (ha0 := ho56) (ha1 := ho3), cnB (by omega), cnB (by omega)]
    simp only [Nat.reduceAdd]
    rw [F3 68 (by omega), cnX (by omega)]
    have put : ∀ v x5, (v = 1 ∧ agT T x2 x3) ∨ (v = 2 ∧ quT T x2 x3) → WP 124 xF1 none 53 129 [some (.inr (.inr (some 56))), some (.inr (.inr (some 3))), some (.inl x2), some (.inl x3), some (.inl (x2 * 13 + x3)), some (.inl x5)] [.inl v, .inl (x2 * 13 + x3), .inr (.inr (some 71))] D3 Q := by
      intro v x5 hv
      rw [seg53_129 (ha0 := ho56) (ha1 := ho3) (hb2 := show xalen none 124 71 = some 169 from rfl), cnB (by omega)]
      refine last _ _ (fun a ha => by rw [up_ne (by omega)]; exact F3 a ha) (fun a b a1 a2 a3 => ?_) (by rw [up_eq]; omega)
      rw [up_at, F71]
      by_cases c : a * 13 + b = x2 * 13 + x3
      · have ea : a = x2 := by omega
        have eb : b = x3 := by omega
        rw [if_pos c, ea, eb]; exact .inr hv
      · rw [if_neg c]; exact hK a b a1 a2 a3
    by_cases c : z ≠ D 68 x2 + D 68 x3
    · rw [brT c, seg53_111 (ha0 := ho56) (ha1 := ho3), brT (by decide)]
      exact put 2 _ (.inr ⟨rfl, z, _, _, k2, u2, v2, c⟩)
    · rw [brF c, seg53_111 (ha0 := ho56) (ha1 := ho3), brF (by decide)]
      exact put 1 _ (.inl ⟨rfl, z, _, _, k2, u2, v2, by omega⟩)
theorem l51 (hx : 0 ≤ x1 ∧ x1 ≤ 12) (hb : ∀ j, 0 ≤ j → j < 13 → 0 ≤ D 68 j ∧ D 68 j ≤ 99) : ∀ (k : Nat) (x2 x3 : Int), x3 + k = x1 + 1 → 0 ≤ x3 → (0 ≤ x2 ∧ x2 ≤ 99 * x3) → WP 124 xF1 none 51 4 [some (.inr (.inr (some 56))), some (.inl x1), some (.inl x2), some (.inl x3)] [] D Q = Q (some (.inl (if D 70 x1 = x2 + smI (D 68) x3 k then 1 else 0))) D := by
  intro k
  induction k with
  | zero =>
    intro x2 x3 h1 h2 h3
    rw [seg51_4 (ha0 := ho56), brT (by omega), cnB (by omega)]
    simp only [Nat.reduceAdd, smI, Int.add_zero]
    by_cases c : D 70 x1 ≠ x2
    · rw [brT c, seg51_39 (ha0 := ho56), if_neg c, cnT (.inl rfl)]
    · rw [brF c, seg51_39 (ha0 := ho56), if_pos (by omega), cnT (.inr rfl)]
  | succ k ih =>
    intro x2 x3 h1 h2 h3
    have b := hb x3 h2 (by omega)
    rw [seg51_4 (ha0 := ho56), brF (by omega), cnB (by omega)]
    simp only [Nat.reduceAdd]
    have e : x2 + D 68 x3 + smI (D 68) (x3 + 1) k = x2 + smI (D 68) x3 (k + 1) := by simp only [smI]; omega
    rw [cnX (by omega), cnX (by omega), ih _ _ (by omega) (by omega) (by omega), e]
theorem m51 (hx : 0 ≤ x1 ∧ x1 ≤ 12) (hb : ∀ j, 0 ≤ j → j < 13 → 0 ≤ D 68 j ∧ D 68 j ≤ 99) : WP 124 xF1 none 51 0 [some (.inr (.inr (some 56))), some (.inl x1), o2, o3] [] D Q = Q (some (.inl (if D 70 x1 = smI (D 68) 0 (x1 + 1).toNat then 1 else 0))) D := by
  rw [seg51_0 (ha0 := ho56), l51 hx hb (x1 + 1).toNat 0 0 (by omega) (by omega) (by omega), Int.zero_add]
theorem l52i (hT : tnW T) (H : tnN D T) (h5 : D 3 1 = T 5) (hm : moK T (D 68) (D 69) 13) (hx : 0 ≤ x3 ∧ x3 < x2 ∧ x2 ≤ 12)
    (hq1 : ∀ (D' : xD) o4, frQ D' D → k71 T (D' 71) → (∀ b, x3 < b → b ≤ x2 → agT T x3 b) → WP 124 xF1 none 52 21 [some (.inr (.inr (some 56))), some (.inr (.inr (some 3))), some (.inl x2), some (.inl (x3 + 1)), o4] [] D' Q)
    (hq2 : ∀ (D' : xD) x4, frQ D' D → k71 T (D' 71) → (x3 < x4 ∧ x4 ≤ x2) → quT T x3 x4 → (∀ b, x3 < b → b < x4 → agT T x3 b) → Q none (xup (xup D' 56 7 x3) 56 8 x4)) :
    ∀ (k : Nat) (x4 : Int) (D' : xD), x4 + k = x2 + 1 → x3 < x4 → frQ D' D → k71 T (D' 71) → (∀ b, x3 < b → b < x4 → agT T x3 b) → WP 124 xF1 none 52 31 [some (.inr (.inr (some 56))), some (.inr (.inr (some 3))), some (.inl x2), some (.inl x3), some (.inl x4)] [] D' Q := by
  intro k
  induction k with
  | zero =>
    intro x4 D' h1 h2 h3 h4 h6
    rw [seg52_31 (ha0 := ho56) (ha1 := ho3), brT (by omega), cnX (by omega)]
    exact hq1 D' _ h3 h4 (fun b b1 b2 => h6 b b1 (by omega))
  | succ k ih =>
    intro x4 D' h1 h2 h3 h4 h6
    rw [seg52_31 (ha0 := ho56) (ha1 := ho3), brF (by omega)]
    refine m53 (T := T) hT (tnN_fr (fun a a1 a2 => h3 a (by omega)) H) (by rw [h3 3 (by decide)]; exact h5) (by omega) (by rw [h3 68 (by decide), h3 69 (by decide)]; exact hm) h4 (fun D2 r g1 g2 g3 => ?_)
    simp only [Option.toList_some, Option.toList_none, List.cons_append, List.nil_append]
    have F2 : frQ D2 D := fun a ha => by rw [g1 a ha]; exact h3 a ha
    rw [seg52_45 (ha0 := ho56) (ha1 := ho3)]
    rcases g3 with ⟨z1, z2⟩ | ⟨z1, z2⟩
    · rw [brT z1, cnX (by omega)]
      refine ih (x4 + 1) D2 (by omega) (by omega) F2 g2 (fun b b1 b2 => ?_)
      by_cases c : b = x4
      · rw [c]; exact z2
      · exact h6 b b1 (by omega)
    · rw [brF (by omega)]
      exact hq2 D2 x4 F2 g2 (by omega) z2 h6
theorem l52 (hT : tnW T) (H : tnN D T) (h5 : D 3 1 = T 5) (hm : moK T (D 68) (D 69) 13) (hx : 0 ≤ x2 ∧ x2 ≤ 12) (h7 : D 56 7 = -1) (h8 : D 56 8 = -1)
    (hq : ∀ (D' : xD), (∀ a, a < 56 ∨ (67 < a ∧ a ≠ 71 ∧ a ≠ 72) → D' a = D a) → (∀ j, j ≠ 7 → j ≠ 8 → D' 56 j = D 56 j) → k71 T (D' 71) → quF T x2 (D' 56 7) (D' 56 8) → Q none D') :
    ∀ (k : Nat) (x3 : Int) (D' : xD) (o4 : Option xv), x3 + k = x2 → 0 ≤ x3 → frQ D' D → k71 T (D' 71) → (∀ a b, 0 ≤ a → a < b → b ≤ x2 → a < x3 → agT T a b) → WP 124 xF1 none 52 21 [some (.inr (.inr (some 56))), some (.inr (.inr (some 3))), some (.inl x2), some (.inl x3), o4] [] D' Q := by
  intro k
  induction k with
  | zero =>
    intro x3 D' o4 h1 h2 h3 h4 h6
    rw [seg52_21 (ha0 := ho56) (ha1 := ho3), brT (by omega)]
    refine hq D' (fun a ha => h3 a (by omega)) (fun j _ _ => by rw [h3 56 (by decide)]) h4 (.inl ⟨?_, ?_, fun a b a1 a2 a3 => h6 a b a1 a2 a3 (by omega)⟩)
    · rw [h3 56 (by decide)]; exact h7
    · rw [h3 56 (by decide)]; exact h8
  | succ k ih =>
    intro x3 D' o4 h1 h2 h3 h4 h6
    rw [seg52_21 (ha0 := ho56) (ha1 := ho3), brF (by omega), cnX (by omega)]
    refine l52i hT H h5 hm (by omega) (fun D2 o4 g1 g2 g3 => ?_) (fun D2 x4 g1 g2 g3 g4 g5 => ?_) (x2 - x3).toNat (x3 + 1) D' (by omega) (by omega) h3 h4 (fun b b1 b2 => by omega)
    · refine ih (x3 + 1) D2 o4 (by omega) (by omega) g1 g2 (fun a b a1 a2 a3 a4 => ?_)
      by_cases c : a = x3
      · rw [c]; exact g3 b (by omega) a3
      · exact h6 a b a1 a2 a3 (by omega)
    · refine hq _ (fun a ha => by rw [up_ne (by omega), up_ne (by omega)]; exact g1 a (by omega)) (fun j j1 j2 => by rw [up_ne2 j2, up_ne2 j1, g1 56 (by decide)]) (by rw [up_ne (by decide), up_ne (by decide)]; exact g2) (.inr ?_)
      rw [up_eq, up_ne2 (show (7 : Int) ≠ 8 by decide), up_eq]
      refine ⟨by omega, g4, fun a b a1 a2 a3 a4 => ?_⟩
      rcases a4 with a4 | ⟨a4, a5⟩
      · exact h6 a b a1 a2 a3 a4
      · rw [a4]; exact g5 b (by omega) a5
theorem m52 (hT : tnW T) (H : tnN D T) (h5 : D 3 1 = T 5) (hm : moK T (D 68) (D 69) 13) (hK : k71 T (D 71)) (hx : 0 ≤ x2 ∧ x2 ≤ 12)
    (hq : ∀ (D' : xD), (∀ a, a < 56 ∨ (67 < a ∧ a ≠ 71 ∧ a ≠ 72) → D' a = D a) → (∀ j, j ≠ 7 → j ≠ 8 → D' 56 j = D 56 j) → k71 T (D' 71) → (D 70 x2 = smI (D 68) 0 (x2 + 1).toNat → D' 56 7 = -1 ∧ D' 56 8 = -1) → (D 70 x2 ≠ smI (D 68) 0 (x2 + 1).toNat → quF T x2 (D' 56 7) (D' 56 8)) → Q none D') :
    WP 124 xF1 none 52 0 [some (.inr (.inr (some 56))), some (.inr (.inr (some 3))), some (.inl x2), o3, o4] [] D Q := by
  rw [seg52_0 (ha0 := ho56) (ha1 := ho3)]
  obtain ⟨D1, hD1⟩ : ∃ D1, D1 = xup (xup D 56 7 (-1)) 56 8 (-1) := ⟨_, rfl⟩
  rw [← hD1]
  have F1 : ∀ a, a ≠ 56 → D1 a = D a := fun a ha => by rw [hD1, up_ne ha, up_ne ha]
  have E7 : D1 56 7 = -1 := by rw [hD1, up_ne2 (by decide), up_eq]
  have E8 : D1 56 8 = -1 := by rw [hD1, up_eq]
  have E9 : ∀ j, j ≠ 7 → j ≠ 8 → D1 56 j = D 56 j := fun j j1 j2 => by rw [hD1, up_ne2 j2, up_ne2 j1]
  clear hD1
  rw [m51 hx (fun j j1 j2 => by rw [F1 68 (by decide)]; exact (hm j j1 j2).1), F1 68 (by decide), F1 70 (by decide)]
  simp only [Option.toList_some, Option.toList_none, List.cons_append, List.nil_append]
  rw [seg52_15 (ha0 := ho56) (ha1 := ho3)]
  by_cases c : D 70 x2 = smI (D 68) 0 (x2 + 1).toNat
  · rw [if_pos c, brF (by decide)]
    exact hq D1 (fun a ha => F1 a (by omega)) E9 (by rw [F1 71 (by decide)]; exact hK) (fun _ => ⟨E7, E8⟩) (fun z => absurd c z)
  · rw [if_neg c, brT rfl]
    refine l52 (D := D1) hT (tnN_fr (fun a a1 a2 => F1 a (by omega)) H) (by rw [F1 3 (by decide)]; exact h5) (by rw [F1 68 (by decide), F1 69 (by decide)]; exact hm) hx E7 E8 (fun D2 g1 g2 g3 g4 => ?_) x2.toNat 0 D1 o4 (by omega) (by omega) (fun _ _ => rfl) (by rw [F1 71 (by decide)]; exact hK) (fun a b a1 a2 a3 a4 => by omega)
    exact hq D2 (fun a ha => by rw [g1 a ha, F1 a (by omega)]) (fun j j1 j2 => by rw [g2 j j1 j2, E9 j j1 j2]) g3 (fun z => absurd z c) (fun _ => g4)
end M98j
