/-! judged: the pair -/
section M68
variable {K : (Int → Int) → (Int → Int) → (Int → Int) → (Int → Int) → (Int → Int) → (Int → Int) → (Int → Int) → (Int → Int) → Prop}
variable {x1 x2 x3 s t p q u k n v : Int} {D D' D1 D2 : xD} {A T : Int → Int} {Q : Option xv → xD → Prop}
theorem l83 (hc : jcA D A) : ∀ (r : Nat) (x1 c : Int), 208 = c + r → 0 ≤ c → 0 ≤ x1 → x1 ≤ c → WP 124 xF1 none 83 4 [some (.inr (.inr (some 3))), some (.inl x1), some (.inl c)] [] D Q = Q (some (.inl (x1 + smI (fun c => if 0 < A (220 + c) ∨ 0 < A (430 + c) then 1 else 0) c r))) D := by
  intro r
  induction r with
  | zero =>
    intro x1 c h1 h2 h3 h4
    rw [seg83_4 (ha0 := ho3), brT (c := 208 ≤ c) (by omega)]
    simp [smI]
  | succ r ih =>
    intro x1 c h1 h2 h3 h4
    obtain ⟨e1, e2⟩ := hc c h2 (by omega)
    rw [seg83_4 (ha0 := ho3), brF (c := 208 ≤ c) (by omega), cnB (by omega)]
    simp only [Nat.reduceAdd, smI]
    rw [e1, e2]
    have y : 0 < A (220 + c) ∨ 0 < A (430 + c) → WP 124 xF1 none 83 30 [some (.inr (.inr (some 3))), some (.inl x1), some (.inl c)] [.inl x1] D Q = Q (some (.inl (x1 + ((if 0 < A (220 + c) ∨ 0 < A (430 + c) then 1 else 0) + smI (fun c => if 0 < A (220 + c) ∨ 0 < A (430 + c) then 1 else 0) (c + 1) r)))) D := fun h => by
      rw [seg83_30 (ha0 := ho3), seg83_35 (ha0 := ho3), cnX (by omega), cnX (by omega), ih _ _ (by omega) (by omega) (by omega) (by omega), if_pos h, Int.add_assoc]
    by_cases c1 : 0 < A (220 + c)
    · rw [brT c1]; exact y (.inl c1)
    · rw [brF c1, cnB (by omega)]
      by_cases c2 : A (430 + c) ≤ 0
      · rw [brT c2, seg83_35 (ha0 := ho3), cnX (by omega), cnX (by omega), ih _ _ (by omega) (by omega) (by omega) (by omega), if_neg (fun z => by omega), Int.add_assoc]
      · rw [brF c2]; exact y (.inr (by omega))
theorem m83 (hc : jcA D A) : WP 124 xF1 none 83 0 [some (.inr (.inr (some 3))), none, none] [] D Q = Q (some (.inl (tdV A))) D := by
  rw [seg83_0 (ha0 := ho3), l83 hc 208 0 0 (by omega) (by omega) (by omega) (by omega), Int.zero_add]
  rfl
theorem l215 (he : D 96 = A) : ∀ (r : Nat) (x1 c : Int), 208 = c + r → 0 ≤ c → 0 ≤ x1 → x1 ≤ c → WP 124 xF1 none 215 4 [some (.inr (.inr (some 95))), some (.inl x1), some (.inl c)] [] D Q = Q (some (.inl (x1 + smI (fun c => if 0 < A (220 + c) ∨ 0 < A (430 + c) then 1 else 0) c r))) D := by
  intro r
  induction r with
  | zero =>
    intro x1 c h1 h2 h3 h4
    rw [seg215_4 (ha0 := ho95), brT (c := 208 ≤ c) (by omega)]
    simp [smI]
  | succ r ih =>
    intro x1 c h1 h2 h3 h4
    rw [seg215_4 (ha0 := ho95), brF (c := 208 ≤ c) (by omega), cnX (by omega), cnB (by omega)]
    simp only [Nat.reduceAdd, smI]
    rw [he]
    have y : 0 < A (220 + c) ∨ 0 < A (430 + c) → WP 124 xF1 none 215 38 [some (.inr (.inr (some 95))), some (.inl x1), some (.inl c)] [.inl x1] D Q = Q (some (.inl (x1 + ((if 0 < A (220 + c) ∨ 0 < A (430 + c) then 1 else 0) + smI (fun c => if 0 < A (220 + c) ∨ 0 < A (430 + c) then 1 else 0) (c + 1) r)))) D := fun h => by
      rw [seg215_38 (ha0 := ho95), seg215_43 (ha0 := ho95), cnX (by omega), cnX (by omega), ih _ _ (by omega) (by omega) (by omega) (by omega), if_pos h, Int.add_assoc]
    by_cases c1 : 0 < A (220 + c)
    · rw [brT c1]; exact y (.inl c1)
    · rw [brF c1, cnX (by omega), cnB (by omega)]
      by_cases c2 : A (430 + c) ≤ 0
      · rw [brT c2, seg215_43 (ha0 := ho95), cnX (by omega), cnX (by omega), ih _ _ (by omega) (by omega) (by omega) (by omega), if_neg (fun z => by omega), Int.add_assoc]
      · rw [brF c2]; exact y (.inr (by omega))
theorem m215 (he : D 96 = A) : WP 124 xF1 none 215 0 [some (.inr (.inr (some 95))), none, none] [] D Q = Q (some (.inl (tdV A))) D := by
  rw [seg215_0 (ha0 := ho95), l215 he 208 0 0 (by omega) (by omega) (by omega) (by omega), Int.zero_add]
  rfl
theorem m216 (hT : tnW T) (hA : jgW A T) (H : tnM A T) (he : D 96 = A) (hx : (0 ≤ x1 ∧ x1 ≤ 2) ∨ (10 ≤ x1 ∧ x1 ≤ 22) ∨ (30 ≤ x1 ∧ x1 ≤ 42)) (hq : ∀ D'' : xD, jkF D'' D → Q (some (.inl (jdV A T x1))) D'') : WP 124 xF1 none 216 43 [some (.inr (.inr (some 95))), some (.inl x1), none, none] [] D Q := by
  have w := hT.1
  have e1 : A 1 = T 1 := H 1 (by decide)
  rw [seg216_43 (ha0 := ho95)]
  refine m207 (A := A) he (by omega) (fun D1 f1 f2 f3 f4 f5 f6 f7 => ?_)
  simp only [Option.toList_some, Option.toList_none, List.cons_append, List.nil_append]
  rw [seg216_47 (ha0 := ho95)]
  have l := l216 (D := D) (Q := Q) (x1 := x1) hT hA H he 13 0 D1 rfl ⟨fun a a1 a2 a3 a4 a5 a6 a7 => f1.1 a a1 a2 a3 a4 a5, fun i i1 i2 => f1.2 i i1 i2⟩ (fun q u q1 q2 u1 u2 => ?_) (fun q q1 q2 => ⟨?_, ?_, ?_⟩) (fun d d1 d2 => ?_) (fun j hj => by omega) f6 (fun D2 u3 g0 g41 g42 gO gb => ?_)
  · exact l
  · rw [show (((0 : Nat) : Int)) = 0 from rfl, jgH_0, jgH_0]
    exact ⟨f5 _ (by omega) (by omega), f5 _ (by omega) (by omega)⟩
  · rw [f2 q q1 (by omega)]; rfl
  · rw [f2 (q + 8) (by omega) (by omega)]; rfl
  · rw [f3 q q1 q2, H (18 + q) (by omega)]; rfl
  · rw [f4 d d1 (by omega), if_pos (by omega), H (150 + 4 * d + 2) (by omega)]; rfl
  · have fin := fun D'' h => hq D'' h
    unfold jdV at fin
    rw [if_neg (by omega)] at fin
    generalize jgM A T 13 0 = r at g41 g42 gO gb fin ⊢
    have last : ∀ D3 : xD, jkF D3 D → D3 95 41 = r.2.1 → D3 95 42 = r.2.2 → (r.1 = 0 → jmO A T 13 D3) → WP 124 xF1 none 216 135 [some (.inr (.inr (some 95))), some (.inl x1), some (.inl r.1), some (.inl u3)] [] D3 Q := by
      intro D3 k0 k41 k42 kO
      have fin := fin D3 k0
      rw [seg216_135 (ha0 := ho95)]
      by_cases c : x1 < 10
      · rw [brT c]
        by_cases d0 : x1 = 0
        · rw [if_pos d0] at fin
          rw [brF (c := x1 ≠ 0) (fun z => z d0), seg216_201 (ha0 := ho95)]
          exact fin
        · rw [if_neg d0] at fin
          rw [brT (c := x1 ≠ 0) d0]
          by_cases d1 : x1 = 1
          · rw [if_pos d1] at fin
            rw [brF (c := x1 ≠ 1) (fun z => z d1), seg216_201 (ha0 := ho95), k41]
            exact fin
          · rw [if_neg d1, if_pos (by omega)] at fin
            rw [brT (c := x1 ≠ 1) d1, seg216_201 (ha0 := ho95), k42]
            exact fin
      · rw [if_neg (by omega), if_neg (by omega), if_neg (by omega)] at fin
        rw [brF c]
        by_cases cb : r.1 = 0
        · have hO := kO cb
          rw [brT (c := r.1 ≤ 0) (by omega)]
          by_cases c3 : 30 ≤ x1
          · rw [if_neg (by omega), if_pos (by omega), if_pos cb] at fin
            rw [brT c3, cnX (by omega), cnB (by omega), seg216_176 (ha0 := ho95)]
            have := (hO (x1 - 30).toNat (by omega)).2
            rw [show (((x1 - 30).toNat : Nat) : Int) = x1 - 30 by omega] at this
            simp only [Nat.reduceAdd]
            rw [this]
            exact fin
          · rw [if_pos (by omega), if_pos cb] at fin
            rw [brF c3, cnX (by omega), cnB (by omega), seg216_176 (ha0 := ho95)]
            have := (hO (x1 - 10).toNat (by omega)).1
            rw [show (((x1 - 10).toNat : Nat) : Int) = x1 - 10 by omega] at this
            simp only [Nat.reduceAdd]
            rw [this]
            exact fin
        · rw [brF (c := r.1 ≤ 0) (by omega), seg216_176 (ha0 := ho95)]
          by_cases c3 : 30 ≤ x1
          · rw [if_neg (by omega), if_pos (by omega), if_neg cb] at fin
            exact fin
          · rw [if_pos (by omega), if_neg cb] at fin
            exact fin
    rw [seg216_126 (ha0 := ho95)]
    by_cases cb : r.1 = 0
    · obtain ⟨y1, y2⟩ := gO cb
      rw [brF (c := r.1 ≠ 0) (fun z => z cb)]
      exact last _ ⟨fun a a1 a2 a3 a4 a5 a6 a7 => by rw [up_ne a1]; exact g0.1 a a1 a2 a3 a4 a5 a6 a7, fun i i1 i2 => by rw [up_ne2 i2]; exact g0.2 i i1 i2⟩ (by rw [up_ne2 (by decide)]; exact g41) (by rw [up_eq, y1]) (fun _ j hj => by rw [up_ne (by decide), up_ne (by decide)]; exact y2 j hj)
    · rw [brT (c := r.1 ≠ 0) cb]
      exact last D2 g0 g41 (g42 cb) (fun z => absurd z cb)
theorem pair14 : ∀ (z1 : Int), xinP z1 → xpr (Inv K) 128 [some (.inr (.inr (some 1))), some (.inl z1), none, none] 216 [some (.inr (.inr (some 95))), some (.inl z1), none, none] := by
  intro z1 y1 D H
  obtain ⟨hit, hs, hw, -, -, hK, h85⟩ := id H
  obtain ⟨hC, hM, hT⟩ := tn_of hs hw
  have hc : jcA D (D 96) := fun c c1 c2 => hs.2.2.2.2.2.2.2 c c1 c2
  have hT0 : trA (D 96) 0 = D 96 0 := tr_at (by decide)
  have hA : jgW (D 96) (trA (D 96)) := fun s t s1 s2 t1 t2 => by
    have w := hT.1
    have h := hw.2.2.2.2.2.2.1 (13 * s + t) (by omega) (by omega)
    rw [show 220 + (13 * s + t) = 220 + 13 * s + t by omega, show 430 + (13 * s + t) = 430 + 13 * s + t by omega] at h
    exact ⟨h.1, h.2.1⟩
  have m16 : ∀ D1 : xD, z1 ≠ 3 → ∀ Q : Option xv → xD → Prop, ((0 ≤ z1 ∧ z1 ≤ 2) ∨ (10 ≤ z1 ∧ z1 ≤ 22) ∨ (30 ≤ z1 ∧ z1 ≤ 42) → WP 124 xF1 none 216 43 [some (.inr (.inr (some 95))), some (.inl z1), none, none] [] D1 Q) → (¬ ((0 ≤ z1 ∧ z1 ≤ 2) ∨ (10 ≤ z1 ∧ z1 ≤ 22) ∨ (30 ≤ z1 ∧ z1 ≤ 42)) → Q (some (.inl (-1))) D1) → WP 124 xF1 none 216 0 [some (.inr (.inr (some 95))), some (.inl z1), none, none] [] D1 Q := by
    intro D1 h3 Q qy qn
    rw [seg216_0 (ha0 := ho95), brT (c := z1 ≠ 3) h3, m149]
    simp only [Option.toList_some, Option.toList_none, List.cons_append, List.nil_append]
    rw [seg216_16 (ha0 := ho95)]
    by_cases c1 : 0 ≤ z1 ∧ z1 ≤ 2
    · rw [if_pos c1, brT (by decide)]; exact qy (.inl c1)
    · rw [if_neg c1, brF (by decide), m149]
      simp only [Option.toList_some, Option.toList_none, List.cons_append, List.nil_append]
      rw [seg216_27 (ha0 := ho95)]
      by_cases c2 : 10 ≤ z1 ∧ z1 ≤ 22
      · rw [if_pos c2, brT (by decide)]; exact qy (.inr (.inl c2))
      · rw [if_neg c2, brF (by decide), m149]
        simp only [Option.toList_some, Option.toList_none, List.cons_append, List.nil_append]
        rw [seg216_38 (ha0 := ho95)]
        by_cases c3 : 30 ≤ z1 ∧ z1 ≤ 42
        · rw [if_pos c3, brT (by decide)]; exact qy (.inr (.inr c3))
        · rw [if_neg c3, brF (by decide)]
          exact qn (fun z => z.elim c1 (fun y => y.elim c2 c3))
  have bad : z1 ≠ 3 → ¬ ((0 ≤ z1 ∧ z1 ≤ 2) ∨ (10 ≤ z1 ∧ z1 ≤ 22) ∨ (30 ≤ z1 ∧ z1 ≤ 42)) → ∃ r : Int, (some (.inl (-1)) : Option xv) = some (.inl r) ∧ D 0 = D 0 ∧ WP 124 xF1 none 216 0 [some (.inr (.inr (some 95))), some (.inl z1), none, none] [] D (fun w D2 => w = some (.inl r) ∧ D2 0 = D 0 ∧ Inv K D2) := by
    intro h3 hb
    exact ⟨-1, rfl, rfl, m16 D h3 _ (fun z => absurd z hb) (fun _ => ⟨rfl, rfl, H⟩)⟩
  have go : z1 ≠ 3 → (0 ≤ z1 ∧ z1 ≤ 2) ∨ (10 ≤ z1 ∧ z1 ≤ 22) ∨ (30 ≤ z1 ∧ z1 ≤ 42) → ∀ x2 x3 : Int, (x2 = if 10 ≤ z1 ∧ z1 ≤ 22 then 1 else 0) → (x3 = if 30 ≤ z1 ∧ z1 ≤ 42 then 1 else 0) → WP 124 xF1 none 128 68 [some (.inr (.inr (some 1))), some (.inl z1), some (.inl x2), some (.inl x3)] [] D (fun v D1 => ∃ r : Int, v = some (.inl r) ∧ D1 0 = D 0 ∧ WP 124 xF1 none 216 0 [some (.inr (.inr (some 95))), some (.inl z1), none, none] [] D1 (fun w D2 => w = some (.inl r) ∧ D2 0 = D 0 ∧ Inv K D2)) := by
    intro h3 hz x2 x3 hx2 hx3
    rw [seg128_68 (ha0 := ho1)]
    simp only [Nat.reduceAdd]
    refine m17 (A := D 96) (T := trA (D 96)) hT hA hC hc (fun D1 f0 f1 f2 f3 f4 => ?_)
    simp only [Option.toList_some, Option.toList_none, List.cons_append, List.nil_append]
    have e96 : D1 96 = D 96 := f0 96 (by decide)
    have mod : ∀ v : Int, v = jdV (D 96) (trA (D 96)) z1 → ∃ r : Int, (some (.inl v) : Option xv) = some (.inl r) ∧ D1 0 = D 0 ∧ WP 124 xF1 none 216 0 [some (.inr (.inr (some 95))), some (.inl z1), none, none] [] D1 (fun w D2 => w = some (.inl r) ∧ D2 0 = D 0 ∧ Inv K D2) := by
      intro v hv
      refine ⟨v, rfl, f0 0 (by decide), m16 D1 h3 _ (fun _ => ?_) (fun z => absurd hz z)⟩
      refine m216 (A := D 96) (T := trA (D 96)) hT hA hM e96 hz (fun D2 g => ⟨by rw [hv], ?_, ?_⟩)
      · rw [g.1 0 (by decide) (by decide) (by decide) (by decide) (by decide) (by decide) (by decide), f0 0 (by decide)]
      · refine Inv_free2 H (fun a ha1 ha2 => ?_) (fun i hi => ?_)
        · unfold xfre at ha1
          rw [g.1 a ha2 (by omega) (by omega) (by omega) (by omega) (by omega) (by omega), f0 a (by omega)]
        · rw [g.2 i (by omega) (by omega), f0 95 (by decide)]
    unfold jdV at mod
    rw [if_neg h3] at mod
    generalize jgM (D 96) (trA (D 96)) 13 0 = r at f1 f2 f3 f4 mod
    rw [seg128_79 (ha0 := ho1)]
    simp only [Nat.reduceAdd]
    rw [f1]
    by_cases c1 : 10 ≤ z1 ∧ z1 ≤ 22
    · rw [if_pos c1] at hx2
      rw [if_neg (by omega), if_neg (by omega), if_neg (by omega), if_pos c1] at mod
      rw [brF (c := x2 = 0) (by omega)]
      by_cases cb : r.1 = 0
      · rw [if_pos cb] at mod
        have := (f4 cb (z1 - 10).toNat (by omega)).1
        rw [show (((z1 - 10).toNat : Nat) : Int) = z1 - 10 by omega] at this
        rw [brF (c := r.1 ≠ 0) (fun z => z cb), cnX (by omega), cnB (by omega), seg128_109 (ha0 := ho1), this]
        exact mod _ rfl
      · rw [if_neg cb] at mod
        rw [brT (c := r.1 ≠ 0) cb, seg128_109 (ha0 := ho1)]
        exact mod _ rfl
    · rw [if_neg c1] at hx2
      rw [brT (c := x2 = 0) hx2]
      by_cases c2 : 30 ≤ z1 ∧ z1 ≤ 42
      · rw [if_pos c2] at hx3
        rw [if_neg (by omega), if_neg (by omega), if_neg (by omega), if_neg c1, if_pos c2] at mod
        rw [brF (c := x3 = 0) (by omega)]
        by_cases cb : r.1 = 0
        · rw [if_pos cb] at mod
          have := (f4 cb (z1 - 30).toNat (by omega)).2
          rw [show (((z1 - 30).toNat : Nat) : Int) = z1 - 30 by omega] at this
          rw [brF (c := r.1 ≠ 0) (fun z => z cb), cnX (by omega), cnB (by omega), seg128_140 (ha0 := ho1), this]
          exact mod _ rfl
        · rw [if_neg cb] at mod
          rw [brT (c := r.1 ≠ 0) cb, seg128_140 (ha0 := ho1)]
          exact mod _ rfl
      · rw [if_neg c2] at hx3
        have h02 : 0 ≤ z1 ∧ z1 ≤ 2 := by omega
        rw [brT (c := x3 = 0) hx3]
        by_cases d0 : z1 = 0
        · rw [if_pos d0] at mod
          rw [brF (c := z1 ≠ 0) (fun z => z d0)]
          exact mod _ rfl
        · rw [if_neg d0] at mod
          rw [brT (c := z1 ≠ 0) d0]
          by_cases d1 : z1 = 1
          · rw [if_pos d1] at mod
            rw [brF (c := z1 ≠ 1) (fun z => z d1), seg128_175 (ha0 := ho1), f2]
            exact mod _ rfl
          · rw [if_neg d1, if_pos (by omega)] at mod
            rw [brT (c := z1 ≠ 1) d1, seg128_175 (ha0 := ho1), f3]
            exact mod _ rfl
  rw [seg128_0 (ha0 := ho1)]
  by_cases h3 : z1 = 3
  · rw [brF (c := z1 ≠ 3) (fun z => z h3)]
    simp only [Nat.reduceAdd]
    rw [m83 hc]
    simp only [Option.toList_some, Option.toList_none, List.cons_append, List.nil_append]
    rw [seg128_12 (ha0 := ho1)]
    refine ⟨_, rfl, rfl, ?_⟩
    rw [seg216_0 (ha0 := ho95), brF (c := z1 ≠ 3) (fun z => z h3), m215 rfl]
    simp only [Option.toList_some, Option.toList_none, List.cons_append, List.nil_append]
    rw [seg216_9 (ha0 := ho95)]
    exact ⟨rfl, rfl, H⟩
  · rw [brT (c := z1 ≠ 3) h3]
    have s48 : ∀ x2 x3 : Int, (x2 = if 10 ≤ z1 ∧ z1 ≤ 22 then 1 else 0) → (x3 = if 30 ≤ z1 ∧ z1 ≤ 42 then 1 else 0) → WP 124 xF1 none 128 48 [some (.inr (.inr (some 1))), some (.inl z1), some (.inl x2), none] [.inl x3] D (fun v D1 => ∃ r : Int, v = some (.inl r) ∧ D1 0 = D 0 ∧ WP 124 xF1 none 216 0 [some (.inr (.inr (some 95))), some (.inl z1), none, none] [] D1 (fun w D2 => w = some (.inl r) ∧ D2 0 = D 0 ∧ Inv K D2)) := by
      intro x2 x3 hx2 hx3
      rw [seg128_48 (ha0 := ho1)]
      by_cases c1 : 10 ≤ z1 ∧ z1 ≤ 22
      · have e := hx2
        rw [if_pos c1] at e
        rw [brT (c := x2 ≠ 0) (by omega)]
        exact go h3 (.inr (.inl c1)) x2 x3 hx2 hx3
      · have e := hx2
        rw [if_neg c1] at e
        rw [brF (c := x2 ≠ 0) (fun z => z e)]
        by_cases c2 : 30 ≤ z1 ∧ z1 ≤ 42
        · have e3 := hx3
          rw [if_pos c2] at e3
          rw [brT (c := x3 ≠ 0) (by omega)]
          exact go h3 (.inr (.inr c2)) x2 x3 hx2 hx3
        · have e3 := hx3
          rw [if_neg c2] at e3
          rw [brF (c := x3 ≠ 0) (fun z => z e3)]
          by_cases c4 : z1 < 0
          · rw [brT c4, seg128_66 (ha0 := ho1)]
            exact bad h3 (fun z => by omega)
          · rw [brF c4]
            by_cases c5 : z1 ≤ 2
            · rw [brT c5]
              exact go h3 (.inl ⟨by omega, c5⟩) x2 x3 hx2 hx3
            · rw [brF c5, seg128_66 (ha0 := ho1)]
              exact bad h3 (fun z => by omega)
    have s30 : ∀ x2 : Int, (x2 = if 10 ≤ z1 ∧ z1 ≤ 22 then 1 else 0) → WP 124 xF1 none 128 30 [some (.inr (.inr (some 1))), some (.inl z1), none, none] [.inl x2] D (fun v D1 => ∃ r : Int, v = some (.inl r) ∧ D1 0 = D 0 ∧ WP 124 xF1 none 216 0 [some (.inr (.inr (some 95))), some (.inl z1), none, none] [] D1 (fun w D2 => w = some (.inl r) ∧ D2 0 = D 0 ∧ Inv K D2)) := by
      intro x2 hx2
      rw [seg128_30 (ha0 := ho1)]
      by_cases c1 : z1 < 30
      · rw [brT c1, seg128_47 (ha0 := ho1)]
        exact s48 x2 0 hx2 (by rw [if_neg (by omega)])
      · rw [brF c1]
        by_cases c2 : 42 < z1
        · rw [brT c2, seg128_47 (ha0 := ho1)]
          exact s48 x2 0 hx2 (by rw [if_neg (by omega)])
        · rw [brF c2]
          exact s48 x2 1 hx2 (by rw [if_pos (by omega)])
    by_cases c1 : z1 < 10
    · rw [brT c1, seg128_29 (ha0 := ho1)]
      exact s30 0 (by rw [if_neg (by omega)])
    · rw [brF c1]
      by_cases c2 : 22 < z1
      · rw [brT c2, seg128_29 (ha0 := ho1)]
        exact s30 0 (by rw [if_neg (by omega)])
      · rw [brF c2]
        exact s30 1 (by rw [if_pos (by omega)])
end M68
