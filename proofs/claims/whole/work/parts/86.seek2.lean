/-! nets: the reference's search, whole -/
section M86
variable {E x1 x2 x3 x4 n m u h v e B K : Int} {D D' D1 D2 : xD} {p b vi b' vi' : Int → Int} {rk : Int → Nat} {P : Int → Prop} {o1 o2 o3 o4 : Option xv} {Q : Option xv → xD → Prop}
theorem aj_1 (hS : mlS D) (hv : 0 ≤ v ∧ v < 120) : D 104 v = -1 ∨ ((0 ≤ D 104 v ∧ D 104 v < D 95 21) ∧ D 100 (D 104 v) = v) := hS.2.1.1 v hv.1 hv.2
theorem l188a (hS : mlS D) (hP : poI D p B) (hB : B ≤ 3000) (hq : ∀ D' r, skE D D' p → (r = if D' 107 1 ≤ 0 then 0 else 1) → Q (some (.inl r)) D') :
    ∀ (k : Nat) (x1 n : Int) (D' : xD) (rk : Int → Nat) (o3 o4 : Option xv), skI D D' p x1 n (fun _ => True) rk → seM p (D' 107) n ≤ k → WP 124 xF1 none 188 55 [some (.inr (.inr (some 95))), some (.inl x1), some (.inl n), o3, o4] [] D' Q := by
  have fin : ∀ (x1 n : Int) (D' : xD) (rk : Int → Nat) (o3 o4 : Option xv), n ≤ 0 → skI D D' p x1 n (fun _ => True) rk → WP 124 xF1 none 188 55 [some (.inr (.inr (some 95))), some (.inl x1), some (.inl n), o3, o4] [] D' Q := by
    intro x1 n D' rk o3 o4 h0 h1
    obtain ⟨a1, a2, a3, a4, a5⟩ := h1
    have hz := (sq_bd a3).2 h0
    have hE : skE D D' p := ⟨a1, ⟨rk, a2⟩, fun e q1 q2 q3 q4 => a4 e q1 q2 q3 q4 (hz _ (hS.2.2.1.2 e q1 q2).1.1 (hS.2.2.1.2 e q1 q2).1.2) trivial⟩
    rw [seg188_55 (ha0 := ho95), brT h0, cnB (by decide)]
    simp only [Nat.reduceAdd]
    by_cases c : D' 107 1 ≤ 0
    · rw [brT c, seg188_259 (ha0 := ho95)]
      exact ⟨.inl rfl, hq D' 0 hE (by rw [if_pos c])⟩
    · rw [brF c, seg188_259 (ha0 := ho95)]
      exact ⟨.inr rfl, hq D' 1 hE (by rw [if_neg c])⟩
  intro k
  induction k with
  | zero =>
    intro x1 n D' rk o3 o4 h1 h2
    have ub := h1.2.1.2.1
    have : 0 ≤ smI (fun v => p v - p 0 - D' 107 v) 0 120 := by
      have := smI_le (f := fun _ => 0) (g := fun v => p v - p 0 - D' 107 v) 120 0 (fun j j1 j2 => by have := ub j j1 (by omega); show 0 ≤ p j - p 0 - D' 107 j; omega)
      rw [smI_0 120 0 (fun _ _ _ => rfl)] at this
      exact this
    unfold seM at h2
    exact fin x1 n D' rk o3 o4 (by omega) h1
  | succ k ih =>
    intro x1 n D' rk o3 o4 h1 h2
    by_cases c : n ≤ 0
    · exact fin x1 n D' rk o3 o4 c h1
    · obtain ⟨a1, a2, a3, a4, a5⟩ := h1
      have bd := (sq_bd a3).1
      have s1 := a3.2.2.1
      have w1 := a3.2.2.2.1 0 (by omega) (by omega)
      rw [show (x1 + 0) % 128 = x1 by omega] at w1
      have hw : ∀ u, xup D' 110 (D' 109 x1) 0 110 u = if u = D' 109 x1 then 0 else D' 110 u := fun u => by rw [up_at]
      obtain ⟨b1, b2⟩ := sq_pop a3 (by omega) hw
      rw [seg188_55 (ha0 := ho95), brF c, cnB (by omega), cnX (by omega), cnX (by omega)]
      simp only [Nat.reduceAdd]
      refine ⟨⟨b1.1, b1.2, .inl (by trivial)⟩, ?_⟩
      have f104 := a1 104 (by decide) (by decide) (by decide) (by decide)
      rw [cnB (by omega), iand_127 (by omega), f104, show n + -1 = n - 1 by omega]
      have e107 : xup D' 110 (D' 109 x1) 0 107 = D' 107 := up_ne (by decide)
      have e108 : xup D' 110 (D' 109 x1) 0 108 = D' 108 := up_ne (by decide)
      have e109 : xup D' 110 (D' 109 x1) 0 109 = D' 109 := up_ne (by decide)
      refine l188b (K := k) hS hP hB b1 (fun D2 n2 rk2 o3 o4 k1 k2 => ih _ n2 D2 rk2 o3 o4 k1 k2) 1401 _ (n - 1) _ rk (by have := aj_1 hS b1; have := hS.1; omega) (aj_1 hS b1) ⟨fun a c1 c2 c3 c4 => by rw [up_ne c4]; exact a1 a c1 c2 c3 c4, by rw [e107, e108]; exact a2, by rw [e109]; exact b2, fun e q1 q2 q3 q4 q5 q6 => ?_, fun u u1 u2 u3 => ?_⟩ ?_ ?_ ?_
      · rw [e108] at q4
        rw [e107]
        have tv : D 100 e ≠ D' 109 x1 := fun z => by
          rcases q6 with q6 | q6
          · exact q6 z
          · have := hS.2.1.2.2.1 e q1 q2
            rw [z] at this
            omega
        rw [hw, if_neg tv] at q5
        exact a4 e q1 q2 q3 q4 q5 trivial
      · rw [e108]
        rw [hw] at u3
        by_cases c2 : u = D' 109 x1
        · rw [if_pos c2] at u3; omega
        · rw [if_neg c2] at u3; exact a5 u u1 u2 u3
      · rw [e108]; exact .inr (a5 _ b1.1 b1.2 w1.2)
      · rw [hw, if_pos rfl]
      · rw [e107]
        have : seM p (D' 107) (n - 1) = seM p (D' 107) n - 1 := by unfold seM; omega
        omega
theorem l188i (hq : ∀ D' : xD, mqF D' D → (∀ j, 0 ≤ j → j < 120 → D' 107 j = -1000000 ∧ D' 108 j = -1 ∧ D' 110 j = 0) → WP 124 xF1 none 188 2 [some (.inr (.inr (some 95))), some (.inl 120), o2, o3, o4] [] D' Q) :
    ∀ (k : Nat) (x1 : Int) (D' : xD), x1 + k = 120 → 0 ≤ x1 → mqF D' D → (∀ j, 0 ≤ j → j < x1 → D' 107 j = -1000000 ∧ D' 108 j = -1 ∧ D' 110 j = 0) → WP 124 xF1 none 188 2 [some (.inr (.inr (some 95))), some (.inl x1), o2, o3, o4] [] D' Q := by
  intro k
  induction k with
  | zero =>
    intro x1 D' h1 h2 h3 h4
    have e : x1 = 120 := by omega
    subst e
    exact hq D' h3 h4
  | succ k ih =>
    intro x1 D' h1 h2 h3 h4
    rw [seg188_2 (ha0 := ho95), brF (by omega), cnB (by omega), cnB (by omega)]
    simp only [Nat.reduceAdd]
    refine ⟨⟨h2, by omega, .inl (by trivial)⟩, ?_⟩
    rw [cnX (by omega)]
    refine ih (x1 + 1) _ (by omega) (by omega) (fun a c1 c2 c3 c4 => by rw [up_ne c4, up_ne c2, up_ne c1]; exact h3 a c1 c2 c3 c4) (fun j j1 j2 => ?_)
    simp (disch := decide) only [up_ne, up_at]
    by_cases c : j = x1
    · rw [if_pos c, if_pos c, if_pos c]; exact ⟨rfl, rfl, rfl⟩
    · rw [if_neg c, if_neg c, if_neg c]; exact h4 j j1 (by omega)
/-- the labels at the end: nobody waits, every arc is settled -/
theorem m188 (hS : mlS D) (hP : poI D p B) (hB : B ≤ 3000) (hq : ∀ D' r, skE D D' p → (r = if D' 107 1 ≤ 0 then 0 else 1) → Q (some (.inl r)) D') : WP 124 xF1 none 188 0 [some (.inr (.inr (some 95))), o1, o2, o3, o4] [] D Q := by
  rw [seg188_0 (ha0 := ho95)]
  refine l188i (fun D1 f1 f2 => ?_) 120 0 D (by omega) (by omega) (fun _ _ _ _ _ => rfl) (fun j j1 j2 => by omega)
  rw [seg188_2 (ha0 := ho95), brT (by omega), cnB (by decide), cnB (by decide)]
  simp only [Nat.reduceAdd]
  obtain ⟨D2, hD2⟩ : ∃ D2, D2 = xup (xup D1 107 0 0) 109 0 0 := ⟨_, rfl⟩
  rw [← hD2]
  have a107 : ∀ j, D2 107 j = if j = 0 then 0 else D1 107 j := fun j => by rw [hD2]; simp (disch := decide) only [up_ne, up_at]
  have a108 : D2 108 = D1 108 := by rw [hD2]; simp (disch := decide) only [up_ne]
  have a110 : D2 110 = D1 110 := by rw [hD2]; simp (disch := decide) only [up_ne]
  have a109 : D2 109 0 = 0 := by rw [hD2, up_eq]
  have aF : mqF D2 D := fun a c1 c2 c3 c4 => by rw [hD2, up_ne c3, up_ne c1]; exact f1 a c1 c2 c3 c4
  clear hD2
  rw [seg188_55 (ha0 := ho95), brF (by decide), cnB (by decide), cnX (by decide), cnX (by decide)]
  simp only [Nat.reduceAdd]
  rw [a109]
  refine ⟨⟨by decide, by decide, .inl (by trivial)⟩, ?_⟩
  rw [cnB (by decide), iand_127 (by decide), aF 104 (by decide) (by decide) (by decide) (by decide)]
  have b107 : xup D2 110 0 0 107 = D2 107 := up_ne (by decide)
  have b108 : xup D2 110 0 0 108 = D1 108 := by rw [up_ne (by decide), a108]
  have b110 : ∀ j, 0 ≤ j → j < 120 → xup D2 110 0 0 110 j = 0 := fun j j1 j2 => by
    rw [up_at]
    by_cases c : j = 0
    · rw [if_pos c]
    · rw [if_neg c, a110]; exact (f2 j j1 j2).2.2
  have hI : seI D p (D2 107) (D1 108) (fun _ => 0) := by
    refine ⟨⟨by rw [a107, if_pos rfl], (f2 0 (by decide) (by decide)).2.1⟩, fun v v1 v2 => ?_, fun v v1 v2 v3 => absurd (f2 v v1 v2).2.1 v3⟩
    rw [a107]
    have pv := hP.2.1 v
    have p0 := hP.2.2.1
    have f := (f2 v v1 v2).1
    by_cases c : v = 0
    · rw [if_pos c, c]; exact ⟨by omega, fun z => absurd c (by omega)⟩
    · rw [if_neg c, f]; exact ⟨by omega, fun _ _ => rfl⟩
  have hv0 : (0 : Int) ≤ 0 ∧ (0 : Int) < 120 := by decide
  obtain ⟨K, hK⟩ : ∃ K : Nat, seM p (D2 107) 0 ≤ K := ⟨(seM p (D2 107) 0).toNat, by omega⟩
  rw [show (1 + -1 : Int) = 0 from rfl, show ((0 + 1 : Int) % 128) = 1 from rfl]
  refine l188b (K := K) hS hP hB hv0 (fun D3 n2 rk2 o3 o4 k1 k2 => l188a hS hP hB hq K _ n2 D3 rk2 o3 o4 k1 k2) 1401 _ 0 _ (fun _ => 0) (by have := aj_1 hS hv0; have := hS.1; omega) (aj_1 hS hv0) ⟨fun a c1 c2 c3 c4 => by rw [up_ne c4]; exact aF a c1 c2 c3 c4, by rw [b107, b108]; exact hI, ⟨fun v v1 v2 => .inl (b110 v v1 v2), smI_0 120 0 (fun j j1 j2 => b110 j j1 (by omega)), by decide, fun i i1 i2 => by omega, fun i j i1 i2 i3 => by omega⟩, fun e q1 q2 q3 q4 q5 q6 => ?_, fun u u1 u2 u3 => ?_⟩ (.inl rfl) (b110 0 (by decide) (by decide)) (by rw [b107]; exact hK)
  · have nE := (hS.2.2.1.2 e q1 q2).1
    rw [b108] at q4
    have t0 : D 100 e = 0 := q4.resolve_right (fun z => z (f2 _ nE.1 nE.2).2.1)
    rcases q6 with q6 | q6
    · exact absurd t0 q6
    · have := hS.2.1.2.2.1 e q1 q2
      rw [t0] at this
      omega
  · rw [b110 u u1 u2] at u3; omega
end M86
