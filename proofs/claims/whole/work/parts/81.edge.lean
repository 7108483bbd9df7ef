/-! nets: the reference lays one -/
def mcS (D : xD) (f : Int → Int → Int → Int → Int) : Int := smI (fun k => f (D 100 (2 * k)) (D 101 (2 * k)) (D 102 (2 * k)) (D 103 (2 * k))) 0 (D 95 21 / 2).toNat
def mcI (D : xD) (V : (Int → Int → Int → Int → Int) → Int) (B : Int) : Prop :=
  (0 ≤ D 95 21 ∧ D 95 21 ≤ B ∧ D 95 21 % 2 = 0) ∧ (∀ f, mcS D f = V f) ∧ ajOk (D 95 21) (D 100) (D 104) (D 105) ∧ (∀ e, 0 ≤ e → e < D 95 21 → (0 ≤ D 100 e ∧ D 100 e < 120) ∧ (0 ≤ D 101 e ∧ D 101 e < 120) ∧ D 100 e ≠ D 101 e ∧ D 100 (prI e) = D 101 e ∧ D 101 (prI e) = D 100 e ∧ D 103 (prI e) = - D 103 e ∧ (-13 ≤ D 103 e ∧ D 103 e ≤ 13) ∧ (0 ≤ D 102 e ∧ D 102 e ≤ 1000)) ∧ (∀ e, 0 ≤ e → e < D 95 21 → e % 2 = 1 → D 102 e = 0)
def mcF (D' D : xD) : Prop := (∀ a, a ≠ 95 → a ≠ 100 → a ≠ 101 → a ≠ 102 → a ≠ 103 → a ≠ 104 → a ≠ 105 → D' a = D a) ∧ ∀ j, j ≠ 21 → D' 95 j = D 95 j
section M81
variable {E x1 x2 x3 x4 n m s d p B : Int} {D D' D1 D2 : xD} {V : (Int → Int → Int → Int → Int) → Int} {Q : Option xv → xD → Prop}
theorem m186 (hI : mcI D V B) (hB : B + 2 ≤ 1400) (h1 : 0 ≤ x1 ∧ x1 < 120) (h2 : 0 ≤ x2 ∧ x2 < 120) (h12 : x1 ≠ x2) (h3 : 0 ≤ x3 ∧ x3 ≤ 1000) (h4 : -13 ≤ x4 ∧ x4 ≤ 13) (hq : ∀ D' : xD, mcF D' D → mcI D' (fun f => V f + f x1 x2 x3 x4) (B + 2) → Q none D') :
    WP 124 xF1 none 186 0 [some (.inr (.inr (some 95))), some (.inl x1), some (.inl x2), some (.inl x3), some (.inl x4)] [] D Q := by
  obtain ⟨⟨e1, e2, e3⟩, hS, hJ, hN, hO⟩ := hI
  obtain ⟨E, hE⟩ : ∃ E, E = D 95 21 := ⟨_, rfl⟩
  rw [← hE] at e1 e2 e3 hJ hN hO
  rw [seg186_0 (ha0 := ho95), ← hE]
  simp (disch := omega) only [cnB, cnX, Nat.reduceAdd]
  obtain ⟨v, hv⟩ : ∃ v, v = (xup (xup (xup (xup (xup (xup (xup (xup (xup (xup D 100 E x1) 101 E x2) 102 E x3) 103 E x4) 100 (E + 1) x2) 101 (E + 1) x1) 102 (E + 1) 0) 103 (E + 1) (-x4)) 105 E (D 104 x1)) 104 x1 E) 104 x2 := ⟨_, rfl⟩
  rw [← hv]
  have hv' : v = D 104 x2 := by
    rw [hv, up_at, if_neg (fun z => h12 z.symm)]
    simp (disch := decide) only [up_ne]
  clear hv
  subst hv'
  obtain ⟨D1, hD1⟩ : ∃ D1, D1 = xup (xup (xup (xup (xup (xup (xup (xup (xup (xup (xup (xup (xup D 100 E x1) 101 E x2) 102 E x3) 103 E x4) 100 (E + 1) x2) 101 (E + 1) x1) 102 (E + 1) 0) 103 (E + 1) (-x4)) 105 E (D 104 x1)) 104 x1 E) 105 (E + 1) (D 104 x2)) 104 x2 (E + 1)) 95 21 (E + 2) := ⟨_, rfl⟩
  rw [← hD1]
  have a95 : D1 95 21 = E + 2 := by rw [hD1, up_eq]
  have b95 : ∀ j, j ≠ 21 → D1 95 j = D 95 j := fun j hj => by
    rw [hD1, up_ne2 hj]
    simp (disch := decide) only [up_ne]
  have a100 : ∀ j, D1 100 j = if j = E + 1 then x2 else if j = E then x1 else D 100 j := fun j => by
    rw [hD1]
    simp (disch := decide) only [up_ne, up_at]
  have a101 : ∀ j, D1 101 j = if j = E + 1 then x1 else if j = E then x2 else D 101 j := fun j => by
    rw [hD1]
    simp (disch := decide) only [up_ne, up_at]
  have a102 : ∀ j, D1 102 j = if j = E + 1 then 0 else if j = E then x3 else D 102 j := fun j => by
    rw [hD1]
    simp (disch := decide) only [up_ne, up_at]
  have a103 : ∀ j, D1 103 j = if j = E + 1 then -x4 else if j = E then x4 else D 103 j := fun j => by
    rw [hD1]
    simp (disch := decide) only [up_ne, up_at]
  have a104 : ∀ j, D1 104 j = if j = x2 then E + 1 else if j = x1 then E else D 104 j := fun j => by
    rw [hD1]
    simp (disch := decide) only [up_ne, up_at]
  have a105 : ∀ j, D1 105 j = if j = E + 1 then D 104 x2 else if j = E then D 104 x1 else D 105 j := fun j => by
    rw [hD1]
    simp (disch := decide) only [up_ne, up_at]
  have aF : mcF D1 D := ⟨fun a b1 b2 b3 b4 b5 b6 b7 => by
    rw [hD1]
    simp (disch := assumption) only [up_ne], b95⟩
  clear hD1
  have pE : prI E = E + 1 := by unfold prI; rw [if_pos e3]
  have pE1 : prI (E + 1) = E := by unfold prI; rw [if_neg (by omega)]; omega
  refine hq D1 aF ⟨by rw [a95]; omega, fun f => ?_, ?_, fun e q1 q2 => ?_, fun e q1 q2 q3 => ?_⟩
  · show mcS D1 f = V f + f x1 x2 x3 x4
    rw [← hS f]
    unfold mcS
    rw [a95, ← hE, show ((E + 2) / 2).toNat = (E / 2).toNat + 1 by omega, smI_last]
    have ek : 2 * (0 + ((E / 2).toNat : Int)) = E := by omega
    rw [ek]
    congr 1
    · refine smI_congr _ _ (fun j j1 j2 => ?_)
      rw [a100, a101, a102, a103, if_neg (show ¬ (2 * j = E + 1) by omega), if_neg (show ¬ (2 * j = E) by omega), if_neg (show ¬ (2 * j = E + 1) by omega), if_neg (show ¬ (2 * j = E) by omega), if_neg (show ¬ (2 * j = E + 1) by omega), if_neg (show ¬ (2 * j = E) by omega), if_neg (show ¬ (2 * j = E + 1) by omega), if_neg (show ¬ (2 * j = E) by omega)]
    · rw [a100, a101, a102, a103, if_neg (show ¬ (E = E + 1) by omega), if_pos rfl, if_neg (show ¬ (E = E + 1) by omega), if_pos rfl, if_neg (show ¬ (E = E + 1) by omega), if_pos rfl, if_neg (show ¬ (E = E + 1) by omega), if_pos rfl]
  · rw [a95]
    refine aj_add (a := x1) (b := x2) ⟨e1, e3⟩ hJ h12 (fun e q1 q2 => ?_) ?_ ?_ (fun n => a104 n) (fun e q1 => ?_) ?_ ?_ h1 h2
    · rw [a100, if_neg (by omega), if_neg (by omega)]
    · rw [a100, if_neg (by omega), if_pos rfl]
    · rw [a100, if_pos rfl]
    · rw [a105, if_neg (by omega), if_neg (by omega)]
    · rw [a105, if_neg (by omega), if_pos rfl]
    · rw [a105, if_pos rfl]
  · rw [a95] at q2
    by_cases c1 : e = E + 1
    · rw [c1, pE1]
      simp only [a100, a101, a102, a103, if_pos (show E + 1 = E + 1 from rfl), if_pos (show E = E from rfl), if_neg (show ¬ (E = E + 1) by omega)]
      exact ⟨h2, h1, fun z => h12 z.symm, by simp, by simp, by simp, by simp; omega, by simp⟩
    · by_cases c2 : e = E
      · rw [c2, pE]
        simp only [a100, a101, a102, a103, if_pos (show E + 1 = E + 1 from rfl), if_pos (show E = E from rfl), if_neg (show ¬ (E = E + 1) by omega)]
        exact ⟨by simpa using h1, by simpa using h2, by simpa using h12, by simp, by simp, by simp, by simp; omega, by simp; omega⟩
      · have p := prI_rg (e := e) ⟨e1, e3⟩ ⟨q1, by omega⟩
        simp only [a100, a101, a102, a103]
        rw [if_neg c1, if_neg c2, if_neg c1, if_neg c2, if_neg (show ¬ prI e = E + 1 by omega), if_neg (show ¬ prI e = E by omega), if_neg (show ¬ prI e = E + 1 by omega), if_neg (show ¬ prI e = E by omega), if_neg (show ¬ prI e = E + 1 by omega), if_neg (show ¬ prI e = E by omega), if_neg c1, if_neg c2, if_neg c1, if_neg c2]
        exact hN e q1 (by omega)
  · rw [a95] at q2
    rw [a102]
    by_cases c1 : e = E + 1
    · rw [if_pos c1]
    · rw [if_neg c1, if_neg (by omega)]; exact hO e q1 (by omega) q3
theorem mcI_cg {V' : (Int → Int → Int → Int → Int) → Int} {B' : Int} (h : mcI D V B) (hV : ∀ f, V f = V' f) (hB : B ≤ B') : mcI D V' B' := by
  obtain ⟨⟨e1, e2, e3⟩, hS, hJ, hN, hO⟩ := h
  exact ⟨⟨e1, by omega, e3⟩, fun f => by rw [hS f, hV f], hJ, hN, hO⟩
theorem mcF_tr (h1 : mcF D2 D1) (h2 : mcF D1 D) : mcF D2 D := ⟨fun a b1 b2 b3 b4 b5 b6 b7 => by rw [h1.1 a b1 b2 b3 b4 b5 b6 b7, h2.1 a b1 b2 b3 b4 b5 b6 b7], fun j hj => by rw [h1.2 j hj, h2.2 j hj]⟩
end M81
