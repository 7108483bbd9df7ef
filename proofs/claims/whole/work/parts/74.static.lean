/-! nets: what the class's arcs are -/
abbrev arP (a b c l : Int) : Prop := (0 ≤ a ∧ a < 120) ∧ (0 ≤ b ∧ b < 120) ∧ a ≠ b ∧ 0 ≤ c ∧ (-1 ≤ l ∧ l ≤ 28) ∧ (16 ≤ l → a < 104 ∧ 110 ≤ b ∧ b < 118) ∧ (l < 16 → b < 110 ∨ 118 ≤ b) ∧ (a ≠ 119 ∧ b ≠ 118) ∧ (110 ≤ a ∧ a < 118 → b = 119) ∧ (b = 119 → 110 ≤ a ∧ a < 118)
/-- E arcs, tails, heads, rooms of pairs, labels -/
def nsI (D : xD) (c : Int → Int) (V : (Int → Int → Int → Int → Int) → Int) : Prop :=
  (0 ≤ D 57 0 ∧ D 57 0 ≤ 1016 ∧ D 57 0 % 2 = 0) ∧ ajOk (D 57 0) (fun e => D 60 (prI e)) (D 58) (D 59) ∧
  (∀ f, smI (fun k => f (D 60 (2 * k + 1)) (D 60 (2 * k)) (c (2 * k)) (D 62 (2 * k))) 0 (D 57 0 / 2).toNat = V f) ∧
  (∀ k, 0 ≤ k → 2 * k < D 57 0 → arP (D 60 (2 * k + 1)) (D 60 (2 * k)) (c (2 * k)) (D 62 (2 * k)))
def gnE (w lb : Int → Int) (e : Int) : Int := if e % 2 = 0 then gnL w (lb e) else - gnL w (lb (prI e))
def cPr (r : Int → Int) (e : Int) : Int := r e + r (prI e)
section M74
variable {E x1 x2 n m s d p wh a b l : Int} {D D' : xD} {T c w r : Int → Int} {V : (Int → Int → Int → Int → Int) → Int}
theorem cs_all {f : Int → Int → Int → Int → Int} (hT : tnW T) (hw : 0 ≤ wh ∧ wh ≤ 2) (hf : ∀ a b c l, arP a b c l → f a b c l = 0) : csS T wh f = 0 := by
  have w0 := hT.1
  have h1 : csD T wh f (T 1).toNat = 0 := by
    unfold csD
    refine smI_0 _ _ (fun d d1 d2 => ?_)
    have v := (hT.2.2.1 d d1 (by omega)).2.2.1
    rw [hf _ _ _ _ ⟨by omega, by omega, by omega, by omega, by omega, by omega, by omega, by omega, by omega, by omega⟩, ite_self]
  have h2 : csP T f 8 = 0 := by
    unfold csP
    refine smI_0 _ _ (fun p p1 p2 => ?_)
    have v := (hT.2.2.2.2 p p1 (by omega)).2
    exact hf _ _ _ _ ⟨by omega, by omega, by omega, by omega, by omega, by omega, by omega, by omega, by omega, by omega⟩
  have h3 : smI (csM T wh f) 0 13 = 0 := by
    refine smI_0 _ _ (fun m m1 m2 => ?_)
    unfold csM csA csB csE
    have a1 : smI (fun d => if T (150 + 4 * d + 1) ≤ m then f (104 + d) (13 * T (150 + 4 * d) + m) 99 (-1) else 0) 0 (T 1).toNat = 0 := smI_0 _ _ (fun d d1 d2 => by
      have v := (hT.2.2.1 d d1 (by omega)).1
      rw [hf _ _ _ _ ⟨by omega, by omega, by omega, by omega, by omega, by omega, by omega, by omega, by omega, by omega⟩, ite_self])
    have a2 : smI (fun p => (if m < 12 then f (13 * p + m) (13 * p + (m + 1)) (T (10 + p)) (-1) else 0) + (if 0 < T (18 + p) then f (13 * p + m) (110 + p) 99 (16 + m) else 0)) 0 8 = 0 := smI_0 _ _ (fun p p1 p2 => by
      have v := (hT.2.2.2.2 p p1 (by omega)).1
      rw [hf (13 * p + m) (110 + p) 99 (16 + m) ⟨by omega, by omega, by omega, by omega, by omega, by omega, by omega, by omega, by omega, by omega⟩, ite_self]
      by_cases c : m < 12
      · rw [if_pos c, hf _ _ _ _ ⟨by omega, by omega, by omega, by omega, by omega, by omega, by omega, by omega, by omega, by omega⟩]; rfl
      · rw [if_neg c]; rfl)
    have a3 : smI (fun s => if (T (30 + 7 * s + 4) ≤ m ∧ m ≤ T (30 + 7 * s + 5)) ∧ m + tkS T wh s ≤ 12 then f (13 * frM T s + m) (13 * toM T s + (m + tkS T wh s)) (wiS T wh s) s else 0) 0 (T 0).toNat = 0 := smI_0 _ _ (fun s s1 s2 => by
      obtain ⟨v1, v2, v3, v4, v5, -⟩ := hT.2.1 s s1 (by omega)
      have tk : 1 ≤ tkS T wh s ∧ tkS T wh s ≤ 6 := by unfold tkS; split <;> omega
      have wi : 0 ≤ wiS T wh s := by unfold wiS; split <;> omega
      by_cases c : (T (30 + 7 * s + 4) ≤ m ∧ m ≤ T (30 + 7 * s + 5)) ∧ m + tkS T wh s ≤ 12
      · rw [if_pos c]
        exact hf _ _ _ _ ⟨by omega, by omega, by omega, wi, by omega, by omega, by omega, by omega, by omega, by omega⟩
      · rw [if_neg c])
    rw [a1, a2, a3]; rfl
  unfold csS
  rw [h1, h2, h3]; rfl
theorem sm_all {f : Int → Int} : ∀ (k : Nat) (i : Int), (∀ j, 0 ≤ f j) → smI f i k = 0 → ∀ j, i ≤ j → j < i + k → f j = 0 := by
  intro k
  induction k with
  | zero => intro i _ _ j j1 j2; omega
  | succ k ih =>
    intro i hf h j j1 j2
    simp only [smI] at h
    have h0 := hf i
    have h2 := (smI_mono (f := fun _ => 0) (g := f) k (i + 1) (fun j _ _ => hf j)).1
    rw [smI_0 k (i + 1) (fun _ _ _ => rfl)] at h2
    by_cases e : j = i
    · rw [e]; omega
    · exact ih (i + 1) hf (by omega) j (by omega) (by omega)
theorem ns_of (hT : tnW T) (hw : 0 ≤ wh ∧ wh ≤ 2) (hI : ncI D (csS T wh) 1016) : nsI D (cPr (D 61)) (csS T wh) ∧ ∀ e, 0 ≤ e → e < D 57 0 → 0 ≤ D 61 e ∧ (e % 2 = 1 → D 61 e = 0) := by
  obtain ⟨⟨e1, e2, e3⟩, hS, hJ, hN, hO⟩ := hI
  have hc : ∀ k, 0 ≤ k → 2 * k < D 57 0 → cPr (D 61) (2 * k) = D 61 (2 * k) := fun k k1 k2 => by
    have ep : prI (2 * k) = 2 * k + 1 := by unfold prI; rw [if_pos (by omega)]
    unfold cPr
    rw [ep, hO (2 * k + 1) (by omega) (by omega) (by omega), Int.add_zero]
  have hf : ∀ f, smI (fun k => f (D 60 (2 * k + 1)) (D 60 (2 * k)) (cPr (D 61) (2 * k)) (D 62 (2 * k))) 0 (D 57 0 / 2).toNat = csS T wh f := fun f => by
    rw [← hS f]
    unfold ncS
    exact smI_congr _ _ (fun j j1 j2 => by rw [hc j j1 (by omega)])
  have hP : ∀ k, 0 ≤ k → 2 * k < D 57 0 → arP (D 60 (2 * k + 1)) (D 60 (2 * k)) (cPr (D 61) (2 * k)) (D 62 (2 * k)) := by
    intro k k1 k2
    have h0 := hf (fun a b c l => if arP a b c l then 0 else 1)
    rw [cs_all hT hw (fun a b c l h => by show (if arP a b c l then (0 : Int) else 1) = 0; rw [if_pos h])] at h0
    have h1 := sm_all (f := fun k => if arP (D 60 (2 * k + 1)) (D 60 (2 * k)) (cPr (D 61) (2 * k)) (D 62 (2 * k)) then 0 else 1) (D 57 0 / 2).toNat 0 (fun j => by show 0 ≤ (if _ then (0 : Int) else 1); split <;> decide) h0 k k1 (by omega)
    have h1 : (if arP (D 60 (2 * k + 1)) (D 60 (2 * k)) (cPr (D 61) (2 * k)) (D 62 (2 * k)) then (0 : Int) else 1) = 0 := h1
    by_cases q : arP (D 60 (2 * k + 1)) (D 60 (2 * k)) (cPr (D 61) (2 * k)) (D 62 (2 * k))
    · exact q
    · rw [if_neg q] at h1; exact absurd h1 (by decide)
  refine ⟨⟨⟨e1, e2, e3⟩, hJ, hf, hP⟩, fun e q1 q2 => ⟨?_, hO e q1 q2⟩⟩
  by_cases c : e % 2 = 1
  · rw [hO e q1 q2 c]; exact Int.le_refl _
  · have := hP (e / 2) (by omega) (by omega)
    have hc' := hc (e / 2) (by omega) (by omega)
    rw [show 2 * (e / 2) = e by omega] at this hc'
    rw [← hc']
    exact this.2.2.2.1
theorem pr_ev {k : Int} : prI (2 * k) = 2 * k + 1 := by unfold prI; rw [if_pos (by omega)]
theorem pr_od {k : Int} : prI (2 * k + 1) = 2 * k := by unfold prI; rw [if_neg (by omega)]; omega
theorem gn_ev {lb : Int → Int} {k : Int} : gnE w lb (2 * k) = gnL w (lb (2 * k)) := by unfold gnE; rw [if_pos (by omega)]
theorem gn_od {lb : Int → Int} {k : Int} : gnE w lb (2 * k + 1) = - gnL w (lb (2 * k)) := by unfold gnE; rw [if_neg (by omega), pr_od]
theorem gnE_pr {lb : Int → Int} (e : Int) : gnE w lb (prI e) = - gnE w lb e := by
  by_cases c : e % 2 = 0
  · obtain ⟨k, rfl⟩ : ∃ k, e = 2 * k := ⟨e / 2, by omega⟩
    rw [pr_ev, gn_od, gn_ev]
  · obtain ⟨k, rfl⟩ : ∃ k, e = 2 * k + 1 := ⟨e / 2, by omega⟩
    rw [pr_od, gn_od, gn_ev]; omega
theorem nt_of (hN : nsI D c V) (hw : ∀ m, 0 ≤ m → m ≤ 12 → 0 ≤ w m ∧ w m ≤ 13) : ntOk (D 57 0) (fun e => D 60 (prI e)) (D 60) (gnE w (D 62)) := by
  obtain ⟨⟨e1, e2, e3⟩, -, -, hP⟩ := hN
  have gb : ∀ k, 0 ≤ k → 2 * k < D 57 0 → 0 ≤ gnL w (D 62 (2 * k)) ∧ gnL w (D 62 (2 * k)) ≤ 13 := fun k k1 k2 => by
    have := (hP k k1 k2).2.2.2.2.1
    unfold gnL
    by_cases c : 16 ≤ D 62 (2 * k)
    · rw [if_pos c]; exact hw _ (by omega) (by omega)
    · rw [if_neg c]; omega
  refine ⟨⟨e1, e3⟩, fun e q1 q2 => ?_⟩
  show (0 ≤ D 60 (prI e) ∧ D 60 (prI e) < 120) ∧ (0 ≤ D 60 e ∧ D 60 e < 120) ∧ D 60 (prI e) ≠ D 60 e ∧ D 60 (prI (prI e)) = D 60 e ∧ D 60 (prI e) = D 60 (prI e) ∧ gnE w (D 62) (prI e) = - gnE w (D 62) e ∧ (-13 ≤ gnE w (D 62) e ∧ gnE w (D 62) e ≤ 13)
  rw [prI_pr, gnE_pr]
  by_cases cc : e % 2 = 0
  · obtain ⟨k, rfl⟩ : ∃ k, e = 2 * k := ⟨e / 2, by omega⟩
    obtain ⟨p1, p2, p3, -⟩ := hP k (by omega) q2
    have g := gb k (by omega) q2
    rw [pr_ev, gn_ev]
    exact ⟨p1, p2, p3, rfl, rfl, rfl, by omega⟩
  · obtain ⟨k, rfl⟩ : ∃ k, e = 2 * k + 1 := ⟨e / 2, by omega⟩
    obtain ⟨p1, p2, p3, -⟩ := hP k (by omega) (by omega)
    have g := gb k (by omega) (by omega)
    rw [pr_od, gn_od]
    exact ⟨p2, p1, fun z => p3 z.symm, rfl, rfl, rfl, by omega⟩
theorem du_cs (hN : nsI D c (csS T wh)) {h wd : Int} {y : Int → Int} (hwd : wd < 0) : duS (D 57 0) (fun e => D 60 (prI e)) (D 60) (gnE w (D 62)) c (alH h) y = csS T wh (cfY w wd h y) := by
  rw [← hN.2.2.1]
  unfold duS
  refine smI_congr _ _ (fun k k1 k2 => ?_)
  show (if (alH h (D 60 (prI (2 * k))) && alH h (D 60 (2 * k))) = true then c (2 * k) * max 0 (gnE w (D 62) (2 * k) + y (D 60 (prI (2 * k))) - y (D 60 (2 * k))) else 0) = _
  rw [pr_ev, gn_ev]
  unfold cfY
  by_cases q : (alH h (D 60 (2 * k + 1)) && alH h (D 60 (2 * k))) = true
  · rw [if_pos q, if_pos q, if_neg (show ¬ (D 62 (2 * k) = wd ∧ 0 ≤ D 62 (2 * k)) by omega), Int.add_zero]
  · rw [if_neg q, if_neg q]
/-- a wider street: one more for each of its arcs -/
theorem du_wi (hN : nsI D c (csS T wh)) {h wd : Int} {y c' : Int → Int} (hc : ∀ k, 0 ≤ k → 2 * k < D 57 0 → c' (2 * k) = c (2 * k) + (if D 62 (2 * k) = wd then 1 else 0)) (hwd : 0 ≤ wd) : duS (D 57 0) (fun e => D 60 (prI e)) (D 60) (gnE w (D 62)) c' (alH h) y = csS T wh (cfY w wd h y) := by
  rw [← hN.2.2.1]
  unfold duS
  refine smI_congr _ _ (fun k k1 k2 => ?_)
  have e0 := hN.1
  show (if (alH h (D 60 (prI (2 * k))) && alH h (D 60 (2 * k))) = true then c' (2 * k) * max 0 (gnE w (D 62) (2 * k) + y (D 60 (prI (2 * k))) - y (D 60 (2 * k))) else 0) = _
  rw [pr_ev, gn_ev, hc k k1 (by omega)]
  unfold cfY
  by_cases q : (alH h (D 60 (2 * k + 1)) && alH h (D 60 (2 * k))) = true
  · rw [if_pos q, if_pos q]
    by_cases q2 : D 62 (2 * k) = wd
    · rw [if_pos q2, if_pos ⟨q2, by omega⟩]
    · rw [if_neg q2, if_neg (fun z => q2 z.1)]
  · rw [if_neg q, if_neg q]
/-- nobody is on the way at first -/
theorem fl_zero (hN : nsI D (cPr r) V) (hr : ∀ e, 0 ≤ e → e < D 57 0 → 0 ≤ r e ∧ (e % 2 = 1 → r e = 0)) (al : Int → Bool) : flI (D 57 0) (fun e => D 60 (prI e)) (D 60) (cPr r) al 118 119 r 0 ∧ ∀ w, flL (D 57 0) r w = 0 := by
  have z : ∀ w, flL (D 57 0) r w = 0 := fun w => by
    unfold flL
    refine smI_0 _ _ (fun k k1 k2 => ?_)
    have e0 := hN.1
    rw [(hr (2 * k + 1) (by omega) (by omega)).2 (by omega), Int.zero_mul]
  exact ⟨⟨fun e q1 q2 => ⟨(hr e q1 q2).1, rfl⟩, fun e q1 q2 q3 _ => (hr e q1 q2).2 q3, fun y => by rw [z, Int.zero_mul]⟩, z⟩
end M74
