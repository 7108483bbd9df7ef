/-! piece: what it is -/
def pcLg (A : Int → Int) (s : Int) : Int := A (30 + 7 * s + 2)
/-- the lowest street from a place at a minute in which some are left -/
def pcX (A f : Int → Int) (p t : Int) : Int := fsI (fun q => frM A q = p ∧ 0 < f (13 * q + t)) 0 (A 0).toNat
def pcNx (A f : Int → Int) (s t : Int) : Int := if 12 < t + pcLg A s then -1 else pcX A f (toM A s) (t + pcLg A s)
def pcL (A f : Int → Int) : Nat → Int → Int → List (Int × Int)
  | 0, _, _ => []
  | k + 1, s, t => if s = -1 then [] else (s, t) :: pcL A f k (pcNx A f s t) (t + pcLg A s)
def pcP (f : Int → Int) : Int → List (Int × Int) → Int
  | p, [] => p
  | p, h :: L => pcP f (min p (f (13 * h.1 + h.2))) L
def pcT (p : Int) : List (Int × Int) → (Int → Int) → (Int → Int)
  | [], f => f
  | h :: L, f => pcT p L (fun c => if c = 13 * h.1 + h.2 then f (13 * h.1 + h.2) - p else f c)
def pcA (A f : Int → Int) (t : Int) : Int := fsI (fun s => 0 < f (13 * s + t)) 0 (A 0).toNat
def pcB (A f : Int → Int) : Int := fsI (fun t => pcA A f t ≠ -1) 0 13
def pcS (A f : Int → Int) (s t : Int) : Int → Int := pcT (pcP f 30 (pcL A f 13 s t)) (pcL A f 13 s t) f
/-- pieces taken one by one, up to the i-th: how many came before, and what it is -/
def pcR (A : Int → Int) (i : Int) : Nat → (Int → Int) → Int → Option (Int × Option (Int × Int × List (Int × Int)))
  | 0, _, _ => none
  | k + 1, f, j => if pcB A f = -1 then some (j, none) else if j = i then some (j, some (pcP f 30 (pcL A f 13 (pcA A f (pcB A f)) (pcB A f)), pcB A f, pcL A f 13 (pcA A f (pcB A f)) (pcB A f))) else pcR A i k (pcS A f (pcA A f (pcB A f)) (pcB A f)) (j + 1)
/-- a way of cells, of which each has p at least -/
def pcW (A g : Int → Int) (p : Int) : List (Int × Int) → Int → Prop
  | [], _ => True
  | h :: L, t => h.2 = t ∧ (0 ≤ t ∧ t ≤ 12) ∧ (0 ≤ h.1 ∧ h.1 < A 0) ∧ (1 ≤ pcLg A h.1 ∧ pcLg A h.1 ≤ 5) ∧ p ≤ g (13 * h.1 + t) ∧ g (13 * h.1 + t) ≤ 30 ∧ pcW A g p L (t + pcLg A h.1)
def liAt (W : Int → Int) : List (Int × Int) → Int → Prop
  | [], _ => True
  | h :: L, i => W i = h.1 ∧ liAt W L (i + 1)
def pcOk (A : Int → Int) : Prop := (0 ≤ A 0 ∧ A 0 ≤ 16) ∧ ∀ s, 0 ≤ s → s < A 0 → 1 ≤ pcLg A s ∧ pcLg A s ≤ 5
def pcBd (f : Int → Int) : Prop := ∀ c, 0 ≤ c → c < 208 → 0 ≤ f c ∧ f c ≤ 30
section M49
variable {A f g : Int → Int} {s t p z i j : Int}
theorem pcNx_spec (s t : Int) : pcNx A f s t = -1 ∨ ((0 ≤ pcNx A f s t ∧ pcNx A f s t < A 0) ∧ t + pcLg A s ≤ 12 ∧ 0 < f (13 * pcNx A f s t + (t + pcLg A s))) := by
  unfold pcNx
  by_cases c : 12 < t + pcLg A s
  · rw [if_pos c]; exact .inl rfl
  · rw [if_neg c]
    unfold pcX
    rcases fsI_spec (P := fun q => frM A q = toM A s ∧ 0 < f (13 * q + (t + pcLg A s))) (A 0).toNat 0 with ⟨q, -⟩ | ⟨q1, q2, q3, -⟩
    · exact .inl q
    · exact .inr ⟨⟨q1, by omega⟩, by omega, q3.2⟩
theorem pcP_le (f : Int → Int) : ∀ (L : List (Int × Int)) (p : Int), pcP f p L ≤ p := by
  intro L
  induction L with
  | nil => intro p; exact Int.le_refl _
  | cons h L ih =>
    intro p
    simp only [pcP]
    have := ih (min p (f (13 * h.1 + h.2)))
    omega
/-- the way of a piece is one -/
theorem pcL_W (hA : pcOk A) (hf : pcBd f) : ∀ (k : Nat) (s t p : Int), (s = -1 ∨ ((0 ≤ s ∧ s < A 0) ∧ (0 ≤ t ∧ t ≤ 12))) → pcW A f (pcP f p (pcL A f k s t)) (pcL A f k s t) t := by
  intro k
  induction k with
  | zero => intro s t p _; trivial
  | succ k ih =>
    intro s t p hs
    simp only [pcL]
    by_cases c : s = -1
    · rw [if_pos c]; trivial
    · rw [if_neg c]
      have hs' : (0 ≤ s ∧ s < A 0) ∧ (0 ≤ t ∧ t ≤ 12) := hs.resolve_left c
      obtain ⟨⟨w0, w1⟩, hl⟩ := hA
      have l := hl s hs'.1.1 hs'.1.2
      have b := hf (13 * s + t) (by omega) (by omega)
      simp only [pcP]
      refine ⟨rfl, hs'.2, hs'.1, l, ?_, b.2, ?_⟩
      · have := pcP_le f (pcL A f k (pcNx A f s t) (t + pcLg A s)) (min p (f (13 * s + t)))
        show pcP f (min p (f (13 * s + t))) (pcL A f k (pcNx A f s t) (t + pcLg A s)) ≤ f (13 * s + t)
        omega
      · refine ih _ _ _ ?_
        rcases pcNx_spec (A := A) (f := f) s t with q | ⟨q1, q2, -⟩
        · exact .inl q
        · exact .inr ⟨q1, by show 0 ≤ t + pcLg A s; omega, q2⟩
theorem pcL_pos : ∀ (k : Nat) (s t p : Int), (s = -1 ∨ 0 < f (13 * s + t)) → 1 ≤ p → 1 ≤ pcP f p (pcL A f k s t) := by
  intro k
  induction k with
  | zero => intro s t p _ hp; exact hp
  | succ k ih =>
    intro s t p hs hp
    simp only [pcL]
    by_cases c : s = -1
    · rw [if_pos c]; exact hp
    · rw [if_neg c]
      have hs' := hs.resolve_left c
      simp only [pcP]
      refine ih _ _ _ ?_ (by omega)
      rcases pcNx_spec (A := A) (f := f) s t with q | ⟨-, -, q2⟩
      · exact .inl q
      · exact .inr q2
theorem pcL_len (hA : pcOk A) : ∀ (k : Nat) (s t : Int), (s = -1 ∨ ((0 ≤ s ∧ s < A 0) ∧ (0 ≤ t ∧ t ≤ 12))) → s ≠ -1 → ((pcL A f k s t).length : Int) ≤ 13 - t := by
  intro k
  induction k with
  | zero => intro s t h c; simp [pcL]; have := h.resolve_left c; omega
  | succ k ih =>
    intro s t hs c
    have hs' := hs.resolve_left c
    have l := hA.2 s hs'.1.1 hs'.1.2
    simp only [pcL]
    rw [if_neg c, List.length_cons]
    rcases pcNx_spec (A := A) (f := f) s t with q | ⟨q1, q2, -⟩
    · have e : pcL A f k (pcNx A f s t) (t + pcLg A s) = [] := by
        cases k with
        | zero => rfl
        | succ k => simp only [pcL]; rw [if_pos q]
      rw [e]
      simp
      omega
    · have := ih (pcNx A f s t) (t + pcLg A s) (.inr ⟨q1, by omega, q2⟩) (by omega)
      omega
theorem pcW_cg {g' : Int → Int} : ∀ (L : List (Int × Int)) (t : Int), (∀ c, t ≤ c % 13 → g' c = g c) → pcW A g p L t → pcW A g' p L t := by
  intro L
  induction L with
  | nil => intro t _ _; trivial
  | cons h L ih =>
    intro t hg hw
    obtain ⟨u1, u2, u3, u4, u5, u6, u7⟩ := hw
    have e := hg (13 * h.1 + t) (by omega)
    exact ⟨u1, u2, u3, u4, by rw [e]; exact u5, by rw [e]; exact u6, ih _ (fun c hc => hg c (by omega)) u7⟩
theorem pcT_spec (hp : 0 ≤ p) : ∀ (L : List (Int × Int)) (t : Int) (g : Int → Int), pcW A g p L t → (∀ c, c % 13 < t → pcT p L g c = g c) ∧ (∀ c, pcT p L g c ≤ g c) ∧ (∀ c, 0 ≤ g c → 0 ≤ pcT p L g c) ∧ (∀ h, h ∈ L → pcT p L g (13 * h.1 + h.2) = g (13 * h.1 + h.2) - p) := by
  intro L
  induction L with
  | nil => intro t g _; exact ⟨fun _ _ => rfl, fun _ => Int.le_refl _, fun _ h => h, fun h hm => absurd hm (by simp)⟩
  | cons h L ih =>
    intro t g hw
    obtain ⟨u1, u2, u3, u4, u5, u6, u7⟩ := hw
    have hw' := pcW_cg (A := A) (p := p) (g' := fun c => if c = 13 * h.1 + h.2 then g (13 * h.1 + h.2) - p else g c) L _ (fun c hc => by
      show (if c = 13 * h.1 + h.2 then g (13 * h.1 + h.2) - p else g c) = g c
      rw [if_neg (by omega)]) u7
    obtain ⟨i1, i2, i3, i4⟩ := ih _ _ hw'
    simp only [pcT]
    refine ⟨fun c hc => ?_, fun c => ?_, fun c hc => ?_, fun q hq => ?_⟩
    · rw [i1 c (by omega), if_neg (by omega)]
    · have := i2 c
      by_cases e : c = 13 * h.1 + h.2
      · rw [if_pos e] at this; rw [e] at this ⊢; omega
      · rw [if_neg e] at this; exact this
    · refine i3 c ?_
      by_cases e : c = 13 * h.1 + h.2
      · rw [if_pos e, u1]; omega
      · rw [if_neg e]; exact hc
    · rcases List.mem_cons.mp hq with e | e
      · subst e
        rw [i1 _ (by omega), if_pos rfl]
      · have := i4 q e
        rw [this]
        have tm : ∀ (M : List (Int × Int)) (t : Int), pcW A g p M t → ∀ q, q ∈ M → t ≤ q.2 ∧ q.2 ≤ 12 := by
          intro M
          induction M with
          | nil => intro t _ q hq; exact absurd hq (by simp)
          | cons r M ihm =>
            intro t hw q hq
            obtain ⟨a1, a2, -, a4, -, -, a7⟩ := hw
            rcases List.mem_cons.mp hq with e | e
            · subst e; omega
            · have := ihm _ a7 q e; omega
        have := tm L _ u7 q e
        rw [if_neg (by omega)]
theorem pcP_at (f : Int → Int) : ∀ (L : List (Int × Int)) (p : Int), pcP f p L = p ∨ ∃ h, h ∈ L ∧ f (13 * h.1 + h.2) = pcP f p L := by
  intro L
  induction L with
  | nil => intro p; exact .inl rfl
  | cons h L ih =>
    intro p
    simp only [pcP]
    rcases ih (min p (f (13 * h.1 + h.2))) with q | ⟨r, r1, r2⟩
    · by_cases c : p ≤ f (13 * h.1 + h.2)
      · left; omega
      · right; exact ⟨h, List.mem_cons_self .., by omega⟩
    · right; exact ⟨r, List.mem_cons_of_mem _ r1, r2⟩
theorem pcW_mem : ∀ (L : List (Int × Int)) (t : Int), pcW A g p L t → ∀ h, h ∈ L → (0 ≤ h.1 ∧ h.1 < A 0) ∧ (0 ≤ h.2 ∧ h.2 ≤ 12) ∧ p ≤ g (13 * h.1 + h.2) := by
  intro L
  induction L with
  | nil => intro t _ h hm; exact absurd hm (by simp)
  | cons r L ih =>
    intro t hw h hm
    obtain ⟨u1, u2, u3, u4, u5, u6, u7⟩ := hw
    rcases List.mem_cons.mp hm with e | e
    · subst e
      rw [u1]
      exact ⟨u3, u2, u5⟩
    · exact ih _ u7 h e
/-- what taking a piece does -/
theorem pcS_spec (hA : pcOk A) (hf : pcBd f) (hs : 0 ≤ s ∧ s < A 0) (ht : 0 ≤ t ∧ t ≤ 12) (hp : 0 < f (13 * s + t)) : pcBd (pcS A f s t) ∧ (∀ c, pcS A f s t c ≤ f c) ∧ pcS A f s t (13 * s + t) ≤ f (13 * s + t) - 1 ∧ ∃ c, (0 ≤ c ∧ c < 208) ∧ 0 < f c ∧ pcS A f s t c = 0 := by
  have hW := pcL_W hA hf 13 s t 30 (.inr ⟨hs, ht⟩)
  have h1 := pcL_pos (A := A) (f := f) 13 s t 30 (.inr hp) (by omega)
  have hm : (s, t) ∈ pcL A f 13 s t := by
    have : pcL A f 13 s t = if s = -1 then [] else (s, t) :: pcL A f 12 (pcNx A f s t) (t + pcLg A s) := rfl
    rw [this, if_neg (by omega)]
    exact List.mem_cons_self ..
  obtain ⟨q1, q2, q3, q4⟩ := pcT_spec (by omega) _ _ _ hW
  have w0 := hA.1
  refine ⟨fun c c1 c2 => ⟨q3 c (hf c c1 c2).1, Int.le_trans (q2 c) (hf c c1 c2).2⟩, q2, ?_, ?_⟩
  · have := q4 (s, t) hm
    show pcT _ _ f (13 * s + t) ≤ _
    rw [this]
    show f (13 * s + t) - _ ≤ _
    omega
  · have hle := pcP_le f (pcL A f 13 s t) 30
    have b := hf (13 * s + t) (by omega) (by omega)
    have e2 : ∃ h, h ∈ pcL A f 13 s t ∧ f (13 * h.1 + h.2) = pcP f 30 (pcL A f 13 s t) := by
      rcases pcP_at f (pcL A f 13 s t) 30 with q | q
      · have := (pcW_mem _ _ hW (s, t) hm).2.2
        refine ⟨(s, t), hm, ?_⟩
        show f (13 * s + t) = _
        have e3 : pcP f 30 (pcL A f 13 s t) ≤ f (13 * s + t) := this
        omega
      · exact q
    obtain ⟨h, m1, m2⟩ := e2
    obtain ⟨r1, r2, r3⟩ := pcW_mem _ _ hW h m1
    refine ⟨13 * h.1 + h.2, by omega, by omega, ?_⟩
    have := q4 h m1
    show pcT _ _ f (13 * h.1 + h.2) = 0
    rw [this]
    omega
theorem pcB_at (hs : 0 ≤ s ∧ s < A 0) (ht : 0 ≤ t ∧ t ≤ 12) (hp : 0 < f (13 * s + t)) (hb : ∀ s' t', 0 ≤ s' → s' < A 0 → 0 ≤ t' → t' ≤ 12 → (t' < t ∨ (t' = t ∧ s' < s)) → f (13 * s' + t') ≤ 0) : pcB A f = t ∧ pcA A f t = s := by
  have ha : pcA A f t = s := by
    unfold pcA
    rcases fsI_spec (P := fun s => 0 < f (13 * s + t)) (A 0).toNat 0 with ⟨-, q⟩ | ⟨q1, q2, q3, q4⟩
    · exact absurd hp (q s hs.1 (by omega))
    · rcases Int.lt_trichotomy (fsI (fun s => 0 < f (13 * s + t)) 0 (A 0).toNat) s with c | c | c
      · have := hb _ t q1 (by omega) ht.1 ht.2 (.inr ⟨rfl, c⟩)
        omega
      · exact c
      · exact absurd hp (q4 s hs.1 c)
  refine ⟨?_, ha⟩
  unfold pcB
  rcases fsI_spec (P := fun t => pcA A f t ≠ -1) 13 0 with ⟨-, q⟩ | ⟨q1, q2, q3, q4⟩
  · have := q t ht.1 (by omega)
    rw [ha] at this
    omega
  · rcases Int.lt_trichotomy (fsI (fun t => pcA A f t ≠ -1) 0 13) t with c | c | c
    · skip
      exfalso
      apply q3
      generalize fsI (fun t => pcA A f t ≠ -1) 0 13 = u at q1 c
      unfold pcA
      rcases fsI_spec (P := fun s => 0 < f (13 * s + u)) (A 0).toNat 0 with ⟨r, -⟩ | ⟨r1, r2, r3, -⟩
      · exact r
      · have := hb _ u r1 (by omega) q1 (by omega) (.inl c)
        omega
    · exact c
    · have := q4 t ht.1 c
      rw [ha] at this
      omega
theorem pcB_no (hb : ∀ s' t', 0 ≤ s' → s' < A 0 → 0 ≤ t' → t' ≤ 12 → f (13 * s' + t') ≤ 0) : pcB A f = -1 := by
  unfold pcB
  rcases fsI_spec (P := fun t => pcA A f t ≠ -1) 13 0 with ⟨q, -⟩ | ⟨q1, q2, q3, -⟩
  · exact q
  · exfalso
    apply q3
    generalize fsI (fun t => pcA A f t ≠ -1) 0 13 = u at q1 q2
    unfold pcA
    rcases fsI_spec (P := fun s => 0 < f (13 * s + u)) (A 0).toNat 0 with ⟨r, -⟩ | ⟨r1, r2, r3, -⟩
    · exact r
    · have := hb _ u r1 (by omega) q1 (by omega)
      omega
theorem pcB_yes (h : pcB A f ≠ -1) : (0 ≤ pcB A f ∧ pcB A f ≤ 12) ∧ (0 ≤ pcA A f (pcB A f) ∧ pcA A f (pcB A f) < A 0) ∧ 0 < f (13 * pcA A f (pcB A f) + pcB A f) := by
  unfold pcB at h ⊢
  rcases fsI_spec (P := fun t => pcA A f t ≠ -1) 13 0 with ⟨q, -⟩ | ⟨q1, q2, q3, -⟩
  · exact absurd q h
  · skip
    generalize fsI (fun t => pcA A f t ≠ -1) 0 13 = u at q1 q2 q3 ⊢
    refine ⟨by omega, ?_⟩
    unfold pcA at q3 ⊢
    rcases fsI_spec (P := fun s => 0 < f (13 * s + u)) (A 0).toNat 0 with ⟨r, -⟩ | ⟨r1, r2, r3, -⟩
    · exact absurd r q3
    · exact ⟨⟨r1, by omega⟩, r3⟩
theorem smI_mono {f g : Int → Int} : ∀ (k : Nat) (i : Int), (∀ j, i ≤ j → j < i + k → f j ≤ g j) → smI f i k ≤ smI g i k ∧ ((∃ j, (i ≤ j ∧ j < i + k) ∧ f j + 1 ≤ g j) → smI f i k + 1 ≤ smI g i k) := by
  intro k
  induction k with
  | zero =>
    intro i h
    refine ⟨Int.le_refl _, ?_⟩
    rintro ⟨j, q, -⟩
    omega
  | succ k ih =>
    intro i h
    obtain ⟨i1, i2⟩ := ih (i + 1) (fun j a b => h j (by omega) (by omega))
    have h0 := h i (by omega) (by omega)
    simp only [smI]
    refine ⟨by omega, ?_⟩
    rintro ⟨j, q, q2⟩
    by_cases e : j = i
    · subst e; omega
    · have := i2 ⟨j, by omega, q2⟩
      omega
def pcC (f : Int → Int) : Int := smI (fun c => if 0 < f c then 1 else 0) 0 208
/-- there are no more pieces than cells -/
theorem pcR_208 (hA : pcOk A) : ∀ (k : Nat) (f : Int → Int) (j : Int) (r : Int × Option (Int × Int × List (Int × Int))), pcBd f → j + pcC f ≤ 208 → pcR A 208 k f j = some r → r.2 = none ∧ (0 ≤ j → pcR A (-1) k f j = some r) := by
  intro k
  induction k with
  | zero => intro f j r _ _ h; exact absurd h (by simp [pcR])
  | succ k ih =>
    intro f j r hf hc h
    simp only [pcR] at h ⊢
    by_cases c : pcB A f = -1
    · rw [if_pos c] at h
      have := Option.some.inj h
      subst this
      exact ⟨rfl, fun _ => by rw [if_pos c]⟩
    · rw [if_neg c] at h
      obtain ⟨y1, y2, y3⟩ := pcB_yes c
      obtain ⟨s1, s2, s3, c0, c1, c2, c3⟩ := pcS_spec hA hf y2 y1 y3
      have hd : pcC (pcS A f (pcA A f (pcB A f)) (pcB A f)) + 1 ≤ pcC f := by
        refine (smI_mono 208 0 (fun j _ _ => ?_)).2 ⟨c0, by omega, ?_⟩
        · have := s2 j
          split <;> split <;> omega
        · rw [c3, if_neg (by decide), if_pos c2]; decide
      have h0 : 0 ≤ pcC (pcS A f (pcA A f (pcB A f)) (pcB A f)) := (smI_bd (B := 1) 208 0 (fun j _ _ => by split <;> omega)).1
      rw [if_neg (by omega)] at h
      obtain ⟨i1, i2⟩ := ih _ _ r s1 (by omega) h
      refine ⟨i1, fun hj => ?_⟩
      rw [if_neg c, if_neg (by omega)]
      exact i2 (by omega)
end M49

