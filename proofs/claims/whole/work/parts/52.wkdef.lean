/-! the town as both see it; people who go by signs: what it is -/
/-- the class's town now, told as the reference tells it -/
def tnC (D : xD) (T : Int → Int) : Prop :=
  (D 4 11 = T 0 ∧ D 4 12 = T 1) ∧
  (∀ s, 0 ≤ s → s < T 0 → (frC D s = frM T s ∧ toC D s = toM T s) ∧ D 7 s = T (30 + 7 * s + 2) ∧ D 8 s = T (30 + 7 * s + 3) ∧ D 9 s = T (30 + 7 * s + 4) ∧ D 10 s = T (30 + 7 * s + 5)) ∧
  (∀ p, 0 ≤ p → p < 8 → D 11 p = T (10 + p) ∧ D 12 p = T (18 + p)) ∧
  (∀ d, 0 ≤ d → d < T 1 → D 13 d = T (150 + 4 * d) ∧ D 14 d = T (150 + 4 * d + 1) ∧ D 15 d = T (150 + 4 * d + 2) ∧ iand (ishr (D 4 14) d) 1 = T (150 + 4 * d + 3))
def tnM (A T : Int → Int) : Prop := ∀ j, 0 ≤ j ∧ j < 176 ∧ j ≠ 6 → A j = T j
def tnW (T : Int → Int) : Prop :=
  (0 ≤ T 0 ∧ T 0 ≤ 16 ∧ 0 ≤ T 1 ∧ T 1 ≤ 6) ∧
  (∀ s, 0 ≤ s → s < T 0 → (0 ≤ frM T s ∧ frM T s ≤ 7) ∧ (0 ≤ toM T s ∧ toM T s ≤ 7) ∧ (1 ≤ T (30 + 7 * s + 2) ∧ T (30 + 7 * s + 2) ≤ 5) ∧ (1 ≤ T (30 + 7 * s + 3) ∧ T (30 + 7 * s + 3) ≤ 9) ∧ (0 ≤ T (30 + 7 * s + 4) ∧ T (30 + 7 * s + 4) ≤ T (30 + 7 * s + 5) ∧ T (30 + 7 * s + 5) ≤ 12) ∧ (T (30 + 7 * s + 6) = 0 ∨ T (30 + 7 * s + 6) = 1)) ∧
  (∀ d, 0 ≤ d → d < T 1 → (0 ≤ T (150 + 4 * d) ∧ T (150 + 4 * d) ≤ 7) ∧ (0 ≤ T (150 + 4 * d + 1) ∧ T (150 + 4 * d + 1) ≤ 12) ∧ (1 ≤ T (150 + 4 * d + 2) ∧ T (150 + 4 * d + 2) ≤ 30) ∧ (T (150 + 4 * d + 3) = 0 ∨ T (150 + 4 * d + 3) = 1)) ∧
  (T 2 = smI (fun d => T (150 + 4 * d + 2)) 0 (T 1).toNat ∧ T 2 ≤ 99) ∧
  (∀ p, 0 ≤ p → p < 8 → (0 ≤ T (10 + p) ∧ T (10 + p) ≤ 99) ∧ (0 ≤ T (18 + p) ∧ T (18 + p) ≤ 99))
/-- who are at places, what safe places take still, who come when -/
abbrev wkX : Type := (Int → Int) × (Int → Int) × (Int → Int → Int)
def wkD (T : Int → Int) (t p : Int) : Int := smI (fun d => if T (150 + 4 * d) = p ∧ T (150 + 4 * d + 1) = t then T (150 + 4 * d + 2) else 0) 0 (T 1).toNat
def wk1 (T : Int → Int) (X : wkX) (t p : Int) : Int := X.1 p + wkD T t p + X.2.2 p t
def wkN (T : Int → Int) (X : wkX) (t p : Int) : Int := min (wk1 T X t p) (X.2.1 p)
abbrev wkOk (T : Int → Int) (fs fm s t : Int) : Prop := s ≠ -1 ∧ (T (30 + 7 * s + 4) ≤ t ∧ t ≤ T (30 + 7 * s + 5)) ∧ ¬ (s = fs ∧ fm ≤ t)
def wkE (T : Int → Int) (fs fm : Int) (P : Int → Int → Int) (X : wkX) (t p : Int) : Int := if wkOk T fs fm (P p t) t then min (wk1 T X t p - wkN T X t p) (T (30 + 7 * P p t + 3)) else 0
def wkC (T : Int → Int) (fs fm : Int) (P : Int → Int → Int) (X : wkX) (t q u p : Int) : Int := if toM T (P p t) = q ∧ t + T (30 + 7 * P p t + 2) = u then wkE T fs fm P X t p else 0
def wkS (T : Int → Int) (fs fm : Int) (P : Int → Int → Int) (X : wkX) (t : Int) : wkX :=
  (fun p => wk1 T X t p - wkN T X t p - wkE T fs fm P X t p, fun p => X.2.1 p - wkN T X t p, fun q u => X.2.2 q u + smI (wkC T fs fm P X t q u) 0 8)
def wkG (T : Int → Int) (fs fm : Int) (P : Int → Int → Int) : Nat → wkX
  | 0 => (fun _ => 0, fun p => T (18 + p), fun _ _ => 0)
  | k + 1 => wkS T fs fm P (wkG T fs fm P k) k
/-- how many are out ahead of minute k -/
def wkO (T : Int → Int) (fs fm : Int) (P : Int → Int → Int) : Nat → Int
  | 0 => 0
  | k + 1 => wkO T fs fm P k + smI (wkN T (wkG T fs fm P k) k) 0 8
def wkZ (T : Int → Int) (fs fm : Int) (P : Int → Int → Int) : Nat → Int
  | 0 => 0
  | k + 1 => wkZ T fs fm P k + wkO T fs fm P (k + 1)
/-- who are on streets ahead of minute k -/
def wkR (T : Int → Int) (fs fm : Int) (P : Int → Int → Int) : Nat → Int
  | 0 => 0
  | k + 1 => wkR T fs fm P k - smI (fun p => (wkG T fs fm P k).2.2 p k) 0 8 + smI (wkE T fs fm P (wkG T fs fm P k) k) 0 8
def wkP (T : Int → Int) (P : Int → Int → Int) : Prop := ∀ p t, 0 ≤ p → p < 8 → 0 ≤ t → t ≤ 12 → P p t = -1 ∨ (0 ≤ P p t ∧ P p t < T 0)
def wkB (k : Int) (X : wkX) : Prop := (∀ p, 0 ≤ p → p < 8 → (0 ≤ X.1 p ∧ X.1 p ≤ 2000 * k) ∧ (0 ≤ X.2.1 p ∧ X.2.1 p ≤ 99)) ∧ ∀ q u, 0 ≤ X.2.2 q u ∧ X.2.2 q u ≤ 72 * k
section M52
variable {K : (Int → Int) → (Int → Int) → (Int → Int) → (Int → Int) → (Int → Int) → (Int → Int) → (Int → Int) → (Int → Int) → Prop}
variable {D : xD} {T A : Int → Int} {fs fm s t p q u i j : Int} {P : Int → Int → Int} {X : wkX}
theorem tr_at (h : j < 176 ∧ j ≠ 6) : trA A j = A j := by unfold trA; rw [if_pos h]
theorem tn_of (hs : IS D 3 (D 96)) (hw : WfA (D 96)) : tnC D (trA (D 96)) ∧ tnM (D 96) (trA (D 96)) ∧ tnW (trA (D 96)) := by
  obtain ⟨⟨e1, e2, e3, e4, e5⟩, hb, hsl, hst, hp, hd, hcc, hk⟩ := id hs
  obtain ⟨⟨w0, w1, w2, w3, w4, w5⟩, ws, wd, wsum, wp, wc, wk, wx⟩ := id hw
  simp only [Nat.reduceAdd] at e1 e2 e3 e4 e5 hb hsl hst hp hd hcc hk
  have t0 : trA (D 96) 0 = D 96 0 := tr_at (by decide)
  have t1 : trA (D 96) 1 = D 96 1 := tr_at (by decide)
  have fr : ∀ s, 0 ≤ s → s < D 96 0 → frM (trA (D 96)) s = frM (D 96) s ∧ toM (trA (D 96)) s = toM (D 96) s := fun s s1 s2 => frM_cg2 (fun j h => tr_at (by omega)) (by omega)
  refine ⟨⟨⟨by rw [t0, e1], by rw [t1, e2]⟩, fun s s1 s2 => ?_, fun p p1 p2 => ?_, fun d d1 d2 => ?_⟩, fun j h => (tr_at (by omega)).symm, ⟨⟨by rw [t0]; exact w0, by rw [t0]; exact w1, by rw [t1]; exact w2, by rw [t1]; exact w3⟩, fun s s1 s2 => ?_, fun d d1 d2 => ?_, ⟨?_, ?_⟩, fun p p1 p2 => ?_⟩⟩
  · rw [t0] at s2
    obtain ⟨r1, r2⟩ := fr s s1 s2
    obtain ⟨q1, q2⟩ := fr_eq hs hw ⟨s1, s2⟩
    obtain ⟨u1, u2, u3, u4, u5, u6⟩ := hst s s1 s2
    rw [r1, r2, tr_at (by omega), tr_at (by omega), tr_at (by omega), tr_at (by omega)]
    exact ⟨⟨q1, q2⟩, u3, u4, u5, u6⟩
  · obtain ⟨u1, u2, u3⟩ := hp p p1 p2
    rw [tr_at (by omega), tr_at (by omega)]
    exact ⟨u1, u2⟩
  · rw [t1] at d2
    obtain ⟨u1, u2, u3⟩ := hd d d1 d2
    rw [tr_at (by omega), tr_at (by omega), tr_at (by omega), tr_at (by omega)]
    exact ⟨u1, u2, u3, by rw [e3] at *; exact hsl d d1 d2⟩
  · rw [t0] at s2
    obtain ⟨r1, r2⟩ := fr s s1 s2
    obtain ⟨u1, u2, u3, u4, u5, u6⟩ := ws s s1 s2
    rw [r1, r2, tr_at (by omega), tr_at (by omega), tr_at (by omega), tr_at (by omega), tr_at (by omega)]
    refine ⟨?_, ?_, u3, u4, u5, u6⟩
    · unfold frM; split <;> assumption
    · unfold toM; split <;> assumption
  · rw [t1] at d2
    rw [tr_at (by omega), tr_at (by omega), tr_at (by omega), tr_at (by omega)]
    exact wd d d1 d2
  · rw [t1, tr_at (by decide), wsum.1]
    refine smI_congr _ _ (fun j j1 j2 => ?_)
    rw [tr_at (by omega)]
  · rw [tr_at (by decide)]; exact wsum.2.1
  · rw [tr_at (by omega), tr_at (by omega)]
    exact ⟨(wp p p1 p2).1, (wp p p1 p2).2.1⟩
theorem smI_last {f : Int → Int} : ∀ (k : Nat) (i : Int), smI f i (k + 1) = smI f i k + f (i + k) := by
  intro k
  induction k with
  | zero => intro i; simp [smI]
  | succ k ih =>
    intro i
    have e : smI f i (k + 1 + 1) = f i + smI f (i + 1) (k + 1) := rfl
    rw [e, ih (i + 1)]
    show f i + (smI f (i + 1) k + f (i + 1 + k)) = (f i + smI f (i + 1) k) + f (i + ((k + 1 : Nat) : Int))
    rw [show i + 1 + (k : Int) = i + ((k + 1 : Nat) : Int) by omega]
    omega
theorem smI_0 {f : Int → Int} : ∀ (k : Nat) (i : Int), (∀ j, i ≤ j → j < i + k → f j = 0) → smI f i k = 0 := by
  intro k
  induction k with
  | zero => intro i _; rfl
  | succ k ih =>
    intro i h
    simp only [smI]
    rw [h i (by omega) (by omega), ih (i + 1) (fun j a b => h j (by omega) (by omega))]
    rfl
theorem smI_add {f g : Int → Int} : ∀ (k : Nat) (i : Int), smI (fun j => f j + g j) i k = smI f i k + smI g i k := by
  intro k
  induction k with
  | zero => intro i; rfl
  | succ k ih =>
    intro i
    simp only [smI]
    rw [ih (i + 1)]
    omega
theorem smI_swap {f : Int → Int → Int} : ∀ (k m : Nat) (i j : Int), smI (fun a => smI (fun b => f a b) j m) i k = smI (fun b => smI (fun a => f a b) i k) j m := by
  intro k m
  induction k with
  | zero =>
    intro i j
    exact (smI_0 m j (fun _ _ _ => rfl)).symm
  | succ k ih =>
    intro i j
    simp only [smI]
    rw [ih (i + 1) j]
    exact (smI_add (f := fun b => f i b) (g := fun b => smI (fun a => f a b) (i + 1) k) m j).symm
theorem smI_one {v : Int} : ∀ (k : Nat) (i c : Int), i ≤ c → c < i + k → smI (fun j => if c = j then v else 0) i k = v := by
  intro k
  induction k with
  | zero => intro i c h1 h2; omega
  | succ k ih =>
    intro i c h1 h2
    simp only [smI]
    by_cases e : c = i
    · rw [if_pos e, smI_0 k (i + 1) (fun j a b => by rw [if_neg (by omega)])]
      omega
    · rw [if_neg e, ih (i + 1) c (by omega) (by omega)]
      omega
theorem wkD_bd (hT : tnW T) (t p : Int) : 0 ≤ wkD T t p ∧ wkD T t p ≤ 180 := by
  obtain ⟨⟨w0, w1, w2, w3⟩, ws, wd, -⟩ := hT
  have := smI_bd (f := fun d => if T (150 + 4 * d) = p ∧ T (150 + 4 * d + 1) = t then T (150 + 4 * d + 2) else 0) (B := 30) (T 1).toNat 0 (fun j j1 j2 => by
    obtain ⟨-, -, u, -⟩ := wd j j1 (by omega)
    split <;> omega)
  unfold wkD
  omega
theorem wkE_bd (hT : tnW T) (hP : wkP T P) {k : Int} (hX : wkB k X) (hp : 0 ≤ p ∧ p < 8) (ht : 0 ≤ t ∧ t ≤ 12) : (0 ≤ wk1 T X t p ∧ wk1 T X t p ≤ 2072 * k + 180) ∧ (0 ≤ wkN T X t p ∧ wkN T X t p ≤ 99 ∧ wkN T X t p ≤ wk1 T X t p ∧ wkN T X t p ≤ X.2.1 p) ∧ (0 ≤ wkE T fs fm P X t p ∧ wkE T fs fm P X t p ≤ 9 ∧ wkE T fs fm P X t p ≤ wk1 T X t p - wkN T X t p) := by
  obtain ⟨x1, x2⟩ := hX
  obtain ⟨y1, y2⟩ := x1 p hp.1 hp.2
  have y3 := x2 p t
  have d := wkD_bd hT t p
  have h1 : 0 ≤ wk1 T X t p ∧ wk1 T X t p ≤ 2072 * k + 180 := by unfold wk1; omega
  have h2 : 0 ≤ wkN T X t p ∧ wkN T X t p ≤ 99 ∧ wkN T X t p ≤ wk1 T X t p ∧ wkN T X t p ≤ X.2.1 p := by unfold wkN; omega
  refine ⟨h1, h2, ?_⟩
  unfold wkE
  by_cases c : wkOk T fs fm (P p t) t
  · rw [if_pos c]
    have hs := (hP p t hp.1 hp.2 ht.1 ht.2).resolve_left c.1
    have w := (hT.2.1 _ hs.1 hs.2).2.2.2.1
    omega
  · rw [if_neg c]; omega
theorem wkC_bd (hT : tnW T) (hP : wkP T P) {k : Int} (hX : wkB k X) (ht : 0 ≤ t ∧ t ≤ 12) (m : Nat) (hm : m ≤ 8) : 0 ≤ smI (wkC T fs fm P X t q u) 0 m ∧ smI (wkC T fs fm P X t q u) 0 m ≤ 72 := by
  have := smI_bd (f := wkC T fs fm P X t q u) (B := 9) m 0 (fun j j1 j2 => by
    have := (wkE_bd (fs := fs) (fm := fm) hT hP hX (p := j) ⟨j1, by omega⟩ ht).2.2
    unfold wkC
    split <;> omega)
  omega
theorem wkS_bd (hT : tnW T) (hP : wkP T P) {k : Int} (hX : wkB k X) (ht : 0 ≤ t ∧ t ≤ 12) (hk : 0 ≤ k ∧ k ≤ 13) : wkB (k + 1) (wkS T fs fm P X t) := by
  refine ⟨fun p p1 p2 => ?_, fun q u => ?_⟩
  · obtain ⟨h1, h2, h3⟩ := wkE_bd (fs := fs) (fm := fm) hT hP hX ⟨p1, p2⟩ ht
    have h4 := (hX.1 p p1 p2).2
    show (0 ≤ wk1 T X t p - wkN T X t p - wkE T fs fm P X t p ∧ wk1 T X t p - wkN T X t p - wkE T fs fm P X t p ≤ 2000 * (k + 1)) ∧ (0 ≤ X.2.1 p - wkN T X t p ∧ X.2.1 p - wkN T X t p ≤ 99)
    have y1 := (hX.1 p p1 p2).1
    have y3 := hX.2 p t
    have d := wkD_bd hT t p
    have e : wk1 T X t p = X.1 p + wkD T t p + X.2.2 p t := rfl
    omega
  · have h := wkC_bd (fs := fs) (fm := fm) (q := q) (u := u) hT hP hX ht 8 (by omega)
    have y3 := hX.2 q u
    show 0 ≤ X.2.2 q u + smI (wkC T fs fm P X t q u) 0 8 ∧ X.2.2 q u + smI (wkC T fs fm P X t q u) 0 8 ≤ 72 * (k + 1)
    omega
theorem wkG_bd (hT : tnW T) (hP : wkP T P) : ∀ k : Nat, k ≤ 13 → wkB k (wkG T fs fm P k) := by
  intro k
  induction k with
  | zero =>
    intro _
    refine ⟨fun p p1 p2 => ⟨⟨Int.le_refl _, by show (0 : Int) ≤ _; omega⟩, (hT.2.2.2.2 p p1 p2).2⟩, fun q u => ⟨Int.le_refl _, by show (0 : Int) ≤ _; omega⟩⟩
  | succ k ih =>
    intro hk
    have := wkS_bd (fs := fs) (fm := fm) hT hP (ih (by omega)) (t := k) (by omega) (by omega)
    show wkB ((k + 1 : Nat) : Int) (wkS T fs fm P (wkG T fs fm P k) k)
    rw [show ((k + 1 : Nat) : Int) = (k : Int) + 1 by omega]
    exact this
theorem wkN_bd (hT : tnW T) (hP : wkP T P) (k m : Nat) (hk : k ≤ 12) (hm : m ≤ 8) : 0 ≤ smI (wkN T (wkG T fs fm P k) k) 0 m ∧ smI (wkN T (wkG T fs fm P k) k) 0 m ≤ 800 := by
  have := smI_bd (f := wkN T (wkG T fs fm P k) k) (B := 99) m 0 (fun j j1 j2 => by
    have := (wkE_bd (fs := fs) (fm := fm) hT hP (wkG_bd (fs := fs) (fm := fm) hT hP k (by omega)) (p := j) (t := k) ⟨j1, by omega⟩ (by omega)).2.1
    omega)
  omega
theorem wkO_bd (hT : tnW T) (hP : wkP T P) : ∀ k : Nat, k ≤ 13 → 0 ≤ wkO T fs fm P k ∧ wkO T fs fm P k ≤ 800 * k := by
  intro k
  induction k with
  | zero => intro _; exact ⟨Int.le_refl _, Int.le_refl _⟩
  | succ k ih =>
    intro hk
    have h1 := ih (by omega)
    have h2 := wkN_bd (fs := fs) (fm := fm) hT hP k 8 (by omega) (by omega)
    show 0 ≤ wkO T fs fm P k + smI (wkN T (wkG T fs fm P k) k) 0 8 ∧ wkO T fs fm P k + smI (wkN T (wkG T fs fm P k) k) 0 8 ≤ _
    omega
theorem wkZ_bd (hT : tnW T) (hP : wkP T P) : ∀ k : Nat, k ≤ 13 → 0 ≤ wkZ T fs fm P k ∧ wkZ T fs fm P k ≤ 10400 * k := by
  intro k
  induction k with
  | zero => intro _; exact ⟨Int.le_refl _, Int.le_refl _⟩
  | succ k ih =>
    intro hk
    have h1 := ih (by omega)
    have h2 := wkO_bd (fs := fs) (fm := fm) hT hP (k + 1) (by omega)
    show 0 ≤ wkZ T fs fm P k + wkO T fs fm P (k + 1) ∧ wkZ T fs fm P k + wkO T fs fm P (k + 1) ≤ _
    omega
/-- who are on streets, counted -/
theorem wkR_eq (hT : tnW T) (hP : wkP T P) : ∀ k m : Nat, k + m = 18 → k ≤ 13 → wkR T fs fm P k = smI (fun q => smI (fun u => (wkG T fs fm P k).2.2 q u) k m) 0 8 := by
  intro k
  induction k with
  | zero =>
    intro m h1 h2
    exact (smI_0 8 0 (fun q _ _ => smI_0 m _ (fun u _ _ => rfl))).symm
  | succ k ih =>
    intro m h1 h2
    have e := ih (m + 1) (by omega) (by omega)
    have hB := wkG_bd (fs := fs) (fm := fm) hT hP k (by omega)
    show wkR T fs fm P k - smI (fun p => (wkG T fs fm P k).2.2 p k) 0 8 + smI (wkE T fs fm P (wkG T fs fm P k) k) 0 8 = smI (fun q => smI (fun u => (wkG T fs fm P k).2.2 q u + smI (wkC T fs fm P (wkG T fs fm P k) k q u) 0 8) ((k + 1 : Nat) : Int) m) 0 8
    rw [e]
    have a1 : smI (fun q => smI (fun u => (wkG T fs fm P k).2.2 q u) k (m + 1)) 0 8 = smI (fun p => (wkG T fs fm P k).2.2 p k) 0 8 + smI (fun q => smI (fun u => (wkG T fs fm P k).2.2 q u) ((k + 1 : Nat) : Int) m) 0 8 := by
      rw [← smI_add]
      refine smI_congr _ _ (fun q _ _ => ?_)
      show (wkG T fs fm P k).2.2 q k + smI _ ((k : Int) + 1) m = _
      rw [show ((k + 1 : Nat) : Int) = (k : Int) + 1 by omega]
    have a2 : smI (fun q => smI (fun u => (wkG T fs fm P k).2.2 q u + smI (wkC T fs fm P (wkG T fs fm P k) k q u) 0 8) ((k + 1 : Nat) : Int) m) 0 8 = smI (fun q => smI (fun u => (wkG T fs fm P k).2.2 q u) ((k + 1 : Nat) : Int) m) 0 8 + smI (fun q => smI (fun u => smI (wkC T fs fm P (wkG T fs fm P k) k q u) 0 8) ((k + 1 : Nat) : Int) m) 0 8 := by
      rw [← smI_add]
      refine smI_congr _ _ (fun q _ _ => ?_)
      exact smI_add m _
    have a3 : smI (fun q => smI (fun u => smI (wkC T fs fm P (wkG T fs fm P k) k q u) 0 8) ((k + 1 : Nat) : Int) m) 0 8 = smI (wkE T fs fm P (wkG T fs fm P k) k) 0 8 := by
      have b1 : ∀ q, smI (fun u => smI (wkC T fs fm P (wkG T fs fm P k) k q u) 0 8) ((k + 1 : Nat) : Int) m = smI (fun p => smI (fun u => wkC T fs fm P (wkG T fs fm P k) k q u p) ((k + 1 : Nat) : Int) m) 0 8 := fun q => smI_swap (f := fun u p => wkC T fs fm P (wkG T fs fm P k) k q u p) m 8 _ _
      rw [smI_congr 8 0 (fun q _ _ => b1 q), smI_swap (f := fun q p => smI (fun u => wkC T fs fm P (wkG T fs fm P k) k q u p) ((k + 1 : Nat) : Int) m) 8 8 0 0]
      refine smI_congr _ _ (fun p p1 p2 => ?_)
      by_cases c : wkOk T fs fm (P p k) k
      · have hs := (hP p k p1 (by omega) (by omega) (by omega)).resolve_left c.1
        obtain ⟨-, w2, w3, -⟩ := hT.2.1 _ hs.1 hs.2
        have b2 : ∀ q, smI (fun u => wkC T fs fm P (wkG T fs fm P k) k q u p) ((k + 1 : Nat) : Int) m = if toM T (P p k) = q then wkE T fs fm P (wkG T fs fm P k) k p else 0 := by
          intro q
          by_cases e : toM T (P p k) = q
          · rw [if_pos e, ← smI_one (v := wkE T fs fm P (wkG T fs fm P k) k p) m ((k + 1 : Nat) : Int) (k + T (30 + 7 * P p k + 2)) (by omega) (by omega)]
            refine smI_congr _ _ (fun u _ _ => ?_)
            unfold wkC
            by_cases f : (k : Int) + T (30 + 7 * P p k + 2) = u
            · rw [if_pos ⟨e, f⟩, if_pos f]
            · rw [if_neg (fun z => f z.2), if_neg f]
          · rw [if_neg e]
            refine smI_0 _ _ (fun u _ _ => ?_)
            unfold wkC
            rw [if_neg (fun z => e z.1)]
        rw [smI_congr 8 0 (fun q _ _ => b2 q)]
        exact smI_one 8 0 _ (by omega) (by omega)
      · have z : wkE T fs fm P (wkG T fs fm P k) k p = 0 := by unfold wkE; rw [if_neg c]
        rw [z]
        refine smI_0 _ _ (fun q _ _ => smI_0 _ _ (fun u _ _ => ?_))
        unfold wkC
        rw [z, ite_self]
    rw [a1, a2, a3]
    omega
/-- the street of a place's sign at a minute -/
def chA (A : Int → Int) (p t : Int) : Int := fsI (fun c => A (190 + 3 * c) = p ∧ A (190 + 3 * c + 1) = t) 0 (A 6).toNat
def shV (A : Int → Int) (p : Int) : Nat → Int
  | 0 => A (176 + p)
  | k + 1 => if chA A p (k + 1 : Nat) = -1 then shV A p k else A (190 + 3 * chA A p (k + 1 : Nat) + 2)
def shP (A : Int → Int) (p t : Int) : Int := shV A p t.toNat
theorem chA_rg (A : Int → Int) (p t : Int) (h : 0 ≤ A 6) : chA A p t = -1 ∨ (0 ≤ chA A p t ∧ chA A p t < A 6 ∧ A (190 + 3 * chA A p t) = p) := by
  unfold chA
  rcases fsI_spec (P := fun c => A (190 + 3 * c) = p ∧ A (190 + 3 * c + 1) = t) (A 6).toNat 0 with ⟨q, -⟩ | ⟨q1, q2, q3, -⟩
  · exact .inl q
  · exact .inr ⟨q1, by omega, q3.1⟩
theorem shV_rg (W : WfA A) (hp : 0 ≤ p ∧ p < 8) : ∀ k : Nat, shV A p k = -1 ∨ (0 ≤ shV A p k ∧ shV A p k < A 0) := by
  obtain ⟨⟨w0, w1, w2, w3, w4, w5⟩, ws, wd, wsum, wp, wc, wk, wx⟩ := id W
  intro k
  induction k with
  | zero =>
    rcases (wp p hp.1 hp.2).2.2 with h | ⟨h1, h2, -⟩
    · exact .inl h
    · exact .inr ⟨h1, h2⟩
  | succ k ih =>
    simp only [shV]
    by_cases c : chA A p (k + 1 : Nat) = -1
    · rw [if_pos c]; exact ih
    · rw [if_neg c]
      obtain ⟨h1, h2, h3⟩ := (chA_rg A p (k + 1 : Nat) w4).resolve_left c
      rcases (wc _ h1 h2).2.2 with h | ⟨h4, h5, -⟩
      · exact .inl h
      · exact .inr ⟨h4, h5⟩
theorem shP_wkP (W : WfA A) (hT : T 0 = A 0) : wkP T (shP A) := fun p t p1 p2 _ _ => by rw [hT]; exact shV_rg W ⟨p1, p2⟩ _
end M52
