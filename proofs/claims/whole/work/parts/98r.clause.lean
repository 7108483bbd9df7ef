/-! texts: what a clause says -/
def fuI (A : Int → Int) (i v : Int) : Int → Int := fun j => if j = i then v else A j
abbrev paR : Type := Int × Int × (Int → Int) × Int × Int
def bdF (t : Int → Int) (n f p : Int) (A : Int → Int) (h o : Int) : paR := (f, tkB t n p, A, h, o)
def enX (t : Int → Int) (n : Int) (R : paR) : paR := if R.1 = 0 then (if tkK t n R.2.1 = 3 then (0, tkE t n R.2.1, fuI R.2.2.1 4 (R.2.2.1 4 + 1), R.2.2.2.1, R.2.2.2.2) else bdF t n 1 R.2.1 R.2.2.1 R.2.2.2.1 R.2.2.2.2) else R
def hoF (t : Int → Int) (n : Int) (A : Int → Int) (h o p : Int) : paR :=
  if plF t n p < 0 then bdF t n 1 p A h o
  else if iand (ishr h (plF t n p)) 1 = 1 then bdF t n 3 p A h o
  else if nmF t n (tkE t n p) 0 99 ≠ 0 then bdF t n (nmF t n (tkE t n p) 0 99) (tkE t n p) A h o
  else (0, tkE t n (tkE t n p), fuI A (10 + plF t n p) (tkV t n (tkE t n p)), ior h (ishl 1 (plF t n p)), o)
def saF (t : Int → Int) (n : Int) (A : Int → Int) (h o p : Int) : paR :=
  if plF t n p < 0 then bdF t n 1 p A h o
  else if 0 < A (18 + plF t n p) then bdF t n 3 p A h o
  else if nmF t n (tkE t n p) 1 99 ≠ 0 then bdF t n (nmF t n (tkE t n p) 1 99) (tkE t n p) A h o
  else (0, tkE t n (tkE t n p), fuI A (18 + plF t n p) (tkV t n (tkE t n p)), h, o)
def stA (A : Int → Int) (a b m w : Int) : Int → Int := fuI (fuI (fuI (fuI (fuI (fuI (fuI (fuI A (30 + 7 * A 0) a) (30 + 7 * A 0 + 1) b) (30 + 7 * A 0 + 4) 0) (30 + 7 * A 0 + 5) 12) (30 + 7 * A 0 + 6) 0) (30 + 7 * A 0 + 2) m) (30 + 7 * A 0 + 3) w) 0 (A 0 + 1)
def stF (t : Int → Int) (n : Int) (A : Int → Int) (h o p : Int) : paR :=
  if plF t n p < 0 then bdF t n 1 p A h o
  else if plF t n (tkE t n p) < 0 then bdF t n 1 (tkE t n p) A h o
  else if plF t n p = plF t n (tkE t n p) then bdF t n 3 (tkE t n p) A h o
  else if nmF t n (tkE t n (tkE t n p)) 1 5 ≠ 0 then bdF t n (nmF t n (tkE t n (tkE t n p)) 1 5) (tkE t n (tkE t n p)) A h o
  else if nmF t n (tkE t n (tkE t n (tkE t n p))) 1 9 ≠ 0 then bdF t n (nmF t n (tkE t n (tkE t n (tkE t n p))) 1 9) (tkE t n (tkE t n (tkE t n p))) A h o
  else (0, tkE t n (tkE t n (tkE t n (tkE t n p))), stA A (plF t n p) (plF t n (tkE t n p)) (tkV t n (tkE t n (tkE t n p))) (tkV t n (tkE t n (tkE t n (tkE t n p)))), h, o)
def opF (t : Int → Int) (n : Int) (A : Int → Int) (h o p : Int) : paR :=
  if nmF t n p 0 (A 0 - 1) ≠ 0 then bdF t n (nmF t n p 0 (A 0 - 1)) p A h o
  else if iand (ishr o (tkV t n p)) 1 = 1 then bdF t n 3 p A h o
  else if nmF t n (tkE t n p) 0 12 ≠ 0 then bdF t n (nmF t n (tkE t n p) 0 12) (tkE t n p) A h o
  else if nmF t n (tkE t n (tkE t n p)) (tkV t n (tkE t n p)) 12 ≠ 0 then bdF t n (nmF t n (tkE t n (tkE t n p)) (tkV t n (tkE t n p)) 12) (tkE t n (tkE t n p)) A h o
  else (0, tkE t n (tkE t n (tkE t n p)), fuI (fuI A (30 + 7 * tkV t n p + 4) (tkV t n (tkE t n p))) (30 + 7 * tkV t n p + 5) (tkV t n (tkE t n (tkE t n p))), h, ior o (ishl 1 (tkV t n p)))
def trF (t : Int → Int) (n : Int) (A : Int → Int) (h o p : Int) : paR :=
  if nmF t n p 0 (A 0 - 1) ≠ 0 then bdF t n (nmF t n p 0 (A 0 - 1)) p A h o
  else if A (30 + 7 * tkV t n p + 6) = 1 then bdF t n 3 p A h o
  else (0, tkE t n p, fuI (fuI A (30 + 7 * tkV t n p + 6) 1) 3 (A 3 + 1), h, o)
def doA (A : Int → Int) (a m v : Int) : Int → Int := fuI (fuI (fuI (fuI (fuI A (150 + 4 * A 1) a) (150 + 4 * A 1 + 1) m) (150 + 4 * A 1 + 2) v) 2 (A 2 + v)) 1 (A 1 + 1)
def doF (t : Int → Int) (n : Int) (A : Int → Int) (h o p : Int) : paR :=
  if plF t n p < 0 then bdF t n 1 p A h o
  else if nmF t n (tkE t n p) 0 12 ≠ 0 then bdF t n (nmF t n (tkE t n p) 0 12) (tkE t n p) A h o
  else if nmF t n (tkE t n (tkE t n p)) 1 30 ≠ 0 then bdF t n (nmF t n (tkE t n (tkE t n p)) 1 30) (tkE t n (tkE t n p)) A h o
  else if 99 < A 2 + tkV t n (tkE t n (tkE t n p)) then bdF t n 4 (tkE t n (tkE t n p)) A h o
  else (0, tkE t n (tkE t n (tkE t n p)), doA A (plF t n p) (tkV t n (tkE t n p)) (tkV t n (tkE t n (tkE t n p))), h, o)
def slF (t : Int → Int) (n : Int) (A : Int → Int) (h o p : Int) : paR :=
  if nmF t n p 0 (A 1 - 1) ≠ 0 then bdF t n (nmF t n p 0 (A 1 - 1)) p A h o
  else if A (150 + 4 * tkV t n p + 3) = 1 then bdF t n 3 p A h o
  else (0, tkE t n p, fuI (fuI A (150 + 4 * tkV t n p + 3) 1) 7 (A 7 + A (150 + 4 * tkV t n p + 2)), h, o)
def clF (t : Int → Int) (n : Int) (A : Int → Int) (h o p : Int) : paR :=
  if isW t n p 0 = true then enX t n (hoF t n A h o (tkE t n p))
  else if isW t n p 1 = true then (if 16 ≤ A 0 then bdF t n 4 p A h o else enX t n (stF t n A h o (tkE t n p)))
  else if isW t n p 2 = true then enX t n (opF t n A h o (tkE t n p))
  else if isW t n p 3 = true then (if 5 ≤ A 3 then bdF t n 4 p A h o else enX t n (trF t n A h o (tkE t n p)))
  else if isW t n p 4 = true then (if 6 ≤ A 1 then bdF t n 4 p A h o else enX t n (doF t n A h o (tkE t n p)))
  else if isW t n p 5 = true then enX t n (saF t n A h o (tkE t n p))
  else if isW t n p 6 = true then enX t n (slF t n A h o (tkE t n p))
  else bdF t n 1 p A h o
/-- what a town told so far can be -/
def WfX (A : Int → Int) : Prop :=
  (0 ≤ A 0 ∧ A 0 ≤ 16 ∧ 0 ≤ A 1 ∧ A 1 ≤ 6 ∧ A 5 = 0 ∧ A 6 = 0) ∧
  (∀ s, 0 ≤ s → s < A 0 → (0 ≤ A (30 + 7 * s) ∧ A (30 + 7 * s) ≤ 7) ∧ (0 ≤ A (30 + 7 * s + 1) ∧ A (30 + 7 * s + 1) ≤ 7) ∧ (1 ≤ A (30 + 7 * s + 2) ∧ A (30 + 7 * s + 2) ≤ 5) ∧ (1 ≤ A (30 + 7 * s + 3) ∧ A (30 + 7 * s + 3) ≤ 9) ∧ (0 ≤ A (30 + 7 * s + 4) ∧ A (30 + 7 * s + 4) ≤ A (30 + 7 * s + 5) ∧ A (30 + 7 * s + 5) ≤ 12) ∧ (A (30 + 7 * s + 6) = 0 ∨ A (30 + 7 * s + 6) = 1)) ∧
  (∀ d, 0 ≤ d → d < A 1 → (0 ≤ A (150 + 4 * d) ∧ A (150 + 4 * d) ≤ 7) ∧ (0 ≤ A (150 + 4 * d + 1) ∧ A (150 + 4 * d + 1) ≤ 12) ∧ (1 ≤ A (150 + 4 * d + 2) ∧ A (150 + 4 * d + 2) ≤ 30) ∧ (A (150 + 4 * d + 3) = 0 ∨ A (150 + 4 * d + 3) = 1)) ∧
  (∀ d, A 1 ≤ d → d < 6 → A (150 + 4 * d + 3) = 0) ∧
  (A 2 = smI (fun d => A (150 + 4 * d + 2)) 0 (A 1).toNat ∧ A 2 ≤ 99 ∧ A 3 = smI (fun s => A (30 + 7 * s + 6)) 0 (A 0).toNat ∧ A 3 ≤ 5 ∧ A 7 = smI (fun d => if A (150 + 4 * d + 3) = 1 then A (150 + 4 * d + 2) else 0) 0 (A 1).toNat) ∧
  (∀ p, 0 ≤ p → p < 8 → (0 ≤ A (10 + p) ∧ A (10 + p) ≤ 99) ∧ (0 ≤ A (18 + p) ∧ A (18 + p) ≤ 99) ∧ A (176 + p) = -1) ∧
  (∀ k, 0 ≤ k → k < 208 → A (220 + k) = 0 ∧ A (430 + k) = 0)
section M98r
variable {n p q i j v w a b m c s h o h' o' f : Int} {k : Nat} {A A' : Int → Int} {t : Int → Int} {R : paR}
theorem fu_eq : fuI A i v i = v := by unfold fuI; rw [if_pos rfl]
theorem fu_ne (hj : j ≠ i) : fuI A i v j = A j := by unfold fuI; rw [if_neg hj]
/-- cells of places -/
theorem wx_pl (H : WfX A) (h1 : ∀ j, j ≠ i → A' j = A j) (hi : 10 ≤ i ∧ i < 26) (hv : 0 ≤ A' i ∧ A' i ≤ 99) : WfX A' := by
  obtain ⟨x0, x1, x2, x3, x4, x5, x6⟩ := H
  refine ⟨?_, fun s s1 s2 => ?_, fun d d1 d2 => ?_, fun d d1 d2 => ?_, ?_, fun p p1 p2 => ?_, fun k k1 k2 => ?_⟩
  · rw [h1 0 (by omega), h1 1 (by omega), h1 5 (by omega), h1 6 (by omega)]; exact x0
  · rw [h1 0 (by omega)] at s2
    rw [h1 _ (by omega), h1 _ (by omega), h1 _ (by omega), h1 _ (by omega), h1 _ (by omega), h1 _ (by omega), h1 _ (by omega)]
    exact x1 s s1 s2
  · rw [h1 1 (by omega)] at d2
    rw [h1 _ (by omega), h1 _ (by omega), h1 _ (by omega), h1 _ (by omega)]
    exact x2 d d1 d2
  · rw [h1 1 (by omega)] at d1
    rw [h1 _ (by omega)]
    exact x3 d d1 d2
  · rw [h1 0 (by omega), h1 1 (by omega), h1 2 (by omega), h1 3 (by omega), h1 7 (by omega)]
    refine ⟨?_, x4.2.1, ?_, x4.2.2.2.1, ?_⟩
    · rw [x4.1]; exact smI_congr _ _ (fun d d1 d2 => by rw [h1 _ (by omega)])
    · rw [x4.2.2.1]; exact smI_congr _ _ (fun d d1 d2 => by rw [h1 _ (by omega)])
    · rw [x4.2.2.2.2]; exact smI_congr _ _ (fun d d1 d2 => by rw [h1 _ (by omega), h1 _ (by omega)])
  · obtain ⟨y1, y2, y3⟩ := x5 p p1 p2
    rw [h1 (176 + p) (by omega)]
    refine ⟨?_, ?_, y3⟩
    · by_cases e : 10 + p = i
      · rw [e]; exact hv
      · rw [h1 _ e]; exact y1
    · by_cases e : 18 + p = i
      · rw [e]; exact hv
      · rw [h1 _ e]; exact y2
  · rw [h1 _ (by omega), h1 _ (by omega)]; exact x6 k k1 k2
theorem wx_4 (H : WfX A) : WfX (fuI A 4 v) := by
  have h1 : ∀ j, j ≠ 4 → fuI A 4 v j = A j := fun j hj => fu_ne hj
  obtain ⟨x0, x1, x2, x3, x4, x5, x6⟩ := H
  refine ⟨?_, fun s s1 s2 => ?_, fun d d1 d2 => ?_, fun d d1 d2 => ?_, ?_, fun p p1 p2 => ?_, fun k k1 k2 => ?_⟩
  · rw [h1 0 (by omega), h1 1 (by omega), h1 5 (by omega), h1 6 (by omega)]; exact x0
  · rw [h1 0 (by omega)] at s2
    rw [h1 _ (by omega), h1 _ (by omega), h1 _ (by omega), h1 _ (by omega), h1 _ (by omega), h1 _ (by omega), h1 _ (by omega)]
    exact x1 s s1 s2
  · rw [h1 1 (by omega)] at d2
    rw [h1 _ (by omega), h1 _ (by omega), h1 _ (by omega), h1 _ (by omega)]
    exact x2 d d1 d2
  · rw [h1 1 (by omega)] at d1
    rw [h1 _ (by omega)]
    exact x3 d d1 d2
  · rw [h1 0 (by omega), h1 1 (by omega), h1 2 (by omega), h1 3 (by omega), h1 7 (by omega)]
    refine ⟨?_, x4.2.1, ?_, x4.2.2.2.1, ?_⟩
    · rw [x4.1]; exact smI_congr _ _ (fun d d1 d2 => by rw [h1 _ (by omega)])
    · rw [x4.2.2.1]; exact smI_congr _ _ (fun d d1 d2 => by rw [h1 _ (by omega)])
    · rw [x4.2.2.2.2]; exact smI_congr _ _ (fun d d1 d2 => by rw [h1 _ (by omega), h1 _ (by omega)])
  · rw [h1 _ (by omega), h1 _ (by omega), h1 _ (by omega)]; exact x5 p p1 p2
  · rw [h1 _ (by omega), h1 _ (by omega)]; exact x6 k k1 k2
theorem st_at : (stA A a b m w 0 = A 0 + 1) ∧ (0 ≤ A 0 → stA A a b m w (30 + 7 * A 0) = a ∧ stA A a b m w (30 + 7 * A 0 + 1) = b ∧ stA A a b m w (30 + 7 * A 0 + 2) = m ∧ stA A a b m w (30 + 7 * A 0 + 3) = w ∧ stA A a b m w (30 + 7 * A 0 + 4) = 0 ∧ stA A a b m w (30 + 7 * A 0 + 5) = 12 ∧ stA A a b m w (30 + 7 * A 0 + 6) = 0) ∧ ∀ j, j ≠ 0 → (j < 30 + 7 * A 0 ∨ 30 + 7 * A 0 + 6 < j) → stA A a b m w j = A j := by
  unfold stA
  refine ⟨fu_eq, fun h0 => ⟨?_, ?_, ?_, ?_, ?_, ?_, ?_⟩, fun j h1 h2 => ?_⟩
  · rw [fu_ne (by omega), fu_ne (by omega), fu_ne (by omega), fu_ne (by omega), fu_ne (by omega), fu_ne (by omega), fu_ne (by omega), fu_eq]
  · rw [fu_ne (by omega), fu_ne (by omega), fu_ne (by omega), fu_ne (by omega), fu_ne (by omega), fu_ne (by omega), fu_eq]
  · rw [fu_ne (by omega), fu_ne (by omega), fu_eq]
  · rw [fu_ne (by omega), fu_eq]
  · rw [fu_ne (by omega), fu_ne (by omega), fu_ne (by omega), fu_ne (by omega), fu_ne (by omega), fu_eq]
  · rw [fu_ne (by omega), fu_ne (by omega), fu_ne (by omega), fu_ne (by omega), fu_eq]
  · rw [fu_ne (by omega), fu_ne (by omega), fu_ne (by omega), fu_eq]
  · rw [fu_ne (by omega), fu_ne (by omega), fu_ne (by omega), fu_ne (by omega), fu_ne (by omega), fu_ne (by omega), fu_ne (by omega), fu_ne (by omega)]
theorem wx_st (H : WfX A) (hs : A 0 < 16) (ha : 0 ≤ a ∧ a ≤ 7) (hb : 0 ≤ b ∧ b ≤ 7) (hm : 1 ≤ m ∧ m ≤ 5) (hw : 1 ≤ w ∧ w ≤ 9) : WfX (stA A a b m w) := by
  obtain ⟨x0, x1, x2, x3, x4, x5, x6⟩ := H
  obtain ⟨s0, s1', h1⟩ := st_at (A := A) (a := a) (b := b) (m := m) (w := w)
  obtain ⟨e0, e1, e2, e3, e4, e5, e6⟩ := s1' x0.1
  have f1 : stA A a b m w 1 = A 1 := h1 1 (by omega) (by omega)
  refine ⟨?_, fun s s1 s2 => ?_, fun d d1 d2 => ?_, fun d d1 d2 => ?_, ?_, fun p p1 p2 => ?_, fun k k1 k2 => ?_⟩
  · rw [s0, f1, h1 5 (by omega) (by omega), h1 6 (by omega) (by omega)]; omega
  · rw [s0] at s2
    by_cases c : s = A 0
    · rw [c, e0, e1, e2, e3, e4, e5, e6]
      exact ⟨ha, hb, hm, hw, by omega, .inl rfl⟩
    · rw [h1 _ (by omega) (by omega), h1 _ (by omega) (by omega), h1 _ (by omega) (by omega), h1 _ (by omega) (by omega), h1 _ (by omega) (by omega), h1 _ (by omega) (by omega), h1 _ (by omega) (by omega)]
      exact x1 s s1 (by omega)
  · rw [f1] at d2
    rw [h1 _ (by omega) (by omega), h1 _ (by omega) (by omega), h1 _ (by omega) (by omega), h1 _ (by omega) (by omega)]
    exact x2 d d1 d2
  · rw [f1] at d1
    rw [h1 _ (by omega) (by omega)]
    exact x3 d d1 d2
  · rw [s0, f1, h1 2 (by omega) (by omega), h1 3 (by omega) (by omega), h1 7 (by omega) (by omega)]
    refine ⟨?_, x4.2.1, ?_, x4.2.2.2.1, ?_⟩
    · rw [x4.1]; exact smI_congr _ _ (fun d d1 d2 => by rw [h1 _ (by omega) (by omega)])
    · rw [show (A 0 + 1).toNat = (A 0).toNat + 1 by omega, smI_last, show (0 : Int) + ((A 0).toNat : Int) = A 0 by omega, e6, Int.add_zero, x4.2.2.1]
      exact smI_congr _ _ (fun d d1 d2 => by rw [h1 _ (by omega) (by omega)])
    · rw [x4.2.2.2.2]; exact smI_congr _ _ (fun d d1 d2 => by rw [h1 _ (by omega) (by omega), h1 _ (by omega) (by omega)])
  · rw [h1 _ (by omega) (by omega), h1 _ (by omega) (by omega), h1 _ (by omega) (by omega)]; exact x5 p p1 p2
  · rw [h1 _ (by omega) (by omega), h1 _ (by omega) (by omega)]; exact x6 k k1 k2
theorem wx_op (H : WfX A) (hs : 0 ≤ s ∧ s < A 0) (hv : 0 ≤ v ∧ v ≤ w ∧ w ≤ 12) : WfX (fuI (fuI A (30 + 7 * s + 4) v) (30 + 7 * s + 5) w) := by
  obtain ⟨x0, x1, x2, x3, x4, x5, x6⟩ := H
  have h1 : ∀ j, j ≠ 30 + 7 * s + 4 → j ≠ 30 + 7 * s + 5 → fuI (fuI A (30 + 7 * s + 4) v) (30 + 7 * s + 5) w j = A j := fun j j1 j2 => by rw [fu_ne j2, fu_ne j1]
  have e5 : fuI (fuI A (30 + 7 * s + 4) v) (30 + 7 * s + 5) w (30 + 7 * s + 5) = w := fu_eq
  have e4 : fuI (fuI A (30 + 7 * s + 4) v) (30 + 7 * s + 5) w (30 + 7 * s + 4) = v := by rw [fu_ne (by omega), fu_eq]
  refine ⟨?_, fun s' s1 s2 => ?_, fun d d1 d2 => ?_, fun d d1 d2 => ?_, ?_, fun p p1 p2 => ?_, fun k k1 k2 => ?_⟩
  · rw [h1 0 (by omega) (by omega), h1 1 (by omega) (by omega), h1 5 (by omega) (by omega), h1 6 (by omega) (by omega)]; exact x0
  · rw [h1 0 (by omega) (by omega)] at s2
    obtain ⟨y1, y2, y3, y4, y5, y6⟩ := x1 s' s1 s2
    rw [h1 (30 + 7 * s') (by omega) (by omega), h1 (30 + 7 * s' + 1) (by omega) (by omega), h1 (30 + 7 * s' + 2) (by omega) (by omega), h1 (30 + 7 * s' + 3) (by omega) (by omega), h1 (30 + 7 * s' + 6) (by omega) (by omega)]
    refine ⟨y1, y2, y3, y4, ?_, y6⟩
    by_cases c : s' = s
    · rw [c, e4, e5]; exact hv
    · rw [h1 _ (by omega) (by omega), h1 _ (by omega) (by omega)]; exact y5
  · rw [h1 1 (by omega) (by omega)] at d2
    rw [h1 _ (by omega) (by omega), h1 _ (by omega) (by omega), h1 _ (by omega) (by omega), h1 _ (by omega) (by omega)]
    exact x2 d d1 d2
  · rw [h1 1 (by omega) (by omega)] at d1
    rw [h1 _ (by omega) (by omega)]
    exact x3 d d1 d2
  · rw [h1 0 (by omega) (by omega), h1 1 (by omega) (by omega), h1 2 (by omega) (by omega), h1 3 (by omega) (by omega), h1 7 (by omega) (by omega)]
    refine ⟨?_, x4.2.1, ?_, x4.2.2.2.1, ?_⟩
    · rw [x4.1]; exact smI_congr _ _ (fun d d1 d2 => by rw [h1 _ (by omega) (by omega)])
    · rw [x4.2.2.1]; exact smI_congr _ _ (fun d d1 d2 => by rw [h1 _ (by omega) (by omega)])
    · rw [x4.2.2.2.2]; exact smI_congr _ _ (fun d d1 d2 => by rw [h1 _ (by omega) (by omega), h1 _ (by omega) (by omega)])
  · rw [h1 _ (by omega) (by omega), h1 _ (by omega) (by omega), h1 _ (by omega) (by omega)]; exact x5 p p1 p2
  · rw [h1 _ (by omega) (by omega), h1 _ (by omega) (by omega)]; exact x6 k k1 k2
theorem wx_tr (H : WfX A) (hs : 0 ≤ s ∧ s < A 0) (h5 : A 3 < 5) (hn : A (30 + 7 * s + 6) ≠ 1) : WfX (fuI (fuI A (30 + 7 * s + 6) 1) 3 (A 3 + 1)) := by
  obtain ⟨x0, x1, x2, x3, x4, x5, x6⟩ := H
  have h1 : ∀ j, j ≠ 30 + 7 * s + 6 → j ≠ 3 → fuI (fuI A (30 + 7 * s + 6) 1) 3 (A 3 + 1) j = A j := fun j j1 j2 => by rw [fu_ne j2, fu_ne j1]
  have e3 : fuI (fuI A (30 + 7 * s + 6) 1) 3 (A 3 + 1) 3 = A 3 + 1 := fu_eq
  have e6 : fuI (fuI A (30 + 7 * s + 6) 1) 3 (A 3 + 1) (30 + 7 * s + 6) = 1 := by rw [fu_ne (by omega), fu_eq]
  refine ⟨?_, fun s' s1 s2 => ?_, fun d d1 d2 => ?_, fun d d1 d2 => ?_, ?_, fun p p1 p2 => ?_, fun k k1 k2 => ?_⟩
  · rw [h1 0 (by omega) (by omega), h1 1 (by omega) (by omega), h1 5 (by omega) (by omega), h1 6 (by omega) (by omega)]; exact x0
  · rw [h1 0 (by omega) (by omega)] at s2
    obtain ⟨y1, y2, y3, y4, y5, y6⟩ := x1 s' s1 s2
    rw [h1 (30 + 7 * s') (by omega) (by omega), h1 (30 + 7 * s' + 1) (by omega) (by omega), h1 (30 + 7 * s' + 2) (by omega) (by omega), h1 (30 + 7 * s' + 3) (by omega) (by omega), h1 (30 + 7 * s' + 4) (by omega) (by omega), h1 (30 + 7 * s' + 5) (by omega) (by omega)]
    refine ⟨y1, y2, y3, y4, y5, ?_⟩
    by_cases c : s' = s
    · rw [c, e6]; exact .inr rfl
    · rw [h1 _ (by omega) (by omega)]; exact y6
  · rw [h1 1 (by omega) (by omega)] at d2
    rw [h1 _ (by omega) (by omega), h1 _ (by omega) (by omega), h1 _ (by omega) (by omega), h1 _ (by omega) (by omega)]
    exact x2 d d1 d2
  · rw [h1 1 (by omega) (by omega)] at d1
    rw [h1 _ (by omega) (by omega)]
    exact x3 d d1 d2
  · rw [h1 0 (by omega) (by omega), h1 1 (by omega) (by omega), h1 2 (by omega) (by omega), e3, h1 7 (by omega) (by omega)]
    have y6 := (x1 s hs.1 hs.2).2.2.2.2.2
    refine ⟨?_, x4.2.1, ?_, by omega, ?_⟩
    · rw [x4.1]; exact smI_congr _ _ (fun d d1 d2 => by rw [h1 _ (by omega) (by omega)])
    · rw [smI_pt (f := fun s => A (30 + 7 * s + 6)) (g := fun s' => fuI (fuI A (30 + 7 * s + 6) 1) 3 (A 3 + 1) (30 + 7 * s' + 6)) (A 0).toNat 0 s 1 hs.1 (by omega) (fun j hj => h1 _ (by omega) (by omega)) (by show fuI (fuI A (30 + 7 * s + 6) 1) 3 (A 3 + 1) (30 + 7 * s + 6) = A (30 + 7 * s + 6) + 1; rw [e6]; omega)]
      have := x4.2.2.1
      omega
    · rw [x4.2.2.2.2]; exact smI_congr _ _ (fun d d1 d2 => by rw [h1 _ (by omega) (by omega), h1 _ (by omega) (by omega)])
  · rw [h1 _ (by omega) (by omega), h1 _ (by omega) (by omega), h1 _ (by omega) (by omega)]; exact x5 p p1 p2
  · rw [h1 _ (by omega) (by omega), h1 _ (by omega) (by omega)]; exact x6 k k1 k2
theorem do_at (h0 : 0 ≤ A 1) : doA A a m v 1 = A 1 + 1 ∧ doA A a m v 2 = A 2 + v ∧ (doA A a m v (150 + 4 * A 1) = a ∧ doA A a m v (150 + 4 * A 1 + 1) = m ∧ doA A a m v (150 + 4 * A 1 + 2) = v) ∧ ∀ j, j ≠ 1 → j ≠ 2 → (j < 150 + 4 * A 1 ∨ 150 + 4 * A 1 + 2 < j) → doA A a m v j = A j := by
  unfold doA
  refine ⟨fu_eq, ?_, ⟨?_, ?_, ?_⟩, fun j h1 h2 h3 => ?_⟩
  · rw [fu_ne (by omega), fu_eq]
  · rw [fu_ne (by omega), fu_ne (by omega), fu_ne (by omega), fu_ne (by omega), fu_eq]
  · rw [fu_ne (by omega), fu_ne (by omega), fu_ne (by omega), fu_eq]
  · rw [fu_ne (by omega), fu_ne (by omega), fu_eq]
  · rw [fu_ne (by omega), fu_ne (by omega), fu_ne (by omega), fu_ne (by omega), fu_ne (by omega)]
theorem wx_do (H : WfX A) (hs : A 1 < 6) (ha : 0 ≤ a ∧ a ≤ 7) (hm : 0 ≤ m ∧ m ≤ 12) (hv : 1 ≤ v ∧ v ≤ 30) (h99 : A 2 + v ≤ 99) : WfX (doA A a m v) := by
  obtain ⟨x0, x1, x2, x3, x4, x5, x6⟩ := H
  obtain ⟨e1, e2, ⟨ea, em, ev⟩, h1⟩ := do_at (A := A) (a := a) (m := m) (v := v) (by omega)
  have f0 : doA A a m v 0 = A 0 := h1 0 (by omega) (by omega) (by omega)
  have z := x3 (A 1) (by omega) hs
  refine ⟨?_, fun s s1 s2 => ?_, fun d d1 d2 => ?_, fun d d1 d2 => ?_, ?_, fun p p1 p2 => ?_, fun k k1 k2 => ?_⟩
  · rw [f0, e1, h1 5 (by omega) (by omega) (by omega), h1 6 (by omega) (by omega) (by omega)]; omega
  · rw [f0] at s2
    rw [h1 _ (by omega) (by omega) (by omega), h1 _ (by omega) (by omega) (by omega), h1 _ (by omega) (by omega) (by omega), h1 _ (by omega) (by omega) (by omega), h1 _ (by omega) (by omega) (by omega), h1 _ (by omega) (by omega) (by omega), h1 _ (by omega) (by omega) (by omega)]
    exact x1 s s1 s2
  · rw [e1] at d2
    by_cases c : d = A 1
    · rw [c, ea, em, ev, h1 _ (by omega) (by omega) (by omega)]
      exact ⟨ha, hm, hv, .inl z⟩
    · rw [h1 _ (by omega) (by omega) (by omega), h1 _ (by omega) (by omega) (by omega), h1 _ (by omega) (by omega) (by omega), h1 _ (by omega) (by omega) (by omega)]
      exact x2 d d1 (by omega)
  · rw [e1] at d1
    rw [h1 _ (by omega) (by omega) (by omega)]
    exact x3 d (by omega) d2
  · rw [f0, e1, e2, h1 3 (by omega) (by omega) (by omega), h1 7 (by omega) (by omega) (by omega)]
    refine ⟨?_, by omega, ?_, x4.2.2.2.1, ?_⟩
    · rw [show (A 1 + 1).toNat = (A 1).toNat + 1 by omega, smI_last, show (0 : Int) + ((A 1).toNat : Int) = A 1 by omega, ev, x4.1]
      congr 1
      exact smI_congr _ _ (fun d d1 d2 => by rw [h1 _ (by omega) (by omega) (by omega)])
    · rw [x4.2.2.1]; exact smI_congr _ _ (fun d d1 d2 => by rw [h1 _ (by omega) (by omega) (by omega)])
    · rw [show (A 1 + 1).toNat = (A 1).toNat + 1 by omega, smI_last, show (0 : Int) + ((A 1).toNat : Int) = A 1 by omega, h1 (150 + 4 * A 1 + 3) (by omega) (by omega) (by omega), z, if_neg (by decide), Int.add_zero, x4.2.2.2.2]
      exact smI_congr _ _ (fun d d1 d2 => by rw [h1 _ (by omega) (by omega) (by omega), h1 _ (by omega) (by omega) (by omega)])
  · rw [h1 _ (by omega) (by omega) (by omega), h1 _ (by omega) (by omega) (by omega), h1 _ (by omega) (by omega) (by omega)]; exact x5 p p1 p2
  · rw [h1 _ (by omega) (by omega) (by omega), h1 _ (by omega) (by omega) (by omega)]; exact x6 k k1 k2
theorem wx_sl (H : WfX A) (hs : 0 ≤ s ∧ s < A 1) (hn : A (150 + 4 * s + 3) ≠ 1) : WfX (fuI (fuI A (150 + 4 * s + 3) 1) 7 (A 7 + A (150 + 4 * s + 2))) := by
  obtain ⟨x0, x1, x2, x3, x4, x5, x6⟩ := H
  obtain ⟨A', hA⟩ : ∃ A', A' = fuI (fuI A (150 + 4 * s + 3) 1) 7 (A 7 + A (150 + 4 * s + 2)) := ⟨_, rfl⟩
  rw [← hA]
  have h1 : ∀ j, j ≠ 150 + 4 * s + 3 → j ≠ 7 → A' j = A j := fun j j1 j2 => by rw [hA, fu_ne j2, fu_ne j1]
  have e7 : A' 7 = A 7 + A (150 + 4 * s + 2) := by rw [hA, fu_eq]
  have e3 : A' (150 + 4 * s + 3) = 1 := by rw [hA, fu_ne (by omega), fu_eq]
  clear hA
  refine ⟨?_, fun s' s1 s2 => ?_, fun d d1 d2 => ?_, fun d d1 d2 => ?_, ?_, fun p p1 p2 => ?_, fun k k1 k2 => ?_⟩
  · rw [h1 0 (by omega) (by omega), h1 1 (by omega) (by omega), h1 5 (by omega) (by omega), h1 6 (by omega) (by omega)]; exact x0
  · rw [h1 0 (by omega) (by omega)] at s2
    rw [h1 _ (by omega) (by omega), h1 _ (by omega) (by omega), h1 _ (by omega) (by omega), h1 _ (by omega) (by omega), h1 _ (by omega) (by omega), h1 _ (by omega) (by omega), h1 _ (by omega) (by omega)]
    exact x1 s' s1 s2
  · rw [h1 1 (by omega) (by omega)] at d2
    obtain ⟨y1, y2, y3, y4⟩ := x2 d d1 d2
    rw [h1 (150 + 4 * d) (by omega) (by omega), h1 (150 + 4 * d + 1) (by omega) (by omega), h1 (150 + 4 * d + 2) (by omega) (by omega)]
    refine ⟨y1, y2, y3, ?_⟩
    by_cases c : d = s
    · rw [c, e3]; exact .inr rfl
    · rw [h1 _ (by omega) (by omega)]; exact y4
  · rw [h1 1 (by omega) (by omega)] at d1
    rw [h1 _ (by omega) (by omega)]
    exact x3 d d1 d2
  · rw [h1 0 (by omega) (by omega), h1 1 (by omega) (by omega), h1 2 (by omega) (by omega), h1 3 (by omega) (by omega), e7]
    refine ⟨?_, x4.2.1, ?_, x4.2.2.2.1, ?_⟩
    · rw [x4.1]; exact smI_congr _ _ (fun d d1 d2 => by rw [h1 _ (by omega) (by omega)])
    · rw [x4.2.2.1]; exact smI_congr _ _ (fun d d1 d2 => by rw [h1 _ (by omega) (by omega)])
    · rw [smI_pt (f := fun d => if A (150 + 4 * d + 3) = 1 then A (150 + 4 * d + 2) else 0) (g := fun d => if A' (150 + 4 * d + 3) = 1 then A' (150 + 4 * d + 2) else 0) (A 1).toNat 0 s (A (150 + 4 * s + 2)) hs.1 (by omega) (fun j hj => by
        show (if A' (150 + 4 * j + 3) = 1 then A' (150 + 4 * j + 2) else 0) = (if A (150 + 4 * j + 3) = 1 then A (150 + 4 * j + 2) else 0)
        rw [h1 (150 + 4 * j + 3) (by omega) (by omega), h1 (150 + 4 * j + 2) (by omega) (by omega)]) (by
        show (if A' (150 + 4 * s + 3) = 1 then A' (150 + 4 * s + 2) else 0) = (if A (150 + 4 * s + 3) = 1 then A (150 + 4 * s + 2) else 0) + A (150 + 4 * s + 2)
        rw [e3, if_pos rfl, h1 (150 + 4 * s + 2) (by omega) (by omega), if_neg hn, Int.zero_add])]
      have := x4.2.2.2.2
      omega
  · rw [h1 _ (by omega) (by omega), h1 _ (by omega) (by omega), h1 _ (by omega) (by omega)]; exact x5 p p1 p2
  · rw [h1 _ (by omega) (by omega), h1 _ (by omega) (by omega)]; exact x6 k k1 k2
theorem nm_0 {lo hi : Int} (h : ¬ nmF t n p lo hi ≠ 0) : tkK t n p = 2 ∧ lo ≤ tkV t n p ∧ tkV t n p ≤ hi := by
  unfold nmF at h
  split at h
  · rename_i c
    split at h
    · rename_i c2; exact ⟨c, c2⟩
    · omega
  · omega
theorem tk_le (hp : p ≤ n) : tkE t n p ≤ n ∧ p ≤ tkE t n p := by
  have := tk_b (t := t) hp
  omega
/-- a clause that is taken -/
theorem wx_cl (H : WfX A) (hp : p ≤ n) (hR : clF t n A h o p = (0, q, A', h', o')) : WfX A' ∧ A' 4 = A 4 + 1 ∧ p + 1 ≤ q ∧ q ≤ n := by
  have hE : ∀ {R : paR}, enX t n R = (0, q, A', h', o') → R.1 = 0 ∧ tkK t n R.2.1 = 3 ∧ q = tkE t n R.2.1 ∧ A' = fuI R.2.2.1 4 (R.2.2.1 4 + 1) := by
    intro R hR
    unfold enX at hR
    by_cases c1 : R.1 = 0
    · rw [if_pos c1] at hR
      by_cases c2 : tkK t n R.2.1 = 3
      · rw [if_pos c2] at hR
        simp only [Prod.mk.injEq] at hR
        exact ⟨c1, c2, hR.2.1.symm, hR.2.2.1.symm⟩
      · rw [if_neg c2] at hR
        simp only [bdF, Prod.mk.injEq] at hR
        omega
    · rw [if_neg c1] at hR
      exact absurd (by rw [hR]) c1
  -- the tail's end
  have fin : ∀ {R : paR}, enX t n R = (0, q, A', h', o') → (R.1 = 0 → (WfX R.2.2.1 ∧ R.2.2.1 4 = A 4) ∧ p ≤ R.2.1 ∧ R.2.1 ≤ n) → WfX A' ∧ A' 4 = A 4 + 1 ∧ p + 1 ≤ q ∧ q ≤ n := by
    intro R h1 h2
    obtain ⟨e1, e2, e3, e4⟩ := hE h1
    obtain ⟨⟨k1, k2⟩, k3, k4⟩ := h2 e1
    have b := tk_b (t := t) k4
    have b2 := b.2.2.2 (by omega)
    rw [e4, e3]
    exact ⟨wx_4 k1, by rw [fu_eq, k2], by omega, by omega⟩
  have bad : ∀ {f p' : Int}, f ≠ 0 → ¬ (bdF t n f p' A h o = (0, q, A', h', o')) := fun hf z => by
    simp only [bdF, Prod.mk.injEq] at z
    exact hf z.1
  have bd1 : ∀ {f p' : Int}, f ≠ 0 → (bdF t n f p' A h o).1 = 0 → (WfX (bdF t n f p' A h o).2.2.1 ∧ (bdF t n f p' A h o).2.2.1 4 = A 4) ∧ p ≤ (bdF t n f p' A h o).2.1 ∧ (bdF t n f p' A h o).2.1 ≤ n := fun hf z => absurd z hf
  have p1 := tk_le (t := t) hp
  have p2 := tk_le (t := t) p1.1
  have p3 := tk_le (t := t) p2.1
  have p4 := tk_le (t := t) p3.1
  have p5 := tk_le (t := t) p4.1
  have x0 := H.1
  unfold clF at hR
  by_cases w0 : isW t n p 0 = true
  · rw [if_pos w0] at hR
    refine fin hR (fun z => ?_)
    unfold hoF at z ⊢
    by_cases c1 : plF t n (tkE t n p) < 0
    · rw [if_pos c1] at z; exact absurd z (show ¬ (1 : Int) = 0 by decide)
    · rw [if_neg c1] at z ⊢
      by_cases c2 : iand (ishr h (plF t n (tkE t n p))) 1 = 1
      · rw [if_pos c2] at z; exact absurd z (show ¬ (3 : Int) = 0 by decide)
      · rw [if_neg c2] at z ⊢
        by_cases c3 : nmF t n (tkE t n (tkE t n p)) 0 99 ≠ 0
        · rw [if_pos c3] at z; exact absurd z c3
        · rw [if_neg c3]
          have := nm_0 c3
          have := pl_rg (t := t) (n := n) (p := tkE t n p) (by omega)
          exact ⟨⟨wx_pl (i := 10 + plF t n (tkE t n p)) H (fun j hj => fu_ne hj) (by omega) (by dsimp only; rw [fu_eq]; omega), fu_ne (by omega)⟩, by show p ≤ tkE t n (tkE t n (tkE t n p)); omega, by show tkE t n (tkE t n (tkE t n p)) ≤ n; omega⟩
  rw [if_neg w0] at hR
  by_cases w1 : isW t n p 1 = true
  · rw [if_pos w1] at hR
    by_cases c0 : 16 ≤ A 0
    · rw [if_pos c0] at hR; exact absurd hR (bad (by decide))
    rw [if_neg c0] at hR
    refine fin hR (fun z => ?_)
    unfold stF at z ⊢
    by_cases c1 : plF t n (tkE t n p) < 0
    · rw [if_pos c1] at z; exact absurd z (show ¬ (1 : Int) = 0 by decide)
    rw [if_neg c1] at z ⊢
    by_cases c2 : plF t n (tkE t n (tkE t n p)) < 0
    · rw [if_pos c2] at z; exact absurd z (show ¬ (1 : Int) = 0 by decide)
    rw [if_neg c2] at z ⊢
    by_cases c3 : plF t n (tkE t n p) = plF t n (tkE t n (tkE t n p))
    · rw [if_pos c3] at z; exact absurd z (show ¬ (3 : Int) = 0 by decide)
    rw [if_neg c3] at z ⊢
    by_cases c4 : nmF t n (tkE t n (tkE t n (tkE t n p))) 1 5 ≠ 0
    · rw [if_pos c4] at z; exact absurd z c4
    rw [if_neg c4] at z ⊢
    by_cases c5 : nmF t n (tkE t n (tkE t n (tkE t n (tkE t n p)))) 1 9 ≠ 0
    · rw [if_pos c5] at z; exact absurd z c5
    rw [if_neg c5]
    have := nm_0 c4
    have := nm_0 c5
    have := pl_rg (t := t) (n := n) (p := tkE t n p) (by omega)
    have := pl_rg (t := t) (n := n) (p := tkE t n (tkE t n p)) (by omega)
    exact ⟨⟨wx_st H (by omega) (by omega) (by omega) (by omega) (by omega), st_at.2.2 4 (by decide) (by omega)⟩, by show p ≤ tkE t n (tkE t n (tkE t n (tkE t n (tkE t n p)))); omega, by show tkE t n (tkE t n (tkE t n (tkE t n (tkE t n p)))) ≤ n; omega⟩
  rw [if_neg w1] at hR
  by_cases w2 : isW t n p 2 = true
  · rw [if_pos w2] at hR
    refine fin hR (fun z => ?_)
    unfold opF at z ⊢
    by_cases c1 : nmF t n (tkE t n p) 0 (A 0 - 1) ≠ 0
    · rw [if_pos c1] at z; exact absurd z c1
    rw [if_neg c1] at z ⊢
    by_cases c2 : iand (ishr o (tkV t n (tkE t n p))) 1 = 1
    · rw [if_pos c2] at z; exact absurd z (show ¬ (3 : Int) = 0 by decide)
    rw [if_neg c2] at z ⊢
    by_cases c3 : nmF t n (tkE t n (tkE t n p)) 0 12 ≠ 0
    · rw [if_pos c3] at z; exact absurd z c3
    rw [if_neg c3] at z ⊢
    by_cases c4 : nmF t n (tkE t n (tkE t n (tkE t n p))) (tkV t n (tkE t n (tkE t n p))) 12 ≠ 0
    · rw [if_pos c4] at z; exact absurd z c4
    rw [if_neg c4]
    have := nm_0 c1
    have := nm_0 c3
    have := nm_0 c4
    exact ⟨⟨wx_op H (by omega) (by omega), by dsimp only; rw [fu_ne (by omega), fu_ne (by omega)]⟩, by show p ≤ tkE t n (tkE t n (tkE t n (tkE t n p))); omega, by show tkE t n (tkE t n (tkE t n (tkE t n p))) ≤ n; omega⟩
  rw [if_neg w2] at hR
  by_cases w3 : isW t n p 3 = true
  · rw [if_pos w3] at hR
    by_cases c0 : 5 ≤ A 3
    · rw [if_pos c0] at hR; exact absurd hR (bad (by decide))
    rw [if_neg c0] at hR
    refine fin hR (fun z => ?_)
    unfold trF at z ⊢
    by_cases c1 : nmF t n (tkE t n p) 0 (A 0 - 1) ≠ 0
    · rw [if_pos c1] at z; exact absurd z c1
    rw [if_neg c1] at z ⊢
    by_cases c2 : A (30 + 7 * tkV t n (tkE t n p) + 6) = 1
    · rw [if_pos c2] at z; exact absurd z (show ¬ (3 : Int) = 0 by decide)
    rw [if_neg c2]
    have := nm_0 c1
    exact ⟨⟨wx_tr H (by omega) (by omega) c2, by dsimp only; rw [fu_ne (by omega), fu_ne (by omega)]⟩, by show p ≤ tkE t n (tkE t n p); omega, by show tkE t n (tkE t n p) ≤ n; omega⟩
  rw [if_neg w3] at hR
  by_cases w4 : isW t n p 4 = true
  · rw [if_pos w4] at hR
    by_cases c0 : 6 ≤ A 1
    · rw [if_pos c0] at hR; exact absurd hR (bad (by decide))
    rw [if_neg c0] at hR
    refine fin hR (fun z => ?_)
    unfold doF at z ⊢
    by_cases c1 : plF t n (tkE t n p) < 0
    · rw [if_pos c1] at z; exact absurd z (show ¬ (1 : Int) = 0 by decide)
    rw [if_neg c1] at z ⊢
    by_cases c3 : nmF t n (tkE t n (tkE t n p)) 0 12 ≠ 0
    · rw [if_pos c3] at z; exact absurd z c3
    rw [if_neg c3] at z ⊢
    by_cases c4 : nmF t n (tkE t n (tkE t n (tkE t n p))) 1 30 ≠ 0
    · rw [if_pos c4] at z; exact absurd z c4
    rw [if_neg c4] at z ⊢
    by_cases c5 : 99 < A 2 + tkV t n (tkE t n (tkE t n (tkE t n p)))
    · rw [if_pos c5] at z; exact absurd z (show ¬ (4 : Int) = 0 by decide)
    rw [if_neg c5]
    have := nm_0 c3
    have := nm_0 c4
    have := pl_rg (t := t) (n := n) (p := tkE t n p) (by omega)
    exact ⟨⟨wx_do H (by omega) (by omega) (by omega) (by omega) (by omega), (do_at x0.2.2.1).2.2.2 4 (by decide) (by decide) (by omega)⟩, by show p ≤ tkE t n (tkE t n (tkE t n (tkE t n p))); omega, by show tkE t n (tkE t n (tkE t n (tkE t n p))) ≤ n; omega⟩
  rw [if_neg w4] at hR
  by_cases w5 : isW t n p 5 = true
  · rw [if_pos w5] at hR
    refine fin hR (fun z => ?_)
    unfold saF at z ⊢
    by_cases c1 : plF t n (tkE t n p) < 0
    · rw [if_pos c1] at z; exact absurd z (show ¬ (1 : Int) = 0 by decide)
    rw [if_neg c1] at z ⊢
    by_cases c2 : 0 < A (18 + plF t n (tkE t n p))
    · rw [if_pos c2] at z; exact absurd z (show ¬ (3 : Int) = 0 by decide)
    rw [if_neg c2] at z ⊢
    by_cases c3 : nmF t n (tkE t n (tkE t n p)) 1 99 ≠ 0
    · rw [if_pos c3] at z; exact absurd z c3
    rw [if_neg c3]
    have := nm_0 c3
    have := pl_rg (t := t) (n := n) (p := tkE t n p) (by omega)
    exact ⟨⟨wx_pl (i := 18 + plF t n (tkE t n p)) H (fun j hj => fu_ne hj) (by omega) (by dsimp only; rw [fu_eq]; omega), fu_ne (by omega)⟩, by show p ≤ tkE t n (tkE t n (tkE t n p)); omega, by show tkE t n (tkE t n (tkE t n p)) ≤ n; omega⟩
  rw [if_neg w5] at hR
  by_cases w6 : isW t n p 6 = true
  · rw [if_pos w6] at hR
    refine fin hR (fun z => ?_)
    unfold slF at z ⊢
    by_cases c1 : nmF t n (tkE t n p) 0 (A 1 - 1) ≠ 0
    · rw [if_pos c1] at z; exact absurd z c1
    rw [if_neg c1] at z ⊢
    by_cases c2 : A (150 + 4 * tkV t n (tkE t n p) + 3) = 1
    · rw [if_pos c2] at z; exact absurd z (show ¬ (3 : Int) = 0 by decide)
    rw [if_neg c2]
    have := nm_0 c1
    exact ⟨⟨wx_sl H (by omega) c2, by dsimp only; rw [fu_ne (by omega), fu_ne (by omega)]⟩, by show p ≤ tkE t n (tkE t n p); omega, by show tkE t n (tkE t n p) ≤ n; omega⟩
  rw [if_neg w6] at hR
  exact absurd hR (bad (by decide))
end M98r
