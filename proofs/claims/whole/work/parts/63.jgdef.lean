/-! the way told, judged: what it is -/
/-- people at places, slow ones there, what safe places take, who are behind doors, who are out, slow ones out -/
abbrev jgT : Type := (Int → Int) × (Int → Int) × (Int → Int) × (Int → Int) × Int × Int
def jgE (A T : Int → Int) (told k p : Int) : Int := smI (fun s => if frM T s = p then A (told + 13 * s + k) else 0) 0 (T 0).toNat
def jgA (A T : Int → Int) (told lag k p : Int) : Int := smI (fun s => if toM T s = p ∧ 0 ≤ k - T (30 + 7 * s + 2) - lag then A (told + 13 * s + (k - T (30 + 7 * s + 2) - lag)) else 0) 0 (T 0).toNat
/-- of a kind k, out of doors at p -/
def jgC (T : Int → Int) (p t k : Int) : Nat → Int → Int → (Int → Int) → Int × (Int → Int)
  | 0, _, n, b => (n, b)
  | r + 1, d, n, b => if T (150 + 4 * d) = p ∧ T (150 + 4 * d + 1) ≤ t ∧ T (150 + 4 * d + 3) = k then jgC T p t k r (d + 1) (n - min n (b d)) (fun j => if j = d then b d - min n (b d) else b j) else jgC T p t k r (d + 1) n b
def jgG (T : Int → Int) (p t : Int) : Nat → Int → Int → (Int → Int) → Int → Int → Int × (Int → Int) × Int × Int
  | 0, _, z, b, o, u => (z, b, o, u)
  | r + 1, d, z, b, o, u => if T (150 + 4 * d) = p ∧ T (150 + 4 * d + 1) ≤ t then jgG T p t r (d + 1) (z - min (b d) z) (fun j => if j = d then b d - min (b d) z else b j) (o + min (b d) z) (u + if T (150 + 4 * d + 3) = 1 then min (b d) z else 0) else jgG T p t r (d + 1) z b o u
def jc1 (A T : Int → Int) (k p : Int) (J : jgT) : Int × (Int → Int) := jgC T p k 0 (T 1).toNat 0 (max 0 (jgE A T 220 k p - (J.1 p + jgA A T 220 0 k p))) J.2.2.2.1
def jc2 (A T : Int → Int) (k p : Int) (J : jgT) : Int × (Int → Int) := jgC T p k 1 (T 1).toNat 0 (max 0 (jgE A T 430 k p - (J.2.1 p + jgA A T 430 1 k p))) (jc1 A T k p J).2
def jt1 (A T : Int → Int) (k p : Int) (J : jgT) : Int := max 0 (J.1 p + jgA A T 220 0 k p - jgE A T 220 k p)
def jt2 (A T : Int → Int) (k p : Int) (J : jgT) : Int := max 0 (J.2.1 p + jgA A T 430 1 k p - jgE A T 430 k p)
def jn1 (A T : Int → Int) (k p : Int) (J : jgT) : Int := min (jt1 A T k p J) (J.2.2.1 p)
def jn2 (A T : Int → Int) (k p : Int) (J : jgT) : Int := min (jt2 A T k p J) (J.2.2.1 p - jn1 A T k p J)
def jgg (A T : Int → Int) (k p : Int) (J : jgT) : Int × (Int → Int) × Int × Int := jgG T p k (T 1).toNat 0 (J.2.2.1 p - jn1 A T k p J - jn2 A T k p J) (jc2 A T k p J).2 (J.2.2.2.2.1 + jn1 A T k p J + jn2 A T k p J) (J.2.2.2.2.2 + jn2 A T k p J)
def jgJ (A T : Int → Int) (k p : Int) (J : jgT) : jgT := (fun q => if q = p then jt1 A T k p J - jn1 A T k p J else J.1 q, fun q => if q = p then jt2 A T k p J - jn2 A T k p J else J.2.1 q, fun q => if q = p then (jgg A T k p J).1 else J.2.2.1 q, (jgg A T k p J).2.1, (jgg A T k p J).2.2.1, (jgg A T k p J).2.2.2)
def jgR (A T : Int → Int) (k p : Int) (J : jgT) : Int := if 0 < (jc1 A T k p J).1 ∨ 0 < (jc2 A T k p J).1 then 2 else if T (10 + p) < (jt1 A T k p J - jn1 A T k p J) + (jt2 A T k p J - jn2 A T k p J) then 3 else 0
/-- places from p on: the first bar and where, and what is behind -/
def jgP (A T : Int → Int) (k : Int) : Nat → Int → jgT → (Int × Int) × jgT
  | 0, _, J => ((0, -1), J)
  | n + 1, p, J => if jgR A T k p J = 0 then jgP A T k n (p + 1) (jgJ A T k p J) else ((jgR A T k p J, p), J)
/-- the first street that is barred at minute k -/
def jbS (A T : Int → Int) (k : Int) : Int := fsI (fun s => (0 < A (220 + 13 * s + k) + A (430 + 13 * s + k) ∧ ¬ (T (30 + 7 * s + 4) ≤ k ∧ k ≤ T (30 + 7 * s + 5))) ∨ T (30 + 7 * s + 3) < A (220 + 13 * s + k) + 2 * A (430 + 13 * s + k)) 0 (T 0).toNat
def jgI (T : Int → Int) : jgT := (fun _ => 0, fun _ => 0, fun p => T (18 + p), fun d => T (150 + 4 * d + 2), 0, 0)
def jgN (A T : Int → Int) : Nat → jgT
  | 0 => jgI T
  | k + 1 => (jgP A T k 8 0 (jgN A T k)).2
/-- minutes from k on: bar, minute, place or street -/
def jgM (A T : Int → Int) : Nat → Nat → Int × Int × Int
  | 0, _ => (0, -1, -1)
  | n + 1, k => if jbS A T k = -1 then (if (jgP A T k 8 0 (jgN A T k)).1.1 = 0 then jgM A T n (k + 1) else ((jgP A T k 8 0 (jgN A T k)).1.1, (k : Int), (jgP A T k 8 0 (jgN A T k)).1.2)) else (1, (k : Int), jbS A T k)
def jgB (T : Int → Int) (M : Int) (J : jgT) : Prop := (∀ p, 0 ≤ p → p < 8 → (0 ≤ J.1 p ∧ J.1 p ≤ M) ∧ (0 ≤ J.2.1 p ∧ J.2.1 p ≤ M) ∧ (0 ≤ J.2.2.1 p ∧ J.2.2.1 p ≤ 99)) ∧ (∀ d, 0 ≤ d → d < T 1 → 0 ≤ J.2.2.2.1 d ∧ J.2.2.2.1 d ≤ 30) ∧ (0 ≤ J.2.2.2.2.1 ∧ J.2.2.2.2.1 ≤ M) ∧ (0 ≤ J.2.2.2.2.2 ∧ J.2.2.2.2.2 ≤ M)
/-- the cells of the way told -/
def jgW (A T : Int → Int) : Prop := ∀ s t, 0 ≤ s → s < T 0 → 0 ≤ t → t ≤ 12 → (0 ≤ A (220 + 13 * s + t) ∧ A (220 + 13 * s + t) ≤ 30) ∧ (0 ≤ A (430 + 13 * s + t) ∧ A (430 + 13 * s + t) ≤ 30)
section M63
variable {A T b : Int → Int} {p t k n d z o u q M told lag : Int} {J : jgT}
theorem jgE_bd (hT : tnW T) (hA : jgW A T) (hk : 0 ≤ k ∧ k ≤ 12) (ht : told = 220 ∨ told = 430) : 0 ≤ jgE A T told k p ∧ jgE A T told k p ≤ 480 := by
  have w := hT.1
  have := smI_bd (f := fun s => if frM T s = p then A (told + 13 * s + k) else 0) (B := 30) (T 0).toNat 0 (fun j j1 j2 => by
    have := hA j k j1 (by omega) hk.1 hk.2
    rcases ht with e | e <;> rw [e] <;> split <;> omega)
  unfold jgE
  omega
theorem jgA_bd (hT : tnW T) (hA : jgW A T) (hk : 0 ≤ k ∧ k ≤ 12) (ht : told = 220 ∨ told = 430) (hl : 0 ≤ lag) : 0 ≤ jgA A T told lag k p ∧ jgA A T told lag k p ≤ 480 := by
  have w := hT.1
  have := smI_bd (f := fun s => if toM T s = p ∧ 0 ≤ k - T (30 + 7 * s + 2) - lag then A (told + 13 * s + (k - T (30 + 7 * s + 2) - lag)) else 0) (B := 30) (T 0).toNat 0 (fun j j1 j2 => by
    have l := (hT.2.1 j j1 (by omega)).2.2.1
    by_cases c : toM T j = p ∧ 0 ≤ k - T (30 + 7 * j + 2) - lag
    · rw [if_pos c]
      have := hA j (k - T (30 + 7 * j + 2) - lag) j1 (by omega) (by omega) (by omega)
      rcases ht with e | e <;> rw [e] <;> omega
    · rw [if_neg c]; omega)
  unfold jgA
  omega
theorem jgC_sp : ∀ (r : Nat) (d n : Int) (b : Int → Int), 0 ≤ n → (∀ j, d ≤ j → j < d + r → 0 ≤ b j) → (0 ≤ (jgC T p t k r d n b).1 ∧ (jgC T p t k r d n b).1 ≤ n) ∧ (∀ j, 0 ≤ b j → 0 ≤ (jgC T p t k r d n b).2 j) ∧ (∀ j, (d ≤ j ∧ j < d + r) ∨ (jgC T p t k r d n b).2 j = b j) ∧ (∀ j, 0 ≤ b j → (jgC T p t k r d n b).2 j ≤ b j) := by
  intro r
  induction r with
  | zero => intro d n b hn hb; exact ⟨⟨hn, Int.le_refl _⟩, fun j h => h, fun j => .inr rfl, fun j _ => Int.le_refl _⟩
  | succ r ih =>
    intro d n b hn hb
    simp only [jgC]
    have h0 := hb d (by omega) (by omega)
    by_cases c : T (150 + 4 * d) = p ∧ T (150 + 4 * d + 1) ≤ t ∧ T (150 + 4 * d + 3) = k
    · rw [if_pos c]
      obtain ⟨i1, i2, i3, i4⟩ := ih (d + 1) (n - min n (b d)) (fun j => if j = d then b d - min n (b d) else b j) (by omega) (fun j j1 j2 => by
        show 0 ≤ if j = d then b d - min n (b d) else b j
        rw [if_neg (by omega)]
        exact hb j (by omega) (by omega))
      refine ⟨by omega, fun j hj => i2 j ?_, fun j => ?_, fun j hj => ?_⟩
      · show 0 ≤ if j = d then b d - min n (b d) else b j
        by_cases e : j = d
        · rw [if_pos e]; omega
        · rw [if_neg e]; exact hj
      · by_cases e : j = d
        · left; omega
        · rcases i3 j with q | q
          · left; omega
          · right
            rw [q]
            exact if_neg e
      · have h2 : 0 ≤ (fun j => if j = d then b d - min n (b d) else b j) j ∧ (fun j => if j = d then b d - min n (b d) else b j) j ≤ b j := by
          show 0 ≤ (if j = d then b d - min n (b d) else b j) ∧ (if j = d then b d - min n (b d) else b j) ≤ b j
          by_cases e : j = d
          · rw [if_pos e, e]; omega
          · rw [if_neg e]; omega
        exact Int.le_trans (i4 j h2.1) h2.2
    · rw [if_neg c]
      obtain ⟨i1, i2, i3, i4⟩ := ih (d + 1) n b hn (fun j j1 j2 => hb j (by omega) (by omega))
      refine ⟨i1, i2, fun j => ?_, i4⟩
      rcases i3 j with q | q
      · left; omega
      · exact .inr q
theorem jgC_0 : ∀ (r : Nat) (d : Int) (b : Int → Int), (∀ j, d ≤ j → j < d + r → 0 ≤ b j) → jgC T p t k r d 0 b = (0, b) := by
  intro r
  induction r with
  | zero => intro d b _; rfl
  | succ r ih =>
    intro d b hb
    simp only [jgC]
    have h0 := hb d (by omega) (by omega)
    by_cases c : T (150 + 4 * d) = p ∧ T (150 + 4 * d + 1) ≤ t ∧ T (150 + 4 * d + 3) = k
    · rw [if_pos c]
      have e : (fun j => if j = d then b d - min 0 (b d) else b j) = b := by
        funext j
        by_cases e : j = d
        · rw [if_pos e, e]; omega
        · rw [if_neg e]
      rw [e, show (0 : Int) - min 0 (b d) = 0 by omega]
      exact ih (d + 1) b (fun j j1 j2 => hb j (by omega) (by omega))
    · rw [if_neg c]
      exact ih (d + 1) b (fun j j1 j2 => hb j (by omega) (by omega))
theorem jgG_sp : ∀ (r : Nat) (d z : Int) (b : Int → Int) (o u : Int), 0 ≤ z → (∀ j, d ≤ j → j < d + r → 0 ≤ b j) → (0 ≤ (jgG T p t r d z b o u).1 ∧ (jgG T p t r d z b o u).1 ≤ z) ∧ (∀ j, 0 ≤ b j → 0 ≤ (jgG T p t r d z b o u).2.1 j ∧ (jgG T p t r d z b o u).2.1 j ≤ b j) ∧ (jgG T p t r d z b o u).2.2.1 = o + (z - (jgG T p t r d z b o u).1) ∧ (u ≤ (jgG T p t r d z b o u).2.2.2 ∧ (jgG T p t r d z b o u).2.2.2 ≤ u + (z - (jgG T p t r d z b o u).1)) := by
  intro r
  induction r with
  | zero => intro d z b o u hz hb; exact ⟨⟨hz, Int.le_refl _⟩, fun j h => ⟨h, Int.le_refl _⟩, by simp [jgG], by simp [jgG]⟩
  | succ r ih =>
    intro d z b o u hz hb
    simp only [jgG]
    have h0 := hb d (by omega) (by omega)
    by_cases c : T (150 + 4 * d) = p ∧ T (150 + 4 * d + 1) ≤ t
    · rw [if_pos c]
      obtain ⟨i1, i2, i3, i4⟩ := ih (d + 1) (z - min (b d) z) (fun j => if j = d then b d - min (b d) z else b j) (o + min (b d) z) (u + if T (150 + 4 * d + 3) = 1 then min (b d) z else 0) (by omega) (fun j j1 j2 => by
        show 0 ≤ if j = d then b d - min (b d) z else b j
        rw [if_neg (by omega)]
        exact hb j (by omega) (by omega))
      have hu : 0 ≤ (if T (150 + 4 * d + 3) = 1 then min (b d) z else 0) ∧ (if T (150 + 4 * d + 3) = 1 then min (b d) z else 0) ≤ min (b d) z := by split <;> omega
      refine ⟨by omega, fun j hj => ?_, by omega, by omega⟩
      have h2 : 0 ≤ (fun j => if j = d then b d - min (b d) z else b j) j ∧ (fun j => if j = d then b d - min (b d) z else b j) j ≤ b j := by
        show 0 ≤ (if j = d then b d - min (b d) z else b j) ∧ (if j = d then b d - min (b d) z else b j) ≤ b j
        by_cases e : j = d
        · rw [if_pos e, e]; omega
        · rw [if_neg e]; omega
      have := i2 j h2.1
      exact ⟨this.1, Int.le_trans this.2 h2.2⟩
    · rw [if_neg c]
      exact ih (d + 1) z b o u hz (fun j j1 j2 => hb j (by omega) (by omega))
theorem jg_bd (hT : tnW T) (hA : jgW A T) (hk : 0 ≤ k ∧ k ≤ 12) (hp : 0 ≤ p ∧ p < 8) (hJ : jgB T M J) :
    ((0 ≤ (jc1 A T k p J).1 ∧ (jc1 A T k p J).1 ≤ 480) ∧ ∀ d, 0 ≤ d → d < T 1 → 0 ≤ (jc1 A T k p J).2 d ∧ (jc1 A T k p J).2 d ≤ 30) ∧
    ((0 ≤ (jc2 A T k p J).1 ∧ (jc2 A T k p J).1 ≤ 480) ∧ ∀ d, 0 ≤ d → d < T 1 → 0 ≤ (jc2 A T k p J).2 d ∧ (jc2 A T k p J).2 d ≤ 30) ∧
    (0 ≤ jt1 A T k p J ∧ jt1 A T k p J ≤ M + 480) ∧ (0 ≤ jt2 A T k p J ∧ jt2 A T k p J ≤ M + 480) ∧
    (0 ≤ jn1 A T k p J ∧ jn1 A T k p J ≤ jt1 A T k p J ∧ jn1 A T k p J ≤ J.2.2.1 p) ∧ (0 ≤ jn2 A T k p J ∧ jn2 A T k p J ≤ jt2 A T k p J ∧ jn2 A T k p J ≤ J.2.2.1 p - jn1 A T k p J) := by
  obtain ⟨h1, h2, h3, h4⟩ := hJ
  obtain ⟨a1, a2, a3⟩ := h1 p hp.1 hp.2
  have e1 := jgE_bd (p := p) (told := 220) hT hA hk (.inl rfl)
  have e2 := jgE_bd (p := p) (told := 430) hT hA hk (.inr rfl)
  have f1 := jgA_bd (p := p) (told := 220) (lag := 0) hT hA hk (.inl rfl) (by omega)
  have f2 := jgA_bd (p := p) (told := 430) (lag := 1) hT hA hk (.inr rfl) (by omega)
  have w := hT.1
  have c1 := jgC_sp (T := T) (p := p) (t := k) (k := 0) (T 1).toNat 0 (max 0 (jgE A T 220 k p - (J.1 p + jgA A T 220 0 k p))) J.2.2.2.1 (by omega) (fun j j1 j2 => (h2 j j1 (by omega)).1)
  have g1 : ∀ d, 0 ≤ d → d < T 1 → 0 ≤ (jc1 A T k p J).2 d ∧ (jc1 A T k p J).2 d ≤ 30 := fun d d1 d2 => ⟨c1.2.1 d (h2 d d1 d2).1, Int.le_trans (c1.2.2.2 d (h2 d d1 d2).1) (h2 d d1 d2).2⟩
  have c2 := jgC_sp (T := T) (p := p) (t := k) (k := 1) (T 1).toNat 0 (max 0 (jgE A T 430 k p - (J.2.1 p + jgA A T 430 1 k p))) (jc1 A T k p J).2 (by omega) (fun j j1 j2 => (g1 j j1 (by omega)).1)
  have g2 : ∀ d, 0 ≤ d → d < T 1 → 0 ≤ (jc2 A T k p J).2 d ∧ (jc2 A T k p J).2 d ≤ 30 := fun d d1 d2 => ⟨c2.2.1 d (g1 d d1 d2).1, Int.le_trans (c2.2.2.2 d (g1 d d1 d2).1) (g1 d d1 d2).2⟩
  have c1' : 0 ≤ (jc1 A T k p J).1 ∧ (jc1 A T k p J).1 ≤ max 0 (jgE A T 220 k p - (J.1 p + jgA A T 220 0 k p)) := c1.1
  have c2' : 0 ≤ (jc2 A T k p J).1 ∧ (jc2 A T k p J).1 ≤ max 0 (jgE A T 430 k p - (J.2.1 p + jgA A T 430 1 k p)) := c2.1
  have t1 : 0 ≤ jt1 A T k p J ∧ jt1 A T k p J ≤ M + 480 := by unfold jt1; omega
  have t2 : 0 ≤ jt2 A T k p J ∧ jt2 A T k p J ≤ M + 480 := by unfold jt2; omega
  have n1 : 0 ≤ jn1 A T k p J ∧ jn1 A T k p J ≤ jt1 A T k p J ∧ jn1 A T k p J ≤ J.2.2.1 p := by unfold jn1; omega
  have n2 : 0 ≤ jn2 A T k p J ∧ jn2 A T k p J ≤ jt2 A T k p J ∧ jn2 A T k p J ≤ J.2.2.1 p - jn1 A T k p J := by unfold jn2; omega
  exact ⟨⟨by omega, g1⟩, ⟨by omega, g2⟩, t1, t2, n1, n2⟩
theorem jgg_bd (hT : tnW T) (hA : jgW A T) (hk : 0 ≤ k ∧ k ≤ 12) (hp : 0 ≤ p ∧ p < 8) (hJ : jgB T M J) :
    (0 ≤ (jgg A T k p J).1 ∧ (jgg A T k p J).1 ≤ J.2.2.1 p - jn1 A T k p J - jn2 A T k p J) ∧ (∀ d, 0 ≤ d → d < T 1 → 0 ≤ (jgg A T k p J).2.1 d ∧ (jgg A T k p J).2.1 d ≤ 30) ∧ (0 ≤ (jgg A T k p J).2.2.1 ∧ (jgg A T k p J).2.2.1 ≤ J.2.2.2.2.1 + 99) ∧ (0 ≤ (jgg A T k p J).2.2.2 ∧ (jgg A T k p J).2.2.2 ≤ J.2.2.2.2.2 + 99) := by
  obtain ⟨⟨-, -⟩, ⟨-, b2⟩, b3, b4, b5, b6⟩ := jg_bd (p := p) hT hA hk hp hJ
  obtain ⟨h1, h2, h3, h4⟩ := hJ
  obtain ⟨a1, a2, a3⟩ := h1 p hp.1 hp.2
  have w := hT.1
  obtain ⟨i1, i2, i3, i4⟩ := jgG_sp (T := T) (p := p) (t := k) (T 1).toNat 0 (J.2.2.1 p - jn1 A T k p J - jn2 A T k p J) (jc2 A T k p J).2 (J.2.2.2.2.1 + jn1 A T k p J + jn2 A T k p J) (J.2.2.2.2.2 + jn2 A T k p J) (by omega) (fun j j1 j2 => (b2 j j1 (by omega)).1)
  have e : jgg A T k p J = jgG T p k (T 1).toNat 0 (J.2.2.1 p - jn1 A T k p J - jn2 A T k p J) (jc2 A T k p J).2 (J.2.2.2.2.1 + jn1 A T k p J + jn2 A T k p J) (J.2.2.2.2.2 + jn2 A T k p J) := rfl
  rw [← e] at i1 i2 i3 i4
  refine ⟨i1, fun d d1 d2 => ?_, by omega, by omega⟩
  have := i2 d (b2 d d1 d2).1
  exact ⟨this.1, Int.le_trans this.2 (b2 d d1 d2).2⟩
theorem jgJ_bd (hT : tnW T) (hA : jgW A T) (hk : 0 ≤ k ∧ k ≤ 12) (hp : 0 ≤ p ∧ p < 8) (hJ : jgB T M J) : (∀ q, 0 ≤ q → q < 8 → (0 ≤ (jgJ A T k p J).1 q ∧ (jgJ A T k p J).1 q ≤ M + (if q = p then 480 else 0)) ∧ (0 ≤ (jgJ A T k p J).2.1 q ∧ (jgJ A T k p J).2.1 q ≤ M + (if q = p then 480 else 0)) ∧ (0 ≤ (jgJ A T k p J).2.2.1 q ∧ (jgJ A T k p J).2.2.1 q ≤ 99)) ∧ jgB T (M + 580) (jgJ A T k p J) := by
  obtain ⟨-, -, b3, b4, b5, b6⟩ := jg_bd (p := p) hT hA hk hp hJ
  obtain ⟨g1, g2, g3, g4⟩ := jgg_bd (p := p) hT hA hk hp hJ
  obtain ⟨h1, h2, h3, h4⟩ := hJ
  obtain ⟨a1, a2, a3⟩ := h1 p hp.1 hp.2
  have key : ∀ q, 0 ≤ q → q < 8 → (0 ≤ (jgJ A T k p J).1 q ∧ (jgJ A T k p J).1 q ≤ M + (if q = p then 480 else 0)) ∧ (0 ≤ (jgJ A T k p J).2.1 q ∧ (jgJ A T k p J).2.1 q ≤ M + (if q = p then 480 else 0)) ∧ (0 ≤ (jgJ A T k p J).2.2.1 q ∧ (jgJ A T k p J).2.2.1 q ≤ 99) := by
    intro q q1 q2
    obtain ⟨c1, c2, c3⟩ := h1 q q1 q2
    show (0 ≤ (if q = p then jt1 A T k p J - jn1 A T k p J else J.1 q) ∧ (if q = p then jt1 A T k p J - jn1 A T k p J else J.1 q) ≤ M + (if q = p then 480 else 0)) ∧ (0 ≤ (if q = p then jt2 A T k p J - jn2 A T k p J else J.2.1 q) ∧ (if q = p then jt2 A T k p J - jn2 A T k p J else J.2.1 q) ≤ M + (if q = p then 480 else 0)) ∧ (0 ≤ (if q = p then (jgg A T k p J).1 else J.2.2.1 q) ∧ (if q = p then (jgg A T k p J).1 else J.2.2.1 q) ≤ 99)
    by_cases e : q = p
    · rw [if_pos e, if_pos e, if_pos e, if_pos e]; omega
    · rw [if_neg e, if_neg e, if_neg e, if_neg e]; omega
  refine ⟨key, fun q q1 q2 => ?_, g2, ?_, ?_⟩
  · have := key q q1 q2
    by_cases e : q = p
    · rw [if_pos e] at this; omega
    · rw [if_neg e] at this; omega
  · show 0 ≤ (jgg A T k p J).2.2.1 ∧ (jgg A T k p J).2.2.1 ≤ M + 580; omega
  · show 0 ≤ (jgg A T k p J).2.2.2 ∧ (jgg A T k p J).2.2.2 ≤ M + 580; omega
theorem jgB_mono {M' : Int} (h : jgB T M J) (hM : M ≤ M') : jgB T M' J := by
  obtain ⟨h1, h2, h3, h4⟩ := h
  refine ⟨fun p p1 p2 => ?_, h2, by omega, by omega⟩
  have := h1 p p1 p2
  omega
theorem jgP_bd (hT : tnW T) (hA : jgW A T) (hk : 0 ≤ k ∧ k ≤ 12) : ∀ (n : Nat) (p M : Int) (J : jgT), 8 = p + n → 0 ≤ p → jgB T M J → jgB T (M + 580 * n) (jgP A T k n p J).2 := by
  intro n
  induction n with
  | zero => intro p M J _ _ hJ; exact jgB_mono hJ (by omega)
  | succ n ih =>
    intro p M J h1 h2 hJ
    simp only [jgP]
    have := (jgJ_bd (p := p) hT hA hk ⟨h2, by omega⟩ hJ).2
    by_cases c : jgR A T k p J = 0
    · rw [if_pos c]
      exact jgB_mono (ih (p + 1) (M + 580) _ (by omega) (by omega) this) (by omega)
    · rw [if_neg c]
      exact jgB_mono hJ (by omega)
theorem jgN_bd (hT : tnW T) (hA : jgW A T) : ∀ k : Nat, k ≤ 13 → jgB T (4640 * k) (jgN A T k) := by
  intro k
  induction k with
  | zero =>
    intro _
    refine ⟨fun p p1 p2 => ⟨⟨Int.le_refl _, by show (0 : Int) ≤ _; omega⟩, ⟨Int.le_refl _, by show (0 : Int) ≤ _; omega⟩, (hT.2.2.2.2 p p1 p2).2⟩, fun d d1 d2 => ?_, ⟨Int.le_refl _, by show (0 : Int) ≤ _; omega⟩, ⟨Int.le_refl _, by show (0 : Int) ≤ _; omega⟩⟩
    have := (hT.2.2.1 d d1 d2).2.2.1
    show 0 ≤ T (150 + 4 * d + 2) ∧ T (150 + 4 * d + 2) ≤ 30
    omega
  | succ k ih =>
    intro hk
    have := jgP_bd hT hA (k := k) (by omega) 8 0 (4640 * k) (jgN A T k) (by omega) (by omega) (ih (by omega))
    exact jgB_mono this (by omega)
end M63
