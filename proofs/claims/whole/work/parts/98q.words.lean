/-! texts: words, places, numbers -/
def wdN (t : Int → Int) (s : Int) (u : Nat → Int) : Nat → Bool
  | 0 => true
  | k + 1 => wdN t s u k && decide (t (s + k) = u k)
def isW (t : Int → Int) (n p : Int) (k : Nat) : Bool := decide (tkK t n p = 1) && (decide (tkE t n p - tkB t n p = ((xstr k).length : Int)) && wdN t (tkB t n p) (fun j => (xstr k).getD j 0) (xstr k).length)
def cwK (k : Nat) : Int := wfN (fun j => (xstr k).getD j.toNat 0) 0 (xstr k).length
def plF (t : Int → Int) (n p : Int) : Int := if tkK t n p = 1 ∧ tkE t n p - tkB t n p = 1 ∧ 65 ≤ t (tkB t n p) ∧ t (tkB t n p) < 73 then t (tkB t n p) - 65 else -1
def nmF (t : Int → Int) (n p lo hi : Int) : Int := if tkK t n p = 2 then (if lo ≤ tkV t n p ∧ tkV t n p ≤ hi then 0 else 2) else 1
def f42 (D' D : xD) : Prop := (∀ a, a ≠ 42 → D' a = D a) ∧ ∀ j, j ≠ 3 → j ≠ 4 → j ≠ 5 → j ≠ 6 → D' 42 j = D 42 j
section M98q
variable {n p i j v w x0 x1 x2 x3' c s lo hi : Int} {a a1 k m L : Nat} {D D' : xD} {t : Int → Int} {u : Nat → Int} {o1 o2 : Option xv} {Q : Option xv → xD → Prop}
theorem wd_iff : ∀ k : Nat, wdN t s u k = true ↔ ∀ j : Nat, j < k → t (s + j) = u j := by
  intro k
  induction k with
  | zero => exact ⟨fun _ j hj => by omega, fun _ => rfl⟩
  | succ k ih =>
    simp only [wdN]
    rw [Bool.and_eq_true, ih]
    constructor
    · rintro ⟨h1, h2⟩ j hj
      by_cases e : j = k
      · rw [e]; exact of_decide_eq_true h2
      · exact h1 j (by omega)
    · intro h
      exact ⟨fun j hj => h j (by omega), decide_eq_true (h k (by omega))⟩
theorem isW_iff : isW t n p k = true ↔ tkK t n p = 1 ∧ tkE t n p - tkB t n p = ((xstr k).length : Int) ∧ ∀ j : Nat, j < (xstr k).length → t (tkB t n p + j) = (xstr k).getD j 0 := by
  unfold isW
  rw [Bool.and_eq_true, Bool.and_eq_true, wd_iff]
  constructor
  · rintro ⟨h1, h2, h3⟩
    exact ⟨of_decide_eq_true h1, of_decide_eq_true h2, h3⟩
  · rintro ⟨h1, h2, h3⟩
    exact ⟨decide_eq_true h1, decide_eq_true h2, h3⟩
theorem tk_1 (hp : p ≤ n) (hK : tkK t n p = 1) : ∀ j, tkB t n p ≤ j → j < tkE t n p → 65 ≤ t j ∧ t j ≤ 122 := by
  intro j j1 j2
  have b := tk_b (t := t) hp
  have e : tkE t n p = rnE t n leB (tkB t n p) := by unfold tkE; rw [if_neg (by omega), if_pos hK]
  rw [e] at j2
  have k : leB (t j) = true := rn_i (by omega) j1 j2
  rcases of_decide_eq_true k with q | q <;> omega
theorem tk_2 (hp : p ≤ n) (hK : tkK t n p = 2) : ∀ j, tkB t n p ≤ j → j < tkE t n p → 48 ≤ t j ∧ t j ≤ 57 := by
  intro j j1 j2
  have b := tk_b (t := t) hp
  have e : tkE t n p = rnE t n diB (tkB t n p) := by unfold tkE; rw [if_neg (by omega), if_neg (by omega), if_pos hK]
  rw [e] at j2
  have k : diB (t j) = true := rn_i (by omega) j1 j2
  exact of_decide_eq_true k
theorem xs_len : ∀ k, k < 7 → (4 ≤ (xstr k).length ∧ (xstr k).length ≤ 6) ∧ ∀ j, j < (xstr k).length → 1 ≤ (xstr k).getD j 0 ∧ (xstr k).getD j 0 < 256 := by decide +kernel
theorem wf_inj {t' : Int → Int} {s' : Int} : ∀ (L m : Nat), (∀ j : Nat, j < L → 1 ≤ t (s + j) ∧ t (s + j) < 256) → (∀ j : Nat, j < m → 1 ≤ t' (s' + j) ∧ t' (s' + j) < 256) → wfN t s L = wfN t' s' m → L = m ∧ ∀ j : Nat, j < L → t (s + j) = t' (s' + j) := by
  have nn : ∀ {t : Int → Int} {s : Int} (L : Nat), (∀ j : Nat, j < L → 1 ≤ t (s + j) ∧ t (s + j) < 256) → 0 ≤ wfN t s L := by
    intro t s L
    induction L with
    | zero => intro _; exact Int.le_refl 0
    | succ L ih =>
      intro h
      have := ih (fun j hj => h j (by omega))
      have := h L (by omega)
      simp only [wfN]
      omega
  intro L
  induction L with
  | zero =>
    intro m h1 h2 h3
    cases m with
    | zero => exact ⟨rfl, fun j hj => by omega⟩
    | succ m =>
      have a1 := nn m (fun j hj => h2 j (by omega))
      have a2 := h2 m (by omega)
      simp only [wfN] at h3
      omega
  | succ L ih =>
    intro m h1 h2 h3
    have b1 := nn L (fun j hj => h1 j (by omega))
    have b2 := h1 L (by omega)
    cases m with
    | zero =>
      simp only [wfN] at h3
      omega
    | succ m =>
      have a1 := nn m (fun j hj => h2 j (by omega))
      have a2 := h2 m (by omega)
      simp only [wfN] at h3
      obtain ⟨e1, e2⟩ := ih m (fun j hj => h1 j (by omega)) (fun j hj => h2 j (by omega)) (by omega)
      subst e1
      refine ⟨rfl, fun j hj => ?_⟩
      by_cases e : j = L
      · rw [e]; omega
      · exact e2 j (by omega)
theorem wf_cg {t' : Int → Int} {s' : Int} : ∀ (L : Nat), (∀ j : Nat, j < L → t (s + j) = t' (s' + j)) → wfN t s L = wfN t' s' L := by
  intro L
  induction L with
  | zero => intro _; rfl
  | succ L ih =>
    intro h
    simp only [wfN]
    rw [ih (fun j hj => h j (by omega)), h L (by omega)]
/-- the packed word says which word it is -/
theorem isW_cw (hp : p ≤ n) (hk : k < 7) : isW t n p k = true ↔ tkK t n p = 1 ∧ tkW t n p = cwK k := by
  rw [isW_iff]
  obtain ⟨⟨l1, l2⟩, l3⟩ := xs_len k hk
  have b := tk_b (t := t) hp
  have r2 : ∀ j : Nat, j < (xstr k).length → 1 ≤ (fun j : Int => (xstr k).getD j.toNat 0) (0 + (j : Int)) ∧ (fun j : Int => (xstr k).getD j.toNat 0) (0 + (j : Int)) < 256 := fun j hj => by
    show 1 ≤ (xstr k).getD ((0 : Int) + (j : Int)).toNat 0 ∧ (xstr k).getD ((0 : Int) + (j : Int)).toNat 0 < 256
    rw [Int.zero_add, Int.toNat_natCast]
    exact l3 j hj
  constructor
  · rintro ⟨h1, h2, h3⟩
    refine ⟨h1, ?_⟩
    unfold tkW cwK
    rw [if_pos (by omega), show (tkE t n p - tkB t n p).toNat = (xstr k).length by omega]
    refine wf_cg _ (fun j hj => ?_)
    rw [h3 j hj, Int.zero_add, Int.toNat_natCast]
  · rintro ⟨h1, h2⟩
    refine ⟨h1, ?_⟩
    have r1 : ∀ j : Nat, j < (tkE t n p - tkB t n p).toNat → 1 ≤ t (tkB t n p + j) ∧ t (tkB t n p + j) < 256 := fun j hj => by
      have := tk_1 hp h1 (tkB t n p + j) (by omega) (by omega)
      omega
    unfold tkW at h2
    by_cases c : tkE t n p - tkB t n p ≤ 6
    · rw [if_pos c] at h2
      obtain ⟨e1, e2⟩ := wf_inj _ _ r1 r2 h2
      refine ⟨by omega, fun j hj => ?_⟩
      rw [e2 j (by omega), Int.zero_add, Int.toNat_natCast]
    · rw [if_neg c] at h2
      have := (wf_inj 0 (xstr k).length (t := t) (s := 0) (fun j hj => by omega) r2 h2).1
      omega
theorem nv_rel : ∀ (k : Nat) (i v w : Int), (∀ j : Int, i ≤ j → j < i + k → 48 ≤ t j ∧ t j ≤ 57) → ((v < 1000 ∧ w = v ∧ 0 ≤ v) ∨ (v = 1000 ∧ 1000 ≤ w ∧ w ≤ 1000009)) → (nvC t i k v < 1000 ∧ nvM t i k w = nvC t i k v ∧ 0 ≤ nvC t i k v) ∨ (nvC t i k v = 1000 ∧ 1000 ≤ nvM t i k w ∧ nvM t i k w ≤ 1000009) := by
  intro k
  induction k with
  | zero => intro i v w _ h; exact h
  | succ k ih =>
    intro i v w h1 h2
    have d := h1 i (by omega) (by omega)
    simp only [nvC, nvM]
    refine ih _ _ _ (fun j j1 j2 => h1 j (by omega) (by omega)) ?_
    rcases h2 with ⟨a1, a2, a3⟩ | ⟨a1, a2, a3⟩
    · rw [if_pos (by omega)]
      by_cases c : v * 10 + t i - 48 < 1000
      · left; omega
      · right; omega
    · right
      by_cases c : w < 100000
      · rw [if_pos c]; omega
      · rw [if_neg c]; omega
theorem tk_vm (hp : p ≤ n) (hK : tkK t n p = 2) : (tkV t n p < 1000 ∧ tkM t n p = tkV t n p ∧ 0 ≤ tkV t n p) ∨ (tkV t n p = 1000 ∧ 1000 ≤ tkM t n p ∧ tkM t n p ≤ 1000009) := by
  have b := tk_b (t := t) hp
  exact nv_rel _ _ 0 0 (fun j j1 j2 => tk_2 hp hK j j1 (by omega)) (.inl ⟨by decide, rfl, by decide⟩)
theorem tk_mm (hp : p ≤ n) (hK : tkK t n p = 2) (hl : 0 ≤ lo) (hh : hi < 1000) : (lo ≤ tkM t n p ∧ tkM t n p ≤ hi ↔ lo ≤ tkV t n p ∧ tkV t n p ≤ hi) ∧ (tkV t n p ≤ hi → tkM t n p = tkV t n p) := by
  rcases tk_vm hp hK with ⟨a1, a2, a3⟩ | ⟨a1, a2, a3⟩
  · rw [a2]; exact ⟨Iff.rfl, fun _ => rfl⟩
  · exact ⟨by constructor <;> intro z <;> omega, fun z => by omega⟩
theorem pl_rg (h : 0 ≤ plF t n p) : plF t n p ≤ 7 := by
  unfold plF at *
  split at h
  · rename_i c; rw [if_pos c]; omega
  · omega
/-- the class's words -/
theorem l63 (hT : txT t n) (hl : lxD D t n) (ha : (Nat.ble 1000 a1 && Nat.blt a1 1007) = true) (h4 : D 42 4 = s) (hs : 0 ≤ s ∧ s + ((xstr (a1 - 1000)).length : Int) ≤ n) (h1 : (∀ j : Nat, j < (xstr (a1 - 1000)).length → t (s + j) = (xstr (a1 - 1000)).getD j 0) → Q (some (.inl 1)) D) (h0 : ¬ (∀ j : Nat, j < (xstr (a1 - 1000)).length → t (s + j) = (xstr (a1 - 1000)).getD j 0) → Q (some (.inl 0)) D) :
    ∀ (k m : Nat), m + k = (xstr (a1 - 1000)).length → (∀ j : Nat, j < m → t (s + j) = (xstr (a1 - 1000)).getD j 0) → WP 124 xF1 none 63 28 [some (.inr (.inr (some 42))), some (.inr (.inr (some a1))), some (.inl (m : Int))] [] D Q := by
  intro k
  induction k with
  | zero =>
    intro m e hm
    rw [seg63_28 (ha0 := ho42) (ha1 := ha), brT (by omega)]
    exact h1 (fun j hj => hm j (by omega))
  | succ k ih =>
    intro m e hm
    have hb := hT.1
    rw [seg63_28 (ha0 := ho42) (ha1 := ha), brF (by omega), h4, cnX (by omega), cnB (by omega), cnB (by omega)]
    simp only [Nat.reduceAdd]
    rw [hl.2 _ (by omega) (by omega), Int.toNat_natCast]
    by_cases c : t (s + (m : Int)) = (xstr (a1 - 1000)).getD m 0
    · rw [brT c, cnX (by omega)]
      refine ih (m + 1) (by omega) (fun j hj => ?_)
      by_cases e2 : j = m
      · rw [e2]; exact c
      · exact hm j (by omega)
    · rw [brF c]
      exact h0 (fun z => c (z m (by omega)))
theorem m63 (hT : txT t n) (hl : lxD D t n) (hc : clT D t n p) (hp : 0 ≤ p ∧ p ≤ n) (hk : k < 7) (hq : Q (some (.inl (if isW t n p k = true then 1 else 0))) D) : WP 124 xF1 none 63 0 [some (.inr (.inr (some 42))), some (.inr (.inr (some (1000 + k)))), o2] [] D Q := by
  have ha : (Nat.ble 1000 (1000 + k) && Nat.blt (1000 + k) 1007) = true := by
    rw [Bool.and_eq_true]
    exact ⟨Nat.ble_eq.mpr (by omega), Nat.blt_eq.mpr (by omega)⟩
  have hb := hT.1
  have b := tk_b (t := t) hp.2
  obtain ⟨c3, c4, c5, -⟩ := hc
  rw [seg63_0 (ha0 := ho42) (ha1 := ha)]
  have e : 1000 + k - 1000 = k := by omega
  have no : ¬ isW t n p k = true → WP 124 xF1 none 63 24 [some (.inr (.inr (some 42))), some (.inr (.inr (some (1000 + k)))), o2] [] D Q := fun z => by
    rw [if_neg z] at hq
    rw [seg63_24 (ha0 := ho42) (ha1 := ha)]
    exact hq
  rw [e, c3, c4, c5]
  by_cases c1 : tkK t n p ≠ 1
  · rw [brT c1]
    exact no (fun z => c1 (isW_iff.mp z).1)
  · rw [brF c1, cnX (by omega)]
    by_cases c2 : tkE t n p - tkB t n p = ((xstr k).length : Int)
    · rw [brT c2]
      refine l63 (D := D) (s := tkB t n p) (a1 := 1000 + k) hT hl ha c4 (by rw [e]; omega) (fun q => ?_) (fun q => ?_) (xstr k).length 0 (by rw [e]; omega) (fun j hj => by omega)
      · rw [e] at q
        rw [if_pos (isW_iff.mpr ⟨by omega, c2, q⟩)] at hq; exact hq
      · rw [e] at q
        rw [if_neg (fun y => q (isW_iff.mp y).2.2)] at hq; exact hq
    · rw [brF c2]
      exact no (fun z => c2 (isW_iff.mp z).2.1)
/-- the reference's words -/
theorem m160 (hm : mtT D t n p) (hp : p ≤ n) (hk : k < 7) (hw : w = cwK k) : WP 124 xF1 none 160 0 [some (.inr (.inr (some 95))), some (.inr (.inl w)), o2] [] D Q = Q (some (.inl (if isW t n p k = true then 1 else 0))) D := by
  subst hw
  have i := isW_cw (t := t) hp hk
  have r : ∀ v : Int, (v = 0 ∨ v = 1) → WP 124 xF1 none 160 22 [some (.inr (.inr (some 95))), some (.inr (.inl (cwK k))), o2] [.inl v] D Q = Q (some (.inl v)) D := fun v hv => by rw [seg160_22 (ha0 := ho95), cnT hv]
  rw [seg160_0 (ha0 := ho95), hm.1]
  by_cases c1 : tkK t n p = 1
  · rw [c1, brF (show ¬ mtK 1 ≠ 2 from fun z => z rfl), hm.2.2.2.2 c1]
    by_cases c2 : tkW t n p = cwK k
    · rw [if_pos (i.mpr ⟨c1, c2⟩), c2, if_neg (by omega), if_pos rfl, brF (by decide), r 1 (.inr rfl)]
    · rw [if_neg (fun z => c2 (i.mp z).2)]
      have q : WP 124 xF1 none 160 21 [some (.inr (.inr (some 95))), some (.inr (.inl (cwK k))), o2] [] D Q = Q (some (.inl 0)) D := by
        rw [seg160_21 (ha0 := ho95), r 0 (.inl rfl)]
      by_cases c3 : tkW t n p < cwK k
      · rw [if_pos c3, brT (by decide), q]
      · rw [if_neg c3, if_neg c2, brT (by decide), q]
  · have ne : mtK (tkK t n p) ≠ 2 := by
      unfold mtK
      (repeat' split) <;> omega
    rw [brT ne, seg160_21 (ha0 := ho95), r 0 (.inl rfl), if_neg (fun z => c1 (i.mp z).1)]
theorem m161 (hT : txT t n) (hm : mtT D t n p) (hp : 0 ≤ p ∧ p ≤ n) : WP 124 xF1 none 161 0 [some (.inr (.inr (some 95)))] [] D Q = Q (some (.inl (plF t n p))) D := by
  have hb := hT.1
  have b := tk_b (t := t) hp.2
  have q : ¬ 0 ≤ plF t n p → WP 124 xF1 none 161 41 [some (.inr (.inr (some 95)))] [] D Q = Q (some (.inl (plF t n p))) D := fun z => by
    have e : plF t n p = -1 := by
      unfold plF at *
      split
      · rename_i c; rw [if_pos c] at z; omega
      · rfl
    rw [seg161_41 (ha0 := ho95), seg161_42 (ha0 := ho95), e]
  rw [seg161_0 (ha0 := ho95), hm.1]
  by_cases c1 : tkK t n p = 1
  · have l := tk_1 (t := t) hp.2 c1
    have sE := b.2.2.2 (by omega)
    have h0 := l (tkB t n p) (by omega) (by omega)
    rw [c1, brF (show ¬ mtK 1 ≠ 2 from fun z => z rfl), hm.2.2.2.2 c1]
    -- the word of one letter is that letter; a longer one is more
    have wl : (tkE t n p - tkB t n p = 1 → tkW t n p = t (tkB t n p)) ∧ (tkE t n p - tkB t n p ≠ 1 → tkW t n p = 0 ∨ 16640 ≤ tkW t n p) := by
      unfold tkW
      constructor
      · intro c
        rw [if_pos (by omega), c]
        show 0 * 256 + t (tkB t n p + ((0 : Nat) : Int)) = _
        rw [show tkB t n p + ((0 : Nat) : Int) = tkB t n p by omega]; omega
      · intro c
        by_cases c6 : tkE t n p - tkB t n p ≤ 6
        · rw [if_pos c6]
          right
          obtain ⟨k, hk⟩ : ∃ k : Nat, (tkE t n p - tkB t n p).toNat = k + 2 := ⟨(tkE t n p - tkB t n p).toNat - 2, by omega⟩
          have wb := wf_bd (t := t) (s := tkB t n p) k (by omega) (fun j j1 j2 => by have := l j j1 (by omega); omega)
          have a1 := l (tkB t n p + k) (by omega) (by omega)
          have a2 := l (tkB t n p + ((k + 1 : Nat) : Int)) (by omega) (by omega)
          rw [hk]
          simp only [wfN]
          omega
        · rw [if_neg c6]; exact .inl rfl
    by_cases c2 : 0 ≤ plF t n p
    · have c3 : tkE t n p - tkB t n p = 1 ∧ 65 ≤ t (tkB t n p) ∧ t (tkB t n p) < 73 := by
        unfold plF at c2
        split at c2
        · rename_i c; exact c.2
        · omega
      have e : plF t n p = t (tkB t n p) - 65 := by unfold plF; rw [if_pos ⟨c1, c3⟩]
      rw [wl.1 c3.1]
      by_cases c4 : t (tkB t n p) = 65
      · rw [if_neg (by omega), if_pos c4, brF (by decide), if_pos (by omega), brF (by decide), cnX (by omega), cnX (by omega), seg161_42 (ha0 := ho95), e]
      · rw [if_neg (by omega), if_neg c4, brF (by decide)]
        by_cases c5 : t (tkB t n p) < 72
        · rw [if_pos c5, brF (by decide), cnX (by omega), cnX (by omega), seg161_42 (ha0 := ho95), e]
        · rw [if_neg c5, if_pos (by omega), brF (by decide), cnX (by omega), cnX (by omega), seg161_42 (ha0 := ho95), e]
    · have lo : tkW t n p < 65 ∨ 72 < tkW t n p := by
        by_cases c3 : tkE t n p - tkB t n p = 1
        · rw [wl.1 c3]
          by_cases c4 : 65 ≤ t (tkB t n p) ∧ t (tkB t n p) < 73
          · exact absurd (by unfold plF; rw [if_pos ⟨c1, c3, c4⟩]; omega) c2
          · omega
        · have := wl.2 c3; omega
      by_cases c3 : tkW t n p < 65
      · rw [if_pos c3, brT (by decide), q c2]
      · rw [if_neg c3, if_neg (show ¬ tkW t n p = 65 by omega), brF (by decide), if_neg (by omega), if_neg (by omega), brT (by decide), q c2]
  · have ne : mtK (tkK t n p) ≠ 2 := by
      unfold mtK
      (repeat' split) <;> omega
    rw [brT ne, q (by unfold plF; rw [if_neg (fun z => c1 z.1)]; decide)]
/-- the class: a place, a number, the end of a clause -/
theorem m62 : WP 124 xF1 none 62 0 [some (.inr (.inr (some 42))), some (.inl x1)] [] D Q = Q (some (.inl 0)) (xup (xup D 42 9 x1) 42 10 (D 42 4)) := by
  rw [seg62_0 (ha0 := ho42)]
theorem m65 (hT : txT t n) (hl : lxD D t n) (h5 : D 42 5 = p) (hp : 0 ≤ p ∧ p ≤ n) (h0 : plF t n p < 0 → ∀ D', (∀ a, a ≠ 42 → D' a = D a) → D' 42 9 = 1 → D' 42 10 = tkB t n p → Q (some (.inl 0)) D') (h1 : 0 ≤ plF t n p → ∀ D', f42 D' D → D' 42 4 = tkB t n p → D' 42 5 = tkE t n p → D' 42 6 = plF t n p → Q (some (.inl 1)) D') :
    WP 124 xF1 none 65 0 [some (.inr (.inr (some 42))), o1] [] D Q := by
  have hb := hT.1
  have b := tk_b (t := t) hp.2
  rw [seg65_0 (ha0 := ho42)]
  refine m59 hT hl h5 hp (fun D1 f1 f2 f3 => ?_)
  simp only [Option.toList_some, Option.toList_none, List.cons_append, List.nil_append]
  obtain ⟨c3, c4, c5, -⟩ := f3
  have bad : ∀ v : Int, plF t n p < 0 → WP 124 xF1 none 65 63 [some (.inr (.inr (some 42))), some (.inl v)] [] D1 Q := fun v z => by
    rw [seg65_63 (ha0 := ho42), m62]
    simp only [Option.toList_some, Option.toList_none, List.cons_append, List.nil_append]
    rw [seg65_68 (ha0 := ho42)]
    refine ⟨.inl rfl, h0 z _ (fun a ha => by rw [up_ne ha, up_ne ha]; exact f1 a ha) (by rw [up_ne2 (by decide), up_eq]) (by rw [up_eq, c4])⟩
  rw [seg65_4 (ha0 := ho42), c3, c4, c5]
  have no : ¬ (tkK t n p = 1 ∧ tkE t n p - tkB t n p = 1) → WP 124 xF1 none 65 29 [some (.inr (.inr (some 42))), o1] [] D1 Q := fun z => by
    rw [seg65_29 (ha0 := ho42), seg65_30 (ha0 := ho42), brT rfl]
    exact bad 0 (by unfold plF; rw [if_neg (fun y => z ⟨y.1, y.2.1⟩)]; decide)
  by_cases c1 : tkK t n p ≠ 1
  · rw [brT c1]; exact no (fun z => c1 z.1)
  · rw [brF c1, cnX (by omega)]
    by_cases c2 : tkE t n p - tkB t n p ≠ 1
    · rw [brT c2]; exact no (fun z => c2 z.2)
    · have hl1 : D1 55 (tkB t n p) = t (tkB t n p) := by rw [f1 55 (by decide)]; exact hl.2 _ (by omega) (by omega)
      rw [brF c2, seg65_30 (ha0 := ho42), brF (by decide), c4, cnB (by omega), cnB (by omega)]
      simp only [Nat.reduceAdd]
      rw [hl1]
      by_cases c6 : t (tkB t n p) < 65
      · rw [brT c6]; exact bad _ (by unfold plF; rw [if_neg (by omega)]; decide)
      · rw [brF c6]
        by_cases c7 : t (tkB t n p) < 73
        · have e : plF t n p = t (tkB t n p) - 65 := by unfold plF; rw [if_pos (by omega)]
          rw [brT c7, cnB (by omega), cnX (by omega)]
          exact h1 (by omega) _ ⟨fun a ha => by rw [up_ne ha]; exact f1 a ha, fun j j1 j2 j3 j4 => by rw [up_ne2 j4]; exact f2 j j1 j2 j3 j4⟩ (by rw [up_ne2 (by decide)]; exact c4) (by rw [up_ne2 (by decide)]; exact c5) (by rw [up_eq, e])
        · rw [brF c7]; exact bad _ (by unfold plF; rw [if_neg (by omega)]; decide)
theorem m66 (hT : txT t n) (hl : lxD D t n) (h5 : D 42 5 = p) (hp : 0 ≤ p ∧ p ≤ n) (h0 : nmF t n p x1 x2 ≠ 0 → ∀ D', (∀ a, a ≠ 42 → D' a = D a) → D' 42 9 = nmF t n p x1 x2 → D' 42 10 = tkB t n p → Q (some (.inl 0)) D') (h1 : nmF t n p x1 x2 = 0 → ∀ D', f42 D' D → D' 42 4 = tkB t n p → D' 42 5 = tkE t n p → D' 42 6 = tkV t n p → (x1 ≤ tkV t n p ∧ tkV t n p ≤ x2) → Q (some (.inl 1)) D') :
    WP 124 xF1 none 66 0 [some (.inr (.inr (some 42))), some (.inl x1), some (.inl x2)] [] D Q := by
  rw [seg66_0 (ha0 := ho42)]
  refine m59 hT hl h5 hp (fun D1 f1 f2 f3 => ?_)
  simp only [Option.toList_some, Option.toList_none, List.cons_append, List.nil_append]
  obtain ⟨c3, c4, c5, c6⟩ := f3
  rw [seg66_4 (ha0 := ho42), c3]
  by_cases c1 : tkK t n p = 2
  · rw [brT c1, c6 c1]
    have bad : ¬ (x1 ≤ tkV t n p ∧ tkV t n p ≤ x2) → WP 124 xF1 none 66 34 [some (.inr (.inr (some 42))), some (.inl x1), some (.inl x2)] [] D1 Q := fun z => by
      have e : nmF t n p x1 x2 = 2 := by unfold nmF; rw [if_pos c1, if_neg z]
      rw [seg66_34 (ha0 := ho42), m62]
      simp only [Option.toList_some, Option.toList_none, List.cons_append, List.nil_append]
      rw [seg66_39 (ha0 := ho42), brT rfl, seg66_47 (ha0 := ho42)]
      exact ⟨.inl rfl, h0 (by omega) _ (fun a ha => by rw [up_ne ha, up_ne ha]; exact f1 a ha) (by rw [up_ne2 (by decide), up_eq, e]) (by rw [up_eq, c4])⟩
    by_cases c2 : tkV t n p < x1
    · rw [brT c2]; exact bad (by omega)
    · rw [brF c2]
      by_cases c7 : tkV t n p ≤ x2
      · have e : nmF t n p x1 x2 = 0 := by unfold nmF; rw [if_pos c1, if_pos (by omega)]
        rw [brT c7, seg66_42 (ha0 := ho42), seg66_47 (ha0 := ho42)]
        exact ⟨.inr rfl, h1 e D1 ⟨f1, f2⟩ c4 c5 (c6 c1) (by omega)⟩
      · rw [brF c7]; exact bad (by omega)
  · have e : nmF t n p x1 x2 = 1 := by unfold nmF; rw [if_neg c1]
    rw [brF c1, m62]
    simp only [Option.toList_some, Option.toList_none, List.cons_append, List.nil_append]
    rw [seg66_17 (ha0 := ho42)]
    exact ⟨.inl rfl, h0 (by omega) _ (fun a ha => by rw [up_ne ha, up_ne ha]; exact f1 a ha) (by rw [up_ne2 (by decide), up_eq, e]) (by rw [up_eq, c4])⟩
theorem m67 (hT : txT t n) (hl : lxD D t n) (h5 : D 42 5 = p) (hp : 0 ≤ p ∧ p ≤ n) (h0 : tkK t n p ≠ 3 → ∀ D', (∀ a, a ≠ 42 → D' a = D a) → D' 42 9 = 1 → D' 42 10 = tkB t n p → Q (some (.inl 0)) D') (h1 : tkK t n p = 3 → ∀ D', f42 D' D → clT D' t n (tkE t n p) → Q (some (.inl 1)) D') :
    WP 124 xF1 none 67 0 [some (.inr (.inr (some 42)))] [] D Q := by
  have b := tk_b (t := t) hp.2
  rw [seg67_0 (ha0 := ho42)]
  refine m59 hT hl h5 hp (fun D1 f1 f2 f3 => ?_)
  simp only [Option.toList_some, Option.toList_none, List.cons_append, List.nil_append]
  obtain ⟨c3, c4, c5, c6⟩ := f3
  have hl1 : lxD D1 t n := ⟨by rw [f2 2 (by decide) (by decide) (by decide) (by decide)]; exact hl.1, fun j j1 j2 => by rw [f1 55 (by decide)]; exact hl.2 j j1 j2⟩
  rw [seg67_4 (ha0 := ho42), c3]
  by_cases c1 : tkK t n p = 3
  · rw [brT c1]
    refine m59 hT hl1 c5 ⟨by omega, by omega⟩ (fun D2 g1 g2 g3 => ?_)
    simp only [Option.toList_some, Option.toList_none, List.cons_append, List.nil_append]
    rw [seg67_22 (ha0 := ho42)]
    exact h1 c1 D2 ⟨fun a ha => by rw [g1 a ha]; exact f1 a ha, fun j j1 j2 j3 j4 => by rw [g2 j j1 j2 j3 j4]; exact f2 j j1 j2 j3 j4⟩ g3
  · rw [brF c1, m62]
    simp only [Option.toList_some, Option.toList_none, List.cons_append, List.nil_append]
    rw [seg67_17 (ha0 := ho42)]
    exact ⟨.inl rfl, h0 c1 _ (fun a ha => by rw [up_ne ha, up_ne ha]; exact f1 a ha) (by rw [up_ne2 (by decide), up_eq]) (by rw [up_eq, c4])⟩
/-- the reference: a number -/
theorem m162 (hT : txT t n) (hl : lmD D t n) (hm : mtT D t n p) (hp : 0 ≤ p ∧ p ≤ n) (hl0 : 0 ≤ x1) (hh : x2 < 1000) (hx : 0 ≤ x3' ∧ x3' < 640) (h0 : nmF t n p x1 x2 ≠ 0 → Q (some (.inl (nmF t n p x1 x2))) D) (h1 : nmF t n p x1 x2 = 0 → ∀ D', (∀ a, a ≠ 95 → D' a = xup D 98 x3' (tkV t n p) a) → (∀ j, (j < 7 ∨ 11 < j) → D' 95 j = D 95 j) → mtT D' t n (tkE t n p) → (x1 ≤ tkV t n p ∧ tkV t n p ≤ x2) → Q (some (.inl 0)) D') :
    WP 124 xF1 none 162 0 [some (.inr (.inr (some 95))), some (.inl x1), some (.inl x2), some (.inl x3')] [] D Q := by
  have b := tk_b (t := t) hp.2
  rw [seg162_0 (ha0 := ho95), hm.1]
  by_cases c1 : tkK t n p = 2
  · have mm := tk_mm (t := t) hp.2 c1 hl0 hh
    rw [c1, brT (show mtK 2 = 1 from rfl), hm.2.2.2.1 c1, m149]
    simp only [Option.toList_some, Option.toList_none, List.cons_append, List.nil_append]
    rw [seg162_19 (ha0 := ho95)]
    by_cases c2 : x1 ≤ tkV t n p ∧ tkV t n p ≤ x2
    · have e : nmF t n p x1 x2 = 0 := by unfold nmF; rw [if_pos c1, if_pos c2]
      rw [if_pos (mm.1.mpr c2), brT (by decide), cnB hx, hm.2.2.2.1 c1, mm.2 c2.2]
      simp only [Nat.reduceAdd]
      refine m157 hT (D := xup D 98 x3' (tkV t n p)) (n := n) (p := tkE t n p) ⟨by rw [up_ne (by decide)]; exact hl.1, fun j j1 j2 => by rw [up_ne (by decide)]; exact hl.2 j j1 j2⟩ (by rw [up_ne (by decide)]; exact hm.2.2.1) ⟨by omega, by omega⟩ (fun D2 g1 g2 g3 => ?_)
      simp only [Option.toList_some, Option.toList_none, List.cons_append, List.nil_append]
      rw [seg162_38 (ha0 := ho95)]
      exact h1 e D2 g1 (fun j hj => by rw [g2 j hj, up_ne (by decide)]) g3 c2
    · have e : nmF t n p x1 x2 = 2 := by unfold nmF; rw [if_pos c1, if_neg c2]
      rw [if_neg (fun z => c2 (mm.1.mp z)), brF (by decide), ← e]
      exact h0 (by omega)
  · have e : nmF t n p x1 x2 = 1 := by unfold nmF; rw [if_neg c1]
    have ne : mtK (tkK t n p) ≠ 1 := by
      unfold mtK
      (repeat' split) <;> omega
    rw [brF ne, ← e]
    exact h0 (by omega)
end M98q
