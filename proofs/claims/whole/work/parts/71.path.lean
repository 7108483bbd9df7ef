/-! nets: ways, and what is sent along them -/
/-- by which arc a search came to a node; ranks fall towards S -/
def trI (E : Int) (tl hd r via : Int → Int) (rk : Int → Nat) (S : Int) : Prop := ∀ v, v ≠ S → via v ≠ -1 → (0 ≤ via v ∧ via v < E) ∧ hd (via v) = v ∧ (tl (via v) = S ∨ via (tl (via v)) ≠ -1) ∧ 0 < r (via v) ∧ rk (tl (via v)) < rk v
def pmN (tl via r : Int → Int) (S : Int) : Nat → Int → Int → Int
  | 0, _, n => n
  | k + 1, v, n => if v = S then n else pmN tl via r S k (tl (via v)) (min n (r (via v)))
def puR (via : Int → Int) (n v : Int) (r : Int → Int) : Int → Int := fun j => if j = prI (via v) then r (prI (via v)) + n else if j = via v then r (via v) - n else r j
def puN (tl via : Int → Int) (S n : Int) : Nat → Int → (Int → Int) → (Int → Int)
  | 0, _, r => r
  | k + 1, v, r => if v = S then r else puN tl via S n k (tl (via v)) (puR via n v r)
def piN (tl via : Int → Int) (S x : Int) : Nat → Int → Prop
  | 0, _ => False
  | k + 1, v => v ≠ S ∧ (x = v ∨ piN tl via S x k (tl (via v)))
section M71
variable {E S Tk F W n v u e x k z M : Int} {tl hd gn c r r' w y b p via : Int → Int} {al : Int → Bool} {rk : Int → Nat}
theorem pi_ind {Pr : Int → Prop} (hs : ∀ x, x ≠ S → via x ≠ -1 → Pr x → Pr (tl (via x))) (ht : trI E tl hd r via rk S) : ∀ (k : Nat) (v : Int), (v = S ∨ via v ≠ -1) → Pr v → ∀ x, piN tl via S x k v → x ≠ S ∧ via x ≠ -1 ∧ Pr x ∧ Pr (tl (via x)) := by
  intro k
  induction k with
  | zero => intro v _ _ x hx; exact hx.elim
  | succ k ih =>
    intro v hv hp x hx
    obtain ⟨h1, h2⟩ := hx
    have hv' := hv.resolve_left h1
    rcases h2 with h2 | h2
    · subst h2
      exact ⟨h1, hv', hp, hs x h1 hv' hp⟩
    · exact ih (tl (via v)) (ht v h1 hv').2.2.1 (hs v h1 hv' hp) x h2
theorem pi_rk (ht : trI E tl hd r via rk S) : ∀ (k : Nat) (v : Int), (v = S ∨ via v ≠ -1) → ∀ x, piN tl via S x k v → rk x ≤ rk v := by
  intro k v hv x hx
  have := pi_ind (Pr := fun u => rk u ≤ rk v) (fun u u1 u2 u3 => Nat.le_trans (Nat.le_of_lt (ht u u1 u2).2.2.2.2) u3) ht k v hv (Nat.le_refl _) x hx
  exact this.2.2.1
theorem pm_sp (ht : trI E tl hd r via rk S) : ∀ (k : Nat) (v n : Int), (v = S ∨ via v ≠ -1) → 1 ≤ n → (1 ≤ pmN tl via r S k v n ∧ pmN tl via r S k v n ≤ n) ∧ ∀ x, piN tl via S x k v → pmN tl via r S k v n ≤ r (via x) := by
  intro k
  induction k with
  | zero => intro v n _ hn; exact ⟨⟨hn, Int.le_refl _⟩, fun x hx => hx.elim⟩
  | succ k ih =>
    intro v n hv hn
    simp only [pmN]
    by_cases c : v = S
    · rw [if_pos c]
      exact ⟨⟨hn, Int.le_refl _⟩, fun x hx => absurd c hx.1⟩
    · rw [if_neg c]
      have hv' := hv.resolve_left c
      have h0 := ht v c hv'
      obtain ⟨⟨i1, i2⟩, i3⟩ := ih (tl (via v)) (min n (r (via v))) h0.2.2.1 (by omega)
      refine ⟨⟨i1, by omega⟩, fun x hx => ?_⟩
      rcases hx.2 with q | q
      · rw [q]; omega
      · exact i3 x q
theorem pu_sp (hN : ntOk E tl hd gn) (hn : 0 ≤ n) {r0 : Int → Int} (ht : trI E tl hd r0 via rk S) (hal : ∀ v, v ≠ S → via v ≠ -1 → al (tl (via v)) = true ∧ al (hd (via v)) = true)
    (hw : ∀ e, 0 ≤ e → e < E → w (prI e) = - w e) (hb : ∀ v, v ≠ S → via v ≠ -1 → b v = b (tl (via v)) + w (via v)) :
    ∀ (k : Nat) (v : Int) (r : Int → Int), (v = S ∨ via v ≠ -1) → rk v < k → (∀ e, 0 ≤ e → e < E → 0 ≤ r e ∧ r e + r (prI e) = c e) → (∀ e, 0 ≤ e → e < E → e % 2 = 1 → (al (tl e) && al (hd e)) = false → r e = 0) →
    (∀ x, piN tl via S x k v → n ≤ r (via x)) →
    (∀ y : Int → Int, flL E r (fun e => y (tl e) - y (hd e)) = F * (y S - y Tk) + n * (y v - y Tk)) → flL E r w = W + n * (b Tk - b v) →
    (∀ e, 0 ≤ e → e < E → 0 ≤ puN tl via S n k v r e ∧ puN tl via S n k v r e + puN tl via S n k v r (prI e) = c e) ∧ (∀ e, 0 ≤ e → e < E → e % 2 = 1 → (al (tl e) && al (hd e)) = false → puN tl via S n k v r e = 0) ∧
    (∀ y : Int → Int, flL E (puN tl via S n k v r) (fun e => y (tl e) - y (hd e)) = F * (y S - y Tk) + n * (y S - y Tk)) ∧ flL E (puN tl via S n k v r) w = W + n * (b Tk - b S) ∧
    (∀ e, 0 < puN tl via S n k v r e → 0 < r e ∨ ∃ x, piN tl via S x k v ∧ e = prI (via x)) := by
  intro k
  induction k with
  | zero => intro v r hv hk; omega
  | succ k ih =>
    intro v r hv hk h1 h2 h3 h4 h5
    simp only [puN]
    by_cases c0 : v = S
    · rw [if_pos c0]
      subst c0
      exact ⟨h1, h2, h4, h5, fun e he => .inl he⟩
    · rw [if_neg c0]
      have hv' := hv.resolve_left c0
      obtain ⟨t1, t2, t3, t4, t5⟩ := ht v c0 hv'
      have hr := h3 v ⟨c0, .inl rfl⟩
      have hp := prI_rg hN.1 t1
      have hne := prI_ne (via v)
      have e1 : puR via n v r (via v) = r (via v) - n := by unfold puR; rw [if_neg (fun z => hne z.symm), if_pos rfl]
      have e2 : puR via n v r (prI (via v)) = r (prI (via v)) + n := by unfold puR; rw [if_pos rfl]
      have e3 : ∀ j, j ≠ via v → j ≠ prI (via v) → puR via n v r j = r j := fun j j1 j2 => by unfold puR; rw [if_neg j2, if_neg j1]
      have pw := fl_push (w := w) hN.1 hw t1 e1 e2 e3
      have py := fun y : Int → Int => fl_push (w := fun e => y (tl e) - y (hd e)) hN.1 (fun e q1 q2 => by
        have := hN.2 e q1 q2
        show y (tl (prI e)) - y (hd (prI e)) = -(y (tl e) - y (hd e))
        rw [this.2.2.2.1, this.2.2.2.2.1]; omega) t1 e1 e2 e3
      have hA := hal v c0 hv'
      have key := ih (tl (via v)) (puR via n v r) t3 (by omega) (fun e q1 q2 => ?_) (fun e q1 q2 q3 q4 => ?_) (fun x hx => ?_) (fun y => ?_) ?_
      · obtain ⟨i1, i2, i3, i4, i5⟩ := key
        refine ⟨i1, i2, i3, i4, fun e he => ?_⟩
        rcases i5 e he with q | ⟨x, q1, q2⟩
        · by_cases f1 : e = prI (via v)
          · exact .inr ⟨v, ⟨c0, .inl rfl⟩, f1⟩
          · by_cases f2 : e = via v
            · rw [f2, e1] at q
              rw [f2]; left; omega
            · rw [e3 e f2 f1] at q; exact .inl q
        · exact .inr ⟨x, ⟨c0, .inr q1⟩, q2⟩
      · have a1 := h1 e q1 q2
        have a2 := h1 (prI e) (prI_rg hN.1 ⟨q1, q2⟩).1 (prI_rg hN.1 ⟨q1, q2⟩).2
        by_cases f1 : e = prI (via v)
        · rw [f1, prI_pr, e1, e2]
          rw [f1, prI_pr] at a1
          exact ⟨by omega, by omega⟩
        · by_cases f2 : e = via v
          · rw [f2, e1, e2]
            rw [f2] at a1
            exact ⟨by omega, by omega⟩
          · rw [e3 e f2 f1, e3 (prI e) (fun z => f1 (by rw [← z, prI_pr])) (fun z => f2 (by have := congrArg prI z; rw [prI_pr, prI_pr] at this; exact this))]
            exact a1
      · by_cases f1 : e = prI (via v)
        · exfalso
          rw [f1] at q4
          have := hN.2 (via v) t1.1 t1.2
          rw [this.2.2.2.1, this.2.2.2.2.1, hA.1, hA.2] at q4
          exact absurd q4 (by decide)
        · by_cases f2 : e = via v
          · exfalso
            rw [f2, hA.1, hA.2] at q4
            exact absurd q4 (by decide)
          · rw [e3 e f2 f1]; exact h2 e q1 q2 q3 q4
      · have hx2 := h3 x ⟨c0, .inr hx⟩
        have hrk := pi_rk ht k (tl (via v)) t3 x hx
        have hx3 := pi_ind (Pr := fun _ => True) (fun _ _ _ _ => trivial) ht k (tl (via v)) t3 trivial x hx
        have hxe := (ht x hx3.1 hx3.2.1).2.1
        have f2 : via x ≠ via v := fun z => by
          have : x = v := by rw [← hxe, z, t2]
          rw [this] at hrk
          omega
        by_cases f1 : via x = prI (via v)
        · rw [f1, e2]
          rw [f1] at hx2
          omega
        · rw [e3 _ f2 f1]; exact hx2
      · rw [py y, h4 y, t2, Int.add_assoc, ← Int.mul_add]
        congr 2; omega
      · rw [pw, h5, Int.add_assoc, ← Int.mul_add, hb v c0 hv']
        congr 2; omega
/-- all of it: what is sent is the least room of the way -/
theorem pu_ok (hN : ntOk E tl hd gn) (hI : flI E tl hd c al S Tk r F) (ht : trI E tl hd r via rk S) (hal : ∀ v, v ≠ S → via v ≠ -1 → al (tl (via v)) = true ∧ al (hd (via v)) = true) (hT : via Tk ≠ -1)
    (hw : ∀ e, 0 ≤ e → e < E → w (prI e) = - w e) (hb : ∀ v, v ≠ S → via v ≠ -1 → b v = b (tl (via v)) + w (via v)) {k : Nat} (hk : rk Tk < k) {n : Int} (hn : n = pmN tl via r S k Tk 99) :
    (1 ≤ n ∧ n ≤ 99) ∧ flI E tl hd c al S Tk (puN tl via S n k Tk r) (F + n) ∧ flL E (puN tl via S n k Tk r) w = flL E r w + n * (b Tk - b S) ∧ (∀ e, 0 < puN tl via S n k Tk r e → 0 < r e ∨ ∃ x, piN tl via S x k Tk ∧ e = prI (via x)) := by
  obtain ⟨m1, m2⟩ := pm_sp ht k Tk 99 (.inr hT) (by decide)
  rw [← hn] at m1 m2
  obtain ⟨q1, q2, q3, q4, q5⟩ := pu_sp (c := c) (F := F) (W := flL E r w) (Tk := Tk) hN (by omega) ht hal hw hb k Tk r (.inr hT) hk hI.1 hI.2.1 m2 (fun y => by rw [hI.2.2 y, Int.sub_self, Int.mul_zero, Int.add_zero]) (by rw [Int.sub_self, Int.mul_zero, Int.add_zero])
  exact ⟨m1, ⟨q1, q2, fun y => by rw [q3 y, Int.add_mul]⟩, q4, q5⟩
/-- potentials that no room breaks stay such when people are sent along a way that is tight for them -/
theorem po_push (hN : ntOk E tl hd gn) (ht : trI E tl hd r via rk S) (hal : ∀ v, v ≠ S → via v ≠ -1 → al (tl (via v)) = true ∧ al (hd (via v)) = true) (hT : via Tk ≠ -1) {k : Nat}
    (hC : flC E tl hd gn al r p) (hb : ∀ v, v ≠ S → via v ≠ -1 → b v = b (tl (via v)) + gn (via v)) {β : Int} (hp : ∀ v, v = S ∨ via v ≠ -1 → b v - β ≤ p v) (hTk : p Tk = b Tk - β)
    (hr : ∀ e, 0 < r' e → 0 < r e ∨ ∃ x, piN tl via S x k Tk ∧ e = prI (via x)) : flC E tl hd gn al r' p := by
  have tight : ∀ x, piN tl via S x k Tk → x ≠ S ∧ via x ≠ -1 ∧ p x = b x - β ∧ p (tl (via x)) = b (tl (via x)) - β := fun x hx =>
    pi_ind (Pr := fun x => p x = b x - β) (fun x x1 x2 x3 => by
      obtain ⟨t1, t2, t3, t4, t5⟩ := ht x x1 x2
      have hA := hal x x1 x2
      have h1 := hC (via x) t1.1 t1.2 hA.1 hA.2 t4
      have h2 := hp (tl (via x)) t3
      have h3 := hb x x1 x2
      rw [t2] at h1
      show p (tl (via x)) = b (tl (via x)) - β
      omega) ht k Tk (.inr hT) hTk x hx
  intro e e1 e2 a1 a2 hre
  rcases hr e hre with q | ⟨x, q1, q2⟩
  · exact hC e e1 e2 a1 a2 q
  · obtain ⟨x1, x2, x3, x4⟩ := tight x q1
    obtain ⟨t1, t2, -⟩ := ht x x1 x2
    have := hN.2 (via x) t1.1 t1.2
    rw [q2, this.2.2.2.1, this.2.2.2.2.1, this.2.2.2.2.2.1, t2]
    have h3 := hb x x1 x2
    omega
/-- potentials raised to labels that no room breaks -/
theorem po_up (hC : flC E tl hd gn al r p) (hp : ∀ v, -13 ≤ p v) {far : Int → Int} {β : Int} (hβ : 0 < β) (hf : ∀ e, 0 ≤ e → e < E → al (tl e) = true → al (hd e) = true → 0 < r e → far (tl e) ≠ -1000000 → far (tl e) + gn e ≤ far (hd e)) : flC E tl hd gn al r (fun v => max (far v - β) (p v)) := by
  intro e e1 e2 a1 a2 hr
  have h1 := hC e e1 e2 a1 a2 hr
  have h2 := hf e e1 e2 a1 a2 hr
  have h3 := hp (tl e)
  show max (far (tl e) - β) (p (tl e)) + gn e ≤ max (far (hd e) - β) (p (hd e))
  by_cases q : far (tl e) = -1000000
  · rw [q]; omega
  · have := h2 q; omega
end M71
