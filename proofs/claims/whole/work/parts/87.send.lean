/-! nets: the reference sends along its way -/
def viM (D : xD) (v : Int) : Int := if 0 ≤ v ∧ v < 120 then D 108 v else -1
def frP (r c : Int → Int) (E n : Int) (tl via : Int → Int) (S : Int) (k : Nat) (v : Int) : Prop := (∀ e, 0 ≤ e → e < E → 0 ≤ r e ∧ r e + r (prI e) = c e) ∧ ∀ x, piN tl via S x k v → n ≤ r (via x)
section M87
variable {E x1 x2 x3 x4 n m u h v e B S K : Int} {D D' D1 D2 : xD} {tl hd gn c r via p b : Int → Int} {rk : Int → Nat} {o1 o2 o3 o4 : Option xv} {Q : Option xv → xD → Prop}
theorem ixor_2 (h : 0 ≤ e ∧ e < 1400) : ixor e 1 = prI e := by
  have key : ∀ k : Fin 1400, ixor ((k.val : Nat) : Int) 1 = prI ((k.val : Nat) : Int) := by unfold prI; decide +kernel
  have := key ⟨e.toNat, by omega⟩
  have e1 : ((e.toNat : Nat) : Int) = e := by omega
  simp only [e1] at this
  exact this
/-- one step of a push keeps what it asks for -/
theorem pu_step (hN : ntOk E tl hd gn) (hn : 0 ≤ n) {r0 : Int → Int} (ht : trI E tl hd r0 via rk S) {k : Nat} (hv : v ≠ S ∧ via v ≠ -1) (hk : rk v < k + 1) (hP : frP r c E n tl via S (k + 1) v) :
    (n ≤ r (via v) ∧ r (prI (via v)) + n ≤ c (via v)) ∧ frP (puR via n v r) c E n tl via S k (tl (via v)) := by
  obtain ⟨h1, h3⟩ := hP
  obtain ⟨c0, hv'⟩ := hv
  obtain ⟨t1, t2, t3, t4, t5⟩ := ht v c0 hv'
  have hr := h3 v ⟨c0, .inl rfl⟩
  have hp := prI_rg hN.1 t1
  have hne := prI_ne (via v)
  have e1 : puR via n v r (via v) = r (via v) - n := by unfold puR; rw [if_neg (fun z => hne z.symm), if_pos rfl]
  have e2 : puR via n v r (prI (via v)) = r (prI (via v)) + n := by unfold puR; rw [if_pos rfl]
  have e3 : ∀ j, j ≠ via v → j ≠ prI (via v) → puR via n v r j = r j := fun j j1 j2 => by unfold puR; rw [if_neg j2, if_neg j1]
  refine ⟨⟨hr, by have := h1 _ t1.1 t1.2; omega⟩, fun e q1 q2 => ?_, fun x hx => ?_⟩
  · have a1 := h1 e q1 q2
    have a2 := h1 (prI e) (prI_rg hN.1 ⟨q1, q2⟩).1 (prI_rg hN.1 ⟨q1, q2⟩).2
    by_cases f1 : e = prI (via v)
    · rw [f1, prI_pr, e1, e2]
      rw [f1, prI_pr] at a1
      exact ⟨by omega, by omega⟩
    · by_cases f2 : e = via v
      · rw [f2, e1, e2]
        rw [f2] at a1
        exact ⟨by omega, by omega⟩
      · rw [e3 e f2 f1, e3 (prI e) (fun z => f1 (by rw [← z, prI_pr])) (fun z => f2 (by have := congrArg prI z; rw [prI_pr, prI_pr] at this; exact this))]
        exact a1
  · have hx2 := h3 x ⟨c0, .inr hx⟩
    have hrk := pi_rk ht k (tl (via v)) t3 x hx
    have hx3 := pi_ind (Pr := fun _ => True) (fun _ _ _ _ => trivial) ht k (tl (via v)) t3 trivial x hx
    have hxe := (ht x hx3.1 hx3.2.1).2.1
    have f2 : via x ≠ via v := fun z => by
      have : x = v := by rw [← hxe, z, t2]
      rw [this] at hrk
      omega
    by_cases f1 : via x = prI (via v)
    · rw [f1, e2]
      rw [f1] at hx2
      omega
    · rw [e3 _ f2 f1]; exact hx2
theorem vm_in (hv : 0 ≤ v ∧ v < 120) : viM D v = D 108 v := by unfold viM; rw [if_pos hv]
theorem se_tr (hS : mlS D) (hI : seI D p b (D' 108) rk) : trI (D 95 21) (D 100) (D 101) (D 102) (viM D') rk 0 := fun v v1 v2 => by
  have hv : 0 ≤ v ∧ v < 120 := by
    unfold viM at v2
    by_cases c : 0 ≤ v ∧ v < 120
    · exact c
    · rw [if_neg c] at v2; exact absurd rfl v2
  rw [vm_in hv] at v2 ⊢
  obtain ⟨a1, a2, a3, a4, a5, a6, a7⟩ := hI.2.2 v hv.1 hv.2 v2
  have hN := hS.2.2.1.2 _ a1.1 a1.2
  exact ⟨a1, a2, a3.imp id (fun z => by rw [vm_in hN.1]; exact z), a4, a6⟩
/-- the least room of the way -/
theorem l189a (hS : mlS D) (ht : trI (D 95 21) (D 100) (D 101) (D 102) (viM D) rk 0) :
    ∀ (k : Nat) (x3 x4 : Int), (x4 = 0 ∨ viM D x4 ≠ -1) → rk x4 < k → WP 124 xF1 none 189 74 [some (.inr (.inr (some 95))), some (.inl h), some (.inl x2), some (.inl (pmN (D 100) (viM D) (D 102) 0 k x4 x3)), some (.inl 1)] [] D Q →
    WP 124 xF1 none 189 20 [some (.inr (.inr (some 95))), some (.inl h), some (.inl x2), some (.inl x3), some (.inl x4)] [] D Q := by
  intro k
  induction k with
  | zero => intro x3 x4 h1 h2; omega
  | succ k ih =>
    intro x3 x4 h1 h2 h3
    rw [seg189_20 (ha0 := ho95)]
    simp only [pmN] at h3
    by_cases c : x4 = 0
    · rw [brT c]
      rw [if_pos c] at h3
      exact h3
    · rw [brF c]
      rw [if_neg c] at h3
      have h1' := h1.resolve_left c
      obtain ⟨t1, t2, t3, t4, t5⟩ := ht x4 c h1'
      have hx4 : 0 ≤ x4 ∧ x4 < 120 := by rw [← t2]; exact (hS.2.2.1.2 _ t1.1 t1.2).2.1
      have hE := hS.1
      simp only [Nat.reduceAdd]
      rw [← vm_in (D := D) hx4, cnB (by omega), cnB (by omega)]
      have fin : WP 124 xF1 none 189 54 [some (.inr (.inr (some 95))), some (.inl h), some (.inl x2), some (.inl (min x3 (D 102 (viM D x4)))), some (.inl x4)] [] D Q := by
        rw [seg189_54 (ha0 := ho95)]
        simp only [Nat.reduceAdd]
        rw [← vm_in (D := D) hx4, cnB (by omega), cnB (by omega)]
        exact ih _ _ t3 (by omega) h3
      by_cases c2 : x3 ≤ D 102 (viM D x4)
      · rw [brT c2]
        rw [show min x3 (D 102 (viM D x4)) = x3 by omega] at fin
        exact fin
      · rw [brF c2, cnB (by omega), cnB (by omega)]
        rw [show min x3 (D 102 (viM D x4)) = D 102 (viM D x4) by omega] at fin
        exact fin
theorem l189b (hS : mlS D) (ht : trI (D 95 21) (D 100) (D 101) (D 102) (viM D) rk 0) (hn : 0 ≤ n ∧ n ≤ 99) (hc : ∀ e, 0 ≤ e → e < D 95 21 → c e ≤ 1000) :
    ∀ (k : Nat) (x4 : Int) (D' : xD), (x4 = 0 ∨ viM D x4 ≠ -1) → rk x4 < k → (∀ a, a ≠ 102 → D' a = D a) → frP (D' 102) c (D 95 21) n (D 100) (viM D) 0 k x4 →
    (∀ D2 : xD, (∀ a, a ≠ 102 → D2 a = D a) → D2 102 = puN (D 100) (viM D) 0 n k x4 (D' 102) → WP 124 xF1 none 189 74 [some (.inr (.inr (some 95))), some (.inl h), some (.inl x2), some (.inl n), some (.inl 0)] [] D2 Q) →
    WP 124 xF1 none 189 74 [some (.inr (.inr (some 95))), some (.inl h), some (.inl x2), some (.inl n), some (.inl x4)] [] D' Q := by
  intro k
  induction k with
  | zero => intro x4 D' h1 h2; omega
  | succ k ih =>
    intro x4 D' h1 h2 h3 h4 h5
    simp only [puN] at h5
    by_cases c0 : x4 = 0
    · rw [if_pos c0] at h5
      rw [c0]
      exact h5 D' h3 rfl
    · rw [if_neg c0] at h5
      have h1' := h1.resolve_left c0
      obtain ⟨t1, t2, t3, t4, t5⟩ := ht x4 c0 h1'
      have hx4 : 0 ≤ x4 ∧ x4 < 120 := by rw [← t2]; exact (hS.2.2.1.2 _ t1.1 t1.2).2.1
      have hE := hS.1
      obtain ⟨⟨s1, s2⟩, s3⟩ := pu_step hS.2.2.1 hn.1 ht ⟨c0, h1'⟩ h2 h4
      have s0 := h4.1 _ t1.1 t1.2
      have cb := hc _ t1.1 t1.2
      have rp := prI_rg ⟨hE.1, hE.2.2⟩ t1
      have s00 := h4.1 _ rp.1 rp.2
      have np := prI_ne (viM D x4)
      have f100 := h3 100 (by decide)
      have ev : D' 108 x4 = viM D x4 := by rw [h3 108 (by decide), vm_in hx4]
      have e2 : xup D' 102 (viM D x4) (D' 102 (viM D x4) - n) 102 (prI (viM D x4)) = D' 102 (prI (viM D x4)) := by rw [up_at, if_neg np]
      have e61 : xup (xup D' 102 (viM D x4) (D' 102 (viM D x4) - n)) 102 (prI (viM D x4)) (D' 102 (prI (viM D x4)) + n) 102 = puR (viM D) n x4 (D' 102) := by
        funext j
        unfold puR
        rw [up_at, up_at]
      have ix : ixor (viM D x4) 1 = prI (viM D x4) := ixor_2 (by omega)
      rw [seg189_74 (ha0 := ho95), brF c0]
      simp only [Nat.reduceAdd]
      rw [cnB (by omega), ev, cnB (by omega), cnX (by omega), cnB (by omega), cnB (by omega), ix, cnB (by omega), e2, cnX (by omega), cnB (by omega), cnB (by omega), cnB (by omega), f100]
      refine ih _ _ t3 (by omega) (fun a ha => by rw [up_ne ha, up_ne ha]; exact h3 a ha) (by rw [e61]; exact s3) (fun D2 g1 g2 => h5 D2 g1 ?_)
      rw [e61] at g2; exact g2
end M87
