/-! nets: the class's search -/
def viA (D : xD) (v : Int) : Int := if 0 ≤ v ∧ v < 120 then D 65 v else -1
def okA (D : xD) (h tg e : Int) : Prop := 0 < D 61 e ∧ alH h (D 60 e) = true ∧ (tg = 0 ∨ D 67 (D 60 (prI e)) + D 63 e = D 67 (D 60 e))
def sfF (D' D : xD) : Prop := ∀ a, a ≠ 65 → a ≠ 66 → D' a = D a
/-- what is seen hangs on 118 -/
def srT (D : xD) (via : Int → Int) (h tg : Int) (rk : Int → Nat) : Prop := via 118 ≠ -1 ∧ ∀ v, v ≠ 118 → via v ≠ -1 → (0 ≤ via v ∧ via v < D 57 0) ∧ D 60 (via v) = v ∧ via (D 60 (prI (via v))) ≠ -1 ∧ okA D h tg (via v) ∧ rk (D 60 (prI (via v))) < rk v
/-- in the midst: n seen, all in the queue -/
def srQ (via qu : Int → Int) (n : Int) (rk : Int → Nat) : Prop := via 119 = -1 ∧ smI (fun v => if via v = -1 then 0 else 1) 0 120 = n ∧ (∀ i, 0 ≤ i → i < n → (0 ≤ qu i ∧ qu i < 120) ∧ via (qu i) ≠ -1 ∧ ((rk (qu i) : Nat) : Int) = i) ∧ ∀ v, via v ≠ -1 → (0 ≤ v ∧ v < 120) ∧ ∃ i, (0 ≤ i ∧ i < n) ∧ qu i = v
/-- the arcs P of seen nodes lead to seen ones -/
def srC (D : xD) (via : Int → Int) (h tg : Int) (P : Int → Prop) : Prop := ∀ e, 0 ≤ e → e < D 57 0 → P e → okA D h tg e → via (D 60 e) ≠ -1
section M75
variable {E x1 x2 x3 x4 x5 x6 x7 x8 x9 n m h tg v e k : Int} {D D' D1 D2 : xD} {via via' qu qu' c : Int → Int} {rk : Int → Nat} {P : Int → Prop} {o3 o4 o5 o6 o7 o8 o9 : Option xv} {V : (Int → Int → Int → Int → Int) → Int} {Q : Option xv → xD → Prop}
theorem irm_13 (h : 0 ≤ v ∧ v < 104) : irm v 13 = v % 13 := by
  have key : ∀ k : Fin 104, irm ((k.val : Nat) : Int) 13 = ((k.val : Nat) : Int) % 13 := by decide +kernel
  have := key ⟨v.toNat, by omega⟩
  have e : ((v.toNat : Nat) : Int) = v := by omega
  simp only [e] at this
  exact this
theorem ixor_1 (h : 0 ≤ e ∧ e < 1016) : ixor e 1 = prI e := by
  have key : ∀ k : Fin 1016, ixor ((k.val : Nat) : Int) 1 = prI ((k.val : Nat) : Int) := by unfold prI; decide +kernel
  have := key ⟨e.toNat, by omega⟩
  have e1 : ((e.toNat : Nat) : Int) = e := by omega
  simp only [e1] at this
  exact this
theorem m37 (hv : 0 ≤ x1) : WP 124 xF1 none 37 0 [some (.inr (.inr (some 57))), some (.inl x1), some (.inl h)] [] D Q = Q (some (.inl (if alH h x1 = true then 0 else 1))) D := by
  rw [seg37_0 (ha0 := ho57)]
  by_cases c1 : 104 ≤ x1
  · rw [brT c1, seg37_18 (ha0 := ho57), seg37_19 (ha0 := ho57), al_big c1, if_pos rfl]
    simp
  · rw [brF c1, irm_13 (by omega)]
    simp only [ne_eq, show ¬ ((13 : Int) = 0) by decide, not_false_eq_true, true_and]
    by_cases c2 : x1 % 13 ≤ h
    · rw [brT c2, seg37_18 (ha0 := ho57), seg37_19 (ha0 := ho57), if_pos (show alH h x1 = true by unfold alH; rw [decide_eq_false (show ¬ h < x1 % 13 by omega), Bool.and_false]; rfl)]
      simp
    · rw [brF c2, seg37_19 (ha0 := ho57), if_neg (show ¬ alH h x1 = true by unfold alH; rw [decide_eq_true (show h < x1 % 13 by omega), decide_eq_true (show x1 < 104 by omega)]; decide)]
      simp
theorem sm_one : ∀ (k : Nat) (i : Int) (f : Int → Int), (∀ j, f j ≤ 1) → smI f i k ≤ k := by
  intro k
  induction k with
  | zero => intro i f _; exact Int.le_refl _
  | succ k ih =>
    intro i f hf
    simp only [smI]
    have h1 := ih (i + 1) f hf
    have h2 := hf i
    omega
theorem sr_cnt (hQ : srQ via qu n rk) : n ≤ 119 := by
  obtain ⟨h1, h2, -⟩ := hQ
  have := smI_last (f := fun v => if via v = -1 then (0 : Int) else 1) 119 0
  have l := sm_one 119 0 (fun v => if via v = -1 then (0 : Int) else 1) (fun j => by show (if _ then (0 : Int) else 1) ≤ 1; split <;> decide)
  rw [h2] at this
  have e : (if via (0 + ((119 : Nat) : Int)) = -1 then (0 : Int) else 1) = 0 := by
    rw [if_pos (show via (0 + ((119 : Nat) : Int)) = -1 from h1)]
  rw [e] at this
  omega
theorem st_add {m : Nat} (hT : srT D via h tg rk) (hv : via v = -1) (he : 0 ≤ e ∧ e < D 57 0) (hd : D 60 e = v) (ht : via (D 60 (prI e)) ≠ -1) (hk : okA D h tg e) (hm : rk (D 60 (prI e)) < m) (hV : ∀ u, via' u = if u = v then e else via u) : srT D via' h tg (fun u => if u = v then m else rk u) := by
  obtain ⟨t1, t2⟩ := hT
  have mono : ∀ u, via u ≠ -1 → via' u ≠ -1 := fun u hu => by
    rw [hV]
    by_cases q : u = v
    · rw [if_pos q]; omega
    · rw [if_neg q]; exact hu
  have nv : ∀ u, via u ≠ -1 → u ≠ v := fun u hu z => hu (by rw [z]; exact hv)
  refine ⟨mono _ t1, fun u u1 u2 => ?_⟩
  rw [hV] at u2 ⊢
  by_cases q : u = v
  · rw [if_pos q]
    refine ⟨he, by rw [hd, q], mono _ ht, hk, ?_⟩
    show (if D 60 (prI e) = v then m else rk (D 60 (prI e))) < (if u = v then m else rk u)
    rw [if_pos q, if_neg (nv _ ht)]
    exact hm
  · rw [if_neg q] at u2 ⊢
    obtain ⟨a1, a2, a3, a4, a5⟩ := t2 u u1 u2
    refine ⟨a1, a2, mono _ a3, a4, ?_⟩
    show (if D 60 (prI (via u)) = v then m else rk (D 60 (prI (via u)))) < (if u = v then m else rk u)
    rw [if_neg q, if_neg (nv _ a3)]
    exact a5
theorem sq_add (hQ : srQ via qu n rk) (h0 : 0 ≤ n) (hv : via v = -1) (hr : 0 ≤ v ∧ v < 119) (he : 0 ≤ e) (hV : ∀ u, via' u = if u = v then e else via u) (hU : ∀ i, qu' i = if i = n then v else qu i) : srQ via' qu' (n + 1) (fun u => if u = v then n.toNat else rk u) := by
  obtain ⟨q1, q2, q3, q4⟩ := hQ
  refine ⟨by rw [hV, if_neg (by omega)]; exact q1, ?_, fun i i1 i2 => ?_, fun u hu => ?_⟩
  · have key := smI_pt (f := fun v => if via v = -1 then (0 : Int) else 1) (g := fun v => if via' v = -1 then (0 : Int) else 1) 120 0 v 1 (by omega) (by omega) (fun j hj => ?_) ?_
    · rw [key, q2]
    · show (if via' j = -1 then (0 : Int) else 1) = if via j = -1 then (0 : Int) else 1
      rw [hV, if_neg hj]
    · show (if via' v = -1 then (0 : Int) else 1) = (if via v = -1 then (0 : Int) else 1) + 1
      rw [hV, if_pos rfl, hv, if_neg (by omega)]; rfl
  · rw [hU]
    by_cases q : i = n
    · rw [if_pos q, hV, if_pos rfl]
      refine ⟨by omega, by omega, ?_⟩
      show (((if v = v then n.toNat else rk v) : Nat) : Int) = i
      rw [if_pos rfl]; omega
    · rw [if_neg q]
      obtain ⟨a1, a2, a3⟩ := q3 i i1 (by omega)
      have nv : qu i ≠ v := fun z => a2 (by rw [z]; exact hv)
      refine ⟨a1, by rw [hV, if_neg nv]; exact a2, ?_⟩
      show (((if qu i = v then n.toNat else rk (qu i)) : Nat) : Int) = i
      rw [if_neg nv]; exact a3
  · rw [hV] at hu
    by_cases q : u = v
    · exact ⟨by omega, n, by omega, by rw [hU, if_pos rfl, q]⟩
    · rw [if_neg q] at hu
      obtain ⟨a1, i, a2, a3⟩ := q4 u hu
      exact ⟨a1, i, by omega, by rw [hU, if_neg (by omega)]; exact a3⟩
end M75
