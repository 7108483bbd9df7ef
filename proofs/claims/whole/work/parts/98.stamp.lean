/-! labels with stamps: by which pass a node was last bettered -/
def lbI (E : Int) (tl hd gn : Int → Int) (ok : Int → Prop) (S : Int) (p b vi : Int → Int) (rk : Int → Nat) (st : Int → Int) : Prop :=
  (b S = 0 ∧ vi S = -1) ∧
  (∀ v, 0 ≤ v → v < 120 → (-1000000 ≤ b v ∧ b v ≤ p v - p S) ∧ (v ≠ S → vi v = -1 → b v = -1000000) ∧ 0 ≤ st v ∧ (vi v = -1 → st v = 0)) ∧
  (∀ v, 0 ≤ v → v < 120 → vi v ≠ -1 → (0 ≤ vi v ∧ vi v < E) ∧ hd (vi v) = v ∧ (tl (vi v) = S ∨ vi (tl (vi v)) ≠ -1) ∧ ok (vi v) ∧ b v ≤ b (tl (vi v)) + gn (vi v) ∧ rk (tl (vi v)) < rk v ∧ -1000000 < b v ∧ st v ≤ st (tl (vi v)) + 1)
def paL (tl vi : Int → Int) (x : Int) : Int := if vi x = -1 then x else tl (vi x)
def itL (tl vi : Int → Int) : Nat → Int → Int
  | 0, x => x
  | k + 1, x => itL tl vi k (paL tl vi x)
section M98
variable {E S n m u h v e B k : Int} {tl hd gn p b vi b' vi' st st' : Int → Int} {ok : Int → Prop} {rk : Int → Nat}
theorem itL_le (hN : ntOk E tl hd gn) (hP : ∀ e, 0 ≤ e → e < E → ok e → p (tl e) + gn e ≤ p (hd e)) (hI : lbI E tl hd gn ok S p b vi rk st) : ∀ (k : Nat) (x : Int), 0 ≤ x → x < 120 → b x - p x ≤ b (itL tl vi k x) - p (itL tl vi k x) := by
  intro k
  induction k with
  | zero => intro x _ _; exact Int.le_refl _
  | succ k ih =>
    intro x x1 x2
    simp only [itL]
    by_cases c : vi x = -1
    · have e : paL tl vi x = x := by unfold paL; rw [if_pos c]
      rw [e]; exact ih x x1 x2
    · have e : paL tl vi x = tl (vi x) := by unfold paL; rw [if_neg c]
      obtain ⟨a1, a2, a3, a4, a5, a6⟩ := hI.2.2 x x1 x2 c
      have hN1 := hN.2 _ a1.1 a1.2
      have hC := hP _ a1.1 a1.2 a4
      rw [a2] at hC
      rw [e]
      have := ih (tl (vi x)) hN1.1.1 hN1.1.2
      omega
theorem lb_up (hN : ntOk E tl hd gn) (hP : ∀ e, 0 ≤ e → e < E → ok e → p (tl e) + gn e ≤ p (hd e)) (hI : lbI E tl hd gn ok S p b vi rk st) (he : 0 ≤ e ∧ e < E) (hr : ok e) (hu : tl e = S ∨ vi (tl e) ≠ -1) (hb : b (hd e) < b (tl e) + gn e) (hk : 0 ≤ k ∧ k ≤ st (tl e) + 1) (hk2 : st (hd e) ≤ k)
    (hB : ∀ j, b' j = if j = hd e then b (tl e) + gn e else b j) (hV : ∀ j, vi' j = if j = hd e then e else vi j) (hS' : ∀ j, st' j = if j = hd e then k else st j) : hd e ≠ S ∧ ∃ rk', lbI E tl hd gn ok S p b' vi' rk' st' := by
  obtain ⟨h, hh⟩ : ∃ h, h = hd e := ⟨_, rfl⟩
  obtain ⟨u, huu⟩ : ∃ u, u = tl e := ⟨_, rfl⟩
  have hNe := hN.2 e he.1 he.2
  have hC := hP e he.1 he.2 hr
  rw [← hh, ← huu] at hNe hC
  rw [← hh, ← huu] at hB
  rw [← hh] at hV hS' hk2
  rw [← huu] at hu hk
  rw [← hh, ← huu] at hb
  rw [← hh]
  obtain ⟨⟨i1, i2⟩, i3, i4⟩ := id hI
  have bu := i3 u hNe.1.1 hNe.1.2
  have bh := i3 h hNe.2.1.1 hNe.2.1.2
  have h0 : h ≠ S := fun z => by
    rw [z] at hb hC
    rw [i1] at hb
    omega
  refine ⟨h0, ?_⟩
  have nd : ¬ ∃ k, itL tl vi k u = h := fun ⟨k, hk⟩ => by
    have := itL_le hN hP hI k u hNe.1.1 hNe.1.2
    rw [hk] at this
    omega
  have dp : ∀ x, x ≠ h → vi x ≠ -1 → ((∃ k, itL tl vi k x = h) ↔ ∃ k, itL tl vi k (tl (vi x)) = h) := fun x hx hv => by
    have e : paL tl vi x = tl (vi x) := by unfold paL; rw [if_neg hv]
    constructor
    · intro ⟨k, hk⟩
      cases k with
      | zero => exact absurd hk hx
      | succ k => exact ⟨k, by rw [← e]; exact hk⟩
    · intro ⟨k, hk⟩
      exact ⟨k + 1, by simp only [itL]; rw [e]; exact hk⟩
  have uh : u ≠ h := hNe.2.2.1
  haveI : ∀ x, Decidable (∃ k, itL tl vi k x = h) := fun x => Classical.propDecidable _
  refine ⟨fun x => if (∃ k, itL tl vi k x = h) then rk x + rk u + 1 else rk x, ⟨by rw [hB, if_neg (fun z => h0 z.symm)]; exact i1, by rw [hV, if_neg (fun z => h0 z.symm)]; exact i2⟩, fun v v1 v2 => ?_, fun v v1 v2 hv => ?_⟩
  · rw [hB, hV, hS']
    by_cases c : v = h
    · rw [if_pos c, if_pos c, if_pos c, c]
      exact ⟨by omega, fun _ z => by omega, by omega, fun z => by omega⟩
    · rw [if_neg c, if_neg c, if_neg c]; exact i3 v v1 v2
  · rw [hV] at hv ⊢
    by_cases c : v = h
    · rw [if_pos c, ← huu, ← hh, c]
      refine ⟨he, rfl, ?_, hr, ?_, ?_, ?_, ?_⟩
      · rcases hu with q | q
        · exact .inl q
        · right; rw [hV, if_neg uh]; exact q
      · rw [hB, if_pos rfl, hB, if_neg uh]; exact Int.le_refl _
      · show (if (∃ k, itL tl vi k u = h) then rk u + rk u + 1 else rk u) < (if (∃ k, itL tl vi k h = h) then rk h + rk u + 1 else rk h)
        rw [if_neg nd, if_pos ⟨0, rfl⟩]; omega
      · rw [hB, if_pos rfl]; omega
      · rw [hS', if_pos rfl, hS', if_neg uh]; exact hk.2
    · rw [if_neg c] at hv ⊢
      obtain ⟨a1, a2, a3, a4, a5, a6, a7, a8⟩ := i4 v v1 v2 hv
      refine ⟨a1, a2, ?_, a4, ?_, ?_, ?_, ?_⟩
      · rcases a3 with q | q
        · exact .inl q
        · right
          rw [hV]
          by_cases c2 : tl (vi v) = h
          · rw [if_pos c2]; omega
          · rw [if_neg c2]; exact q
      · rw [hB, if_neg c, hB]
        by_cases c2 : tl (vi v) = h
        · rw [if_pos c2]; rw [c2] at a5; omega
        · rw [if_neg c2]; exact a5
      · show (if (∃ k, itL tl vi k (tl (vi v)) = h) then rk (tl (vi v)) + rk u + 1 else rk (tl (vi v))) < (if (∃ k, itL tl vi k v = h) then rk v + rk u + 1 else rk v)
        by_cases c3 : ∃ k, itL tl vi k (tl (vi v)) = h
        · rw [if_pos c3, if_pos ((dp v c hv).mpr c3)]; omega
        · rw [if_neg c3, if_neg (fun z => c3 ((dp v c hv).mp z))]; exact a6
      · rw [hB, if_neg c]; exact a7
      · rw [hS', if_neg c, hS']
        by_cases c2 : tl (vi v) = h
        · rw [if_pos c2]; rw [c2] at a8; omega
        · rw [if_neg c2]; exact a8
/-- stamps are not above the count of lower ranks -/
def lwC (rk : Int → Nat) (v : Int) : Int := smI (fun u => if rk u < rk v then 1 else 0) 0 120
theorem lw_lt {v u : Int} (hu : 0 ≤ u ∧ u < 120) (h : rk u < rk v) : lwC rk u + 1 ≤ lwC rk v := by
  unfold lwC
  refine (smI_mono (f := fun x => if rk x < rk u then 1 else 0) (g := fun x => if rk x < rk v then 1 else 0) 120 0 (fun j _ _ => ?_)).2 ⟨u, ⟨by omega, by omega⟩, ?_⟩
  · show (if rk j < rk u then (1 : Int) else 0) ≤ (if rk j < rk v then (1 : Int) else 0)
    by_cases c : rk j < rk u
    · rw [if_pos c, if_pos (by omega)]; exact Int.le_refl _
    · rw [if_neg c]; split <;> decide
  · show (if rk u < rk u then (1 : Int) else 0) + 1 ≤ (if rk u < rk v then (1 : Int) else 0)
    rw [if_neg (by omega), if_pos h]; decide
theorem lw_119 (hv : 0 ≤ v ∧ v < 120) : 0 ≤ lwC rk v ∧ lwC rk v ≤ 119 := by
  have a := sm_bd (f := fun u => if rk u < rk v then (1 : Int) else 0) 120 0 (fun j _ _ => by show 0 ≤ (if _ then (1 : Int) else 0) ∧ (if _ then (1 : Int) else 0) ≤ 1; split <;> decide)
  refine ⟨a.1, ?_⟩
  have b := smI_pt (f := fun u => if rk u < rk v then (1 : Int) else 0) (g := fun u => if u = v then 1 else if rk u < rk v then (1 : Int) else 0) 120 0 v 1 (by omega) (by omega) (fun j hj => by show (if j = v then (1 : Int) else _) = _; rw [if_neg hj]) (by
    show (if v = v then (1 : Int) else _) = (if rk v < rk v then (1 : Int) else 0) + 1
    rw [if_pos rfl, if_neg (by omega)]; rfl)
  have c := sm_bd (f := fun u => if u = v then 1 else if rk u < rk v then (1 : Int) else 0) 120 0 (fun j _ _ => by
    show 0 ≤ (if j = v then (1 : Int) else if rk j < rk v then 1 else 0) ∧ (if j = v then (1 : Int) else if rk j < rk v then 1 else 0) ≤ 1
    (repeat' split) <;> decide)
  unfold lwC
  omega
theorem st_le (hN : ntOk E tl hd gn) (hI : lbI E tl hd gn ok S p b vi rk st) : ∀ (k : Nat) (v : Int), rk v ≤ k → 0 ≤ v → v < 120 → st v ≤ lwC rk v := by
  intro k
  induction k with
  | zero =>
    intro v h1 h2 h3
    by_cases c : vi v = -1
    · rw [(hI.2.1 v h2 h3).2.2.2 c]; exact (lw_119 ⟨h2, h3⟩).1
    · have := (hI.2.2 v h2 h3 c).2.2.2.2.2.1
      omega
  | succ k ih =>
    intro v h1 h2 h3
    by_cases c : vi v = -1
    · rw [(hI.2.1 v h2 h3).2.2.2 c]; exact (lw_119 ⟨h2, h3⟩).1
    · obtain ⟨a1, a2, a3, a4, a5, a6, a7, a8⟩ := hI.2.2 v h2 h3 c
      have hN1 := (hN.2 _ a1.1 a1.2).1
      have i := ih (tl (vi v)) (by omega) hN1.1 hN1.2
      have l := lw_lt hN1 a6
      omega
end M98
