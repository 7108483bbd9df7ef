/-! constructors: sound -/
theorem crun_124 : ∀ (f y p : Nat) (ls : xls) (st : xst) (n : Nat) (F : Nat → Nat → Bool) (D : xD) (p1 : Nat) (ls1 : xls) (st1 : xst) (n1 : Nat) (F1 : Nat → Nat → Bool) (D1 : xD), crun f y p ls st n F D = some (p1, ls1, st1, n1, F1, D1) → n ≤ 124 → n1 ≤ 124 := by
  intro f
  induction f with
  | zero => intro y p ls st n F D p1 ls1 st1 n1 F1 D1 h; cases h
  | succ f ih =>
    intro y p ls st n F D p1 ls1 st1 n1 F1 D1 h hn
    unfold crun at h
    dsimp only at h
    cases e1 : (Nat.beq (xcd y p).1 29 || (Nat.beq y 239 && Nat.beq p 16)) with
    | true => rw [e1] at h; cases h; exact hn
    | false =>
    rw [e1] at h
    cases e2 : Nat.beq (xcd y p).1 40 with
    | true =>
      rw [e2] at h
      simp only [cond_false, cond_true] at h
      cases e3 : (cnew n (10 + (xcd y p).2.2.1) ls st && Nat.blt (xcd y p).2.2.1 11) with
      | true =>
        rw [e3] at h
        simp only [Bool.and_eq_true] at e3
        exact ih _ _ _ _ _ _ _ _ _ _ _ _ _ h (cnew_at e3.1).2.2.1
      | false => rw [e3] at h; cases h
    | false =>
    rw [e2] at h
    cases e3 : Nat.beq (xcd y p).1 41 with
    | true =>
      rw [e3] at h
      simp only [cond_false, cond_true] at h
      split at h
      · rename_i len st
        cases e4 : (cnew n (xcd y p).2.2.1 ls st && decide (len = ((xsh n).2 : Int))) with
        | true =>
          rw [e4] at h
          simp only [Bool.and_eq_true] at e4
          exact ih _ _ _ _ _ _ _ _ _ _ _ _ _ h (cnew_at e4.1).2.2.1
        | false => rw [e4] at h; cases h
      · cases h
    | false =>
    rw [e3] at h
    cases e4 : Nat.beq (xcd y p).1 18 with
    | true =>
      rw [e4] at h
      simp only [cond_false, cond_true] at h
      split at h
      · rename_i b a st
        cases e5 : (xisO n a (xcd y p).2.2.1 && Nat.beq b (a + (xcd y p).2.1.toNat) && Nat.blt b n && xini.contains y) with
        | true => rw [e5] at h; exact ih _ _ _ _ _ _ _ _ _ _ _ _ _ h hn
        | false => rw [e5] at h; cases h
      · cases h
    | false =>
    rw [e4] at h
    cases e5 : (Nat.beq (xcd y p).1 28 && ((xcd y p).2.1 == 2)) with
    | true =>
      rw [e5] at h
      simp only [cond_false, cond_true] at h
      split at h
      · rename_i a st
        cases e6 : (xisO n a (xsg (xcd y p).2.2.1).2.2.2.1 && xini.contains (xcd y p).2.2.1 && Nat.ble (xcat st) 8 && xbnd n ls st) with
        | true =>
          rw [e6] at h
          simp only [cond_true] at h
          split at h
          · rename_i p2 ls2 n2 F2 D2 hc
            cases e7 : (Nat.beq (xcd (xcd y p).2.2.1 p2).1 29 && Nat.beq (xcd (xcd y p).2.2.1 p2).2.2.1 0) with
            | true => rw [e7] at h; exact ih _ _ _ _ _ _ _ _ _ _ _ _ _ h (ih _ _ _ _ _ _ _ _ _ _ _ _ _ hc hn)
            | false => rw [e7] at h; cases h
          · cases h
        | false => rw [e6] at h; cases h
      · cases h
    | false =>
    rw [e5] at h
    cases e6 : Nat.beq (xcd y p).1 28 with
    | true =>
      rw [e6] at h
      simp only [cond_false, cond_true] at h
      split at h
      · rename_i av rest hp
        cases e7 : (xrecv n (xcd y p).2.2.1 av && Nat.ble (xcat rest) 8 && !(Nat.beq (xcd y p).2.2.1 239)) with
        | true =>
          rw [e7] at h
          simp only [cond_true] at h
          split at h
          · exact ih _ _ _ _ _ _ _ _ _ _ _ _ _ h hn
          · cases h
        | false => rw [e7] at h; cases h
      · cases h
    | false =>
      rw [e6] at h
      simp only [cond_false] at h
      split at h
      · exact ih _ _ _ _ _ _ _ _ _ _ _ _ _ h hn
      · cases h
theorem xws_extF {kI kZ : ClassId} {r : Nat → Nat} {F F' : Nat → Nat → Bool} {D : xD} {n a : Nat} {x : va_E} (h0 : 0 < a) (hn : a < n) (hx : xcell kI kZ r F' D a = x) (hF : ∀ b, b ≠ a → F' b = F b) : (xws kI kZ r F D n).set (a - 1) (r a, x) = xws kI kZ r F' D n := by
  apply List.ext_getElem?
  intro j
  by_cases hj : j = a - 1
  · subst hj
    rw [List.getElem?_set_self (by simp [xws]; omega), xws_at h0 hn, hx]
  · rw [List.getElem?_set_ne (Ne.symm hj)]
    simp only [xws, List.getElem?_map]
    by_cases hl : j < n - 1
    · rw [List.getElem?_range hl]
      simp only [Option.map_some]
      have e : xcell kI kZ r F D (j + 1) = xcell kI kZ r F' D (j + 1) := by simp only [xcell, xfld, hF (j + 1) (by omega)]
      rw [e]
    · rw [List.getElem?_eq_none (by simpa using hl)]
      rfl
theorem xuF_ne {F : Nat → Nat → Bool} {a k b : Nat} (h : b ≠ a) : xuF F a k b = F b := by
  funext j
  unfold xuF
  cases hq : Nat.beq b a with
  | false => rfl
  | true => exact absurd (Nat.beq_eq.mp hq) h
theorem xuF_k {F : Nat → Nat → Bool} {a k j : Nat} (h : j ≠ k) : xuF F a k a j = F a j := by
  unfold xuF
  cases hq : Nat.beq j k with
  | false => simp
  | true => exact absurd (Nat.beq_eq.mp hq) h
theorem xuF_s {F : Nat → Nat → Bool} {a k : Nat} : xuF F a k a k = true := by simp [xuF]
theorem xFok.up {n : Nat} {F : Nat → Nat → Bool} {a k : Nat} (h : xFok n F) (h1 : a < n) (h2 : a + (xfk ((xsh a).1 - 10) k).2 < n) : xFok n (xuF F a k) := by
  intro b j hb
  by_cases e : b = a
  · subst e
    by_cases e2 : j = k
    · subst e2
      exact ⟨h1, h2⟩
    · rw [xuF_k e2] at hb
      exact h b j hb
  · rw [xuF_ne e] at hb
    exact h b j hb
section XO
variable {p : Program} {l : Launch} {e : Env} {R : Room} {s : State} {m : MethodId} {args : Array Value} {below : List Frame} {meth : Method} {c : Code} {cells slots : Nat} {Q : State → Prop}
variable {r : Nat → Nat} {nL : Nat} {dd : va_G} {kI kZ : ClassId} {n : Nat} {F : Nat → Nat → Bool} {A : Nat → Prop} {xs : Int → Int} {lo : Option Nat} {adV : Nat → Nat}
variable {y pc : Nat} {ls : xls} {st : xst} {D : xD}

theorem xs_putR (hf : xFix p R s m args c y nL n r dd kI kZ A xs lo adV) {idx kk pos a b : Nat} (hin2 : meth.name = "<init>") (he : ((xsg y).2.2.2.1, idx, (xsg y).2.2.2.1, kk, false, pos) ∈ xfl) (hk3 : (xfk (xsg y).2.2.2.1 kk).1 = 3) (ho : xisO n a (xsg y).2.2.2.1 = true) (hb9 : b = a + (xfk (xsg y).2.2.2.1 kk).2) (hdg : decode (xmb y) pc = .ok (.putfield idx, 3)) (k : xW p l e R s m args below meth c cells slots Q r nL dd kI kZ n (xuF F a kk) A xs (pc + 3) ls st D) : xW p l e R s m args below meth c cells slots Q r nL dd kI kZ n F A xs pc ls (.inr (.inr (some b)) :: .inr (.inr (some a)) :: st) D := by
  obtain ⟨hx, hb, hml, hown, hts, hnw, hK, hR1, hR2, hy, hn, hA, hX, hS, hR⟩ := hf
  intro lls H locs hL hv hM
  generalize hci : (xsg y).2.2.2.1 = ci at *
  obtain ⟨hk, hcl, hw⟩ := xfl_at he
  obtain ⟨ha0, han, hsh⟩ := xisO_iff.mp ho
  have hN : (xsh a).2 = xnf ci := by
    rcases xsh_at ha0 han hn with h | h | h
    · omega
    · omega
    · rw [h.2.2, hsh, Nat.add_sub_cancel_left]
  have hcell := xws_at (kI := kI) (kZ := kZ) (r := r) (F := F) (D := D) ha0 han
  rw [xcell_obj hsh, hN] at hcell
  obtain ⟨ht1, ht2, ht3⟩ := xty_at hcl hk
  have hfin : (xT ci kk).2.2.2 = true := by
    have h := List.all_eq_true.mp (List.all_eq_true.mp xfin_ok ci (List.mem_range.mpr hcl)) kk (List.mem_range.mpr hk)
    rw [hk3] at h
    simpa using h
  have hsame : ∀ x, s.fieldFound? (xT ci kk).1 (xT ci kk).2.1 (xT ci kk).2.2.1 = some x → s.fieldFound? (xcn ci) (xT ci kk).2.1 (xT ci kk).2.2.1 = some x := fun x h => by
    rw [← ht2]
    exact h
  have hrow : ((List.range (xnf ci)).map (fun z => xfld r F D a ci z)).set kk (.ref (r b)) = (List.range (xnf ci)).map (fun z => xfld r (xuF F a kk) D a ci z) := by
    apply List.ext_getElem?
    intro j
    by_cases hj : j = kk
    · subst hj
      rw [List.getElem?_set_self (by simpa using hk), List.getElem?_map, List.getElem?_range hk]
      simp only [Option.map_some, xfld, hk3, xuF_s, if_true, hb9]
    · rw [List.getElem?_set_ne (Ne.symm hj), List.getElem?_map, List.getElem?_map]
      by_cases hl : j < xnf ci
      · rw [List.getElem?_range hl]
        simp only [Option.map_some, xfld, xuF_k hj]
      · rw [List.getElem?_eq_none (by simpa using hl)]
        rfl
  have hx9 : xcell kI kZ r (xuF F a kk) D a = .inr (ci, ((List.range (xnf ci)).map (fun z => xfld r F D a ci z)).set kk (.ref (r b))) := by rw [xcell_obj hsh, hN, hrow]
  have hty : narrow (xty ci kk) (.ref (r b)) = .ref (r b) ∧ fits (xty ci kk) (.ref (r b)) = true := by
    rcases ht3 with h | h | h | ⟨⟨z, h1⟩, h2⟩ | ⟨⟨z, h1⟩, h2⟩
    · rw [h.2] at hk3; simp at hk3
    · rw [h.2] at hk3; simp at hk3
    · rw [h.2] at hk3; simp at hk3
    · rw [h1]; exact ⟨rfl, rfl⟩
    · rw [h1]; exact ⟨rfl, rfl⟩
  refine va_putF (T := xT ci) (N := xnf ci) (ty := xty ci kk) (v := .ref (r b)) hx hb hts (xuw ci hcl) (xty ci) (fun z hz => (xty_at hcl hz).1) (xnm_at hcl) hown hK hM.1 hM.2.1 hM.2.2.1 (a - 1) hcell (xcl_at ci hcl) kk hk (hts _ (xw_in hw rfl)) hsame hfin hin2 ht2 ht1 hty.1 hty.2 (by simpa using hk) hdg (fun H1 locs1 hP hD hS1 => ?_)
  have e := xws_extF (kI := kI) (kZ := kZ) (r := r) (F := F) (F' := xuF F a kk) (D := D) (n := n) ha0 han hx9 (fun b hb => xuF_ne hb)
  rw [e] at hP hD
  exact k lls H1 locs1 hL (List.forall_mem_cons.mp (List.forall_mem_cons.mp hv).2).2 ⟨hP, hD, hS1, hM.2.2.2.1, hM.2.2.2.2⟩
end XO
theorem xok_18 {y pc len : Nat} {ins : Instr} {i : xi} (h : xok y pc ins len i = true) (h9 : i.1 = 18) : ∃ (idx kk pos : Nat), ((xsg y).2.2.2.1, idx, (xsg y).2.2.2.1, kk, false, pos) ∈ xfl ∧ len = 3 ∧ ins = .putfield idx ∧ (xfk (xsg y).2.2.2.1 kk).1 = 3 ∧ i = (18, ((xfk (xsg y).2.2.2.1 kk).2 : Int), (xsg y).2.2.2.1, pc + 3, [kk]) := by
  unfold xok at h
  split at h
  · simp only [Bool.and_eq_true, decide_eq_true_eq] at h
    rw [h.2] at h9
    simp at h9
  · simp only [Bool.and_eq_true, decide_eq_true_eq] at h
    rw [h.2] at h9
    simp at h9
  · simp only [Bool.and_eq_true, decide_eq_true_eq] at h
    rw [h.2] at h9
    simp at h9
  · simp only [Bool.and_eq_true, Bool.or_eq_true, decide_eq_true_eq, List.any_eq_true] at h
    obtain ⟨-, ⟨e9, -, -, -, h⟩ | ⟨e9, -, -, -, h⟩⟩ := h <;> rw [h] at h9 <;> simp at h9
  · simp only [Bool.and_eq_true, decide_eq_true_eq, List.any_eq_true] at h
    obtain ⟨-, e9, -, -, -, h⟩ := h
    rw [h] at h9
    simp at h9
  · simp only [Bool.and_eq_true, decide_eq_true_eq, List.any_eq_true] at h
    obtain ⟨-, e9, -, -, -, h⟩ := h
    rw [h] at h9
    simp at h9
  · simp only [Bool.and_eq_true, decide_eq_true_eq] at h
    rw [h.2] at h9
    simp at h9
  · simp only [Bool.and_eq_true, decide_eq_true_eq] at h
    rw [h.2] at h9
    simp at h9
  · simp only [Bool.and_eq_true, decide_eq_true_eq] at h
    rw [h.2] at h9
    simp at h9
  · simp only [Bool.and_eq_true, decide_eq_true_eq] at h
    rw [h.2] at h9
    simp at h9
  · simp only [Bool.and_eq_true, decide_eq_true_eq] at h
    rw [h.2] at h9
    simp at h9
  · simp only [Bool.and_eq_true, decide_eq_true_eq] at h
    rw [h.2] at h9
    simp at h9
  · simp only [Bool.and_eq_true, decide_eq_true_eq] at h
    rw [h.2] at h9
    simp at h9
  · simp only [Bool.and_eq_true, decide_eq_true_eq] at h
    rw [h.2] at h9
    simp at h9
  · simp only [Bool.and_eq_true, decide_eq_true_eq] at h
    rw [h.2] at h9
    simp at h9
  · simp only [Bool.and_eq_true, decide_eq_true_eq] at h
    rw [h.2] at h9
    simp at h9
  · simp only [Bool.and_eq_true, decide_eq_true_eq] at h
    rw [h.2] at h9
    simp at h9
  · simp only [Bool.and_eq_true, decide_eq_true_eq] at h
    rw [h.2] at h9
    simp at h9
  · simp only [Bool.and_eq_true, decide_eq_true_eq] at h
    rw [h.2] at h9
    simp at h9
  · simp only [Bool.and_eq_true, decide_eq_true_eq] at h
    rw [h.2] at h9
    simp at h9
  · simp only [Bool.and_eq_true, decide_eq_true_eq] at h
    rw [h.2] at h9
    simp at h9
  · simp only [Bool.and_eq_true, decide_eq_true_eq] at h
    rw [h.2] at h9
    simp at h9
  · simp only [Bool.and_eq_true, decide_eq_true_eq] at h
    rw [h.2] at h9
    simp at h9
  · simp only [Bool.and_eq_true, decide_eq_true_eq] at h
    rw [h.2] at h9
    simp at h9
  · simp only [Bool.and_eq_true, decide_eq_true_eq] at h
    rw [h.2] at h9
    simp at h9
  · simp only [Bool.and_eq_true, decide_eq_true_eq] at h
    rw [h.2] at h9
    simp at h9
  · simp only [Bool.and_eq_true, decide_eq_true_eq] at h
    rw [h.2] at h9
    simp at h9
  · simp only [Bool.and_eq_true, decide_eq_true_eq] at h
    rw [h.2] at h9
    simp at h9
  · simp only [Bool.and_eq_true, decide_eq_true_eq] at h
    rw [h.2] at h9
    simp at h9
  · simp only [Bool.and_eq_true, decide_eq_true_eq] at h
    rw [h.2] at h9
    simp at h9
  · simp only [Bool.and_eq_true, decide_eq_true_eq] at h
    rw [h.2] at h9
    simp at h9
  · simp only [Bool.and_eq_true, decide_eq_true_eq] at h
    rw [h.2] at h9
    simp at h9
  · simp only [Bool.and_eq_true, decide_eq_true_eq, List.any_eq_true] at h
    obtain ⟨-, e9, -, -, h⟩ := h
    split at h <;> simp only [decide_eq_true_eq] at h <;> first | (rw [h] at h9; simp at h9; done) | (rw [h.1] at h9; simp at h9; done)
  · rename_i idx
    simp only [Bool.and_eq_true, decide_eq_true_eq, List.any_eq_true] at h
    obtain ⟨hl, ⟨c9, i9, ci, kk, nest, p9⟩, he, ⟨h1, h2⟩, h3⟩ := h
    dsimp only at h1 h2 h3
    subst h1
    subst h2
    split at h3
    · rename_i hf3
      simp only [decide_eq_true_eq] at h3
      obtain ⟨h3, rfl, h5⟩ := h3
      rw [← h5] at hf3 h3 he
      exact ⟨i9, kk, p9, he, hl, rfl, hf3, h3⟩
    · simp only [decide_eq_true_eq] at h3
      rw [h3.1] at h9
      simp at h9
    · simp only [decide_eq_true_eq] at h3
      rw [h3.1] at h9
      simp at h9
  · simp only [Bool.and_eq_true, decide_eq_true_eq] at h
    rw [h.2] at h9
    simp at h9
  · simp only [Bool.and_eq_true, decide_eq_true_eq] at h
    rw [h.2] at h9
    simp at h9
  · simp only [Bool.and_eq_true, decide_eq_true_eq] at h
    rw [h.2] at h9
    simp at h9
  · simp only [Bool.and_eq_true, decide_eq_true_eq] at h
    rw [h.2] at h9
    simp at h9
  · simp only [Bool.and_eq_true, decide_eq_true_eq] at h
    rw [h.2] at h9
    simp at h9
  · simp only [Bool.and_eq_true, decide_eq_true_eq] at h
    rw [h.2.1] at h9
    simp at h9
  · simp only [Bool.and_eq_true, decide_eq_true_eq] at h
    rw [h.2.1] at h9
    simp at h9
  · simp only [Bool.and_eq_true, decide_eq_true_eq] at h
    rw [h.2.1] at h9
    simp at h9
  · simp only [decide_eq_true_eq] at h
    rw [h.1] at h9
    simp at h9
  · simp only [decide_eq_true_eq] at h
    rw [h.1] at h9
    simp at h9
  · simp only [Bool.and_eq_true, Bool.or_eq_true, decide_eq_true_eq, List.any_eq_true] at h
    obtain ⟨-, (⟨e9, -, -, -, h⟩ | ⟨-, h⟩) | ⟨-, h⟩⟩ := h <;> rw [h] at h9 <;> simp at h9
  · simp only [Bool.and_eq_true, Bool.or_eq_true, decide_eq_true_eq, List.any_eq_true] at h
    obtain ⟨-, ⟨e9, -, -, -, h⟩ | ⟨e9, -, -, -, -, h⟩⟩ := h <;> rw [h] at h9 <;> simp at h9
  · simp only [Bool.and_eq_true, Bool.or_eq_true, decide_eq_true_eq, List.any_eq_true] at h
    obtain ⟨-, ⟨e9, -, -, -, h⟩ | ⟨e9, -, -, -, h8, h⟩⟩ := h
    · rw [h] at h9
      simp at h9
    · rw [h] at h9
      dsimp only at h9
      omega
  · simp only [Bool.and_eq_true, decide_eq_true_eq] at h
    rw [h.2] at h9
    simp at h9
  · simp only [Bool.and_eq_true, decide_eq_true_eq] at h
    rw [h.2] at h9
    simp at h9
  · simp only [Bool.and_eq_true, decide_eq_true_eq] at h
    rw [h.2] at h9
    simp at h9
  · simp only [Bool.and_eq_true, decide_eq_true_eq] at h
    rw [h.2] at h9
    simp at h9
  · simp only [Bool.and_eq_true, decide_eq_true_eq] at h
    rw [h.2] at h9
    simp at h9
  · simp only [Bool.and_eq_true, decide_eq_true_eq] at h
    rw [h.2] at h9
    simp at h9
  · simp only [Bool.and_eq_true, decide_eq_true_eq] at h
    rw [h.2] at h9
    simp at h9
  · simp only [Bool.and_eq_true, decide_eq_true_eq] at h
    rw [h.2] at h9
    simp at h9
  · simp only [Bool.and_eq_true, decide_eq_true_eq, List.any_eq_true] at h
    obtain ⟨-, e9, -, -, -, h⟩ := h
    rw [h] at h9
    simp at h9
  · simp only [Bool.and_eq_true, decide_eq_true_eq] at h
    rw [h.2.1] at h9
    simp at h9
  · cases h
theorem xok_40 {y pc len : Nat} {ins : Instr} {i : xi} (h : xok y pc ins len i = true) (h9 : i.1 = 40) : ∃ (idx ci pos : Nat), ((xsg y).2.2.2.1, idx, ci, pos) ∈ xnl ∧ len = 3 ∧ ins = .new idx ∧ i = (40, 0, ci, pc + 3, []) := by
  unfold xok at h
  split at h
  · simp only [Bool.and_eq_true, decide_eq_true_eq] at h
    rw [h.2] at h9
    simp at h9
  · simp only [Bool.and_eq_true, decide_eq_true_eq] at h
    rw [h.2] at h9
    simp at h9
  · simp only [Bool.and_eq_true, decide_eq_true_eq] at h
    rw [h.2] at h9
    simp at h9
  · simp only [Bool.and_eq_true, Bool.or_eq_true, decide_eq_true_eq, List.any_eq_true] at h
    obtain ⟨-, ⟨e9, -, -, -, h⟩ | ⟨e9, -, -, -, h⟩⟩ := h <;> rw [h] at h9 <;> simp at h9
  · simp only [Bool.and_eq_true, decide_eq_true_eq, List.any_eq_true] at h
    obtain ⟨-, e9, -, -, -, h⟩ := h
    rw [h] at h9
    simp at h9
  · simp only [Bool.and_eq_true, decide_eq_true_eq, List.any_eq_true] at h
    obtain ⟨-, e9, -, -, -, h⟩ := h
    rw [h] at h9
    simp at h9
  · simp only [Bool.and_eq_true, decide_eq_true_eq] at h
    rw [h.2] at h9
    simp at h9
  · simp only [Bool.and_eq_true, decide_eq_true_eq] at h
    rw [h.2] at h9
    simp at h9
  · simp only [Bool.and_eq_true, decide_eq_true_eq] at h
    rw [h.2] at h9
    simp at h9
  · simp only [Bool.and_eq_true, decide_eq_true_eq] at h
    rw [h.2] at h9
    simp at h9
  · simp only [Bool.and_eq_true, decide_eq_true_eq] at h
    rw [h.2] at h9
    simp at h9
  · simp only [Bool.and_eq_true, decide_eq_true_eq] at h
    rw [h.2] at h9
    simp at h9
  · simp only [Bool.and_eq_true, decide_eq_true_eq] at h
    rw [h.2] at h9
    simp at h9
  · simp only [Bool.and_eq_true, decide_eq_true_eq] at h
    rw [h.2] at h9
    simp at h9
  · simp only [Bool.and_eq_true, decide_eq_true_eq] at h
    rw [h.2] at h9
    simp at h9
  · simp only [Bool.and_eq_true, decide_eq_true_eq] at h
    rw [h.2] at h9
    simp at h9
  · simp only [Bool.and_eq_true, decide_eq_true_eq] at h
    rw [h.2] at h9
    simp at h9
  · simp only [Bool.and_eq_true, decide_eq_true_eq] at h
    rw [h.2] at h9
    simp at h9
  · simp only [Bool.and_eq_true, decide_eq_true_eq] at h
    rw [h.2] at h9
    simp at h9
  · simp only [Bool.and_eq_true, decide_eq_true_eq] at h
    rw [h.2] at h9
    simp at h9
  · simp only [Bool.and_eq_true, decide_eq_true_eq] at h
    rw [h.2] at h9
    simp at h9
  · simp only [Bool.and_eq_true, decide_eq_true_eq] at h
    rw [h.2] at h9
    simp at h9
  · simp only [Bool.and_eq_true, decide_eq_true_eq] at h
    rw [h.2] at h9
    simp at h9
  · simp only [Bool.and_eq_true, decide_eq_true_eq] at h
    rw [h.2] at h9
    simp at h9
  · simp only [Bool.and_eq_true, decide_eq_true_eq] at h
    rw [h.2] at h9
    simp at h9
  · simp only [Bool.and_eq_true, decide_eq_true_eq] at h
    rw [h.2] at h9
    simp at h9
  · simp only [Bool.and_eq_true, decide_eq_true_eq] at h
    rw [h.2] at h9
    simp at h9
  · simp only [Bool.and_eq_true, decide_eq_true_eq] at h
    rw [h.2] at h9
    simp at h9
  · simp only [Bool.and_eq_true, decide_eq_true_eq] at h
    rw [h.2] at h9
    simp at h9
  · simp only [Bool.and_eq_true, decide_eq_true_eq] at h
    rw [h.2] at h9
    simp at h9
  · simp only [Bool.and_eq_true, decide_eq_true_eq] at h
    rw [h.2] at h9
    simp at h9
  · simp only [Bool.and_eq_true, decide_eq_true_eq] at h
    rw [h.2] at h9
    simp at h9
  · simp only [Bool.and_eq_true, decide_eq_true_eq, List.any_eq_true] at h
    obtain ⟨-, e9, -, -, h⟩ := h
    split at h <;> simp only [decide_eq_true_eq] at h <;> first | (rw [h] at h9; simp at h9; done) | (rw [h.1] at h9; simp at h9; done)
  · simp only [Bool.and_eq_true, decide_eq_true_eq, List.any_eq_true] at h
    obtain ⟨-, e9, -, -, h⟩ := h
    split at h <;> simp only [decide_eq_true_eq] at h <;> first | (rw [h] at h9; simp at h9; done) | (rw [h.1] at h9; simp at h9; done)
  · simp only [Bool.and_eq_true, decide_eq_true_eq] at h
    rw [h.2] at h9
    simp at h9
  · simp only [Bool.and_eq_true, decide_eq_true_eq] at h
    rw [h.2] at h9
    simp at h9
  · simp only [Bool.and_eq_true, decide_eq_true_eq] at h
    rw [h.2] at h9
    simp at h9
  · simp only [Bool.and_eq_true, decide_eq_true_eq] at h
    rw [h.2] at h9
    simp at h9
  · simp only [Bool.and_eq_true, decide_eq_true_eq] at h
    rw [h.2] at h9
    simp at h9
  · simp only [Bool.and_eq_true, decide_eq_true_eq] at h
    rw [h.2.1] at h9
    simp at h9
  · simp only [Bool.and_eq_true, decide_eq_true_eq] at h
    rw [h.2.1] at h9
    simp at h9
  · simp only [Bool.and_eq_true, decide_eq_true_eq] at h
    rw [h.2.1] at h9
    simp at h9
  · simp only [decide_eq_true_eq] at h
    rw [h.1] at h9
    simp at h9
  · simp only [decide_eq_true_eq] at h
    rw [h.1] at h9
    simp at h9
  · simp only [Bool.and_eq_true, Bool.or_eq_true, decide_eq_true_eq, List.any_eq_true] at h
    obtain ⟨-, (⟨e9, -, -, -, h⟩ | ⟨-, h⟩) | ⟨-, h⟩⟩ := h <;> rw [h] at h9 <;> simp at h9
  · simp only [Bool.and_eq_true, Bool.or_eq_true, decide_eq_true_eq, List.any_eq_true] at h
    obtain ⟨-, ⟨e9, -, -, -, h⟩ | ⟨e9, -, -, -, -, h⟩⟩ := h <;> rw [h] at h9 <;> simp at h9
  · simp only [Bool.and_eq_true, Bool.or_eq_true, decide_eq_true_eq, List.any_eq_true] at h
    obtain ⟨-, ⟨e9, -, -, -, h⟩ | ⟨e9, -, -, -, h8, h⟩⟩ := h
    · rw [h] at h9
      simp at h9
    · rw [h] at h9
      dsimp only at h9
      omega
  · simp only [Bool.and_eq_true, decide_eq_true_eq] at h
    rw [h.2] at h9
    simp at h9
  · simp only [Bool.and_eq_true, decide_eq_true_eq] at h
    rw [h.2] at h9
    simp at h9
  · simp only [Bool.and_eq_true, decide_eq_true_eq] at h
    rw [h.2] at h9
    simp at h9
  · simp only [Bool.and_eq_true, decide_eq_true_eq] at h
    rw [h.2] at h9
    simp at h9
  · simp only [Bool.and_eq_true, decide_eq_true_eq] at h
    rw [h.2] at h9
    simp at h9
  · simp only [Bool.and_eq_true, decide_eq_true_eq] at h
    rw [h.2] at h9
    simp at h9
  · simp only [Bool.and_eq_true, decide_eq_true_eq] at h
    rw [h.2] at h9
    simp at h9
  · simp only [Bool.and_eq_true, decide_eq_true_eq] at h
    rw [h.2] at h9
    simp at h9
  · rename_i idx
    simp only [Bool.and_eq_true, decide_eq_true_eq, List.any_eq_true] at h
    obtain ⟨hl, ⟨c9, i9, ci, p9⟩, he, h1, h2, h3⟩ := h
    dsimp only at h1 h2 h3
    subst h1
    subst h2
    exact ⟨i9, ci, p9, he, hl, rfl, h3⟩
  · simp only [Bool.and_eq_true, decide_eq_true_eq] at h
    rw [h.2.1] at h9
    simp at h9
  · cases h
theorem xok_41 {y pc len : Nat} {ins : Instr} {i : xi} (h : xok y pc ins len i = true) (h9 : i.1 = 41) : ∃ (t : ArrayType) (tg : Nat), len = 2 ∧ ins = .newarray t ∧ (t = .int ∨ t = .boolean) ∧ tg = (match t with | .int => 1 | .boolean => 2 | _ => 9) ∧ i = (41, 0, tg, pc + 2, []) := by
  unfold xok at h
  split at h
  · simp only [Bool.and_eq_true, decide_eq_true_eq] at h
    rw [h.2] at h9
    simp at h9
  · simp only [Bool.and_eq_true, decide_eq_true_eq] at h
    rw [h.2] at h9
    simp at h9
  · simp only [Bool.and_eq_true, decide_eq_true_eq] at h
    rw [h.2] at h9
    simp at h9
  · simp only [Bool.and_eq_true, Bool.or_eq_true, decide_eq_true_eq, List.any_eq_true] at h
    obtain ⟨-, ⟨e9, -, -, -, h⟩ | ⟨e9, -, -, -, h⟩⟩ := h <;> rw [h] at h9 <;> simp at h9
  · simp only [Bool.and_eq_true, decide_eq_true_eq, List.any_eq_true] at h
    obtain ⟨-, e9, -, -, -, h⟩ := h
    rw [h] at h9
    simp at h9
  · simp only [Bool.and_eq_true, decide_eq_true_eq, List.any_eq_true] at h
    obtain ⟨-, e9, -, -, -, h⟩ := h
    rw [h] at h9
    simp at h9
  · simp only [Bool.and_eq_true, decide_eq_true_eq] at h
    rw [h.2] at h9
    simp at h9
  · simp only [Bool.and_eq_true, decide_eq_true_eq] at h
    rw [h.2] at h9
    simp at h9
  · simp only [Bool.and_eq_true, decide_eq_true_eq] at h
    rw [h.2] at h9
    simp at h9
  · simp only [Bool.and_eq_true, decide_eq_true_eq] at h
    rw [h.2] at h9
    simp at h9
  · simp only [Bool.and_eq_true, decide_eq_true_eq] at h
    rw [h.2] at h9
    simp at h9
  · simp only [Bool.and_eq_true, decide_eq_true_eq] at h
    rw [h.2] at h9
    simp at h9
  · simp only [Bool.and_eq_true, decide_eq_true_eq] at h
    rw [h.2] at h9
    simp at h9
  · simp only [Bool.and_eq_true, decide_eq_true_eq] at h
    rw [h.2] at h9
    simp at h9
  · simp only [Bool.and_eq_true, decide_eq_true_eq] at h
    rw [h.2] at h9
    simp at h9
  · simp only [Bool.and_eq_true, decide_eq_true_eq] at h
    rw [h.2] at h9
    simp at h9
  · simp only [Bool.and_eq_true, decide_eq_true_eq] at h
    rw [h.2] at h9
    simp at h9
  · simp only [Bool.and_eq_true, decide_eq_true_eq] at h
    rw [h.2] at h9
    simp at h9
  · simp only [Bool.and_eq_true, decide_eq_true_eq] at h
    rw [h.2] at h9
    simp at h9
  · simp only [Bool.and_eq_true, decide_eq_true_eq] at h
    rw [h.2] at h9
    simp at h9
  · simp only [Bool.and_eq_true, decide_eq_true_eq] at h
    rw [h.2] at h9
    simp at h9
  · simp only [Bool.and_eq_true, decide_eq_true_eq] at h
    rw [h.2] at h9
    simp at h9
  · simp only [Bool.and_eq_true, decide_eq_true_eq] at h
    rw [h.2] at h9
    simp at h9
  · simp only [Bool.and_eq_true, decide_eq_true_eq] at h
    rw [h.2] at h9
    simp at h9
  · simp only [Bool.and_eq_true, decide_eq_true_eq] at h
    rw [h.2] at h9
    simp at h9
  · simp only [Bool.and_eq_true, decide_eq_true_eq] at h
    rw [h.2] at h9
    simp at h9
  · simp only [Bool.and_eq_true, decide_eq_true_eq] at h
    rw [h.2] at h9
    simp at h9
  · simp only [Bool.and_eq_true, decide_eq_true_eq] at h
    rw [h.2] at h9
    simp at h9
  · simp only [Bool.and_eq_true, decide_eq_true_eq] at h
    rw [h.2] at h9
    simp at h9
  · simp only [Bool.and_eq_true, decide_eq_true_eq] at h
    rw [h.2] at h9
    simp at h9
  · simp only [Bool.and_eq_true, decide_eq_true_eq] at h
    rw [h.2] at h9
    simp at h9
  · simp only [Bool.and_eq_true, decide_eq_true_eq] at h
    rw [h.2] at h9
    simp at h9
  · simp only [Bool.and_eq_true, decide_eq_true_eq, List.any_eq_true] at h
    obtain ⟨-, e9, -, -, h⟩ := h
    split at h <;> simp only [decide_eq_true_eq] at h <;> first | (rw [h] at h9; simp at h9; done) | (rw [h.1] at h9; simp at h9; done)
  · simp only [Bool.and_eq_true, decide_eq_true_eq, List.any_eq_true] at h
    obtain ⟨-, e9, -, -, h⟩ := h
    split at h <;> simp only [decide_eq_true_eq] at h <;> first | (rw [h] at h9; simp at h9; done) | (rw [h.1] at h9; simp at h9; done)
  · simp only [Bool.and_eq_true, decide_eq_true_eq] at h
    rw [h.2] at h9
    simp at h9
  · simp only [Bool.and_eq_true, decide_eq_true_eq] at h
    rw [h.2] at h9
    simp at h9
  · simp only [Bool.and_eq_true, decide_eq_true_eq] at h
    rw [h.2] at h9
    simp at h9
  · simp only [Bool.and_eq_true, decide_eq_true_eq] at h
    rw [h.2] at h9
    simp at h9
  · simp only [Bool.and_eq_true, decide_eq_true_eq] at h
    rw [h.2] at h9
    simp at h9
  · simp only [Bool.and_eq_true, decide_eq_true_eq] at h
    rw [h.2.1] at h9
    simp at h9
  · simp only [Bool.and_eq_true, decide_eq_true_eq] at h
    rw [h.2.1] at h9
    simp at h9
  · simp only [Bool.and_eq_true, decide_eq_true_eq] at h
    rw [h.2.1] at h9
    simp at h9
  · simp only [decide_eq_true_eq] at h
    rw [h.1] at h9
    simp at h9
  · simp only [decide_eq_true_eq] at h
    rw [h.1] at h9
    simp at h9
  · simp only [Bool.and_eq_true, Bool.or_eq_true, decide_eq_true_eq, List.any_eq_true] at h
    obtain ⟨-, (⟨e9, -, -, -, h⟩ | ⟨-, h⟩) | ⟨-, h⟩⟩ := h <;> rw [h] at h9 <;> simp at h9
  · simp only [Bool.and_eq_true, Bool.or_eq_true, decide_eq_true_eq, List.any_eq_true] at h
    obtain ⟨-, ⟨e9, -, -, -, h⟩ | ⟨e9, -, -, -, -, h⟩⟩ := h <;> rw [h] at h9 <;> simp at h9
  · simp only [Bool.and_eq_true, Bool.or_eq_true, decide_eq_true_eq, List.any_eq_true] at h
    obtain ⟨-, ⟨e9, -, -, -, h⟩ | ⟨e9, -, -, -, h8, h⟩⟩ := h
    · rw [h] at h9
      simp at h9
    · rw [h] at h9
      dsimp only at h9
      omega
  · simp only [Bool.and_eq_true, decide_eq_true_eq] at h
    rw [h.2] at h9
    simp at h9
  · simp only [Bool.and_eq_true, decide_eq_true_eq] at h
    rw [h.2] at h9
    simp at h9
  · simp only [Bool.and_eq_true, decide_eq_true_eq] at h
    rw [h.2] at h9
    simp at h9
  · simp only [Bool.and_eq_true, decide_eq_true_eq] at h
    rw [h.2] at h9
    simp at h9
  · simp only [Bool.and_eq_true, decide_eq_true_eq] at h
    rw [h.2] at h9
    simp at h9
  · simp only [Bool.and_eq_true, decide_eq_true_eq] at h
    rw [h.2] at h9
    simp at h9
  · simp only [Bool.and_eq_true, decide_eq_true_eq] at h
    rw [h.2] at h9
    simp at h9
  · simp only [Bool.and_eq_true, decide_eq_true_eq] at h
    rw [h.2] at h9
    simp at h9
  · simp only [Bool.and_eq_true, decide_eq_true_eq, List.any_eq_true] at h
    obtain ⟨-, e9, -, -, -, h⟩ := h
    rw [h] at h9
    simp at h9
  · rename_i t
    simp only [Bool.and_eq_true, decide_eq_true_eq] at h
    exact ⟨t, _, h.1, rfl, h.2.2, rfl, h.2.1⟩
  · cases h
