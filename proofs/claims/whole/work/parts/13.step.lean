/-! one step of my machine, whichever: the printed machine makes it too -/
section XQ
variable {p : Program} {l : Launch} {e : Env} {R : Room} {s : State} {m : MethodId} {args : Array Value} {below : List Frame} {meth : Method} {c : Code} {cells slots : Nat} {Q : State → Prop}
variable {r : Nat → Nat} {nL : Nat} {dd : va_G} {kI kZ : ClassId} {n : Nat} {F : Nat → Nat → Bool} {A : Nat → Prop} {xs : Int → Int} {lo : Option Nat} {adV : Nat → Nat}
variable {y pc : Nat} {ls : xls} {st : xst} {D : xD}

set_option maxHeartbeats 4000000 in
theorem xstep_W (hf : xFix p R s m args c y nL n r dd kI kZ A xs lo adV) {ins : Instr} {len : Nat} {i : xi} (hdg : decode (xmb y) pc = .ok (ins, len)) (h : xok y pc ins len i = true) (hrm : xrm1 y i = true) (hcs : cells ≤ R.cells ∧ slots ≤ R.slots)
    (hlen : ∀ {idx pos : Nat} {a : Nat} {st : xst} (_ : ((xsg y).2.2.2.1, idx, 38, pos) ∈ xll) (_ : decode (xmb y) pc = .ok (.invokevirtual idx, 3)) (_ : 1000 ≤ a) (_ : a < 1007) (_ : xcat st ≤ 8) (_ : 5 ≤ (xroom y).1) (_ : 125 ≤ (xroom y).2) (_ : xW p l e R s m args below meth c cells slots Q r nL dd kI kZ n F A xs (pc + 3) ls (.inl ((xstr (a - 1000)).length : Int) :: st) D), xW p l e R s m args below meth c cells slots Q r nL dd kI kZ n F A xs pc ls (.inr (.inr (some a)) :: st) D)
    (hchr : ∀ {idx pos : Nat} {a : Nat} {j : Int} {st : xst} (_ : ((xsg y).2.2.2.1, idx, 39, pos) ∈ xll) (_ : decode (xmb y) pc = .ok (.invokevirtual idx, 3)) (_ : 1000 ≤ a) (_ : a < 1007) (_ : 0 ≤ j) (_ : j < ((xstr (a - 1000)).length : Int)) (_ : xcat st ≤ 8) (_ : 5 ≤ (xroom y).1) (_ : 125 ≤ (xroom y).2) (_ : xW p l e R s m args below meth c cells slots Q r nL dd kI kZ n F A xs (pc + 3) ls (.inl ((xstr (a - 1000)).getD j.toNat 0) :: st) D), xW p l e R s m args below meth c cells slots Q r nL dd kI kZ n F A xs pc ls (.inl j :: .inr (.inr (some a)) :: st) D)
    {p' : Nat} {ls' : xls} {st' : xst} {D' : xD} (hstep : xstep lo n F i ls st D = some (p', ls', st', D')) (k : xW p l e R s m args below meth c cells slots Q r nL dd kI kZ n F A xs p' ls' st' D') : xW p l e R s m args below meth c cells slots Q r nL dd kI kZ n F A xs pc ls st D := by
  unfold xok at h
  split at h
  · simp only [Bool.and_eq_true, decide_eq_true_eq] at h
    obtain ⟨rfl, rfl⟩ := h
    cases (show some _ = some _ from hstep)
    exact xs_iconst hf hdg k
  · simp only [Bool.and_eq_true, decide_eq_true_eq] at h
    obtain ⟨rfl, rfl⟩ := h
    cases (show some _ = some _ from hstep)
    exact xs_bipush hf hdg k
  · simp only [Bool.and_eq_true, decide_eq_true_eq] at h
    obtain ⟨rfl, rfl⟩ := h
    cases (show some _ = some _ from hstep)
    exact xs_sipush hf hdg k
  · simp only [Bool.and_eq_true, Bool.or_eq_true, decide_eq_true_eq, List.any_eq_true] at h
    obtain ⟨rfl, ⟨⟨c9, i9, z9, p9⟩, he, h1, h2, rfl⟩ | ⟨⟨c9, i9, z9, p9⟩, he, h1, h2, rfl⟩⟩ := h
    · cases (show some _ = some _ from hstep)
      dsimp only at h1 h2
      subst h1
      subst h2
      exact xs_ldc hf he hdg k
    · have hs : xo37 (z9 : Int) (pc + 2) ls st D = some _ := hstep
      unfold xo37 at hs
      cases hs
      dsimp only at h1 h2
      subst h1
      subst h2
      rw [Int.toNat_natCast] at k
      exact xs_ldcS hf he hdg k
  · simp only [Bool.and_eq_true, decide_eq_true_eq, List.any_eq_true] at h
    obtain ⟨rfl, ⟨c9, i9, z9, p9⟩, he, h1, h2, rfl⟩ := h
    cases (show some _ = some _ from hstep)
    dsimp only at h1 h2
    subst h1
    subst h2
    exact xs_ldcw hf he hdg k
  · simp only [Bool.and_eq_true, decide_eq_true_eq, List.any_eq_true] at h
    obtain ⟨rfl, ⟨c9, i9, z9, p9⟩, he, h1, h2, rfl⟩ := h
    cases (show some _ = some _ from hstep)
    dsimp only at h1 h2
    subst h1
    subst h2
    exact xs_ldc2 hf he hdg k
  · simp only [Bool.and_eq_true, decide_eq_true_eq] at h
    obtain ⟨rfl, rfl⟩ := h
    cases (show some _ = some _ from hstep)
    exact xs_lconst hf hdg k
  · rename_i u
    simp only [Bool.and_eq_true, decide_eq_true_eq] at h
    obtain ⟨rfl, rfl⟩ := h
    have hs : xo2 u (pc + 2) ls st D = some _ := hstep
    unfold xo2 at hs
    split at hs
    · rename_i v hu
      cases hs
      exact xs_iload hf hu hdg k
    · cases hs
  · rename_i u
    simp only [Bool.and_eq_true, decide_eq_true_eq] at h
    obtain ⟨rfl, rfl⟩ := h
    have hs : xo2 (u : Nat) (pc + 1) ls st D = some _ := hstep
    unfold xo2 at hs
    split at hs
    · rename_i v hu
      cases hs
      exact xs_iload_n hf hu hdg k
    · cases hs
  · rename_i u
    simp only [Bool.and_eq_true, decide_eq_true_eq] at h
    obtain ⟨rfl, rfl⟩ := h
    have hs : xo3 u (pc + 2) ls st D = some _ := hstep
    unfold xo3 at hs
    split at hs
    · rename_i v hu
      cases hs
      exact xs_aload hf hu hdg k
    · cases hs
  · rename_i u
    simp only [Bool.and_eq_true, decide_eq_true_eq] at h
    obtain ⟨rfl, rfl⟩ := h
    have hs : xo3 (u : Nat) (pc + 1) ls st D = some _ := hstep
    unfold xo3 at hs
    split at hs
    · rename_i v hu
      cases hs
      exact xs_aload_n hf hu hdg k
    · cases hs
  · rename_i u
    simp only [Bool.and_eq_true, decide_eq_true_eq] at h
    obtain ⟨rfl, rfl⟩ := h
    have hs : xo4 (u : Nat) (pc + 1) ls st D = some _ := hstep
    unfold xo4 at hs
    split at hs
    · rename_i v hu
      cases hs
      exact xs_lload_n hf hu hdg k
    · cases hs
  · rename_i u
    simp only [Bool.and_eq_true, decide_eq_true_eq] at h
    obtain ⟨rfl, rfl⟩ := h
    have hs : xo5 u (pc + 2) ls st D = some _ := hstep
    unfold xo5 at hs
    split at hs
    · split at hs
      · rename_i l9 hu
        cases hs
        exact xs_istore hf hu hdg k
      · cases hs
    · cases hs
  · rename_i u
    simp only [Bool.and_eq_true, decide_eq_true_eq] at h
    obtain ⟨rfl, rfl⟩ := h
    have hs : xo5 (u : Nat) (pc + 1) ls st D = some _ := hstep
    unfold xo5 at hs
    split at hs
    · split at hs
      · rename_i l9 hu
        cases hs
        exact xs_istore_n hf hu hdg k
      · cases hs
    · cases hs
  · rename_i u
    simp only [Bool.and_eq_true, decide_eq_true_eq] at h
    obtain ⟨rfl, rfl⟩ := h
    have hs : xo6 u (pc + 2) ls st D = some _ := hstep
    unfold xo6 at hs
    split at hs
    · split at hs
      · rename_i l9 hu
        cases hs
        exact xs_astore hf hu hdg k
      · cases hs
    · cases hs
  · rename_i u
    simp only [Bool.and_eq_true, decide_eq_true_eq] at h
    obtain ⟨rfl, rfl⟩ := h
    have hs : xo6 (u : Nat) (pc + 1) ls st D = some _ := hstep
    unfold xo6 at hs
    split at hs
    · split at hs
      · rename_i l9 hu
        cases hs
        exact xs_astore_n hf hu hdg k
      · cases hs
    · cases hs
  · rename_i u z
    simp only [Bool.and_eq_true, decide_eq_true_eq] at h
    obtain ⟨rfl, rfl⟩ := h
    have hs : xo7 z u (pc + 3) ls st D = some _ := hstep
    unfold xo7 at hs
    split at hs
    · rename_i v hu0
      cases hq : xib (v + z) with
      | false => rw [hq] at hs; cases hs
      | true =>
        rw [hq] at hs
        simp only [cond_true] at hs
        split at hs
        · rename_i l9 hu
          cases hs
          exact xs_iinc hf hu0 (xib_iff.mp hq) hu hdg k
        · cases hs
    · cases hs
  · simp only [Bool.and_eq_true, decide_eq_true_eq] at h
    obtain ⟨rfl, rfl⟩ := h
    have hs : xo8 0 (pc + 1) ls st D = some _ := hstep
    unfold xo8 at hs
    split at hs
    · rename_i b a st
      split at hs
      · rename_i c9 hc
        cases hs
        have hc : (bif xib (a + b) then some (a + b) else none) = some c9 := hc
        cases hq : xib (a + b) with
        | false => rw [hq] at hc; cases hc
        | true =>
          rw [hq] at hc
          cases hc
          exact xs_iadd hf (xib_iff.mp hq) hdg k
      · cases hs
    · cases hs
  · simp only [Bool.and_eq_true, decide_eq_true_eq] at h
    obtain ⟨rfl, rfl⟩ := h
    have hs : xo8 1 (pc + 1) ls st D = some _ := hstep
    unfold xo8 at hs
    split at hs
    · rename_i b a st
      split at hs
      · rename_i c9 hc
        cases hs
        have hc : (bif xib (a - b) then some (a - b) else none) = some c9 := hc
        cases hq : xib (a - b) with
        | false => rw [hq] at hc; cases hc
        | true =>
          rw [hq] at hc
          cases hc
          exact xs_isub hf (xib_iff.mp hq) hdg k
      · cases hs
    · cases hs
  · simp only [Bool.and_eq_true, decide_eq_true_eq] at h
    obtain ⟨rfl, rfl⟩ := h
    have hs : xo8 2 (pc + 1) ls st D = some _ := hstep
    unfold xo8 at hs
    split at hs
    · rename_i b a st
      split at hs
      · rename_i c9 hc
        cases hs
        have hc : (bif xib (a * b) then some (a * b) else none) = some c9 := hc
        cases hq : xib (a * b) with
        | false => rw [hq] at hc; cases hc
        | true =>
          rw [hq] at hc
          cases hc
          exact xs_imul hf (xib_iff.mp hq) hdg k
      · cases hs
    · cases hs
  · simp only [Bool.and_eq_true, decide_eq_true_eq] at h
    obtain ⟨rfl, rfl⟩ := h
    have hs : xo8 3 (pc + 1) ls st D = some _ := hstep
    unfold xo8 at hs
    split at hs
    · rename_i b a st
      split at hs
      · rename_i c9 hc
        cases hs
        cases (show some _ = some c9 from hc)
        exact xs_iand hf hdg k
      · cases hs
    · cases hs
  · simp only [Bool.and_eq_true, decide_eq_true_eq] at h
    obtain ⟨rfl, rfl⟩ := h
    have hs : xo8 4 (pc + 1) ls st D = some _ := hstep
    unfold xo8 at hs
    split at hs
    · rename_i b a st
      split at hs
      · rename_i c9 hc
        cases hs
        cases (show some _ = some c9 from hc)
        exact xs_ior hf hdg k
      · cases hs
    · cases hs
  · simp only [Bool.and_eq_true, decide_eq_true_eq] at h
    obtain ⟨rfl, rfl⟩ := h
    have hs : xo8 5 (pc + 1) ls st D = some _ := hstep
    unfold xo8 at hs
    split at hs
    · rename_i b a st
      split at hs
      · rename_i c9 hc
        cases hs
        cases (show some _ = some c9 from hc)
        exact xs_ixor hf hdg k
      · cases hs
    · cases hs
  · simp only [Bool.and_eq_true, decide_eq_true_eq] at h
    obtain ⟨rfl, rfl⟩ := h
    have hs : xo8 6 (pc + 1) ls st D = some _ := hstep
    unfold xo8 at hs
    split at hs
    · rename_i b a st
      split at hs
      · rename_i c9 hc
        cases hs
        cases (show some _ = some c9 from hc)
        exact xs_ishl hf hdg k
      · cases hs
    · cases hs
  · simp only [Bool.and_eq_true, decide_eq_true_eq] at h
    obtain ⟨rfl, rfl⟩ := h
    have hs : xo8 7 (pc + 1) ls st D = some _ := hstep
    unfold xo8 at hs
    split at hs
    · rename_i b a st
      split at hs
      · rename_i c9 hc
        cases hs
        cases (show some _ = some c9 from hc)
        exact xs_ishr hf hdg k
      · cases hs
    · cases hs
  · simp only [Bool.and_eq_true, decide_eq_true_eq] at h
    obtain ⟨rfl, rfl⟩ := h
    have hs : xo8 8 (pc + 1) ls st D = some _ := hstep
    unfold xo8 at hs
    split at hs
    · rename_i b a st
      split at hs
      · rename_i c9 hc
        cases hs
        cases (show some _ = some c9 from hc)
        exact xs_iushr hf hdg k
      · cases hs
    · cases hs
  · simp only [Bool.and_eq_true, decide_eq_true_eq] at h
    obtain ⟨rfl, rfl⟩ := h
    have hs : xo8 9 (pc + 1) ls st D = some _ := hstep
    unfold xo8 at hs
    split at hs
    · rename_i b a st
      split at hs
      · rename_i c9 hc
        cases hs
        have hc : (bif decide (b = 0) then none else some (idv a b)) = some c9 := hc
        by_cases hb0 : b = 0
        · rw [decide_eq_true hb0] at hc
          cases hc
        · rw [decide_eq_false hb0] at hc
          cases hc
          exact xs_idiv hf hb0 hdg k
      · cases hs
    · cases hs
  · simp only [Bool.and_eq_true, decide_eq_true_eq] at h
    obtain ⟨rfl, rfl⟩ := h
    have hs : xo8 10 (pc + 1) ls st D = some _ := hstep
    unfold xo8 at hs
    split at hs
    · rename_i b a st
      split at hs
      · rename_i c9 hc
        cases hs
        have hc : (bif decide (b = 0) then none else some (irm a b)) = some c9 := hc
        by_cases hb0 : b = 0
        · rw [decide_eq_true hb0] at hc
          cases hc
        · rw [decide_eq_false hb0] at hc
          cases hc
          exact xs_irem hf hb0 hdg k
      · cases hs
    · cases hs
  · simp only [Bool.and_eq_true, decide_eq_true_eq] at h
    obtain ⟨rfl, rfl⟩ := h
    have hs : xo9 (pc + 1) ls st D = some _ := hstep
    unfold xo9 at hs
    split at hs
    · rename_i a st
      cases hq : xib (-a) with
      | false => rw [hq] at hs; cases hs
      | true =>
        rw [hq] at hs
        cases hs
        exact xs_ineg hf (xib_iff.mp hq) hdg k
    · cases hs
  · simp only [Bool.and_eq_true, decide_eq_true_eq] at h
    obtain ⟨rfl, rfl⟩ := h
    have hs : xo10 (pc + 1) ls st D = some _ := hstep
    unfold xo10 at hs
    split at hs
    · rename_i v st
      cases hq : x1 v with
      | false => rw [hq] at hs; cases hs
      | true =>
        rw [hq] at hs
        cases hs
        exact xs_dup hf hq hdg k
    · cases hs
  · simp only [Bool.and_eq_true, decide_eq_true_eq] at h
    obtain ⟨rfl, rfl⟩ := h
    have hs : xo11 (pc + 1) ls st D = some _ := hstep
    unfold xo11 at hs
    split at hs
    · rename_i v w st
      cases hq : (x1 v && x1 w) with
      | false => rw [hq] at hs; cases hs
      | true =>
        rw [hq] at hs
        cases hs
        simp only [Bool.and_eq_true] at hq
        exact xs_dup2 hf hq.1 hq.2 hdg k
    · cases hs
  · simp only [Bool.and_eq_true, decide_eq_true_eq] at h
    obtain ⟨rfl, rfl⟩ := h
    have hs : xo12 (pc + 1) ls st D = some _ := hstep
    unfold xo12 at hs
    split at hs
    · rename_i v st
      cases hq : x1 v with
      | false => rw [hq] at hs; cases hs
      | true =>
        rw [hq] at hs
        cases hs
        exact xs_pop hf hq hdg k
    · cases hs
  · rename_i idx
    simp only [Bool.and_eq_true, decide_eq_true_eq, List.any_eq_true] at h
    obtain ⟨rfl, ⟨c9, i9, ci, kk, nest, p9⟩, he, ⟨h1, h2⟩, h3⟩ := h
    dsimp only at h1 h2 h3
    subst h1
    subst h2
    obtain ⟨hk, hci, -⟩ := xfl_at he
    have hgd : ∀ a, xisO n a ci = true → xlf a kk = Nat.beq (xfk ci kk).1 2 := fun a ho => by
      obtain ⟨a1, a2, a3⟩ := xisO_iff.mp ho
      unfold xlf
      rw [a3, show Nat.ble 10 (10 + ci) = true from Nat.ble_eq.mpr (by omega), Nat.add_sub_cancel_left, Int.toNat_natCast]
      rfl
    split at h3
    · rename_i hf3
      simp only [decide_eq_true_eq] at h3
      subst h3
      have hs : xo15 n F ((xfk ci kk).2 : Int) ci (pc + 3) kk ls st D = some _ := hstep
      unfold xo15 at hs
      split at hs
      · rename_i a st
        cases hq : (xisO n a ci && F a kk) with
        | false => rw [hq] at hs; cases hs
        | true =>
          rw [hq] at hs
          cases hs
          simp only [Bool.and_eq_true] at hq
          exact xs_getf (v9 := .inr (.inr (some (a + ((xfk ci kk).2 : Int).toNat)))) hf he hq.1 (by simp only [xfld, hf3, hq.2, if_true, xV, Int.toNat_natCast]) (fun _ => trivial) hdg k
      · cases hs
    · rename_i hf3
      simp only [decide_eq_true_eq] at h3
      subst h3
      have hs : xo16 n ci (pc + 3) kk ls st D = some _ := hstep
      unfold xo16 at hs
      split at hs
      · rename_i a st
        cases hq : xisO n a ci with
        | false => rw [hq] at hs; cases hs
        | true =>
          rw [hq] at hs
          cases hs
          exact xs_getf (v9 := .inr (.inl (D a kk))) hf he hq (by simp only [xfld, hf3, xV]) (fun hg => (hg a kk).2) hdg k
      · cases hs
    · rename_i b9 hn3 hn2
      simp only [decide_eq_true_eq] at h3
      subst h3
      have hs : xo14 n ci (pc + 3) kk ls st D = some _ := hstep
      unfold xo14 at hs
      split at hs
      · rename_i a st
        cases hq : xisO n a ci with
        | false => rw [hq] at hs; cases hs
        | true =>
          rw [hq] at hs
          cases hs
          refine xs_getf (v9 := .inl (D a kk)) hf he hq ?_ (fun hg => (hg a kk).1 ?_) hdg k
          · unfold xfld
            split
            · rename_i h9
              exact absurd h9 hn2
            · rename_i h9
              exact absurd h9 hn3
            · rfl
          · rw [hgd a hq]
            cases hz : Nat.beq (xfk ci kk).1 2 with
            | false => rfl
            | true => exact absurd (Nat.beq_eq.mp hz) hn2
      · cases hs
  · rename_i idx
    simp only [Bool.and_eq_true, decide_eq_true_eq, List.any_eq_true] at h
    obtain ⟨rfl, ⟨c9, i9, ci, kk, nest, p9⟩, he, ⟨h1, h2⟩, h3⟩ := h
    dsimp only at h1 h2 h3
    subst h1
    subst h2
    obtain ⟨hk, hci, -⟩ := xfl_at he
    have hgd : ∀ a, xisO n a ci = true → xlf a kk = Nat.beq (xfk ci kk).1 2 := fun a ho => by
      obtain ⟨a1, a2, a3⟩ := xisO_iff.mp ho
      unfold xlf
      rw [a3, show Nat.ble 10 (10 + ci) = true from Nat.ble_eq.mpr (by omega), Nat.add_sub_cancel_left, Int.toNat_natCast]
      rfl
    obtain ⟨ht1, ht2, ht3⟩ := xty_at hci hk
    split at h3
    · simp only [decide_eq_true_eq] at h3
      obtain ⟨rfl, -⟩ := h3
      cases (show none = some _ from hstep)
    · rename_i hf3
      simp only [decide_eq_true_eq] at h3
      obtain ⟨rfl, hfin⟩ := h3
      have hs : xo19 n ci (pc + 3) kk ls st D = some _ := hstep
      unfold xo19 at hs
      split at hs
      · rename_i v a st
        cases hq : xisO n a ci with
        | false => rw [hq] at hs; cases hs
        | true =>
          rw [hq] at hs
          cases hs
          have hty : xty ci kk = .long := by
            rcases ht3 with h | h | h | h | h
            · rw [h.2] at hf3; simp at hf3
            · rw [h.2] at hf3; simp at hf3
            · exact h.1
            · rw [h.2] at hf3; simp at hf3
            · rw [h.2] at hf3; simp at hf3
          intro lls H locs hL hv hM
          have hv9 : xinL v := (List.forall_mem_cons.mp hv).1
          refine xs_putf (v := v) (vv := .long (Int64.ofInt v)) hf he hq ?_ hfin hty rfl rfl (fun hz => ?_) hv9 rfl hdg k lls H locs hL hv hM
          · simp only [xfld, hf3]
            simp [xup]
          · rw [hgd a hq, hf3] at hz
            simp at hz
      · cases hs
    · rename_i b9 hn3 hn2
      simp only [decide_eq_true_eq] at h3
      obtain ⟨rfl, hfin⟩ := h3
      have hs : xo17 n ((xfk ci kk).1 : Int) ci (pc + 3) kk ls st D = some _ := hstep
      unfold xo17 at hs
      split at hs
      · rename_i v a st
        cases hq : (xisO n a ci && xbit ((xfk ci kk).1 : Int) v) with
        | false => rw [hq] at hs; cases hs
        | true =>
          rw [hq] at hs
          cases hs
          simp only [Bool.and_eq_true] at hq
          have hval : xfld r F (xup D a kk v) a ci kk = .int (Int32.ofInt v) := by
            unfold xfld
            split
            · rename_i h9
              exact absurd h9 hn2
            · rename_i h9
              exact absurd h9 hn3
            · simp [xup]
          intro lls H locs hL hv hM
          have hv9 : xin v := (List.forall_mem_cons.mp hv).1
          rcases ht3 with h | h | h | h | h
          · exact xs_putf (v := v) (vv := .int (Int32.ofInt v)) hf he hq.1 hval hfin h.1 rfl rfl (fun _ => hv9) (xin_L hv9) rfl hdg k lls H locs hL hv hM
          · have hb9 : v = 0 ∨ v = 1 := by
              have := hq.2
              rw [h.2] at this
              simpa [xbit] using this
            refine xs_putf (v := v) (vv := .int (Int32.ofInt v)) hf he hq.1 hval hfin h.1 ?_ ?_ (fun _ => hv9) (xin_L hv9) rfl hdg k lls H locs hL hv hM
            · rcases hb9 with rfl | rfl <;> rfl
            · rcases hb9 with rfl | rfl <;> rfl
          · rw [h.2] at hn2; exact absurd rfl hn2
          · exact absurd h.2 hn3
          · exact absurd h.2 hn3
      · cases hs
  · simp only [Bool.and_eq_true, decide_eq_true_eq] at h
    obtain ⟨rfl, rfl⟩ := h
    have hs : xo20 lo n (pc + 1) ls st D = some _ := hstep
    unfold xo20 at hs
    split at hs
    · rename_i j a st
      cases hq : xix j (xalen lo n a) with
      | false => rw [hq] at hs; cases hs
      | true =>
        rw [hq] at hs
        cases hs
        exact xs_iaload hf hq hdg k
    · cases hs
  · simp only [Bool.and_eq_true, decide_eq_true_eq] at h
    obtain ⟨rfl, rfl⟩ := h
    have hs : xo21 n (pc + 1) ls st D = some _ := hstep
    unfold xo21 at hs
    split at hs
    · rename_i v j a st
      cases hq : xix j (xalen none n a) with
      | false => rw [hq] at hs; cases hs
      | true =>
        rw [hq] at hs
        cases hs
        exact xs_iastore hf hq hdg k
    · cases hs
  · simp only [Bool.and_eq_true, decide_eq_true_eq] at h
    obtain ⟨rfl, rfl⟩ := h
    have hs : xo22 n (pc + 1) ls st D = some _ := hstep
    unfold xo22 at hs
    split at hs
    · rename_i j a st
      cases hq : xix j (xzlen n a) with
      | false => rw [hq] at hs; cases hs
      | true =>
        rw [hq] at hs
        cases hs
        exact xs_baload hf hq hdg k
    · cases hs
  · simp only [Bool.and_eq_true, decide_eq_true_eq] at h
    obtain ⟨rfl, rfl⟩ := h
    have hs : xo23 n (pc + 1) ls st D = some _ := hstep
    unfold xo23 at hs
    split at hs
    · rename_i v j a st
      cases hq : (xix j (xzlen n a) && xbit 1 v) with
      | false => rw [hq] at hs; cases hs
      | true =>
        rw [hq] at hs
        cases hs
        simp only [Bool.and_eq_true] at hq
        exact xs_bastore hf hq.1 hq.2 hdg k
    · cases hs
  · simp only [Bool.and_eq_true, decide_eq_true_eq] at h
    obtain ⟨rfl, rfl⟩ := h
    have hs : xo24 lo n (pc + 1) ls st D = some _ := hstep
    unfold xo24 at hs
    split at hs
    · rename_i a st
      split at hs
      · rename_i N hN
        cases hq : xib (N : Int) with
        | false => rw [hq] at hs; cases hs
        | true =>
          rw [hq] at hs
          cases hs
          exact xs_alen hf hN (xib_iff.mp hq) hdg k
      · cases hs
    · cases hs
  · rename_i off
    simp only [Bool.and_eq_true, decide_eq_true_eq] at h
    obtain ⟨o9, x9, u9, n9, m9⟩ := i
    obtain ⟨rfl, h1, h2⟩ := h
    dsimp only at h1 h2
    subst h1
    cases (show some _ = some _ from hstep)
    exact xs_goto hf h2 hdg k
  · rename_i c9 off
    simp only [Bool.and_eq_true, decide_eq_true_eq] at h
    obtain ⟨o9, x9, u9, n9, m9⟩ := i
    obtain ⟨rfl, h1, h2, h3, h4⟩ := h
    dsimp only at h1 h2 h3 h4
    subst h1
    subst h3
    cases c9 with
    | eq =>
      dsimp only at h4
      subst h4
      have hs : xo26 0 u9 (pc + 3) ls st D = some _ := hstep
      unfold xo26 at hs
      split at hs
      · cases hs
        exact xs_if_eq hf h2 hdg k
      · cases hs
    | ne =>
      dsimp only at h4
      subst h4
      have hs : xo26 1 u9 (pc + 3) ls st D = some _ := hstep
      unfold xo26 at hs
      split at hs
      · cases hs
        exact xs_if_ne hf h2 hdg k
      · cases hs
    | lt =>
      dsimp only at h4
      subst h4
      have hs : xo26 2 u9 (pc + 3) ls st D = some _ := hstep
      unfold xo26 at hs
      split at hs
      · cases hs
        exact xs_if_lt hf h2 hdg k
      · cases hs
    | ge =>
      dsimp only at h4
      subst h4
      have hs : xo26 3 u9 (pc + 3) ls st D = some _ := hstep
      unfold xo26 at hs
      split at hs
      · cases hs
        exact xs_if_ge hf h2 hdg k
      · cases hs
    | gt =>
      dsimp only at h4
      subst h4
      have hs : xo26 4 u9 (pc + 3) ls st D = some _ := hstep
      unfold xo26 at hs
      split at hs
      · cases hs
        exact xs_if_gt hf h2 hdg k
      · cases hs
    | le =>
      dsimp only at h4
      subst h4
      have hs : xo26 5 u9 (pc + 3) ls st D = some _ := hstep
      unfold xo26 at hs
      split at hs
      · cases hs
        exact xs_if_le hf h2 hdg k
      · cases hs
  · rename_i c9 off
    simp only [Bool.and_eq_true, decide_eq_true_eq] at h
    obtain ⟨o9, x9, u9, n9, m9⟩ := i
    obtain ⟨rfl, h1, h2, h3, h4⟩ := h
    dsimp only at h1 h2 h3 h4
    subst h1
    subst h3
    cases c9 with
    | eq =>
      dsimp only at h4
      subst h4
      have hs : xo27 0 u9 (pc + 3) ls st D = some _ := hstep
      unfold xo27 at hs
      split at hs
      · cases hs
        exact xs_icmp_eq hf h2 hdg k
      · cases hs
    | ne =>
      dsimp only at h4
      subst h4
      have hs : xo27 1 u9 (pc + 3) ls st D = some _ := hstep
      unfold xo27 at hs
      split at hs
      · cases hs
        exact xs_icmp_ne hf h2 hdg k
      · cases hs
    | lt =>
      dsimp only at h4
      subst h4
      have hs : xo27 2 u9 (pc + 3) ls st D = some _ := hstep
      unfold xo27 at hs
      split at hs
      · cases hs
        exact xs_icmp_lt hf h2 hdg k
      · cases hs
    | ge =>
      dsimp only at h4
      subst h4
      have hs : xo27 3 u9 (pc + 3) ls st D = some _ := hstep
      unfold xo27 at hs
      split at hs
      · cases hs
        exact xs_icmp_ge hf h2 hdg k
      · cases hs
    | gt =>
      dsimp only at h4
      subst h4
      have hs : xo27 4 u9 (pc + 3) ls st D = some _ := hstep
      unfold xo27 at hs
      split at hs
      · cases hs
        exact xs_icmp_gt hf h2 hdg k
      · cases hs
    | le =>
      dsimp only at h4
      subst h4
      have hs : xo27 5 u9 (pc + 3) ls st D = some _ := hstep
      unfold xo27 at hs
      split at hs
      · cases hs
        exact xs_icmp_le hf h2 hdg k
      · cases hs
  · rename_i d lo9 hi offs
    simp only [decide_eq_true_eq] at h
    obtain ⟨o9, x9, u9, n9, m9⟩ := i
    obtain ⟨h1, h2, h3, h4, h5⟩ := h
    dsimp only at h1 h2 h3 h4 h5
    subst h1
    subst h2
    have hs : xo31 x9 u9 m9 ls st D = some _ := hstep
    unfold xo31 at hs
    split at hs
    · cases hs
      exact xs_table hf h3 h4 h5 hdg k
    · cases hs
  · rename_i d ps
    simp only [decide_eq_true_eq] at h
    obtain ⟨o9, x9, u9, n9, m9⟩ := i
    obtain ⟨h1, h2, h3, h4⟩ := h
    dsimp only at h1 h2 h3
    subst h1
    have hs : xo32 u9 m9 ls st D = some _ := hstep
    unfold xo32 at hs
    split at hs
    · cases hs
      exact xs_look hf h2 h3 h4 hdg k
    · cases hs
  · rename_i idx
    simp only [Bool.and_eq_true, Bool.or_eq_true, decide_eq_true_eq, List.any_eq_true, xokl] at h
    obtain ⟨rfl, (⟨e9, he, h1, h2, rfl⟩ | ⟨⟨e9, he, h1⟩, rfl⟩) | ⟨⟨e9, he, h1⟩, rfl⟩⟩ := h
    · cases (show none = some _ from hstep)
    · have hs : xo38 (pc + 3) ls st D = some _ := hstep
      unfold xo38 at hs
      split at hs
      · rename_i a st
        cases hq : (Nat.ble 1000 a && Nat.blt a 1007 && Nat.ble (xcat st) 8) with
        | false => rw [hq] at hs; cases hs
        | true =>
          rw [hq] at hs
          cases hs
          simp only [Bool.and_eq_true, Nat.ble_eq, Nat.blt_eq] at hq
          have hr : (Nat.ble 5 (xroom y).1 && Nat.ble 125 (xroom y).2) = true := hrm
          simp only [Bool.and_eq_true, Nat.ble_eq] at hr
          rw [h1] at he
          exact hlen he hdg hq.1.1 hq.1.2 hq.2 hr.1 hr.2 k
      · cases hs
    · have hs : xo39 (pc + 3) ls st D = some _ := hstep
      unfold xo39 at hs
      split at hs
      · rename_i j a st
        cases hq : (Nat.ble 1000 a && Nat.blt a 1007 && decide (0 ≤ j) && decide (j < ((xstr (a - 1000)).length : Int)) && Nat.ble (xcat st) 8) with
        | false => rw [hq] at hs; cases hs
        | true =>
          rw [hq] at hs
          cases hs
          simp only [Bool.and_eq_true, Nat.ble_eq, Nat.blt_eq, decide_eq_true_eq] at hq
          have hr : (Nat.ble 5 (xroom y).1 && Nat.ble 125 (xroom y).2) = true := hrm
          simp only [Bool.and_eq_true, Nat.ble_eq] at hr
          rw [h1] at he
          exact hchr he hdg hq.1.1.1.1 hq.1.1.1.2 hq.1.1.2 hq.1.2 hq.2 hr.1 hr.2 k
      · cases hs
  · rename_i idx
    simp only [Bool.and_eq_true, Bool.or_eq_true, decide_eq_true_eq, List.any_eq_true] at h
    obtain ⟨rfl, ⟨e9, he, h1, h2, rfl⟩ | ⟨⟨c9, i9, o9, p9⟩, he, h1, h2, h3, rfl⟩⟩ := h
    · cases (show none = some _ from hstep)
    · dsimp only at h1 h2 h3
      subst h1
      subst h2
      subst h3
      have hs : xo33 (pc + 3) ls st D = some _ := hstep
      unfold xo33 at hs
      split at hs
      · rename_i a st
        cases hq : Nat.ble (xcat st) 8 with
        | false => rw [hq] at hs; cases hs
        | true =>
          rw [hq] at hs
          cases hs
          have hr : (Nat.ble 1 (xroom y).1 && Nat.ble 20 (xroom y).2) = true := hrm
          simp only [Bool.and_eq_true, Nat.ble_eq] at hr
          exact xs_objInit hf he (Nat.ble_eq.mp hq) hr.1 hr.2 hdg k
      · cases hs
  · rename_i idx
    simp only [Bool.and_eq_true, Bool.or_eq_true, decide_eq_true_eq, List.any_eq_true] at h
    obtain ⟨rfl, ⟨e9, he, h1, h2, rfl⟩ | ⟨⟨c9, i9, o9, p9⟩, he, h1, h2, h3, rfl⟩⟩ := h
    · cases (show none = some _ from hstep)
    · dsimp only at h1 h2 h3
      subst h1
      subst h2
      rcases h3 with rfl | rfl | rfl
      · have hs : xo34 n (pc + 3) ls st D = some _ := hstep
        unfold xo34 at hs
        split at hs
        · rename_i k9 dp b sp a st
          split at hs
          · rename_i la lb hla hlb
            cases hq : (decide (0 ≤ k9) && decide (0 ≤ sp) && decide (0 ≤ dp) && decide (sp + k9 ≤ (la : Int)) && decide (dp + k9 ≤ (lb : Int)) && Nat.ble (xcat st) 8) with
            | false => rw [hq] at hs; cases hs
            | true =>
              rw [hq] at hs
              cases hs
              simp only [Bool.and_eq_true, Nat.ble_eq, decide_eq_true_eq] at hq
              have hr : (Nat.ble 1 (xroom y).1 && Nat.ble 26 (xroom y).2) = true := hrm
              simp only [Bool.and_eq_true, Nat.ble_eq] at hr
              exact xs_copy hf he hla hlb hq.1.1.1.1.1 hq.1.1.1.1.2 hq.1.1.1.2 hq.1.1.2 hq.1.2 hq.2 hr.1 hr.2 hdg k
          · cases hs
        · cases hs
      · have hs : xo35 (pc + 3) ls st D = some _ := hstep
        unfold xo35 at hs
        split at hs
        · rename_i b a st
          cases hq : Nat.ble (xcat st) 8 with
          | false => rw [hq] at hs; cases hs
          | true =>
            rw [hq] at hs
            cases hs
            have hr : (Nat.ble 1 (xroom y).1 && Nat.ble 21 (xroom y).2) = true := hrm
            simp only [Bool.and_eq_true, Nat.ble_eq] at hr
            exact xs_max hf he (Nat.ble_eq.mp hq) hr.1 hr.2 hcs hdg k
        · cases hs
      · have hs : xo36 (pc + 3) ls st D = some _ := hstep
        unfold xo36 at hs
        split at hs
        · rename_i b a st
          cases hq : Nat.ble (xcat st) 8 with
          | false => rw [hq] at hs; cases hs
          | true =>
            rw [hq] at hs
            cases hs
            have hr : (Nat.ble 1 (xroom y).1 && Nat.ble 21 (xroom y).2) = true := hrm
            simp only [Bool.and_eq_true, Nat.ble_eq] at hr
            exact xs_min hf he (Nat.ble_eq.mp hq) hr.1 hr.2 hcs hdg k
        · cases hs
  · simp only [Bool.and_eq_true, decide_eq_true_eq] at h
    obtain ⟨rfl, rfl⟩ := h
    cases (show none = some _ from hstep)
  · simp only [Bool.and_eq_true, decide_eq_true_eq] at h
    obtain ⟨rfl, rfl⟩ := h
    cases (show none = some _ from hstep)
  · simp only [Bool.and_eq_true, decide_eq_true_eq] at h
    obtain ⟨rfl, rfl⟩ := h
    cases (show none = some _ from hstep)
  · simp only [Bool.and_eq_true, decide_eq_true_eq] at h
    obtain ⟨rfl, rfl⟩ := h
    have hs : (match st with | .inl a :: st => some (pc + 1, ls, .inr (.inl a) :: st, D) | _ => none) = some _ := hstep
    split at hs
    · rename_i a st
      cases hs
      exact xs_i2l hf hdg k
    · cases hs
  · simp only [Bool.and_eq_true, decide_eq_true_eq] at h
    obtain ⟨rfl, rfl⟩ := h
    have hs : (match st with | .inr (.inl a) :: st => bif xib a then some (pc + 1, ls, .inl a :: st, D) else none | _ => none) = some _ := hstep
    split at hs
    · rename_i a st
      cases hq : xib a with
      | false => rw [hq] at hs; cases hs
      | true =>
        rw [hq] at hs
        cases hs
        exact xs_l2i hf (xib_iff.mp hq) hdg k
    · cases hs
  · simp only [Bool.and_eq_true, decide_eq_true_eq] at h
    obtain ⟨rfl, rfl⟩ := h
    have hs : (match st with | .inr (.inl b) :: .inr (.inl a) :: st => some (pc + 1, ls, .inl (if a < b then -1 else if a = b then 0 else 1) :: st, D) | _ => none) = some _ := hstep
    split at hs
    · rename_i b a st
      cases hs
      exact xs_lcmp hf hdg k
    · cases hs
  · simp only [Bool.and_eq_true, decide_eq_true_eq] at h
    obtain ⟨rfl, rfl⟩ := h
    have hs : (match st with | .inl b :: .inr (.inl a) :: st => some (pc + 1, ls, .inr (.inl (lshl a b)) :: st, D) | _ => none) = some _ := hstep
    split at hs
    · rename_i b a st
      cases hs
      exact xs_lshl hf hdg k
    · cases hs
  · simp only [Bool.and_eq_true, decide_eq_true_eq] at h
    obtain ⟨rfl, rfl⟩ := h
    have hs : (match st with | .inr (.inl b) :: .inr (.inl a) :: st => some (pc + 1, ls, .inr (.inl (lor a b)) :: st, D) | _ => none) = some _ := hstep
    split at hs
    · rename_i b a st
      cases hs
      exact xs_lor hf hdg k
    · cases hs
  · simp only [Bool.and_eq_true, decide_eq_true_eq, List.any_eq_true] at h
    obtain ⟨rfl, e9, he, h1, h2, rfl⟩ := h
    cases (show none = some _ from hstep)
  · rename_i t9
    simp only [Bool.and_eq_true, decide_eq_true_eq] at h
    obtain ⟨rfl, rfl, h2⟩ := h
    cases (show none = some _ from hstep)
  · cases h
end XQ
