/-! runs; the contracts hold -/
theorem xstep_99 {lo : Option Nat} {n : Nat} {F : Nat → Nat → Bool} {i : xi} {ls : xls} {st : xst} {D : xD} (h : i.1 = 99) : xstep lo n F i ls st D = none := by
  unfold xstep
  rw [h]
  rfl
section XR3
variable {p : Program} {l : Launch} {e : Env} {R : Room} {s : State} {m : MethodId} {args : Array Value} {below : List Frame} {meth : Method} {c : Code} {cells slots : Nat} {Q : State → Prop}
variable {r : Nat → Nat} {nL : Nat} {dd : va_G} {kI kZ : ClassId} {n : Nat} {F : Nat → Nat → Bool} {A : Nat → Prop} {xs : Int → Int} {lo : Option Nat} {adV : Nat → Nat}
variable {y pc : Nat} {ls : xls} {st : xst} {D : xD}

theorem xrun_W {f0 : Nat} (hcon : ∀ f, f < f0 → xCon l f) (hf : xFix p R s m args c y nL n r dd kI kZ A xs lo adV) (hcs : cells ≤ R.cells ∧ slots ≤ R.slots) {v : Option xv} {D' : xD}
    (hend : ∀ (p' : Nat) (ls' : xls) (st' : xst) (lls' : Array Slot) (H' : Heap) (locs' : List Loc), (xcd y p').1 = 29 → xretv (xsg y).2.2.1 (xcd y p').2.2.1 st' = some v → xLoc r nL ls' lls' → (∀ w ∈ st', xvo w) → xMem s dd kI kZ r n F A xs D' H' locs' → W p l e R s m args below meth c H' locs' cells slots Q (F0 m p' lls' (st'.map (xV r)))) :
    ∀ (f : Nat), f ≤ f0 → ∀ (pc : Nat) (ls : xls) (st : xst) (D : xD), xrun n F f lo y pc ls st D = some (v, D') → xW p l e R s m args below meth c cells slots Q r nL dd kI kZ n F A xs pc ls st D := by
  have hy : y < 242 := hf.2.2.2.2.2.2.2.2.2.1
  intro f
  induction f with
  | zero => intro _ pc ls st D hrun; cases hrun
  | succ f ih =>
    intro hle pc ls st D hrun
    unfold xrun at hrun
    dsimp only at hrun
    cases h29 : Nat.beq (xcd y pc).1 29 with
    | true =>
      rw [h29] at hrun
      simp only [cond_true] at hrun
      split at hrun
      · rename_i w hw
        cases hrun
        intro lls H locs hL hv hM
        exact hend pc ls st lls H locs (Nat.beq_eq.mp h29) hw hL hv hM
      · cases hrun
    | false =>
      rw [h29] at hrun
      simp only [cond_false] at hrun
      have h99 : (xcd y pc).1 ≠ 99 := by
        intro h
        have h28 : Nat.beq (xcd y pc).1 28 = false := by rw [h]; rfl
        rw [h28] at hrun
        simp only [cond_false] at hrun
        rw [xstep_99 h] at hrun
        cases hrun
      obtain ⟨ins, len, hdg, hok, hrm⟩ := xok_all hy h99
      cases h28 : Nat.beq (xcd y pc).1 28 with
      | true =>
        rw [h28] at hrun
        simp only [cond_true] at hrun
        split at hrun
        · rename_i av rest hpop
          cases hq : (xrecv n (xcd y pc).2.2.1 av && Nat.ble (xcat rest) 8 && !((xcd y pc).2.1 == 2) && !(Nat.beq (xcd y pc).2.2.1 239)) with
          | false => rw [hq] at hrun; cases hrun
          | true =>
            rw [hq] at hrun
            simp only [cond_true] at hrun
            simp only [Bool.and_eq_true, Nat.ble_eq, Bool.not_eq_true', beq_eq_false_iff_ne] at hq
            split at hrun
            · rename_i v1 D1 hr1
              exact xcall_W (hcon f (by omega)) hf hcs hdg hok hrm (Nat.beq_eq.mp h28) hq.1.2 hpop hq.1.1.1 hq.1.1.2 hr1 (ih (by omega) _ _ _ _ hrun)
            · cases hrun
        · cases hrun
      | false =>
        rw [h28] at hrun
        simp only [cond_false] at hrun
        split at hrun
        · rename_i p1 ls1 st1 D1 hstep
          exact xstep_W hf hdg hok hrm hcs (fun he hd h1 h2 h3 h4 h5 k => xs_strlen hf he hd h1 h2 h3 h4 h5 hcs k) (fun he hd h1 h2 h3 h4 h5 h6 h7 k => xs_charAt hf he hd h1 h2 h3 h4 h5 h6 h7 hcs k) hstep (ih (by omega) _ _ _ _ hrun)
        · cases hrun
end XR3
theorem xlv_args {r : Nat → Nat} : ∀ (av : xst) (k i : Nat) (v : xv), (xargl av)[i]? = some (some v) → (k + i, xV r v) ∈ lv_args k (av.map (xV r))
  | [], k, i, v, h => by simp [xargl] at h
  | w :: av, k, i, v, h => by
    have two : ∀ x : Int, w = .inr (.inl x) → (k + i, xV r v) ∈ lv_args k ((w :: av).map (xV r)) := by
      rintro x rfl
      match i, h with
      | 0, h => simp only [xargl, List.getElem?_cons_zero, Option.some.injEq] at h; subst h; exact List.mem_cons_self
      | 1, h => simp [xargl] at h
      | i + 2, h =>
        have := xlv_args (r := r) av (k + 2) i v (by simpa [xargl] using h)
        rw [show k + 2 + i = k + (i + 2) by omega] at this
        exact List.mem_cons_of_mem _ this
    have one : x1 w = true → (xargl (w :: av) = some w :: xargl av) → (k + i, xV r v) ∈ lv_args k ((w :: av).map (xV r)) := by
      intro hw he
      rw [he] at h
      have hc := x1_cat (r := r) hw
      match i, h with
      | 0, h => simp only [List.getElem?_cons_zero, Option.some.injEq] at h; subst h; exact List.mem_cons_self
      | i + 1, h =>
        have := xlv_args (r := r) av (k + 1) i v (by simpa using h)
        rw [show k + 1 + i = k + (i + 1) by omega] at this
        refine List.mem_cons_of_mem _ ?_
        rw [hc]
        exact this
    rcases w with x | x | _ | x
    · exact one rfl rfl
    · exact two x rfl
    · exact one rfl rfl
    · exact one rfl rfl
theorem xlg_len {r : Nat → Nat} : ∀ (av : xst), (lg_sl (av.map (xV r))).length = (xargl av).length
  | [] => rfl
  | w :: av => by
    have ih := xlg_len (r := r) av
    have e : lg_sl ((w :: av).map (xV r)) = (if (xV r w).category = 2 then [.val (xV r w), .second] else [.val (xV r w)]) ++ lg_sl (av.map (xV r)) := by unfold lg_sl; rw [List.map_cons, List.flatMap_cons]
    rw [e, List.length_append, ih]
    rcases w with x | x | _ | x
    · show 1 + _ = (xargl av).length + 1
      omega
    · show 2 + _ = (xargl av).length + 1 + 1
      omega
    · show 1 + _ = (xargl av).length + 1
      omega
    · show 1 + _ = (xargl av).length + 1
      omega
theorem xentry_loc {r : Nat → Nat} {nL : Nat} {av : xst} (hl : (xargl av).length ≤ nL) (hv : ∀ w ∈ av, xvo w) : xLoc r nL (xentry nL av) ((lg_sl (av.map (xV r)) ++ List.replicate (nL - (lg_sl (av.map (xV r))).length) Slot.unset).toArray) := by
  have h := lv_entry (av.map (xV r)) (n := nL) (by rw [xlg_len]; exact hl)
  refine ⟨?_, h.1, h.2.1, fun i v hi => ?_⟩
  · simp only [xentry, List.length_append, List.length_replicate]
    omega
  · have hi2 : (xargl av)[i]? = some (some v) := by
      unfold xentry at hi
      by_cases hlt : i < (xargl av).length
      · rwa [List.getElem?_append_left hlt] at hi
      · rw [List.getElem?_append_right (by omega), List.getElem?_replicate] at hi
        split at hi <;> cases hi
    refine ⟨h.2.2 (i, xV r v) ?_, ?_⟩
    · have := xlv_args (r := r) av 0 i v hi2
      rw [Nat.zero_add] at this
      exact this
    · have mem : ∀ (av : xst) (v : xv), some v ∈ xargl av → v ∈ av := by
        intro av
        induction av with
        | nil => intro v hv; cases hv
        | cons w av ih =>
          intro v hv
          rcases w with x | x | _ | x <;> simp only [xargl, List.mem_cons, Option.some.injEq, reduceCtorEq, false_or] at hv <;> rcases hv with rfl | hv <;> first | exact List.mem_cons_self | exact List.mem_cons_of_mem _ (ih v hv)
      exact hv v (mem av v (List.mem_of_getElem? hi2))
theorem xcon_all (l : Launch) : ∀ f, xCon l f := by
  intro f0
  induction f0 using Nat.strongRecOn with
  | _ f0 ih =>
  intro y dd kI kZ r n F xs adV D av v D' sz hy hne hn hal hav hgd hD0 hrun
  obtain ⟨hcl, hpl, hmh, hvh, hdesc, hcode, hiw, hini⟩ := xms_at hy hne
  refine Met.ofW (cc := xmb y) (maxL := (xsg y).2.1) (ret := xrt (xsg y).2.2.1) hpl rfl ?_
  intro p e s m args below meth c s₁ B hml hv
  obtain ⟨rfl, hsz, hP, hD, hK, hnest, ⟨hS, hR⟩, hZ⟩ := hv
  have hts0 := atoms_spec (ws := xmcw y :: xw) B.pre
  have hown : s.vm.findClass (xcn (xsg y).2.2.2.1) = some m.cls := by
    rw [← hcl]
    exact findClass_of_methodNamed B.named
  subst hsz
  have hf : xFix p (headSpec (xmcw y :: xw) (xrmY y)).room s m (av.map (xV r)).toArray c y (xsg y).2.1 n r dd kI kZ (va_A (xws kI kZ r F D n) s.heap.size) xs none adV :=
    ⟨B.exec, B.bytes, hml, hown, fun w hw => hts0 w (List.mem_cons_of_mem _ hw), hnest, hK, Nat.le_refl _, Nat.le_refl _, hy, hn, fun q hq => Or.inr hq, (fun L h => by cases h), hS, hR, hZ⟩
  have hlocks := B.notSynchronized
  have hx := B.exec
  have hb := B.bytes
  have hr := B.returns
  rw [lg_entry_eq]
  refine xrun_W (f0 := f0) ih hf ⟨Nat.le_refl _, Nat.le_refl _⟩ ?_ f0 (Nat.le_refl _) 0 _ [] D hrun _ _ _ (xentry_loc hal hav) (fun _ h => by cases h) ⟨hP, hD, va_S.rf, hgd, hD0⟩
  intro p' ls' st' lls' H' locs' h29 hret hL hvs hM
  obtain ⟨hP', hD', hS', hg', hx'⟩ := hM
  obtain ⟨ins, len, hdg, hok, -⟩ := xok_all hy (show (xcd y p').1 ≠ 99 by rw [h29]; decide)
  obtain ⟨rfl, hcase⟩ := xok_29 hok h29
  have post : ∀ t : State, t.heap = H' → (∀ w, v = some w → xvo w) → xPost dd kI kZ r n F xs (va_A (xws kI kZ r F D n) s.heap.size) v D' (av.map (xV r)).toArray s (.returned (v.map (xV r))) t := fun t ht hw => ⟨rfl, ⟨by rw [ht]; exact hP', hD', hg', hx', hw⟩, hS'.F ht⟩
  unfold xretv at hret
  rcases hcase with ⟨rfl, hu⟩ | ⟨rfl, hu⟩ | ⟨rfl, hu⟩
  · rw [hu] at hret
    have hret : (bif Nat.beq (xsg y).2.2.1 0 then (match (generalizing := false) st' with | [] => some none | _ => none) else none) = some v := hret
    cases hq : Nat.beq (xsg y).2.2.1 0 with
    | false => rw [hq] at hret; cases hret
    | true =>
      rw [hq] at hret
      simp only [cond_true] at hret
      split at hret
      · cases hret
        rw [Nat.beq_eq.mp hq] at hr
        exact W.vret hx hb hr (fun t ht hW => post t ht (fun _ h => by cases h)) hS'.2.2 hdg
      · cases hret
  · rw [hu] at hret
    have hret2 : (match (generalizing := false) st' with
      | [.inl v] => bif Nat.beq (xsg y).2.2.1 1 || (Nat.beq (xsg y).2.2.1 3 && (decide (v = 0) || decide (v = 1))) then some (some (.inl v)) else none
      | _ => none) = some v := hret
    clear hret
    split at hret2
    · rename_i v0
      cases hq : (Nat.beq (xsg y).2.2.1 1 || (Nat.beq (xsg y).2.2.1 3 && (decide (v0 = 0) || decide (v0 = 1)))) with
      | false => rw [hq] at hret2; cases hret2
      | true =>
        rw [hq] at hret2
        cases hret2
        have hv0 : xvo (.inl v0) := hvs _ List.mem_cons_self
        simp only [Bool.or_eq_true, Bool.and_eq_true, Nat.beq_eq, decide_eq_true_eq] at hq
        rcases hq with hq | ⟨hq, hbit⟩
        · rw [hq] at hr
          exact W.iret (v := Int32.ofInt v0) hx hb hr (fun t ht hW => post t ht (fun w h => by cases h; exact hv0)) hS'.2.2 hdg
        · rw [hq] at hr
          exact W.zret (v := Int32.ofInt v0) (ty := .boolean) hx hb hr (by rcases hbit with rfl | rfl <;> rfl) (fun t ht hW => post t ht (fun w h => by cases h; exact hv0)) hS'.2.2 hdg
    · cases hret2
  · rw [hu] at hret
    have hret2 : (match (generalizing := false) st' with
      | [.inr (.inl v)] => bif Nat.beq (xsg y).2.2.1 2 then some (some (.inr (.inl v))) else none
      | _ => none) = some v := hret
    clear hret
    split at hret2
    · rename_i v0
      cases hq : Nat.beq (xsg y).2.2.1 2 with
      | false => rw [hq] at hret2; cases hret2
      | true =>
        rw [hq] at hret2
        cases hret2
        have hv0 : xvo (.inr (.inl v0)) := hvs _ List.mem_cons_self
        rw [Nat.beq_eq.mp hq] at hr
        exact W.lret (v := Int64.ofInt v0) hx hb hr (fun t ht hW => post t ht (fun w h => by cases h; exact hv0)) hS'.2.2 hdg
    · cases hret2
