/-! makings: sound -/
section XN
variable {p : Program} {l : Launch} {e : Env} {R : Room} {s : State} {m : MethodId} {args : Array Value} {below : List Frame} {meth : Method} {c : Code} {cells slots : Nat} {Q : State → Prop}
variable {r : Nat → Nat} {nL : Nat} {dd : va_G} {kI kZ : ClassId} {n : Nat} {F : Nat → Nat → Bool} {A : Nat → Prop} {xs : Int → Int} {lo : Option Nat} {adV : Nat → Nat}
variable {y pc : Nat} {ls : xls} {st : xst} {D : xD}

theorem cnew_at {n k : Nat} {ls : xls} {st : xst} (h : cnew n k ls st = true) : (xsh n).1 = k ∧ 0 < n ∧ n < 124 ∧ xfree n ls st = true := by
  simp only [cnew, Bool.and_eq_true, Nat.beq_eq, Nat.blt_eq] at h
  exact ⟨h.1.1.1, h.1.1.2, h.1.2, h.2⟩
theorem xfld_new {r r' : Nat → Nat} {F : Nat → Nat → Bool} {D : xD} {n c : Nat} (hF : xFok n F) (k : Nat) : xfld r' F D n c k = xfld r F D n c k := by
  have h : F n k = false := by
    cases hq : F n k with
    | false => rfl
    | true => exact absurd (hF n k hq).1 (Nat.lt_irrefl n)
  unfold xfld
  rw [h]
  split <;> rfl
theorem xs_new (hf : xFix p R s m args c y nL n r dd kI kZ A xs lo adV) {idx pos ci : Nat} (he : ((xsg y).2.2.2.1, idx, ci, pos) ∈ xnl) (hc : cnew n (10 + ci) ls st = true) (hF : xFok n F) (hcl : cells + 1 ≤ R.cells) (hsl : slots + (xsh n).2 ≤ R.slots) (hdg : decode (xmb y) pc = .ok (.new idx, 3)) (k : ∀ q : Nat, xW p l e R s m args below meth c (cells + 1) (slots + (xsh n).2) Q (fun a => if a = n then q else r a) nL dd kI kZ (n + 1) F A xs (pc + 3) ls (.inr (.inr (some n)) :: st) (xz D n)) : xW p l e R s m args below meth c cells slots Q r nL dd kI kZ n F A xs pc ls st D := by
  obtain ⟨hx, hb, hml, hown, hts, hnw, hK, hR1, hR2, hy, hn, hA, hX, hS, hR⟩ := hf
  intro lls H locs hL hv hM
  obtain ⟨hsh, hn0, hn1, hfr⟩ := cnew_at hc
  have hci : ci < 11 := by
    have := List.all_eq_true.mp xnl_ok _ he
    simpa [Nat.blt_eq] using this
  have hN : (xsh n).2 = xnf ci := by
    rcases xsh_at hn0 hn1 (Nat.le_refl 124) with h | h | h
    · omega
    · omega
    · rw [h.2.2, hsh, Nat.add_sub_cancel_left]
  rw [hN] at hsl k
  have hin : Cond.instantiable (xcn ci) (xnf ci) ∈ xw ∧ Cond.initialized (xcn ci) ∈ xw := by
    have h := List.all_eq_true.mp xnn_all ci (List.mem_range.mpr hci)
    simp only [Bool.and_eq_true, List.any_eq_true, Nat.beq_eq] at h
    obtain ⟨⟨e1, h1, h2⟩, e2, h3, h4⟩ := h
    refine ⟨xw_in ?_ rfl, xw_in ?_ rfl⟩
    · have := xpass_mem _ _ _ xnn_ps _ (List.mem_map.mpr ⟨e1, h1, rfl⟩)
      rw [h2] at this
      exact this
    · have := xpass_mem _ _ _ xni_ps _ (List.mem_map.mpr ⟨e2, h3, rfl⟩)
      rw [h4] at this
      exact this
  refine va_new (ci := ci) (fs := (List.range (xnf ci)).map (fun z => xfld r F (xz D n) n ci z)) (C := xcn ci) (T := xT ci) (N := xnf ci) hx hb hts (xuw ci hci) (xty ci) (fun z hz => (xty_at hci hz).1) hown (hts _ (xw_in (xpass_mem _ _ _ xnl_ps _ (List.mem_map.mpr ⟨_, he, rfl⟩)) rfl)) (hts _ hin.1) (hts _ hin.2) hK hM.1 hM.2.1 hM.2.2.1 hA (xcl_at ci hci) (fun j hj => ?_) hcl hsl hdg (fun q H1 hP hD hS1 => ?_)
  · have e : vp_V ((List.range (xnf ci)).map (fun z => xfld r F (xz D n) n ci z)) j = xfld r F (xz D n) n ci j := by
      unfold vp_V
      rw [List.getD_eq_getElem?_getD, List.getElem?_map, List.getElem?_range hj]
      rfl
    rw [e]
    have hFn : F n j = false := by
      cases hq : F n j with
      | false => rfl
      | true => exact absurd (hF n j hq).1 (Nat.lt_irrefl n)
    obtain ⟨-, -, ht⟩ := xty_at hci hj
    rcases ht with h | h | h | ⟨⟨z, h1⟩, h2⟩ | ⟨⟨z, h1⟩, h2⟩
    · rw [h.1]
      unfold xfld
      rw [h.2]
      simp only [xz, if_true]
      rfl
    · rw [h.1]
      unfold xfld
      rw [h.2]
      simp only [xz, if_true]
      rfl
    · rw [h.1]
      unfold xfld
      rw [h.2]
      simp only [xz, if_true]
      rfl
    · rw [h1]
      unfold xfld
      rw [h2, hFn]
      rfl
    · rw [h1]
      unfold xfld
      rw [h2, hFn]
      rfl
  · obtain ⟨hl9, hst9⟩ := xfree_loc (q := q) hfr hL
    have hpush := xws_push (kI := kI) (kZ := kZ) (r := r) (r' := (fun a => if a = n then q else r a)) (F := F) (D := D) (D' := xz D n) hn0 hF (fun b hb9 => by simp [Nat.ne_of_lt hb9]) (fun a ha => by unfold xz; rw [if_neg ha])
    have hcell : xcell kI kZ (fun a => if a = n then q else r a) F (xz D n) n = .inr (ci, (List.range (xnf ci)).map (fun z => xfld r F (xz D n) n ci z)) := by
      rw [xcell_obj hsh, hN]
      congr 2
      exact List.map_congr_left (fun z _ => xfld_new hF z)
    rw [hcell] at hpush
    simp only [if_true] at hpush
    have hk := k q lls H1 locs hl9 (List.forall_mem_cons.mpr ⟨trivial, hv⟩) ⟨by rw [hpush]; exact hP, by rw [hpush]; exact hD, hS1, xgd_z hM.2.2.2.1, fun j => by show (if 0 = n then (fun _ => 0) else D 0) j = xs j; rw [if_neg (by omega)]; exact hM.2.2.2.2 j⟩
    rw [List.map_cons, hst9] at hk
    simpa only [xV, if_true] using hk
theorem xs_newa (hf : xFix p R s m args c y nL n r dd kI kZ A xs lo adV) {t : ArrayType} {tg : Nat} (ht : tg = (match t with | .int => 1 | .boolean => 2 | _ => 9)) (ht2 : t = .int ∨ t = .boolean) {st0 : xst} (hc : cnew n tg ls st0 = true) (hst : st0 = st) (hF : xFok n F) (hcl : cells + 1 ≤ R.cells) (hsl : slots + (xsh n).2 ≤ R.slots) (hdg : decode (xmb y) pc = .ok (.newarray t, 2)) (k : ∀ q : Nat, xW p l e R s m args below meth c (cells + 1) (slots + (xsh n).2) Q (fun a => if a = n then q else r a) nL dd kI kZ (n + 1) F A xs (pc + 2) ls (.inr (.inr (some n)) :: st) (xz D n)) : xW p l e R s m args below meth c cells slots Q r nL dd kI kZ n F A xs pc ls (.inl ((xsh n).2 : Int) :: st) D := by
  obtain ⟨hx, hb, hml, hown, hts, hnw, hK, hR1, hR2, hy, hn, hA, hX, hS, hR⟩ := hf
  subst hst
  intro lls H locs hL hv hM
  obtain ⟨hsh, hn0, hn1, hfr⟩ := cnew_at hc
  have hlen : xin ((xsh n).2 : Int) := (List.forall_mem_cons.mp hv).1
  have hv2 := (List.forall_mem_cons.mp hv).2
  have hnl : ¬ Int32.ofInt ((xsh n).2 : Int) < 0 := fun h => by
    have := (x_lt hlen xin0).mp h
    omega
  have hcl9 : (Int32.ofInt ((xsh n).2 : Int)).toNatClampNeg = (xsh n).2 := by
    show (Int32.ofInt _).toInt.toNat = _
    rw [x32 hlen]
    simp
  have hbig : (xsh n).2 ≤ 2000 := by
    have h := List.all_eq_true.mp (show (List.range 124).all (fun a => Nat.ble (xsh a).2 2000) = true by decide +kernel) n (List.mem_range.mpr hn1)
    exact Nat.ble_eq.mp h
  obtain ⟨hl9, -⟩ := xfree_loc (q := 0) hfr hL
  rcases ht2 with rfl | rfl
  · subst ht
    have harr : (Cond.arrayClass (newarray.typeOf .int)).before args s = true := hts (.arrayClass .int) (xlw_w (by simp [xlw]) rfl)
    refine va_newa (atype := .int) (ty := .int) (a0 := ((xsh n).2, .inl (fun _ => 0))) hx hb harr rfl hK hM.1 hM.2.1 hM.2.2.1 hA (fun cA => rfl) hnl hcl9 (by show (xsh n).2 * 4 ≤ 536870912; omega) hcl hsl hdg (fun q cA H1 hK1 hP hD hS1 => ?_)
    have e1 : s.vm.findClass ("[" ++ FieldType.int.toString) = some kI := (hK.2 0 _ rfl).2
    have e2 : s.vm.findClass ("[" ++ FieldType.int.toString) = some cA := (hK1.2 2 _ rfl).2
    have ec : cA = kI := Option.some.inj (e2.symm.trans e1)
    subst ec
    obtain ⟨hl9, hst9⟩ := xfree_loc (q := q) hfr hL
    have hpush := xws_push (kI := cA) (kZ := kZ) (r := r) (r' := (fun a => if a = n then q else r a)) (F := F) (D := D) (D' := xz D n) hn0 hF (fun b hb9 => by simp [Nat.ne_of_lt hb9]) (fun a ha => by unfold xz; rw [if_neg ha])
    rw [xcell_int hsh] at hpush
    have hz : (fun k : Nat => Int32.ofInt (xz D n n k)) = fun _ => 0 := by
      funext z
      simp [xz]
    rw [hz] at hpush
    simp only [if_true] at hpush
    have hk := k q lls H1 locs hl9 (List.forall_mem_cons.mpr ⟨trivial, hv2⟩) ⟨by rw [hpush]; exact hP, by rw [hpush]; exact hD, hS1, xgd_z hM.2.2.2.1, fun j => by show (if 0 = n then (fun _ => 0) else D 0) j = xs j; rw [if_neg (by omega)]; exact hM.2.2.2.2 j⟩
    rw [List.map_cons, hst9] at hk
    simpa only [xV, if_true] using hk
  · subst ht
    have harr : (Cond.arrayClass (newarray.typeOf .boolean)).before args s = true := hts (.arrayClass .boolean) (xlw_w (by simp [xlw]) rfl)
    refine va_newa (atype := .boolean) (ty := .boolean) (a0 := ((xsh n).2, .inl (fun _ => 0))) hx hb harr rfl hK hM.1 hM.2.1 hM.2.2.1 hA (fun cA => rfl) hnl hcl9 (by show (xsh n).2 * 1 ≤ 536870912; omega) hcl hsl hdg (fun q cA H1 hK1 hP hD hS1 => ?_)
    have e1 : s.vm.findClass ("[" ++ FieldType.boolean.toString) = some kZ := (hK.2 1 _ rfl).2
    have e2 : s.vm.findClass ("[" ++ FieldType.boolean.toString) = some cA := (hK1.2 2 _ rfl).2
    have ec : cA = kZ := Option.some.inj (e2.symm.trans e1)
    subst ec
    obtain ⟨hl9, hst9⟩ := xfree_loc (q := q) hfr hL
    have hpush := xws_push (kI := kI) (kZ := cA) (r := r) (r' := (fun a => if a = n then q else r a)) (F := F) (D := D) (D' := xz D n) hn0 hF (fun b hb9 => by simp [Nat.ne_of_lt hb9]) (fun a ha => by unfold xz; rw [if_neg ha])
    rw [xcell_bool hsh] at hpush
    have hz : (fun k : Nat => Int32.ofInt (xz D n n k)) = fun _ => 0 := by
      funext z
      simp [xz]
    rw [hz] at hpush
    simp only [if_true] at hpush
    have hk := k q lls H1 locs hl9 (List.forall_mem_cons.mpr ⟨trivial, hv2⟩) ⟨by rw [hpush]; exact hP, by rw [hpush]; exact hD, hS1, xgd_z hM.2.2.2.1, fun j => by show (if 0 = n then (fun _ => 0) else D 0) j = xs j; rw [if_neg (by omega)]; exact hM.2.2.2.2 j⟩
    rw [List.map_cons, hst9] at hk
    simpa only [xV, if_true] using hk
end XN
