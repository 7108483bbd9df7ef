/-! the steps that read or write the memory -/
theorem xsh_at {a n : Nat} (h0 : 0 < a) (hn : a < n) (h9 : n ≤ 124) : (xsh a).1 = 1 ∨ (xsh a).1 = 2 ∨ (10 ≤ (xsh a).1 ∧ (xsh a).1 < 21 ∧ (xsh a).2 = xnf ((xsh a).1 - 10)) := by
  have h := List.all_eq_true.mp xsh_ok a (List.mem_range.mpr (by omega))
  simp only [Bool.or_eq_true, Bool.and_eq_true, Nat.beq_eq, Nat.ble_eq, Nat.blt_eq] at h
  omega
theorem xisO_iff {n a c : Nat} : xisO n a c = true ↔ 0 < a ∧ a < n ∧ (xsh a).1 = 10 + c := by
  simp only [xisO, Bool.and_eq_true, Nat.blt_eq, Nat.beq_eq, and_assoc]
theorem xcell_obj {kI kZ : ClassId} {r : Nat → Nat} {F : Nat → Nat → Bool} {D : xD} {a c : Nat} (h : (xsh a).1 = 10 + c) : xcell kI kZ r F D a = .inr (c, (List.range (xsh a).2).map (fun k => xfld r F D a c k)) := by
  have e : (xsh a).1 - 10 = c := by omega
  unfold xcell
  rw [if_neg (by omega), if_neg (by omega), e]
theorem xcell_int {kI kZ : ClassId} {r : Nat → Nat} {F : Nat → Nat → Bool} {D : xD} {a : Nat} (h : (xsh a).1 = 1) : xcell kI kZ r F D a = .inl (kI, (xsh a).2, .inl (fun k => Int32.ofInt (D a k))) := by
  unfold xcell
  rw [if_pos h]
theorem xcell_bool {kI kZ : ClassId} {r : Nat → Nat} {F : Nat → Nat → Bool} {D : xD} {a : Nat} (h : (xsh a).1 = 2) : xcell kI kZ r F D a = .inl (kZ, (xsh a).2, .inl (fun k => Int32.ofInt (D a k))) := by
  unfold xcell
  rw [if_neg (by omega), if_pos h]
theorem xcell_ne {kI kZ : ClassId} {r : Nat → Nat} {F : Nat → Nat → Bool} {D D' : xD} {a : Nat} (h : D' a = D a) : xcell kI kZ r F D' a = xcell kI kZ r F D a := by
  simp only [xcell, xfld, h]
theorem xws_ext {kI kZ : ClassId} {r : Nat → Nat} {F : Nat → Nat → Bool} {D D' : xD} {n a : Nat} {x : va_E} (h0 : 0 < a) (hn : a < n) (hx : xcell kI kZ r F D' a = x) (hD : ∀ b, b ≠ a → D' b = D b) : (xws kI kZ r F D n).set (a - 1) (r a, x) = xws kI kZ r F D' n := by
  apply List.ext_getElem?
  intro j
  by_cases hj : j = a - 1
  · subst hj
    rw [List.getElem?_set_self (by simp [xws]; omega), xws_at h0 hn, hx]
  · rw [List.getElem?_set_ne (Ne.symm hj)]
    simp only [xws, List.getElem?_map]
    by_cases hl : j < n - 1
    · rw [List.getElem?_range hl]
      simp only [Option.map_some]
      rw [xcell_ne (hD (j + 1) (by omega))]
    · rw [List.getElem?_eq_none (by simpa using hl)]
      rfl
theorem xgd_up {D : xD} {a : Nat} {k v : Int} (h : xgd D) (h1 : xlf a k = false → xin v) (h2 : xinL v) : xgd (xup D a k v) := by
  intro b j
  unfold xup
  by_cases hb : b = a ∧ j = k
  · obtain ⟨rfl, rfl⟩ := hb
    rw [if_pos ⟨rfl, rfl⟩]
    exact ⟨h1, h2⟩
  · rw [if_neg hb]
    exact h b j
theorem xup_ne {D : xD} {a b : Nat} {k v : Int} (h : b ≠ a) : xup D a k v b = D b := by
  funext j
  simp [xup, h]
theorem xmem_put {s : State} {dd : va_G} {kI kZ : ClassId} {r : Nat → Nat} {n : Nat} {F : Nat → Nat → Bool} {A : Nat → Prop} {xs : Int → Int} {D : xD} {H H1 : Heap} {locs locs1 : List Loc} {a : Nat} {k v : Int} {x : va_E} (h0 : 0 < a) (hn : a < n) (hM : xMem s dd kI kZ r n F A xs D H locs) (hx : xcell kI kZ r F (xup D a k v) a = x) (h1 : xlf a k = false → xin v) (h2 : xinL v)
    (hP : va_P dd xcl ((xws kI kZ r F D n).set (a - 1) (r a, x)) H1) (hD : va_D A ((xws kI kZ r F D n).set (a - 1) (r a, x))) (hS : va_S A s.heap H1 locs1) : xMem s dd kI kZ r n F A xs (xup D a k v) H1 locs1 := by
  have e := xws_ext (kI := kI) (kZ := kZ) (r := r) (F := F) (D := D) (D' := xup D a k v) (n := n) h0 hn hx (fun b hb => xup_ne hb)
  rw [e] at hP hD
  exact ⟨hP, hD, hS, xgd_up hM.2.2.2.1 h1 h2, fun j => by rw [xup_ne (by omega)]; exact hM.2.2.2.2 j⟩
theorem xfld_up {r : Nat → Nat} {F : Nat → Nat → Bool} {D : xD} {a c k z : Nat} {v : Int} (hz : z ≠ k) : xfld r F (xup D a k v) a c z = xfld r F D a c z := by
  have e : xup D a k v a z = D a z := by simp [xup, show ¬ ((z : Int) = (k : Int)) by omega]
  simp only [xfld, e]
theorem xrow_up {r : Nat → Nat} {F : Nat → Nat → Bool} {D : xD} {a c k N : Nat} {v : Int} (hk : k < N) : ((List.range N).map (fun z => xfld r F D a c z)).set k (xfld r F (xup D a k v) a c k) = (List.range N).map (fun z => xfld r F (xup D a k v) a c z) := by
  apply List.ext_getElem?
  intro j
  by_cases hj : j = k
  · subst hj
    rw [List.getElem?_set_self (by simpa using hk), List.getElem?_map, List.getElem?_range hk]
    rfl
  · rw [List.getElem?_set_ne (Ne.symm hj), List.getElem?_map, List.getElem?_map]
    by_cases hl : j < N
    · rw [List.getElem?_range hl]
      simp only [Option.map_some]
      rw [xfld_up hj]
    · rw [List.getElem?_eq_none (by simpa using hl)]
      rfl
theorem xfl_at {c idx ci k pos : Nat} {nest : Bool} (he : (c, idx, ci, k, nest, pos) ∈ xfl) : k < xnf ci ∧ ci < 11 ∧ xflw (c, idx, ci, k, nest, pos) ∈ lw_tbl := by
  have h := List.all_eq_true.mp xfl_ok _ he
  simp only [Bool.and_eq_true, Nat.blt_eq] at h
  exact ⟨h.1, h.2, xpass_mem _ _ _ xfl_ps _ (List.mem_map.mpr ⟨_, he, rfl⟩)⟩
theorem xty_at {c k : Nat} (hc : c < 11) (hk : k < xnf c) : parseFieldDescriptor (xT c k).2.2.1 = some (xty c k) ∧ (xT c k).1 = xcn c ∧ ((xty c k = .int ∧ xfk c k = (0, 0)) ∨ (xty c k = .boolean ∧ xfk c k = (1, 0)) ∨ (xty c k = .long ∧ xfk c k = (2, 0)) ∨ ((∃ z, xty c k = .object z) ∧ (xfk c k).1 = 3) ∨ ((∃ z, xty c k = .array z) ∧ (xfk c k).1 = 3)) := by
  have h := List.all_eq_true.mp (List.all_eq_true.mp xty_ok c (List.mem_range.mpr hc)) k (List.mem_range.mpr hk)
  simp only [Bool.and_eq_true, decide_eq_true_eq] at h
  refine ⟨h.1.1, h.1.2, ?_⟩
  have h2 := h.2
  split at h2 <;> simp_all
theorem xnm_at {c : Nat} (hc : c < 11) : ∀ a, a < xnf c → ∀ b, b < xnf c → a ≠ b → (xT c a).2.1 ≠ (xT c b).2.1 := by
  intro a ha b hb hab
  have h := List.all_eq_true.mp (List.all_eq_true.mp (List.all_eq_true.mp xnm_ok c (List.mem_range.mpr hc)) a (List.mem_range.mpr ha)) b (List.mem_range.mpr hb)
  simp only [Bool.or_eq_true, decide_eq_true_eq] at h
  exact h.resolve_left hab
section XM
variable {p : Program} {l : Launch} {e : Env} {R : Room} {s : State} {m : MethodId} {args : Array Value} {below : List Frame} {meth : Method} {c : Code} {cells slots : Nat} {Q : State → Prop}
variable {r : Nat → Nat} {nL : Nat} {dd : va_G} {kI kZ : ClassId} {n : Nat} {F : Nat → Nat → Bool} {A : Nat → Prop} {xs : Int → Int} {lo : Option Nat} {adV : Nat → Nat}
variable {y pc : Nat} {ls : xls} {st : xst} {D : xD}
theorem x_ix {j : Int} {N : Nat} (hj : xin j) (h0 : 0 ≤ j) (h1 : j < (N : Int)) : vp_in (Int32.ofInt j) N ∧ ((Int32.ofInt j).toNatClampNeg : Int) = j ∧ (Int32.ofInt j).toNatClampNeg = j.toNat := by
  have e : (Int32.ofInt j).toNatClampNeg = j.toNat := by
    show (Int32.ofInt j).toInt.toNat = j.toNat
    rw [x32 hj]
  refine ⟨vp_in_iff.mpr (by rw [x32 hj]; exact ⟨h0, h1⟩), by rw [e]; omega, e⟩

theorem xs_getf (hf : xFix p R s m args c y nL n r dd kI kZ A xs lo adV) {idx ci kk pos a : Nat} {nest : Bool} {v9 : xv} (he : ((xsg y).2.2.2.1, idx, ci, kk, nest, pos) ∈ xfl) (ho : xisO n a ci = true) (hval : xfld r F D a ci kk = xV r v9) (hvo : xgd D → xvo v9) (hdg : decode (xmb y) pc = .ok (.getfield idx, 3)) (k : xW p l e R s m args below meth c cells slots Q r nL dd kI kZ n F A xs (pc + 3) ls (v9 :: st) D) : xW p l e R s m args below meth c cells slots Q r nL dd kI kZ n F A xs pc ls (.inr (.inr (some a)) :: st) D := by
  obtain ⟨hx, hb, hml, hown, hts, hnw, hK, hR1, hR2, hy, hn, hA, hX, hS, hR⟩ := hf
  intro lls H locs hL hv hM
  obtain ⟨hk, hci, hw⟩ := xfl_at he
  obtain ⟨ha0, han, hsh⟩ := xisO_iff.mp ho
  have hN : (xsh a).2 = xnf ci := by
    rcases xsh_at ha0 han hn with h | h | h
    · omega
    · omega
    · rw [h.2.2, hsh, Nat.add_sub_cancel_left]
  have hcell := xws_at (kI := kI) (kZ := kZ) (r := r) (F := F) (D := D) ha0 han
  rw [xcell_obj hsh, hN] at hcell
  have hfs : ((List.range (xnf ci)).map (fun z => xfld r F D a ci z))[kk]? = some (xV r v9) := by
    rw [List.getElem?_map, List.getElem?_range hk]
    simp only [Option.map_some, hval]
  have hsame : ∀ x, s.fieldFound? (xT ci kk).1 (xT ci kk).2.1 (xT ci kk).2.2.1 = some x → s.fieldFound? (xcn ci) (xT ci kk).2.1 (xT ci kk).2.2.1 = some x := fun x h => by
    rw [← (xty_at hci hk).2.1]
    exact h
  have hfin := k lls H locs hL (List.forall_mem_cons.mpr ⟨hvo hM.2.2.2.1, (List.forall_mem_cons.mp hv).2⟩) hM
  cases nest with
  | false => exact va_get (T := xT ci) (N := xnf ci) hx hb hts (xuw ci hci) hown hK hM.1 (a - 1) hcell (xcl_at ci hci) kk hk (hts _ (xw_in hw rfl)) hsame hfs hdg hfin
  | true => exact va_getN (T := xT ci) (N := xnf ci) (host := "OutInTime") hx hb hts (xuw ci hci) hown hK hM.1 (a - 1) hcell (xcl_at ci hci) kk hk (va_Nw.use rfl (hnw _ hw rfl)) hsame hfs hdg hfin

theorem xs_putf (hf : xFix p R s m args c y nL n r dd kI kZ A xs lo adV) {idx ci kk pos a : Nat} {nest : Bool} {v : Int} {vv : Value} {ty : FieldType} (he : ((xsg y).2.2.2.1, idx, ci, kk, nest, pos) ∈ xfl) (ho : xisO n a ci = true) (hval : xfld r F (xup D a kk v) a ci kk = vv) (hfin : (xT ci kk).2.2.2 = false) (hty : xty ci kk = ty) (hnar : narrow ty vv = vv) (hfit : fits ty vv = true) (h1 : xlf a kk = false → xin v) (h2 : xinL v) {v9 : xv} (hv9 : vv = xV r v9) (hdg : decode (xmb y) pc = .ok (.putfield idx, 3)) (k : xW p l e R s m args below meth c cells slots Q r nL dd kI kZ n F A xs (pc + 3) ls st (xup D a kk v)) : xW p l e R s m args below meth c cells slots Q r nL dd kI kZ n F A xs pc ls (v9 :: .inr (.inr (some a)) :: st) D := by
  obtain ⟨hx, hb, hml, hown, hts, hnw, hK, hR1, hR2, hy, hn, hA, hX, hS, hR⟩ := hf
  intro lls H locs hL hv hM
  obtain ⟨hk, hci, hw⟩ := xfl_at he
  obtain ⟨ha0, han, hsh⟩ := xisO_iff.mp ho
  have hN : (xsh a).2 = xnf ci := by
    rcases xsh_at ha0 han hn with h | h | h
    · omega
    · omega
    · rw [h.2.2, hsh, Nat.add_sub_cancel_left]
  have hcell := xws_at (kI := kI) (kZ := kZ) (r := r) (F := F) (D := D) ha0 han
  rw [xcell_obj hsh, hN] at hcell
  have hsame : ∀ x, s.fieldFound? (xT ci kk).1 (xT ci kk).2.1 (xT ci kk).2.2.1 = some x → s.fieldFound? (xcn ci) (xT ci kk).2.1 (xT ci kk).2.2.1 = some x := fun x h => by
    rw [← (xty_at hci hk).2.1]
    exact h
  have hx9 : xcell kI kZ r F (xup D a kk v) a = .inr (ci, ((List.range (xnf ci)).map (fun z => xfld r F D a ci z)).set kk vv) := by
    rw [xcell_obj hsh, hN, ← hval, xrow_up hk]
  have go : ∀ (H1 : Heap) (locs1 : List Loc), va_P dd xcl ((xws kI kZ r F D n).set (a - 1) (r a, .inr (ci, ((List.range (xnf ci)).map (fun z => xfld r F D a ci z)).set kk vv))) H1 → va_D A ((xws kI kZ r F D n).set (a - 1) (r a, .inr (ci, ((List.range (xnf ci)).map (fun z => xfld r F D a ci z)).set kk vv))) → va_S A s.heap H1 locs1 → W p l e R s m args below meth c H1 locs1 cells slots Q (F0 m (pc + 3) lls (st.map (xV r))) := fun H1 locs1 hP hD hS9 =>
    k lls H1 locs1 hL (List.forall_mem_cons.mp (List.forall_mem_cons.mp hv).2).2 (xmem_put ha0 han hM hx9 h1 h2 hP hD hS9)
  have hpd : parseFieldDescriptor (xT ci kk).2.2.1 = some ty := by rw [← hty]; exact (xty_at hci hk).1
  have hl9 : kk < ((List.range (xnf ci)).map (fun z => xfld r F D a ci z)).length := by simpa using hk
  show W p l e R s m args below meth c H locs cells slots Q (F0 m pc lls (xV r v9 :: .ref (r a) :: st.map (xV r)))
  rw [← hv9]
  cases nest with
  | false => exact va_put (T := xT ci) (N := xnf ci) (ty := ty) hx hb hts (xuw ci hci) (xty ci) (fun z hz => (xty_at hci hz).1) (xnm_at hci) hown hK hM.1 hM.2.1 hM.2.2.1 (a - 1) hcell (xcl_at ci hci) kk hk (hts _ (xw_in hw rfl)) hsame hfin hpd hnar hfit hl9 hdg go
  | true => exact va_putN (T := xT ci) (N := xnf ci) (ty := ty) (host := "OutInTime") hx hb hts (xuw ci hci) (xty ci) (fun z hz => (xty_at hci hz).1) (xnm_at hci) hown hK hM.1 hM.2.1 hM.2.2.1 (a - 1) hcell (xcl_at ci hci) kk hk (va_Nw.use rfl (hnw _ hw rfl)) hsame hfin hpd hnar hfit hl9 hdg go

theorem xs_iaload (hf : xFix p R s m args c y nL n r dd kI kZ A xs lo adV) {a : Nat} {j : Int} (ho : xix j (xalen lo n a) = true) (hdg : decode (xmb y) pc = .ok (.iaload, 1)) (k : xW p l e R s m args below meth c cells slots Q r nL dd kI kZ n F A xs (pc + 1) ls (.inl (D a j) :: st) D) : xW p l e R s m args below meth c cells slots Q r nL dd kI kZ n F A xs pc ls (.inl j :: .inr (.inr (some a)) :: st) D := by
  obtain ⟨hx, hb, hml, hown, hts, hnw, hK, hR1, hR2, hy, hn, hA, hX, hS, hR⟩ := hf
  intro lls H locs hL hv hM
  have hj : xin j := (List.forall_mem_cons.mp hv).1
  cases a with
  | zero =>
    cases lo with
    | none => simp [xix, xalen] at ho
    | some L =>
      simp only [xix, xalen, Bool.and_eq_true, decide_eq_true_eq] at ho
      obtain ⟨i1, i2, i3⟩ := x_ix hj ho.1 ho.2
      obtain ⟨g1, g2, g3, g4⟩ := hX L rfl
      have hd := hM.2.2.2.2 j
      refine va_sld hx hb g1 g2 g3 hM.2.2.1 i1 hdg ?_
      rw [i2]
      have := k lls H locs hL (List.forall_mem_cons.mpr ⟨(hM.2.2.2.1 0 j).1 (by rfl), (List.forall_mem_cons.mp (List.forall_mem_cons.mp hv).2).2⟩) hM
      rw [← hd]
      exact this
  | succ a =>
    simp only [xix, xalen] at ho
    cases hq : (Nat.blt (a + 1) n && Nat.beq (xsh (a + 1)).1 1) with
    | false => rw [hq] at ho; simp at ho
    | true =>
      rw [hq] at ho
      simp only [cond_true, Bool.and_eq_true, decide_eq_true_eq] at ho
      simp only [Bool.and_eq_true, Nat.blt_eq, Nat.beq_eq] at hq
      obtain ⟨i1, i2, i3⟩ := x_ix hj ho.1 ho.2
      have hcell := xws_at (kI := kI) (kZ := kZ) (r := r) (F := F) (D := D) (Nat.succ_pos a) hq.1
      rw [xcell_int hq.2] at hcell
      refine va_iald hx hb hK hM.1 (a + 1 - 1) 0 hcell rfl i1 hdg ?_
      have := k lls H locs hL (List.forall_mem_cons.mpr ⟨(hM.2.2.2.1 (a + 1) j).1 (by simp [xlf, hq.2]), (List.forall_mem_cons.mp (List.forall_mem_cons.mp hv).2).2⟩) hM
      rw [i2]
      exact this

theorem x_upd {D : xD} {a : Nat} {j v : Int} (h0 : 0 ≤ j) : upd (fun k : Nat => Int32.ofInt (D a k)) j.toNat (Int32.ofInt v) = fun k : Nat => Int32.ofInt (xup D a j v a k) := by
  funext k
  by_cases hk : k = j.toNat
  · subst hk
    simp [upd, xup, Int.max_eq_left h0]
  · simp [upd, xup, hk, show ¬ ((k : Int) = j) by omega]

theorem xs_iastore (hf : xFix p R s m args c y nL n r dd kI kZ A xs lo adV) {a : Nat} {j v : Int} (ho : xix j (xalen none n a) = true) (hdg : decode (xmb y) pc = .ok (.iastore, 1)) (k : xW p l e R s m args below meth c cells slots Q r nL dd kI kZ n F A xs (pc + 1) ls st (xup D a j v)) : xW p l e R s m args below meth c cells slots Q r nL dd kI kZ n F A xs pc ls (.inl v :: .inl j :: .inr (.inr (some a)) :: st) D := by
  obtain ⟨hx, hb, hml, hown, hts, hnw, hK, hR1, hR2, hy, hn, hA, hX, hS, hR⟩ := hf
  intro lls H locs hL hv hM
  have hvv : xin v := (List.forall_mem_cons.mp hv).1
  have hj : xin j := (List.forall_mem_cons.mp (List.forall_mem_cons.mp hv).2).1
  have ha : 0 < a ∧ a < n ∧ (xsh a).1 = 1 ∧ 0 ≤ j ∧ j < ((xsh a).2 : Int) := by
    cases a with
    | zero => simp [xix, xalen] at ho
    | succ a =>
      simp only [xix, xalen] at ho
      cases hq : (Nat.blt (a + 1) n && Nat.beq (xsh (a + 1)).1 1) with
      | false => rw [hq] at ho; simp at ho
      | true =>
        rw [hq] at ho
        simp only [cond_true, Bool.and_eq_true, decide_eq_true_eq] at ho
        simp only [Bool.and_eq_true, Nat.blt_eq, Nat.beq_eq] at hq
        exact ⟨Nat.succ_pos a, hq.1, hq.2, ho.1, ho.2⟩
  obtain ⟨ha0, han, hsh, hj0, hjl⟩ := ha
  obtain ⟨i1, i2, i3⟩ := x_ix hj hj0 hjl
  have hcell := xws_at (kI := kI) (kZ := kZ) (r := r) (F := F) (D := D) ha0 han
  rw [xcell_int hsh] at hcell
  refine va_iast hx hb hK hM.1 hM.2.1 hM.2.2.1 (a - 1) 0 hcell rfl i1 hdg (fun H1 locs1 hP hD hS1 => ?_)
  rw [i3, x_upd hj0] at hP hD
  exact k lls H1 locs1 hL (List.forall_mem_cons.mp (List.forall_mem_cons.mp (List.forall_mem_cons.mp hv).2).2).2 (xmem_put ha0 han hM (xcell_int hsh) (fun _ => hvv) (xin_L hvv) hP hD hS1)

theorem xs_bastore (hf : xFix p R s m args c y nL n r dd kI kZ A xs lo adV) {a : Nat} {j v : Int} (ho : xix j (xzlen n a) = true) (hbit : xbit 1 v = true) (hdg : decode (xmb y) pc = .ok (.bastore, 1)) (k : xW p l e R s m args below meth c cells slots Q r nL dd kI kZ n F A xs (pc + 1) ls st (xup D a j v)) : xW p l e R s m args below meth c cells slots Q r nL dd kI kZ n F A xs pc ls (.inl v :: .inl j :: .inr (.inr (some a)) :: st) D := by
  obtain ⟨hx, hb, hml, hown, hts, hnw, hK, hR1, hR2, hy, hn, hA, hX, hS, hR⟩ := hf
  intro lls H locs hL hv hM
  have hvv : xin v := (List.forall_mem_cons.mp hv).1
  have hj : xin j := (List.forall_mem_cons.mp (List.forall_mem_cons.mp hv).2).1
  have ha : 0 < a ∧ a < n ∧ (xsh a).1 = 2 ∧ 0 ≤ j ∧ j < ((xsh a).2 : Int) := by
    simp only [xix, xzlen] at ho
    cases hq : (Nat.blt 0 a && Nat.blt a n && Nat.beq (xsh a).1 2) with
    | false => rw [hq] at ho; simp at ho
    | true =>
      rw [hq] at ho
      simp only [cond_true, Bool.and_eq_true, decide_eq_true_eq] at ho
      simp only [Bool.and_eq_true, Nat.blt_eq, Nat.beq_eq] at hq
      exact ⟨hq.1.1, hq.1.2, hq.2, ho.1, ho.2⟩
  have hnar : vp_nar .boolean (Int32.ofInt v) = Int32.ofInt v := by
    simp only [xbit, Bool.or_eq_true, decide_eq_true_eq] at hbit
    rcases hbit with (h | rfl) | rfl
    · exact absurd h (by decide)
    · rfl
    · rfl
  obtain ⟨ha0, han, hsh, hj0, hjl⟩ := ha
  obtain ⟨i1, i2, i3⟩ := x_ix hj hj0 hjl
  have hcell := xws_at (kI := kI) (kZ := kZ) (r := r) (F := F) (D := D) ha0 han
  rw [xcell_bool hsh] at hcell
  refine va_zast hx hb hK hM.1 hM.2.1 hM.2.2.1 (a - 1) 1 hcell rfl i1 hdg (fun H1 locs1 hP hD hS1 => ?_)
  rw [hnar] at hP hD
  rw [i3, x_upd hj0] at hP hD
  exact k lls H1 locs1 hL (List.forall_mem_cons.mp (List.forall_mem_cons.mp (List.forall_mem_cons.mp hv).2).2).2 (xmem_put ha0 han hM (xcell_bool hsh) (fun _ => hvv) (xin_L hvv) hP hD hS1)

theorem xs_baload (hf : xFix p R s m args c y nL n r dd kI kZ A xs lo adV) {a : Nat} {j : Int} (ho : xix j (xzlen n a) = true) (hdg : decode (xmb y) pc = .ok (.baload, 1)) (k : xW p l e R s m args below meth c cells slots Q r nL dd kI kZ n F A xs (pc + 1) ls (.inl (D a j) :: st) D) : xW p l e R s m args below meth c cells slots Q r nL dd kI kZ n F A xs pc ls (.inl j :: .inr (.inr (some a)) :: st) D := by
  obtain ⟨hx, hb, hml, hown, hts, hnw, hK, hR1, hR2, hy, hn, hA, hX, hS, hR⟩ := hf
  intro lls H locs hL hv hM
  have hj : xin j := (List.forall_mem_cons.mp hv).1
  simp only [xix, xzlen] at ho
  cases hq : (Nat.blt 0 a && Nat.blt a n && Nat.beq (xsh a).1 2) with
  | false => rw [hq] at ho; simp at ho
  | true =>
    rw [hq] at ho
    simp only [cond_true, Bool.and_eq_true, decide_eq_true_eq] at ho
    simp only [Bool.and_eq_true, Nat.blt_eq, Nat.beq_eq] at hq
    obtain ⟨i1, i2, i3⟩ := x_ix hj ho.1 ho.2
    have hcell := xws_at (kI := kI) (kZ := kZ) (r := r) (F := F) (D := D) hq.1.1 hq.1.2
    rw [xcell_bool hq.2] at hcell
    refine va_zald hx hb hK hM.1 (a - 1) 1 hcell rfl i1 hdg ?_
    have := k lls H locs hL (List.forall_mem_cons.mpr ⟨(hM.2.2.2.1 a j).1 (by simp [xlf, hq.2]), (List.forall_mem_cons.mp (List.forall_mem_cons.mp hv).2).2⟩) hM
    rw [i2]
    exact this

theorem xs_alen (hf : xFix p R s m args c y nL n r dd kI kZ A xs lo adV) {a N : Nat} (ho : xalen lo n a = some N) (hN : xin (N : Int)) (hdg : decode (xmb y) pc = .ok (.arraylength, 1)) (k : xW p l e R s m args below meth c cells slots Q r nL dd kI kZ n F A xs (pc + 1) ls (.inl (N : Int) :: st) D) : xW p l e R s m args below meth c cells slots Q r nL dd kI kZ n F A xs pc ls (.inr (.inr (some a)) :: st) D := by
  obtain ⟨hx, hb, hml, hown, hts, hnw, hK, hR1, hR2, hy, hn, hA, hX, hS, hR⟩ := hf
  intro lls H locs hL hv hM
  have hfin := k lls H locs hL (List.forall_mem_cons.mpr ⟨hN, (List.forall_mem_cons.mp hv).2⟩) hM
  cases a with
  | zero =>
    cases lo with
    | none => simp [xalen] at ho
    | some L =>
      simp only [xalen, Option.some.injEq] at ho
      subst ho
      obtain ⟨g1, g2, g3, g4⟩ := hX L rfl
      exact va_slen hx hb g1 g2 g3 hM.2.2.1 hdg hfin
  | succ a =>
    simp only [xalen] at ho
    cases hq : (Nat.blt (a + 1) n && Nat.beq (xsh (a + 1)).1 1) with
    | false => rw [hq] at ho; simp at ho
    | true =>
      rw [hq] at ho
      simp only [cond_true, Option.some.injEq] at ho
      subst ho
      simp only [Bool.and_eq_true, Nat.blt_eq, Nat.beq_eq] at hq
      have hcell := xws_at (kI := kI) (kZ := kZ) (r := r) (F := F) (D := D) (Nat.succ_pos a) hq.1
      rw [xcell_int hq.2] at hcell
      exact va_alen hx hb hK hM.1 (a + 1 - 1) 0 hcell rfl rfl hdg hfin

end XM
