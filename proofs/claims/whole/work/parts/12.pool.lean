/-! switches, constants of the pool, library members -/
theorem xlw_w {w : Cond} (h : w ∈ xlw.map (fun q => q.2)) (hg : goodWord w = true) : w ∈ xw := xw_in (xlw_in h) hg
theorem xll_at {c idx o pos : Nat} (he : (c, idx, o, pos) ∈ xll) : Cond.methodLink (xcn c) idx (xlib o) ∈ xw := xw_in (xpass_mem _ _ _ xll_ps _ (List.mem_map.mpr ⟨_, he, rfl⟩)) rfl
theorem xcat_sum {r : Nat → Nat} : ∀ (st : xst), ((st.map (xV r)).map fun v => v.category).sum = xcat st
  | [] => rfl
  | v :: st => by
    have ih := xcat_sum (r := r) st
    rcases v with x | x | _ | a <;> simp only [List.map_cons, List.sum_cons, xcat, ih] <;> rfl
section XP
variable {p : Program} {l : Launch} {e : Env} {R : Room} {s : State} {m : MethodId} {args : Array Value} {below : List Frame} {meth : Method} {c : Code} {cells slots : Nat} {Q : State → Prop}
variable {r : Nat → Nat} {nL : Nat} {dd : va_G} {kI kZ : ClassId} {n : Nat} {F : Nat → Nat → Bool} {A : Nat → Prop} {xs : Int → Int} {lo : Option Nat} {adV : Nat → Nat}
variable {y pc : Nat} {ls : xls} {st : xst} {D : xD}

theorem xs_ldc (hf : xFix p R s m args c y nL n r dd kI kZ A xs lo adV) {idx pos : Nat} {z : Int} (he : ((xsg y).2.2.2.1, idx, z, pos) ∈ xkl) (hdg : decode (xmb y) pc = .ok (.ldc idx, 2)) (k : xW p l e R s m args below meth c cells slots Q r nL dd kI kZ n F A xs (pc + 2) ls (.inl z :: st) D) : xW p l e R s m args below meth c cells slots Q r nL dd kI kZ n F A xs pc ls st D := by
  obtain ⟨hx, hb, hml, hown, hts, hnw, hK, hR1, hR2, hy, hn, hA, hX, hS, hR⟩ := hf
  intro lls H locs hL hv hM
  have hz : xin z := xib_iff.mp (List.all_eq_true.mp xkl_ok _ (List.mem_append_left _ he))
  exact lv_ldc hx hb hown (hts _ (xw_in (xpass_mem _ _ _ xkl_ps _ (List.mem_map.mpr ⟨_, he, rfl⟩)) rfl)) hdg (k lls H locs hL (List.forall_mem_cons.mpr ⟨hz, hv⟩) hM)

theorem xs_ldcw (hf : xFix p R s m args c y nL n r dd kI kZ A xs lo adV) {idx pos : Nat} {z : Int} (he : ((xsg y).2.2.2.1, idx, z, pos) ∈ xkl) (hdg : decode (xmb y) pc = .ok (.ldc_w idx, 3)) (k : xW p l e R s m args below meth c cells slots Q r nL dd kI kZ n F A xs (pc + 3) ls (.inl z :: st) D) : xW p l e R s m args below meth c cells slots Q r nL dd kI kZ n F A xs pc ls st D := by
  obtain ⟨hx, hb, hml, hown, hts, hnw, hK, hR1, hR2, hy, hn, hA, hX, hS, hR⟩ := hf
  intro lls H locs hL hv hM
  have hz : xin z := xib_iff.mp (List.all_eq_true.mp xkl_ok _ (List.mem_append_left _ he))
  exact lv_ldcw hx hb hown (hts _ (xw_in (xpass_mem _ _ _ xkl_ps _ (List.mem_map.mpr ⟨_, he, rfl⟩)) rfl)) hdg (k lls H locs hL (List.forall_mem_cons.mpr ⟨hz, hv⟩) hM)

theorem xs_ldc2 (hf : xFix p R s m args c y nL n r dd kI kZ A xs lo adV) {idx pos : Nat} {z : Int} (he : ((xsg y).2.2.2.1, idx, z, pos) ∈ xkL) (hdg : decode (xmb y) pc = .ok (.ldc2_w idx, 3)) (k : xW p l e R s m args below meth c cells slots Q r nL dd kI kZ n F A xs (pc + 3) ls (.inr (.inl z) :: st) D) : xW p l e R s m args below meth c cells slots Q r nL dd kI kZ n F A xs pc ls st D := by
  obtain ⟨hx, hb, hml, hown, hts, hnw, hK, hR1, hR2, hy, hn, hA, hX, hS, hR⟩ := hf
  intro lls H locs hL hv hM
  have hz : xin z := xib_iff.mp (List.all_eq_true.mp xkl_ok _ (List.mem_append_right _ he))
  exact lv_ldc2 hx hb hown (hts _ (xw_in (xpass_mem _ _ _ xkL_ps _ (List.mem_map.mpr ⟨_, he, rfl⟩)) rfl)) hdg (k lls H locs hL (List.forall_mem_cons.mpr ⟨xin_L hz, hv⟩) hM)

theorem xs_lcmp (hf : xFix p R s m args c y nL n r dd kI kZ A xs lo adV) {a b : Int} (hdg : decode (xmb y) pc = .ok (.lcmp, 1)) (k : xW p l e R s m args below meth c cells slots Q r nL dd kI kZ n F A xs (pc + 1) ls (.inl (if a < b then -1 else if a = b then 0 else 1) :: st) D) : xW p l e R s m args below meth c cells slots Q r nL dd kI kZ n F A xs pc ls (.inr (.inl b) :: .inr (.inl a) :: st) D := by
  obtain ⟨hx, hb, hml, hown, hts, hnw, hK, hR1, hR2, hy, hn, hA, hX, hS, hR⟩ := hf
  intro lls H locs hL hv hM
  have hb9 : xinL b := (List.forall_mem_cons.mp hv).1
  have ha : xinL a := (List.forall_mem_cons.mp (List.forall_mem_cons.mp hv).2).1
  have e1 : Int64.ofInt b < Int64.ofInt a ↔ b < a := by rw [Int64.lt_iff_toInt_lt, x64 ha, x64 hb9]
  have e2 : Int64.ofInt a = Int64.ofInt b ↔ a = b := by rw [← Int64.toInt_inj, x64 ha, x64 hb9]
  refine W.lcmp hx hb hdg ?_
  have hin : xin (if a < b then -1 else if a = b then 0 else 1) := by
    split
    · exact ⟨by decide, by decide⟩
    · split <;> exact ⟨by decide, by decide⟩
  have := k lls H locs hL (List.forall_mem_cons.mpr ⟨hin, (List.forall_mem_cons.mp (List.forall_mem_cons.mp hv).2).2⟩) hM
  have e3 : lg_cmp (Int64.ofInt a) (Int64.ofInt b) = Int32.ofInt (if a < b then -1 else if a = b then 0 else 1) := by
    simp only [lg_cmp, gt_iff_lt, e1, e2]
    by_cases h1 : b < a
    · rw [if_pos h1, if_neg (by omega), if_neg (by omega)]
      rfl
    · rw [if_neg h1]
      by_cases h2 : a = b
      · rw [if_pos h2, if_neg (by omega), if_pos h2]
        rfl
      · rw [if_neg h2, if_pos (by omega)]
        rfl
  show W p l e R s m args below meth c H locs cells slots Q (F0 m (pc + 1) lls (.int (lg_cmp (Int64.ofInt a) (Int64.ofInt b)) :: st.map (xV r)))
  rw [e3]
  exact this

theorem xs_table (hf : xFix p R s m args c y nL n r dd kI kZ A xs lo adV) {v d lo9 hi : Int} {offs : Array Int} {len u : Nat} {mo : List Nat} (hd : (pc : Int) + d = (u : Int)) (hlen : (mo.length : Int) = hi - lo9 + 1) (hoff : offs.toList = mo.map (fun (t : Nat) => (t : Int) - (pc : Int))) (hdg : decode (xmb y) pc = .ok (.tableswitch d lo9 hi offs, len)) (k : xW p l e R s m args below meth c cells slots Q r nL dd kI kZ n F A xs (bif decide (v < lo9) then u else mo.getD (v - lo9).toNat u) ls st D) : xW p l e R s m args below meth c cells slots Q r nL dd kI kZ n F A xs pc ls (.inl v :: st) D := by
  obtain ⟨hx, hb, hml, hown, hts, hnw, hK, hR1, hR2, hy, hn, hA, hX, hS, hR⟩ := hf
  intro lls H locs hL hv hM
  have hv9 : xin v := (List.forall_mem_cons.mp hv).1
  have hi9 := k lls H locs hL (List.forall_mem_cons.mp hv).2 hM
  have e := x32 hv9
  by_cases h1 : v < lo9
  · rw [decide_eq_true h1] at hi9
    exact lv_tableOut hx hb hdg (Or.inl (by rw [e]; exact h1)) hd hi9
  · rw [decide_eq_false h1] at hi9
    by_cases h2 : hi < v
    · have : mo.getD (v - lo9).toNat u = u := by rw [List.getD_eq_getElem?_getD, List.getElem?_eq_none (by omega)]; rfl
      simp only [cond_false] at hi9
      rw [this] at hi9
      exact lv_tableOut hx hb hdg (Or.inr (by rw [e]; exact h2)) hd hi9
    · have hlt : (v - lo9).toNat < mo.length := by omega
      have hg : mo[(v - lo9).toNat]? = some (mo.getD (v - lo9).toNat u) := by rw [List.getD_eq_getElem?_getD, List.getElem?_eq_getElem hlt]; rfl
      refine lv_tableIn (off := (mo.getD (v - lo9).toNat u : Int) - (pc : Int)) (tgt := mo.getD (v - lo9).toNat u) hx hb hdg (by rw [e]; exact h1) (by rw [e]; exact h2) ?_ (by omega) hi9
      rw [e, ← Array.getElem?_toList, hoff, List.getElem?_map, hg]
      rfl

theorem x_lookoff {v : Int} {pc u : Nat} {d : Int} (hd : (pc : Int) + d = (u : Int)) : ∀ (ps : List (Int × Int)) (mo : List Nat), ps.flatMap (fun q => [q.1, (pc : Int) + q.2]) = mo.map (fun (t : Nat) => (t : Int)) → (pc : Int) + Op.lookupswitch.offset ps d v = (xlook v u mo : Int)
  | [], [], _ => hd
  | [], t :: mo, h => by simp at h
  | q :: ps, [], h => by simp at h
  | q :: ps, [t], h => by simp at h
  | q :: ps, t :: t2 :: mo, h => by
    simp only [List.flatMap_cons, List.cons_append, List.nil_append, List.map_cons, List.cons.injEq] at h
    obtain ⟨h1, h2, h3⟩ := h
    have ih := x_lookoff (v := v) hd ps mo h3
    by_cases hv : v = (t : Int)
    · simp [Op.lookupswitch.offset, xlook, hv, h1, h2]
    · have hq : ¬ q.1 = v := by omega
      have hq2 : ¬ v = q.1 := by omega
      simpa [Op.lookupswitch.offset, xlook, hv, hq, hq2] using ih

theorem xs_look (hf : xFix p R s m args c y nL n r dd kI kZ A xs lo adV) {v d : Int} {ps : Array (Int × Int)} {len u : Nat} {mo : List Nat} (hd : (pc : Int) + d = (u : Int)) (hoff : ps.toList.flatMap (fun q => [q.1, (pc : Int) + q.2]) = mo.map (fun (t : Nat) => (t : Int))) (hp : (ps.toList.zip (ps.toList.drop 1)).all (fun (a, next) => a.1 < next.1) = true) (hdg : decode (xmb y) pc = .ok (.lookupswitch d ps, len)) (k : xW p l e R s m args below meth c cells slots Q r nL dd kI kZ n F A xs (xlook v u mo) ls st D) : xW p l e R s m args below meth c cells slots Q r nL dd kI kZ n F A xs pc ls (.inl v :: st) D := by
  obtain ⟨hx, hb, hml, hown, hts, hnw, hK, hR1, hR2, hy, hn, hA, hX, hS, hR⟩ := hf
  intro lls H locs hL hv hM
  have hv9 : xin v := (List.forall_mem_cons.mp hv).1
  have hi9 := k lls H locs hL (List.forall_mem_cons.mp hv).2 hM
  exact lv_lookup hx hb hdg hp rfl (by rw [x32 hv9]; exact x_lookoff hd _ _ hoff) hi9

theorem xs_objInit (hf : xFix p R s m args c y nL n r dd kI kZ A xs lo adV) {idx pos a : Nat} (he : ((xsg y).2.2.2.1, idx, 33, pos) ∈ xll) (hc : xcat st ≤ 8) (hr1 : 1 ≤ (xroom y).1) (hr2 : 20 ≤ (xroom y).2) (hdg : decode (xmb y) pc = .ok (.invokespecial idx, 3)) (k : xW p l e R s m args below meth c cells slots Q r nL dd kI kZ n F A xs (pc + 3) ls st D) : xW p l e R s m args below meth c cells slots Q r nL dd kI kZ n F A xs pc ls (.inr (.inr (some a)) :: st) D := by
  obtain ⟨hx, hb, hml, hown, hts, hnw, hK, hR1, hR2, hy, hn, hA, hX, hS, hR⟩ := hf
  intro lls H locs hL hv hM
  refine W.objInit hx hb hown (hts _ (xll_at he)) (hts _ (xlw_w (by simp [xlw]) rfl)) (hts _ (xlw_w (by simp [xlw]) rfl)) rfl (by rw [hml]; exact hL.2.1) rfl hdg (by omega) ?_ ?_
  · show 2 * 0 + ((st.map (xV r)).map fun v => v.category).sum + 12 ≤ R.locals
    rw [xcat_sum]
    omega
  · exact k lls H locs hL (List.forall_mem_cons.mp hv).2 hM

theorem xs_max (hf : xFix p R s m args c y nL n r dd kI kZ A xs lo adV) {idx pos : Nat} {a b : Int} (he : ((xsg y).2.2.2.1, idx, 35, pos) ∈ xll) (hc : xcat st ≤ 8) (hr1 : 1 ≤ (xroom y).1) (hr2 : 21 ≤ (xroom y).2) (hcs : cells ≤ R.cells ∧ slots ≤ R.slots) (hdg : decode (xmb y) pc = .ok (.invokestatic idx, 3)) (k : xW p l e R s m args below meth c cells slots Q r nL dd kI kZ n F A xs (pc + 3) ls (.inl (max a b) :: st) D) : xW p l e R s m args below meth c cells slots Q r nL dd kI kZ n F A xs pc ls (.inl b :: .inl a :: st) D := by
  obtain ⟨hx, hb, hml, hown, hts, hnw, hK, hR1, hR2, hy, hn, hA, hX, hS, hR⟩ := hf
  intro lls H locs hL hv hM
  have hb9 : xin b := (List.forall_mem_cons.mp hv).1
  have ha : xin a := (List.forall_mem_cons.mp (List.forall_mem_cons.mp hv).2).1
  have hin : xin (max a b) := by obtain ⟨h1, h2⟩ := ha; obtain ⟨h3, h4⟩ := hb9; exact ⟨by omega, by omega⟩
  have := k lls H locs hL (List.forall_mem_cons.mpr ⟨hin, (List.forall_mem_cons.mp (List.forall_mem_cons.mp hv).2).2⟩) hM
  refine va_mmax hx hb (by rw [hml]; exact hL.2.1.symm) hown (hts _ (xll_at he)) (hts _ (xlw_w (by simp [xlw]) rfl)) (hts _ (xlw_w (by simp [xlw]) rfl)) (hts _ (xlw_w (by simp [xlw]) rfl)) (by omega) ?_ hcs.1 hcs.2 hdg ?_
  · rw [xcat_sum]
    omega
  · have e : (if Int32.ofInt a < Int32.ofInt b then Int32.ofInt b else Int32.ofInt a) = Int32.ofInt (max a b) := by
      by_cases hq : a < b
      · rw [if_pos ((x_lt ha hb9).mpr hq)]
        congr 1
        omega
      · rw [if_neg (fun z => hq ((x_lt ha hb9).mp z))]
        congr 1
        omega
    rw [e]
    exact this

theorem xs_min (hf : xFix p R s m args c y nL n r dd kI kZ A xs lo adV) {idx pos : Nat} {a b : Int} (he : ((xsg y).2.2.2.1, idx, 36, pos) ∈ xll) (hc : xcat st ≤ 8) (hr1 : 1 ≤ (xroom y).1) (hr2 : 21 ≤ (xroom y).2) (hcs : cells ≤ R.cells ∧ slots ≤ R.slots) (hdg : decode (xmb y) pc = .ok (.invokestatic idx, 3)) (k : xW p l e R s m args below meth c cells slots Q r nL dd kI kZ n F A xs (pc + 3) ls (.inl (min a b) :: st) D) : xW p l e R s m args below meth c cells slots Q r nL dd kI kZ n F A xs pc ls (.inl b :: .inl a :: st) D := by
  obtain ⟨hx, hb, hml, hown, hts, hnw, hK, hR1, hR2, hy, hn, hA, hX, hS, hR⟩ := hf
  intro lls H locs hL hv hM
  have hb9 : xin b := (List.forall_mem_cons.mp hv).1
  have ha : xin a := (List.forall_mem_cons.mp (List.forall_mem_cons.mp hv).2).1
  have hin : xin (min a b) := by obtain ⟨h1, h2⟩ := ha; obtain ⟨h3, h4⟩ := hb9; exact ⟨by omega, by omega⟩
  have := k lls H locs hL (List.forall_mem_cons.mpr ⟨hin, (List.forall_mem_cons.mp (List.forall_mem_cons.mp hv).2).2⟩) hM
  refine va_mmin hx hb (by rw [hml]; exact hL.2.1.symm) hown (hts _ (xll_at he)) (hts _ (xlw_w (by simp [xlw]) rfl)) (hts _ (xlw_w (by simp [xlw]) rfl)) (hts _ (xlw_w (by simp [xlw]) rfl)) (by omega) ?_ hcs.1 hcs.2 hdg ?_
  · rw [xcat_sum]
    omega
  · have e : (if Int32.ofInt b < Int32.ofInt a then Int32.ofInt b else Int32.ofInt a) = Int32.ofInt (min a b) := by
      by_cases hq : b < a
      · rw [if_pos ((x_lt hb9 ha).mpr hq)]
        congr 1
        omega
      · rw [if_neg (fun z => hq ((x_lt hb9 ha).mp z))]
        congr 1
        omega
    rw [e]
    exact this

theorem xs_copy (hf : xFix p R s m args c y nL n r dd kI kZ A xs lo adV) {idx pos a b la lb : Nat} {sp dp k9 : Int} (he : ((xsg y).2.2.2.1, idx, 34, pos) ∈ xll) (hla : xalen none n a = some la) (hlb : xalen none n b = some lb) (h1 : 0 ≤ k9) (h2 : 0 ≤ sp) (h3 : 0 ≤ dp) (h4 : sp + k9 ≤ (la : Int)) (h5 : dp + k9 ≤ (lb : Int)) (hc : xcat st ≤ 8) (hr1 : 1 ≤ (xroom y).1) (hr2 : 26 ≤ (xroom y).2) (hdg : decode (xmb y) pc = .ok (.invokestatic idx, 3)) (k : xW p l e R s m args below meth c cells slots Q r nL dd kI kZ n F A xs (pc + 3) ls st (xcpy D a b sp dp k9)) : xW p l e R s m args below meth c cells slots Q r nL dd kI kZ n F A xs pc ls (.inl k9 :: .inl dp :: .inr (.inr (some b)) :: .inl sp :: .inr (.inr (some a)) :: st) D := by
  obtain ⟨hx, hb, hml, hown, hts, hnw, hK, hR1, hR2, hy, hn, hA, hX, hS, hR⟩ := hf
  intro lls H locs hL hv hM
  have hv1 := List.forall_mem_cons.mp hv
  have hv2 := List.forall_mem_cons.mp hv1.2
  have hv3 := List.forall_mem_cons.mp hv2.2
  have hv4 := List.forall_mem_cons.mp hv3.2
  have hv5 := List.forall_mem_cons.mp hv4.2
  have key : ∀ {a la : Nat}, xalen none n a = some la → 0 < a ∧ a < n ∧ (xsh a).1 = 1 ∧ (xsh a).2 = la := by
    intro a la h
    cases a with
    | zero => simp [xalen] at h
    | succ a =>
      simp only [xalen] at h
      cases hq : (Nat.blt (a + 1) n && Nat.beq (xsh (a + 1)).1 1) with
      | false => rw [hq] at h; simp at h
      | true =>
        rw [hq] at h
        simp only [cond_true, Option.some.injEq] at h
        simp only [Bool.and_eq_true, Nat.blt_eq, Nat.beq_eq] at hq
        exact ⟨Nat.succ_pos a, hq.1, hq.2, h⟩
  obtain ⟨a0, an, ash, al⟩ := key hla
  obtain ⟨b0, bn, bsh, bl⟩ := key hlb
  have hca := xws_at (kI := kI) (kZ := kZ) (r := r) (F := F) (D := D) a0 an
  have hcb := xws_at (kI := kI) (kZ := kZ) (r := r) (F := F) (D := D) b0 bn
  rw [xcell_int ash, al] at hca
  rw [xcell_int bsh, bl] at hcb
  have nn : ∀ {z : Int}, xin z → 0 ≤ z → ¬ Int32.ofInt z < 0 := fun hz h0 hlt => by
    have := (x_lt hz xin0).mp hlt
    omega
  have cl9 : ∀ {z : Int}, xin z → 0 ≤ z → (Int32.ofInt z).toNatClampNeg = z.toNat := fun hz h0 => by
    show (Int32.ofInt _).toInt.toNat = _
    rw [x32 hz]
  refine va_copyi hx hb (by rw [hml]; exact hL.2.1.symm) hown (hts _ (xll_at he)) (hts _ (xlw_w (by simp [xlw]) rfl)) (hts _ (xlw_w (by simp [xlw]) rfl)) (hts _ (xlw_w (by simp [xlw]) rfl)) hK hM.1 hM.2.1 hM.2.2.1 (a - 1) (b - 1) 0 0 hca hcb rfl rfl rfl (nn hv4.1 h2) (nn hv2.1 h3) (nn hv1.1 h1) (by rw [cl9 hv4.1 h2, cl9 hv1.1 h1]; omega) (by rw [cl9 hv2.1 h3, cl9 hv1.1 h1]; omega) (fun i hi => rfl) (by omega) ?_ hdg (fun H1 locs1 hP hD hS1 => ?_)
  · rw [xcat_sum]
    show xcat st + (7 + 11) ≤ R.locals
    omega
  · rw [cl9 hv4.1 h2, cl9 hv2.1 h3, cl9 hv1.1 h1] at hP hD
    have e : va_cpy (fun k : Nat => Int32.ofInt (D a k)) (fun k : Nat => Int32.ofInt (D b k)) sp.toNat dp.toNat k9.toNat = fun k : Nat => Int32.ofInt (xcpy D a b sp dp k9 b k) := by
      funext z
      unfold va_cpy xcpy
      by_cases hz : dp.toNat ≤ z ∧ z < dp.toNat + k9.toNat
      · rw [if_pos hz, if_pos ⟨rfl, by omega, by omega⟩]
        dsimp only
        rw [show ((sp.toNat + (z - dp.toNat) : Nat) : Int) = sp + ((z : Int) - dp) by omega]
      · rw [if_neg hz, if_neg (by omega)]
    rw [e] at hP hD
    have hx9 : xcell kI kZ r F (xcpy D a b sp dp k9) b = .inl (kI, lb, .inl (fun k : Nat => Int32.ofInt (xcpy D a b sp dp k9 b k))) := by rw [xcell_int bsh, bl]
    have e2 := xws_ext (kI := kI) (kZ := kZ) (r := r) (F := F) (D := D) (D' := xcpy D a b sp dp k9) (n := n) b0 bn hx9 (fun q hq => by funext j; simp [xcpy, hq])
    rw [e2] at hP hD
    refine k lls H1 locs1 hL hv5.2 ⟨hP, hD, hS1, fun q j => ?_, fun j => ?_⟩
    · unfold xcpy
      split
      · rename_i hq
        exact ⟨fun _ => (hM.2.2.2.1 a _).1 (by simp [xlf, ash]), (hM.2.2.2.1 a _).2⟩
      · exact hM.2.2.2.1 q j
    · unfold xcpy
      rw [if_neg (by omega)]
      exact hM.2.2.2.2 j

theorem xs_ldcS (hf : xFix p R s m args c y nL n r dd kI kZ A xs lo adV) {idx j pos : Nat} (he : ((xsg y).2.2.2.1, idx, j, pos) ∈ xsl) (hdg : decode (xmb y) pc = .ok (.ldc idx, 2)) (k : xW p l e R s m args below meth c cells slots Q r nL dd kI kZ n F A xs (pc + 2) ls (.inr (.inr (some (1000 + j))) :: st) D) : xW p l e R s m args below meth c cells slots Q r nL dd kI kZ n F A xs pc ls st D := by
  obtain ⟨hx, hb, hml, hown, hts, hnw, hK, hR1, hR2, hy, hn, hA, hX, hS, hR⟩ := hf
  intro lls H locs hL hv hM
  have h9 := List.all_eq_true.mp (show xsl.all (fun q => Nat.beq q.1 5 && Nat.blt q.2.2.1 7 && Nat.beq q.2.1 (xsix q.2.2.1)) = true by decide +kernel) _ he
  simp only [Bool.and_eq_true, Nat.beq_eq, Nat.blt_eq] at h9
  obtain ⟨⟨h1, h2⟩, h3⟩ := h9
  rw [h1] at hown
  exact va_ldcS hx hb hown (h3 ▸ hR.1 j h2) hdg (k lls H locs hL (List.forall_mem_cons.mpr ⟨trivial, hv⟩) hM)

end XP
