/-! runs of my machine are runs of the printed one -/
def xasz : List Nat → Nat
  | [] => 0
  | 2 :: ks => 2 + xasz ks
  | _ :: ks => 1 + xasz ks
set_option maxRecDepth 100000 in
theorem xasz_ok : (List.range 242).all (fun y => Nat.ble (xasz (xsg y).1) (xsg y).2.1) = true := by decide +kernel
theorem xasz_app : ∀ (a b : List Nat), xasz (a ++ b) = xasz a + xasz b
  | [], b => by simp [xasz]
  | k :: a, b => by
    have ih := xasz_app a b
    match k with
    | 2 => simp only [List.cons_append, xasz, ih]; omega
    | 0 => simp only [List.cons_append, xasz, ih]; omega
    | 1 => simp only [List.cons_append, xasz, ih]; omega
    | k + 3 => simp only [List.cons_append, xasz, ih]; omega
theorem xasz_rev (a : List Nat) : xasz a.reverse = xasz a := by
  induction a with
  | nil => rfl
  | cons k a ih =>
    rw [List.reverse_cons, xasz_app, ih]
    show _ = xasz ([k] ++ a)
    rw [xasz_app]
    omega
theorem xpop_spec : ∀ (ks : List Nat) (st acc av rest : xst), xpop ks st acc = some (av, rest) → ∃ a1 : xst, av = a1.reverse ++ acc ∧ st = a1 ++ rest ∧ a1.length = ks.length ∧ (xargl a1).length = xasz ks
  | [], st, acc, av, rest, h => by
    simp only [xpop, Option.some.injEq, Prod.mk.injEq] at h
    obtain ⟨rfl, rfl⟩ := h
    exact ⟨[], rfl, rfl, rfl, rfl⟩
  | k :: ks, st, acc, av, rest, h => by
    unfold xpop at h
    split at h
    · rename_i heq
      cases heq
    · rename_i heq
      cases heq
      obtain ⟨a1, h1, h2, h3, h4⟩ := xpop_spec _ _ _ _ _ h
      exact ⟨_ :: a1, by rw [h1, List.reverse_cons, List.append_assoc]; rfl, by rw [h2]; rfl, by simp [h3], by simp [xargl, xasz, h4]; omega⟩
    · rename_i heq
      cases heq
      obtain ⟨a1, h1, h2, h3, h4⟩ := xpop_spec _ _ _ _ _ h
      exact ⟨_ :: a1, by rw [h1, List.reverse_cons, List.append_assoc]; rfl, by rw [h2]; rfl, by simp [h3], by simp [xargl, xasz, h4]; omega⟩
    · rename_i heq
      cases heq
      obtain ⟨a1, h1, h2, h3, h4⟩ := xpop_spec _ _ _ _ _ h
      exact ⟨_ :: a1, by rw [h1, List.reverse_cons, List.append_assoc]; rfl, by rw [h2]; rfl, by simp [h3], by simp [xargl, xasz, h4]; omega⟩
    · cases h
theorem xargl_app : ∀ (a b : xst), (xargl (a ++ b)).length = (xargl a).length + (xargl b).length
  | [], b => by simp [xargl]
  | v :: a, b => by
    have ih := xargl_app a b
    rcases v with x | x | _ | x <;> simp [xargl, ih] <;> omega
theorem xargl_rev (a : xst) : (xargl a.reverse).length = (xargl a).length := by
  induction a with
  | nil => rfl
  | cons v a ih =>
    rw [List.reverse_cons, xargl_app, ih]
    show _ = (xargl ([v] ++ a)).length
    rw [xargl_app]
    omega
theorem xml_at {c idx z pos : Nat} {nest : Bool} (he : (c, idx, z, nest, pos) ∈ xml) : z < 242 ∧ z ≠ 239 ∧ xmlw (c, idx, z, nest, pos) ∈ lw_tbl := by
  have h := List.all_eq_true.mp xml_ok _ he
  simp only [Bool.and_eq_true, Nat.blt_eq, Bool.not_eq_true'] at h
  exact ⟨h.1, fun hz => by rw [hz] at h; exact absurd h.2 (by decide), xpass_mem _ _ _ xml_ps _ (List.mem_map.mpr ⟨_, he, rfl⟩)⟩
theorem xms_at {z : Nat} (hz : z < 242) (hne : z ≠ 239) : (xmn z).cls = xcn (xsg z).2.2.2.1 ∧ plainName (xmn z).cls = true ∧ (xmn z).cls ≠ "java/lang/invoke/MethodHandle" ∧ (xmn z).cls ≠ "java/lang/invoke/VarHandle" ∧
    (parseMethodDescriptor (xmn z).desc).map (fun d => d.parameters.length) = some ((xsg z).1.length - (bif (xsg z).2.2.2.2 then 0 else 1)) ∧ xmcw z ∈ xw ∧ xmiw z ∈ xw ∧ Cond.initialized (xmn z).cls ∈ xw := by
  have h := List.all_eq_true.mp xmsg_ok z (List.mem_range.mpr hz)
  simp only [Bool.or_eq_true, Nat.beq_eq] at h
  have h := h.resolve_left hne
  simp only [xmsg, Bool.and_eq_true, decide_eq_true_eq, List.any_eq_true, Nat.beq_eq] at h
  obtain ⟨⟨⟨⟨⟨⟨⟨h1, h2⟩, h3⟩, h4⟩, h5⟩, e1, he1, hi⟩, -⟩, e2, he2, hj⟩ := h
  refine ⟨h1, h2, h3, h4, h5, xw_in (xmw_all z hz hne) rfl, xw_in ?_ ?_, xw_in ?_ rfl⟩
  · have := xpass_mem _ _ _ xmi_ps _ (List.mem_map.mpr ⟨e1, he1, rfl⟩)
    rw [hi] at this
    exact this
  · unfold xmiw
    cases (xsg z).2.2.2.2 <;> rfl
  · have := xpass_mem _ _ _ xni_ps _ (List.mem_map.mpr ⟨e2, he2, rfl⟩)
    rw [hj, ← h1] at this
    exact this
theorem xroom_of {y z pc : Nat} {k : Int} (h : xrm1 y (28, k, z, pc, []) = true) : (xroom z).1 + 1 ≤ (xroom y).1 ∧ 8 + ((xsg z).2.1 + 11) + (xroom z).2 ≤ (xroom y).2 ∧ (k = 0 ↔ (xsg z).2.2.2.2 = true) ∧ (k = 1 → Cond.selects (xcn (xsg z).2.2.2.1) (xmn z) (xmn z) ∈ xw) := by
  have h : (Nat.ble ((xroom z).1 + 1) (xroom y).1 && Nat.ble (8 + ((xsg z).2.1 + 11) + (xroom z).2) (xroom y).2 && decide (k = 0 ↔ (xsg z).2.2.2.2 = true) && (!(k == 1) || xme.any (fun e => Nat.beq e.2 z))) = true := h
  simp only [Bool.and_eq_true, Nat.ble_eq, decide_eq_true_eq, Bool.or_eq_true, List.any_eq_true, Nat.beq_eq, Bool.not_eq_true', beq_eq_false_iff_ne] at h
  refine ⟨h.1.1.1, h.1.1.2, h.1.2, fun hk => ?_⟩
  rcases h.2 with h2 | ⟨e, he, h2⟩
  · exact absurd hk h2
  · have := xpass_mem _ _ _ xme_ps _ (List.mem_map.mpr ⟨e, he, rfl⟩)
    rw [h2] at this
    exact xw_in this rfl

section XR2
variable {p : Program} {l : Launch} {e : Env} {R : Room} {s : State} {m : MethodId} {args : Array Value} {below : List Frame} {meth : Method} {c : Code} {cells slots : Nat} {Q : State → Prop}
variable {r : Nat → Nat} {nL : Nat} {dd : va_G} {kI kZ : ClassId} {n : Nat} {F : Nat → Nat → Bool} {A : Nat → Prop} {xs : Int → Int} {lo : Option Nat} {adV : Nat → Nat}
variable {y pc : Nat} {ls : xls} {st : xst} {D : xD}

/-- behind a call: the caller's frame over the callee's end -/
theorem xafter (hf : xFix p R s m args c y nL n r dd kI kZ A xs lo adV) {H : Heap} {locs : List Loc} {lls : Array Slot} {rest : xst} {v1 : Option xv} {D1 : xD} {p' : Nat} (hL : xLoc r nL ls lls) (hv : ∀ v ∈ rest, xvo v) (hM : xMem s dd kI kZ r n F A xs D H locs) (hp : p' = pc + 3) (k : xW p l e R s m args below meth c cells slots Q r nL dd kI kZ n F A xs p' ls (v1.toList ++ rest) D1) :
    ∀ (v : Option Value) (st₀ t : State) (H1 : Heap) (L : List Loc), st₀.heap = H → xPost dd kI kZ r n F xs (va_A (xws kI kZ r F D n) H.size) v1 D1 #[] st₀ (.returned v) t → t.heap = H1 → s.vm.Alike t.vm → (∀ q ∈ L, va_A (xws kI kZ r F D n) H.size q.base) → W p l e R s m args below meth c H1 (locs ++ L) (cells + 0) (slots + 0) Q (F0 m (pc + 3) lls (v.toList ++ rest.map (xV r))) := by
  obtain ⟨hx, hb, hml, hown, hts, hnw, hK, hR1, hR2, hy, hn, hA, hX, hS, hR⟩ := hf
  intro v st₀ t H1 L h0 ⟨e1, ⟨hP1, hD1, hg1, hx1, hw1⟩, hz, hk⟩ ht hvm hL9
  subst hp
  have hsub : ∀ q, va_A (xws kI kZ r F D n) H.size q → A q := by
    intro q hq
    rcases hq with ⟨k, e, hq⟩ | hq
    · exact hM.2.1.2 k _ hq
    · exact hA q (Nat.le_trans hM.2.2.1.1 hq)
  rw [h0] at hz hk
  rw [ht] at hP1 hz hk
  have ev : v = v1.map (xV r) := by cases e1; rfl
  have es : v.toList ++ rest.map (xV r) = (v1.toList ++ rest).map (xV r) := by
    rw [ev]
    cases v1 <;> simp
  rw [es]
  refine k lls H1 (locs ++ L) hL (fun w hw => ?_) ⟨hP1, xws_D hM.2.1, ⟨Nat.le_trans hM.2.2.1.1 hz, fun q h1 h2 => ?_, fun q hq => ?_⟩, hg1, hx1⟩
  · rcases List.mem_append.mp hw with hw | hw
    · cases v1 with
      | none => simp at hw
      | some w1 =>
        simp only [Option.toList_some, List.mem_singleton] at hw
        rw [hw]
        exact hw1 w1 rfl
    · exact hv w hw
  · rw [hk q (Nat.lt_of_lt_of_le h1 hM.2.2.1.1) (fun z => h2 (hsub q z))]
    exact hM.2.2.1.2.1 q h1 h2
  · rcases List.mem_append.mp hq with h | h
    · exact hM.2.2.1.2.2 q h
    · exact hsub _ (hL9 q h)

theorem xcall_W {f : Nat} (hcon : xCon l f) (hf : xFix p R s m args c y nL n r dd kI kZ A xs lo adV) (hcs : cells ≤ R.cells ∧ slots ≤ R.slots) {ins : Instr} {len : Nat} {i : xi} (hdg : decode (xmb y) pc = .ok (ins, len)) (h : xok y pc ins len i = true) (hrm : xrm1 y i = true) (h28 : i.1 = 28) (hk2 : ¬ i.2.1 = 2)
    {av rest : xst} (hpop : xpop (xsg i.2.2.1).1.reverse st [] = some (av, rest)) (hrec : xrecv n i.2.2.1 av = true) (hcat : xcat rest ≤ 8) {v1 : Option xv} {D1 : xD} (hrun : xrun n F f none i.2.2.1 0 (xentry (xsg i.2.2.1).2.1 av) [] D = some (v1, D1)) (k : xW p l e R s m args below meth c cells slots Q r nL dd kI kZ n F A xs i.2.2.2.1 ls (v1.toList ++ rest) D1) : xW p l e R s m args below meth c cells slots Q r nL dd kI kZ n F A xs pc ls st D := by
  obtain ⟨idx, z, nest, pos, he, rfl, hcase⟩ := xok_28 h h28
  obtain ⟨hz, hzne, hlw⟩ := xml_at he
  obtain ⟨hcl, hpl, hmh, hvh, hdesc, hcode, hiw, hini⟩ := xms_at hz hzne
  have hi : i.2.2.1 = z ∧ i.2.2.2.1 = pc + 3 ∧ i = (28, i.2.1, z, pc + 3, []) := by
    rcases hcase with ⟨-, hi⟩ | ⟨-, hi⟩ | ⟨-, hi⟩ <;> rw [hi] <;> exact ⟨rfl, rfl, rfl⟩
  obtain ⟨hi1, hi2, hi3⟩ := hi
  rw [hi3] at hrm
  obtain ⟨hrf, hrl, hst0, hsel⟩ := xroom_of hrm
  rw [hi1] at hpop hrec hrun
  obtain ⟨a1, hav, hst, hlen, hasz⟩ := xpop_spec _ _ _ _ _ hpop
  rw [List.append_nil] at hav
  rw [hi2] at k
  have hf' := hf
  obtain ⟨hx, hb, hml, hown, hts, hnw, hK, hR1, hR2, hy, hn, hA, hX, hS, hR⟩ := hf
  intro lls H locs hL hv hM
  have hvr : ∀ v ∈ rest, xvo v := fun v hv9 => hv v (by rw [hst]; exact List.mem_append_right _ hv9)
  have hva : ∀ v ∈ av, xvo v := fun v hv9 => hv v (by rw [hst]; rw [hav] at hv9; exact List.mem_append_left _ (List.mem_reverse.mp hv9))
  have hsz : (xargl av).length ≤ (xsg z).2.1 := by
    rw [hav, xargl_rev, hasz, xasz_rev]
    exact Nat.ble_eq.mp (List.all_eq_true.mp xasz_ok z (List.mem_range.mpr hz))
  have hstk : st.map (xV r) = (av.map (xV r)).reverse ++ rest.map (xV r) := by rw [hst, hav, List.map_append, List.map_reverse, List.reverse_reverse]
  have hM2 := hcon z dd kI kZ r n F xs adV D av v1 D1 H.size hz hzne hn hsz hva hM.2.2.2.1 hM.2.2.2.2 hrun
  have hG : GoodIn xw (xmcw z :: xw) := fun w hw => by
    rcases List.mem_cons.mp hw with rfl | hw
    · exact xw_good _ hcode
    · exact xw_good _ hw
  have hRR : (xrmY z).frames + 1 ≤ R.frames ∧ 8 + ((xsg z).2.1 + 11) + (xrmY z).locals ≤ R.locals := ⟨Nat.le_trans hrf hR1, Nat.le_trans hrl hR2⟩
  have hd9 : (xmn z).cls ≠ "java/lang/invoke/MethodHandle" ∧ (xmn z).cls ≠ "java/lang/invoke/VarHandle" ∧ (parseMethodDescriptor (xmn z).desc).map (fun d => d.parameters.length) = some ((xsg z).1.length - (bif (xsg z).2.2.2.2 then 0 else 1)) := ⟨hmh, hvh, hdesc⟩
  have hlenav : av.length = (xsg z).1.length := by rw [hav, List.length_reverse, hlen, List.length_reverse]
  have hroom : 2 * (F0 m pc lls (st.map (xV r))).monitorRoom + ((rest.map (xV r)).map fun v => v.category).sum ≤ 8 := lv_room (by rw [xcat_sum]; exact hcat)
  have hpre := xpre_of hf' hM (av := av)
  have hres := fun (a9 : Array Value) => xafter (p' := pc + 3) (cells := cells) (slots := slots) (Q := Q) (l := l) (e := e) (R := R) (below := below) (meth := meth) hf' hL hvr hM rfl k
  rcases hcase with ⟨rfl, hi4⟩ | ⟨rfl, hi4⟩ | ⟨rfl, hi4⟩
  · have hstat : (xsg z).2.2.2.2 = true := hst0.mp (by rw [hi4])
    have hstw : Cond.static (xmn z) ∈ xw := by
      unfold xmiw at hiw
      rw [hstat] at hiw
      exact hiw
    rw [hstat] at hd9
    cases nest with
    | false =>
      have cb : CallB R s args (xcn (xsg y).2.2.2.1) idx (xmn z) (xmb z) (xsg z).2.1 (xrt (xsg z).2.2.1) (xmcw z :: xw) (xrmY z) 0 0 ((xsg z).1.length - 0) := callB_of _ hts hG rfl rfl rfl (hts _ hini) (hts _ (xw_in hlw rfl)) hd9 hRR
      refine xcall (va_runS (As := av.map (xV r)) (rest := rest.map (xV r)) ⟨hx, hb, hml, hown, hts⟩ hM2 ⟨cb, hts _ hstw⟩ ⟨xPre_blind, hpre⟩ rfl (by rw [List.length_map, hlenav]; rfl) hL.2.1 hstk hroom hdg hcs) ?_
      exact hres #[]
    | true =>
      have cb : va_CN R s args (xcn (xsg y).2.2.2.1) idx (xmn z) "OutInTime" (xmb z) (xsg z).2.1 (xrt (xsg z).2.2.1) (xmcw z :: xw) (xrmY z) 0 0 ((xsg z).1.length - 0) := va_cnB _ hts hG rfl rfl rfl (hnw _ hlw rfl) (hts _ hini) hd9 hRR
      refine xcall (va_runSN (As := av.map (xV r)) (rest := rest.map (xV r)) ⟨hx, hb, hml, hown, hts⟩ hM2 ⟨cb, hts _ hstw, trivial⟩ ⟨xPre_blind, hpre⟩ rfl (by rw [List.length_map, hlenav]; rfl) hL.2.1 hstk hroom hdg hcs) ?_
      exact hres #[]
  · have hstat : (xsg z).2.2.2.2 = false := by
      cases hq : (xsg z).2.2.2.2 with
      | false => rfl
      | true =>
        have := hst0.mpr hq
        rw [hi4] at this
        simp at this
    have hinw : Cond.instanceMethod (xmn z) ∈ xw := by
      unfold xmiw at hiw
      rw [hstat] at hiw
      exact hiw
    have hse := hsel (by rw [hi4])
    rw [hstat] at hd9
    unfold xrecv at hrec
    rw [hstat] at hrec
    simp only [cond_false] at hrec
    split at hrec
    · rename_i a av2
      obtain ⟨ha0, han, hsh⟩ := xisO_iff.mp hrec
      have hc11 : (xsg z).2.2.2.1 < 11 := by
        rcases xsh_at ha0 han hn with h | h | h <;> omega
      have hcell := xws_at (kI := kI) (kZ := kZ) (r := r) (F := F) (D := D) ha0 han
      rw [xcell_obj hsh] at hcell
      have hrv := va_recv hK hM.1 (xcl_at _ hc11) hcell
      have hln : (av2.map (xV r)).length = (xsg z).1.length - 1 := by
        rw [List.length_map]
        simp only [List.length_cons] at hlenav
        omega
      have hstk2 : st.map (xV r) = (av2.map (xV r)).reverse ++ .ref (r a) :: rest.map (xV r) := by
        rw [hstk]
        simp [xV]
      cases nest with
      | false =>
        have cb : CallB R s args (xcn (xsg y).2.2.2.1) idx (xmn z) (xmb z) (xsg z).2.1 (xrt (xsg z).2.2.1) (xmcw z :: xw) (xrmY z) 0 0 ((xsg z).1.length - 1) := callB_of _ hts hG rfl rfl rfl (hts _ hini) (hts _ (xw_in hlw rfl)) hd9 hRR
        refine xcall (va_runV (C := xcn (xsg z).2.2.2.1) (b := r a) (As := av2.map (xV r)) (rest := rest.map (xV r)) ⟨hx, hb, hml, hown, hts⟩ hM2 ⟨cb, hts _ hinw, hts _ hse⟩ ⟨xPre_blind, hrv, hpre⟩ rfl hln hL.2.1 hstk2 hroom hdg hcs) ?_
        exact hres #[]
      | true =>
        have cb : va_CN R s args (xcn (xsg y).2.2.2.1) idx (xmn z) "OutInTime" (xmb z) (xsg z).2.1 (xrt (xsg z).2.2.1) (xmcw z :: xw) (xrmY z) 0 0 ((xsg z).1.length - 1) := va_cnB _ hts hG rfl rfl rfl (hnw _ hlw rfl) (hts _ hini) hd9 hRR
        refine xcall (va_runVN (C := xcn (xsg z).2.2.2.1) (b := r a) (As := av2.map (xV r)) (rest := rest.map (xV r)) ⟨hx, hb, hml, hown, hts⟩ hM2 ⟨cb, hts _ hinw, hts _ hse⟩ ⟨xPre_blind, hrv, hpre⟩ rfl hln hL.2.1 hstk2 hroom hdg hcs) ?_
        exact hres #[]
    · cases hrec
  · exact absurd (by rw [hi4]) hk2
end XR2
