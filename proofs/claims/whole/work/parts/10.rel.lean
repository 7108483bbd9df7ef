/-! relation between my machine and the printed one; the steps over locals and stack -/
def xV (r : Nat → Nat) : xv → Value
  | .inl x => .int (Int32.ofInt x)
  | .inr (.inl x) => .long (Int64.ofInt x)
  | .inr (.inr (some a)) => .ref (r a)
  | .inr (.inr none) => .null
def xvo : xv → Prop
  | .inl x => xin x
  | .inr (.inl x) => xinL x
  | _ => True
theorem x32 {a : Int} (h : xin a) : (Int32.ofInt a).toInt = a := by
  obtain ⟨h1, h2⟩ := h
  rw [Int32.toInt_ofInt]
  show Int.bmod a 4294967296 = a
  exact Int.bmod_eq_of_le (by omega) (by omega)
theorem x64 {a : Int} (h : xinL a) : (Int64.ofInt a).toInt = a := by
  obtain ⟨h1, h2⟩ := h
  rw [Int64.toInt_ofInt]
  show Int.bmod a 18446744073709551616 = a
  exact Int.bmod_eq_of_le (by omega) (by omega)
theorem xin32 (v : Int32) : xin v.toInt := ⟨by have := Int32.le_toInt v; omega, by have := Int32.toInt_lt v; omega⟩
theorem xin64 (v : Int64) : xinL v.toInt := ⟨by have := Int64.le_toInt v; omega, by have := Int64.toInt_lt v; omega⟩
theorem xib_iff {a : Int} : xib a = true ↔ xin a := by simp [xib, xin]
theorem xin_L {a : Int} (h : xin a) : xinL a := ⟨by have := h.1; omega, by have := h.2; omega⟩
theorem x_lt {a b : Int} (ha : xin a) (hb : xin b) : Int32.ofInt a < Int32.ofInt b ↔ a < b := by rw [Int32.lt_iff_toInt_lt, x32 ha, x32 hb]
theorem x_le {a b : Int} (ha : xin a) (hb : xin b) : Int32.ofInt a ≤ Int32.ofInt b ↔ a ≤ b := by rw [Int32.le_iff_toInt_le, x32 ha, x32 hb]
theorem x_eq {a b : Int} (ha : xin a) (hb : xin b) : Int32.ofInt a = Int32.ofInt b ↔ a = b := by rw [← Int32.toInt_inj, x32 ha, x32 hb]
theorem xin0 : xin 0 := ⟨by decide, by decide⟩
/-- the cell of an address -/
def xfld (r : Nat → Nat) (F : Nat → Nat → Bool) (D : xD) (a c k : Nat) : Value := match (xfk c k).1 with
  | 2 => .long (Int64.ofInt (D a k))
  | 3 => if F a k = true then .ref (r (a + (xfk c k).2)) else .null
  | _ => .int (Int32.ofInt (D a k))
def xcell (kI kZ : ClassId) (r : Nat → Nat) (F : Nat → Nat → Bool) (D : xD) (a : Nat) : va_E :=
  if (xsh a).1 = 1 then .inl (kI, (xsh a).2, .inl (fun k => Int32.ofInt (D a k)))
  else if (xsh a).1 = 2 then .inl (kZ, (xsh a).2, .inl (fun k => Int32.ofInt (D a k)))
  else .inr ((xsh a).1 - 10, (List.range (xsh a).2).map (fun k => xfld r F D a ((xsh a).1 - 10) k))
def xws (kI kZ : ClassId) (r : Nat → Nat) (F : Nat → Nat → Bool) (D : xD) (n : Nat) : va_W := (List.range (n - 1)).map (fun j => (r (j + 1), xcell kI kZ r F D (j + 1)))
theorem xws_at {kI kZ : ClassId} {r : Nat → Nat} {F : Nat → Nat → Bool} {D : xD} {n a : Nat} (h0 : 0 < a) (hn : a < n) : (xws kI kZ r F D n)[a - 1]? = some (r a, xcell kI kZ r F D a) := by
  have e : a - 1 + 1 = a := by omega
  simp [xws, List.getElem?_map, List.getElem?_range (show a - 1 < n - 1 by omega), e]
def xlf (a : Nat) (k : Int) : Bool := Nat.ble 10 (xsh a).1 && Nat.beq (xfk ((xsh a).1 - 10) k.toNat).1 2
def xgd (D : xD) : Prop := ∀ (a : Nat) (k : Int), (xlf a k = false → xin (D a k)) ∧ xinL (D a k)
def xLoc (r : Nat → Nat) (nL : Nat) (ls : xls) (lls : Array Slot) : Prop := ls.length = nL ∧ lls.size = nL ∧ lv_wf lls ∧ ∀ (i : Nat) (v : xv), ls[i]? = some (some v) → lls[i]? = some (.val (xV r v)) ∧ xvo v
def xMem (s : State) (dd : va_G) (kI kZ : ClassId) (r : Nat → Nat) (n : Nat) (F : Nat → Nat → Bool) (A : Nat → Prop) (xs : Int → Int) (D : xD) (H : Heap) (locs : List Loc) : Prop :=
  va_P dd xcl (xws kI kZ r F D n) H ∧ va_D A (xws kI kZ r F D n) ∧ va_S A s.heap H locs ∧ xgd D ∧ ∀ j, D 0 j = xs j
def xbyt : List (List Int32) := [[104, 111, 108, 100], [115, 116, 114, 101, 101, 116], [111, 112, 101, 110], [116, 117, 114, 110, 115], [100, 111, 111, 114], [115, 97, 102, 101], [115, 108, 111, 119]]
def xsix (j : Nat) : Nat := [94, 103, 108, 113, 118, 123, 128].getD j 0
def xstx (j : Nat) : String := ["hold", "street", "open", "turns", "doo\x72", "safe", "slow"].getD j ""
/-- the JDK's statics that String asks -/
def xlibE (A : Nat → Prop) (U : State) : Prop := va_Z "java/lang/String" "COMPACT_STRINGS" "Z" (.int 1) A U U.heap ∧ va_Zq "jdk/internal/util/Preconditions" "SIOOBE_FORMATTER" "Ljava/util/function/BiFunction;" A U U.heap
/-- what is fixed of a frame -/
def xFix (p : Program) (R : Room) (s : State) (m : MethodId) (args : Array Value) (c : Code) (y nL n : Nat) (r : Nat → Nat) (dd : va_G) (kI kZ : ClassId) (A : Nat → Prop) (xs : Int → Int) (lo : Option Nat) (adV : Nat → Nat) : Prop :=
  p.tables.exec = Jvm.exec ∧ c.code = xmb y ∧ c.maxLocals = nL ∧ s.vm.findClass (xcn (xsg y).2.2.2.1) = some m.cls ∧ (∀ w ∈ xw, w.before args s = true) ∧ (∀ w ∈ lw_tbl, xnest w = true → va_Nw w s) ∧
  va_K dd xcl [(kI, .int), (kZ, .boolean)] s ∧ (xroom y).1 ≤ R.frames ∧ (xroom y).2 ≤ R.locals ∧ y < 242 ∧ n ≤ 124 ∧ (∀ q, s.heap.size ≤ q → A q) ∧
  (∀ L, lo = some L → va_X (r 0) L (fun j => Int32.ofInt (xs (j : Int))) s s.heap ∧ r 0 < s.heap.size ∧ ¬ A (r 0) ∧ L < 2147483648) ∧
  vk_S 7 [4, 6, 4, 5, 4, 4, 4] xbyt (fun j => r (1000 + j)) adV A s s.heap ∧ (∀ j, j < 7 → vk_R "OutInTime$Reader" (xsix j) (xstx j) (r (1000 + j)) s) ∧ xlibE A s
def xW (p : Program) (l : Launch) (e : Env) (R : Room) (s : State) (m : MethodId) (args : Array Value) (below : List Frame) (meth : Method) (c : Code) (cells slots : Nat) (Q : State → Prop) (r : Nat → Nat) (nL : Nat) (dd : va_G) (kI kZ : ClassId) (n : Nat) (F : Nat → Nat → Bool) (A : Nat → Prop) (xs : Int → Int) (pc : Nat) (ls : xls) (st : xst) (D : xD) : Prop :=
  ∀ (lls : Array Slot) (H : Heap) (locs : List Loc), xLoc r nL ls lls → (∀ v ∈ st, xvo v) → xMem s dd kI kZ r n F A xs D H locs → W p l e R s m args below meth c H locs cells slots Q (F0 m pc lls (st.map (xV r)))
section XS
variable {p : Program} {l : Launch} {e : Env} {R : Room} {s : State} {m : MethodId} {args : Array Value} {below : List Frame} {meth : Method} {c : Code} {cells slots : Nat} {Q : State → Prop}
variable {r : Nat → Nat} {nL : Nat} {dd : va_G} {kI kZ : ClassId} {n : Nat} {F : Nat → Nat → Bool} {A : Nat → Prop} {xs : Int → Int} {lo : Option Nat} {adV : Nat → Nat}
variable {y pc : Nat} {ls : xls} {st : xst} {D : xD}

theorem xs_iconst (hf : xFix p R s m args c y nL n r dd kI kZ A xs lo adV) {z : Int} (hdg : decode (xmb y) pc = .ok (.iconst z, 1)) (k : xW p l e R s m args below meth c cells slots Q r nL dd kI kZ n F A xs (pc + 1) ls (.inl (Int32.ofInt z).toInt :: st) D) : xW p l e R s m args below meth c cells slots Q r nL dd kI kZ n F A xs pc ls st D := by
  obtain ⟨hx, hb, hml, hown, hts, hnw, hK, hR1, hR2, hy, hn, hA, hX, hS, hR⟩ := hf
  intro lls H locs hL hv hM
  refine lv_iconst (v := Int32.ofInt z) hx hb hdg rfl ?_
  have := k lls H locs hL (List.forall_mem_cons.mpr ⟨xin32 _, hv⟩) hM
  simpa only [List.map_cons, xV, Int32.ofInt_toInt] using this

theorem xs_bipush (hf : xFix p R s m args c y nL n r dd kI kZ A xs lo adV) {z : Int} (hdg : decode (xmb y) pc = .ok (.bipush z, 2)) (k : xW p l e R s m args below meth c cells slots Q r nL dd kI kZ n F A xs (pc + 2) ls (.inl (Int8.ofInt z).toInt32.toInt :: st) D) : xW p l e R s m args below meth c cells slots Q r nL dd kI kZ n F A xs pc ls st D := by
  obtain ⟨hx, hb, hml, hown, hts, hnw, hK, hR1, hR2, hy, hn, hA, hX, hS, hR⟩ := hf
  intro lls H locs hL hv hM
  refine lv_bipush (v := (Int8.ofInt z).toInt32) hx hb hdg rfl ?_
  have := k lls H locs hL (List.forall_mem_cons.mpr ⟨xin32 _, hv⟩) hM
  simpa only [List.map_cons, xV, Int32.ofInt_toInt] using this

theorem xs_sipush (hf : xFix p R s m args c y nL n r dd kI kZ A xs lo adV) {z : Int} (hdg : decode (xmb y) pc = .ok (.sipush z, 3)) (k : xW p l e R s m args below meth c cells slots Q r nL dd kI kZ n F A xs (pc + 3) ls (.inl (Int16.ofInt z).toInt32.toInt :: st) D) : xW p l e R s m args below meth c cells slots Q r nL dd kI kZ n F A xs pc ls st D := by
  obtain ⟨hx, hb, hml, hown, hts, hnw, hK, hR1, hR2, hy, hn, hA, hX, hS, hR⟩ := hf
  intro lls H locs hL hv hM
  refine lv_sipush (v := (Int16.ofInt z).toInt32) hx hb hdg rfl ?_
  have := k lls H locs hL (List.forall_mem_cons.mpr ⟨xin32 _, hv⟩) hM
  simpa only [List.map_cons, xV, Int32.ofInt_toInt] using this

theorem xs_lconst (hf : xFix p R s m args c y nL n r dd kI kZ A xs lo adV) {z : Fin 2} (hdg : decode (xmb y) pc = .ok (.lconst z, 1)) (k : xW p l e R s m args below meth c cells slots Q r nL dd kI kZ n F A xs (pc + 1) ls (.inr (.inl ((z : Nat) : Int)) :: st) D) : xW p l e R s m args below meth c cells slots Q r nL dd kI kZ n F A xs pc ls st D := by
  obtain ⟨hx, hb, hml, hown, hts, hnw, hK, hR1, hR2, hy, hn, hA, hX, hS, hR⟩ := hf
  intro lls H locs hL hv hM
  refine lv_lconst (v := Int64.ofInt ((z : Nat) : Int)) hx hb hdg (by rcases z with ⟨_ | _ | z, h⟩ <;> first | rfl | omega) ?_
  have := k lls H locs hL (List.forall_mem_cons.mpr ⟨⟨by have := z.isLt; omega, by have := z.isLt; omega⟩, hv⟩) hM
  simpa only [List.map_cons, xV] using this

theorem xs_iload (hf : xFix p R s m args c y nL n r dd kI kZ A xs lo adV) {u : Nat} {v : Int} (hu : ls[u]? = some (some (.inl v))) (hdg : decode (xmb y) pc = .ok (.iload u, 2)) (k : xW p l e R s m args below meth c cells slots Q r nL dd kI kZ n F A xs (pc + 2) ls ((.inl v) :: st) D) : xW p l e R s m args below meth c cells slots Q r nL dd kI kZ n F A xs pc ls st D := by
  obtain ⟨hx, hb, hml, hown, hts, hnw, hK, hR1, hR2, hy, hn, hA, hX, hS, hR⟩ := hf
  intro lls H locs hL hv hM
  obtain ⟨h1, h2⟩ := hL.2.2.2 _ _ hu
  refine lv_iload hx hb hdg h1 ?_
  exact k lls H locs hL (List.forall_mem_cons.mpr ⟨h2, hv⟩) hM

theorem xs_iload_n (hf : xFix p R s m args c y nL n r dd kI kZ A xs lo adV) {u : Fin 4} {v : Int} (hu : ls[(u : Nat)]? = some (some (.inl v))) (hdg : decode (xmb y) pc = .ok (.iload_n u, 1)) (k : xW p l e R s m args below meth c cells slots Q r nL dd kI kZ n F A xs (pc + 1) ls ((.inl v) :: st) D) : xW p l e R s m args below meth c cells slots Q r nL dd kI kZ n F A xs pc ls st D := by
  obtain ⟨hx, hb, hml, hown, hts, hnw, hK, hR1, hR2, hy, hn, hA, hX, hS, hR⟩ := hf
  intro lls H locs hL hv hM
  obtain ⟨h1, h2⟩ := hL.2.2.2 _ _ hu
  refine lv_iload_n hx hb hdg rfl h1 ?_
  exact k lls H locs hL (List.forall_mem_cons.mpr ⟨h2, hv⟩) hM

theorem xs_aload (hf : xFix p R s m args c y nL n r dd kI kZ A xs lo adV) {u : Nat} {v : Nat} (hu : ls[u]? = some (some (.inr (.inr (some v))))) (hdg : decode (xmb y) pc = .ok (.aload u, 2)) (k : xW p l e R s m args below meth c cells slots Q r nL dd kI kZ n F A xs (pc + 2) ls ((.inr (.inr (some v))) :: st) D) : xW p l e R s m args below meth c cells slots Q r nL dd kI kZ n F A xs pc ls st D := by
  obtain ⟨hx, hb, hml, hown, hts, hnw, hK, hR1, hR2, hy, hn, hA, hX, hS, hR⟩ := hf
  intro lls H locs hL hv hM
  obtain ⟨h1, h2⟩ := hL.2.2.2 _ _ hu
  refine lv_aload hx hb hdg h1 ?_
  exact k lls H locs hL (List.forall_mem_cons.mpr ⟨h2, hv⟩) hM

theorem xs_aload_n (hf : xFix p R s m args c y nL n r dd kI kZ A xs lo adV) {u : Fin 4} {v : Nat} (hu : ls[(u : Nat)]? = some (some (.inr (.inr (some v))))) (hdg : decode (xmb y) pc = .ok (.aload_n u, 1)) (k : xW p l e R s m args below meth c cells slots Q r nL dd kI kZ n F A xs (pc + 1) ls ((.inr (.inr (some v))) :: st) D) : xW p l e R s m args below meth c cells slots Q r nL dd kI kZ n F A xs pc ls st D := by
  obtain ⟨hx, hb, hml, hown, hts, hnw, hK, hR1, hR2, hy, hn, hA, hX, hS, hR⟩ := hf
  intro lls H locs hL hv hM
  obtain ⟨h1, h2⟩ := hL.2.2.2 _ _ hu
  refine lv_aload_n hx hb hdg rfl h1 ?_
  exact k lls H locs hL (List.forall_mem_cons.mpr ⟨h2, hv⟩) hM

theorem xs_lload_n (hf : xFix p R s m args c y nL n r dd kI kZ A xs lo adV) {u : Fin 4} {v : Int} (hu : ls[(u : Nat)]? = some (some (.inr (.inl v)))) (hdg : decode (xmb y) pc = .ok (.lload_n u, 1)) (k : xW p l e R s m args below meth c cells slots Q r nL dd kI kZ n F A xs (pc + 1) ls (.inr (.inl v) :: st) D) : xW p l e R s m args below meth c cells slots Q r nL dd kI kZ n F A xs pc ls st D := by
  obtain ⟨hx, hb, hml, hown, hts, hnw, hK, hR1, hR2, hy, hn, hA, hX, hS, hR⟩ := hf
  intro lls H locs hL hv hM
  obtain ⟨h1, h2⟩ := hL.2.2.2 _ _ hu
  refine lv_lload_n hx hb hdg rfl h1 ?_
  exact k lls H locs hL (List.forall_mem_cons.mpr ⟨h2, hv⟩) hM

def xasc (r : Nat → Nat) (ls : xls) : List (Nat × Value) := (List.range ls.length).filterMap (fun i => match ls[i]? with
  | some (some v) => some (i, xV r v)
  | _ => none)
theorem xasc_mem {r : Nat → Nat} {ls : xls} {i : Nat} {v : xv} (h : ls[i]? = some (some v)) : (i, xV r v) ∈ xasc r ls :=
  List.mem_filterMap.mpr ⟨i, List.mem_range.mpr (List.getElem?_eq_some_iff.mp h).1, by simp [h]⟩
theorem xasc_of {r : Nat → Nat} {ls : xls} {q : Nat × Value} (h : q ∈ xasc r ls) : ∃ v, ls[q.1]? = some (some v) ∧ q.2 = xV r v := by
  obtain ⟨i, -, hi⟩ := List.mem_filterMap.mp h
  split at hi
  · rename_i v hv
    cases hi
    exact ⟨v, hv, rfl⟩
  · cases hi
theorem xLoc_has {r : Nat → Nat} {nL : Nat} {ls : xls} {lls : Array Slot} (h : xLoc r nL ls lls) : lv_has lls nL (xasc r ls) :=
  ⟨h.2.1, h.2.2.1, fun q hq => by
    obtain ⟨v, h1, h2⟩ := xasc_of hq
    rw [h2]
    exact (h.2.2.2 _ _ h1).1⟩
theorem xV_cat {r : Nat → Nat} {v : xv} : (xV r v).category = 2 ↔ ∃ x, v = .inr (.inl x) := by
  rcases v with x | x | _ | a <;> simp [xV, Value.category]
theorem xput_loc {r : Nat → Nat} {nL : Nat} {ls l' : xls} {lls lls' : Array Slot} {u : Nat} {v : xv} (h : xLoc r nL ls lls) (hp : xput ls u v = some l') (hv : xvo v)
    (h' : lv_has lls' nL ((u, xV r v) :: (xasc r ls).filter (fun q => !(q.1 == u) && !(q.1 + 1 == u && q.2.category == 2)))) : xLoc r nL l' lls' := by
  unfold xput at hp
  cases hlt : Nat.blt u ls.length with
  | false => rw [hlt] at hp; cases hp
  | true =>
    rw [hlt] at hp
    have hlen : u < ls.length := Nat.le_of_ble_eq_true hlt
    have hnl : ¬ ∃ x, ls[u - 1]? = some (some (.inr (.inl x))) := by
      rintro ⟨x, hx⟩
      simp [hx] at hp
    have hl' : l' = ls.set u (some v) := by
      simp only [cond_true] at hp
      split at hp
      · cases hp
      · exact (Option.some.inj hp).symm
    subst hl'
    refine ⟨by rw [List.length_set]; exact h.1, h'.1, h'.2.1, fun i w hi => ?_⟩
    by_cases hiu : i = u
    · subst hiu
      rw [List.getElem?_set_self hlen] at hi
      cases hi
      exact ⟨h'.2.2 _ List.mem_cons_self, hv⟩
    · rw [List.getElem?_set_ne (Ne.symm hiu)] at hi
      refine ⟨h'.2.2 (i, xV r w) (List.mem_cons_of_mem _ (List.mem_filter.mpr ⟨xasc_mem hi, ?_⟩)), (h.2.2.2 _ _ hi).2⟩
      simp only [Bool.and_eq_true, Bool.not_eq_true', beq_eq_false_iff_ne, Bool.and_eq_false_iff]
      refine ⟨hiu, ?_⟩
      by_cases hi1 : i + 1 = u
      · refine Or.inr ?_
        intro hc
        obtain ⟨x, rfl⟩ := xV_cat.mp hc
        exact hnl ⟨x, by rw [show u - 1 = i by omega]; exact hi⟩
      · exact Or.inl hi1
theorem xput_lt {ls l' : xls} {u : Nat} {v : xv} (hp : xput ls u v = some l') : u < ls.length := by
  unfold xput at hp
  cases hlt : Nat.blt u ls.length with
  | false => rw [hlt] at hp; cases hp
  | true => exact Nat.le_of_ble_eq_true hlt

theorem xs_istore (hf : xFix p R s m args c y nL n r dd kI kZ A xs lo adV) {u : Nat} {v : Int} {l9 : xls} (hu : xput ls u (.inl v) = some l9) (hdg : decode (xmb y) pc = .ok (.istore u, 2)) (k : xW p l e R s m args below meth c cells slots Q r nL dd kI kZ n F A xs (pc + 2) l9 st D) : xW p l e R s m args below meth c cells slots Q r nL dd kI kZ n F A xs pc ls ((.inl v) :: st) D := by
  obtain ⟨hx, hb, hml, hown, hts, hnw, hK, hR1, hR2, hy, hn, hA, hX, hS, hR⟩ := hf
  intro lls H locs hL hv hM
  refine lv_istore hx hb hdg (xLoc_has hL) (by rw [← hL.1]; exact xput_lt hu) rfl (fun lls' h' => ?_)
  exact k lls' H locs (xput_loc hL hu (List.forall_mem_cons.mp hv).1 h') (List.forall_mem_cons.mp hv).2 hM

theorem xs_istore_n (hf : xFix p R s m args c y nL n r dd kI kZ A xs lo adV) {u : Fin 4} {v : Int} {l9 : xls} (hu : xput ls (u : Nat) (.inl v) = some l9) (hdg : decode (xmb y) pc = .ok (.istore_n u, 1)) (k : xW p l e R s m args below meth c cells slots Q r nL dd kI kZ n F A xs (pc + 1) l9 st D) : xW p l e R s m args below meth c cells slots Q r nL dd kI kZ n F A xs pc ls ((.inl v) :: st) D := by
  obtain ⟨hx, hb, hml, hown, hts, hnw, hK, hR1, hR2, hy, hn, hA, hX, hS, hR⟩ := hf
  intro lls H locs hL hv hM
  refine lv_istore_n hx hb hdg rfl (xLoc_has hL) (by rw [← hL.1]; exact xput_lt hu) rfl (fun lls' h' => ?_)
  exact k lls' H locs (xput_loc hL hu (List.forall_mem_cons.mp hv).1 h') (List.forall_mem_cons.mp hv).2 hM

theorem xs_astore (hf : xFix p R s m args c y nL n r dd kI kZ A xs lo adV) {u : Nat} {v : Nat} {l9 : xls} (hu : xput ls u (.inr (.inr (some v))) = some l9) (hdg : decode (xmb y) pc = .ok (.astore u, 2)) (k : xW p l e R s m args below meth c cells slots Q r nL dd kI kZ n F A xs (pc + 2) l9 st D) : xW p l e R s m args below meth c cells slots Q r nL dd kI kZ n F A xs pc ls ((.inr (.inr (some v))) :: st) D := by
  obtain ⟨hx, hb, hml, hown, hts, hnw, hK, hR1, hR2, hy, hn, hA, hX, hS, hR⟩ := hf
  intro lls H locs hL hv hM
  refine lv_astore hx hb hdg (xLoc_has hL) (by rw [← hL.1]; exact xput_lt hu) rfl (fun lls' h' => ?_)
  exact k lls' H locs (xput_loc hL hu (List.forall_mem_cons.mp hv).1 h') (List.forall_mem_cons.mp hv).2 hM

theorem xs_astore_n (hf : xFix p R s m args c y nL n r dd kI kZ A xs lo adV) {u : Fin 4} {v : Nat} {l9 : xls} (hu : xput ls (u : Nat) (.inr (.inr (some v))) = some l9) (hdg : decode (xmb y) pc = .ok (.astore_n u, 1)) (k : xW p l e R s m args below meth c cells slots Q r nL dd kI kZ n F A xs (pc + 1) l9 st D) : xW p l e R s m args below meth c cells slots Q r nL dd kI kZ n F A xs pc ls ((.inr (.inr (some v))) :: st) D := by
  obtain ⟨hx, hb, hml, hown, hts, hnw, hK, hR1, hR2, hy, hn, hA, hX, hS, hR⟩ := hf
  intro lls H locs hL hv hM
  refine lv_astore_n hx hb hdg rfl (xLoc_has hL) (by rw [← hL.1]; exact xput_lt hu) rfl (fun lls' h' => ?_)
  exact k lls' H locs (xput_loc hL hu (List.forall_mem_cons.mp hv).1 h') (List.forall_mem_cons.mp hv).2 hM

theorem xs_iinc (hf : xFix p R s m args c y nL n r dd kI kZ A xs lo adV) {u : Nat} {z v : Int} {l9 : xls} (hu0 : ls[u]? = some (some (.inl v))) (hin : xin (v + z)) (hu : xput ls u (.inl (v + z)) = some l9) (hdg : decode (xmb y) pc = .ok (.iinc u z, 3)) (k : xW p l e R s m args below meth c cells slots Q r nL dd kI kZ n F A xs (pc + 3) l9 st D) : xW p l e R s m args below meth c cells slots Q r nL dd kI kZ n F A xs pc ls st D := by
  obtain ⟨hx, hb, hml, hown, hts, hnw, hK, hR1, hR2, hy, hn, hA, hX, hS, hR⟩ := hf
  intro lls H locs hL hv hM
  obtain ⟨q, hq⟩ := List.getElem?_of_mem (xasc_mem (r := r) hu0)
  refine lv_iinc (v := Int32.ofInt (v + z)) hx hb hdg (xLoc_has hL) hq (by rw [Int32.ofInt_add]) (by rw [← hL.1]; exact xput_lt hu) rfl (fun lls' h' => ?_)
  exact k lls' H locs (xput_loc hL hu hin h') hv hM

theorem xs_iadd (hf : xFix p R s m args c y nL n r dd kI kZ A xs lo adV) {a b : Int} (hin : xin (a + b)) (hdg : decode (xmb y) pc = .ok (.iadd, 1)) (k : xW p l e R s m args below meth c cells slots Q r nL dd kI kZ n F A xs (pc + 1) ls (.inl (a + b) :: st) D) : xW p l e R s m args below meth c cells slots Q r nL dd kI kZ n F A xs pc ls (.inl b :: .inl a :: st) D := by
  obtain ⟨hx, hb, hml, hown, hts, hnw, hK, hR1, hR2, hy, hn, hA, hX, hS, hR⟩ := hf
  intro lls H locs hL hv hM
  refine lv_iadd hx hb hdg ?_
  have := k lls H locs hL (List.forall_mem_cons.mpr ⟨hin, (List.forall_mem_cons.mp (List.forall_mem_cons.mp hv).2).2⟩) hM
  rw [← Int32.ofInt_add]
  exact this

theorem xs_isub (hf : xFix p R s m args c y nL n r dd kI kZ A xs lo adV) {a b : Int} (hin : xin (a - b)) (hdg : decode (xmb y) pc = .ok (.isub, 1)) (k : xW p l e R s m args below meth c cells slots Q r nL dd kI kZ n F A xs (pc + 1) ls (.inl (a - b) :: st) D) : xW p l e R s m args below meth c cells slots Q r nL dd kI kZ n F A xs pc ls (.inl b :: .inl a :: st) D := by
  obtain ⟨hx, hb, hml, hown, hts, hnw, hK, hR1, hR2, hy, hn, hA, hX, hS, hR⟩ := hf
  intro lls H locs hL hv hM
  refine lv_isub hx hb hdg ?_
  have := k lls H locs hL (List.forall_mem_cons.mpr ⟨hin, (List.forall_mem_cons.mp (List.forall_mem_cons.mp hv).2).2⟩) hM
  rw [← Int32.ofInt_sub]
  exact this

theorem xs_imul (hf : xFix p R s m args c y nL n r dd kI kZ A xs lo adV) {a b : Int} (hin : xin (a * b)) (hdg : decode (xmb y) pc = .ok (.imul, 1)) (k : xW p l e R s m args below meth c cells slots Q r nL dd kI kZ n F A xs (pc + 1) ls (.inl (a * b) :: st) D) : xW p l e R s m args below meth c cells slots Q r nL dd kI kZ n F A xs pc ls (.inl b :: .inl a :: st) D := by
  obtain ⟨hx, hb, hml, hown, hts, hnw, hK, hR1, hR2, hy, hn, hA, hX, hS, hR⟩ := hf
  intro lls H locs hL hv hM
  refine lv_imul hx hb hdg ?_
  have := k lls H locs hL (List.forall_mem_cons.mpr ⟨hin, (List.forall_mem_cons.mp (List.forall_mem_cons.mp hv).2).2⟩) hM
  rw [← Int32.ofInt_mul]
  exact this

theorem xs_iand (hf : xFix p R s m args c y nL n r dd kI kZ A xs lo adV) {a b : Int} (hdg : decode (xmb y) pc = .ok (.iand, 1)) (k : xW p l e R s m args below meth c cells slots Q r nL dd kI kZ n F A xs (pc + 1) ls (.inl (iand a b) :: st) D) : xW p l e R s m args below meth c cells slots Q r nL dd kI kZ n F A xs pc ls (.inl b :: .inl a :: st) D := by
  obtain ⟨hx, hb, hml, hown, hts, hnw, hK, hR1, hR2, hy, hn, hA, hX, hS, hR⟩ := hf
  intro lls H locs hL hv hM
  refine lv_iand hx hb hdg ?_
  have := k lls H locs hL (List.forall_mem_cons.mpr ⟨xin32 _, (List.forall_mem_cons.mp (List.forall_mem_cons.mp hv).2).2⟩) hM
  simpa only [List.map_cons, xV, iand, Int32.ofInt_toInt] using this

theorem xs_ior (hf : xFix p R s m args c y nL n r dd kI kZ A xs lo adV) {a b : Int} (hdg : decode (xmb y) pc = .ok (.ior, 1)) (k : xW p l e R s m args below meth c cells slots Q r nL dd kI kZ n F A xs (pc + 1) ls (.inl (ior a b) :: st) D) : xW p l e R s m args below meth c cells slots Q r nL dd kI kZ n F A xs pc ls (.inl b :: .inl a :: st) D := by
  obtain ⟨hx, hb, hml, hown, hts, hnw, hK, hR1, hR2, hy, hn, hA, hX, hS, hR⟩ := hf
  intro lls H locs hL hv hM
  refine lv_ior hx hb hdg ?_
  have := k lls H locs hL (List.forall_mem_cons.mpr ⟨xin32 _, (List.forall_mem_cons.mp (List.forall_mem_cons.mp hv).2).2⟩) hM
  simpa only [List.map_cons, xV, ior, Int32.ofInt_toInt] using this

theorem xs_ixor (hf : xFix p R s m args c y nL n r dd kI kZ A xs lo adV) {a b : Int} (hdg : decode (xmb y) pc = .ok (.ixor, 1)) (k : xW p l e R s m args below meth c cells slots Q r nL dd kI kZ n F A xs (pc + 1) ls (.inl (ixor a b) :: st) D) : xW p l e R s m args below meth c cells slots Q r nL dd kI kZ n F A xs pc ls (.inl b :: .inl a :: st) D := by
  obtain ⟨hx, hb, hml, hown, hts, hnw, hK, hR1, hR2, hy, hn, hA, hX, hS, hR⟩ := hf
  intro lls H locs hL hv hM
  refine lv_ixor hx hb hdg ?_
  have := k lls H locs hL (List.forall_mem_cons.mpr ⟨xin32 _, (List.forall_mem_cons.mp (List.forall_mem_cons.mp hv).2).2⟩) hM
  simpa only [List.map_cons, xV, ixor, Int32.ofInt_toInt] using this

theorem xs_ishl (hf : xFix p R s m args c y nL n r dd kI kZ A xs lo adV) {a b : Int} (hdg : decode (xmb y) pc = .ok (.ishl, 1)) (k : xW p l e R s m args below meth c cells slots Q r nL dd kI kZ n F A xs (pc + 1) ls (.inl (ishl a b) :: st) D) : xW p l e R s m args below meth c cells slots Q r nL dd kI kZ n F A xs pc ls (.inl b :: .inl a :: st) D := by
  obtain ⟨hx, hb, hml, hown, hts, hnw, hK, hR1, hR2, hy, hn, hA, hX, hS, hR⟩ := hf
  intro lls H locs hL hv hM
  refine lv_ishl hx hb hdg ?_
  have := k lls H locs hL (List.forall_mem_cons.mpr ⟨xin32 _, (List.forall_mem_cons.mp (List.forall_mem_cons.mp hv).2).2⟩) hM
  simpa only [List.map_cons, xV, ishl, Int32.ofInt_toInt] using this

theorem xs_ishr (hf : xFix p R s m args c y nL n r dd kI kZ A xs lo adV) {a b : Int} (hdg : decode (xmb y) pc = .ok (.ishr, 1)) (k : xW p l e R s m args below meth c cells slots Q r nL dd kI kZ n F A xs (pc + 1) ls (.inl (ishr a b) :: st) D) : xW p l e R s m args below meth c cells slots Q r nL dd kI kZ n F A xs pc ls (.inl b :: .inl a :: st) D := by
  obtain ⟨hx, hb, hml, hown, hts, hnw, hK, hR1, hR2, hy, hn, hA, hX, hS, hR⟩ := hf
  intro lls H locs hL hv hM
  refine lv_ishr hx hb hdg ?_
  have := k lls H locs hL (List.forall_mem_cons.mpr ⟨xin32 _, (List.forall_mem_cons.mp (List.forall_mem_cons.mp hv).2).2⟩) hM
  simpa only [List.map_cons, xV, ishr, Int32.ofInt_toInt] using this

theorem xs_iushr (hf : xFix p R s m args c y nL n r dd kI kZ A xs lo adV) {a b : Int} (hdg : decode (xmb y) pc = .ok (.iushr, 1)) (k : xW p l e R s m args below meth c cells slots Q r nL dd kI kZ n F A xs (pc + 1) ls (.inl (iushr a b) :: st) D) : xW p l e R s m args below meth c cells slots Q r nL dd kI kZ n F A xs pc ls (.inl b :: .inl a :: st) D := by
  obtain ⟨hx, hb, hml, hown, hts, hnw, hK, hR1, hR2, hy, hn, hA, hX, hS, hR⟩ := hf
  intro lls H locs hL hv hM
  refine lv_iushr hx hb hdg rfl ?_
  have := k lls H locs hL (List.forall_mem_cons.mpr ⟨xin32 _, (List.forall_mem_cons.mp (List.forall_mem_cons.mp hv).2).2⟩) hM
  simpa only [List.map_cons, xV, iushr, Int32.ofInt_toInt] using this

theorem xs_idiv (hf : xFix p R s m args c y nL n r dd kI kZ A xs lo adV) {a b : Int} (hne : ¬ b = 0) (hdg : decode (xmb y) pc = .ok (.idiv, 1)) (k : xW p l e R s m args below meth c cells slots Q r nL dd kI kZ n F A xs (pc + 1) ls (.inl (idv a b) :: st) D) : xW p l e R s m args below meth c cells slots Q r nL dd kI kZ n F A xs pc ls (.inl b :: .inl a :: st) D := by
  obtain ⟨hx, hb, hml, hown, hts, hnw, hK, hR1, hR2, hy, hn, hA, hX, hS, hR⟩ := hf
  intro lls H locs hL hv hM
  refine lv_idiv hx hb hdg (fun h0 => hne ((x_eq (List.forall_mem_cons.mp hv).1 xin0).mp h0)) ?_
  have := k lls H locs hL (List.forall_mem_cons.mpr ⟨xin32 _, (List.forall_mem_cons.mp (List.forall_mem_cons.mp hv).2).2⟩) hM
  simpa only [List.map_cons, xV, idv, Int32.ofInt_toInt] using this

theorem xs_irem (hf : xFix p R s m args c y nL n r dd kI kZ A xs lo adV) {a b : Int} (hne : ¬ b = 0) (hdg : decode (xmb y) pc = .ok (.irem, 1)) (k : xW p l e R s m args below meth c cells slots Q r nL dd kI kZ n F A xs (pc + 1) ls (.inl (irm a b) :: st) D) : xW p l e R s m args below meth c cells slots Q r nL dd kI kZ n F A xs pc ls (.inl b :: .inl a :: st) D := by
  obtain ⟨hx, hb, hml, hown, hts, hnw, hK, hR1, hR2, hy, hn, hA, hX, hS, hR⟩ := hf
  intro lls H locs hL hv hM
  refine lv_irem hx hb hdg (fun h0 => hne ((x_eq (List.forall_mem_cons.mp hv).1 xin0).mp h0)) ?_
  have := k lls H locs hL (List.forall_mem_cons.mpr ⟨xin32 _, (List.forall_mem_cons.mp (List.forall_mem_cons.mp hv).2).2⟩) hM
  simpa only [List.map_cons, xV, irm, Int32.ofInt_toInt] using this

theorem xs_ineg (hf : xFix p R s m args c y nL n r dd kI kZ A xs lo adV) {a : Int} (hin : xin (-a)) (hdg : decode (xmb y) pc = .ok (.ineg, 1)) (k : xW p l e R s m args below meth c cells slots Q r nL dd kI kZ n F A xs (pc + 1) ls (.inl (-a) :: st) D) : xW p l e R s m args below meth c cells slots Q r nL dd kI kZ n F A xs pc ls (.inl a :: st) D := by
  obtain ⟨hx, hb, hml, hown, hts, hnw, hK, hR1, hR2, hy, hn, hA, hX, hS, hR⟩ := hf
  intro lls H locs hL hv hM
  refine lv_ineg hx hb hdg ?_
  have := k lls H locs hL (List.forall_mem_cons.mpr ⟨hin, (List.forall_mem_cons.mp hv).2⟩) hM
  rw [← Int32.ofInt_neg]
  exact this

theorem x1_cat {r : Nat → Nat} {v : xv} (h : x1 v = true) : (xV r v).category = 1 := by
  rcases v with x | x | _ | a <;> first | rfl | (simp [x1] at h)

theorem xs_dup (hf : xFix p R s m args c y nL n r dd kI kZ A xs lo adV) {v : xv} (h1 : x1 v = true) (hdg : decode (xmb y) pc = .ok (.dup, 1)) (k : xW p l e R s m args below meth c cells slots Q r nL dd kI kZ n F A xs (pc + 1) ls (v :: v :: st) D) : xW p l e R s m args below meth c cells slots Q r nL dd kI kZ n F A xs pc ls (v :: st) D := by
  obtain ⟨hx, hb, hml, hown, hts, hnw, hK, hR1, hR2, hy, hn, hA, hX, hS, hR⟩ := hf
  intro lls H locs hL hv hM
  refine lv_dup hx hb hdg (x1_cat h1) ?_
  exact k lls H locs hL (List.forall_mem_cons.mpr ⟨(List.forall_mem_cons.mp hv).1, hv⟩) hM

theorem xs_dup2 (hf : xFix p R s m args c y nL n r dd kI kZ A xs lo adV) {v w : xv} (h1 : x1 v = true) (h2 : x1 w = true) (hdg : decode (xmb y) pc = .ok (.dup2, 1)) (k : xW p l e R s m args below meth c cells slots Q r nL dd kI kZ n F A xs (pc + 1) ls (v :: w :: v :: w :: st) D) : xW p l e R s m args below meth c cells slots Q r nL dd kI kZ n F A xs pc ls (v :: w :: st) D := by
  obtain ⟨hx, hb, hml, hown, hts, hnw, hK, hR1, hR2, hy, hn, hA, hX, hS, hR⟩ := hf
  intro lls H locs hL hv hM
  refine lv_dup2_11 hx hb hdg (x1_cat h1) (x1_cat h2) ?_
  exact k lls H locs hL (List.forall_mem_cons.mpr ⟨(List.forall_mem_cons.mp hv).1, List.forall_mem_cons.mpr ⟨(List.forall_mem_cons.mp (List.forall_mem_cons.mp hv).2).1, hv⟩⟩) hM

theorem xs_pop (hf : xFix p R s m args c y nL n r dd kI kZ A xs lo adV) {v : xv} (h1 : x1 v = true) (hdg : decode (xmb y) pc = .ok (.pop, 1)) (k : xW p l e R s m args below meth c cells slots Q r nL dd kI kZ n F A xs (pc + 1) ls st D) : xW p l e R s m args below meth c cells slots Q r nL dd kI kZ n F A xs pc ls (v :: st) D := by
  obtain ⟨hx, hb, hml, hown, hts, hnw, hK, hR1, hR2, hy, hn, hA, hX, hS, hR⟩ := hf
  intro lls H locs hL hv hM
  refine lv_pop hx hb hdg (x1_cat h1) ?_
  exact k lls H locs hL (List.forall_mem_cons.mp hv).2 hM

theorem xs_if_eq (hf : xFix p R s m args c y nL n r dd kI kZ A xs lo adV) {a : Int} {off : Int} {tgt : Nat} (ht : (pc : Int) + off = (tgt : Int)) (hdg : decode (xmb y) pc = .ok (.ifCond .eq off, 3)) (k : xW p l e R s m args below meth c cells slots Q r nL dd kI kZ n F A xs (bif xcb 0 a 0 then tgt else pc + 3) ls st D) : xW p l e R s m args below meth c cells slots Q r nL dd kI kZ n F A xs pc ls (.inl a :: st) D := by
  obtain ⟨hx, hb, hml, hown, hts, hnw, hK, hR1, hR2, hy, hn, hA, hX, hS, hR⟩ := hf
  intro lls H locs hL hv hM
  have ha : xin a := (List.forall_mem_cons.mp hv).1
  have hc := x_eq ha xin0
  have hi := k lls H locs hL (List.forall_mem_cons.mp hv).2 hM
  refine lv_if_eq hx hb hdg ht (fun q => ?_) (fun q => ?_)
  · rw [show xcb 0 a 0 = true from decide_eq_true (hc.mp q)] at hi
    exact hi
  · rw [show xcb 0 a 0 = false from decide_eq_false (fun z => q (hc.mpr z))] at hi
    exact hi

theorem xs_icmp_eq (hf : xFix p R s m args c y nL n r dd kI kZ A xs lo adV) {a b : Int} {off : Int} {tgt : Nat} (ht : (pc : Int) + off = (tgt : Int)) (hdg : decode (xmb y) pc = .ok (.if_icmp .eq off, 3)) (k : xW p l e R s m args below meth c cells slots Q r nL dd kI kZ n F A xs (bif xcb 0 a b then tgt else pc + 3) ls st D) : xW p l e R s m args below meth c cells slots Q r nL dd kI kZ n F A xs pc ls (.inl b :: .inl a :: st) D := by
  obtain ⟨hx, hb, hml, hown, hts, hnw, hK, hR1, hR2, hy, hn, hA, hX, hS, hR⟩ := hf
  intro lls H locs hL hv hM
  have hb9 : xin b := (List.forall_mem_cons.mp hv).1
  have ha : xin a := (List.forall_mem_cons.mp (List.forall_mem_cons.mp hv).2).1
  have hc := x_eq ha hb9
  have hi := k lls H locs hL (List.forall_mem_cons.mp (List.forall_mem_cons.mp hv).2).2 hM
  refine lv_icmp_eq hx hb hdg ht (fun q => ?_) (fun q => ?_)
  · rw [show xcb 0 a b = true from decide_eq_true (hc.mp q)] at hi
    exact hi
  · rw [show xcb 0 a b = false from decide_eq_false (fun z => q (hc.mpr z))] at hi
    exact hi

theorem xs_if_ne (hf : xFix p R s m args c y nL n r dd kI kZ A xs lo adV) {a : Int} {off : Int} {tgt : Nat} (ht : (pc : Int) + off = (tgt : Int)) (hdg : decode (xmb y) pc = .ok (.ifCond .ne off, 3)) (k : xW p l e R s m args below meth c cells slots Q r nL dd kI kZ n F A xs (bif xcb 1 a 0 then tgt else pc + 3) ls st D) : xW p l e R s m args below meth c cells slots Q r nL dd kI kZ n F A xs pc ls (.inl a :: st) D := by
  obtain ⟨hx, hb, hml, hown, hts, hnw, hK, hR1, hR2, hy, hn, hA, hX, hS, hR⟩ := hf
  intro lls H locs hL hv hM
  have ha : xin a := (List.forall_mem_cons.mp hv).1
  have hc := not_congr (x_eq ha xin0)
  have hi := k lls H locs hL (List.forall_mem_cons.mp hv).2 hM
  refine lv_if_ne hx hb hdg ht (fun q => ?_) (fun q => ?_)
  · rw [show xcb 1 a 0 = true from decide_eq_true (hc.mp q)] at hi
    exact hi
  · rw [show xcb 1 a 0 = false from decide_eq_false (fun z => (hc.mpr z) q)] at hi
    exact hi

theorem xs_icmp_ne (hf : xFix p R s m args c y nL n r dd kI kZ A xs lo adV) {a b : Int} {off : Int} {tgt : Nat} (ht : (pc : Int) + off = (tgt : Int)) (hdg : decode (xmb y) pc = .ok (.if_icmp .ne off, 3)) (k : xW p l e R s m args below meth c cells slots Q r nL dd kI kZ n F A xs (bif xcb 1 a b then tgt else pc + 3) ls st D) : xW p l e R s m args below meth c cells slots Q r nL dd kI kZ n F A xs pc ls (.inl b :: .inl a :: st) D := by
  obtain ⟨hx, hb, hml, hown, hts, hnw, hK, hR1, hR2, hy, hn, hA, hX, hS, hR⟩ := hf
  intro lls H locs hL hv hM
  have hb9 : xin b := (List.forall_mem_cons.mp hv).1
  have ha : xin a := (List.forall_mem_cons.mp (List.forall_mem_cons.mp hv).2).1
  have hc := not_congr (x_eq ha hb9)
  have hi := k lls H locs hL (List.forall_mem_cons.mp (List.forall_mem_cons.mp hv).2).2 hM
  refine lv_icmp_ne hx hb hdg ht (fun q => ?_) (fun q => ?_)
  · rw [show xcb 1 a b = true from decide_eq_true (hc.mp q)] at hi
    exact hi
  · rw [show xcb 1 a b = false from decide_eq_false (fun z => (hc.mpr z) q)] at hi
    exact hi

theorem xs_if_lt (hf : xFix p R s m args c y nL n r dd kI kZ A xs lo adV) {a : Int} {off : Int} {tgt : Nat} (ht : (pc : Int) + off = (tgt : Int)) (hdg : decode (xmb y) pc = .ok (.ifCond .lt off, 3)) (k : xW p l e R s m args below meth c cells slots Q r nL dd kI kZ n F A xs (bif xcb 2 a 0 then tgt else pc + 3) ls st D) : xW p l e R s m args below meth c cells slots Q r nL dd kI kZ n F A xs pc ls (.inl a :: st) D := by
  obtain ⟨hx, hb, hml, hown, hts, hnw, hK, hR1, hR2, hy, hn, hA, hX, hS, hR⟩ := hf
  intro lls H locs hL hv hM
  have ha : xin a := (List.forall_mem_cons.mp hv).1
  have hc := x_lt ha xin0
  have hi := k lls H locs hL (List.forall_mem_cons.mp hv).2 hM
  refine lv_if_lt hx hb hdg ht (fun q => ?_) (fun q => ?_)
  · rw [show xcb 2 a 0 = true from decide_eq_true (hc.mp q)] at hi
    exact hi
  · rw [show xcb 2 a 0 = false from decide_eq_false (fun z => q (hc.mpr z))] at hi
    exact hi

theorem xs_icmp_lt (hf : xFix p R s m args c y nL n r dd kI kZ A xs lo adV) {a b : Int} {off : Int} {tgt : Nat} (ht : (pc : Int) + off = (tgt : Int)) (hdg : decode (xmb y) pc = .ok (.if_icmp .lt off, 3)) (k : xW p l e R s m args below meth c cells slots Q r nL dd kI kZ n F A xs (bif xcb 2 a b then tgt else pc + 3) ls st D) : xW p l e R s m args below meth c cells slots Q r nL dd kI kZ n F A xs pc ls (.inl b :: .inl a :: st) D := by
  obtain ⟨hx, hb, hml, hown, hts, hnw, hK, hR1, hR2, hy, hn, hA, hX, hS, hR⟩ := hf
  intro lls H locs hL hv hM
  have hb9 : xin b := (List.forall_mem_cons.mp hv).1
  have ha : xin a := (List.forall_mem_cons.mp (List.forall_mem_cons.mp hv).2).1
  have hc := x_lt ha hb9
  have hi := k lls H locs hL (List.forall_mem_cons.mp (List.forall_mem_cons.mp hv).2).2 hM
  refine lv_icmp_lt hx hb hdg ht (fun q => ?_) (fun q => ?_)
  · rw [show xcb 2 a b = true from decide_eq_true (hc.mp q)] at hi
    exact hi
  · rw [show xcb 2 a b = false from decide_eq_false (fun z => q (hc.mpr z))] at hi
    exact hi

theorem xs_if_ge (hf : xFix p R s m args c y nL n r dd kI kZ A xs lo adV) {a : Int} {off : Int} {tgt : Nat} (ht : (pc : Int) + off = (tgt : Int)) (hdg : decode (xmb y) pc = .ok (.ifCond .ge off, 3)) (k : xW p l e R s m args below meth c cells slots Q r nL dd kI kZ n F A xs (bif xcb 3 a 0 then tgt else pc + 3) ls st D) : xW p l e R s m args below meth c cells slots Q r nL dd kI kZ n F A xs pc ls (.inl a :: st) D := by
  obtain ⟨hx, hb, hml, hown, hts, hnw, hK, hR1, hR2, hy, hn, hA, hX, hS, hR⟩ := hf
  intro lls H locs hL hv hM
  have ha : xin a := (List.forall_mem_cons.mp hv).1
  have hc := x_le xin0 ha
  have hi := k lls H locs hL (List.forall_mem_cons.mp hv).2 hM
  refine lv_if_ge hx hb hdg ht (fun q => ?_) (fun q => ?_)
  · rw [show xcb 3 a 0 = true from decide_eq_true (hc.mp q)] at hi
    exact hi
  · rw [show xcb 3 a 0 = false from decide_eq_false (fun z => q (hc.mpr z))] at hi
    exact hi

theorem xs_icmp_ge (hf : xFix p R s m args c y nL n r dd kI kZ A xs lo adV) {a b : Int} {off : Int} {tgt : Nat} (ht : (pc : Int) + off = (tgt : Int)) (hdg : decode (xmb y) pc = .ok (.if_icmp .ge off, 3)) (k : xW p l e R s m args below meth c cells slots Q r nL dd kI kZ n F A xs (bif xcb 3 a b then tgt else pc + 3) ls st D) : xW p l e R s m args below meth c cells slots Q r nL dd kI kZ n F A xs pc ls (.inl b :: .inl a :: st) D := by
  obtain ⟨hx, hb, hml, hown, hts, hnw, hK, hR1, hR2, hy, hn, hA, hX, hS, hR⟩ := hf
  intro lls H locs hL hv hM
  have hb9 : xin b := (List.forall_mem_cons.mp hv).1
  have ha : xin a := (List.forall_mem_cons.mp (List.forall_mem_cons.mp hv).2).1
  have hc := x_le hb9 ha
  have hi := k lls H locs hL (List.forall_mem_cons.mp (List.forall_mem_cons.mp hv).2).2 hM
  refine lv_icmp_ge hx hb hdg ht (fun q => ?_) (fun q => ?_)
  · rw [show xcb 3 a b = true from decide_eq_true (hc.mp q)] at hi
    exact hi
  · rw [show xcb 3 a b = false from decide_eq_false (fun z => q (hc.mpr z))] at hi
    exact hi

theorem xs_if_gt (hf : xFix p R s m args c y nL n r dd kI kZ A xs lo adV) {a : Int} {off : Int} {tgt : Nat} (ht : (pc : Int) + off = (tgt : Int)) (hdg : decode (xmb y) pc = .ok (.ifCond .gt off, 3)) (k : xW p l e R s m args below meth c cells slots Q r nL dd kI kZ n F A xs (bif xcb 4 a 0 then tgt else pc + 3) ls st D) : xW p l e R s m args below meth c cells slots Q r nL dd kI kZ n F A xs pc ls (.inl a :: st) D := by
  obtain ⟨hx, hb, hml, hown, hts, hnw, hK, hR1, hR2, hy, hn, hA, hX, hS, hR⟩ := hf
  intro lls H locs hL hv hM
  have ha : xin a := (List.forall_mem_cons.mp hv).1
  have hc := x_lt xin0 ha
  have hi := k lls H locs hL (List.forall_mem_cons.mp hv).2 hM
  refine lv_if_gt hx hb hdg ht (fun q => ?_) (fun q => ?_)
  · rw [show xcb 4 a 0 = true from decide_eq_true (hc.mp q)] at hi
    exact hi
  · rw [show xcb 4 a 0 = false from decide_eq_false (fun z => q (hc.mpr z))] at hi
    exact hi

theorem xs_icmp_gt (hf : xFix p R s m args c y nL n r dd kI kZ A xs lo adV) {a b : Int} {off : Int} {tgt : Nat} (ht : (pc : Int) + off = (tgt : Int)) (hdg : decode (xmb y) pc = .ok (.if_icmp .gt off, 3)) (k : xW p l e R s m args below meth c cells slots Q r nL dd kI kZ n F A xs (bif xcb 4 a b then tgt else pc + 3) ls st D) : xW p l e R s m args below meth c cells slots Q r nL dd kI kZ n F A xs pc ls (.inl b :: .inl a :: st) D := by
  obtain ⟨hx, hb, hml, hown, hts, hnw, hK, hR1, hR2, hy, hn, hA, hX, hS, hR⟩ := hf
  intro lls H locs hL hv hM
  have hb9 : xin b := (List.forall_mem_cons.mp hv).1
  have ha : xin a := (List.forall_mem_cons.mp (List.forall_mem_cons.mp hv).2).1
  have hc := x_lt hb9 ha
  have hi := k lls H locs hL (List.forall_mem_cons.mp (List.forall_mem_cons.mp hv).2).2 hM
  refine lv_icmp_gt hx hb hdg ht (fun q => ?_) (fun q => ?_)
  · rw [show xcb 4 a b = true from decide_eq_true (hc.mp q)] at hi
    exact hi
  · rw [show xcb 4 a b = false from decide_eq_false (fun z => q (hc.mpr z))] at hi
    exact hi

theorem xs_if_le (hf : xFix p R s m args c y nL n r dd kI kZ A xs lo adV) {a : Int} {off : Int} {tgt : Nat} (ht : (pc : Int) + off = (tgt : Int)) (hdg : decode (xmb y) pc = .ok (.ifCond .le off, 3)) (k : xW p l e R s m args below meth c cells slots Q r nL dd kI kZ n F A xs (bif xcb 5 a 0 then tgt else pc + 3) ls st D) : xW p l e R s m args below meth c cells slots Q r nL dd kI kZ n F A xs pc ls (.inl a :: st) D := by
  obtain ⟨hx, hb, hml, hown, hts, hnw, hK, hR1, hR2, hy, hn, hA, hX, hS, hR⟩ := hf
  intro lls H locs hL hv hM
  have ha : xin a := (List.forall_mem_cons.mp hv).1
  have hc := x_le ha xin0
  have hi := k lls H locs hL (List.forall_mem_cons.mp hv).2 hM
  refine lv_if_le hx hb hdg ht (fun q => ?_) (fun q => ?_)
  · rw [show xcb 5 a 0 = true from decide_eq_true (hc.mp q)] at hi
    exact hi
  · rw [show xcb 5 a 0 = false from decide_eq_false (fun z => q (hc.mpr z))] at hi
    exact hi

theorem xs_icmp_le (hf : xFix p R s m args c y nL n r dd kI kZ A xs lo adV) {a b : Int} {off : Int} {tgt : Nat} (ht : (pc : Int) + off = (tgt : Int)) (hdg : decode (xmb y) pc = .ok (.if_icmp .le off, 3)) (k : xW p l e R s m args below meth c cells slots Q r nL dd kI kZ n F A xs (bif xcb 5 a b then tgt else pc + 3) ls st D) : xW p l e R s m args below meth c cells slots Q r nL dd kI kZ n F A xs pc ls (.inl b :: .inl a :: st) D := by
  obtain ⟨hx, hb, hml, hown, hts, hnw, hK, hR1, hR2, hy, hn, hA, hX, hS, hR⟩ := hf
  intro lls H locs hL hv hM
  have hb9 : xin b := (List.forall_mem_cons.mp hv).1
  have ha : xin a := (List.forall_mem_cons.mp (List.forall_mem_cons.mp hv).2).1
  have hc := x_le ha hb9
  have hi := k lls H locs hL (List.forall_mem_cons.mp (List.forall_mem_cons.mp hv).2).2 hM
  refine lv_icmp_le hx hb hdg ht (fun q => ?_) (fun q => ?_)
  · rw [show xcb 5 a b = true from decide_eq_true (hc.mp q)] at hi
    exact hi
  · rw [show xcb 5 a b = false from decide_eq_false (fun z => q (hc.mpr z))] at hi
    exact hi

theorem xs_goto (hf : xFix p R s m args c y nL n r dd kI kZ A xs lo adV) {off : Int} {tgt : Nat} (ht : (pc : Int) + off = (tgt : Int)) (hdg : decode (xmb y) pc = .ok (.goto off, 3)) (k : xW p l e R s m args below meth c cells slots Q r nL dd kI kZ n F A xs tgt ls st D) : xW p l e R s m args below meth c cells slots Q r nL dd kI kZ n F A xs pc ls st D := by
  obtain ⟨hx, hb, hml, hown, hts, hnw, hK, hR1, hR2, hy, hn, hA, hX, hS, hR⟩ := hf
  intro lls H locs hL hv hM
  exact lv_goto hx hb hdg ht (k lls H locs hL hv hM)

theorem xs_i2l (hf : xFix p R s m args c y nL n r dd kI kZ A xs lo adV) {a : Int} (hdg : decode (xmb y) pc = .ok (.i2l, 1)) (k : xW p l e R s m args below meth c cells slots Q r nL dd kI kZ n F A xs (pc + 1) ls (.inr (.inl a) :: st) D) : xW p l e R s m args below meth c cells slots Q r nL dd kI kZ n F A xs pc ls (.inl a :: st) D := by
  obtain ⟨hx, hb, hml, hown, hts, hnw, hK, hR1, hR2, hy, hn, hA, hX, hS, hR⟩ := hf
  intro lls H locs hL hv hM
  have ha : xin a := (List.forall_mem_cons.mp hv).1
  refine lv_i2l (v := Int64.ofInt a) hx hb hdg ?_ ?_
  · apply Int64.toInt_inj.mp
    rw [Int32.toInt_toInt64, x32 ha, x64 (xin_L ha)]
  · exact k lls H locs hL (List.forall_mem_cons.mpr ⟨xin_L ha, (List.forall_mem_cons.mp hv).2⟩) hM

theorem xs_l2i (hf : xFix p R s m args c y nL n r dd kI kZ A xs lo adV) {a : Int} (hin : xin a) (hdg : decode (xmb y) pc = .ok (.l2i, 1)) (k : xW p l e R s m args below meth c cells slots Q r nL dd kI kZ n F A xs (pc + 1) ls (.inl a :: st) D) : xW p l e R s m args below meth c cells slots Q r nL dd kI kZ n F A xs pc ls (.inr (.inl a) :: st) D := by
  obtain ⟨hx, hb, hml, hown, hts, hnw, hK, hR1, hR2, hy, hn, hA, hX, hS, hR⟩ := hf
  intro lls H locs hL hv hM
  refine lv_l2i (v := Int32.ofInt a) hx hb hdg ?_ ?_
  · apply Int32.toInt_inj.mp
    rw [Int64.toInt_toInt32, x64 (xin_L hin), x32 hin]
    exact Int.bmod_eq_of_le (by have := hin.1; omega) (by have := hin.2; omega)
  · exact k lls H locs hL (List.forall_mem_cons.mpr ⟨hin, (List.forall_mem_cons.mp hv).2⟩) hM

theorem xs_lshl (hf : xFix p R s m args c y nL n r dd kI kZ A xs lo adV) {a b : Int} (hdg : decode (xmb y) pc = .ok (.lshl, 1)) (k : xW p l e R s m args below meth c cells slots Q r nL dd kI kZ n F A xs (pc + 1) ls (.inr (.inl (lshl a b)) :: st) D) : xW p l e R s m args below meth c cells slots Q r nL dd kI kZ n F A xs pc ls (.inl b :: .inr (.inl a) :: st) D := by
  obtain ⟨hx, hb, hml, hown, hts, hnw, hK, hR1, hR2, hy, hn, hA, hX, hS, hR⟩ := hf
  intro lls H locs hL hv hM
  refine lv_lshl hx hb hdg rfl ?_
  have := k lls H locs hL (List.forall_mem_cons.mpr ⟨xin64 _, (List.forall_mem_cons.mp (List.forall_mem_cons.mp hv).2).2⟩) hM
  simpa only [List.map_cons, xV, lshl, Int64.ofInt_toInt] using this

theorem xs_lor (hf : xFix p R s m args c y nL n r dd kI kZ A xs lo adV) {a b : Int} (hdg : decode (xmb y) pc = .ok (.lor, 1)) (k : xW p l e R s m args below meth c cells slots Q r nL dd kI kZ n F A xs (pc + 1) ls (.inr (.inl (lor a b)) :: st) D) : xW p l e R s m args below meth c cells slots Q r nL dd kI kZ n F A xs pc ls (.inr (.inl b) :: .inr (.inl a) :: st) D := by
  obtain ⟨hx, hb, hml, hown, hts, hnw, hK, hR1, hR2, hy, hn, hA, hX, hS, hR⟩ := hf
  intro lls H locs hL hv hM
  refine lv_lor hx hb hdg ?_
  have := k lls H locs hL (List.forall_mem_cons.mpr ⟨xin64 _, (List.forall_mem_cons.mp (List.forall_mem_cons.mp hv).2).2⟩) hM
  simpa only [List.map_cons, xV, lor, Int64.ofInt_toInt] using this

end XS
