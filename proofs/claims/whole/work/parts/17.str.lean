/-! String.length, String.charAt of the constants -/
def jn_coder : MethodName := ⟨"java/lang/String", "code\x72", "()B"⟩
def jw_coder : Jvm.Cond := .code jn_coder prog_15_method_152_code 1 (some .byte)
def jr_coder : Room := { frames := 0, cells := 0, slots := 0, locals := 0 }
def jn_length : MethodName := ⟨"java/lang/String", "length", "()I"⟩
def jw_length : Jvm.Cond := .code jn_length prog_15_method_54_code 1 (some .int)
def jr_length : Room := { frames := 1, cells := 0, slots := 0, locals := 20 }
def jn_isL : MethodName := ⟨"java/lang/String", "isLatin1", "()Z"⟩
def jw_isL : Jvm.Cond := .code jn_isL prog_15_method_154_code 1 (some .boolean)
def jr_isL : Room := { frames := 0, cells := 0, slots := 0, locals := 0 }
def jn_pre : MethodName := ⟨"jdk/internal/util/Preconditions", "checkIndex", "(IILjava/util/function/BiFunction;)I"⟩
def jw_pre : Jvm.Cond := .code jn_pre prog_20_method_11_code 3 (some .int)
def jr_pre : Room := { frames := 0, cells := 0, slots := 0, locals := 0 }
def jn_chk : MethodName := ⟨"java/lang/String", "checkIndex", "(II)V"⟩
def jw_chk : Jvm.Cond := .code jn_chk prog_15_method_155_code 2 none
def jr_chk : Room := { frames := 1, cells := 0, slots := 0, locals := 22 }
def jn_l1 : MethodName := ⟨"java/lang/StringLatin1", "charAt", "([BI)C"⟩
def jw_l1 : Jvm.Cond := .code jn_l1 prog_16_method_2_code 2 (some .char)
def jr_l1 : Room := { frames := 2, cells := 0, slots := 0, locals := 43 }
def jn_chr : MethodName := ⟨"java/lang/String", "charAt", "(I)C"⟩
def jw_chr : Jvm.Cond := .code jn_chr prog_15_method_56_code 2 (some .char)
def jr_chr : Room := { frames := 3, cells := 0, slots := 0, locals := 64 }
theorem jc_coder : jw_coder ∈ xw := xw_in (xin_t3 (List.mem_of_getElem? (i := 114) rfl)) rfl
theorem jc_length : jw_length ∈ xw := xw_in (xin_t3 (List.mem_of_getElem? (i := 110) rfl)) rfl
theorem jc_isL : jw_isL ∈ xw := xw_in (xin_t3 (List.mem_of_getElem? (i := 124) rfl)) rfl
theorem jc_pre : jw_pre ∈ xw := xw_in (xin_t3 (List.mem_of_getElem? (i := 135) rfl)) rfl
theorem jc_chk : jw_chk ∈ xw := xw_in (xin_t3 (List.mem_of_getElem? (i := 130) rfl)) rfl
theorem jc_l1 : jw_l1 ∈ xw := xw_in (xin_t3 (List.mem_of_getElem? (i := 127) rfl)) rfl
theorem jc_chr : jw_chr ∈ xw := xw_in (xin_t3 (List.mem_of_getElem? (i := 120) rfl)) rfl
def jl : List (Nat × Jvm.Cond) := [(167, Cond.initialized "java/lang/String"), (168, Cond.initialized "java/lang/StringLatin1"), (169, Cond.initialized "jdk/internal/util/Preconditions"), (740, Cond.instanceMethod jn_length), (741, Cond.selects "java/lang/String" jn_length jn_length), (743, Cond.methodLink "java/lang/String" 335 jn_coder), (744, Cond.instanceMethod jn_coder), (745, Cond.selects "java/lang/String" jn_coder jn_coder), (747, Cond.fieldLink "java/lang/String" 38 "java/lang/String" "COMPACT_STRINGS" "Z"), (750, Cond.instanceMethod jn_chr), (751, Cond.selects "java/lang/String" jn_chr jn_chr), (753, Cond.methodLink "java/lang/String" 492 jn_isL), (754, Cond.instanceMethod jn_isL), (755, Cond.selects "java/lang/String" jn_isL jn_isL), (757, Cond.methodLink "java/lang/String" 495 jn_l1), (758, Cond.static jn_l1), (760, Cond.methodLink "java/lang/StringLatin1" 9 jn_chk), (761, Cond.static jn_chk), (763, Cond.fieldLink "java/lang/String" 1053 "jdk/internal/util/Preconditions" "SIOOBE_FORMATTER" "Ljava/util/function/BiFunction;"), (765, Cond.methodLink "java/lang/String" 1059 jn_pre), (766, Cond.static jn_pre), (1875, Cond.fieldLink "java/lang/String" 9 "java/lang/String" "value" "[B"), (1876, Cond.fieldLink "java/lang/String" 15 "java/lang/String" "code\x72" "B")]
set_option maxRecDepth 100000 in
theorem jl_ps : xpass 0 lw_tbl jl = true := by decide +kernel
def xJ (adK adV : Nat → Nat) (U : State) : Prop := vk_S 7 [4, 6, 4, 5, 4, 4, 4] xbyt adK adV (fun q => U.heap.size ≤ q) U U.heap ∧ xlibE (fun q => U.heap.size ≤ q) U
theorem xJ_blind {adK adV : Nat → Nat} {av : List Value} : FrameBlind (va_Pc av (xJ adK adV)) := by
  intro a U g mk h
  obtain ⟨h1, h2, h3, h4⟩ := h
  exact ⟨h1, vk_S.moved (u := U) (U := U.calling g mk a) (Vm.Alike.refl U.vm) h2, va_Z.moved (u := U) (U := U.calling g mk a) (Vm.Alike.refl U.vm) h3, va_Zq.moved (u := U) (U := U.calling g mk a) (Vm.Alike.refl U.vm) h4⟩
def jQ (v0 : Option Value) : Array Value → State → Outcome → State → Prop := fun _ st oc t => oc = .returned v0 ∧ t.heap = st.heap
theorem jcall {p : Program} {l : Launch} {e : Env} {R : Room} {s : State} {m : MethodId} {args : Array Value} {below : List Frame} {meth : Method} {c : Code} {H : Heap} {locs : List Loc} {cells slots : Nat} {Q : State → Prop} {pc : Nat} {ls : Array Slot} {st0 rest : List Value} {v0 : Option Value} {a : Array Value}
    (hr : va_Run p l e R s m args below meth c H locs cells slots 0 0 (F0 m pc ls st0) rest (jQ v0 a) (fun _ => False)) (k : W p l e R s m args below meth c H locs cells slots Q (F0 m (pc + 3) ls (v0.toList ++ rest))) : W p l e R s m args below meth c H locs cells slots Q (F0 m pc ls st0) := by
  refine xcall hr (fun v st₀ t H1 L h0 hq ht hvm hL => ?_)
  obtain ⟨h1, h2⟩ := hq
  have hLn : L = [] := by
    cases L with
    | nil => rfl
    | cons q L => exact (hL q List.mem_cons_self).elim
  have hH : H1 = H := by rw [← ht, h2, h0]
  subst hLn
  subst hH
  have hvv : v = v0 := by cases h1; rfl
  subst hvv
  rw [List.append_nil]
  exact k
theorem jgood {w : Jvm.Cond} (h : w ∈ xw) : GoodIn xw (w :: xw) := fun x hx => by
  rcases List.mem_cons.mp hx with rfl | hx
  · exact xw_good _ h
  · exact xw_good _ hx
theorem jpre {s : State} {adK adV : Nat → Nat} {av : List Value} (hS : vk_S 7 [4, 6, 4, 5, 4, 4, 4] xbyt adK adV (fun q => s.heap.size ≤ q) s s.heap) (hZ : xlibE (fun q => s.heap.size ≤ q) s) : ∀ U : State, U.heap = s.heap → s.WarmedH U.vm → va_Pc av (xJ adK adV) av.toArray U := by
  intro U hU hW
  refine ⟨rfl, ?_, ?_, ?_⟩
  · rw [hU]; exact vk_S.moved hW.alike hS
  · rw [hU]; exact va_Z.moved hW.alike hZ.1
  · rw [hU]; exact va_Zq.moved hW.alike hZ.2

theorem jd_coder_0 : decode prog_15_method_152_code 0 = .ok (.getstatic 38, 3) := by decide +kernel
theorem jd_coder_3 : decode prog_15_method_152_code 3 = .ok (.ifCond .eq 10, 3) := by decide +kernel
theorem jd_coder_6 : decode prog_15_method_152_code 6 = .ok (.aload_n 0, 1) := by decide +kernel
theorem jd_coder_7 : decode prog_15_method_152_code 7 = .ok (.getfield 15, 3) := by decide +kernel
theorem jd_coder_10 : decode prog_15_method_152_code 10 = .ok (.goto 4, 3) := by decide +kernel
theorem jd_coder_14 : decode prog_15_method_152_code 14 = .ok (.ireturn, 1) := by decide +kernel
theorem jd_length_0 : decode prog_15_method_54_code 0 = .ok (.aload_n 0, 1) := by decide +kernel
theorem jd_length_1 : decode prog_15_method_54_code 1 = .ok (.getfield 9, 3) := by decide +kernel
theorem jd_length_4 : decode prog_15_method_54_code 4 = .ok (.arraylength, 1) := by decide +kernel
theorem jd_length_5 : decode prog_15_method_54_code 5 = .ok (.aload_n 0, 1) := by decide +kernel
theorem jd_length_6 : decode prog_15_method_54_code 6 = .ok (.invokevirtual 335, 3) := by decide +kernel
theorem jd_length_9 : decode prog_15_method_54_code 9 = .ok (.ishr, 1) := by decide +kernel
theorem jd_length_10 : decode prog_15_method_54_code 10 = .ok (.ireturn, 1) := by decide +kernel
theorem jd_isL_0 : decode prog_15_method_154_code 0 = .ok (.getstatic 38, 3) := by decide +kernel
theorem jd_isL_3 : decode prog_15_method_154_code 3 = .ok (.ifCond .eq 14, 3) := by decide +kernel
theorem jd_isL_6 : decode prog_15_method_154_code 6 = .ok (.aload_n 0, 1) := by decide +kernel
theorem jd_isL_7 : decode prog_15_method_154_code 7 = .ok (.getfield 15, 3) := by decide +kernel
theorem jd_isL_10 : decode prog_15_method_154_code 10 = .ok (.ifCond .ne 7, 3) := by decide +kernel
theorem jd_isL_13 : decode prog_15_method_154_code 13 = .ok (.iconst 1, 1) := by decide +kernel
theorem jd_isL_14 : decode prog_15_method_154_code 14 = .ok (.goto 4, 3) := by decide +kernel
theorem jd_isL_18 : decode prog_15_method_154_code 18 = .ok (.ireturn, 1) := by decide +kernel
theorem jd_pre_0 : decode prog_20_method_11_code 0 = .ok (.iload_n 0, 1) := by decide +kernel
theorem jd_pre_1 : decode prog_20_method_11_code 1 = .ok (.ifCond .lt 8, 3) := by decide +kernel
theorem jd_pre_4 : decode prog_20_method_11_code 4 = .ok (.iload_n 0, 1) := by decide +kernel
theorem jd_pre_5 : decode prog_20_method_11_code 5 = .ok (.iload_n 1, 1) := by decide +kernel
theorem jd_pre_6 : decode prog_20_method_11_code 6 = .ok (.if_icmp .lt 10, 3) := by decide +kernel
theorem jd_pre_16 : decode prog_20_method_11_code 16 = .ok (.iload_n 0, 1) := by decide +kernel
theorem jd_pre_17 : decode prog_20_method_11_code 17 = .ok (.ireturn, 1) := by decide +kernel
theorem jd_chk_0 : decode prog_15_method_155_code 0 = .ok (.iload_n 0, 1) := by decide +kernel
theorem jd_chk_1 : decode prog_15_method_155_code 1 = .ok (.iload_n 1, 1) := by decide +kernel
theorem jd_chk_2 : decode prog_15_method_155_code 2 = .ok (.getstatic 1053, 3) := by decide +kernel
theorem jd_chk_5 : decode prog_15_method_155_code 5 = .ok (.invokestatic 1059, 3) := by decide +kernel
theorem jd_chk_8 : decode prog_15_method_155_code 8 = .ok (.pop, 1) := by decide +kernel
theorem jd_chk_9 : decode prog_15_method_155_code 9 = .ok (.return_, 1) := by decide +kernel
theorem jd_l1_0 : decode prog_16_method_2_code 0 = .ok (.iload_n 1, 1) := by decide +kernel
theorem jd_l1_1 : decode prog_16_method_2_code 1 = .ok (.aload_n 0, 1) := by decide +kernel
theorem jd_l1_2 : decode prog_16_method_2_code 2 = .ok (.arraylength, 1) := by decide +kernel
theorem jd_l1_3 : decode prog_16_method_2_code 3 = .ok (.invokestatic 9, 3) := by decide +kernel
theorem jd_l1_6 : decode prog_16_method_2_code 6 = .ok (.aload_n 0, 1) := by decide +kernel
theorem jd_l1_7 : decode prog_16_method_2_code 7 = .ok (.iload_n 1, 1) := by decide +kernel
theorem jd_l1_8 : decode prog_16_method_2_code 8 = .ok (.baload, 1) := by decide +kernel
theorem jd_l1_9 : decode prog_16_method_2_code 9 = .ok (.sipush 255, 3) := by decide +kernel
theorem jd_l1_12 : decode prog_16_method_2_code 12 = .ok (.iand, 1) := by decide +kernel
theorem jd_l1_13 : decode prog_16_method_2_code 13 = .ok (.i2c, 1) := by decide +kernel
theorem jd_l1_14 : decode prog_16_method_2_code 14 = .ok (.ireturn, 1) := by decide +kernel
theorem jd_chr_0 : decode prog_15_method_56_code 0 = .ok (.aload_n 0, 1) := by decide +kernel
theorem jd_chr_1 : decode prog_15_method_56_code 1 = .ok (.invokevirtual 492, 3) := by decide +kernel
theorem jd_chr_4 : decode prog_15_method_56_code 4 = .ok (.ifCond .eq 12, 3) := by decide +kernel
theorem jd_chr_7 : decode prog_15_method_56_code 7 = .ok (.aload_n 0, 1) := by decide +kernel
theorem jd_chr_8 : decode prog_15_method_56_code 8 = .ok (.getfield 9, 3) := by decide +kernel
theorem jd_chr_11 : decode prog_15_method_56_code 11 = .ok (.iload_n 1, 1) := by decide +kernel
theorem jd_chr_12 : decode prog_15_method_56_code 12 = .ok (.invokestatic 495, 3) := by decide +kernel
theorem jd_chr_15 : decode prog_15_method_56_code 15 = .ok (.ireturn, 1) := by decide +kernel
theorem j_coder (l : Launch) {adK adV : Nat → Nat} {i : Nat} (hi : i < 7) : Met l jn_coder (jw_coder :: xw) jr_coder (va_Pc [.ref (adK i)] (xJ adK adV)) (jQ (some (.int 0))) 0 0 (fun _ => False) := by
  refine Met.ofW (cc := prog_15_method_152_code) (maxL := 1) (ret := (some .byte)) (by decide) rfl ?_
  intro p e s m args below meth c s₁ B hml hv
  obtain ⟨rfl, hS, hZ⟩ := hv
  have hx := B.exec
  have hb := B.bytes
  have hr := B.returns
  have hts : ∀ w ∈ xw, w.before _ s = true := fun w hw => atoms_spec (ws := jw_coder :: xw) B.pre w (List.mem_cons_of_mem _ hw)
  have hown : s.vm.findClass "java/lang/String" = some m.cls := findClass_of_methodNamed B.named
  have hlocks := B.notSynchronized
  have hVS : va_S (fun q => s.heap.size ≤ q) s.heap s.heap [] := va_S.rf
  have hl := lv_entry ([.ref (adK i)]) (n := 1) (Nat.le_of_ble_eq_true rfl)
  rw [lg_entry_eq]
  generalize (lg_sl ([.ref (adK i)]) ++ List.replicate (1 - (lg_sl ([.ref (adK i)])).length) Slot.unset).toArray = ls at hl ⊢
  refine va_gets hx hb hZ.1 hVS hown (hts _ (xw_in (xpass_mem _ _ _ jl_ps (747, Cond.fieldLink "java/lang/String" 38 "java/lang/String" "COMPACT_STRINGS" "Z") (by simp [jl])) rfl)) (fun _ h => h) jd_coder_0 ?_
  refine lv_if_eq (tgt := 13) hx hb jd_coder_3 (by decide) (fun q => absurd q (by decide)) (fun _ => ?_)
  refine lv_aload_n hx hb jd_coder_6 rfl (lv_at hl 0 rfl) ?_
  refine vk_getf hx hb (hS.1 i hi).2.1 hVS hown (hts _ (xw_in (xpass_mem _ _ _ jl_ps (1876, Cond.fieldLink "java/lang/String" 15 "java/lang/String" "code\x72" "B") (by simp [jl])) rfl)) (fun _ h => h) jd_coder_7 ?_
  refine lv_goto (tgt := 14) hx hb jd_coder_10 (by decide) ?_
  exact W.zret (v := 0) (ty := .byte) hx hb hr rfl (fun t ht hW => ⟨rfl, ht⟩) (fun q h => by cases h) jd_coder_14

theorem j_isL (l : Launch) {adK adV : Nat → Nat} {i : Nat} (hi : i < 7) : Met l jn_isL (jw_isL :: xw) jr_isL (va_Pc [.ref (adK i)] (xJ adK adV)) (jQ (some (.int 1))) 0 0 (fun _ => False) := by
  refine Met.ofW (cc := prog_15_method_154_code) (maxL := 1) (ret := (some .boolean)) (by decide) rfl ?_
  intro p e s m args below meth c s₁ B hml hv
  obtain ⟨rfl, hS, hZ⟩ := hv
  have hx := B.exec
  have hb := B.bytes
  have hr := B.returns
  have hts : ∀ w ∈ xw, w.before _ s = true := fun w hw => atoms_spec (ws := jw_isL :: xw) B.pre w (List.mem_cons_of_mem _ hw)
  have hown : s.vm.findClass "java/lang/String" = some m.cls := findClass_of_methodNamed B.named
  have hlocks := B.notSynchronized
  have hVS : va_S (fun q => s.heap.size ≤ q) s.heap s.heap [] := va_S.rf
  have hl := lv_entry ([.ref (adK i)]) (n := 1) (Nat.le_of_ble_eq_true rfl)
  rw [lg_entry_eq]
  generalize (lg_sl ([.ref (adK i)]) ++ List.replicate (1 - (lg_sl ([.ref (adK i)])).length) Slot.unset).toArray = ls at hl ⊢
  refine va_gets hx hb hZ.1 hVS hown (hts _ (xw_in (xpass_mem _ _ _ jl_ps (747, Cond.fieldLink "java/lang/String" 38 "java/lang/String" "COMPACT_STRINGS" "Z") (by simp [jl])) rfl)) (fun _ h => h) jd_isL_0 ?_
  refine lv_if_eq (tgt := 17) hx hb jd_isL_3 (by decide) (fun q => absurd q (by decide)) (fun _ => ?_)
  refine lv_aload_n hx hb jd_isL_6 rfl (lv_at hl 0 rfl) ?_
  refine vk_getf hx hb (hS.1 i hi).2.1 hVS hown (hts _ (xw_in (xpass_mem _ _ _ jl_ps (1876, Cond.fieldLink "java/lang/String" 15 "java/lang/String" "code\x72" "B") (by simp [jl])) rfl)) (fun _ h => h) jd_isL_7 ?_
  refine lv_if_ne (tgt := 17) hx hb jd_isL_10 (by decide) (fun q => absurd rfl q) (fun _ => ?_)
  refine lv_iconst (v := 1) hx hb jd_isL_13 (by decide) ?_
  refine lv_goto (tgt := 18) hx hb jd_isL_14 (by decide) ?_
  exact W.zret (v := 1) (ty := .boolean) hx hb hr rfl (fun t ht hW => ⟨rfl, ht⟩) (fun q h => by cases h) jd_isL_18

theorem j_pre (l : Launch) {adK adV : Nat → Nat} {x y : Int32} {v : Value} (h0 : ¬ x < 0) (h1 : x < y) (hv1 : v = .null ∨ ∃ t, v = .ref t) : Met l jn_pre (jw_pre :: xw) jr_pre (va_Pc [.int x, .int y, v] (xJ adK adV)) (jQ (some (.int x))) 0 0 (fun _ => False) := by
  refine Met.ofW (cc := prog_20_method_11_code) (maxL := 3) (ret := (some .int)) (by decide) rfl ?_
  intro p e s m args below meth c s₁ B hml hv
  obtain ⟨rfl, hS, hZ⟩ := hv
  have hx := B.exec
  have hb := B.bytes
  have hr := B.returns
  have hlocks := B.notSynchronized
  have hln : (lg_sl [.int x, .int y, v]).length ≤ 3 := by rcases hv1 with rfl | ⟨t, rfl⟩ <;> exact Nat.le_refl 3
  have hl := lv_entry ([.int x, .int y, v]) (n := 3) hln
  rw [lg_entry_eq]
  generalize (lg_sl ([.int x, .int y, v]) ++ List.replicate (3 - (lg_sl ([.int x, .int y, v])).length) Slot.unset).toArray = ls at hl ⊢
  refine lv_iload_n hx hb jd_pre_0 rfl (lv_at hl 0 rfl) ?_
  refine lv_if_lt (tgt := 9) hx hb jd_pre_1 (by decide) (fun q => absurd q h0) (fun _ => ?_)
  refine lv_iload_n hx hb jd_pre_4 rfl (lv_at hl 0 rfl) ?_
  refine lv_iload_n hx hb jd_pre_5 rfl (lv_at hl 1 rfl) ?_
  refine lv_icmp_lt (tgt := 16) hx hb jd_pre_6 (by decide) (fun _ => ?_) (fun q => absurd h1 q)
  refine lv_iload_n hx hb jd_pre_16 rfl (lv_at hl 0 rfl) ?_
  exact W.iret (v := x) hx hb hr (fun t ht hW => ⟨rfl, ht⟩) (fun q h => by cases h) jd_pre_17

theorem j_chk (l : Launch) {adK adV : Nat → Nat} {x y : Int32} (h0 : ¬ x < 0) (h1 : x < y) : Met l jn_chk (jw_chk :: xw) jr_chk (va_Pc [.int x, .int y] (xJ adK adV)) (jQ none) 0 0 (fun _ => False) := by
  refine Met.ofW (cc := prog_15_method_155_code) (maxL := 2) (ret := none) (by decide) rfl ?_
  intro p e s m args below meth c s₁ B hml hv
  obtain ⟨rfl, hS, hZ⟩ := hv
  have hx := B.exec
  have hb := B.bytes
  have hr := B.returns
  have hts : ∀ w ∈ xw, w.before _ s = true := fun w hw => atoms_spec (ws := jw_chk :: xw) B.pre w (List.mem_cons_of_mem _ hw)
  have hown : s.vm.findClass "java/lang/String" = some m.cls := findClass_of_methodNamed B.named
  have hlocks := B.notSynchronized
  have hVS : va_S (fun q => s.heap.size ≤ q) s.heap s.heap [] := va_S.rf
  have hl := lv_entry ([.int x, .int y]) (n := 2) (Nat.le_of_ble_eq_true rfl)
  rw [lg_entry_eq]
  generalize (lg_sl ([.int x, .int y]) ++ List.replicate (2 - (lg_sl ([.int x, .int y])).length) Slot.unset).toArray = ls at hl ⊢
  refine lv_iload_n hx hb jd_chk_0 rfl (lv_at hl 0 rfl) ?_
  refine lv_iload_n hx hb jd_chk_1 rfl (lv_at hl 1 rfl) ?_
  have go : ∀ v : Value, (v = .null ∨ ∃ t, v = .ref t) → va_Z "jdk/internal/util/Preconditions" "SIOOBE_FORMATTER" "Ljava/util/function/BiFunction;" v (fun q => s.heap.size ≤ q) s s.heap → W p l e (headSpec (jw_chk :: xw) jr_chk).room s m [.int x, .int y].toArray below meth c s.heap [] 0 0 (MQ below (jQ none) [.int x, .int y].toArray s 0 0 (fun _ => False)) (F0 m 2 ls [.int y, .int x]) := by
    intro v hv1 hz
    refine va_gets hx hb hz hVS hown (hts _ (xw_in (xpass_mem _ _ _ jl_ps (763, Cond.fieldLink "java/lang/String" 1053 "jdk/internal/util/Preconditions" "SIOOBE_FORMATTER" "Ljava/util/function/BiFunction;") (by simp [jl])) rfl)) (fun _ h => h) jd_chk_2 ?_
    refine jcall (va_runS (As := [.int x, .int y, v]) (rest := []) ⟨hx, hb, hml, hown, hts⟩ (j_pre l (adK := adK) (adV := adV) h0 h1 hv1) ⟨callB_of 3 hts (jgood jc_pre) rfl rfl rfl (hts _ (xw_in (xpass_mem _ _ _ jl_ps (169, Cond.initialized "jdk/internal/util/Preconditions") (by simp [jl])) rfl)) (hts _ (xw_in (xpass_mem _ _ _ jl_ps (765, Cond.methodLink "java/lang/String" 1059 jn_pre) (by simp [jl])) rfl)) (by decide) ⟨Nat.le_of_ble_eq_true rfl, Nat.le_of_ble_eq_true rfl⟩, hts _ (xw_in (xpass_mem _ _ _ jl_ps (766, Cond.static jn_pre) (by simp [jl])) rfl)⟩ ⟨xJ_blind, jpre hS hZ⟩ rfl rfl hl.1 rfl (lv_room (Nat.le_of_ble_eq_true rfl)) jd_chk_5 ⟨Nat.zero_le _, Nat.zero_le _⟩) ?_
    refine lv_pop hx hb jd_chk_8 rfl ?_
    exact W.vret hx hb hr (fun t ht hW => ⟨rfl, ht⟩) (fun q h => by cases h) jd_chk_9
  rcases hZ.2 with hz | ⟨t, hz⟩
  · exact go _ (Or.inl rfl) hz
  · exact go _ (Or.inr ⟨t, rfl⟩) hz

theorem xchar_all : (List.range 7).all (fun i => (List.range ([4, 6, 4, 5, 4, 4, 4].getD i 0)).all (fun k => decide (((((xbyt.getD i []).getD k 0) &&& 255).toUInt32 % 65536).toInt32 = Int32.ofInt ((xstr i).getD k 0)) && decide (narrow .char (.int ((((xbyt.getD i []).getD k 0) &&& 255).toUInt32 % 65536).toInt32) = .int ((((xbyt.getD i []).getD k 0) &&& 255).toUInt32 % 65536).toInt32) && xib ((xstr i).getD k 0)) && decide ((xstr i).length = [4, 6, 4, 5, 4, 4, 4].getD i 0) && Nat.blt (xstr i).length 100) = true := by decide +kernel
theorem xchar_at {i k : Nat} (hi : i < 7) (hk : k < [4, 6, 4, 5, 4, 4, 4].getD i 0) : ((((xbyt.getD i []).getD k 0) &&& 255).toUInt32 % 65536).toInt32 = Int32.ofInt ((xstr i).getD k 0) ∧ narrow .char (.int ((((xbyt.getD i []).getD k 0) &&& 255).toUInt32 % 65536).toInt32) = .int ((((xbyt.getD i []).getD k 0) &&& 255).toUInt32 % 65536).toInt32 ∧ xin ((xstr i).getD k 0) := by
  have h := List.all_eq_true.mp xchar_all i (List.mem_range.mpr hi)
  simp only [Bool.and_eq_true] at h
  have h2 := List.all_eq_true.mp h.1.1 k (List.mem_range.mpr hk)
  simp only [Bool.and_eq_true, decide_eq_true_eq] at h2
  exact ⟨h2.1.1, h2.1.2, xib_iff.mp h2.2⟩
theorem xstr_len {i : Nat} (hi : i < 7) : (xstr i).length = [4, 6, 4, 5, 4, 4, 4].getD i 0 ∧ (xstr i).length < 100 := by
  have h := List.all_eq_true.mp xchar_all i (List.mem_range.mpr hi)
  simp only [Bool.and_eq_true, decide_eq_true_eq, Nat.blt_eq] at h
  exact ⟨h.1.2, h.2⟩
theorem xchar_nar {i : Nat} {x : Int32} (hi : i < 7) (h2 : x.toNatClampNeg < [4, 6, 4, 5, 4, 4, 4].getD i 0) : narrow .char (.int ((((xbyt.getD i []).getD x.toNatClampNeg 0) &&& 255).toUInt32 % 65536).toInt32) = .int ((((xbyt.getD i []).getD x.toNatClampNeg 0) &&& 255).toUInt32 % 65536).toInt32 := (xchar_at hi h2).2.1

theorem j_l1 (l : Launch) {adK adV : Nat → Nat} {i : Nat} (hi : i < 7) {x : Int32} (h0 : ¬ x < 0) (h1 : x < Int32.ofNat ([4, 6, 4, 5, 4, 4, 4].getD i 0)) (h2 : x.toNatClampNeg < [4, 6, 4, 5, 4, 4, 4].getD i 0) : Met l jn_l1 (jw_l1 :: xw) jr_l1 (va_Pc [.ref (adV i), .int x] (xJ adK adV)) (jQ (some (.int ((((xbyt.getD i []).getD x.toNatClampNeg 0) &&& 255).toUInt32 % 65536).toInt32))) 0 0 (fun _ => False) := by
  refine Met.ofW (cc := prog_16_method_2_code) (maxL := 2) (ret := (some .char)) (by decide) rfl ?_
  intro p e s m args below meth c s₁ B hml hv
  obtain ⟨rfl, hS, hZ⟩ := hv
  have hx := B.exec
  have hb := B.bytes
  have hr := B.returns
  have hts : ∀ w ∈ xw, w.before _ s = true := fun w hw => atoms_spec (ws := jw_l1 :: xw) B.pre w (List.mem_cons_of_mem _ hw)
  have hown : s.vm.findClass "java/lang/StringLatin1" = some m.cls := findClass_of_methodNamed B.named
  have hlocks := B.notSynchronized
  have hVS : va_S (fun q => s.heap.size ≤ q) s.heap s.heap [] := va_S.rf
  have hl := lv_entry ([.ref (adV i), .int x]) (n := 2) (Nat.le_of_ble_eq_true rfl)
  rw [lg_entry_eq]
  generalize (lg_sl ([.ref (adV i), .int x]) ++ List.replicate (2 - (lg_sl ([.ref (adV i), .int x])).length) Slot.unset).toArray = ls at hl ⊢
  have hT := (hS.1 i hi).2.2.2
  refine lv_iload_n hx hb jd_l1_0 rfl (lv_at hl 1 rfl) ?_
  refine lv_aload_n hx hb jd_l1_1 rfl (lv_at hl 0 rfl) ?_
  have hlen : ∀ {kk : W p l e (headSpec (jw_l1 :: xw) jr_l1).room s m [.ref (adV i), .int x].toArray below meth c s.heap [] 0 0 (MQ below (jQ (some (.int ((((xbyt.getD i []).getD x.toNatClampNeg 0) &&& 255).toUInt32 % 65536).toInt32))) [.ref (adV i), .int x].toArray s 0 0 (fun _ => False)) (F0 m (2 + 1) ls (.int (Int32.ofNat ([4, 6, 4, 5, 4, 4, 4].getD i 0)) :: [.int x]))}, W p l e (headSpec (jw_l1 :: xw) jr_l1).room s m [.ref (adV i), .int x].toArray below meth c s.heap [] 0 0 (MQ below (jQ (some (.int ((((xbyt.getD i []).getD x.toNatClampNeg 0) &&& 255).toUInt32 % 65536).toInt32))) [.ref (adV i), .int x].toArray s 0 0 (fun _ => False)) (F0 m 2 ls (.ref (adV i) :: [.int x])) := by
    intro kk
    obtain ⟨cell, a1, a2, a3, a4, a5, a6, a7⟩ := hT
    exact W.alen hx hb a1 a2 a5 rfl rfl jd_l1_2 kk
  refine hlen (kk := ?_)
  refine jcall (va_runS (As := [.int x, .int (Int32.ofNat ([4, 6, 4, 5, 4, 4, 4].getD i 0))]) (rest := []) ⟨hx, hb, hml, hown, hts⟩ (j_chk l (adK := adK) (adV := adV) h0 h1) ⟨callB_of 2 hts (jgood jc_chk) rfl rfl rfl (hts _ (xw_in (xpass_mem _ _ _ jl_ps (167, Cond.initialized "java/lang/String") (by simp [jl])) rfl)) (hts _ (xw_in (xpass_mem _ _ _ jl_ps (760, Cond.methodLink "java/lang/StringLatin1" 9 jn_chk) (by simp [jl])) rfl)) (by decide) ⟨Nat.le_of_ble_eq_true rfl, Nat.le_of_ble_eq_true rfl⟩, hts _ (xw_in (xpass_mem _ _ _ jl_ps (761, Cond.static jn_chk) (by simp [jl])) rfl)⟩ ⟨xJ_blind, jpre hS hZ⟩ rfl rfl hl.1 rfl (lv_room (Nat.le_of_ble_eq_true rfl)) jd_l1_3 ⟨Nat.zero_le _, Nat.zero_le _⟩) ?_
  refine lv_aload_n hx hb jd_l1_6 rfl (lv_at hl 0 rfl) ?_
  refine lv_iload_n hx hb jd_l1_7 rfl (lv_at hl 1 rfl) ?_
  refine va_tb hx hb hT hVS (fun q => q.elim h0 (fun z => Nat.not_le.mpr h2 z)) rfl jd_l1_8 ?_
  refine lv_sipush (v := 255) hx hb jd_l1_9 (by decide) ?_
  refine lv_iand hx hb jd_l1_12 ?_
  refine lv_i2c hx hb jd_l1_13 rfl ?_
  refine W.zret (ty := .char) hx hb hr ?_ (fun t ht hW => ⟨rfl, ht⟩) (fun q h => by cases h) jd_l1_14
  exact xchar_nar hi h2

theorem j_chr (l : Launch) {adK adV : Nat → Nat} {i : Nat} (hi : i < 7) {x : Int32} (h0 : ¬ x < 0) (h1 : x < Int32.ofNat ([4, 6, 4, 5, 4, 4, 4].getD i 0)) (h2 : x.toNatClampNeg < [4, 6, 4, 5, 4, 4, 4].getD i 0) : Met l jn_chr (jw_chr :: xw) jr_chr (va_Pc [.ref (adK i), .int x] (xJ adK adV)) (jQ (some (.int ((((xbyt.getD i []).getD x.toNatClampNeg 0) &&& 255).toUInt32 % 65536).toInt32))) 0 0 (fun _ => False) := by
  refine Met.ofW (cc := prog_15_method_56_code) (maxL := 2) (ret := (some .char)) (by decide) rfl ?_
  intro p e s m args below meth c s₁ B hml hv
  obtain ⟨rfl, hS, hZ⟩ := hv
  have hx := B.exec
  have hb := B.bytes
  have hr := B.returns
  have hts : ∀ w ∈ xw, w.before _ s = true := fun w hw => atoms_spec (ws := jw_chr :: xw) B.pre w (List.mem_cons_of_mem _ hw)
  have hown : s.vm.findClass "java/lang/String" = some m.cls := findClass_of_methodNamed B.named
  have hlocks := B.notSynchronized
  have hVS : va_S (fun q => s.heap.size ≤ q) s.heap s.heap [] := va_S.rf
  have hl := lv_entry ([.ref (adK i), .int x]) (n := 2) (Nat.le_of_ble_eq_true rfl)
  rw [lg_entry_eq]
  generalize (lg_sl ([.ref (adK i), .int x]) ++ List.replicate (2 - (lg_sl ([.ref (adK i), .int x])).length) Slot.unset).toArray = ls at hl ⊢
  refine lv_aload_n hx hb jd_chr_0 rfl (lv_at hl 0 rfl) ?_
  refine jcall (va_runV (C := "java/lang/String") (b := adK i) (As := []) (rest := []) ⟨hx, hb, hml, hown, hts⟩ (j_isL l (adK := adK) (adV := adV) hi) ⟨callB_of 0 hts (jgood jc_isL) rfl rfl rfl (hts _ (xw_in (xpass_mem _ _ _ jl_ps (167, Cond.initialized "java/lang/String") (by simp [jl])) rfl)) (hts _ (xw_in (xpass_mem _ _ _ jl_ps (753, Cond.methodLink "java/lang/String" 492 jn_isL) (by simp [jl])) rfl)) (by decide) ⟨Nat.le_of_ble_eq_true rfl, Nat.le_of_ble_eq_true rfl⟩, hts _ (xw_in (xpass_mem _ _ _ jl_ps (754, Cond.instanceMethod jn_isL) (by simp [jl])) rfl), hts _ (xw_in (xpass_mem _ _ _ jl_ps (755, Cond.selects "java/lang/String" jn_isL jn_isL) (by simp [jl])) rfl)⟩ ⟨xJ_blind, vk_recv hS hi hVS, jpre hS hZ⟩ rfl rfl hl.1 rfl (lv_room (Nat.le_of_ble_eq_true rfl)) jd_chr_1 ⟨Nat.zero_le _, Nat.zero_le _⟩) ?_
  refine lv_if_eq (tgt := 16) hx hb jd_chr_4 (by decide) (fun q => absurd q (by decide)) (fun _ => ?_)
  refine lv_aload_n hx hb jd_chr_7 rfl (lv_at hl 0 rfl) ?_
  refine vk_getf hx hb (hS.1 i hi).2.2.1 hVS hown (hts _ (xw_in (xpass_mem _ _ _ jl_ps (1875, Cond.fieldLink "java/lang/String" 9 "java/lang/String" "value" "[B") (by simp [jl])) rfl)) (fun _ h => h) jd_chr_8 ?_
  refine lv_iload_n hx hb jd_chr_11 rfl (lv_at hl 1 rfl) ?_
  refine jcall (va_runS (As := [.ref (adV i), .int x]) (rest := []) ⟨hx, hb, hml, hown, hts⟩ (j_l1 l (adK := adK) (adV := adV) hi h0 h1 h2) ⟨callB_of 2 hts (jgood jc_l1) rfl rfl rfl (hts _ (xw_in (xpass_mem _ _ _ jl_ps (168, Cond.initialized "java/lang/StringLatin1") (by simp [jl])) rfl)) (hts _ (xw_in (xpass_mem _ _ _ jl_ps (757, Cond.methodLink "java/lang/String" 495 jn_l1) (by simp [jl])) rfl)) (by decide) ⟨Nat.le_of_ble_eq_true rfl, Nat.le_of_ble_eq_true rfl⟩, hts _ (xw_in (xpass_mem _ _ _ jl_ps (758, Cond.static jn_l1) (by simp [jl])) rfl)⟩ ⟨xJ_blind, jpre hS hZ⟩ rfl rfl hl.1 rfl (lv_room (Nat.le_of_ble_eq_true rfl)) jd_chr_12 ⟨Nat.zero_le _, Nat.zero_le _⟩) ?_
  exact W.zret (ty := .char) hx hb hr (xchar_nar hi h2) (fun t ht hW => ⟨rfl, ht⟩) (fun q h => by cases h) jd_chr_15

theorem j_length (l : Launch) {adK adV : Nat → Nat} {i : Nat} (hi : i < 7) : Met l jn_length (jw_length :: xw) jr_length (va_Pc [.ref (adK i)] (xJ adK adV)) (jQ (some (.int (Int32.ofNat ([4, 6, 4, 5, 4, 4, 4].getD i 0))))) 0 0 (fun _ => False) := by
  refine Met.ofW (cc := prog_15_method_54_code) (maxL := 1) (ret := (some .int)) (by decide) rfl ?_
  intro p e s m args below meth c s₁ B hml hv
  obtain ⟨rfl, hS, hZ⟩ := hv
  have hx := B.exec
  have hb := B.bytes
  have hr := B.returns
  have hts : ∀ w ∈ xw, w.before _ s = true := fun w hw => atoms_spec (ws := jw_length :: xw) B.pre w (List.mem_cons_of_mem _ hw)
  have hown : s.vm.findClass "java/lang/String" = some m.cls := findClass_of_methodNamed B.named
  have hlocks := B.notSynchronized
  have hVS : va_S (fun q => s.heap.size ≤ q) s.heap s.heap [] := va_S.rf
  have hl := lv_entry ([.ref (adK i)]) (n := 1) (Nat.le_of_ble_eq_true rfl)
  rw [lg_entry_eq]
  generalize (lg_sl ([.ref (adK i)]) ++ List.replicate (1 - (lg_sl ([.ref (adK i)])).length) Slot.unset).toArray = ls at hl ⊢
  have hT := (hS.1 i hi).2.2.2
  refine lv_aload_n hx hb jd_length_0 rfl (lv_at hl 0 rfl) ?_
  refine vk_getf hx hb (hS.1 i hi).2.2.1 hVS hown (hts _ (xw_in (xpass_mem _ _ _ jl_ps (1875, Cond.fieldLink "java/lang/String" 9 "java/lang/String" "value" "[B") (by simp [jl])) rfl)) (fun _ h => h) jd_length_1 ?_
  have hlen : ∀ {kk : W p l e (headSpec (jw_length :: xw) jr_length).room s m [.ref (adK i)].toArray below meth c s.heap [] 0 0 (MQ below (jQ (some (.int (Int32.ofNat ([4, 6, 4, 5, 4, 4, 4].getD i 0))))) [.ref (adK i)].toArray s 0 0 (fun _ => False)) (F0 m (4 + 1) ls (.int (Int32.ofNat ([4, 6, 4, 5, 4, 4, 4].getD i 0)) :: []))}, W p l e (headSpec (jw_length :: xw) jr_length).room s m [.ref (adK i)].toArray below meth c s.heap [] 0 0 (MQ below (jQ (some (.int (Int32.ofNat ([4, 6, 4, 5, 4, 4, 4].getD i 0))))) [.ref (adK i)].toArray s 0 0 (fun _ => False)) (F0 m 4 ls (.ref (adV i) :: [])) := by
    intro kk
    obtain ⟨cell, a1, a2, a3, a4, a5, a6, a7⟩ := hT
    exact W.alen hx hb a1 a2 a5 rfl rfl jd_length_4 kk
  refine hlen (kk := ?_)
  refine lv_aload_n hx hb jd_length_5 rfl (lv_at hl 0 rfl) ?_
  refine jcall (va_runV (C := "java/lang/String") (b := adK i) (As := []) (rest := [.int (Int32.ofNat ([4, 6, 4, 5, 4, 4, 4].getD i 0))]) ⟨hx, hb, hml, hown, hts⟩ (j_coder l (adK := adK) (adV := adV) hi) ⟨callB_of 0 hts (jgood jc_coder) rfl rfl rfl (hts _ (xw_in (xpass_mem _ _ _ jl_ps (167, Cond.initialized "java/lang/String") (by simp [jl])) rfl)) (hts _ (xw_in (xpass_mem _ _ _ jl_ps (743, Cond.methodLink "java/lang/String" 335 jn_coder) (by simp [jl])) rfl)) (by decide) ⟨Nat.le_of_ble_eq_true rfl, Nat.le_of_ble_eq_true rfl⟩, hts _ (xw_in (xpass_mem _ _ _ jl_ps (744, Cond.instanceMethod jn_coder) (by simp [jl])) rfl), hts _ (xw_in (xpass_mem _ _ _ jl_ps (745, Cond.selects "java/lang/String" jn_coder jn_coder) (by simp [jl])) rfl)⟩ ⟨xJ_blind, vk_recv hS hi hVS, jpre hS hZ⟩ rfl rfl hl.1 rfl (lv_room (Nat.le_of_ble_eq_true rfl)) jd_length_6 ⟨Nat.zero_le _, Nat.zero_le _⟩) ?_
  refine lv_ishr hx hb jd_length_9 ?_
  have e9 : (Int32.ofNat ([4, 6, 4, 5, 4, 4, 4].getD i 0)) >>> ((0 : Int32) &&& 31) = Int32.ofNat ([4, 6, 4, 5, 4, 4, 4].getD i 0) := by
    rcases (show i = 0 ∨ i = 1 ∨ i = 2 ∨ i = 3 ∨ i = 4 ∨ i = 5 ∨ i = 6 by omega) with rfl | rfl | rfl | rfl | rfl | rfl | rfl <;> rfl
  rw [e9]
  exact W.iret hx hb hr (fun t ht hW => ⟨rfl, ht⟩) (fun q h => by cases h) jd_length_10

section XZ
variable {p : Program} {l : Launch} {e : Env} {R : Room} {s : State} {m : MethodId} {args : Array Value} {below : List Frame} {meth : Method} {c : Code} {cells slots : Nat} {Q : State → Prop}
variable {r : Nat → Nat} {nL : Nat} {dd : va_G} {kI kZ : ClassId} {n : Nat} {F : Nat → Nat → Bool} {A : Nat → Prop} {xs : Int → Int} {lo : Option Nat} {adV : Nat → Nat}
variable {y pc : Nat} {ls : xls} {st : xst} {D : xD}

theorem xs_strlen (hf : xFix p R s m args c y nL n r dd kI kZ A xs lo adV) {idx pos a : Nat} (he : ((xsg y).2.2.2.1, idx, 38, pos) ∈ xll) (hdg : decode (xmb y) pc = .ok (.invokevirtual idx, 3)) (h1 : 1000 ≤ a) (h2 : a < 1007) (hc : xcat st ≤ 8) (hr1 : 5 ≤ (xroom y).1) (hr2 : 125 ≤ (xroom y).2) (hcs : cells ≤ R.cells ∧ slots ≤ R.slots) (k : xW p l e R s m args below meth c cells slots Q r nL dd kI kZ n F A xs (pc + 3) ls (.inl ((xstr (a - 1000)).length : Int) :: st) D) : xW p l e R s m args below meth c cells slots Q r nL dd kI kZ n F A xs pc ls (.inr (.inr (some a)) :: st) D := by
  have hf0 := hf
  obtain ⟨hx, hb, hml, hown, hts, hnw, hK, hR1, hR2, hy, hn, hA, hX, hS, hR⟩ := hf
  intro lls H locs hL hv hM
  have hi : a - 1000 < 7 := by omega
  have hsub : ∀ q, H.size ≤ q → A q := fun q hq => hA q (Nat.le_trans hM.2.2.1.1 hq)
  have hpre : ∀ {av : List Value} (U : State), U.heap = H → s.WarmedH U.vm → va_Pc av (xJ (fun j => r (1000 + j)) adV) av.toArray U := by
    intro av U hU hW
    refine ⟨rfl, ?_, ?_, ?_⟩
    · rw [hU]; exact ((vk_S.moved hW.alike hS).kept hM.2.2.1.2.1).narrow hsub
    · rw [hU]; exact ((va_Z.moved hW.alike hR.2.1).kept hM.2.2.1.2.1).narrow hsub
    · rw [hU]; exact ((va_Zq.moved hW.alike hR.2.2).kept hM.2.2.1.2.1).narrow hsub
  have hra : r a = r (1000 + (a - 1000)) := by rw [show 1000 + (a - 1000) = a by omega]
  have hrec : ∃ cell : Cell, H[r a]? = some cell ∧ cell.vm.isStatics = false ∧ s.vm.findClass "java/lang/String" = some cell.cls := by
    rw [hra]
    exact vk_recv (adK := fun j => r (1000 + j)) hS hi hM.2.2.1
  obtain ⟨hsl, hs100⟩ := xstr_len hi
  have hk := k lls H locs hL (List.forall_mem_cons.mpr ⟨(⟨by omega, by omega⟩ : xin _), (List.forall_mem_cons.mp hv).2⟩) hM
  have hM2 := j_length l (adK := fun j => r (1000 + j)) (adV := adV) hi
  refine jcall (va_runV (C := "java/lang/String") (b := r a) (As := []) (rest := st.map (xV r)) ⟨hx, hb, hml, hown, hts⟩ hM2 ⟨callB_of 0 hts (jgood jc_length) rfl rfl rfl (hts _ (xw_in (xpass_mem _ _ _ jl_ps (167, Cond.initialized "java/lang/String") (by simp [jl])) rfl)) (hts _ (xll_at he)) (by decide) ⟨Nat.le_trans (Nat.le_of_ble_eq_true rfl) (Nat.le_trans hr1 hR1), Nat.le_trans (Nat.le_of_ble_eq_true rfl) (Nat.le_trans hr2 hR2)⟩, hts _ (xw_in (xpass_mem _ _ _ jl_ps (740, Cond.instanceMethod jn_length) (by simp [jl])) rfl), hts _ (xw_in (xpass_mem _ _ _ jl_ps (741, Cond.selects "java/lang/String" jn_length jn_length) (by simp [jl])) rfl)⟩ ⟨xJ_blind, hrec, fun U hU hW => by rw [hra]; exact hpre U hU hW⟩ rfl rfl hL.2.1 rfl (lv_room (by rw [xcat_sum]; exact hc)) hdg hcs) ?_
  rw [← hsl]
  exact hk
theorem xs_charAt (hf : xFix p R s m args c y nL n r dd kI kZ A xs lo adV) {idx pos a : Nat} {j : Int} (he : ((xsg y).2.2.2.1, idx, 39, pos) ∈ xll) (hdg : decode (xmb y) pc = .ok (.invokevirtual idx, 3)) (h1 : 1000 ≤ a) (h2 : a < 1007) (h3 : 0 ≤ j) (h4 : j < ((xstr (a - 1000)).length : Int)) (hc : xcat st ≤ 8) (hr1 : 5 ≤ (xroom y).1) (hr2 : 125 ≤ (xroom y).2) (hcs : cells ≤ R.cells ∧ slots ≤ R.slots) (k : xW p l e R s m args below meth c cells slots Q r nL dd kI kZ n F A xs (pc + 3) ls (.inl ((xstr (a - 1000)).getD j.toNat 0) :: st) D) : xW p l e R s m args below meth c cells slots Q r nL dd kI kZ n F A xs pc ls (.inl j :: .inr (.inr (some a)) :: st) D := by
  have hf0 := hf
  obtain ⟨hx, hb, hml, hown, hts, hnw, hK, hR1, hR2, hy, hn, hA, hX, hS, hR⟩ := hf
  intro lls H locs hL hv hM
  have hi : a - 1000 < 7 := by omega
  have hsub : ∀ q, H.size ≤ q → A q := fun q hq => hA q (Nat.le_trans hM.2.2.1.1 hq)
  have hpre : ∀ {av : List Value} (U : State), U.heap = H → s.WarmedH U.vm → va_Pc av (xJ (fun j => r (1000 + j)) adV) av.toArray U := by
    intro av U hU hW
    refine ⟨rfl, ?_, ?_, ?_⟩
    · rw [hU]; exact ((vk_S.moved hW.alike hS).kept hM.2.2.1.2.1).narrow hsub
    · rw [hU]; exact ((va_Z.moved hW.alike hR.2.1).kept hM.2.2.1.2.1).narrow hsub
    · rw [hU]; exact ((va_Zq.moved hW.alike hR.2.2).kept hM.2.2.1.2.1).narrow hsub
  have hra : r a = r (1000 + (a - 1000)) := by rw [show 1000 + (a - 1000) = a by omega]
  have hrec : ∃ cell : Cell, H[r a]? = some cell ∧ cell.vm.isStatics = false ∧ s.vm.findClass "java/lang/String" = some cell.cls := by
    rw [hra]
    exact vk_recv (adK := fun j => r (1000 + j)) hS hi hM.2.2.1
  obtain ⟨hsl, hs100⟩ := xstr_len hi
  have hj : xin j := (List.forall_mem_cons.mp hv).1
  have hjn : (Int32.ofInt j).toNatClampNeg = j.toNat := by
    show (Int32.ofInt j).toInt.toNat = j.toNat
    rw [x32 hj]
  have hjl : (Int32.ofInt j).toNatClampNeg < [4, 6, 4, 5, 4, 4, 4].getD (a - 1000) 0 := by rw [hjn, ← hsl]; omega
  have hj0 : ¬ Int32.ofInt j < 0 := fun z => by
    have := (x_lt hj xin0).mp z
    omega
  have hj1 : Int32.ofInt j < Int32.ofNat ([4, 6, 4, 5, 4, 4, 4].getD (a - 1000) 0) := by
    rw [← hsl]
    exact (x_lt hj (b := ((xstr (a - 1000)).length : Int)) ⟨by omega, by omega⟩).mpr h4
  obtain ⟨c1, c2, c3⟩ := xchar_at hi hjl
  have hk := k lls H locs hL (List.forall_mem_cons.mpr ⟨(by rw [← hjn]; exact c3), (List.forall_mem_cons.mp (List.forall_mem_cons.mp hv).2).2⟩) hM
  have hM2 := j_chr l (adK := fun j => r (1000 + j)) (adV := adV) hi hj0 hj1 hjl
  refine jcall (va_runV (C := "java/lang/String") (b := r a) (As := [.int (Int32.ofInt j)]) (rest := st.map (xV r)) ⟨hx, hb, hml, hown, hts⟩ hM2 ⟨callB_of 1 hts (jgood jc_chr) rfl rfl rfl (hts _ (xw_in (xpass_mem _ _ _ jl_ps (167, Cond.initialized "java/lang/String") (by simp [jl])) rfl)) (hts _ (xll_at he)) (by decide) ⟨Nat.le_trans (Nat.le_of_ble_eq_true rfl) (Nat.le_trans hr1 hR1), Nat.le_trans (Nat.le_of_ble_eq_true rfl) (Nat.le_trans hr2 hR2)⟩, hts _ (xw_in (xpass_mem _ _ _ jl_ps (750, Cond.instanceMethod jn_chr) (by simp [jl])) rfl), hts _ (xw_in (xpass_mem _ _ _ jl_ps (751, Cond.selects "java/lang/String" jn_chr jn_chr) (by simp [jl])) rfl)⟩ ⟨xJ_blind, hrec, fun U hU hW => by rw [hra]; exact hpre U hU hW⟩ rfl rfl hL.2.1 rfl (lv_room (by rw [xcat_sum]; exact hc)) hdg hcs) ?_
  rw [c1, hjn]
  exact hk
end XZ
