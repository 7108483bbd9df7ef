/-! the tables hold: words in one pass over the list, fields, kinds -/
abbrev xw : List Cond := lw_tbl.filter goodWord
theorem xw_in {w : Cond} (h : w ∈ lw_tbl) (hg : goodWord w = true) : w ∈ xw := List.mem_filter.mpr ⟨h, hg⟩
theorem xw_good : GoodIn xw xw := fun w hw => ⟨hw, good_of_word (List.mem_filter.mp hw).2⟩
def xpass : Nat → List Cond → List (Nat × Cond) → Bool
  | _, _, [] => true
  | _, [], _ :: _ => false
  | k, w :: ws, (q, x) :: es => bif Nat.beq k q then decide (w = x) && xpass (k + 1) ws es else xpass (k + 1) ws ((q, x) :: es)
theorem xpass_mem : ∀ (ws : List Cond) (k : Nat) (es : List (Nat × Cond)), xpass k ws es = true → ∀ q ∈ es, q.2 ∈ ws
  | [], k, [], _, q, hq => by cases hq
  | [], k, e :: es, h, q, hq => by simp [xpass] at h
  | w :: ws, k, [], _, q, hq => by cases hq
  | w :: ws, k, (q0, x) :: es, h, q, hq => by
    unfold xpass at h
    cases hb : Nat.beq k q0 with
    | true =>
      rw [hb] at h
      simp only [cond_true, Bool.and_eq_true, decide_eq_true_eq] at h
      rcases List.mem_cons.mp hq with rfl | hq
      · exact List.mem_cons.mpr (Or.inl h.1.symm)
      · exact List.mem_cons_of_mem _ (xpass_mem ws (k + 1) es h.2 q hq)
    | false =>
      rw [hb] at h
      exact List.mem_cons_of_mem _ (xpass_mem ws (k + 1) _ h q hq)
def xflw (e : Nat × Nat × Nat × Nat × Bool × Nat) : Cond := bif e.2.2.2.2.1
    then .fieldLinkNest (xcn e.1) e.2.1 (xcn e.2.2.1) (xT e.2.2.1 e.2.2.2.1).2.1 (xT e.2.2.1 e.2.2.2.1).2.2.1 "OutInTime"
    else .fieldLink (xcn e.1) e.2.1 (xcn e.2.2.1) (xT e.2.2.1 e.2.2.2.1).2.1 (xT e.2.2.1 e.2.2.2.1).2.2.1
set_option maxRecDepth 100000 in
theorem xfl_ok : xfl.all (fun e => Nat.blt e.2.2.2.1 (xnf e.2.2.1) && Nat.blt e.2.2.1 11) = true := by decide +kernel
set_option maxRecDepth 100000 in
theorem xfl_ps : xpass 0 lw_tbl (xfl.map (fun e => (e.2.2.2.2.2, xflw e))) = true := by decide +kernel
def xmlw (e : Nat × Nat × Nat × Bool × Nat) : Cond := bif e.2.2.2.1
    then .methodLinkNest (xcn e.1) e.2.1 (xmn e.2.2.1) "OutInTime"
    else .methodLink (xcn e.1) e.2.1 (xmn e.2.2.1)
set_option maxRecDepth 100000 in
theorem xml_ok : xml.all (fun e => Nat.blt e.2.2.1 242 && !(Nat.beq e.2.2.1 239)) = true := by decide +kernel
set_option maxRecDepth 100000 in
theorem xml_ps : xpass 0 lw_tbl (xml.map (fun e => (e.2.2.2.2, xmlw e))) = true := by decide +kernel
def xlib (o : Nat) : MethodName := bif Nat.beq o 33 then objectInit else bif Nat.beq o 34 then arraycopyName else bif Nat.beq o 35 then Lib.Math.max.name else bif Nat.beq o 36 then Lib.Math.min.name else bif Nat.beq o 38 then ⟨"java/lang/String", "length", "()I"⟩ else ⟨"java/lang/String", "charAt", "(I)C"⟩
set_option maxRecDepth 100000 in
theorem xll_ps : xpass 0 lw_tbl (xll.map (fun e => (e.2.2.2, Cond.methodLink (xcn e.1) e.2.1 (xlib e.2.2.1)))) = true := by decide +kernel
set_option maxRecDepth 100000 in
theorem xkl_ps : xpass 0 lw_tbl (xkl.map (fun e => (e.2.2.2, Cond.constant (xcn e.1) e.2.1 (Int32.ofInt e.2.2.1)))) = true := by decide +kernel
set_option maxRecDepth 100000 in
theorem xkL_ps : xpass 0 lw_tbl (xkL.map (fun e => (e.2.2.2, Cond.constantLong (xcn e.1) e.2.1 (Int64.ofInt e.2.2.1)))) = true := by decide +kernel
theorem xkl_ok : (xkl ++ xkL).all (fun e => xib e.2.2.1) = true := by decide +kernel
set_option maxRecDepth 100000 in
theorem xnl_ps : xpass 0 lw_tbl (xnl.map (fun e => (e.2.2.2, Cond.classLink (xcn e.1) e.2.1 (xcn e.2.2.1)))) = true := by decide +kernel
theorem xnl_ok : xnl.all (fun e => Nat.blt e.2.2.1 11) = true := by decide +kernel
def xmcw (y : Nat) : Cond := .code (xmn y) (xmb y) (xsg y).2.1 (xrt (xsg y).2.2.1)
def xmiw (y : Nat) : Cond := bif (xsg y).2.2.2.2 then .static (xmn y) else .instanceMethod (xmn y)
def xmew (y : Nat) : Cond := .selects (xcn (xsg y).2.2.2.1) (xmn y) (xmn y)
set_option maxRecDepth 100000 in
theorem xmi_ps : xpass 0 lw_tbl (xmi.map (fun e => (e.1, xmiw e.2))) = true := by decide +kernel
set_option maxRecDepth 100000 in
theorem xme_ps : xpass 0 lw_tbl (xme.map (fun e => (e.1, xmew e.2))) = true := by decide +kernel
set_option maxRecDepth 100000 in
theorem xni_ps : xpass 0 lw_tbl (xni.map (fun e => (e.1, Cond.initialized (xcn e.2)))) = true := by decide +kernel
set_option maxRecDepth 100000 in
theorem xnn_ps : xpass 0 lw_tbl (xnn.map (fun e => (e.1, Cond.instantiable (xcn e.2) (xnf e.2)))) = true := by decide +kernel
set_option maxRecDepth 100000 in
theorem xny_ps : xpass 0 lw_tbl (xny.map (fun e => (e.1, u_lay (xcn e.2.1) (xT e.2.1) e.2.2))) = true := by decide +kernel
set_option maxRecDepth 100000 in
theorem xlw_ps : xpass 0 lw_tbl xlw = true := by decide +kernel
def xmsg (y : Nat) : Bool := decide ((xmn y).cls = xcn (xsg y).2.2.2.1) && plainName (xmn y).cls &&
  decide ((xmn y).cls ≠ "java/lang/invoke/MethodHandle") && decide ((xmn y).cls ≠ "java/lang/invoke/VarHandle") &&
  decide ((parseMethodDescriptor (xmn y).desc).map (fun d => d.parameters.length) = some ((xsg y).1.length - (bif (xsg y).2.2.2.2 then 0 else 1)))
  && xmi.any (fun e => Nat.beq e.2 y) && ((xsg y).2.2.2.2 || decide ((xmn y).name = "<init>") || xme.any (fun e => Nat.beq e.2 y)) && xni.any (fun e => Nat.beq e.2 (xsg y).2.2.2.1)
set_option maxRecDepth 100000 in
theorem xmsg_ok : (List.range 242).all (fun y => Nat.beq y 239 || xmsg y) = true := by decide +kernel
theorem xcl_at : ∀ k, k < 11 → xcl[k]? = some (xcn k, xT k, xnf k) := by
  intro k hk
  rcases (show k = 0 ∨ k = 1 ∨ k = 2 ∨ k = 3 ∨ k = 4 ∨ k = 5 ∨ k = 6 ∨ k = 7 ∨ k = 8 ∨ k = 9 ∨ k = 10 by omega) with rfl | rfl | rfl | rfl | rfl | rfl | rfl | rfl | rfl | rfl | rfl <;> rfl
set_option maxRecDepth 100000 in
theorem xny_all : (List.range 11).all (fun c => (List.range (xnf c)).all (fun k => xny.any (fun e => Nat.beq e.2.1 c && Nat.beq e.2.2 k) && goodWord (u_lay (xcn c) (xT c) k))) = true := by decide +kernel
theorem xuw : ∀ k, k < 11 → ∀ w ∈ u_ws (xcn k) (xT k) (xnf k), w ∈ xw := by
  intro c hc w hw
  obtain ⟨k, hk, rfl⟩ := List.mem_map.mp hw
  have h := List.all_eq_true.mp (List.all_eq_true.mp xny_all c (List.mem_range.mpr hc)) k hk
  simp only [Bool.and_eq_true, List.any_eq_true, Nat.beq_eq] at h
  obtain ⟨⟨e, he, h1, h2⟩, h3⟩ := h
  refine xw_in ?_ h3
  have := xpass_mem _ _ _ xny_ps _ (List.mem_map.mpr ⟨e, he, rfl⟩)
  rw [h1, h2] at this
  exact this
set_option maxRecDepth 100000 in
theorem xty_ok : (List.range 11).all (fun k => (List.range (xnf k)).all (fun j => decide (parseFieldDescriptor (xT k j).2.2.1 = some (xty k j)) && decide ((xT k j).1 = xcn k) && (match xty k j with
    | .int => decide (xfk k j = (0, 0)) | .boolean => decide (xfk k j = (1, 0)) | .long => decide (xfk k j = (2, 0)) | .object _ => decide ((xfk k j).1 = 3) | .array _ => decide ((xfk k j).1 = 3) | _ => false))) = true := by decide +kernel
set_option maxRecDepth 100000 in
theorem xnm_ok : (List.range 11).all (fun k => (List.range (xnf k)).all (fun a => (List.range (xnf k)).all (fun b => decide (a = b) || decide ((xT k a).2.1 ≠ (xT k b).2.1)))) = true := by decide +kernel
set_option maxRecDepth 100000 in
theorem xsh_ok : (List.range 124).all (fun a => Nat.beq a 0 || Nat.beq (xsh a).1 1 || Nat.beq (xsh a).1 2 || (Nat.ble 10 (xsh a).1 && Nat.blt (xsh a).1 21 && Nat.beq (xsh a).2 (xnf ((xsh a).1 - 10)))) = true := by decide +kernel
theorem xnn_all : (List.range 11).all (fun c => xnn.any (fun e => Nat.beq e.2 c) && xni.any (fun e => Nat.beq e.2 c)) = true := by decide +kernel
theorem xlw_in {w : Cond} (h : w ∈ xlw.map (fun q => q.2)) : w ∈ lw_tbl := by
  obtain ⟨q, hq, rfl⟩ := List.mem_map.mp h
  exact xpass_mem _ _ _ xlw_ps q hq
