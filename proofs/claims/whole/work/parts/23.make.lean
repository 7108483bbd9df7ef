/-! makings: the constructors -/
def xz (D : xD) (n : Nat) : xD := fun a => if a = n then fun _ => 0 else D a
def xuF (F : Nat → Nat → Bool) (a k : Nat) : Nat → Nat → Bool := fun b j => (Nat.beq b a && Nat.beq j k) || F b j
def xS (n : Nat) : Nat := ((List.range n).map (fun a => (xsh a).2)).sum
theorem xS_succ (n : Nat) : xS (n + 1) = xS n + (xsh n).2 := by simp [xS, List.range_succ]
theorem xS_mono {a b : Nat} (h : a ≤ b) : xS a ≤ xS b := by
  induction b with
  | zero => rw [Nat.le_zero.mp h]; exact Nat.le_refl _
  | succ b ih =>
    rcases Nat.lt_or_ge b a with q | q
    · rw [show a = b + 1 by omega]; exact Nat.le_refl _
    · rw [xS_succ]; exact Nat.le_trans (ih q) (Nat.le_add_right _ _)
def xnr (n : Nat) (v : xv) : Bool := match v with
  | .inr (.inr (some a)) => !(Nat.beq a n)
  | _ => true
def xfree (n : Nat) (ls : xls) (st : xst) : Bool := ls.all (fun o => match o with | some v => xnr n v | none => true) && st.all (xnr n)
abbrev xcs : Type := Nat × xls × xst × Nat × (Nat → Nat → Bool) × xD
def xini : List Nat := [0, 6, 16, 26, 44, 57, 75, 91, 102, 111, 146]
theorem xini_ok : xini.all (fun y => decide ((xmn y).name = "<init>") && decide ((xsg y).1 = [1]) && Nat.beq (xsg y).2.2.1 0 && !(xsg y).2.2.2.2 && Nat.beq (xsg y).2.1 1 && Nat.blt y 239) = true := by decide +kernel
theorem xfin_ok : (List.range 11).all (fun c => (List.range (xnf c)).all (fun k => !(Nat.beq (xfk c k).1 3) || (xT c k).2.2.2)) = true := by decide +kernel
def xbv (n : Nat) (v : xv) : Bool := match v with
  | .inr (.inr (some a)) => Nat.blt a n || Nat.ble 124 a
  | _ => true
def xbnd (n : Nat) (ls : xls) (st : xst) : Bool := ls.all (fun o => match o with | some v => xbv n v | none => true) && st.all (xbv n)
def cnew (n : Nat) (k : Nat) (ls : xls) (st : xst) : Bool := Nat.beq (xsh n).1 k && Nat.blt 0 n && Nat.blt n 124 && xfree n ls st
def crun : Nat → Nat → Nat → xls → xst → Nat → (Nat → Nat → Bool) → xD → Option xcs
  | 0, _, _, _, _, _, _, _ => none
  | f + 1, y, p, ls, st, n, F, D =>
    let i := xcd y p
    bif Nat.beq i.1 29 || (Nat.beq y 239 && Nat.beq p 16) then some (p, ls, st, n, F, D)
    else bif Nat.beq i.1 40 then
      (bif cnew n (10 + i.2.2.1) ls st && Nat.blt i.2.2.1 11 then crun f y i.2.2.2.1 ls (.inr (.inr (some n)) :: st) (n + 1) F (xz D n) else none)
    else bif Nat.beq i.1 41 then
      (match st with
      | .inl len :: st => bif cnew n i.2.2.1 ls st && decide (len = ((xsh n).2 : Int)) then crun f y i.2.2.2.1 ls (.inr (.inr (some n)) :: st) (n + 1) F (xz D n) else none
      | _ => none)
    else bif Nat.beq i.1 18 then
      (match st with
      | .inr (.inr (some b)) :: .inr (.inr (some a)) :: st => bif xisO n a i.2.2.1 && Nat.beq b (a + i.2.1.toNat) && Nat.blt b n && xini.contains y then crun f y i.2.2.2.1 ls st n (xuF F a (i.2.2.2.2.getD 0 0)) D else none
      | _ => none)
    else bif Nat.beq i.1 28 && (i.2.1 == 2) then
      (match st with
      | .inr (.inr (some a)) :: st => bif xisO n a (xsg i.2.2.1).2.2.2.1 && xini.contains i.2.2.1 && Nat.ble (xcat st) 8 && xbnd n ls st then
          (match crun f i.2.2.1 0 [some (.inr (.inr (some a)))] [] n F D with
          | some (p1, _, [], n1, F1, D1) => bif Nat.beq (xcd i.2.2.1 p1).1 29 && Nat.beq (xcd i.2.2.1 p1).2.2.1 0 then crun f y i.2.2.2.1 ls st n1 F1 D1 else none
          | _ => none)
        else none
      | _ => none)
    else bif Nat.beq i.1 28 then
      (match xpop (xsg i.2.2.1).1.reverse st [] with
      | some (av, rest) => bif xrecv n i.2.2.1 av && Nat.ble (xcat rest) 8 && !(Nat.beq i.2.2.1 239) then
          (match xrun n F f none i.2.2.1 0 (xentry (xsg i.2.2.1).2.1 av) [] D with
          | some (v, D') => crun f y i.2.2.2.1 ls (v.toList ++ rest) n F D'
          | none => none)
        else none
      | none => none)
    else
      (match xstep none n F i ls st D with
      | some (p', ls', st', D') => crun f y p' ls' st' n F D'
      | none => none)
theorem crun_le : ∀ (f y p : Nat) (ls : xls) (st : xst) (n : Nat) (F : Nat → Nat → Bool) (D : xD) (p1 : Nat) (ls1 : xls) (st1 : xst) (n1 : Nat) (F1 : Nat → Nat → Bool) (D1 : xD), crun f y p ls st n F D = some (p1, ls1, st1, n1, F1, D1) → n ≤ n1 := by
  intro f
  induction f with
  | zero => intro y p ls st n F D p1 ls1 st1 n1 F1 D1 h; cases h
  | succ f ih =>
    intro y p ls st n F D p1 ls1 st1 n1 F1 D1 h
    unfold crun at h
    dsimp only at h
    cases e1 : (Nat.beq (xcd y p).1 29 || (Nat.beq y 239 && Nat.beq p 16)) with
    | true => rw [e1] at h; cases h; exact Nat.le_refl _
    | false =>
    rw [e1] at h
    cases e2 : Nat.beq (xcd y p).1 40 with
    | true =>
      rw [e2] at h
      simp only [cond_false, cond_true] at h
      cases e3 : (cnew n (10 + (xcd y p).2.2.1) ls st && Nat.blt (xcd y p).2.2.1 11) with
      | true => rw [e3] at h; exact Nat.le_trans (Nat.le_succ n) (ih _ _ _ _ _ _ _ _ _ _ _ _ _ h)
      | false => rw [e3] at h; cases h
    | false =>
    rw [e2] at h
    cases e3 : Nat.beq (xcd y p).1 41 with
    | true =>
      rw [e3] at h
      simp only [cond_false, cond_true] at h
      split at h
      · rename_i len st
        cases e4 : (cnew n (xcd y p).2.2.1 ls st && decide (len = ((xsh n).2 : Int))) with
        | true => rw [e4] at h; exact Nat.le_trans (Nat.le_succ n) (ih _ _ _ _ _ _ _ _ _ _ _ _ _ h)
        | false => rw [e4] at h; cases h
      · cases h
    | false =>
    rw [e3] at h
    cases e4 : Nat.beq (xcd y p).1 18 with
    | true =>
      rw [e4] at h
      simp only [cond_false, cond_true] at h
      split at h
      · rename_i b a st
        cases e5 : (xisO n a (xcd y p).2.2.1 && Nat.beq b (a + (xcd y p).2.1.toNat) && Nat.blt b n && xini.contains y) with
        | true => rw [e5] at h; exact ih _ _ _ _ _ _ _ _ _ _ _ _ _ h
        | false => rw [e5] at h; cases h
      · cases h
    | false =>
    rw [e4] at h
    cases e5 : (Nat.beq (xcd y p).1 28 && ((xcd y p).2.1 == 2)) with
    | true =>
      rw [e5] at h
      simp only [cond_false, cond_true] at h
      split at h
      · rename_i a st
        cases e6 : (xisO n a (xsg (xcd y p).2.2.1).2.2.2.1 && xini.contains (xcd y p).2.2.1 && Nat.ble (xcat st) 8 && xbnd n ls st) with
        | true =>
          rw [e6] at h
          simp only [cond_true] at h
          split at h
          · rename_i p2 ls2 n2 F2 D2 hc
            cases e7 : (Nat.beq (xcd (xcd y p).2.2.1 p2).1 29 && Nat.beq (xcd (xcd y p).2.2.1 p2).2.2.1 0) with
            | true => rw [e7] at h; exact Nat.le_trans (ih _ _ _ _ _ _ _ _ _ _ _ _ _ hc) (ih _ _ _ _ _ _ _ _ _ _ _ _ _ h)
            | false => rw [e7] at h; cases h
          · cases h
        | false => rw [e6] at h; cases h
      · cases h
    | false =>
    rw [e5] at h
    cases e6 : Nat.beq (xcd y p).1 28 with
    | true =>
      rw [e6] at h
      simp only [cond_false, cond_true] at h
      split at h
      · rename_i av rest hp
        cases e7 : (xrecv n (xcd y p).2.2.1 av && Nat.ble (xcat rest) 8 && !(Nat.beq (xcd y p).2.2.1 239)) with
        | true =>
          rw [e7] at h
          simp only [cond_true] at h
          split at h
          · exact ih _ _ _ _ _ _ _ _ _ _ _ _ _ h
          · cases h
        | false => rw [e7] at h; cases h
      · cases h
    | false =>
      rw [e6] at h
      simp only [cond_false] at h
      split at h
      · exact ih _ _ _ _ _ _ _ _ _ _ _ _ _ h
      · cases h
def xFok (n : Nat) (F : Nat → Nat → Bool) : Prop := ∀ (a k : Nat), F a k = true → a < n ∧ a + (xfk ((xsh a).1 - 10) k).2 < n
theorem xFok.mono {n m : Nat} {F : Nat → Nat → Bool} (h : xFok n F) (hm : n ≤ m) : xFok m F := fun a k hF => ⟨Nat.lt_of_lt_of_le (h a k hF).1 hm, Nat.lt_of_lt_of_le (h a k hF).2 hm⟩
theorem xcell_r {kI kZ : ClassId} {r r' : Nat → Nat} {F : Nat → Nat → Bool} {D D' : xD} {n a : Nat} (hF : xFok n F) (hr : ∀ b, b < n → r' b = r b) (hD : D' a = D a) : xcell kI kZ r' F D' a = xcell kI kZ r F D a := by
  have e : ∀ c k, c = (xsh a).1 - 10 → xfld r' F D' a c k = xfld r F D a c k := by
    intro c k hc
    unfold xfld
    rw [hD]
    split
    · rfl
    · split
      · rename_i hf
        rw [hr _ (by rw [hc]; exact (hF a k hf).2)]
      · rfl
    · rfl
  unfold xcell
  rw [hD]
  split
  · rfl
  · split
    · rfl
    · congr 2
      exact List.map_congr_left (fun k _ => e _ k rfl)
theorem xws_push {kI kZ : ClassId} {r r' : Nat → Nat} {F : Nat → Nat → Bool} {D D' : xD} {n : Nat} (h0 : 0 < n) (hF : xFok n F) (hr : ∀ b, b < n → r' b = r b) (hD : ∀ a, a ≠ n → D' a = D a) : xws kI kZ r' F D' (n + 1) = xws kI kZ r F D n ++ [(r' n, xcell kI kZ r' F D' n)] := by
  unfold xws
  obtain ⟨k, rfl⟩ : ∃ k, n = k + 1 := ⟨n - 1, by omega⟩
  simp only [Nat.add_sub_cancel]
  rw [List.range_succ, List.map_append]
  congr 1
  refine List.map_congr_left (fun j hj => ?_)
  have hj := List.mem_range.mp hj
  rw [hr (j + 1) (by omega), xcell_r hF hr (hD (j + 1) (by omega))]
theorem xgd_z {D : xD} {n : Nat} (h : xgd D) : xgd (xz D n) := by
  intro a k
  unfold xz
  split
  · exact ⟨fun _ => xin0, (show xinL 0 from ⟨by decide, by decide⟩)⟩
  · exact h a k
theorem xnr_V {n q : Nat} {r : Nat → Nat} {v : xv} (h : xnr n v = true) : xV (fun a => if a = n then q else r a) v = xV r v := by
  rcases v with x | x | _ | a
  · rfl
  · rfl
  · rfl
  · have : a ≠ n := by
      intro e
      simp [xnr, e] at h
    simp [xV, this]
theorem xfree_loc {n q nL : Nat} {r : Nat → Nat} {ls : xls} {st : xst} {lls : Array Slot} (h : xfree n ls st = true) (hL : xLoc r nL ls lls) : xLoc (fun a => if a = n then q else r a) nL ls lls ∧ st.map (xV (fun a => if a = n then q else r a)) = st.map (xV r) := by
  simp only [xfree, Bool.and_eq_true, List.all_eq_true] at h
  refine ⟨⟨hL.1, hL.2.1, hL.2.2.1, fun i v hv => ?_⟩, List.map_congr_left (fun v hv => xnr_V (h.2 v hv))⟩
  have := h.1 _ (List.mem_of_getElem? hv)
  rw [xnr_V this]
  exact hL.2.2.2 i v hv
theorem xbv_V {n : Nat} {r r' : Nat → Nat} (hr : ∀ a, a < n ∨ 124 ≤ a → r' a = r a) {v : xv} (h : xbv n v = true) : xV r' v = xV r v := by
  rcases v with x | x | _ | a
  · rfl
  · rfl
  · rfl
  · have : a < n ∨ 124 ≤ a := by simpa [xbv, Nat.blt_eq, Nat.ble_eq] using h
    show Value.ref (r' a) = Value.ref (r a)
    rw [hr a this]
theorem xbnd_loc {n nL : Nat} {r r' : Nat → Nat} (hr : ∀ a, a < n ∨ 124 ≤ a → r' a = r a) {ls : xls} {st : xst} {lls : Array Slot} (h : xbnd n ls st = true) (hL : xLoc r nL ls lls) : xLoc r' nL ls lls ∧ st.map (xV r') = st.map (xV r) := by
  simp only [xbnd, Bool.and_eq_true, List.all_eq_true] at h
  refine ⟨⟨hL.1, hL.2.1, hL.2.2.1, fun i v hv => ?_⟩, List.map_congr_left (fun v hv => xbv_V hr (h.2 v hv))⟩
  have := h.1 _ (List.mem_of_getElem? hv)
  rw [xbv_V hr this]
  exact hL.2.2.2 i v hv
