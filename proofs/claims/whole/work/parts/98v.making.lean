/-! makings: one step at a time -/
def CR (y p : Nat) (ls : xls) (st : xst) (n : Nat) (F : Nat → Nat → Bool) (D : xD) (Q : xcs → Prop) : Prop := ∃ r, Q r ∧ ∃ f0, ∀ f, f0 ≤ f → crun f y p ls st n F D = some r
section M98v1
variable {n y p p' nx u c k a b : Nat} {x len v : Int} {m : List Nat} {ls ls' le : xls} {st st' av rest : xst} {F : Nat → Nat → Bool} {D D' : xD} {Q : xcs → Prop} {i : xi} {w : xv}
theorem CR.stp (hi : xcd y p = i) (h1 : (Nat.beq i.1 29 || (Nat.beq y 239 && Nat.beq p 16)) = false) (h2 : Nat.beq i.1 40 = false) (h3 : Nat.beq i.1 41 = false) (h4 : Nat.beq i.1 18 = false) (h5 : Nat.beq i.1 28 = false) (hs : xstep none n F i ls st D = some (p', ls', st', D')) (k : CR y p' ls' st' n F D' Q) : CR y p ls st n F D Q := by
  obtain ⟨r, hq, f0, h⟩ := k
  refine ⟨r, hq, f0 + 1, fun f hf => ?_⟩
  obtain ⟨f, rfl⟩ : ∃ g, f = g + 1 := ⟨f - 1, by omega⟩
  unfold crun
  dsimp only
  subst hi
  rw [h1, h2, h3, h4, h5, hs]
  exact h f (by omega)
theorem CR.new (hi : xcd y p = (40, x, c, nx, m)) (hp : (Nat.beq y 239 && Nat.beq p 16) = false) (h0 : (cnew n (10 + c) ls st && Nat.blt c 11) = true) (k : CR y nx ls (.inr (.inr (some n)) :: st) (n + 1) F (xz D n) Q) : CR y p ls st n F D Q := by
  obtain ⟨r, hq, f0, h⟩ := k
  refine ⟨r, hq, f0 + 1, fun f hf => ?_⟩
  obtain ⟨f, rfl⟩ : ∃ g, f = g + 1 := ⟨f - 1, by omega⟩
  unfold crun
  dsimp only
  rw [hi, hp]
  show (bif cnew n (10 + c) ls st && Nat.blt c 11 then crun f y nx ls (.inr (.inr (some n)) :: st) (n + 1) F (xz D n) else none) = some r
  rw [h0]
  exact h f (by omega)
theorem CR.arr (hi : xcd y p = (41, x, c, nx, m)) (hp : (Nat.beq y 239 && Nat.beq p 16) = false) (h0 : (cnew n c ls st && decide (len = ((xsh n).2 : Int))) = true) (k : CR y nx ls (.inr (.inr (some n)) :: st) (n + 1) F (xz D n) Q) : CR y p ls (.inl len :: st) n F D Q := by
  obtain ⟨r, hq, f0, h⟩ := k
  refine ⟨r, hq, f0 + 1, fun f hf => ?_⟩
  obtain ⟨f, rfl⟩ : ∃ g, f = g + 1 := ⟨f - 1, by omega⟩
  unfold crun
  dsimp only
  rw [hi, hp]
  show (bif cnew n c ls st && decide (len = ((xsh n).2 : Int)) then crun f y nx ls (.inr (.inr (some n)) :: st) (n + 1) F (xz D n) else none) = some r
  rw [h0]
  exact h f (by omega)
theorem CR.putR (hi : xcd y p = (18, x, c, nx, m)) (hp : (Nat.beq y 239 && Nat.beq p 16) = false) (h0 : (xisO n a c && Nat.beq b (a + x.toNat) && Nat.blt b n && xini.contains y) = true) (k : CR y nx ls st n (xuF F a (m.getD 0 0)) D Q) : CR y p ls (.inr (.inr (some b)) :: .inr (.inr (some a)) :: st) n F D Q := by
  obtain ⟨r, hq, f0, h⟩ := k
  refine ⟨r, hq, f0 + 1, fun f hf => ?_⟩
  obtain ⟨f, rfl⟩ : ∃ g, f = g + 1 := ⟨f - 1, by omega⟩
  unfold crun
  dsimp only
  rw [hi, hp]
  show (bif xisO n a c && Nat.beq b (a + x.toNat) && Nat.blt b n && xini.contains y then crun f y nx ls st n (xuF F a (m.getD 0 0)) D else none) = some r
  rw [h0]
  exact h f (by omega)
theorem CR.ini (hi : xcd y p = (28, 2, c, nx, m)) (hp : (Nat.beq y 239 && Nat.beq p 16) = false) (h0 : (xisO n a (xsg c).2.2.2.1 && xini.contains c && Nat.ble (xcat st) 8 && xbnd n ls st) = true) (k : CR c 0 [some (.inr (.inr (some a)))] [] n F D (fun r => r.2.2.1 = [] ∧ (Nat.beq (xcd c r.1).1 29 && Nat.beq (xcd c r.1).2.2.1 0) = true ∧ CR y nx ls st r.2.2.2.1 r.2.2.2.2.1 r.2.2.2.2.2 Q)) : CR y p ls (.inr (.inr (some a)) :: st) n F D Q := by
  obtain ⟨⟨p1, l1, s1, n1, F1, D1⟩, ⟨e1, e2, ⟨r, hq, f2, h2⟩⟩, f1, h1⟩ := k
  dsimp only at e1 e2 h2
  subst e1
  refine ⟨r, hq, f1 + f2 + 1, fun f hf => ?_⟩
  obtain ⟨f, rfl⟩ : ∃ g, f = g + 1 := ⟨f - 1, by omega⟩
  unfold crun
  dsimp only
  rw [hi, hp]
  show (bif xisO n a (xsg c).2.2.2.1 && xini.contains c && Nat.ble (xcat st) 8 && xbnd n ls st then
          (match crun f c 0 [some (.inr (.inr (some a)))] [] n F D with
          | some (p1, _, [], n1, F1, D1) => bif Nat.beq (xcd c p1).1 29 && Nat.beq (xcd c p1).2.2.1 0 then crun f y nx ls st n1 F1 D1 else none
          | _ => none)
        else none) = some r
  rw [h0, h1 f (by omega)]
  show (bif Nat.beq (xcd c p1).1 29 && Nat.beq (xcd c p1).2.2.1 0 then crun f y nx ls st n1 F1 D1 else none) = some r
  rw [e2]
  exact h2 f (by omega)
theorem CR.call (hi : xcd y p = (28, 0, c, nx, m)) (hp : (Nat.beq y 239 && Nat.beq p 16) = false) (hpop : xpop (xsg c).1.reverse st [] = some (av, rest)) (h0 : (xrecv n c av && Nat.ble (xcat rest) 8 && !(Nat.beq c 239)) = true) (he : xentry (xsg c).2.1 av = le) (k : WP n F none c 0 le [] D (fun v D' => CR y nx ls (v.toList ++ rest) n F D' Q)) : CR y p ls st n F D Q := by
  obtain ⟨g, v, D1, h1, ⟨r, hq, f2, h2⟩⟩ := k
  refine ⟨r, hq, g + f2 + 1, fun f hf => ?_⟩
  obtain ⟨f, rfl⟩ : ∃ g, f = g + 1 := ⟨f - 1, by omega⟩
  have h1' := xrun_mono _ _ _ _ _ _ _ _ h1 f (by omega)
  unfold crun
  dsimp only
  rw [hi, hp]
  show (match xpop (xsg c).1.reverse st [] with
      | some (av, rest) => bif xrecv n c av && Nat.ble (xcat rest) 8 && !(Nat.beq c 239) then
          (match xrun n F f none c 0 (xentry (xsg c).2.1 av) [] D with
          | some (v, D') => crun f y nx ls (v.toList ++ rest) n F D'
          | none => none)
        else none
      | none => none) = some r
  rw [hpop]
  show (bif xrecv n c av && Nat.ble (xcat rest) 8 && !(Nat.beq c 239) then
          (match xrun n F f none c 0 (xentry (xsg c).2.1 av) [] D with
          | some (v, D') => crun f y nx ls (v.toList ++ rest) n F D'
          | none => none)
        else none) = some r
  rw [h0, he, h1']
  exact h2 f (by omega)
theorem CR.ret (h0 : (Nat.beq (xcd y p).1 29 || (Nat.beq y 239 && Nat.beq p 16)) = true) (hq : Q (p, ls, st, n, F, D)) : CR y p ls st n F D Q := by
  refine ⟨_, hq, 1, fun f hf => ?_⟩
  obtain ⟨f, rfl⟩ : ∃ g, f = g + 1 := ⟨f - 1, by omega⟩
  unfold crun
  dsimp only
  rw [h0]
  rfl
theorem CR.kI (hi : xcd y p = (0, x, u, nx, m)) (hp : (Nat.beq y 239 && Nat.beq p 16) = false) (k : CR y nx ls (.inl x :: st) n F D Q) : CR y p ls st n F D Q := CR.stp hi hp rfl rfl rfl rfl rfl k
theorem CR.ldR (hi : xcd y p = (3, x, u, nx, m)) (hp : (Nat.beq y 239 && Nat.beq p 16) = false) (hl : ls[u]? = some (some (.inr (.inr (some a))))) (k : CR y nx ls (.inr (.inr (some a)) :: st) n F D Q) : CR y p ls st n F D Q := CR.stp hi hp rfl rfl rfl rfl (by
  show (match ls[u]? with
    | some (some (.inr (.inr (some a)))) => some (nx, ls, .inr (.inr (some a)) :: st, D)
    | _ => none : Option xcf) = _
  rw [hl]) k
theorem CR.dup (hi : xcd y p = (10, x, u, nx, m)) (hp : (Nat.beq y 239 && Nat.beq p 16) = false) (k : CR y nx ls (.inr (.inr (some a)) :: .inr (.inr (some a)) :: st) n F D Q) : CR y p ls (.inr (.inr (some a)) :: st) n F D Q := CR.stp hi hp rfl rfl rfl rfl rfl k
theorem CR.obj (hi : xcd y p = (33, x, u, nx, m)) (hp : (Nat.beq y 239 && Nat.beq p 16) = false) (h0 : Nat.ble (xcat st) 8 = true) (k : CR y nx ls st n F D Q) : CR y p ls (.inr (.inr (some a)) :: st) n F D Q := CR.stp hi hp rfl rfl rfl rfl (by
  show (bif Nat.ble (xcat st) 8 then some (nx, ls, st, D) else none : Option xcf) = _
  rw [h0]
  rfl) k
theorem CR.putI (hi : xcd y p = (17, x, c, nx, m)) (hp : (Nat.beq y 239 && Nat.beq p 16) = false) (h0 : (xisO n a c && xbit x v) = true) (k : CR y nx ls st n F (xup D a (m.getD 0 0) v) Q) : CR y p ls (.inl v :: .inr (.inr (some a)) :: st) n F D Q := CR.stp hi hp rfl rfl rfl rfl (by
  show (bif xisO n a c && xbit x v then some (nx, ls, st, xup D a (m.getD 0 0) v) else none : Option xcf) = _
  rw [h0]
  rfl) k
theorem CR.getR (hi : xcd y p = (15, x, c, nx, m)) (hp : (Nat.beq y 239 && Nat.beq p 16) = false) (h0 : (xisO n a c && F a (m.getD 0 0)) = true) (k : CR y nx ls (.inr (.inr (some (a + x.toNat))) :: st) n F D Q) : CR y p ls (.inr (.inr (some a)) :: st) n F D Q := CR.stp hi hp rfl rfl rfl rfl (by
  show (bif xisO n a c && F a (m.getD 0 0) then some (nx, ls, .inr (.inr (some (a + x.toNat))) :: st, D) else none : Option xcf) = _
  rw [h0]
  rfl) k
theorem CR.stR (hi : xcd y p = (6, x, u, nx, m)) (hp : (Nat.beq y 239 && Nat.beq p 16) = false) (hl : xput ls u (.inr (.inr (some a))) = some ls') (k : CR y nx ls' st n F D Q) : CR y p ls (.inr (.inr (some a)) :: st) n F D Q := CR.stp hi hp rfl rfl rfl rfl (by
  show (match xput ls u (.inr (.inr (some a))) with | some l => some (nx, l, st, D) | none => none : Option xcf) = _
  rw [hl]) k
end M98v1
theorem sen147_0 (n : Nat) (F : Nat → Nat → Bool) (a0 : Nat) (La0 : Nat) (o1 : Option xv) (D : xD) (Q : Option xv → xD → Prop) (ha0 : xalen none n a0 = some La0) :
  WP n F none 147 0 [some (.inr (.inr (some a0))), o1] [] D Q =
  (WP n F none 147 2 [some (.inr (.inr (some a0))), some (.inl 0)] [] D Q) :=
  (WP.kI rfl).trans <| WP.stI rfl rfl
theorem sen147_2 (n : Nat) (F : Nat → Nat → Bool) (a0 : Nat) (La0 : Nat) (x1 : Int) (D : xD) (Q : Option xv → xD → Prop) (ha0 : xalen none n a0 = some La0) :
  WP n F none 147 2 [some (.inr (.inr (some a0))), some (.inl x1)] [] D Q =
  ((640 ≤ x1 → WP n F none 147 21 [some (.inr (.inr (some a0))), some (.inl 0)] [] D Q) ∧ (¬ (640 ≤ x1) → ((0 : Int) ≤ x1 ∧ x1 < (La0 : Int)) ∧ (xinP (x1 + 1)) ∧ WP n F none 147 2 [some (.inr (.inr (some a0))), some (.inl (x1 + 1))] [] (xup D a0 x1 0) Q)) :=
  (WP.ldI rfl rfl).trans <| (WP.kI rfl).trans <| (WP.ic3 rfl).trans <| br_eq ((WP.kI rfl).trans <| WP.stI rfl rfl) ((WP.ldR rfl rfl).trans <| (WP.ldI rfl rfl).trans <| (WP.kI rfl).trans <| (WP.iast rfl ha0).trans <| cn_eq ((WP.iinc rfl rfl rfl).trans <| cn_eq (WP.goto rfl)))
theorem sen147_21 (n : Nat) (F : Nat → Nat → Bool) (a0 : Nat) (La0 : Nat) (x1 : Int) (D : xD) (Q : Option xv → xD → Prop) (ha0 : xalen none n a0 = some La0) :
  WP n F none 147 21 [some (.inr (.inr (some a0))), some (.inl x1)] [] D Q =
  ((8 ≤ x1 → Q none D) ∧ (¬ (8 ≤ x1) → (xinP (10 + x1)) ∧ ((0 : Int) ≤ (10 + x1) ∧ (10 + x1) < (La0 : Int)) ∧ (xinP (176 + x1)) ∧ ((0 : Int) ≤ (176 + x1) ∧ (176 + x1) < (La0 : Int)) ∧ (xinP (x1 + 1)) ∧ WP n F none 147 21 [some (.inr (.inr (some a0))), some (.inl (x1 + 1))] [] (xup (xup D a0 (10 + x1) 99) a0 (176 + x1) (-1)) Q)) :=
  (WP.ldI rfl rfl).trans <| (WP.kI rfl).trans <| (WP.ic3 rfl).trans <| br_eq (WP.ret rfl rfl) ((WP.ldR rfl rfl).trans <| (WP.kI rfl).trans <| (WP.ldI rfl rfl).trans <| (WP.iadd rfl).trans <| cn_eq ((WP.kI rfl).trans <| (WP.iast rfl ha0).trans <| cn_eq ((WP.ldR rfl rfl).trans <| (WP.kI rfl).trans <| (WP.ldI rfl rfl).trans <| (WP.iadd rfl).trans <| cn_eq ((WP.kI rfl).trans <| (WP.iast rfl ha0).trans <| cn_eq ((WP.iinc rfl rfl rfl).trans <| cn_eq (WP.goto rfl))))))
theorem sen148_0 (n : Nat) (F : Nat → Nat → Bool) (a0 : Nat) (La0 : Nat) (a1 : Nat) (La1 : Nat) (o2 : Option xv) (D : xD) (Q : Option xv → xD → Prop) (ha0 : xalen none n a0 = some La0) (ha1 : xalen none n a1 = some La1) :
  WP n F none 148 0 [some (.inr (.inr (some a0))), some (.inr (.inr (some a1))), o2] [] D Q =
  (WP n F none 148 2 [some (.inr (.inr (some a0))), some (.inr (.inr (some a1))), some (.inl 0)] [] D Q) :=
  (WP.kI rfl).trans <| WP.stI rfl rfl
theorem sen148_2 (n : Nat) (F : Nat → Nat → Bool) (a0 : Nat) (La0 : Nat) (a1 : Nat) (La1 : Nat) (x2 : Int) (D : xD) (Q : Option xv → xD → Prop) (ha0 : xalen none n a0 = some La0) (ha1 : xalen none n a1 = some La1) :
  WP n F none 148 2 [some (.inr (.inr (some a0))), some (.inr (.inr (some a1))), some (.inl x2)] [] D Q =
  ((640 ≤ x2 → Q none D) ∧ (¬ (640 ≤ x2) → ((0 : Int) ≤ x2 ∧ x2 < (La0 : Int)) ∧ ((0 : Int) ≤ x2 ∧ x2 < (La1 : Int)) ∧ (xinP (x2 + 1)) ∧ WP n F none 148 2 [some (.inr (.inr (some a0))), some (.inr (.inr (some a1))), some (.inl (x2 + 1))] [] (xup D a1 x2 (D a0 x2)) Q)) :=
  (WP.ldI rfl rfl).trans <| (WP.kI rfl).trans <| (WP.ic3 rfl).trans <| br_eq (WP.ret rfl rfl) ((WP.ldR rfl rfl).trans <| (WP.ldI rfl rfl).trans <| (WP.ldR rfl rfl).trans <| (WP.ldI rfl rfl).trans <| (WP.iald rfl ha0).trans <| cn_eq ((WP.iast rfl ha1).trans <| cn_eq ((WP.iinc rfl rfl rfl).trans <| cn_eq (WP.goto rfl))))
theorem sen240_0 (n : Nat) (F : Nat → Nat → Bool) (a0 : Nat) (La0 : Nat) (x1 : Int) (o2 : Option xv) (o3 : Option xv) (D : xD) (Q : Option xv → xD → Prop) (ha0 : xalen none n a0 = some La0) :
  WP n F none 240 0 [some (.inr (.inr (some a0))), some (.inl x1), o2, o3] [] D Q =
  (((La0 : Int) ≤ 2147483647) ∧ WP n F none 240 5 [some (.inr (.inr (some a0))), some (.inl x1), some (.inl 0), some (.inl (La0 : Int))] [] D Q) :=
  (WP.kI rfl).trans <| (WP.stI rfl rfl).trans <| (WP.ldR rfl rfl).trans <| (WP.alen2 rfl ha0).trans <| cn_eq (WP.stI rfl rfl)
theorem sen240_5 (n : Nat) (F : Nat → Nat → Bool) (a0 : Nat) (La0 : Nat) (x1 : Int) (x2 : Int) (x3 : Int) (D : xD) (Q : Option xv → xD → Prop) (ha0 : xalen none n a0 = some La0) :
  WP n F none 240 5 [some (.inr (.inr (some a0))), some (.inl x1), some (.inl x2), some (.inl x3)] [] D Q =
  ((x3 ≤ x2 → Q none D) ∧ (¬ (x3 ≤ x2) → ((0 : Int) ≤ x2 ∧ x2 < (La0 : Int)) ∧ (xinP (x2 + 1)) ∧ WP n F none 240 5 [some (.inr (.inr (some a0))), some (.inl x1), some (.inl (x2 + 1)), some (.inl x3)] [] (xup D a0 x2 x1) Q)) :=
  (WP.ldI rfl rfl).trans <| (WP.ldI rfl rfl).trans <| (WP.ic3 rfl).trans <| br_eq (WP.ret rfl rfl) ((WP.ldR rfl rfl).trans <| (WP.ldI rfl rfl).trans <| (WP.ldI rfl rfl).trans <| (WP.iast rfl ha0).trans <| cn_eq ((WP.iinc rfl rfl rfl).trans <| cn_eq (WP.goto rfl)))
section M98v2
variable {n a : Nat} {F : Nat → Nat → Bool} {x1 x2 x3 : Int} {D : xD} {Q : Option xv → xD → Prop}
theorem n240l {L : Nat} (hL : xalen none n a = some L) (hb : L ≤ 2000) : ∀ (k : Nat) (x2 : Int) (D : xD), (L : Int) = x2 + k → 0 ≤ x2 → WP n F none 240 5 [some (.inr (.inr (some a))), some (.inl x1), some (.inl x2), some (.inl (L : Int))] [] D Q = Q none (xfil D a x2 L x1) := by
  intro k
  induction k with
  | zero =>
    intro x2 D h1 h2
    rw [sen240_5 (ha0 := hL)]
    simp (disch := omega) only [Option.toList_some, Option.toList_none, List.cons_append, List.nil_append, brT, brF, brQ, zoi, cnB, cnX, true_or, or_true, true_and, ite_not, Nat.reduceAdd, ne_eq, fil_0]
  | succ k ih =>
    intro x2 D h1 h2
    rw [sen240_5 (ha0 := hL)]
    simp (disch := omega) only [Option.toList_some, Option.toList_none, List.cons_append, List.nil_append, brT, brF, brQ, zoi, cnB, cnX, true_or, or_true, true_and, ite_not, Nat.reduceAdd, ne_eq, ih, fil_up]
theorem n240 {L : Nat} {o2 o3 : Option xv} (hL : xalen none n a = some L) (hb : L ≤ 2000) : WP n F none 240 0 [some (.inr (.inr (some a))), some (.inl x1), o2, o3] [] D Q = Q none (xfil D a 0 L x1) := by
  rw [sen240_0 (ha0 := hL), n240l hL hb L 0 D (by omega) (by omega)]
  exact cnT (by omega)
theorem n148l {a1 : Nat} (hL : xalen none n a = some 640) (hM : xalen none n a1 = some 640) (hab : a ≠ a1) : ∀ (k : Nat) (x2 : Int) (D : xD), 640 = x2 + k → 0 ≤ x2 → WP n F none 148 2 [some (.inr (.inr (some a))), some (.inr (.inr (some a1))), some (.inl x2)] [] D Q = Q none (xcpy D a a1 x2 x2 (640 - x2)) := by
  intro k
  induction k with
  | zero =>
    intro x2 D h1 h2
    rw [sen148_2 (ha0 := hL) (ha1 := hM)]
    simp (disch := omega) only [Option.toList_some, Option.toList_none, List.cons_append, List.nil_append, brT, brF, brQ, zoi, cnB, cnX, true_or, or_true, true_and, ite_not, Nat.reduceAdd, ne_eq]
    rw [show 640 - x2 = 0 by omega, cpy_0]
  | succ k ih =>
    intro x2 D h1 h2
    rw [sen148_2 (ha0 := hL) (ha1 := hM)]
    simp (disch := omega) only [Option.toList_some, Option.toList_none, List.cons_append, List.nil_append, brT, brF, brQ, zoi, cnB, cnX, true_or, or_true, true_and, ite_not, Nat.reduceAdd, ne_eq, ih]
    rw [show 640 - (x2 + 1) = 640 - x2 - 1 by omega, cpy_up hab (by omega)]
theorem n148 {a1 : Nat} {o2 : Option xv} (hL : xalen none n a = some 640) (hM : xalen none n a1 = some 640) (hab : a ≠ a1) : WP n F none 148 0 [some (.inr (.inr (some a))), some (.inr (.inr (some a1))), o2] [] D Q = Q none (xcpy D a a1 0 0 640) := by
  rw [sen148_0 (ha0 := hL) (ha1 := hM), n148l hL hM hab 640 0 D (by omega) (by omega)]
  rfl
theorem n147a (hL : xalen none n a = some 640) (hq : ∀ D' : xD, (∀ b, b ≠ a → D' b = D b) → (∀ j, 0 ≤ j → j < 640 → D' a j = 0) → WP n F none 147 2 [some (.inr (.inr (some a))), some (.inl 640)] [] D' Q) :
    ∀ (k : Nat) (x1 : Int) (D' : xD), x1 + k = 640 → 0 ≤ x1 → (∀ b, b ≠ a → D' b = D b) → (∀ j, 0 ≤ j → j < x1 → D' a j = 0) → WP n F none 147 2 [some (.inr (.inr (some a))), some (.inl x1)] [] D' Q := by
  intro k
  induction k with
  | zero =>
    intro x1 D' h1 h2 h3 h4
    have e : x1 = 640 := by omega
    subst e
    exact hq D' h3 h4
  | succ k ih =>
    intro x1 D' h1 h2 h3 h4
    rw [sen147_2 (ha0 := hL), brF (by omega), cnB (by omega), cnX (by omega)]
    refine ih (x1 + 1) _ (by omega) (by omega) (fun b hb => by rw [up_ne hb]; exact h3 b hb) (fun j j1 j2 => ?_)
    rw [up_at]
    by_cases c : j = x1
    · rw [if_pos c]
    · rw [if_neg c]; exact h4 j j1 (by omega)
theorem n147b (hL : xalen none n a = some 640) (hq : ∀ D' : xD, (∀ b, b ≠ a → D' b = D b) → (∀ j, 0 ≤ j → j < 640 → D' a j = emA j) → Q none D') :
    ∀ (k : Nat) (x1 : Int) (D' : xD), x1 + k = 8 → 0 ≤ x1 → (∀ b, b ≠ a → D' b = D b) → (∀ j, 0 ≤ j → j < 640 → D' a j = if 10 ≤ j ∧ j < 10 + x1 then 99 else if 176 ≤ j ∧ j < 176 + x1 then -1 else 0) → WP n F none 147 21 [some (.inr (.inr (some a))), some (.inl x1)] [] D' Q := by
  intro k
  induction k with
  | zero =>
    intro x1 D' h1 h2 h3 h4
    rw [sen147_21 (ha0 := hL), brT (by omega)]
    refine hq D' h3 (fun j j1 j2 => ?_)
    rw [h4 j j1 j2, show (10 : Int) + x1 = 18 by omega, show (176 : Int) + x1 = 184 by omega]
    rfl
  | succ k ih =>
    intro x1 D' h1 h2 h3 h4
    rw [sen147_21 (ha0 := hL), brF (by omega), cnX (by omega), cnB (by omega), cnX (by omega), cnB (by omega), cnX (by omega)]
    refine ih (x1 + 1) _ (by omega) (by omega) (fun b hb => by rw [up_ne hb, up_ne hb]; exact h3 b hb) (fun j j1 j2 => ?_)
    rw [up_at, up_at, h4 j j1 j2]
    by_cases c : j = 176 + x1
    · rw [if_pos c, if_neg (by omega), if_pos (by omega)]
    · rw [if_neg c]
      by_cases c2 : j = 10 + x1
      · rw [if_pos c2, if_pos (by omega)]
      · rw [if_neg c2]
        by_cases c3 : 10 ≤ j ∧ j < 10 + x1
        · rw [if_pos c3, if_pos (by omega)]
        · rw [if_neg c3]
          by_cases c4 : 176 ≤ j ∧ j < 176 + x1
          · rw [if_pos c4, if_neg (by omega), if_pos (by omega)]
          · rw [if_neg c4, if_neg (by omega), if_neg (by omega)]
theorem n147 {o1 : Option xv} (hL : xalen none n a = some 640) (hq : ∀ D' : xD, (∀ b, b ≠ a → D' b = D b) → (∀ j, 0 ≤ j → j < 640 → D' a j = emA j) → Q none D') : WP n F none 147 0 [some (.inr (.inr (some a))), o1] [] D Q := by
  rw [sen147_0 (ha0 := hL)]
  refine n147a hL (fun D1 f1 f2 => ?_) 640 0 D (by omega) (by omega) (fun _ _ => rfl) (fun j j1 j2 => by omega)
  rw [sen147_2 (ha0 := hL), brT (by omega)]
  exact n147b (D := D1) hL (fun D2 g1 g2 => hq D2 (fun b hb => by rw [g1 b hb, f1 b hb]) g2) 8 0 D1 (by omega) (by omega) (fun _ _ => rfl) (fun j j1 j2 => by rw [f2 j j1 j2, if_neg (by omega), if_neg (by omega)])
end M98v2
