/-! runs by conditions: WP .. Q says that the run from here ends, with Q; an equation an instruction -/
theorem xrun_mono {n : Nat} {F : Nat → Nat → Bool} : ∀ (f : Nat) (lo : Option Nat) (y p : Nat) (ls : xls) (st : xst) (D : xD) (q : Option xv × xD), xrun n F f lo y p ls st D = some q → ∀ g, f ≤ g → xrun n F g lo y p ls st D = some q := by
  intro f
  induction f with
  | zero => intro lo y p ls st D q h; cases h
  | succ f ih =>
    intro lo y p ls st D q h g hg
    obtain ⟨g, rfl⟩ : ∃ g', g = g' + 1 := ⟨g - 1, by omega⟩
    unfold xrun at h ⊢
    dsimp only at h ⊢
    cases h29 : Nat.beq (xcd y p).1 29 with
    | true => rw [h29] at h; exact h
    | false =>
      rw [h29] at h
      simp only [cond_false] at h ⊢
      cases h28 : Nat.beq (xcd y p).1 28 with
      | true =>
        rw [h28] at h
        simp only [cond_true] at h ⊢
        split at h
        · rename_i av rest hpop
          cases hq : (xrecv n (xcd y p).2.2.1 av && Nat.ble (xcat rest) 8 && !((xcd y p).2.1 == 2) && !(Nat.beq (xcd y p).2.2.1 239)) with
          | false => rw [hq] at h; cases h
          | true =>
            rw [hq] at h
            simp only [cond_true] at h ⊢
            split at h
            · rename_i v D1 h1
              rw [ih _ _ _ _ _ _ _ h1 g (by omega)]
              exact ih _ _ _ _ _ _ _ h g (by omega)
            · cases h
        · cases h
      | false =>
        rw [h28] at h
        simp only [cond_false] at h ⊢
        split at h
        · rename_i p1 ls1 st1 D1 hs
          exact ih _ _ _ _ _ _ _ h g (by omega)
        · cases h
def WP (n : Nat) (F : Nat → Nat → Bool) (lo : Option Nat) (y p : Nat) (ls : xls) (st : xst) (D : xD) (Q : Option xv → xD → Prop) : Prop := ∃ (f : Nat) (v : Option xv) (D' : xD), xrun n F f lo y p ls st D = some (v, D') ∧ Q v D'
theorem WP.mono {n : Nat} {F : Nat → Nat → Bool} {lo : Option Nat} {y p : Nat} {ls : xls} {st : xst} {D : xD} {Q Q' : Option xv → xD → Prop} (h : WP n F lo y p ls st D Q) (k : ∀ v D', Q v D' → Q' v D') : WP n F lo y p ls st D Q' := by
  obtain ⟨f, v, D', h1, h2⟩ := h
  exact ⟨f, v, D', h1, k v D' h2⟩
section WPS
variable {n : Nat} {F : Nat → Nat → Bool} {lo : Option Nat} {y p p' nx u c k : Nat} {x : Int} {mo : List Nat} {ls ls' : xls} {st st' : xst} {D D' : xD} {Q : Option xv → xD → Prop} {i : xi}
theorem WP.step (hi : xcd y p = i) (h29 : Nat.beq i.1 29 = false) (h28 : Nat.beq i.1 28 = false) (hs : xstep lo n F i ls st D = some (p', ls', st', D')) : WP n F lo y p ls st D Q = WP n F lo y p' ls' st' D' Q := by
  subst hi
  refine propext ⟨fun h => ?_, fun h => ?_⟩
  · obtain ⟨f, v, D2, h1, h2⟩ := h
    cases f with
    | zero => cases h1
    | succ f =>
      unfold xrun at h1
      dsimp only at h1
      rw [h29, h28, hs] at h1
      exact ⟨f, v, D2, h1, h2⟩
  · obtain ⟨f, v, D2, h1, h2⟩ := h
    refine ⟨f + 1, v, D2, ?_, h2⟩
    unfold xrun
    dsimp only
    rw [h29, h28, hs]
    exact h1
theorem WP.stuck (hi : xcd y p = i) (h29 : Nat.beq i.1 29 = false) (h28 : Nat.beq i.1 28 = false) (hs : xstep lo n F i ls st D = none) : WP n F lo y p ls st D Q = False := by
  subst hi
  refine propext ⟨fun h => ?_, fun h => h.elim⟩
  obtain ⟨f, v, D2, h1, h2⟩ := h
  cases f with
  | zero => cases h1
  | succ f =>
    unfold xrun at h1
    dsimp only at h1
    rw [h29, h28, hs] at h1
    cases h1
theorem WP.cnd {P : Prop} (hi : xcd y p = i) (h29 : Nat.beq i.1 29 = false) (h28 : Nat.beq i.1 28 = false) (hs : P → xstep lo n F i ls st D = some (p', ls', st', D')) (hn : ¬ P → xstep lo n F i ls st D = none) : WP n F lo y p ls st D Q = (P ∧ WP n F lo y p' ls' st' D' Q) := by
  by_cases hp : P
  · rw [WP.step hi h29 h28 (hs hp)]
    exact propext ⟨fun h => ⟨hp, h⟩, fun h => h.2⟩
  · rw [WP.stuck hi h29 h28 (hn hp)]
    exact propext ⟨fun h => h.elim, fun h => absurd h.1 hp⟩
abbrev xinP (a : Int) : Prop := -2147483648 ≤ a ∧ a ≤ 2147483647
theorem xib_t {a : Int} (h : xinP a) : xib a = true := xib_iff.mpr h
theorem xib_f {a : Int} (h : ¬ xinP a) : xib a = false := by
  cases hq : xib a with
  | false => rfl
  | true => exact absurd (xib_iff.mp hq) h

theorem WP.iadd {a b : Int} (hi : xcd y p = (8, 0, 0, nx, [])) : WP n F lo y p ls (.inl b :: .inl a :: st) D Q = (xinP (a + b) ∧ WP n F lo y nx ls (.inl (a + b) :: st) D Q) := by
  refine WP.cnd hi rfl rfl (fun h => ?_) (fun h => ?_)
  · show (match (bif xib (a + b) then some (a + b) else none) with | some c => some (nx, ls, .inl c :: st, D) | none => none : Option xcf) = _
    rw [xib_t h]
    rfl
  · show (match (bif xib (a + b) then some (a + b) else none) with | some c => some (nx, ls, .inl c :: st, D) | none => none : Option xcf) = _
    rw [xib_f h]
    rfl
theorem WP.isub {a b : Int} (hi : xcd y p = (8, 0, 1, nx, [])) : WP n F lo y p ls (.inl b :: .inl a :: st) D Q = (xinP (a - b) ∧ WP n F lo y nx ls (.inl (a - b) :: st) D Q) := by
  refine WP.cnd hi rfl rfl (fun h => ?_) (fun h => ?_)
  · show (match (bif xib (a - b) then some (a - b) else none) with | some c => some (nx, ls, .inl c :: st, D) | none => none : Option xcf) = _
    rw [xib_t h]
    rfl
  · show (match (bif xib (a - b) then some (a - b) else none) with | some c => some (nx, ls, .inl c :: st, D) | none => none : Option xcf) = _
    rw [xib_f h]
    rfl
theorem WP.imul {a b : Int} (hi : xcd y p = (8, 0, 2, nx, [])) : WP n F lo y p ls (.inl b :: .inl a :: st) D Q = (xinP (a * b) ∧ WP n F lo y nx ls (.inl (a * b) :: st) D Q) := by
  refine WP.cnd hi rfl rfl (fun h => ?_) (fun h => ?_)
  · show (match (bif xib (a * b) then some (a * b) else none) with | some c => some (nx, ls, .inl c :: st, D) | none => none : Option xcf) = _
    rw [xib_t h]
    rfl
  · show (match (bif xib (a * b) then some (a * b) else none) with | some c => some (nx, ls, .inl c :: st, D) | none => none : Option xcf) = _
    rw [xib_f h]
    rfl
theorem WP.iand {a b : Int} (hi : xcd y p = (8, 0, 3, nx, [])) : WP n F lo y p ls (.inl b :: .inl a :: st) D Q = WP n F lo y nx ls (.inl (iand a b) :: st) D Q := WP.step hi rfl rfl rfl
theorem WP.ior {a b : Int} (hi : xcd y p = (8, 0, 4, nx, [])) : WP n F lo y p ls (.inl b :: .inl a :: st) D Q = WP n F lo y nx ls (.inl (ior a b) :: st) D Q := WP.step hi rfl rfl rfl
theorem WP.ixor {a b : Int} (hi : xcd y p = (8, 0, 5, nx, [])) : WP n F lo y p ls (.inl b :: .inl a :: st) D Q = WP n F lo y nx ls (.inl (ixor a b) :: st) D Q := WP.step hi rfl rfl rfl
theorem WP.ishl {a b : Int} (hi : xcd y p = (8, 0, 6, nx, [])) : WP n F lo y p ls (.inl b :: .inl a :: st) D Q = WP n F lo y nx ls (.inl (ishl a b) :: st) D Q := WP.step hi rfl rfl rfl
theorem WP.ishr {a b : Int} (hi : xcd y p = (8, 0, 7, nx, [])) : WP n F lo y p ls (.inl b :: .inl a :: st) D Q = WP n F lo y nx ls (.inl (ishr a b) :: st) D Q := WP.step hi rfl rfl rfl
theorem WP.iushr {a b : Int} (hi : xcd y p = (8, 0, 8, nx, [])) : WP n F lo y p ls (.inl b :: .inl a :: st) D Q = WP n F lo y nx ls (.inl (iushr a b) :: st) D Q := WP.step hi rfl rfl rfl
theorem WP.idiv {a b : Int} (hi : xcd y p = (8, 0, 9, nx, [])) : WP n F lo y p ls (.inl b :: .inl a :: st) D Q = (b ≠ 0 ∧ WP n F lo y nx ls (.inl (idv a b) :: st) D Q) := by
  refine WP.cnd hi rfl rfl (fun h => ?_) (fun h => ?_)
  · show (match (bif decide (b = 0) then none else some (idv a b)) with | some c => some (nx, ls, .inl c :: st, D) | none => none : Option xcf) = _
    rw [decide_eq_false h]
    rfl
  · show (match (bif decide (b = 0) then none else some (idv a b)) with | some c => some (nx, ls, .inl c :: st, D) | none => none : Option xcf) = _
    rw [decide_eq_true (Classical.not_not.mp h)]
    rfl
theorem WP.irem {a b : Int} (hi : xcd y p = (8, 0, 10, nx, [])) : WP n F lo y p ls (.inl b :: .inl a :: st) D Q = (b ≠ 0 ∧ WP n F lo y nx ls (.inl (irm a b) :: st) D Q) := by
  refine WP.cnd hi rfl rfl (fun h => ?_) (fun h => ?_)
  · show (match (bif decide (b = 0) then none else some (irm a b)) with | some c => some (nx, ls, .inl c :: st, D) | none => none : Option xcf) = _
    rw [decide_eq_false h]
    rfl
  · show (match (bif decide (b = 0) then none else some (irm a b)) with | some c => some (nx, ls, .inl c :: st, D) | none => none : Option xcf) = _
    rw [decide_eq_true (Classical.not_not.mp h)]
    rfl
theorem WP.ineg {a : Int} (hi : xcd y p = (9, 0, 0, nx, [])) : WP n F lo y p ls (.inl a :: st) D Q = (xinP (-a) ∧ WP n F lo y nx ls (.inl (-a) :: st) D Q) := by
  refine WP.cnd hi rfl rfl (fun h => ?_) (fun h => ?_)
  · show (bif xib (-a) then some (nx, ls, .inl (-a) :: st, D) else none) = _
    rw [xib_t h]
    rfl
  · show (bif xib (-a) then some (nx, ls, .inl (-a) :: st, D) else none) = _
    rw [xib_f h]
    rfl
theorem WP.iinc {v : Int} (hi : xcd y p = (7, x, u, nx, [])) (hl : ls[u]? = some (some (.inl v))) (hp : xput ls u (.inl (v + x)) = some ls') : WP n F lo y p ls st D Q = (xinP (v + x) ∧ WP n F lo y nx ls' st D Q) := by
  refine WP.cnd hi rfl rfl (fun h => ?_) (fun h => ?_)
  · show xo7 x u nx ls st D = _
    unfold xo7
    rw [hl]
    dsimp only
    rw [xib_t h, hp]
    rfl
  · show xo7 x u nx ls st D = _
    unfold xo7
    rw [hl]
    dsimp only
    rw [xib_f h]
    rfl
theorem WP.getI {a : Nat} (hi : xcd y p = (14, x, c, nx, [k])) (ho : xisO n a c = true) : WP n F lo y p ls (.inr (.inr (some a)) :: st) D Q = WP n F lo y nx ls (.inl (D a k) :: st) D Q := WP.step hi rfl rfl (by
  show (bif xisO n a c then some (nx, ls, .inl (D a k) :: st, D) else none) = _
  rw [ho]
  rfl)
theorem WP.getR {a b : Nat} (hi : xcd y p = (15, x, c, nx, [k])) (ho : xisO n a c = true) (hF : F a k = true) (hb : a + x.toNat = b) : WP n F lo y p ls (.inr (.inr (some a)) :: st) D Q = WP n F lo y nx ls (.inr (.inr (some b)) :: st) D Q := WP.step hi rfl rfl (by
  show (bif xisO n a c && F a k then some (nx, ls, .inr (.inr (some (a + x.toNat))) :: st, D) else none) = _
  rw [ho, hF, hb]
  rfl)
theorem WP.getL {a : Nat} (hi : xcd y p = (16, x, c, nx, [k])) (ho : xisO n a c = true) : WP n F lo y p ls (.inr (.inr (some a)) :: st) D Q = WP n F lo y nx ls (.inr (.inl (D a k)) :: st) D Q := WP.step hi rfl rfl (by
  show (bif xisO n a c then some (nx, ls, .inr (.inl (D a k)) :: st, D) else none) = _
  rw [ho]
  rfl)
theorem WP.putI {a : Nat} {v : Int} (hi : xcd y p = (17, 0, c, nx, [k])) (ho : xisO n a c = true) : WP n F lo y p ls (.inl v :: .inr (.inr (some a)) :: st) D Q = WP n F lo y nx ls st (xup D a k v) Q := WP.step hi rfl rfl (by
  show (bif xisO n a c && xbit 0 v then some (nx, ls, st, xup D a k v) else none) = _
  rw [ho]
  rfl)
theorem WP.putZ {a : Nat} {v : Int} (hi : xcd y p = (17, 1, c, nx, [k])) (ho : xisO n a c = true) : WP n F lo y p ls (.inl v :: .inr (.inr (some a)) :: st) D Q = ((v = 0 ∨ v = 1) ∧ WP n F lo y nx ls st (xup D a k v) Q) := by
  refine WP.cnd hi rfl rfl (fun h => ?_) (fun h => ?_)
  · show (bif xisO n a c && xbit 1 v then some (nx, ls, st, xup D a k v) else none) = _
    rw [ho, show xbit 1 v = true by simp [xbit, h]]
    rfl
  · show (bif xisO n a c && xbit 1 v then some (nx, ls, st, xup D a k v) else none) = _
    rw [ho, show xbit 1 v = false by simp only [not_or] at h; simp [xbit, h.1, h.2]]
    rfl
theorem WP.putL {a : Nat} {v : Int} (hi : xcd y p = (19, x, c, nx, [k])) (ho : xisO n a c = true) : WP n F lo y p ls (.inr (.inl v) :: .inr (.inr (some a)) :: st) D Q = WP n F lo y nx ls st (xup D a k v) Q := WP.step hi rfl rfl (by
  show (bif xisO n a c then some (nx, ls, st, xup D a k v) else none) = _
  rw [ho]
  rfl)
theorem xix_t {j : Int} {L : Nat} {m : Option Nat} (hm : m = some L) (h : 0 ≤ j ∧ j < (L : Int)) : xix j m = true := by
  subst hm
  simp [xix, h.1, h.2]
theorem xix_f {j : Int} {L : Nat} {m : Option Nat} (hm : m = some L) (h : ¬ (0 ≤ j ∧ j < (L : Int))) : xix j m = false := by
  subst hm
  cases hq : xix j (some L) with
  | false => rfl
  | true =>
    simp only [xix, Bool.and_eq_true, decide_eq_true_eq] at hq
    exact absurd hq h
theorem WP.iald {a L : Nat} {j : Int} (hi : xcd y p = (20, 0, 0, nx, [])) (hL : xalen lo n a = some L) : WP n F lo y p ls (.inl j :: .inr (.inr (some a)) :: st) D Q = ((0 ≤ j ∧ j < (L : Int)) ∧ WP n F lo y nx ls (.inl (D a j) :: st) D Q) := by
  refine WP.cnd hi rfl rfl (fun h => ?_) (fun h => ?_)
  · show (bif xix j (xalen lo n a) then some (nx, ls, .inl (D a j) :: st, D) else none) = _
    rw [xix_t hL h]
    rfl
  · show (bif xix j (xalen lo n a) then some (nx, ls, .inl (D a j) :: st, D) else none) = _
    rw [xix_f hL h]
    rfl
theorem WP.iast {a L : Nat} {j v : Int} (hi : xcd y p = (21, 0, 0, nx, [])) (hL : xalen none n a = some L) : WP n F lo y p ls (.inl v :: .inl j :: .inr (.inr (some a)) :: st) D Q = ((0 ≤ j ∧ j < (L : Int)) ∧ WP n F lo y nx ls st (xup D a j v) Q) := by
  refine WP.cnd hi rfl rfl (fun h => ?_) (fun h => ?_)
  · show (bif xix j (xalen none n a) then some (nx, ls, st, xup D a j v) else none) = _
    rw [xix_t hL h]
    rfl
  · show (bif xix j (xalen none n a) then some (nx, ls, st, xup D a j v) else none) = _
    rw [xix_f hL h]
    rfl
theorem WP.bald {a L : Nat} {j : Int} (hi : xcd y p = (22, 0, 0, nx, [])) (hL : xzlen n a = some L) : WP n F lo y p ls (.inl j :: .inr (.inr (some a)) :: st) D Q = ((0 ≤ j ∧ j < (L : Int)) ∧ WP n F lo y nx ls (.inl (D a j) :: st) D Q) := by
  refine WP.cnd hi rfl rfl (fun h => ?_) (fun h => ?_)
  · show (bif xix j (xzlen n a) then some (nx, ls, .inl (D a j) :: st, D) else none) = _
    rw [xix_t hL h]
    rfl
  · show (bif xix j (xzlen n a) then some (nx, ls, .inl (D a j) :: st, D) else none) = _
    rw [xix_f hL h]
    rfl
theorem WP.bast {a L : Nat} {j v : Int} (hi : xcd y p = (23, 0, 0, nx, [])) (hL : xzlen n a = some L) : WP n F lo y p ls (.inl v :: .inl j :: .inr (.inr (some a)) :: st) D Q = ((0 ≤ j ∧ j < (L : Int) ∧ (v = 0 ∨ v = 1)) ∧ WP n F lo y nx ls st (xup D a j v) Q) := by
  refine WP.cnd hi rfl rfl (fun h => ?_) (fun h => ?_)
  · show (bif xix j (xzlen n a) && xbit 1 v then some (nx, ls, st, xup D a j v) else none) = _
    rw [xix_t hL ⟨h.1, h.2.1⟩, show xbit 1 v = true by simp [xbit, h.2.2]]
    rfl
  · show (bif xix j (xzlen n a) && xbit 1 v then some (nx, ls, st, xup D a j v) else none) = _
    by_cases hj : 0 ≤ j ∧ j < (L : Int)
    · rw [xix_t hL hj, show xbit 1 v = false by
        have h2 : ¬ (v = 0 ∨ v = 1) := fun z => h ⟨hj.1, hj.2, z⟩
        simp only [not_or] at h2
        simp [xbit, h2.1, h2.2]]
      rfl
    · rw [xix_f hL hj]
      rfl
theorem WP.alen {a L : Nat} (hi : xcd y p = (24, 0, 0, nx, [])) (hL : xalen lo n a = some L) (hx : (L : Int) ≤ 2147483647) : WP n F lo y p ls (.inr (.inr (some a)) :: st) D Q = WP n F lo y nx ls (.inl (L : Int) :: st) D Q := WP.step hi rfl rfl (by
  show (match xalen lo n a with | some m => bif xib (m : Int) then some (nx, ls, .inl (m : Int) :: st, D) else none | none => none : Option xcf) = _
  rw [hL]
  dsimp only
  rw [xib_t ⟨by omega, hx⟩]
  rfl)
theorem WP.goto (hi : xcd y p = (25, x, u, nx, [])) : WP n F lo y p ls st D Q = WP n F lo y u ls st D Q := WP.step hi rfl rfl rfl

theorem WP.if0 {a : Int} (hi : xcd y p = (26, 0, u, nx, [])) : WP n F lo y p ls (.inl a :: st) D Q = ((a = 0 → WP n F lo y u ls st D Q) ∧ (¬ (a = 0) → WP n F lo y nx ls st D Q)) := by
  by_cases h : a = 0
  · rw [WP.step hi rfl rfl (show xstep lo n F (26, 0, u, nx, []) ls (.inl a :: st) D = some (u, ls, st, D) from by
      show some (bif decide (a = 0) then u else nx, ls, st, D) = _
      rw [decide_eq_true h]
      rfl)]
    exact propext ⟨fun q => ⟨fun _ => q, fun z => absurd h z⟩, fun q => q.1 h⟩
  · rw [WP.step hi rfl rfl (show xstep lo n F (26, 0, u, nx, []) ls (.inl a :: st) D = some (nx, ls, st, D) from by
      show some (bif decide (a = 0) then u else nx, ls, st, D) = _
      rw [decide_eq_false h]
      rfl)]
    exact propext ⟨fun q => ⟨fun z => absurd z h, fun _ => q⟩, fun q => q.2 h⟩
theorem WP.ic0 {a b : Int} (hi : xcd y p = (27, 0, u, nx, [])) : WP n F lo y p ls (.inl b :: .inl a :: st) D Q = ((a = b → WP n F lo y u ls st D Q) ∧ (¬ (a = b) → WP n F lo y nx ls st D Q)) := by
  by_cases h : a = b
  · rw [WP.step hi rfl rfl (show xstep lo n F (27, 0, u, nx, []) ls (.inl b :: .inl a :: st) D = some (u, ls, st, D) from by
      show some (bif decide (a = b) then u else nx, ls, st, D) = _
      rw [decide_eq_true h]
      rfl)]
    exact propext ⟨fun q => ⟨fun _ => q, fun z => absurd h z⟩, fun q => q.1 h⟩
  · rw [WP.step hi rfl rfl (show xstep lo n F (27, 0, u, nx, []) ls (.inl b :: .inl a :: st) D = some (nx, ls, st, D) from by
      show some (bif decide (a = b) then u else nx, ls, st, D) = _
      rw [decide_eq_false h]
      rfl)]
    exact propext ⟨fun q => ⟨fun z => absurd z h, fun _ => q⟩, fun q => q.2 h⟩
theorem WP.if1 {a : Int} (hi : xcd y p = (26, 1, u, nx, [])) : WP n F lo y p ls (.inl a :: st) D Q = ((a ≠ 0 → WP n F lo y u ls st D Q) ∧ (¬ (a ≠ 0) → WP n F lo y nx ls st D Q)) := by
  by_cases h : a ≠ 0
  · rw [WP.step hi rfl rfl (show xstep lo n F (26, 1, u, nx, []) ls (.inl a :: st) D = some (u, ls, st, D) from by
      show some (bif decide (a ≠ 0) then u else nx, ls, st, D) = _
      rw [decide_eq_true h]
      rfl)]
    exact propext ⟨fun q => ⟨fun _ => q, fun z => absurd h z⟩, fun q => q.1 h⟩
  · rw [WP.step hi rfl rfl (show xstep lo n F (26, 1, u, nx, []) ls (.inl a :: st) D = some (nx, ls, st, D) from by
      show some (bif decide (a ≠ 0) then u else nx, ls, st, D) = _
      rw [decide_eq_false h]
      rfl)]
    exact propext ⟨fun q => ⟨fun z => absurd z h, fun _ => q⟩, fun q => q.2 h⟩
theorem WP.ic1 {a b : Int} (hi : xcd y p = (27, 1, u, nx, [])) : WP n F lo y p ls (.inl b :: .inl a :: st) D Q = ((a ≠ b → WP n F lo y u ls st D Q) ∧ (¬ (a ≠ b) → WP n F lo y nx ls st D Q)) := by
  by_cases h : a ≠ b
  · rw [WP.step hi rfl rfl (show xstep lo n F (27, 1, u, nx, []) ls (.inl b :: .inl a :: st) D = some (u, ls, st, D) from by
      show some (bif decide (a ≠ b) then u else nx, ls, st, D) = _
      rw [decide_eq_true h]
      rfl)]
    exact propext ⟨fun q => ⟨fun _ => q, fun z => absurd h z⟩, fun q => q.1 h⟩
  · rw [WP.step hi rfl rfl (show xstep lo n F (27, 1, u, nx, []) ls (.inl b :: .inl a :: st) D = some (nx, ls, st, D) from by
      show some (bif decide (a ≠ b) then u else nx, ls, st, D) = _
      rw [decide_eq_false h]
      rfl)]
    exact propext ⟨fun q => ⟨fun z => absurd z h, fun _ => q⟩, fun q => q.2 h⟩
theorem WP.if2 {a : Int} (hi : xcd y p = (26, 2, u, nx, [])) : WP n F lo y p ls (.inl a :: st) D Q = ((a < 0 → WP n F lo y u ls st D Q) ∧ (¬ (a < 0) → WP n F lo y nx ls st D Q)) := by
  by_cases h : a < 0
  · rw [WP.step hi rfl rfl (show xstep lo n F (26, 2, u, nx, []) ls (.inl a :: st) D = some (u, ls, st, D) from by
      show some (bif decide (a < 0) then u else nx, ls, st, D) = _
      rw [decide_eq_true h]
      rfl)]
    exact propext ⟨fun q => ⟨fun _ => q, fun z => absurd h z⟩, fun q => q.1 h⟩
  · rw [WP.step hi rfl rfl (show xstep lo n F (26, 2, u, nx, []) ls (.inl a :: st) D = some (nx, ls, st, D) from by
      show some (bif decide (a < 0) then u else nx, ls, st, D) = _
      rw [decide_eq_false h]
      rfl)]
    exact propext ⟨fun q => ⟨fun z => absurd z h, fun _ => q⟩, fun q => q.2 h⟩
theorem WP.ic2 {a b : Int} (hi : xcd y p = (27, 2, u, nx, [])) : WP n F lo y p ls (.inl b :: .inl a :: st) D Q = ((a < b → WP n F lo y u ls st D Q) ∧ (¬ (a < b) → WP n F lo y nx ls st D Q)) := by
  by_cases h : a < b
  · rw [WP.step hi rfl rfl (show xstep lo n F (27, 2, u, nx, []) ls (.inl b :: .inl a :: st) D = some (u, ls, st, D) from by
      show some (bif decide (a < b) then u else nx, ls, st, D) = _
      rw [decide_eq_true h]
      rfl)]
    exact propext ⟨fun q => ⟨fun _ => q, fun z => absurd h z⟩, fun q => q.1 h⟩
  · rw [WP.step hi rfl rfl (show xstep lo n F (27, 2, u, nx, []) ls (.inl b :: .inl a :: st) D = some (nx, ls, st, D) from by
      show some (bif decide (a < b) then u else nx, ls, st, D) = _
      rw [decide_eq_false h]
      rfl)]
    exact propext ⟨fun q => ⟨fun z => absurd z h, fun _ => q⟩, fun q => q.2 h⟩
theorem WP.if3 {a : Int} (hi : xcd y p = (26, 3, u, nx, [])) : WP n F lo y p ls (.inl a :: st) D Q = ((0 ≤ a → WP n F lo y u ls st D Q) ∧ (¬ (0 ≤ a) → WP n F lo y nx ls st D Q)) := by
  by_cases h : 0 ≤ a
  · rw [WP.step hi rfl rfl (show xstep lo n F (26, 3, u, nx, []) ls (.inl a :: st) D = some (u, ls, st, D) from by
      show some (bif decide (0 ≤ a) then u else nx, ls, st, D) = _
      rw [decide_eq_true h]
      rfl)]
    exact propext ⟨fun q => ⟨fun _ => q, fun z => absurd h z⟩, fun q => q.1 h⟩
  · rw [WP.step hi rfl rfl (show xstep lo n F (26, 3, u, nx, []) ls (.inl a :: st) D = some (nx, ls, st, D) from by
      show some (bif decide (0 ≤ a) then u else nx, ls, st, D) = _
      rw [decide_eq_false h]
      rfl)]
    exact propext ⟨fun q => ⟨fun z => absurd z h, fun _ => q⟩, fun q => q.2 h⟩
theorem WP.ic3 {a b : Int} (hi : xcd y p = (27, 3, u, nx, [])) : WP n F lo y p ls (.inl b :: .inl a :: st) D Q = ((b ≤ a → WP n F lo y u ls st D Q) ∧ (¬ (b ≤ a) → WP n F lo y nx ls st D Q)) := by
  by_cases h : b ≤ a
  · rw [WP.step hi rfl rfl (show xstep lo n F (27, 3, u, nx, []) ls (.inl b :: .inl a :: st) D = some (u, ls, st, D) from by
      show some (bif decide (b ≤ a) then u else nx, ls, st, D) = _
      rw [decide_eq_true h]
      rfl)]
    exact propext ⟨fun q => ⟨fun _ => q, fun z => absurd h z⟩, fun q => q.1 h⟩
  · rw [WP.step hi rfl rfl (show xstep lo n F (27, 3, u, nx, []) ls (.inl b :: .inl a :: st) D = some (nx, ls, st, D) from by
      show some (bif decide (b ≤ a) then u else nx, ls, st, D) = _
      rw [decide_eq_false h]
      rfl)]
    exact propext ⟨fun q => ⟨fun z => absurd z h, fun _ => q⟩, fun q => q.2 h⟩
theorem WP.if4 {a : Int} (hi : xcd y p = (26, 4, u, nx, [])) : WP n F lo y p ls (.inl a :: st) D Q = ((0 < a → WP n F lo y u ls st D Q) ∧ (¬ (0 < a) → WP n F lo y nx ls st D Q)) := by
  by_cases h : 0 < a
  · rw [WP.step hi rfl rfl (show xstep lo n F (26, 4, u, nx, []) ls (.inl a :: st) D = some (u, ls, st, D) from by
      show some (bif decide (0 < a) then u else nx, ls, st, D) = _
      rw [decide_eq_true h]
      rfl)]
    exact propext ⟨fun q => ⟨fun _ => q, fun z => absurd h z⟩, fun q => q.1 h⟩
  · rw [WP.step hi rfl rfl (show xstep lo n F (26, 4, u, nx, []) ls (.inl a :: st) D = some (nx, ls, st, D) from by
      show some (bif decide (0 < a) then u else nx, ls, st, D) = _
      rw [decide_eq_false h]
      rfl)]
    exact propext ⟨fun q => ⟨fun z => absurd z h, fun _ => q⟩, fun q => q.2 h⟩
theorem WP.ic4 {a b : Int} (hi : xcd y p = (27, 4, u, nx, [])) : WP n F lo y p ls (.inl b :: .inl a :: st) D Q = ((b < a → WP n F lo y u ls st D Q) ∧ (¬ (b < a) → WP n F lo y nx ls st D Q)) := by
  by_cases h : b < a
  · rw [WP.step hi rfl rfl (show xstep lo n F (27, 4, u, nx, []) ls (.inl b :: .inl a :: st) D = some (u, ls, st, D) from by
      show some (bif decide (b < a) then u else nx, ls, st, D) = _
      rw [decide_eq_true h]
      rfl)]
    exact propext ⟨fun q => ⟨fun _ => q, fun z => absurd h z⟩, fun q => q.1 h⟩
  · rw [WP.step hi rfl rfl (show xstep lo n F (27, 4, u, nx, []) ls (.inl b :: .inl a :: st) D = some (nx, ls, st, D) from by
      show some (bif decide (b < a) then u else nx, ls, st, D) = _
      rw [decide_eq_false h]
      rfl)]
    exact propext ⟨fun q => ⟨fun z => absurd z h, fun _ => q⟩, fun q => q.2 h⟩
theorem WP.if5 {a : Int} (hi : xcd y p = (26, 5, u, nx, [])) : WP n F lo y p ls (.inl a :: st) D Q = ((a ≤ 0 → WP n F lo y u ls st D Q) ∧ (¬ (a ≤ 0) → WP n F lo y nx ls st D Q)) := by
  by_cases h : a ≤ 0
  · rw [WP.step hi rfl rfl (show xstep lo n F (26, 5, u, nx, []) ls (.inl a :: st) D = some (u, ls, st, D) from by
      show some (bif decide (a ≤ 0) then u else nx, ls, st, D) = _
      rw [decide_eq_true h]
      rfl)]
    exact propext ⟨fun q => ⟨fun _ => q, fun z => absurd h z⟩, fun q => q.1 h⟩
  · rw [WP.step hi rfl rfl (show xstep lo n F (26, 5, u, nx, []) ls (.inl a :: st) D = some (nx, ls, st, D) from by
      show some (bif decide (a ≤ 0) then u else nx, ls, st, D) = _
      rw [decide_eq_false h]
      rfl)]
    exact propext ⟨fun q => ⟨fun z => absurd z h, fun _ => q⟩, fun q => q.2 h⟩
theorem WP.ic5 {a b : Int} (hi : xcd y p = (27, 5, u, nx, [])) : WP n F lo y p ls (.inl b :: .inl a :: st) D Q = ((a ≤ b → WP n F lo y u ls st D Q) ∧ (¬ (a ≤ b) → WP n F lo y nx ls st D Q)) := by
  by_cases h : a ≤ b
  · rw [WP.step hi rfl rfl (show xstep lo n F (27, 5, u, nx, []) ls (.inl b :: .inl a :: st) D = some (u, ls, st, D) from by
      show some (bif decide (a ≤ b) then u else nx, ls, st, D) = _
      rw [decide_eq_true h]
      rfl)]
    exact propext ⟨fun q => ⟨fun _ => q, fun z => absurd h z⟩, fun q => q.1 h⟩
  · rw [WP.step hi rfl rfl (show xstep lo n F (27, 5, u, nx, []) ls (.inl b :: .inl a :: st) D = some (nx, ls, st, D) from by
      show some (bif decide (a ≤ b) then u else nx, ls, st, D) = _
      rw [decide_eq_false h]
      rfl)]
    exact propext ⟨fun q => ⟨fun z => absurd z h, fun _ => q⟩, fun q => q.2 h⟩
theorem WP.tab {v : Int} (hi : xcd y p = (31, x, u, nx, mo)) : WP n F lo y p ls (.inl v :: st) D Q = WP n F lo y (bif decide (v < x) then u else mo.getD (v - x).toNat u) ls st D Q := WP.step hi rfl rfl rfl
theorem WP.look {v : Int} (hi : xcd y p = (32, x, u, nx, mo)) : WP n F lo y p ls (.inl v :: st) D Q = WP n F lo y (xlook v u mo) ls st D Q := WP.step hi rfl rfl rfl
theorem WP.copy {a b la lb : Nat} {kk sp dp : Int} (hi : xcd y p = (34, 0, 0, nx, [])) (ha : xalen none n a = some la) (hb : xalen none n b = some lb) (hc : Nat.ble (xcat st) 8 = true) : WP n F lo y p ls (.inl kk :: .inl dp :: .inr (.inr (some b)) :: .inl sp :: .inr (.inr (some a)) :: st) D Q = ((0 ≤ kk ∧ 0 ≤ sp ∧ 0 ≤ dp ∧ sp + kk ≤ (la : Int) ∧ dp + kk ≤ (lb : Int)) ∧ WP n F lo y nx ls st (xcpy D a b sp dp kk) Q) := by
  refine WP.cnd hi rfl rfl (fun h => ?_) (fun h => ?_)
  · show (match xalen none n a, xalen none n b with
    | some la, some lb => bif decide (0 ≤ kk) && decide (0 ≤ sp) && decide (0 ≤ dp) && decide (sp + kk ≤ (la : Int)) && decide (dp + kk ≤ (lb : Int)) && Nat.ble (xcat st) 8 then some (nx, ls, st, xcpy D a b sp dp kk) else none
    | _, _ => none : Option xcf) = _
    rw [ha, hb]
    dsimp only
    rw [hc, decide_eq_true h.1, decide_eq_true h.2.1, decide_eq_true h.2.2.1, decide_eq_true h.2.2.2.1, decide_eq_true h.2.2.2.2]
    rfl
  · show (match xalen none n a, xalen none n b with
    | some la, some lb => bif decide (0 ≤ kk) && decide (0 ≤ sp) && decide (0 ≤ dp) && decide (sp + kk ≤ (la : Int)) && decide (dp + kk ≤ (lb : Int)) && Nat.ble (xcat st) 8 then some (nx, ls, st, xcpy D a b sp dp kk) else none
    | _, _ => none : Option xcf) = _
    rw [ha, hb]
    dsimp only
    cases hq : (decide (0 ≤ kk) && decide (0 ≤ sp) && decide (0 ≤ dp) && decide (sp + kk ≤ (la : Int)) && decide (dp + kk ≤ (lb : Int)) && Nat.ble (xcat st) 8) with
    | false => rfl
    | true =>
      simp only [Bool.and_eq_true, decide_eq_true_eq] at hq
      exact absurd ⟨hq.1.1.1.1.1, hq.1.1.1.1.2, hq.1.1.1.2, hq.1.1.2, hq.1.2⟩ h
theorem WP.kmax {a b : Int} (hi : xcd y p = (35, 0, 0, nx, [])) (hc : Nat.ble (xcat st) 8 = true) : WP n F lo y p ls (.inl b :: .inl a :: st) D Q = WP n F lo y nx ls (.inl (max a b) :: st) D Q := WP.step hi rfl rfl (by
  show (bif Nat.ble (xcat st) 8 then some (nx, ls, .inl (max a b) :: st, D) else none) = _
  rw [hc]
  rfl)
theorem WP.kmin {a b : Int} (hi : xcd y p = (36, 0, 0, nx, [])) (hc : Nat.ble (xcat st) 8 = true) : WP n F lo y p ls (.inl b :: .inl a :: st) D Q = WP n F lo y nx ls (.inl (min a b) :: st) D Q := WP.step hi rfl rfl (by
  show (bif Nat.ble (xcat st) 8 then some (nx, ls, .inl (min a b) :: st, D) else none) = _
  rw [hc]
  rfl)
theorem WP.slen {a : Nat} (hi : xcd y p = (38, 0, 0, nx, [])) (ha : Nat.ble 1000 a && Nat.blt a 1007 && Nat.ble (xcat st) 8 = true) : WP n F lo y p ls (.inr (.inr (some a)) :: st) D Q = WP n F lo y nx ls (.inl ((xstr (a - 1000)).length : Int) :: st) D Q := WP.step hi rfl rfl (by
  show (bif Nat.ble 1000 a && Nat.blt a 1007 && Nat.ble (xcat st) 8 then some (nx, ls, .inl ((xstr (a - 1000)).length : Int) :: st, D) else none) = _
  simp only [Bool.decide_eq_true] at ha
  rw [ha]
  rfl)
theorem WP.chr {a : Nat} {j : Int} (hi : xcd y p = (39, 0, 0, nx, [])) (ha : Nat.ble 1000 a && Nat.blt a 1007 = true) (hc : Nat.ble (xcat st) 8 = true) : WP n F lo y p ls (.inl j :: .inr (.inr (some a)) :: st) D Q = ((0 ≤ j ∧ j < ((xstr (a - 1000)).length : Int)) ∧ WP n F lo y nx ls (.inl ((xstr (a - 1000)).getD j.toNat 0) :: st) D Q) := by
  simp only [Bool.decide_eq_true] at ha
  refine WP.cnd hi rfl rfl (fun h => ?_) (fun h => ?_)
  · show (bif Nat.ble 1000 a && Nat.blt a 1007 && decide (0 ≤ j) && decide (j < ((xstr (a - 1000)).length : Int)) && Nat.ble (xcat st) 8 then some (nx, ls, .inl ((xstr (a - 1000)).getD j.toNat 0) :: st, D) else none) = _
    rw [ha, hc, decide_eq_true h.1, decide_eq_true h.2]
    rfl
  · show (bif Nat.ble 1000 a && Nat.blt a 1007 && decide (0 ≤ j) && decide (j < ((xstr (a - 1000)).length : Int)) && Nat.ble (xcat st) 8 then some (nx, ls, .inl ((xstr (a - 1000)).getD j.toNat 0) :: st, D) else none) = _
    rw [ha, hc]
    cases hq : (decide (0 ≤ j) && decide (j < ((xstr (a - 1000)).length : Int))) with
    | false => simp only [Bool.true_and, Bool.and_true, hq]; rfl
    | true =>
      simp only [Bool.and_eq_true, decide_eq_true_eq] at hq
      exact absurd hq h
theorem WP.l2i {a : Int} (hi : xcd y p = (42, 0, 4, nx, [])) : WP n F lo y p ls (.inr (.inl a) :: st) D Q = (xinP a ∧ WP n F lo y nx ls (.inl a :: st) D Q) := by
  refine WP.cnd hi rfl rfl (fun h => ?_) (fun h => ?_)
  · show (bif xib a then some (nx, ls, .inl a :: st, D) else none) = _
    rw [xib_t h]
    rfl
  · show (bif xib a then some (nx, ls, .inl a :: st, D) else none) = _
    rw [xib_f h]
    rfl
theorem WP.ret {v : Option xv} (hi : xcd y p = (29, 0, u, nx, [])) (hr : xretv (xsg y).2.2.1 u st = some v) : WP n F lo y p ls st D Q = Q v D := by
  refine propext ⟨fun h => ?_, fun h => ?_⟩
  · obtain ⟨f, w, D2, h1, h2⟩ := h
    cases f with
    | zero => cases h1
    | succ f =>
      unfold xrun at h1
      rw [hi] at h1
      have h1 : (match xretv (xsg y).2.2.1 u st with | some v => some (v, D) | none => none) = some (w, D2) := h1
      rw [hr] at h1
      cases h1
      exact h2
  · refine ⟨1, v, D, ?_, h⟩
    unfold xrun
    rw [hi]
    show (match xretv (xsg y).2.2.1 u st with | some v => some (v, D) | none => none) = _
    rw [hr]
theorem WP.retZ {v : Int} (hi : xcd y p = (29, 0, 1, nx, [])) (h3 : (xsg y).2.2.1 = 3) : WP n F lo y p ls [.inl v] D Q = ((v = 0 ∨ v = 1) ∧ Q (some (.inl v)) D) := by
  by_cases hv : v = 0 ∨ v = 1
  · rw [WP.ret hi (v := some (.inl v)) (by
      rw [h3]
      show (bif false || (true && (decide (v = 0) || decide (v = 1))) then some (some (.inl v)) else none : Option (Option xv)) = _
      rcases hv with rfl | rfl <;> rfl)]
    exact propext ⟨fun q => ⟨hv, q⟩, fun q => q.2⟩
  · refine propext ⟨fun h => ?_, fun h => absurd h.1 hv⟩
    obtain ⟨f, w, D2, h1, h2⟩ := h
    cases f with
    | zero => cases h1
    | succ f =>
      unfold xrun at h1
      rw [hi] at h1
      have h1 : (match xretv (xsg y).2.2.1 1 [.inl v] with | some v => some (v, D) | none => none) = some (w, D2) := h1
      rw [h3] at h1
      have h1 : (match (bif false || (true && (decide (v = 0) || decide (v = 1))) then some (some (Sum.inl v)) else none : Option (Option xv)) with | some v => some (v, D) | none => none) = some (w, D2) := h1
      simp only [not_or] at hv
      rw [decide_eq_false hv.1, decide_eq_false hv.2] at h1
      cases h1
theorem WP.call {z : Nat} {kd : Int} {av rest : xst} {le : xls} (hi : xcd y p = (28, kd, z, nx, [])) (hp : xpop (xsg z).1.reverse st [] = some (av, rest)) (hc : (xrecv n z av && Nat.ble (xcat rest) 8 && !(kd == 2) && !(Nat.beq z 239)) = true) (he : xentry (xsg z).2.1 av = le) : WP n F lo y p ls st D Q = WP n F none z 0 le [] D (fun v D' => WP n F lo y nx ls (v.toList ++ rest) D' Q) := by
  subst he
  refine propext ⟨fun h => ?_, fun h => ?_⟩
  · obtain ⟨f, w, D2, h1, h2⟩ := h
    cases f with
    | zero => cases h1
    | succ f =>
      unfold xrun at h1
      rw [hi] at h1
      have h1 : (match xpop (xsg z).1.reverse st [] with
        | some (av, rest) => bif xrecv n z av && Nat.ble (xcat rest) 8 && !(kd == 2) && !(Nat.beq z 239) then
            (match xrun n F f none z 0 (xentry (xsg z).2.1 av) [] D with
            | some (v, D') => xrun n F f lo y nx ls (v.toList ++ rest) D'
            | none => none)
          else none
        | none => none) = some (w, D2) := h1
      rw [hp] at h1
      dsimp only at h1
      rw [hc] at h1
      simp only [cond_true] at h1
      split at h1
      · rename_i v1 D1 hr
        exact ⟨f, v1, D1, hr, f, w, D2, h1, h2⟩
      · cases h1
  · obtain ⟨f, v1, D1, hr, g, w, D2, h1, h2⟩ := h
    refine ⟨Nat.max f g + 1, w, D2, ?_, h2⟩
    unfold xrun
    rw [hi]
    show (match xpop (xsg z).1.reverse st [] with
        | some (av, rest) => bif xrecv n z av && Nat.ble (xcat rest) 8 && !(kd == 2) && !(Nat.beq z 239) then
            (match xrun n F (Nat.max f g) none z 0 (xentry (xsg z).2.1 av) [] D with
            | some (v, D') => xrun n F (Nat.max f g) lo y nx ls (v.toList ++ rest) D'
            | none => none)
          else none
        | none => none) = _
    rw [hp]
    dsimp only
    rw [hc]
    simp only [cond_true]
    rw [xrun_mono _ _ _ _ _ _ _ _ hr _ (Nat.le_max_left f g)]
    exact xrun_mono _ _ _ _ _ _ _ _ h1 _ (Nat.le_max_right f g)
end WPS
