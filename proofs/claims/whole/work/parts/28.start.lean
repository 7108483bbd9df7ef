/-! THE CLAIM OUT OF ONE WALK OF THE LAW'S BODY. Your part is whole_start (and what it stands on); all else here is the same for every law, but numbers. -/
def R_law : String := "OutInTimeLaw"
def lw_P (b : Addr) (xs : List Int32) (args : Array Value) (s : State) : Prop := args = #[.ref b] ∧ s.IntsAt b xs ∧ xs.length ≤ 4096 ∧ (Jvm.Cond.and given_1 narrow_1).before args s = true
def lw_Q (_ : Array Value) (s : State) (o : Outcome) (t : State) : Prop := o = .returned (some (.int 1)) ∧ Framed s o t [] 123 20247
def lw_Z (below : List Frame) (a : Array Value) (s : State) : State → Prop := fun t => ∃ o, t.status = .running ∧ Ended t below o ∧ lw_Q a s o t
/-- the law's own end, with 1 on the stack, nothing written that was there before, its room as the claim has it -/
theorem lw_ret {p : Program} {l : Launch} {e : Env} {s : State} {m : MethodId} {below : List Frame} {meth : Method} {c : Code} {b : Nat} (hx : p.tables.exec = Jvm.exec) (hb : c.code = code) (hr : meth.sig.returnType = ret) (hlocks : meth.locks = false) {pc : Nat} {H : Heap} {ls : Array Slot} (hdg : decode code pc = .ok (.ireturn, 1)) : W p l e room_1 s m #[Value.ref b] below meth c H [] 123 20247 (lw_Z below #[Value.ref b] s) (F0 m pc ls [.int 1]) := by
  intro T hT X
  obtain ⟨fs, hret, hrun, hended, hW, hframe⟩ := X.leave (v := some (.int 1)) (hlocks := hlocks) (fun h => by rw [hr] at h; cases h)
  have hmeth' : T.vm.method? m = some meth := X.method'
  refine ⟨T.setFrames fs, ?_, .returned (some (.int 1)), hrun, hended, rfl, ⟨_, rfl⟩, hW, hframe⟩
  jvm_step X.here [X.here.top, hx, hb, hdg, hmeth', hr, ret, narrow_b1]
  (try refine ⟨rfl, ?_⟩); (try refine ⟨rfl, ?_⟩)
  first | (intro acts; rw [hret _ acts rfl rfl rfl]) | rw [hret _ _ rfl rfl rfl]
  exact Steps.refl _
/-- what holds at the law's entry: the machine, the code, the tables' words (any of lw_tbl by 'hts w (by decide +kernel)'), the script of L ints xs at the cell b, what the Statement gives of the start (any of its parts by flat_of_before) -/
def lw_At (p : Program) (s : State) (m : MethodId) (meth : Method) (c : Code) (b L : Nat) (xs : Nat → Int32) : Prop :=
  p.tables.exec = Jvm.exec ∧ c.code = code ∧ meth.sig.returnType = ret ∧ c.maxLocals = 4 ∧ s.vm.findClass R_law = some m.cls ∧ (∀ w ∈ lw_tbl, w.before #[Value.ref b] s = true) ∧ va_X b L xs s s.heap ∧ b < s.heap.size ∧ meth.locks = false ∧ (Jvm.Cond.and given_1 narrow_1).before #[Value.ref b] s = true

theorem whole_of {p : Program} {e : Env} {s : State} {m : MethodId} {below : List Frame} {meth : Method} {c : Code} (l : Launch) {b L : Nat} {xs : Nat → Int32} (hL : L ≤ 4096) (C0 : lw_At p s m meth c b L xs)
    (hpure : ∃ (f : Nat) (F1 : Nat → Nat → Bool) (D1 : xD), crun f 239 0 [some (.inr (.inr (some 0))), none, none, none] [] 1 (fun _ _ => false) (xD0 (fun j => (xs j.toNat).toInt)) = some (16, [some (.inr (.inr (some 0))), some (.inr (.inr (some 1))), some (.inr (.inr (some 95))), none], [], 124, F1, D1) ∧
      (∀ a k, a < 124 → 10 ≤ (xsh a).1 → k < (xsh a).2 → (xfk ((xsh a).1 - 10) k).1 = 3 → F1 a k = true) ∧
      WP 124 xF1 (some L) 239 16 [some (.inr (.inr (some 0))), some (.inr (.inr (some 1))), some (.inr (.inr (some 95))), none] [] D1 (fun v _ => v = some (.inl 1))) :
    W p l e room_1 s m #[Value.ref b] below meth c s.heap [] 0 0 (lw_Z below #[Value.ref b] s) (entryFrame m ([Value.ref b] : List Value).toArray 4) := by
  obtain ⟨f0, F1, D1, hcr, hF1, fw, v, D2, hrun, rfl⟩ := hpure
  obtain ⟨hx, hb, hr, hml, hown, hts, hX, hbl, hlocks, hgv⟩ := C0
  have hfl := flat_of_before _ hgv
  have hA : ∀ a : Nat, a < s.heap.size → ¬ (fun q : Nat => s.heap.size ≤ q) a := fun a h1 h2 => absurd h2 (Nat.not_le.mpr h1)
  have hKn : ∀ k : Nat, ∃ q : ClassId × (Nat → Nat), k < 11 → u_Kn s (xcn k) (xT k) (xnf k) q.1 q.2 := by
    intro k
    by_cases hk : k < 11
    · have hi : Cond.instantiable (xcn k) (xnf k) ∈ lw_tbl := by
        have h := List.all_eq_true.mp xnn_all k (List.mem_range.mpr hk)
        simp only [Bool.and_eq_true, List.any_eq_true, Nat.beq_eq] at h
        obtain ⟨⟨e1, h1, h2⟩, -⟩ := h
        have := xpass_mem _ _ _ xnn_ps _ (List.mem_map.mpr ⟨e1, h1, rfl⟩)
        rw [h2] at this
        exact this
      obtain ⟨cC, iS, h⟩ := u_known (C := xcn k) (T := xT k) (N := xnf k) (ws := lw_tbl) hts (fun w hw => (List.mem_filter.mp (xuw k hk w hw)).1) (hts _ hi)
      exact ⟨(cC, iS), fun _ => h⟩
    · exact ⟨(0, fun _ => 0), fun h => absurd h hk⟩
  obtain ⟨fK, hfK⟩ := Classical.axiomOfChoice hKn
  obtain ⟨kI, cAI, compI, hI1, hI2, hI3⟩ := Cond.arrayClass_spec (hts (.arrayClass .int) (xlw_in (by simp [xlw])))
  obtain ⟨kZ, cAZ, compZ, hZ1, hZ2, hZ3⟩ := Cond.arrayClass_spec (hts (.arrayClass .boolean) (xlw_in (by simp [xlw])))
  have hK : va_K ((fun k => (fK k).1), (fun k => (fK k).2)) xcl [(kI, .int), (kZ, .boolean)] s := by
    refine ⟨fun k q hq => ?_, fun k q hq => ?_⟩
    · have hk : k < 11 := (List.getElem?_eq_some_iff.mp hq).1
      rw [xcl_at k hk] at hq
      cases hq
      exact hfK k hk
    · match k, hq with
      | 0, hq => cases hq; exact ⟨fun n z => ⟨fun k h => (by cases h), cAI, hI2, compI, hI3⟩, hI1⟩
      | 1, hq => cases hq; exact ⟨fun n z => ⟨fun k h => (by cases h), cAZ, hZ2, compZ, hZ3⟩, hZ1⟩
  have seven : ∀ {P : Nat → Prop}, P 0 → P 1 → P 2 → P 3 → P 4 → P 5 → P 6 → ∀ i, i < 7 → P i := by
    intro P h0 h1 h2 h3 h4 h5 h6 i hi
    rcases (show i = 0 ∨ i = 1 ∨ i = 2 ∨ i = 3 ∨ i = 4 ∨ i = 5 ∨ i = 6 by omega) with rfl | rfl | rfl | rfl | rfl | rfl | rfl
    · exact h0
    · exact h1
    · exact h2
    · exact h3
    · exact h4
    · exact h5
    · exact h6
  obtain ⟨adK, adV, hS, hev⟩ := vk_Sof (args := #[Value.ref b]) (s := s) (N := 7) (tm := fun i => Term.string "OutInTime$Reader" (xsix i)) (len := [4, 6, 4, 5, 4, 4, 4]) (byt := xbyt) (A := fun q => s.heap.size ≤ q)
    (seven (by decide) (by decide) (by decide) (by decide) (by decide) (by decide) (by decide))
    (seven (hfl _ (by decide +kernel)) (hfl _ (by decide +kernel)) (hfl _ (by decide +kernel)) (hfl _ (by decide +kernel)) (hfl _ (by decide +kernel)) (hfl _ (by decide +kernel)) (hfl _ (by decide +kernel)))
    (seven (hfl _ (by decide +kernel)) (hfl _ (by decide +kernel)) (hfl _ (by decide +kernel)) (hfl _ (by decide +kernel)) (hfl _ (by decide +kernel)) (hfl _ (by decide +kernel)) (hfl _ (by decide +kernel)))
    (seven (hfl _ (by decide +kernel)) (hfl _ (by decide +kernel)) (hfl _ (by decide +kernel)) (hfl _ (by decide +kernel)) (hfl _ (by decide +kernel)) (hfl _ (by decide +kernel)) (hfl _ (by decide +kernel)))
    (seven (hfl _ (by decide +kernel)) (hfl _ (by decide +kernel)) (hfl _ (by decide +kernel)) (hfl _ (by decide +kernel)) (hfl _ (by decide +kernel)) (hfl _ (by decide +kernel)) (hfl _ (by decide +kernel)))
    (seven (by intro j hj; rcases (show j = 0 ∨ j = 1 ∨ j = 2 ∨ j = 3 from by have : j < 4 := hj; omega) with rfl | rfl | rfl | rfl <;> exact hfl _ (by decide +kernel)) (by intro j hj; rcases (show j = 0 ∨ j = 1 ∨ j = 2 ∨ j = 3 ∨ j = 4 ∨ j = 5 from by have : j < 6 := hj; omega) with rfl | rfl | rfl | rfl | rfl | rfl <;> exact hfl _ (by decide +kernel)) (by intro j hj; rcases (show j = 0 ∨ j = 1 ∨ j = 2 ∨ j = 3 from by have : j < 4 := hj; omega) with rfl | rfl | rfl | rfl <;> exact hfl _ (by decide +kernel)) (by intro j hj; rcases (show j = 0 ∨ j = 1 ∨ j = 2 ∨ j = 3 ∨ j = 4 from by have : j < 5 := hj; omega) with rfl | rfl | rfl | rfl | rfl <;> exact hfl _ (by decide +kernel)) (by intro j hj; rcases (show j = 0 ∨ j = 1 ∨ j = 2 ∨ j = 3 from by have : j < 4 := hj; omega) with rfl | rfl | rfl | rfl <;> exact hfl _ (by decide +kernel)) (by intro j hj; rcases (show j = 0 ∨ j = 1 ∨ j = 2 ∨ j = 3 from by have : j < 4 := hj; omega) with rfl | rfl | rfl | rfl <;> exact hfl _ (by decide +kernel)) (by intro j hj; rcases (show j = 0 ∨ j = 1 ∨ j = 2 ∨ j = 3 from by have : j < 4 := hj; omega) with rfl | rfl | rfl | rfl <;> exact hfl _ (by decide +kernel)))
    (by
      intro i j hi hj hij
      rcases (show i = 0 ∨ i = 1 ∨ i = 2 ∨ i = 3 ∨ i = 4 ∨ i = 5 ∨ i = 6 by omega) with rfl | rfl | rfl | rfl | rfl | rfl | rfl <;> rcases (show j = 0 ∨ j = 1 ∨ j = 2 ∨ j = 3 ∨ j = 4 ∨ j = 5 ∨ j = 6 by omega) with rfl | rfl | rfl | rfl | rfl | rfl | rfl <;> first | exact absurd rfl hij | exact Or.inl (hfl _ (by decide +kernel)) | exact Or.inr (hfl _ (by decide +kernel)))
    hA
  obtain ⟨r, hr0, hrS⟩ : ∃ r : Nat → Nat, r 0 = b ∧ ∀ j, r (1000 + j) = adK j := ⟨fun a => if a = 0 then b else adK (a - 1000), by simp, fun j => by simp⟩
  have hreq : (fun j => r (1000 + j)) = adK := funext hrS
  have hstw : ∀ j, j < 7 → (Cond.stringRef "OutInTime$Reader" (xsix j) (xstx j)).before #[Value.ref b] s = true := seven (hts (Cond.stringRef "OutInTime$Reader" 94 "hold") (xpass_mem _ _ _ xstr_ps (734, Cond.stringRef "OutInTime$Reader" 94 "hold") (by simp))) (hts (Cond.stringRef "OutInTime$Reader" 103 "street") (xpass_mem _ _ _ xstr_ps (807, Cond.stringRef "OutInTime$Reader" 103 "street") (by simp))) (hts (Cond.stringRef "OutInTime$Reader" 108 "open") (xpass_mem _ _ _ xstr_ps (812, Cond.stringRef "OutInTime$Reader" 108 "open") (by simp))) (hts (Cond.stringRef "OutInTime$Reader" 113 "turns") (xpass_mem _ _ _ xstr_ps (817, Cond.stringRef "OutInTime$Reader" 113 "turns") (by simp))) (hts (Cond.stringRef "OutInTime$Reader" 118 "doo\x72") (xpass_mem _ _ _ xstr_ps (828, Cond.stringRef "OutInTime$Reader" 118 "doo\x72") (by simp))) (hts (Cond.stringRef "OutInTime$Reader" 123 "safe") (xpass_mem _ _ _ xstr_ps (837, Cond.stringRef "OutInTime$Reader" 123 "safe") (by simp))) (hts (Cond.stringRef "OutInTime$Reader" 128 "slow") (xpass_mem _ _ _ xstr_ps (842, Cond.stringRef "OutInTime$Reader" 128 "slow") (by simp)))
  have hRR : ∀ j, j < 7 → vk_R "OutInTime$Reader" (xsix j) (xstx j) (r (1000 + j)) s := fun j hj => by
    rw [hrS]
    refine vk_R.of (A := #[Value.ref b]) (hstw j hj) (hev j hj)
  have hZZ : xlibE (fun q => s.heap.size ≤ q) s := ⟨va_Zof (hts _ (xpass_mem _ _ _ xlay_ps (748, Cond.laysStatic "java/lang/String" "COMPACT_STRINGS" "Z") (by simp))) (hts _ (xpass_mem _ _ _ xlay_ps (167, Cond.initialized "java/lang/String") (by simp))) (va_eqt (hfl _ (by decide +kernel))) hA, va_Zqof (hts _ (xpass_mem _ _ _ xlay_ps (764, Cond.laysStatic "jdk/internal/util/Preconditions" "SIOOBE_FORMATTER" "Ljava/util/function/BiFunction;") (by simp))) (hts _ (xpass_mem _ _ _ xlay_ps (169, Cond.initialized "jdk/internal/util/Preconditions") (by simp))) (hfl _ (by decide +kernel)) hA⟩
  have hnest : ∀ w ∈ lw_tbl, xnest w = true → va_Nw w s := by
    intro w hw hn
    have h1 := hts w hw
    cases w <;> first | (simp [xnest] at hn; done) | exact va_Nw.of rfl h1
  have hf : xFix p room_1 s m #[Value.ref b] c 239 4 1 r ((fun k => (fK k).1), (fun k => (fK k).2)) kI kZ (fun q => s.heap.size ≤ q) (fun j => (xs j.toNat).toInt) none adV :=
    ⟨hx, hb.trans (show code = xmb 239 from rfl), hml, hown, fun w hw => hts w (List.mem_filter.mp hw).1, hnest, hK, by decide, by decide, by decide, by decide, fun q hq => hq, (fun L h => by cases h), by rw [hreq]; exact hS, hRR, hZZ⟩
  rw [lg_entry_eq]
  have hloc := xentry_loc (r := r) (nL := 4) (av := [.inr (.inr (some 0))]) (by decide) (fun w hw => by rw [List.mem_singleton.mp hw]; trivial)
  have hent : xentry 4 [.inr (.inr (some 0))] = [some (.inr (.inr (some 0))), none, none, none] := rfl
  rw [hent] at hloc
  have hmap : ([.inr (.inr (some 0))] : xst).map (xV r) = [Value.ref b] := by rw [← hr0]; rfl
  rw [hmap] at hloc
  have hws1 : xws kI kZ r (fun _ _ => false) (xD0 (fun j => (xs j.toNat).toInt)) 1 = [] := rfl
  have key := crun_W (f0 := f0) (n0 := 1) (y := 239) (nL := 4) (below := below) (meth := meth) (l := l) (xcon_all l) (fun f _ => ccon_all l f) (fun h => absurd h (by decide)) (R := room_1) (e := e) (Q := lw_Z below #[Value.ref b] s) (n1 := 124) (F1 := F1) (D1 := D1) (p1 := 16) (show 124 - 1 ≤ 123 by decide) (show xS 124 - xS 1 ≤ 20247 by decide +kernel) r ?_ f0 (Nat.le_refl _) 0 _ [] 1 _ _ r hcr (Nat.le_refl _) (fun _ _ => rfl) (fun a k h => by cases h) hf _ s.heap [] hloc (fun _ h => by cases h) ⟨by rw [hws1]; exact fun k q h => by simp at h, by rw [hws1]; exact ⟨fun i j p q h => by simp at h, fun k q h => by simp at h⟩, va_S.rf, fun a k => ?_, fun j => rfl⟩
  · rw [Nat.sub_self, Nat.sub_self] at key
    exact key
  · intro r1 hr1 hFok
    intro lls H locs hL1 hv1 hM1
    have hFe := xws_F (kI := kI) (kZ := kZ) (r := r1) (F := F1) (F' := xF1) (D := D1) (n := 124) (Nat.le_refl _) (fun a k h1 h2 h3 h4 => hF1 a k h1 h2 h3 h4)
    have hM2 : xMem s ((fun k => (fK k).1), (fun k => (fK k).2)) kI kZ r1 124 xF1 (fun q => s.heap.size ≤ q) (fun j => (xs j.toNat).toInt) D1 H locs := by
      obtain ⟨g1, g2, g3⟩ := hM1
      rw [hFe] at g1 g2
      exact ⟨g1, g2, g3⟩
    obtain ⟨gx, gb, gml, gown, gts, gnw, gK, gR1, gR2, gy, gn, gA, gX, gS, gR⟩ := xFix_r hf (Nat.le_refl 124) (fun a ha => hr1 a (Or.inr ha))
    have h0 : r1 0 = b := (hr1 0 (Or.inl (by decide))).trans hr0
    have hf2 : xFix p room_1 s m #[Value.ref b] c 239 4 124 r1 ((fun k => (fK k).1), (fun k => (fK k).2)) kI kZ (fun q => s.heap.size ≤ q) (fun j => (xs j.toNat).toInt) (some L) adV :=
      ⟨gx, gb, gml, gown, gts, gnw, gK, gR1, gR2, gy, gn, gA, fun L' h => by
        cases h
        rw [h0]
        refine ⟨?_, hbl, Nat.not_le.mpr hbl, by omega⟩
        have e1 : (fun j : Nat => Int32.ofInt ((xs (j : Int).toNat).toInt)) = xs := funext fun j => by rw [Int.toNat_natCast, Int32.ofInt_toInt]
        rw [e1]
        exact hX, gS, gR⟩
    refine xrun_W (f0 := fw) (fun f _ => xcon_all l f) hf2 ⟨show 124 - 1 ≤ 123 by decide, show xS 124 - xS 1 ≤ 20247 by decide +kernel⟩ ?_ fw (Nat.le_refl _) 16 _ [] D1 hrun lls H locs hL1 hv1 hM2
    intro p' ls' st' lls' H' locs' h29 hret hL' hvs' hM'
    obtain ⟨ins, len, hdg, hok, -⟩ := xok_all (show 239 < 242 by decide) (show (xcd 239 p').1 ≠ 99 by rw [h29]; decide)
    obtain ⟨rfl, hcase⟩ := xok_29 hok h29
    have h3 : (xsg 239).2.2.1 = 3 := rfl
    rw [h3] at hret
    rcases hcase with ⟨rfl, hu⟩ | ⟨rfl, hu⟩ | ⟨rfl, hu⟩
    · rw [hu] at hret
      cases (show none = some _ from hret)
    · rw [hu] at hret
      have hret2 : (match (generalizing := false) st' with
        | [.inl v] => bif false || (true && (decide (v = 0) || decide (v = 1))) then some (some (.inl v)) else none
        | _ => none : Option (Option xv)) = some (some (.inl 1)) := hret
      clear hret
      split at hret2
      · rename_i v0
        have hv0 : v0 = 1 := by
          cases hq : (false || (true && (decide (v0 = 0) || decide (v0 = 1)))) with
          | false => rw [hq] at hret2; cases hret2
          | true => rw [hq] at hret2; cases hret2; rfl
        subst hv0
        have hdg2 : decode code p' = .ok (.ireturn, 1) := hdg
        refine va_forget (fun q hq => hM'.2.2.1.2.2 q hq) ?_
        refine W.cs (show 124 - 1 = 123 by decide) (show xS 124 - xS 1 = 20247 by decide +kernel) ?_
        exact lw_ret hx hb hr hlocks hdg2
      · cases hret2
    · rw [hu] at hret
      have hret2 : (match (generalizing := false) st' with
        | [.inr (.inl v)] => bif false then some (some (.inr (.inl v))) else none
        | _ => none : Option (Option xv)) = some (some (.inl 1)) := hret
      clear hret
      split at hret2
      · cases hret2
      · cases hret2
  · unfold xD0
    split
    · rename_i ha
      subst ha
      exact ⟨fun _ => xin32 _, xin_L (xin32 _)⟩
    · exact ⟨fun _ => xin0, (show xinL 0 from ⟨by decide, by decide⟩)⟩
