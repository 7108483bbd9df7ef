/-! the walk of the constructors; the law's start -/
def cPost (dd : va_G) (kI kZ : ClassId) (r : Nat → Nat) (n n1 : Nat) (F1 : Nat → Nat → Bool) (xs : Int → Int) (A : Nat → Prop) (D1 : xD) : Array Value → State → Outcome → State → Prop :=
  fun _ st oc t => oc = .returned none ∧ (∃ r1 : Nat → Nat, (∀ a, a < n ∨ 124 ≤ a → r1 a = r a) ∧ va_P dd xcl (xws kI kZ r1 F1 D1 n1) t.heap ∧ va_D A (xws kI kZ r1 F1 D1 n1) ∧ xgd D1 ∧ xFok n1 F1 ∧ ∀ j, D1 0 j = xs j) ∧ va_F A st t
def cCon (l : Launch) (f : Nat) : Prop := ∀ (y : Nat) (dd : va_G) (kI kZ : ClassId) (r : Nat → Nat) (n : Nat) (F : Nat → Nat → Bool) (xs : Int → Int) (adV : Nat → Nat) (D : xD) (a p1 : Nat) (ls1 : xls) (n1 : Nat) (F1 : Nat → Nat → Bool) (D1 : xD) (sz : Nat),
  y ∈ xini → n ≤ 124 → xFok n F → xgd D → (∀ j, D 0 j = xs j) → crun f y 0 [some (.inr (.inr (some a)))] [] n F D = some (p1, ls1, [], n1, F1, D1) → (xcd y p1).1 = 29 → (xcd y p1).2.2.1 = 0 →
  Met l (xmn y) (xmcw y :: xw) { frames := (xroom y).1, cells := n1 - n, slots := xS n1 - xS n, locals := (xroom y).2 } (xPre dd kI kZ r n F xs adV D sz [.inr (.inr (some a))]) (cPost dd kI kZ r n n1 F1 xs (va_A (xws kI kZ r F D n) sz) D1) (n1 - n) (xS n1 - xS n) (va_A (xws kI kZ r F D n) sz)
theorem xFix_r {p : Program} {R : Room} {s : State} {m : MethodId} {args : Array Value} {c : Code} {y nL n n' : Nat} {r r' : Nat → Nat} {dd : va_G} {kI kZ : ClassId} {A : Nat → Prop} {xs : Int → Int} {adV : Nat → Nat} (hf : xFix p R s m args c y nL n r dd kI kZ A xs none adV) (hn' : n' ≤ 124) (hr : ∀ a, 124 ≤ a → r' a = r a) : xFix p R s m args c y nL n' r' dd kI kZ A xs none adV := by
  obtain ⟨hx, hb, hml, hown, hts, hnw, hK, hR1, hR2, hy, hn, hA, hX, hS, hR⟩ := hf
  refine ⟨hx, hb, hml, hown, hts, hnw, hK, hR1, hR2, hy, hn', hA, (fun L h => by cases h), ?_, fun j hj => ?_, hR.2⟩
  · have e : (fun j => r' (1000 + j)) = fun j => r (1000 + j) := funext fun j => hr _ (by omega)
    rw [e]
    exact hS
  · rw [hr _ (by omega)]
    exact hR.1 j hj
section XC
variable {p : Program} {l : Launch} {e : Env} {R : Room} {s : State} {m : MethodId} {args : Array Value} {below : List Frame} {meth : Method} {c : Code} {Q : State → Prop}
variable {nL : Nat} {dd : va_G} {kI kZ : ClassId} {A : Nat → Prop} {xs : Int → Int} {adV : Nat → Nat}
variable {y : Nat}

theorem crun_W {f0 n0 : Nat} (hcon : ∀ f, xCon l f) (hcc : ∀ f, f < f0 → cCon l f) (hin : xini.contains y = true → meth.name = "<init>") {p1 : Nat} {ls1 : xls} {st1 : xst} {n1 : Nat} {F1 : Nat → Nat → Bool} {D1 : xD} (hc1 : n1 - n0 ≤ R.cells) (hs1 : xS n1 - xS n0 ≤ R.slots) (r0 : Nat → Nat)
    (hend : ∀ r : Nat → Nat, (∀ a, a < n0 ∨ 124 ≤ a → r a = r0 a) → xFok n1 F1 → xW p l e R s m args below meth c (n1 - n0) (xS n1 - xS n0) Q r nL dd kI kZ n1 F1 A xs p1 ls1 st1 D1) :
    ∀ (f : Nat), f ≤ f0 → ∀ (pc : Nat) (ls : xls) (st : xst) (n : Nat) (F : Nat → Nat → Bool) (D : xD) (r : Nat → Nat), crun f y pc ls st n F D = some (p1, ls1, st1, n1, F1, D1) → n0 ≤ n → (∀ a, a < n0 ∨ 124 ≤ a → r a = r0 a) → xFok n F → xFix p R s m args c y nL n r dd kI kZ A xs none adV → xW p l e R s m args below meth c (n - n0) (xS n - xS n0) Q r nL dd kI kZ n F A xs pc ls st D := by
  intro f
  induction f with
  | zero => intro _ pc ls st n F D r h; cases h
  | succ f ih =>
    intro hle pc ls st n F D r h hn0 hr hF hf
    have hn124 : n ≤ 124 := hf.2.2.2.2.2.2.2.2.2.2.1
    have hy : y < 242 := hf.2.2.2.2.2.2.2.2.2.1
    have hlast := crun_le _ _ _ _ _ _ _ _ _ _ _ _ _ _ h
    have hcs : n - n0 ≤ R.cells ∧ xS n - xS n0 ≤ R.slots := ⟨by omega, by have := xS_mono hlast; omega⟩
    unfold crun at h
    dsimp only at h
    cases e1 : (Nat.beq (xcd y pc).1 29 || (Nat.beq y 239 && Nat.beq pc 16)) with
    | true => rw [e1] at h; cases h; exact hend r hr hF
    | false =>
    rw [e1] at h
    simp only [Bool.or_eq_false_iff] at e1
    have h99 : (xcd y pc).1 ≠ 99 := by
      intro h9
      have a1 : Nat.beq (xcd y pc).1 40 = false := by rw [h9]; rfl
      have a2 : Nat.beq (xcd y pc).1 41 = false := by rw [h9]; rfl
      have a3 : Nat.beq (xcd y pc).1 18 = false := by rw [h9]; rfl
      have a4 : Nat.beq (xcd y pc).1 28 = false := by rw [h9]; rfl
      rw [a1, a2, a3, a4] at h
      simp only [cond_false, Bool.false_and] at h
      rw [xstep_99 h9] at h
      cases h
    obtain ⟨ins, len, hdg, hok, hrm⟩ := xok_all hy h99
    cases e2 : Nat.beq (xcd y pc).1 40 with
    | true =>
      rw [e2] at h
      simp only [cond_false, cond_true] at h
      obtain ⟨idx, ci, pos, he, rfl, rfl, hi⟩ := xok_40 hok (Nat.beq_eq.mp e2)
      rw [hi] at h
      cases e3 : (cnew n (10 + ci) ls st && Nat.blt ci 11) with
      | false => rw [e3] at h; cases h
      | true =>
        rw [e3] at h
        simp only [Bool.and_eq_true] at e3
        obtain ⟨hsh, hp0, hlt, hfr⟩ := cnew_at e3.1
        have hle2 := crun_le _ _ _ _ _ _ _ _ _ _ _ _ _ _ h
        have hS2 := xS_mono hle2
        have hS3 := xS_mono hn0
        rw [xS_succ] at hS2
        refine xs_new hf he e3.1 hF (by omega) (by omega) hdg (fun q => ?_)
        have := ih (by omega) (pc + 3) ls (.inr (.inr (some n)) :: st) (n + 1) F (xz D n) (fun a => if a = n then q else r a) h (by omega) (fun a ha => by
          show (if a = n then q else r a) = r0 a
          rw [if_neg (by omega)]
          exact hr a ha) (hF.mono (Nat.le_succ n)) (xFix_r hf (by omega) (fun a ha => by
          show (if a = n then q else r a) = r a
          rw [if_neg (by omega)]))
        rw [xS_succ] at this
        rw [show n + 1 - n0 = n - n0 + 1 by omega, show xS n + (xsh n).2 - xS n0 = xS n - xS n0 + (xsh n).2 by omega] at this
        exact this
    | false =>
    rw [e2] at h
    cases e3 : Nat.beq (xcd y pc).1 41 with
    | true =>
      rw [e3] at h
      simp only [cond_false, cond_true] at h
      obtain ⟨t, tg, rfl, rfl, ht2, ht, hi⟩ := xok_41 hok (Nat.beq_eq.mp e3)
      rw [hi] at h
      split at h
      · rename_i len9 st9
        cases e4 : (cnew n tg ls st9 && decide (len9 = ((xsh n).2 : Int))) with
        | false => rw [e4] at h; cases h
        | true =>
          rw [e4] at h
          simp only [Bool.and_eq_true, decide_eq_true_eq] at e4
          obtain ⟨e4, rfl⟩ := e4
          obtain ⟨hsh, hp0, hlt, hfr⟩ := cnew_at e4
          have hle2 := crun_le _ _ _ _ _ _ _ _ _ _ _ _ _ _ h
          have hS2 := xS_mono hle2
          have hS3 := xS_mono hn0
          rw [xS_succ] at hS2
          refine xs_newa hf ht ht2 e4 rfl hF (by omega) (by omega) hdg (fun q => ?_)
          have := ih (by omega) (pc + 2) ls (.inr (.inr (some n)) :: st9) (n + 1) F (xz D n) (fun a => if a = n then q else r a) h (by omega) (fun a ha => by
            show (if a = n then q else r a) = r0 a
            rw [if_neg (by omega)]
            exact hr a ha) (hF.mono (Nat.le_succ n)) (xFix_r hf (by omega) (fun a ha => by
            show (if a = n then q else r a) = r a
            rw [if_neg (by omega)]))
          rw [xS_succ] at this
          rw [show n + 1 - n0 = n - n0 + 1 by omega, show xS n + (xsh n).2 - xS n0 = xS n - xS n0 + (xsh n).2 by omega] at this
          exact this
      · cases h
    | false =>
    rw [e3] at h
    cases e4 : Nat.beq (xcd y pc).1 18 with
    | true =>
      rw [e4] at h
      simp only [cond_false, cond_true] at h
      obtain ⟨idx, kk, pos, he, rfl, rfl, hk3, hi⟩ := xok_18 hok (Nat.beq_eq.mp e4)
      rw [hi] at h
      split at h
      · rename_i b a st9
        cases e5 : (xisO n a (xsg y).2.2.2.1 && Nat.beq b (a + ((xfk (xsg y).2.2.2.1 kk).2 : Int).toNat) && Nat.blt b n && xini.contains y) with
        | false => rw [e5] at h; cases h
        | true =>
          rw [e5] at h
          simp only [Bool.and_eq_true, Nat.beq_eq, Nat.blt_eq, Int.toNat_natCast] at e5
          obtain ⟨⟨⟨q1, q2⟩, q3⟩, q4⟩ := e5
          obtain ⟨w1, w2, w3⟩ := xisO_iff.mp q1
          exact xs_putR hf (hin q4) he hk3 q1 q2 hdg (ih (by omega) (pc + 3) ls st9 n (xuF F a kk) D r h hn0 hr (hF.up w2 (by rw [w3, Nat.add_sub_cancel_left, ← q2]; exact q3)) hf)
      · cases h
    | false =>
    rw [e4] at h
    cases e5 : (Nat.beq (xcd y pc).1 28 && ((xcd y pc).2.1 == 2)) with
    | true =>
      rw [e5] at h
      simp only [cond_false, cond_true] at h
      simp only [Bool.and_eq_true, beq_iff_eq] at e5
      obtain ⟨idx, z, nest, pos, he, rfl, hcase⟩ := xok_28 hok (Nat.beq_eq.mp e5.1)
      have hins : ins = .invokespecial idx ∧ xcd y pc = (28, 2, z, pc + 3, []) := by
        rcases hcase with ⟨-, hi⟩ | ⟨-, hi⟩ | hi
        · rw [hi] at e5; exact absurd e5.2 (by simp)
        · rw [hi] at e5; exact absurd e5.2 (by simp)
        · exact hi
      obtain ⟨rfl, hi⟩ := hins
      rw [hi] at h hrm
      obtain ⟨hz, hzne, hlw⟩ := xml_at he
      obtain ⟨hcl, hpl, hmh, hvh, hdesc, hcode, hiw, hini⟩ := xms_at hz hzne
      obtain ⟨hrf, hrl, -, -⟩ := xroom_of hrm
      split at h
      · rename_i a st9
        cases e6 : (xisO n a (xsg z).2.2.2.1 && xini.contains z && Nat.ble (xcat st9) 8 && xbnd n ls st9) with
        | false => rw [e6] at h; cases h
        | true =>
          rw [e6] at h
          simp only [cond_true] at h
          simp only [Bool.and_eq_true, Nat.ble_eq] at e6
          obtain ⟨⟨⟨q1, q2⟩, q3⟩, q4⟩ := e6
          have hzi : z ∈ xini := by simpa using q2
          have hz9 := List.all_eq_true.mp xini_ok z hzi
          simp only [Bool.and_eq_true, decide_eq_true_eq, Nat.beq_eq, Bool.not_eq_true', Nat.blt_eq] at hz9
          obtain ⟨⟨⟨⟨⟨z1, z2⟩, z3⟩, z4⟩, z5⟩, z6⟩ := hz9
          split at h
          · rename_i p2 ls2 n2 F2 D2 hc
            cases e7 : (Nat.beq (xcd z p2).1 29 && Nat.beq (xcd z p2).2.2.1 0) with
            | false => rw [e7] at h; cases h
            | true =>
              rw [e7] at h
              simp only [cond_true] at h
              simp only [Bool.and_eq_true, Nat.beq_eq] at e7
              have hn2 := crun_le _ _ _ _ _ _ _ _ _ _ _ _ _ _ hc
              have hn3 := crun_le _ _ _ _ _ _ _ _ _ _ _ _ _ _ h
              have hn4 := crun_124 _ _ _ _ _ _ _ _ _ _ _ _ _ _ hc hn124
              have hS2 := xS_mono hn2
              have hS3 := xS_mono hn3
              have hS4 := xS_mono hn0
              have hf' := hf
              obtain ⟨hx, hb, hml, hown, hts, hnw, hK, hR1, hR2, hy9, hn9, hA, hX, hS, hR⟩ := hf
              intro lls H locs hL hv hM
              have hM2 := hcc f (by omega) z dd kI kZ r n F xs adV D a p2 ls2 n2 F2 D2 H.size hzi hn124 hF hM.2.2.2.1 hM.2.2.2.2 hc e7.1 e7.2
              have hG : GoodIn xw (xmcw z :: xw) := fun w hw => by
                rcases List.mem_cons.mp hw with rfl | hw
                · exact xw_good _ hcode
                · exact xw_good _ hw
              have hsub : ∀ q, va_A (xws kI kZ r F D n) H.size q → A q := by
                intro q hq
                rcases hq with ⟨k, e, hq⟩ | hq
                · exact hM.2.1.2 k _ hq
                · exact hA q (Nat.le_trans hM.2.2.1.1 hq)
              have hinw : Cond.instanceMethod (xmn z) ∈ xw := by
                unfold xmiw at hiw
                rw [z4] at hiw
                exact hiw
              rw [z4, z2] at hdesc
              have hpre := xpre_of hf' hM (av := [.inr (.inr (some a))])
              have hstk : (.inr (.inr (some a)) :: st9 : xst).map (xV r) = ([] : List Value).reverse ++ .ref (r a) :: st9.map (xV r) := rfl
              have hroom : 2 * (F0 m pc lls ((.inr (.inr (some a)) :: st9 : xst).map (xV r))).monitorRoom + ((st9.map (xV r)).map fun v => v.category).sum ≤ 8 := lv_room (by rw [xcat_sum]; exact q3)
              have hret : xrt (xsg z).2.2.1 = none := by rw [z3]; rfl
              have hcode2 : xmcw z = Cond.code (xmn z) (xmb z) (xsg z).2.1 none := by unfold xmcw; rw [hret]
              have hcells : n - n0 + (n2 - n) ≤ R.cells ∧ xS n - xS n0 + (xS n2 - xS n) ≤ R.slots := ⟨by omega, by omega⟩
              have hRR : (xroom z).1 + 1 ≤ R.frames ∧ 8 + ((xsg z).2.1 + 11) + (xroom z).2 ≤ R.locals := ⟨Nat.le_trans hrf hR1, Nat.le_trans hrl hR2⟩
              have fin : ∀ (v : Option Value) (st₀ t : State) (H1 : Heap) (L : List Loc), st₀.heap = H → cPost dd kI kZ r n n2 F2 xs (va_A (xws kI kZ r F D n) H.size) D2 #[] st₀ (.returned v) t → t.heap = H1 → s.vm.Alike t.vm → (∀ q ∈ L, va_A (xws kI kZ r F D n) H.size q.base) → W p l e R s m args below meth c H1 (locs ++ L) (n - n0 + (n2 - n)) (xS n - xS n0 + (xS n2 - xS n)) Q (F0 m (pc + 3) lls (v.toList ++ st9.map (xV r))) := by
                intro v st₀ t H1 L h0 ⟨e1, ⟨r1, hr1, hP1, hD1, hg1, hF2, hx1⟩, hz, hk⟩ ht hvm hL9
                rw [h0] at hz hk
                rw [ht] at hP1 hz hk
                cases e1
                obtain ⟨hl9, hst9⟩ := xbnd_loc hr1 q4 hL
                have hk := ih (by omega) (pc + 3) ls st9 n2 F2 D2 r1 h (by omega) (fun a ha => by rw [hr1 a (by omega)]; exact hr a ha) hF2 (xFix_r hf' hn4 (fun a ha => hr1 a (Or.inr ha))) lls H1 (locs ++ L) hl9 (List.forall_mem_cons.mp hv).2 ⟨hP1, hD1.weaken (fun _ q _ h => hsub q.1 h), ⟨Nat.le_trans hM.2.2.1.1 hz, fun q h1 h2 => ?_, fun q hq => ?_⟩, hg1, hx1⟩
                · rw [hst9, show n2 - n0 = n - n0 + (n2 - n) by omega, show xS n2 - xS n0 = xS n - xS n0 + (xS n2 - xS n) by omega] at hk
                  exact hk
                · rw [hk q (Nat.lt_of_lt_of_le h1 hM.2.2.1.1) (fun z => h2 (hsub q z))]
                  exact hM.2.2.1.2.1 q h1 h2
                · rcases List.mem_append.mp hq with h | h
                  · exact hM.2.2.1.2.2 q h
                  · exact hsub _ (hL9 q h)
              cases nest with
              | false =>
                have cb : CallB R s args (xcn (xsg y).2.2.2.1) idx (xmn z) (xmb z) (xsg z).2.1 none (xmcw z :: xw) { frames := (xroom z).1, cells := n2 - n, slots := xS n2 - xS n, locals := (xroom z).2 } (n2 - n) (xS n2 - xS n) 0 := callB_of _ hts hG (by rw [hcode2]) rfl rfl (hts _ hini) (hts _ (xw_in hlw rfl)) ⟨hmh, hvh, hdesc⟩ hRR
                refine xcall (va_runI (b := r a) (As := []) (rest := st9.map (xV r)) ⟨hx, hb, hml, hown, hts⟩ hM2 ⟨cb, z1, hts _ hinw⟩ ⟨xPre_blind, hpre⟩ rfl rfl hL.2.1 hstk hroom hdg hcells) ?_
                exact fin
              | true =>
                have cb : va_CN R s args (xcn (xsg y).2.2.2.1) idx (xmn z) "OutInTime" (xmb z) (xsg z).2.1 none (xmcw z :: xw) { frames := (xroom z).1, cells := n2 - n, slots := xS n2 - xS n, locals := (xroom z).2 } (n2 - n) (xS n2 - xS n) 0 := va_cnB _ hts hG (by rw [hcode2]) rfl rfl (hnw _ hlw rfl) (hts _ hini) ⟨hmh, hvh, hdesc⟩ hRR
                refine xcall (va_runIN (b := r a) (As := []) (rest := st9.map (xV r)) ⟨hx, hb, hml, hown, hts⟩ hM2 ⟨cb, z1, hts _ hinw⟩ ⟨xPre_blind, hpre⟩ rfl rfl hL.2.1 hstk hroom hdg hcells) ?_
                exact fin
          · cases h
      · cases h
    | false =>
    rw [e5] at h
    cases e6 : Nat.beq (xcd y pc).1 28 with
    | true =>
      rw [e6] at h
      simp only [cond_false, cond_true] at h
      split at h
      · rename_i av rest hp
        cases e7 : (xrecv n (xcd y pc).2.2.1 av && Nat.ble (xcat rest) 8 && !(Nat.beq (xcd y pc).2.2.1 239)) with
        | false => rw [e7] at h; cases h
        | true =>
          rw [e7] at h
          simp only [cond_true] at h
          simp only [Bool.and_eq_true, Nat.ble_eq] at e7
          split at h
          · rename_i v D2 hr2
            have hk2 : ¬ (xcd y pc).2.1 = 2 := by
              intro z
              rw [e6, z] at e5
              simp at e5
            exact xcall_W (hcon f) hf hcs hdg hok hrm (Nat.beq_eq.mp e6) hk2 hp e7.1.1 e7.1.2 hr2 (ih (by omega) _ _ _ _ _ _ _ h hn0 hr hF hf)
          · cases h
      · cases h
    | false =>
      rw [e6] at h
      simp only [cond_false] at h
      split at h
      · rename_i p2 ls2 st2 D2 hstep
        exact xstep_W hf hdg hok hrm hcs (fun he hd h1 h2 h3 h4 h5 k => xs_strlen hf he hd h1 h2 h3 h4 h5 hcs k) (fun he hd h1 h2 h3 h4 h5 h6 h7 k => xs_charAt hf he hd h1 h2 h3 h4 h5 h6 h7 hcs k) hstep (ih (by omega) _ _ _ _ _ _ _ h hn0 hr hF hf)
      · cases h
end XC
