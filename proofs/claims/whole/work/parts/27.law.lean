/-! the law's start, out of my machine -/
theorem ccon_all (l : Launch) : ∀ f, cCon l f := by
  intro f0
  induction f0 using Nat.strongRecOn with
  | _ f0 ih =>
  intro y dd kI kZ r n F xs adV D a p1 ls1 n1 F1 D1 sz hyi hn hF hgd hD0 hrun h29 h0
  have hz9 := List.all_eq_true.mp xini_ok y hyi
  simp only [Bool.and_eq_true, decide_eq_true_eq, Nat.beq_eq, Bool.not_eq_true', Nat.blt_eq] at hz9
  obtain ⟨⟨⟨⟨⟨z1, z2⟩, z3⟩, z4⟩, z5⟩, z6⟩ := hz9
  have hy : y < 242 := by omega
  have hne : y ≠ 239 := by omega
  obtain ⟨hcl, hpl, hmh, hvh, hdesc, hcode, hiw, hini⟩ := xms_at hy hne
  refine Met.ofW (cc := xmb y) (maxL := (xsg y).2.1) (ret := xrt (xsg y).2.2.1) hpl rfl ?_
  intro p e s m args below meth c s₁ B hml hv
  obtain ⟨rfl, hsz, hP, hD, hK, hnest, ⟨hS, hR⟩, hZ⟩ := hv
  have hts0 := atoms_spec (ws := xmcw y :: xw) B.pre
  have hown : s.vm.findClass (xcn (xsg y).2.2.2.1) = some m.cls := by
    rw [← hcl]
    exact findClass_of_methodNamed B.named
  have hnm : meth.name = "<init>" := by rw [← z1]; exact (name_of_methodNamed B.named B.method).1
  subst hsz
  have hf : xFix p (headSpec (xmcw y :: xw) { frames := (xroom y).1, cells := n1 - n, slots := xS n1 - xS n, locals := (xroom y).2 }).room s m ([.inr (.inr (some a))].map (xV r)).toArray c y (xsg y).2.1 n r dd kI kZ (va_A (xws kI kZ r F D n) s.heap.size) xs none adV :=
    ⟨B.exec, B.bytes, hml, hown, fun w hw => hts0 w (List.mem_cons_of_mem _ hw), hnest, hK, Nat.le_refl _, Nat.le_refl _, hy, hn, fun q hq => Or.inr hq, (fun L h => by cases h), hS, hR, hZ⟩
  have hlocks := B.notSynchronized
  have hx := B.exec
  have hb := B.bytes
  have hr := B.returns
  rw [lg_entry_eq]
  have hloc := xentry_loc (r := r) (nL := (xsg y).2.1) (av := [.inr (.inr (some a))]) (by rw [z5]; exact Nat.le_refl 1) (fun w hw => by rw [List.mem_singleton.mp hw]; trivial)
  have hent : xentry (xsg y).2.1 [.inr (.inr (some a))] = [some (.inr (.inr (some a)))] := by rw [z5]; rfl
  rw [hent] at hloc
  have key := crun_W (f0 := f0) (n0 := n) (below := below) (xcon_all l) ih (fun _ => hnm) (R := (headSpec (xmcw y :: xw) { frames := (xroom y).1, cells := n1 - n, slots := xS n1 - xS n, locals := (xroom y).2 }).room) (e := e) (Q := MQ below (cPost dd kI kZ r n n1 F1 xs (va_A (xws kI kZ r F D n) s.heap.size) D1) ([.inr (.inr (some a))].map (xV r)).toArray s (n1 - n) (xS n1 - xS n) (va_A (xws kI kZ r F D n) s.heap.size)) (Nat.le_refl _) (Nat.le_refl _) r ?_ f0 (Nat.le_refl _) 0 _ [] n F D r hrun (Nat.le_refl _) (fun _ _ => rfl) hF hf _ s.heap [] hloc (fun _ h => by cases h) ⟨hP, hD, va_S.rf, hgd, hD0⟩
  · rw [Nat.sub_self, Nat.sub_self] at key
    exact key
  · intro r1 hr1 hF1 lls' H' locs' hL hvs hM
    obtain ⟨hP', hD', hS', hg', hx'⟩ := hM
    obtain ⟨ins, len, hdg, hok, -⟩ := xok_all hy (show (xcd y p1).1 ≠ 99 by rw [h29]; decide)
    obtain ⟨rfl, hcase⟩ := xok_29 hok h29
    rcases hcase with ⟨rfl, hu⟩ | ⟨rfl, hu⟩ | ⟨rfl, hu⟩
    · rw [z3] at hr
      exact W.vret hx hb hr (fun t ht hW => ⟨rfl, ⟨r1, hr1, by rw [ht]; exact hP', hD', hg', hF1, hx'⟩, hS'.F ht⟩) hS'.2.2 hdg
    · omega
    · omega
theorem xws_F {kI kZ : ClassId} {r : Nat → Nat} {F F' : Nat → Nat → Bool} {D : xD} {n : Nat} (hn : n ≤ 124) (h : ∀ a k, a < n → 10 ≤ (xsh a).1 → k < (xsh a).2 → (xfk ((xsh a).1 - 10) k).1 = 3 → F a k = F' a k) : xws kI kZ r F D n = xws kI kZ r F' D n := by
  unfold xws
  refine List.map_congr_left (fun j hj => ?_)
  have hj := List.mem_range.mp hj
  have e : xcell kI kZ r F D (j + 1) = xcell kI kZ r F' D (j + 1) := by
    unfold xcell
    split
    · rfl
    · split
      · rfl
      · rename_i h1 h2
        congr 2
        refine List.map_congr_left (fun k hk => ?_)
        have hk := List.mem_range.mp hk
        unfold xfld
        split
        · rfl
        · rename_i h3
          rw [h (j + 1) k (by omega) ?_ hk h3]
          have h10 := List.all_eq_true.mp (show (List.range 124).all (fun a => !(Nat.blt 2 (xsh a).1) || Nat.ble 10 (xsh a).1) = true by decide +kernel)
          by_cases hlt : j + 1 < 124
          · have := h10 (j + 1) (List.mem_range.mpr hlt)
            simp only [Bool.or_eq_true, Bool.not_eq_true', Nat.ble_eq] at this
            rcases this with q | q
            · have q2 : ¬ 2 < (xsh (j + 1)).1 := fun z => by
                rw [Nat.blt_eq.mpr z] at q
                cases q
              have : (xsh (j + 1)).1 = 0 := by omega
              have h0 := List.all_eq_true.mp (show (List.range 124).all (fun a => Nat.beq a 0 || !(Nat.beq (xsh a).1 0)) = true by decide +kernel) (j + 1) (List.mem_range.mpr hlt)
              rw [this] at h0
              simp at h0
            · exact q
          · omega
        · rfl
  rw [e]
def xD0 (xs : Int → Int) : xD := fun a j => if a = 0 then xs j else 0
theorem xstr_ps : xpass 0 lw_tbl [(734, Cond.stringRef "OutInTime$Reader" 94 "hold"), (807, Cond.stringRef "OutInTime$Reader" 103 "street"), (812, Cond.stringRef "OutInTime$Reader" 108 "open"), (817, Cond.stringRef "OutInTime$Reader" 113 "turns"), (828, Cond.stringRef "OutInTime$Reader" 118 "doo\x72"), (837, Cond.stringRef "OutInTime$Reader" 123 "safe"), (842, Cond.stringRef "OutInTime$Reader" 128 "slow")] = true := by decide +kernel
theorem xlay_ps : xpass 0 lw_tbl [(167, Cond.initialized "java/lang/String"), (169, Cond.initialized "jdk/internal/util/Preconditions"), (748, Cond.laysStatic "java/lang/String" "COMPACT_STRINGS" "Z"), (764, Cond.laysStatic "jdk/internal/util/Preconditions" "SIOOBE_FORMATTER" "Ljava/util/function/BiFunction;")] = true := by decide +kernel
