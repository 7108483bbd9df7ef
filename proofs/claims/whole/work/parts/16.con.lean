/-! contracts of all methods at once, by fuel -/
def xsrt (A : Nat → Prop) (r : Nat → Nat) (adV : Nat → Nat) (U : State) : Prop :=
  vk_S 7 [4, 6, 4, 5, 4, 4, 4] xbyt (fun j => r (1000 + j)) adV A U U.heap ∧ (∀ j, j < 7 → vk_R "OutInTime$Reader" (xsix j) (xstx j) (r (1000 + j)) U)
def xEnv (dd : va_G) (kI kZ : ClassId) (r : Nat → Nat) (adV : Nat → Nat) (A : Nat → Prop) (U : State) : Prop :=
  va_K dd xcl [(kI, .int), (kZ, .boolean)] U ∧ (∀ w ∈ lw_tbl, xnest w = true → va_Nw w U) ∧ xsrt A r adV U ∧ xlibE A U
def xPre (dd : va_G) (kI kZ : ClassId) (r : Nat → Nat) (n : Nat) (F : Nat → Nat → Bool) (xs : Int → Int) (adV : Nat → Nat) (D : xD) (sz : Nat) (av : xst) : Array Value → State → Prop :=
  va_Pc (av.map (xV r)) (fun U => U.heap.size = sz ∧ va_P dd xcl (xws kI kZ r F D n) U.heap ∧ va_D (va_A (xws kI kZ r F D n) sz) (xws kI kZ r F D n) ∧ xEnv dd kI kZ r adV (va_A (xws kI kZ r F D n) sz) U)
def xPost (dd : va_G) (kI kZ : ClassId) (r : Nat → Nat) (n : Nat) (F : Nat → Nat → Bool) (xs : Int → Int) (A : Nat → Prop) (v : Option xv) (D' : xD) : Array Value → State → Outcome → State → Prop :=
  fun _ st oc t => oc = .returned (v.map (xV r)) ∧ (va_P dd xcl (xws kI kZ r F D' n) t.heap ∧ va_D A (xws kI kZ r F D' n) ∧ xgd D' ∧ (∀ j, D' 0 j = xs j) ∧ ∀ w, v = some w → xvo w) ∧ va_F A st t
def xrmY (y : Nat) : Room := { frames := (xroom y).1, cells := 0, slots := 0, locals := (xroom y).2 }
/-- the contracts of all methods for runs of f steps -/
def xCon (l : Launch) (f : Nat) : Prop := ∀ (y : Nat) (dd : va_G) (kI kZ : ClassId) (r : Nat → Nat) (n : Nat) (F : Nat → Nat → Bool) (xs : Int → Int) (adV : Nat → Nat) (D : xD) (av : xst) (v : Option xv) (D' : xD) (sz : Nat),
  y < 242 → y ≠ 239 → n ≤ 124 → (xargl av).length ≤ (xsg y).2.1 → (∀ w ∈ av, xvo w) → xgd D → (∀ j, D 0 j = xs j) → xrun n F f none y 0 (xentry (xsg y).2.1 av) [] D = some (v, D') →
  Met l (xmn y) (xmcw y :: xw) (xrmY y) (xPre dd kI kZ r n F xs adV D sz av) (xPost dd kI kZ r n F xs (va_A (xws kI kZ r F D n) sz) v D') 0 0 (va_A (xws kI kZ r F D n) sz)
theorem xcall {p : Program} {l : Launch} {e : Env} {R : Room} {s : State} {m : MethodId} {args : Array Value} {below : List Frame} {meth : Method} {c : Code} {H : Heap} {locs : List Loc} {cells slots mc ms : Nat} {Q : State → Prop} {pc : Nat} {ls : Array Slot} {st0 rest : List Value} {Qa : State → Outcome → State → Prop} {free : Addr → Prop}
    (hr : va_Run p l e R s m args below meth c H locs cells slots mc ms (F0 m pc ls st0) rest Qa free)
    (kk : ∀ (v : Option Value) (st₀ t : State) (H1 : Heap) (L : List Loc), st₀.heap = H → Qa st₀ (.returned v) t → t.heap = H1 → s.vm.Alike t.vm → (∀ q ∈ L, free q.base) → W p l e R s m args below meth c H1 (locs ++ L) (cells + mc) (slots + ms) Q (F0 m (pc + 3) ls (v.toList ++ rest))) : W p l e R s m args below meth c H locs cells slots Q (F0 m pc ls st0) := by
  intro T hT X
  obtain ⟨v, st₀, t, T', L, h0, X', hL, e1, e2, hq, st⟩ := hr T hT X
  obtain ⟨t2, a1, b1⟩ := kk v st₀ t T'.heap L h0 hq e1.symm (by rw [← e2]; exact X'.warmed.alike) hL T' rfl X'
  exact ⟨t2, st t2 a1, b1⟩
theorem xws_addr {kI kZ : ClassId} {r : Nat → Nat} {F : Nat → Nat → Bool} {D : xD} {n j : Nat} {q : Nat × va_E} (h : (xws kI kZ r F D n)[j]? = some q) : j < n - 1 ∧ q = (r (j + 1), xcell kI kZ r F D (j + 1)) := by
  have hl := (List.getElem?_eq_some_iff.mp h).1
  have hl2 : j < n - 1 := by simpa [xws] using hl
  have h2 := xws_at (kI := kI) (kZ := kZ) (r := r) (F := F) (D := D) (a := j + 1) (n := n) (Nat.succ_pos j) (by omega)
  rw [Nat.add_sub_cancel, h] at h2
  exact ⟨hl2, Option.some.inj h2⟩
theorem xws_D {kI kZ : ClassId} {r : Nat → Nat} {F F' : Nat → Nat → Bool} {D D' : xD} {n : Nat} {A : Nat → Prop} (h : va_D A (xws kI kZ r F D n)) : va_D A (xws kI kZ r F' D' n) := by
  have key : ∀ (j : Nat) (q : Nat × va_E), (xws kI kZ r F' D' n)[j]? = some q → ∃ q0, (xws kI kZ r F D n)[j]? = some q0 ∧ q0.1 = q.1 := fun j q hq => by
    obtain ⟨h1, rfl⟩ := xws_addr hq
    exact ⟨_, xws_at (a := j + 1) (Nat.succ_pos j) (by omega), rfl⟩
  refine ⟨fun i j x y hi hj hxy => ?_, fun k q hk => ?_⟩
  · obtain ⟨x0, h1, h2⟩ := key i x hi
    obtain ⟨y0, h3, h4⟩ := key j y hj
    exact h.1 i j x0 y0 h1 h3 (h2.trans (hxy.trans h4.symm))
  · obtain ⟨q0, h1, h2⟩ := key k q hk
    rw [← h2]
    exact h.2 k q0 h1
theorem xnest_moved {s U : State} (hv : U.vm = s.vm) (h : ∀ w ∈ lw_tbl, xnest w = true → va_Nw w s) : ∀ w ∈ lw_tbl, xnest w = true → va_Nw w U := by
  intro w hw hn
  have h1 := h w hw hn
  cases w <;> first | (simp [xnest] at hn; done) | exact va_Nw.same rfl hv.symm h1
theorem xnest_warm {s U : State} (hW : s.WarmedH U.vm) (h : ∀ w ∈ lw_tbl, xnest w = true → va_Nw w s) : ∀ w ∈ lw_tbl, xnest w = true → va_Nw w U := by
  intro w hw hn
  have h1 := h w hw hn
  cases w <;> first | (simp [xnest] at hn; done) | exact va_Nw.warmF hW h1 | exact va_Nw.warmM hW h1
theorem xPre_blind {dd : va_G} {kI kZ : ClassId} {r : Nat → Nat} {n : Nat} {F : Nat → Nat → Bool} {xs : Int → Int} {adV : Nat → Nat} {D : xD} {sz : Nat} {av : xst} : FrameBlind (xPre dd kI kZ r n F xs adV D sz av) := by
  intro a U g mk h
  obtain ⟨h1, h2, h3, h4, h5, h6, ⟨h7, h8⟩, h9⟩ := h
  exact ⟨h1, h2, h3, h4, va_K.moved (u := U) (U := U.calling g mk a) (Vm.Alike.refl U.vm) h5, xnest_moved (s := U) (U := U.calling g mk a) rfl h6, ⟨vk_S.moved (u := U) (U := U.calling g mk a) (Vm.Alike.refl U.vm) h7, fun j hj => vk_R.same rfl (h8 j hj)⟩, va_Z.moved (u := U) (U := U.calling g mk a) (Vm.Alike.refl U.vm) h9.1, va_Zq.moved (u := U) (U := U.calling g mk a) (Vm.Alike.refl U.vm) h9.2⟩

section XR
variable {p : Program} {l : Launch} {e : Env} {R : Room} {s : State} {m : MethodId} {args : Array Value} {below : List Frame} {meth : Method} {c : Code} {cells slots : Nat} {Q : State → Prop}
variable {r : Nat → Nat} {nL : Nat} {dd : va_G} {kI kZ : ClassId} {n : Nat} {F : Nat → Nat → Bool} {A : Nat → Prop} {xs : Int → Int} {lo : Option Nat} {adV : Nat → Nat}
variable {y pc : Nat} {ls : xls} {st : xst} {D : xD}

/-- the pre state of a callee, out of the caller's frame -/
theorem xpre_of (hf : xFix p R s m args c y nL n r dd kI kZ A xs lo adV) {H : Heap} {locs : List Loc} (hM : xMem s dd kI kZ r n F A xs D H locs) {av : xst} : ∀ U : State, U.heap = H → s.WarmedH U.vm → xPre dd kI kZ r n F xs adV D H.size av (av.map (xV r)).toArray U := by
  obtain ⟨hx, hb, hml, hown, hts, hnw, hK, hR1, hR2, hy, hn, hA, hX, hS, hR⟩ := hf
  intro U hU hW
  have hsub : ∀ q, va_A (xws kI kZ r F D n) H.size q → A q := by
    intro q hq
    rcases hq with ⟨k, e, hq⟩ | hq
    · exact hM.2.1.2 k _ hq
    · exact hA q (Nat.le_trans hM.2.2.1.1 hq)
  refine ⟨rfl, by rw [hU], by rw [hU]; exact hM.1, hM.2.1.self, va_K.moved hW.alike hK, xnest_warm hW hnw, ⟨?_, fun j hj => vk_R.warm hW (hR.1 j hj)⟩, ?_, ?_⟩
  · rw [hU]
    exact ((vk_S.moved hW.alike hS).kept hM.2.2.1.2.1).narrow hsub
  · rw [hU]
    exact ((va_Z.moved hW.alike hR.2.1).kept hM.2.2.1.2.1).narrow hsub
  · rw [hU]
    exact ((va_Zq.moved hW.alike hR.2.2).kept hM.2.2.1.2.1).narrow hsub

end XR
