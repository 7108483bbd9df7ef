/-! nets: the class fills by worth -/
def p0C : Int → Int := fun v => if (110 ≤ v ∧ v < 118) ∨ v = 119 then 0 else -13
section M98f
variable {x1 x2 x3 x4 x5 h F z wh : Int} {D D' : xD} {T p far c w : Int → Int} {o3 o4 o5 : Option xv} {Q : Option xv → xD → Prop}
theorem pot_0 (hT : tnW T) (hwh : 0 ≤ wh ∧ wh ≤ 2) (hI : ncI D (csS T wh) 1016) (hw : ∀ m, 0 ≤ m → m ≤ 12 → 0 ≤ w m ∧ w m ≤ 13) : flC (D 57 0) (fun e => D 60 (prI e)) (D 60) (gnE w (D 62)) (alH h) (D 61) p0C := by
  obtain ⟨hN, hr⟩ := ns_of hT hwh hI
  intro e q1 q2 _ _ q3
  show p0C (D 60 (prI e)) + gnE w (D 62) e ≤ p0C (D 60 e)
  have cc : e % 2 = 0 := by
    by_cases c : e % 2 = 1
    · rw [(hr e q1 q2).2 c] at q3; omega
    · omega
  obtain ⟨k, rfl⟩ : ∃ k, e = 2 * k := ⟨e / 2, by omega⟩
  obtain ⟨r1, r2, r3, r4, r5, r6, r7, r8, r9, r10⟩ := hN.2.2.2 k (by omega) q2
  rw [gn_ev, pr_ev]
  by_cases c : 16 ≤ D 62 (2 * k)
  · have hv := hw (D 62 (2 * k) - 16) (by omega) (by omega)
    have e1 : gnL w (D 62 (2 * k)) = w (D 62 (2 * k) - 16) := by unfold gnL; rw [if_pos c]
    rw [e1]
    unfold p0C
    rw [if_neg (by omega), if_pos (by omega)]; omega
  · rw [gn_lo (by omega)]
    unfold p0C
    (repeat' split) <;> omega
/-- the best worth, out of a net just built -/
theorem m42 (hT : tnW T) (hwh : 0 ≤ wh ∧ wh ≤ 2) (hh : 0 ≤ x1 ∧ x1 ≤ 12) (hI : ncI D (csS T wh) 1016) (hw : ∀ m, 0 ≤ m → m ≤ 12 → 0 ≤ D 72 m ∧ D 72 m ≤ 13)
    (hq : ∀ (D' : xD) z, (∀ a, a ≠ 61 → a ≠ 63 → a ≠ 65 → a ≠ 66 → a ≠ 67 → D' a = D a) → opT 0 1 (mdl T (D 72) (-1) wh x1) z → (0 ≤ z ∧ z ≤ 1287) → Q (some (.inl z)) D') :
    WP 124 xF1 none 42 0 [some (.inr (.inr (some 57))), some (.inl x1), some (.inr (.inr (some 72))), o3, o4, o5] [] D Q := by
  have c0 := cl_0 (h := x1) hT hwh hI
  have hN := c0.1
  obtain ⟨hN', hr⟩ := ns_of hT hwh hI
  rw [seg42_0 (ha0 := ho57) (ha2 := show xalen none 124 72 = some 13 from rfl)]
  refine m41 hN.1 (fun k k1 k2 => (hN.2.2.2 k k1 k2).2.2.2.2.1) hw (fun D1 f1 f2 => ?_)
  simp only [Option.toList_some, Option.toList_none, List.cons_append, List.nil_append]
  rw [seg42_5 (ha0 := ho57) (ha2 := show xalen none 124 72 = some 13 from rfl)]
  have e57 := f1 57 (by decide)
  have e60 := f1 60 (by decide)
  have e61 := f1 61 (by decide)
  have e62 := f1 62 (by decide)
  have c1 : clI D1 (cPr (D 61)) x1 0 (csS T wh) := cl_fr (fun a a1 a2 => f1 a (by omega)) c0
  have du : ∀ w, duD D1 w (cPr (D 61)) x1 = fun y => csS T wh (cfY w (-1) x1 y) := fun w => du_eq c1.1
  refine l42a (D := D1) (w := D 72) (V := csS T wh) (c := cPr (D 61)) (h := x1) (by rw [e57, e62]; exact f2) hw (cl_W hT hwh c1.1) (fun D2 F z g1 g2 g3 g4 => hq D2 z (fun a a1 a2 a3 a4 a5 => by rw [g1 a a1 a3 a4 a5, f1 a a2]) ?_ g4) 14 0 0 0 D1 p0C _ (by omega) (by omega) (by omega) ⟨fun _ _ _ _ _ => rfl, c1, ?_, ?_, by decide, fun v => by unfold p0C; split <;> omega, by decide, by decide⟩ (fun D2 hM => ?_)
  · rw [du] at g3
    exact op_cm hT hh hwh (by omega) (by decide) g3
  · rw [e57, e60, e61, e62]; exact pot_0 hT hwh hI hw
  · rw [e57, e61, e62]; exact ((fl_zero hN' hr (alH x1)).2 _).symm
  · obtain ⟨mF, vi, rk, st, mI, mC⟩ := hM
    have := (mI.2.1 119 (by decide) (by decide)).1
    have e1 : p0C 119 = 0 := by decide
    have e2 : p0C 118 = -13 := by decide
    omega
end M98f
