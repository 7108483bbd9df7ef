/-! equations -/
theorem seg130_0 (a0 : Nat) (x1 : Int) (x2 : Int) (x3 : Int) (x4 : Int) (o5 : Option xv) (o6 : Option xv) (D : xD) (Q : Option xv → xD → Prop) (ha0 : xisO 124 a0 9 = true) :
  WP 124 xF1 none 130 0 [some (.inr (.inr (some a0))), some (.inl x1), some (.inl x2), some (.inl x3), some (.inl x4), o5, o6] [] D Q =
  ((x2 = (-1) → WP 124 xF1 none 130 19 [some (.inr (.inr (some a0))), some (.inl x1), some (.inl x2), some (.inl x3), some (.inl x4), o5, o6] [] D Q) ∧ (¬ (x2 = (-1)) → WP 124 xF1 none 94 0 [some (.inr (.inr (some (a0 + 3)))), some (.inl x1)] [] D (fun v D9 => WP 124 xF1 none 130 16 [some (.inr (.inr (some a0))), some (.inl x1), some (.inl x2), some (.inl x3), some (.inl x4), o5, o6] (v.toList ++ []) D9 Q))) :=
  (WP.ldI rfl rfl).trans <| (WP.kI rfl).trans <| (WP.ic0 rfl).trans <| br_eq rfl ((WP.ldR rfl rfl).trans <| (WP.getR (b := (a0 + 2)) rfl ha0 rfl rfl).trans <| (WP.getR (b := (a0 + 3)) rfl (so_9_4 ha0) rfl rfl).trans <| (WP.ldI rfl rfl).trans <| WP.call rfl rfl (crv (r := xrecv 124 94 [.inr (.inr (some (a0 + 3))), .inl x1]) (so_6_0 (so_9_4 ha0)) rfl rfl rfl) rfl)
theorem seg130_16 (a0 : Nat) (x1 : Int) (x2 : Int) (x3 : Int) (x4 : Int) (o5 : Option xv) (o6 : Option xv) (s0 : Int) (D : xD) (Q : Option xv → xD → Prop) (ha0 : xisO 124 a0 9 = true) :
  WP 124 xF1 none 130 16 [some (.inr (.inr (some a0))), some (.inl x1), some (.inl x2), some (.inl x3), some (.inl x4), o5, o6] [.inl s0] D Q =
  ((s0 ≠ 0 → (x2 < 0 → WP 124 xF1 none 130 31 [some (.inr (.inr (some a0))), some (.inl x1), some (.inl x2), some (.inl x3), some (.inl x4), o5, o6] [] D Q) ∧ (¬ (x2 < 0) → (x3 ≤ 12 → WP 124 xF1 none 130 36 [some (.inr (.inr (some a0))), some (.inl x1), some (.inl x2), some (.inl x3), some (.inl x4), some (.inl x2), o6] [] D Q) ∧ (¬ (x3 ≤ 12) → WP 124 xF1 none 130 31 [some (.inr (.inr (some a0))), some (.inl x1), some (.inl x2), some (.inl x3), some (.inl x4), o5, o6] [] D Q))) ∧ (¬ (s0 ≠ 0) → WP 124 xF1 none 130 19 [some (.inr (.inr (some a0))), some (.inl x1), some (.inl x2), some (.inl x3), some (.inl x4), o5, o6] [] D Q)) :=
  (WP.if1 rfl).trans <| br_eq ((WP.ldI rfl rfl).trans <| (WP.if2 rfl).trans <| br_eq rfl ((WP.ldI rfl rfl).trans <| (WP.kI rfl).trans <| (WP.ic5 rfl).trans <| br_eq ((WP.ldI rfl rfl).trans <| WP.stI rfl rfl) rfl)) rfl
theorem seg130_19 (a0 : Nat) (x1 : Int) (x2 : Int) (x3 : Int) (x4 : Int) (o5 : Option xv) (o6 : Option xv) (D : xD) (Q : Option xv → xD → Prop) (ha0 : xisO 124 a0 9 = true) :
  WP 124 xF1 none 130 19 [some (.inr (.inr (some a0))), some (.inl x1), some (.inl x2), some (.inl x3), some (.inl x4), o5, o6] [] D Q =
  (Q (some (.inl x2)) D) :=
  (WP.ldI rfl rfl).trans <| WP.ret rfl rfl
theorem seg130_31 (a0 : Nat) (x1 : Int) (x2 : Int) (x3 : Int) (x4 : Int) (o5 : Option xv) (o6 : Option xv) (D : xD) (Q : Option xv → xD → Prop) (ha0 : xisO 124 a0 9 = true) :
  WP 124 xF1 none 130 31 [some (.inr (.inr (some a0))), some (.inl x1), some (.inl x2), some (.inl x3), some (.inl x4), o5, o6] [] D Q =
  (Q (some (.inl (-1))) D) :=
  (WP.kI rfl).trans <| WP.ret rfl rfl
theorem seg130_36 (a0 : Nat) (x1 : Int) (x2 : Int) (x3 : Int) (x4 : Int) (x5 : Int) (o6 : Option xv) (D : xD) (Q : Option xv → xD → Prop) (ha0 : xisO 124 a0 9 = true) :
  WP 124 xF1 none 130 36 [some (.inr (.inr (some a0))), some (.inl x1), some (.inl x2), some (.inl x3), some (.inl x4), some (.inl x5), o6] [] D Q =
  ((x3 < x5 → ((0 : Int) ≤ x1 ∧ x1 < (16 : Int)) ∧ (xinP (x2 + (D (a0 + 6) x1))) ∧ Q (some (.inl (x2 + (D (a0 + 6) x1)))) D) ∧ (¬ (x3 < x5) → (xinP (x1 * 13)) ∧ (xinP ((x1 * 13) + x5)) ∧ ((0 : Int) ≤ ((x1 * 13) + x5) ∧ ((x1 * 13) + x5) < (208 : Int)) ∧ (xinP ((D (a0 + 40) ((x1 * 13) + x5)) + x4)) ∧ ((0 : Int) ≤ ((x1 * 13) + x5) ∧ ((x1 * 13) + x5) < (208 : Int)) ∧ ((0 : Int) ≤ ((x1 * 13) + x5) ∧ ((x1 * 13) + x5) < (208 : Int)) ∧ (((D (a0 + 40) ((x1 * 13) + x5)) + x4) ≤ 30 → (xinP (x5 + 1)) ∧ WP 124 xF1 none 130 36 [some (.inr (.inr (some a0))), some (.inl x1), some (.inl x2), some (.inl x3), some (.inl x4), some (.inl (x5 + 1)), some (.inl ((x1 * 13) + x5))] [] (xup D (a0 + 40) ((x1 * 13) + x5) ((D (a0 + 40) ((x1 * 13) + x5)) + x4)) Q) ∧ (¬ (((D (a0 + 40) ((x1 * 13) + x5)) + x4) ≤ 30) → Q (some (.inl (-1))) (xup D (a0 + 40) ((x1 * 13) + x5) ((D (a0 + 40) ((x1 * 13) + x5)) + x4))))) :=
  (WP.ldI rfl rfl).trans <| (WP.ldI rfl rfl).trans <| (WP.ic4 rfl).trans <| br_eq ((WP.ldI rfl rfl).trans <| (WP.ldR rfl rfl).trans <| (WP.getR (b := (a0 + 2)) rfl ha0 rfl rfl).trans <| (WP.getR (b := (a0 + 3)) rfl (so_9_4 ha0) rfl rfl).trans <| (WP.getR (b := (a0 + 6)) rfl (so_6_0 (so_9_4 ha0)) rfl rfl).trans <| (WP.ldI rfl rfl).trans <| (WP.iald rfl (so_7_2 (so_6_0 (so_9_4 ha0)))).trans <| cn_eq ((WP.iadd rfl).trans <| cn_eq (WP.ret rfl rfl))) ((WP.ldI rfl rfl).trans <| (WP.kI rfl).trans <| (WP.imul rfl).trans <| cn_eq ((WP.ldI rfl rfl).trans <| (WP.iadd rfl).trans <| cn_eq ((WP.stI rfl rfl).trans <| (WP.ldR rfl rfl).trans <| (WP.getR (b := (a0 + 40)) rfl ha0 rfl rfl).trans <| (WP.ldI rfl rfl).trans <| (WP.dup2 rfl rfl rfl).trans <| (WP.iald rfl (so_9_6 ha0)).trans <| cn_eq ((WP.ldI rfl rfl).trans <| (WP.iadd rfl).trans <| cn_eq ((WP.iast rfl (so_9_6 ha0)).trans <| cn_eq ((WP.ldR rfl rfl).trans <| (WP.getR (b := (a0 + 40)) rfl ha0 rfl rfl).trans <| (WP.ldI rfl rfl).trans <| (WP.iald2 rfl (so_9_6 ha0) xr_s).trans <| cn_eq ((WP.kI rfl).trans <| (WP.ic5 rfl).trans <| br_eq ((WP.iinc rfl rfl rfl).trans <| cn_eq (WP.goto rfl)) ((WP.kI rfl).trans <| WP.ret rfl rfl))))))))
theorem seg131_0 (a0 : Nat) (x1 : Int) (x2 : Int) (D : xD) (Q : Option xv → xD → Prop) (ha0 : xisO 124 a0 9 = true) :
  WP 124 xF1 none 131 0 [some (.inr (.inr (some a0))), some (.inl x1), some (.inl x2)] [] D Q =
  ((x1 ≠ (-1) → (x1 < 0 → WP 124 xF1 none 131 36 [some (.inr (.inr (some a0))), some (.inl x1), some (.inl x2)] [] D Q) ∧ (¬ (x1 < 0) → WP 124 xF1 none 2 0 [some (.inr (.inr (some (a0 + 81)))), some (.inr (.inr (some (a0 + 2)))), some (.inl x1), none, none, none, none] [] D (fun v D9 => WP 124 xF1 none 131 33 [some (.inr (.inr (some a0))), some (.inl x1), some (.inl x2)] (v.toList ++ []) D9 Q))) ∧ (¬ (x1 ≠ (-1)) → WP 124 xF1 none 1 0 [some (.inr (.inr (some (a0 + 81)))), some (.inr (.inr (some (a0 + 2))))] [] D (fun v D9 => WP 124 xF1 none 131 16 [some (.inr (.inr (some a0))), some (.inl x1), some (.inl x2)] (v.toList ++ []) D9 Q))) :=
  (WP.ldI rfl rfl).trans <| (WP.kI rfl).trans <| (WP.ic1 rfl).trans <| br_eq ((WP.ldI rfl rfl).trans <| (WP.if2 rfl).trans <| br_eq rfl ((WP.ldR rfl rfl).trans <| (WP.getR (b := (a0 + 81)) rfl ha0 rfl rfl).trans <| (WP.ldR rfl rfl).trans <| (WP.getR (b := (a0 + 2)) rfl ha0 rfl rfl).trans <| (WP.ldI rfl rfl).trans <| WP.call rfl rfl (crv (r := xrecv 124 2 [.inr (.inr (some (a0 + 81))), .inr (.inr (some (a0 + 2))), .inl x1]) (so_9_10 ha0) rfl rfl rfl) rfl)) ((WP.ldR rfl rfl).trans <| (WP.getR (b := (a0 + 81)) rfl ha0 rfl rfl).trans <| (WP.ldR rfl rfl).trans <| (WP.getR (b := (a0 + 2)) rfl ha0 rfl rfl).trans <| WP.call rfl rfl (crv (r := xrecv 124 1 [.inr (.inr (some (a0 + 81))), .inr (.inr (some (a0 + 2)))]) (so_9_10 ha0) rfl rfl rfl) rfl)
theorem seg131_16 (a0 : Nat) (x1 : Int) (x2 : Int) (s0 : Int) (D : xD) (Q : Option xv → xD → Prop) (ha0 : xisO 124 a0 9 = true) :
  WP 124 xF1 none 131 16 [some (.inr (.inr (some a0))), some (.inl x1), some (.inl x2)] [.inl s0] D Q =
  (Q (some (.inl s0)) D) :=
  WP.ret rfl rfl
theorem seg131_33 (a0 : Nat) (x1 : Int) (x2 : Int) (s0 : Int) (D : xD) (Q : Option xv → xD → Prop) (ha0 : xisO 124 a0 9 = true) :
  WP 124 xF1 none 131 33 [some (.inr (.inr (some a0))), some (.inl x1), some (.inl x2)] [.inl s0] D Q =
  ((s0 ≠ 0 → WP 124 xF1 none 131 (bif decide (x2 < 0) then 88 else ([64, 72, 80] : List Nat).getD (x2 - 0).toNat 88) [some (.inr (.inr (some a0))), some (.inl x1), some (.inl x2)] [] D Q) ∧ (¬ (s0 ≠ 0) → WP 124 xF1 none 131 36 [some (.inr (.inr (some a0))), some (.inl x1), some (.inl x2)] [] D Q)) :=
  (WP.if1 rfl).trans <| br_eq ((WP.ldI rfl rfl).trans <| WP.tab rfl) rfl
theorem seg131_36 (a0 : Nat) (x1 : Int) (x2 : Int) (D : xD) (Q : Option xv → xD → Prop) (ha0 : xisO 124 a0 9 = true) :
  WP 124 xF1 none 131 36 [some (.inr (.inr (some a0))), some (.inl x1), some (.inl x2)] [] D Q =
  (Q (some (.inl (-1))) D) :=
  (WP.kI rfl).trans <| WP.ret rfl rfl
theorem seg131_64 (a0 : Nat) (x1 : Int) (x2 : Int) (D : xD) (Q : Option xv → xD → Prop) (ha0 : xisO 124 a0 9 = true) :
  WP 124 xF1 none 131 64 [some (.inr (.inr (some a0))), some (.inl x1), some (.inl x2)] [] D Q =
  (Q (some (.inl (D (a0 + 81) 4))) D) :=
  (WP.ldR rfl rfl).trans <| (WP.getR (b := (a0 + 81)) rfl ha0 rfl rfl).trans <| (WP.getI rfl (so_9_10 ha0)).trans <| WP.ret rfl rfl
theorem seg131_72 (a0 : Nat) (x1 : Int) (x2 : Int) (D : xD) (Q : Option xv → xD → Prop) (ha0 : xisO 124 a0 9 = true) :
  WP 124 xF1 none 131 72 [some (.inr (.inr (some a0))), some (.inl x1), some (.inl x2)] [] D Q =
  (Q (some (.inl (D (a0 + 81) 3))) D) :=
  (WP.ldR rfl rfl).trans <| (WP.getR (b := (a0 + 81)) rfl ha0 rfl rfl).trans <| (WP.getI rfl (so_9_10 ha0)).trans <| WP.ret rfl rfl
theorem seg131_80 (a0 : Nat) (x1 : Int) (x2 : Int) (D : xD) (Q : Option xv → xD → Prop) (ha0 : xisO 124 a0 9 = true) :
  WP 124 xF1 none 131 80 [some (.inr (.inr (some a0))), some (.inl x1), some (.inl x2)] [] D Q =
  (Q (some (.inl (D (a0 + 81) 2))) D) :=
  (WP.ldR rfl rfl).trans <| (WP.getR (b := (a0 + 81)) rfl ha0 rfl rfl).trans <| (WP.getI rfl (so_9_10 ha0)).trans <| WP.ret rfl rfl
theorem seg131_88 (a0 : Nat) (x1 : Int) (x2 : Int) (D : xD) (Q : Option xv → xD → Prop) (ha0 : xisO 124 a0 9 = true) :
  WP 124 xF1 none 131 88 [some (.inr (.inr (some a0))), some (.inl x1), some (.inl x2)] [] D Q =
  ((x2 < 10 → WP 124 xF1 none 131 123 [some (.inr (.inr (some a0))), some (.inl x1), some (.inl x2)] [] D Q) ∧ (¬ (x2 < 10) → (xinP (10 + (D (a0 + 81) 2))) ∧ ((10 + (D (a0 + 81) 2)) ≤ x2 → WP 124 xF1 none 131 123 [some (.inr (.inr (some a0))), some (.inl x1), some (.inl x2)] [] D Q) ∧ (¬ ((10 + (D (a0 + 81) 2)) ≤ x2) → (xinP (x2 - 10)) ∧ ((0 : Int) ≤ (x2 - 10) ∧ (x2 - 10) < (13 : Int)) ∧ WP 124 xF1 none 131 124 [some (.inr (.inr (some a0))), some (.inl x1), some (.inl x2)] [.inl (D (a0 + 83) (x2 - 10))] D Q))) :=
  (WP.ldI rfl rfl).trans <| (WP.kI rfl).trans <| (WP.ic2 rfl).trans <| br_eq rfl ((WP.ldI rfl rfl).trans <| (WP.kI rfl).trans <| (WP.ldR rfl rfl).trans <| (WP.getR (b := (a0 + 81)) rfl ha0 rfl rfl).trans <| (WP.getI rfl (so_9_10 ha0)).trans <| (WP.iadd rfl).trans <| cn_eq ((WP.ic3 rfl).trans <| br_eq rfl ((WP.ldR rfl rfl).trans <| (WP.getR (b := (a0 + 81)) rfl ha0 rfl rfl).trans <| (WP.getR (b := (a0 + 83)) rfl (so_9_10 ha0) rfl rfl).trans <| (WP.ldI rfl rfl).trans <| (WP.kI rfl).trans <| (WP.isub rfl).trans <| cn_eq ((WP.iald rfl (so_0_1 (so_9_10 ha0))).trans <| cn_eq (WP.goto rfl)))))
theorem seg131_123 (a0 : Nat) (x1 : Int) (x2 : Int) (D : xD) (Q : Option xv → xD → Prop) (ha0 : xisO 124 a0 9 = true) :
  WP 124 xF1 none 131 123 [some (.inr (.inr (some a0))), some (.inl x1), some (.inl x2)] [] D Q =
  (WP 124 xF1 none 131 124 [some (.inr (.inr (some a0))), some (.inl x1), some (.inl x2)] [.inl (-1)] D Q) :=
  WP.kI rfl
theorem seg131_124 (a0 : Nat) (x1 : Int) (x2 : Int) (s0 : Int) (D : xD) (Q : Option xv → xD → Prop) (ha0 : xisO 124 a0 9 = true) :
  WP 124 xF1 none 131 124 [some (.inr (.inr (some a0))), some (.inl x1), some (.inl x2)] [.inl s0] D Q =
  (Q (some (.inl s0)) D) :=
  WP.ret rfl rfl
theorem seg132_0 (a0 : Nat) (x1 : Int) (x2 : Int) (x3 : Int) (D : xD) (Q : Option xv → xD → Prop) (ha0 : xisO 124 a0 9 = true) :
  WP 124 xF1 none 132 0 [some (.inr (.inr (some a0))), some (.inl x1), some (.inl x2), some (.inl x3)] [] D Q =
  (WP 124 xF1 none 82 0 [some (.inr (.inr (some (a0 + 2)))), some (.inr (.inr (some (a0 + 20)))), some (.inl x1), some (.inl x2), some (.inl x3)] [] D (fun v D9 => WP 124 xF1 none 132 17 [some (.inr (.inr (some a0))), some (.inl x1), some (.inl x2), some (.inl x3)] (v.toList ++ []) D9 Q)) :=
  (WP.ldR rfl rfl).trans <| (WP.getR (b := (a0 + 2)) rfl ha0 rfl rfl).trans <| (WP.ldR rfl rfl).trans <| (WP.getR (b := (a0 + 2)) rfl ha0 rfl rfl).trans <| (WP.getR (b := (a0 + 20)) rfl (so_9_4 ha0) rfl rfl).trans <| (WP.ldI rfl rfl).trans <| (WP.ldI rfl rfl).trans <| (WP.ldI rfl rfl).trans <| WP.call rfl rfl (crv (r := xrecv 124 82 [.inr (.inr (some (a0 + 2))), .inr (.inr (some (a0 + 20))), .inl x1, .inl x2, .inl x3]) (so_9_4 ha0) rfl rfl rfl) rfl
theorem seg132_17 (a0 : Nat) (x1 : Int) (x2 : Int) (x3 : Int) (s0 : Int) (D : xD) (Q : Option xv → xD → Prop) (ha0 : xisO 124 a0 9 = true) :
  WP 124 xF1 none 132 17 [some (.inr (.inr (some a0))), some (.inl x1), some (.inl x2), some (.inl x3)] [.inl s0] D Q =
  ((s0 = 0 ∨ s0 = 1) ∧ Q (some (.inl s0)) D) :=
  WP.retZ rfl rfl
theorem seg133_0 (a0 : Nat) (x1 : Int) (x2 : Int) (o3 : Option xv) (o4 : Option xv) (D : xD) (Q : Option xv → xD → Prop) (ha0 : xisO 124 a0 9 = true) :
  WP 124 xF1 none 133 0 [some (.inr (.inr (some a0))), some (.inl x1), some (.inl x2), o3, o4] [] D Q =
  (WP 124 xF1 none 144 0 [some (.inl x1)] [] D (fun v D9 => WP 124 xF1 none 133 4 [some (.inr (.inr (some a0))), some (.inl x1), some (.inl x2), o3, o4] (v.toList ++ []) D9 Q)) :=
  (WP.ldI rfl rfl).trans <| WP.call rfl rfl rfl rfl
theorem seg133_4 (a0 : Nat) (x1 : Int) (x2 : Int) (o3 : Option xv) (o4 : Option xv) (s0 : Int) (D : xD) (Q : Option xv → xD → Prop) (ha0 : xisO 124 a0 9 = true) :
  WP 124 xF1 none 133 4 [some (.inr (.inr (some a0))), some (.inl x1), some (.inl x2), o3, o4] [.inl s0] D Q =
  ((s0 = 0 → WP 124 xF1 none 133 16 [some (.inr (.inr (some a0))), some (.inl x1), some (.inl x2), o3, o4] [] D Q) ∧ (¬ (s0 = 0) → (x2 < 0 → WP 124 xF1 none 133 16 [some (.inr (.inr (some a0))), some (.inl x1), some (.inl x2), o3, o4] [] D Q) ∧ (¬ (x2 < 0) → (x2 ≤ 2 → (x2 ≠ 1 → WP 124 xF1 none 49 0 [some (.inr (.inr (some (a0 + 55)))), some (.inr (.inr (some (a0 + 2)))), some (.inl x1), some (.inl 1)] [] D (fun v D9 => WP 124 xF1 none 133 40 [some (.inr (.inr (some a0))), some (.inl x1), some (.inl x2), o3, o4] (v.toList ++ []) D9 Q)) ∧ (¬ (x2 ≠ 1) → WP 124 xF1 none 133 40 [some (.inr (.inr (some a0))), some (.inl x1), some (.inl x2), o3, o4] [.inl 0] D Q)) ∧ (¬ (x2 ≤ 2) → WP 124 xF1 none 133 16 [some (.inr (.inr (some a0))), some (.inl x1), some (.inl x2), o3, o4] [] D Q)))) :=
  (WP.if0 rfl).trans <| br_eq rfl ((WP.ldI rfl rfl).trans <| (WP.if2 rfl).trans <| br_eq rfl ((WP.ldI rfl rfl).trans <| (WP.kI rfl).trans <| (WP.ic5 rfl).trans <| br_eq ((WP.ldI rfl rfl).trans <| (WP.kI rfl).trans <| (WP.ic1 rfl).trans <| br_eq ((WP.ldR rfl rfl).trans <| (WP.getR (b := (a0 + 55)) rfl ha0 rfl rfl).trans <| (WP.ldR rfl rfl).trans <| (WP.getR (b := (a0 + 2)) rfl ha0 rfl rfl).trans <| (WP.ldI rfl rfl).trans <| (WP.kI rfl).trans <| WP.call rfl rfl (crv (r := xrecv 124 49 [.inr (.inr (some (a0 + 55))), .inr (.inr (some (a0 + 2))), .inl x1, .inl 1]) (so_9_8 ha0) rfl rfl rfl) rfl) ((WP.kI rfl).trans <| WP.goto rfl)) rfl))
theorem seg133_16 (a0 : Nat) (x1 : Int) (x2 : Int) (o3 : Option xv) (o4 : Option xv) (D : xD) (Q : Option xv → xD → Prop) (ha0 : xisO 124 a0 9 = true) :
  WP 124 xF1 none 133 16 [some (.inr (.inr (some a0))), some (.inl x1), some (.inl x2), o3, o4] [] D Q =
  (Q (some (.inl (-1))) D) :=
  (WP.kI rfl).trans <| WP.ret rfl rfl
theorem seg133_40 (a0 : Nat) (x1 : Int) (x2 : Int) (o3 : Option xv) (o4 : Option xv) (s0 : Int) (D : xD) (Q : Option xv → xD → Prop) (ha0 : xisO 124 a0 9 = true) :
  WP 124 xF1 none 133 40 [some (.inr (.inr (some a0))), some (.inl x1), some (.inl x2), o3, o4] [.inl s0] D Q =
  ((x2 ≠ 0 → WP 124 xF1 none 49 0 [some (.inr (.inr (some (a0 + 55)))), some (.inr (.inr (some (a0 + 2)))), some (.inl x1), some (.inl 2)] [] D (fun v D9 => WP 124 xF1 none 133 62 [some (.inr (.inr (some a0))), some (.inl x1), some (.inl x2), some (.inl s0), o4] (v.toList ++ []) D9 Q)) ∧ (¬ (x2 ≠ 0) → WP 124 xF1 none 133 62 [some (.inr (.inr (some a0))), some (.inl x1), some (.inl x2), some (.inl s0), o4] [.inl 0] D Q)) :=
  (WP.stI rfl rfl).trans <| (WP.ldI rfl rfl).trans <| (WP.if1 rfl).trans <| br_eq ((WP.ldR rfl rfl).trans <| (WP.getR (b := (a0 + 55)) rfl ha0 rfl rfl).trans <| (WP.ldR rfl rfl).trans <| (WP.getR (b := (a0 + 2)) rfl ha0 rfl rfl).trans <| (WP.ldI rfl rfl).trans <| (WP.kI rfl).trans <| WP.call rfl rfl (crv (r := xrecv 124 49 [.inr (.inr (some (a0 + 55))), .inr (.inr (some (a0 + 2))), .inl x1, .inl 2]) (so_9_8 ha0) rfl rfl rfl) rfl) ((WP.kI rfl).trans <| WP.goto rfl)
theorem seg133_62 (a0 : Nat) (x1 : Int) (x2 : Int) (x3 : Int) (o4 : Option xv) (s0 : Int) (D : xD) (Q : Option xv → xD → Prop) (ha0 : xisO 124 a0 9 = true) :
  WP 124 xF1 none 133 62 [some (.inr (.inr (some a0))), some (.inl x1), some (.inl x2), some (.inl x3), o4] [.inl s0] D Q =
  ((2 ≤ x2 → WP 124 xF1 none 46 0 [some (.inr (.inr (some (a0 + 55)))), some (.inr (.inr (some (a0 + 2)))), none, none] [] D (fun v D9 => WP 124 xF1 none 133 85 [some (.inr (.inr (some a0))), some (.inl x1), some (.inl x2), some (.inl x3), some (.inl s0)] (v.toList ++ []) D9 Q)) ∧ (¬ (2 ≤ x2) → (xinP (x3 + s0)) ∧ Q (some (.inl (x3 + s0))) D)) :=
  (WP.stI rfl rfl).trans <| (WP.ldI rfl rfl).trans <| (WP.kI rfl).trans <| (WP.ic3 rfl).trans <| br_eq ((WP.ldR rfl rfl).trans <| (WP.getR (b := (a0 + 55)) rfl ha0 rfl rfl).trans <| (WP.ldR rfl rfl).trans <| (WP.getR (b := (a0 + 2)) rfl ha0 rfl rfl).trans <| WP.call rfl rfl (crv (r := xrecv 124 46 [.inr (.inr (some (a0 + 55))), .inr (.inr (some (a0 + 2)))]) (so_9_8 ha0) rfl rfl rfl) rfl) ((WP.ldI rfl rfl).trans <| (WP.ldI rfl rfl).trans <| (WP.iadd rfl).trans <| cn_eq (WP.ret rfl rfl))
theorem seg133_85 (a0 : Nat) (x1 : Int) (x2 : Int) (x3 : Int) (x4 : Int) (D : xD) (Q : Option xv → xD → Prop) (ha0 : xisO 124 a0 9 = true) :
  WP 124 xF1 none 133 85 [some (.inr (.inr (some a0))), some (.inl x1), some (.inl x2), some (.inl x3), some (.inl x4)] [] D Q =
  (((0 : Int) ≤ x1 ∧ x1 < (13 : Int)) ∧ (xinP (x3 + x4)) ∧ Q (some (.inl (min (D (a0 + 67) x1) (x3 + x4)))) D) :=
  (WP.ldR rfl rfl).trans <| (WP.getR (b := (a0 + 55)) rfl ha0 rfl rfl).trans <| (WP.getR (b := (a0 + 67)) rfl (so_9_8 ha0) rfl rfl).trans <| (WP.ldI rfl rfl).trans <| (WP.iald rfl (so_4_2 (so_9_8 ha0))).trans <| cn_eq ((WP.ldI rfl rfl).trans <| (WP.ldI rfl rfl).trans <| (WP.iadd rfl).trans <| cn_eq ((WP.kmin rfl rfl).trans <| WP.ret rfl rfl))
theorem seg134_0 (a0 : Nat) (x1 : Int) (x2 : Int) (D : xD) (Q : Option xv → xD → Prop) (ha0 : xisO 124 a0 9 = true) :
  WP 124 xF1 none 134 0 [some (.inr (.inr (some a0))), some (.inl x1), some (.inl x2)] [] D Q =
  (WP 124 xF1 none 85 0 [some (.inr (.inr (some (a0 + 2)))), some (.inl x1), some (.inl x2)] [] D (fun v D9 => WP 124 xF1 none 134 9 [some (.inr (.inr (some a0))), some (.inl x1), some (.inl x2)] (v.toList ++ []) D9 Q)) :=
  (WP.ldR rfl rfl).trans <| (WP.getR (b := (a0 + 2)) rfl ha0 rfl rfl).trans <| (WP.ldI rfl rfl).trans <| (WP.ldI rfl rfl).trans <| WP.call rfl rfl (crv (r := xrecv 124 85 [.inr (.inr (some (a0 + 2))), .inl x1, .inl x2]) (so_9_4 ha0) rfl rfl rfl) rfl
theorem seg134_9 (a0 : Nat) (x1 : Int) (x2 : Int) (s0 : Int) (D : xD) (Q : Option xv → xD → Prop) (ha0 : xisO 124 a0 9 = true) :
  WP 124 xF1 none 134 9 [some (.inr (.inr (some a0))), some (.inl x1), some (.inl x2)] [.inl s0] D Q =
  ((s0 ≠ 0 → ((0 : Int) ≤ x1 ∧ x1 < (8 : Int)) ∧ Q (some (.inl 1)) (xup D (a0 + 15) x1 x2)) ∧ (¬ (s0 ≠ 0) → Q (some (.inl 0)) D)) :=
  (WP.if1 rfl).trans <| br_eq ((WP.ldR rfl rfl).trans <| (WP.getR (b := (a0 + 2)) rfl ha0 rfl rfl).trans <| (WP.getR (b := (a0 + 15)) rfl (so_9_4 ha0) rfl rfl).trans <| (WP.ldI rfl rfl).trans <| (WP.ldI rfl rfl).trans <| (WP.iast rfl (so_6_2 (so_9_4 ha0))).trans <| cn_eq ((WP.kI rfl).trans <| WP.ret rfl rfl)) ((WP.kI rfl).trans <| WP.ret rfl rfl)
theorem seg135_0 (a0 : Nat) (x1 : Int) (x2 : Int) (D : xD) (Q : Option xv → xD → Prop) (ha0 : xisO 124 a0 9 = true) :
  WP 124 xF1 none 135 0 [some (.inr (.inr (some a0))), some (.inl x1), some (.inl x2)] [] D Q =
  (WP 124 xF1 none 144 0 [some (.inl x1)] [] D (fun v D9 => WP 124 xF1 none 135 4 [some (.inr (.inr (some a0))), some (.inl x1), some (.inl x2)] (v.toList ++ []) D9 Q)) :=
  (WP.ldI rfl rfl).trans <| WP.call rfl rfl rfl rfl
theorem seg135_4 (a0 : Nat) (x1 : Int) (x2 : Int) (s0 : Int) (D : xD) (Q : Option xv → xD → Prop) (ha0 : xisO 124 a0 9 = true) :
  WP 124 xF1 none 135 4 [some (.inr (.inr (some a0))), some (.inl x1), some (.inl x2)] [.inl s0] D Q =
  ((s0 = 0 → WP 124 xF1 none 135 18 [some (.inr (.inr (some a0))), some (.inl x1), some (.inl x2)] [] D Q) ∧ (¬ (s0 = 0) → (x2 < (-1) → WP 124 xF1 none 135 18 [some (.inr (.inr (some a0))), some (.inl x1), some (.inl x2)] [] D Q) ∧ (¬ (x2 < (-1)) → (x2 ≤ 8 → WP 124 xF1 none 105 0 [some (.inr (.inr (some (a0 + 84)))), some (.inr (.inr (some (a0 + 2)))), none] [] D (fun v D9 => WP 124 xF1 none 135 31 [some (.inr (.inr (some a0))), some (.inl x1), some (.inl x2)] (v.toList ++ []) D9 Q)) ∧ (¬ (x2 ≤ 8) → WP 124 xF1 none 135 18 [some (.inr (.inr (some a0))), some (.inl x1), some (.inl x2)] [] D Q)))) :=
  (WP.if0 rfl).trans <| br_eq rfl ((WP.ldI rfl rfl).trans <| (WP.kI rfl).trans <| (WP.ic2 rfl).trans <| br_eq rfl ((WP.ldI rfl rfl).trans <| (WP.kI rfl).trans <| (WP.ic5 rfl).trans <| br_eq ((WP.ldR rfl rfl).trans <| (WP.getR (b := (a0 + 84)) rfl ha0 rfl rfl).trans <| (WP.ldR rfl rfl).trans <| (WP.getR (b := (a0 + 2)) rfl ha0 rfl rfl).trans <| WP.call rfl rfl (crv (r := xrecv 124 105 [.inr (.inr (some (a0 + 84))), .inr (.inr (some (a0 + 2)))]) (so_9_11 ha0) rfl rfl rfl) rfl) rfl))
theorem seg135_18 (a0 : Nat) (x1 : Int) (x2 : Int) (D : xD) (Q : Option xv → xD → Prop) (ha0 : xisO 124 a0 9 = true) :
  WP 124 xF1 none 135 18 [some (.inr (.inr (some a0))), some (.inl x1), some (.inl x2)] [] D Q =
  (Q (some (.inl (-1))) D) :=
  (WP.kI rfl).trans <| WP.ret rfl rfl
theorem seg135_31 (a0 : Nat) (x1 : Int) (x2 : Int) (D : xD) (Q : Option xv → xD → Prop) (ha0 : xisO 124 a0 9 = true) :
  WP 124 xF1 none 135 31 [some (.inr (.inr (some a0))), some (.inl x1), some (.inl x2)] [] D Q =
  (WP 124 xF1 none 108 0 [some (.inr (.inr (some (a0 + 84)))), some (.inr (.inr (some (a0 + 2)))), some (.inl x1), none, none, none, none, none] [] D (fun v D9 => WP 124 xF1 none 135 43 [some (.inr (.inr (some a0))), some (.inl x1), some (.inl x2)] (v.toList ++ []) D9 Q)) :=
  (WP.ldR rfl rfl).trans <| (WP.getR (b := (a0 + 84)) rfl ha0 rfl rfl).trans <| (WP.ldR rfl rfl).trans <| (WP.getR (b := (a0 + 2)) rfl ha0 rfl rfl).trans <| (WP.ldI rfl rfl).trans <| WP.call rfl rfl (crv (r := xrecv 124 108 [.inr (.inr (some (a0 + 84))), .inr (.inr (some (a0 + 2))), .inl x1]) (so_9_11 ha0) rfl rfl rfl) rfl
theorem seg135_43 (a0 : Nat) (x1 : Int) (x2 : Int) (s0 : Int) (D : xD) (Q : Option xv → xD → Prop) (ha0 : xisO 124 a0 9 = true) :
  WP 124 xF1 none 135 43 [some (.inr (.inr (some a0))), some (.inl x1), some (.inl x2)] [.inl s0] D Q =
  ((x2 ≠ (-1) → (x2 ≠ 8 → ((0 : Int) ≤ x2 ∧ x2 < (8 : Int)) ∧ WP 124 xF1 none 135 85 [some (.inr (.inr (some a0))), some (.inl x1), some (.inl x2)] [.inl (D (a0 + 86) x2)] D Q) ∧ (¬ (x2 ≠ 8) → WP 124 xF1 none 110 0 [some (.inr (.inr (some (a0 + 84)))), some (.inl x1), none, none, none] [] D (fun v D9 => WP 124 xF1 none 135 73 [some (.inr (.inr (some a0))), some (.inl x1), some (.inl x2)] (v.toList ++ []) D9 Q))) ∧ (¬ (x2 ≠ (-1)) → ((0 : Int) ≤ x1 ∧ x1 < (13 : Int)) ∧ Q (some (.inl (D (a0 + 89) x1))) D)) :=
  (WP.pop rfl rfl).trans <| (WP.ldI rfl rfl).trans <| (WP.kI rfl).trans <| (WP.ic1 rfl).trans <| br_eq ((WP.ldI rfl rfl).trans <| (WP.kI rfl).trans <| (WP.ic1 rfl).trans <| br_eq ((WP.ldR rfl rfl).trans <| (WP.getR (b := (a0 + 84)) rfl ha0 rfl rfl).trans <| (WP.getR (b := (a0 + 86)) rfl (so_9_11 ha0) rfl rfl).trans <| (WP.ldI rfl rfl).trans <| WP.iald rfl (so_8_1 (so_9_11 ha0))) ((WP.ldR rfl rfl).trans <| (WP.getR (b := (a0 + 84)) rfl ha0 rfl rfl).trans <| (WP.ldI rfl rfl).trans <| WP.call rfl rfl (crv (r := xrecv 124 110 [.inr (.inr (some (a0 + 84))), .inl x1]) (so_9_11 ha0) rfl rfl rfl) rfl)) ((WP.ldR rfl rfl).trans <| (WP.getR (b := (a0 + 84)) rfl ha0 rfl rfl).trans <| (WP.getR (b := (a0 + 89)) rfl (so_9_11 ha0) rfl rfl).trans <| (WP.ldI rfl rfl).trans <| (WP.iald rfl (so_8_4 (so_9_11 ha0))).trans <| cn_eq (WP.ret rfl rfl))
theorem seg135_73 (a0 : Nat) (x1 : Int) (x2 : Int) (s0 : Int) (D : xD) (Q : Option xv → xD → Prop) (ha0 : xisO 124 a0 9 = true) :
  WP 124 xF1 none 135 73 [some (.inr (.inr (some a0))), some (.inl x1), some (.inl x2)] [.inl s0] D Q =
  (WP 124 xF1 none 135 85 [some (.inr (.inr (some a0))), some (.inl x1), some (.inl x2)] [.inl s0] D Q) :=
  WP.goto rfl
theorem seg135_85 (a0 : Nat) (x1 : Int) (x2 : Int) (s0 : Int) (D : xD) (Q : Option xv → xD → Prop) (ha0 : xisO 124 a0 9 = true) :
  WP 124 xF1 none 135 85 [some (.inr (.inr (some a0))), some (.inl x1), some (.inl x2)] [.inl s0] D Q =
  (Q (some (.inl s0)) D) :=
  WP.ret rfl rfl
theorem seg136_0 (a0 : Nat) (x1 : Int) (x2 : Int) (x3 : Int) (D : xD) (Q : Option xv → xD → Prop) (ha0 : xisO 124 a0 9 = true) :
  WP 124 xF1 none 136 0 [some (.inr (.inr (some a0))), some (.inl x1), some (.inl x2), some (.inl x3)] [] D Q =
  (WP 124 xF1 none 85 0 [some (.inr (.inr (some (a0 + 2)))), some (.inl x1), some (.inl x3)] [] D (fun v D9 => WP 124 xF1 none 136 9 [some (.inr (.inr (some a0))), some (.inl x1), some (.inl x2), some (.inl x3)] (v.toList ++ []) D9 Q)) :=
  (WP.ldR rfl rfl).trans <| (WP.getR (b := (a0 + 2)) rfl ha0 rfl rfl).trans <| (WP.ldI rfl rfl).trans <| (WP.ldI rfl rfl).trans <| WP.call rfl rfl (crv (r := xrecv 124 85 [.inr (.inr (some (a0 + 2))), .inl x1, .inl x3]) (so_9_4 ha0) rfl rfl rfl) rfl
theorem seg136_9 (a0 : Nat) (x1 : Int) (x2 : Int) (x3 : Int) (s0 : Int) (D : xD) (Q : Option xv → xD → Prop) (ha0 : xisO 124 a0 9 = true) :
  WP 124 xF1 none 136 9 [some (.inr (.inr (some a0))), some (.inl x1), some (.inl x2), some (.inl x3)] [.inl s0] D Q =
  ((s0 = 0 → WP 124 xF1 none 136 23 [some (.inr (.inr (some a0))), some (.inl x1), some (.inl x2), some (.inl x3)] [] D Q) ∧ (¬ (s0 = 0) → (x2 < 1 → WP 124 xF1 none 136 23 [some (.inr (.inr (some a0))), some (.inl x1), some (.inl x2), some (.inl x3)] [] D Q) ∧ (¬ (x2 < 1) → (x2 ≤ 12 → WP 124 xF1 none 88 0 [some (.inr (.inr (some (a0 + 2)))), some (.inl x1), some (.inl x2), some (.inl x3), none] [] D (fun v D9 => WP 124 xF1 none 136 35 [some (.inr (.inr (some a0))), some (.inl x1), some (.inl x2), some (.inl x3)] (v.toList ++ []) D9 Q)) ∧ (¬ (x2 ≤ 12) → WP 124 xF1 none 136 23 [some (.inr (.inr (some a0))), some (.inl x1), some (.inl x2), some (.inl x3)] [] D Q)))) :=
  (WP.if0 rfl).trans <| br_eq rfl ((WP.ldI rfl rfl).trans <| (WP.kI rfl).trans <| (WP.ic2 rfl).trans <| br_eq rfl ((WP.ldI rfl rfl).trans <| (WP.kI rfl).trans <| (WP.ic5 rfl).trans <| br_eq ((WP.ldR rfl rfl).trans <| (WP.getR (b := (a0 + 2)) rfl ha0 rfl rfl).trans <| (WP.ldI rfl rfl).trans <| (WP.ldI rfl rfl).trans <| (WP.ldI rfl rfl).trans <| WP.call rfl rfl (crv (r := xrecv 124 88 [.inr (.inr (some (a0 + 2))), .inl x1, .inl x2, .inl x3]) (so_9_4 ha0) rfl rfl rfl) rfl) rfl))
theorem seg136_23 (a0 : Nat) (x1 : Int) (x2 : Int) (x3 : Int) (D : xD) (Q : Option xv → xD → Prop) (ha0 : xisO 124 a0 9 = true) :
  WP 124 xF1 none 136 23 [some (.inr (.inr (some a0))), some (.inl x1), some (.inl x2), some (.inl x3)] [] D Q =
  (Q (some (.inl 0)) D) :=
  (WP.kI rfl).trans <| WP.ret rfl rfl
theorem seg136_35 (a0 : Nat) (x1 : Int) (x2 : Int) (x3 : Int) (s0 : Int) (D : xD) (Q : Option xv → xD → Prop) (ha0 : xisO 124 a0 9 = true) :
  WP 124 xF1 none 136 35 [some (.inr (.inr (some a0))), some (.inl x1), some (.inl x2), some (.inl x3)] [.inl s0] D Q =
  ((s0 = 0 ∨ s0 = 1) ∧ Q (some (.inl s0)) D) :=
  WP.retZ rfl rfl
theorem seg137_0 (a0 : Nat) (x1 : Int) (D : xD) (Q : Option xv → xD → Prop) (ha0 : xisO 124 a0 9 = true) :
  WP 124 xF1 none 137 0 [some (.inr (.inr (some a0))), some (.inl x1)] [] D Q =
  ((x1 < 0 → WP 124 xF1 none 137 9 [some (.inr (.inr (some a0))), some (.inl x1)] [] D Q) ∧ (¬ (x1 < 0) → (x1 ≤ 4 → WP 124 xF1 none 14 0 [some (.inr (.inr (some (a0 + 90)))), some (.inr (.inr (some (a0 + 2)))), some (.inr (.inr (some (a0 + 84)))), none, none] [] D (fun v D9 => WP 124 xF1 none 137 26 [some (.inr (.inr (some a0))), some (.inl x1)] (v.toList ++ []) D9 Q)) ∧ (¬ (x1 ≤ 4) → WP 124 xF1 none 137 9 [some (.inr (.inr (some a0))), some (.inl x1)] [] D Q))) :=
  (WP.ldI rfl rfl).trans <| (WP.if2 rfl).trans <| br_eq rfl ((WP.ldI rfl rfl).trans <| (WP.kI rfl).trans <| (WP.ic5 rfl).trans <| br_eq ((WP.ldR rfl rfl).trans <| (WP.getR (b := (a0 + 90)) rfl ha0 rfl rfl).trans <| (WP.ldR rfl rfl).trans <| (WP.getR (b := (a0 + 2)) rfl ha0 rfl rfl).trans <| (WP.ldR rfl rfl).trans <| (WP.getR (b := (a0 + 84)) rfl ha0 rfl rfl).trans <| WP.call rfl rfl (crv (r := xrecv 124 14 [.inr (.inr (some (a0 + 90))), .inr (.inr (some (a0 + 2))), .inr (.inr (some (a0 + 84)))]) (so_9_12 ha0) rfl rfl rfl) rfl) rfl)
theorem seg137_9 (a0 : Nat) (x1 : Int) (D : xD) (Q : Option xv → xD → Prop) (ha0 : xisO 124 a0 9 = true) :
  WP 124 xF1 none 137 9 [some (.inr (.inr (some a0))), some (.inl x1)] [] D Q =
  (Q (some (.inl (-1))) D) :=
  (WP.kI rfl).trans <| WP.ret rfl rfl
theorem seg137_26 (a0 : Nat) (x1 : Int) (D : xD) (Q : Option xv → xD → Prop) (ha0 : xisO 124 a0 9 = true) :
  WP 124 xF1 none 137 26 [some (.inr (.inr (some a0))), some (.inl x1)] [] D Q =
  (WP 124 xF1 none 137 (bif decide (x1 < 0) then 88 else ([56, 64, 72, 80] : List Nat).getD (x1 - 0).toNat 88) [some (.inr (.inr (some a0))), some (.inl x1)] [] D Q) :=
  (WP.ldI rfl rfl).trans <| WP.tab rfl
theorem seg137_56 (a0 : Nat) (x1 : Int) (D : xD) (Q : Option xv → xD → Prop) (ha0 : xisO 124 a0 9 = true) :
  WP 124 xF1 none 137 56 [some (.inr (.inr (some a0))), some (.inl x1)] [] D Q =
  (Q (some (.inl (D (a0 + 90) 5))) D) :=
  (WP.ldR rfl rfl).trans <| (WP.getR (b := (a0 + 90)) rfl ha0 rfl rfl).trans <| (WP.getI rfl (so_9_12 ha0)).trans <| WP.ret rfl rfl
theorem seg137_64 (a0 : Nat) (x1 : Int) (D : xD) (Q : Option xv → xD → Prop) (ha0 : xisO 124 a0 9 = true) :
  WP 124 xF1 none 137 64 [some (.inr (.inr (some a0))), some (.inl x1)] [] D Q =
  (Q (some (.inl (D (a0 + 90) 6))) D) :=
  (WP.ldR rfl rfl).trans <| (WP.getR (b := (a0 + 90)) rfl ha0 rfl rfl).trans <| (WP.getI rfl (so_9_12 ha0)).trans <| WP.ret rfl rfl
theorem seg137_72 (a0 : Nat) (x1 : Int) (D : xD) (Q : Option xv → xD → Prop) (ha0 : xisO 124 a0 9 = true) :
  WP 124 xF1 none 137 72 [some (.inr (.inr (some a0))), some (.inl x1)] [] D Q =
  (Q (some (.inl (D (a0 + 90) 7))) D) :=
  (WP.ldR rfl rfl).trans <| (WP.getR (b := (a0 + 90)) rfl ha0 rfl rfl).trans <| (WP.getI rfl (so_9_12 ha0)).trans <| WP.ret rfl rfl
theorem seg137_80 (a0 : Nat) (x1 : Int) (D : xD) (Q : Option xv → xD → Prop) (ha0 : xisO 124 a0 9 = true) :
  WP 124 xF1 none 137 80 [some (.inr (.inr (some a0))), some (.inl x1)] [] D Q =
  (Q (some (.inl (D (a0 + 90) 8))) D) :=
  (WP.ldR rfl rfl).trans <| (WP.getR (b := (a0 + 90)) rfl ha0 rfl rfl).trans <| (WP.getI rfl (so_9_12 ha0)).trans <| WP.ret rfl rfl
theorem seg137_88 (a0 : Nat) (x1 : Int) (D : xD) (Q : Option xv → xD → Prop) (ha0 : xisO 124 a0 9 = true) :
  WP 124 xF1 none 137 88 [some (.inr (.inr (some a0))), some (.inl x1)] [] D Q =
  (Q (some (.inl (D (a0 + 90) 9))) D) :=
  (WP.ldR rfl rfl).trans <| (WP.getR (b := (a0 + 90)) rfl ha0 rfl rfl).trans <| (WP.getI rfl (so_9_12 ha0)).trans <| WP.ret rfl rfl
theorem seg138_0 (a0 : Nat) (x1 : Int) (x2 : Int) (x3 : Int) (D : xD) (Q : Option xv → xD → Prop) (ha0 : xisO 124 a0 9 = true) :
  WP 124 xF1 none 138 0 [some (.inr (.inr (some a0))), some (.inl x1), some (.inl x2), some (.inl x3)] [] D Q =
  (WP 124 xF1 none 94 0 [some (.inr (.inr (some (a0 + 3)))), some (.inl x1)] [] D (fun v D9 => WP 124 xF1 none 138 11 [some (.inr (.inr (some a0))), some (.inl x1), some (.inl x2), some (.inl x3)] (v.toList ++ []) D9 Q)) :=
  (WP.ldR rfl rfl).trans <| (WP.getR (b := (a0 + 2)) rfl ha0 rfl rfl).trans <| (WP.getR (b := (a0 + 3)) rfl (so_9_4 ha0) rfl rfl).trans <| (WP.ldI rfl rfl).trans <| WP.call rfl rfl (crv (r := xrecv 124 94 [.inr (.inr (some (a0 + 3))), .inl x1]) (so_6_0 (so_9_4 ha0)) rfl rfl rfl) rfl
theorem seg138_11 (a0 : Nat) (x1 : Int) (x2 : Int) (x3 : Int) (s0 : Int) (D : xD) (Q : Option xv → xD → Prop) (ha0 : xisO 124 a0 9 = true) :
  WP 124 xF1 none 138 11 [some (.inr (.inr (some a0))), some (.inl x1), some (.inl x2), some (.inl x3)] [.inl s0] D Q =
  ((s0 = 0 → WP 124 xF1 none 138 21 [some (.inr (.inr (some a0))), some (.inl x1), some (.inl x2), some (.inl x3)] [] D Q) ∧ (¬ (s0 = 0) → WP 124 xF1 none 144 0 [some (.inl x2)] [] D (fun v D9 => WP 124 xF1 none 138 18 [some (.inr (.inr (some a0))), some (.inl x1), some (.inl x2), some (.inl x3)] (v.toList ++ []) D9 Q))) :=
  (WP.if0 rfl).trans <| br_eq rfl ((WP.ldI rfl rfl).trans <| WP.call rfl rfl rfl rfl)
theorem seg138_18 (a0 : Nat) (x1 : Int) (x2 : Int) (x3 : Int) (s0 : Int) (D : xD) (Q : Option xv → xD → Prop) (ha0 : xisO 124 a0 9 = true) :
  WP 124 xF1 none 138 18 [some (.inr (.inr (some a0))), some (.inl x1), some (.inl x2), some (.inl x3)] [.inl s0] D Q =
  ((s0 ≠ 0 → WP 124 xF1 none 138 (xlook x3 103 [0, 52, 1, 70]) [some (.inr (.inr (some a0))), some (.inl x1), some (.inl x2), some (.inl x3)] [] D Q) ∧ (¬ (s0 ≠ 0) → WP 124 xF1 none 138 21 [some (.inr (.inr (some a0))), some (.inl x1), some (.inl x2), some (.inl x3)] [] D Q)) :=
  (WP.if1 rfl).trans <| br_eq ((WP.ldI rfl rfl).trans <| WP.look rfl) rfl
theorem seg138_21 (a0 : Nat) (x1 : Int) (x2 : Int) (x3 : Int) (D : xD) (Q : Option xv → xD → Prop) (ha0 : xisO 124 a0 9 = true) :
  WP 124 xF1 none 138 21 [some (.inr (.inr (some a0))), some (.inl x1), some (.inl x2), some (.inl x3)] [] D Q =
  (Q (some (.inl (-1))) D) :=
  (WP.kI rfl).trans <| WP.ret rfl rfl
theorem seg138_52 (a0 : Nat) (x1 : Int) (x2 : Int) (x3 : Int) (D : xD) (Q : Option xv → xD → Prop) (ha0 : xisO 124 a0 9 = true) :
  WP 124 xF1 none 138 52 [some (.inr (.inr (some a0))), some (.inl x1), some (.inl x2), some (.inl x3)] [] D Q =
  (WP 124 xF1 none 9 0 [some (.inr (.inr (some (a0 + 90)))), some (.inr (.inr (some (a0 + 2)))), some (.inr (.inr (some (a0 + 84)))), some (.inl x1), some (.inl x2), none] [] D (fun v D9 => WP 124 xF1 none 138 69 [some (.inr (.inr (some a0))), some (.inl x1), some (.inl x2), some (.inl x3)] (v.toList ++ []) D9 Q)) :=
  (WP.ldR rfl rfl).trans <| (WP.getR (b := (a0 + 90)) rfl ha0 rfl rfl).trans <| (WP.ldR rfl rfl).trans <| (WP.getR (b := (a0 + 2)) rfl ha0 rfl rfl).trans <| (WP.ldR rfl rfl).trans <| (WP.getR (b := (a0 + 84)) rfl ha0 rfl rfl).trans <| (WP.ldI rfl rfl).trans <| (WP.ldI rfl rfl).trans <| WP.call rfl rfl (crv (r := xrecv 124 9 [.inr (.inr (some (a0 + 90))), .inr (.inr (some (a0 + 2))), .inr (.inr (some (a0 + 84))), .inl x1, .inl x2]) (so_9_12 ha0) rfl rfl rfl) rfl
theorem seg138_69 (a0 : Nat) (x1 : Int) (x2 : Int) (x3 : Int) (s0 : Int) (D : xD) (Q : Option xv → xD → Prop) (ha0 : xisO 124 a0 9 = true) :
  WP 124 xF1 none 138 69 [some (.inr (.inr (some a0))), some (.inl x1), some (.inl x2), some (.inl x3)] [.inl s0] D Q =
  (Q (some (.inl s0)) D) :=
  WP.ret rfl rfl
theorem seg138_70 (a0 : Nat) (x1 : Int) (x2 : Int) (x3 : Int) (D : xD) (Q : Option xv → xD → Prop) (ha0 : xisO 124 a0 9 = true) :
  WP 124 xF1 none 138 70 [some (.inr (.inr (some a0))), some (.inl x1), some (.inl x2), some (.inl x3)] [] D Q =
  (WP 124 xF1 none 8 0 [some (.inr (.inr (some (a0 + 90)))), some (.inr (.inr (some (a0 + 2)))), some (.inr (.inr (some (a0 + 84))))] [] D (fun v D9 => WP 124 xF1 none 138 85 [some (.inr (.inr (some a0))), some (.inl x1), some (.inl x2), some (.inl x3)] (v.toList ++ []) D9 Q)) :=
  (WP.ldR rfl rfl).trans <| (WP.getR (b := (a0 + 90)) rfl ha0 rfl rfl).trans <| (WP.ldR rfl rfl).trans <| (WP.getR (b := (a0 + 2)) rfl ha0 rfl rfl).trans <| (WP.ldR rfl rfl).trans <| (WP.getR (b := (a0 + 84)) rfl ha0 rfl rfl).trans <| WP.call rfl rfl (crv (r := xrecv 124 8 [.inr (.inr (some (a0 + 90))), .inr (.inr (some (a0 + 2))), .inr (.inr (some (a0 + 84)))]) (so_9_12 ha0) rfl rfl rfl) rfl
theorem seg138_85 (a0 : Nat) (x1 : Int) (x2 : Int) (x3 : Int) (D : xD) (Q : Option xv → xD → Prop) (ha0 : xisO 124 a0 9 = true) :
  WP 124 xF1 none 138 85 [some (.inr (.inr (some a0))), some (.inl x1), some (.inl x2), some (.inl x3)] [] D Q =
  (WP 124 xF1 none 10 0 [some (.inr (.inr (some (a0 + 90)))), some (.inr (.inr (some (a0 + 2)))), some (.inr (.inr (some (a0 + 84)))), some (.inl x1), some (.inl x2), none] [] D (fun v D9 => WP 124 xF1 none 138 102 [some (.inr (.inr (some a0))), some (.inl x1), some (.inl x2), some (.inl x3)] (v.toList ++ []) D9 Q)) :=
  (WP.ldR rfl rfl).trans <| (WP.getR (b := (a0 + 90)) rfl ha0 rfl rfl).trans <| (WP.ldR rfl rfl).trans <| (WP.getR (b := (a0 + 2)) rfl ha0 rfl rfl).trans <| (WP.ldR rfl rfl).trans <| (WP.getR (b := (a0 + 84)) rfl ha0 rfl rfl).trans <| (WP.ldI rfl rfl).trans <| (WP.ldI rfl rfl).trans <| WP.call rfl rfl (crv (r := xrecv 124 10 [.inr (.inr (some (a0 + 90))), .inr (.inr (some (a0 + 2))), .inr (.inr (some (a0 + 84))), .inl x1, .inl x2]) (so_9_12 ha0) rfl rfl rfl) rfl
theorem seg138_102 (a0 : Nat) (x1 : Int) (x2 : Int) (x3 : Int) (s0 : Int) (D : xD) (Q : Option xv → xD → Prop) (ha0 : xisO 124 a0 9 = true) :
  WP 124 xF1 none 138 102 [some (.inr (.inr (some a0))), some (.inl x1), some (.inl x2), some (.inl x3)] [.inl s0] D Q =
  (Q (some (.inl s0)) D) :=
  WP.ret rfl rfl
theorem seg138_103 (a0 : Nat) (x1 : Int) (x2 : Int) (x3 : Int) (D : xD) (Q : Option xv → xD → Prop) (ha0 : xisO 124 a0 9 = true) :
  WP 124 xF1 none 138 103 [some (.inr (.inr (some a0))), some (.inl x1), some (.inl x2), some (.inl x3)] [] D Q =
  (Q (some (.inl (-1))) D) :=
  (WP.kI rfl).trans <| WP.ret rfl rfl
theorem seg139_0 (a0 : Nat) (x1 : Int) (o2 : Option xv) (D : xD) (Q : Option xv → xD → Prop) (ha0 : xisO 124 a0 9 = true) :
  WP 124 xF1 none 139 0 [some (.inr (.inr (some a0))), some (.inl x1), o2] [] D Q =
  (WP 124 xF1 none 145 0 [some (.inl x1)] [] D (fun v D9 => WP 124 xF1 none 139 4 [some (.inr (.inr (some a0))), some (.inl x1), o2] (v.toList ++ []) D9 Q)) :=
  (WP.ldI rfl rfl).trans <| WP.call rfl rfl rfl rfl
theorem seg139_4 (a0 : Nat) (x1 : Int) (o2 : Option xv) (s0 : Int) (D : xD) (Q : Option xv → xD → Prop) (ha0 : xisO 124 a0 9 = true) :
  WP 124 xF1 none 139 4 [some (.inr (.inr (some a0))), some (.inl x1), o2] [.inl s0] D Q =
  ((s0 ≠ 0 → WP 124 xF1 none 139 11 [some (.inr (.inr (some a0))), some (.inl x1), some (.inl 0)] [] D Q) ∧ (¬ (s0 ≠ 0) → Q (some (.inl (-1))) D)) :=
  (WP.if1 rfl).trans <| br_eq ((WP.kI rfl).trans <| WP.stI rfl rfl) ((WP.kI rfl).trans <| WP.ret rfl rfl)
theorem seg139_11 (a0 : Nat) (x1 : Int) (x2 : Int) (D : xD) (Q : Option xv → xD → Prop) (ha0 : xisO 124 a0 9 = true) :
  WP 124 xF1 none 139 11 [some (.inr (.inr (some a0))), some (.inl x1), some (.inl x2)] [] D Q =
  (((D (a0 + 3) 12) ≤ x2 → Q (some (.inl 0)) D) ∧ (¬ ((D (a0 + 3) 12) ≤ x2) → ((0 : Int) ≤ x2 ∧ x2 < (6 : Int)) ∧ WP 124 xF1 none 90 0 [some (.inr (.inr (some (a0 + 2)))), some (.inl (D (a0 + 12) x2)), some (.inl x1), none, none] [] D (fun v D9 => WP 124 xF1 none 139 45 [some (.inr (.inr (some a0))), some (.inl x1), some (.inl x2)] (v.toList ++ []) D9 Q))) :=
  (WP.ldI rfl rfl).trans <| (WP.ldR rfl rfl).trans <| (WP.getR (b := (a0 + 2)) rfl ha0 rfl rfl).trans <| (WP.getR (b := (a0 + 3)) rfl (so_9_4 ha0) rfl rfl).trans <| (WP.getI rfl (so_6_0 (so_9_4 ha0))).trans <| (WP.ic3 rfl).trans <| br_eq ((WP.kI rfl).trans <| WP.ret rfl rfl) ((WP.ldR rfl rfl).trans <| (WP.getR (b := (a0 + 2)) rfl ha0 rfl rfl).trans <| (WP.ldR rfl rfl).trans <| (WP.getR (b := (a0 + 2)) rfl ha0 rfl rfl).trans <| (WP.getR (b := (a0 + 3)) rfl (so_9_4 ha0) rfl rfl).trans <| (WP.getR (b := (a0 + 12)) rfl (so_6_0 (so_9_4 ha0)) rfl rfl).trans <| (WP.ldI rfl rfl).trans <| (WP.iald rfl (so_7_8 (so_6_0 (so_9_4 ha0)))).trans <| cn_eq ((WP.ldI rfl rfl).trans <| WP.call rfl rfl (crv (r := xrecv 124 90 [.inr (.inr (some (a0 + 2))), .inl (D (a0 + 12) x2), .inl x1]) (so_9_4 ha0) rfl rfl rfl) rfl))
theorem seg139_45 (a0 : Nat) (x1 : Int) (x2 : Int) (s0 : Int) (D : xD) (Q : Option xv → xD → Prop) (ha0 : xisO 124 a0 9 = true) :
  WP 124 xF1 none 139 45 [some (.inr (.inr (some a0))), some (.inl x1), some (.inl x2)] [.inl s0] D Q =
  ((s0 = 0 → (xinP (x2 + 1)) ∧ WP 124 xF1 none 139 11 [some (.inr (.inr (some a0))), some (.inl x1), some (.inl (x2 + 1))] [] D Q) ∧ (¬ (s0 = 0) → Q (some (.inl 1)) D)) :=
  (WP.if0 rfl).trans <| br_eq ((WP.iinc rfl rfl rfl).trans <| cn_eq (WP.goto rfl)) ((WP.kI rfl).trans <| WP.ret rfl rfl)
theorem seg140_0 (a0 : Nat) (x1 : Int) (D : xD) (Q : Option xv → xD → Prop) (ha0 : xisO 124 a0 9 = true) :
  WP 124 xF1 none 140 0 [some (.inr (.inr (some a0))), some (.inl x1)] [] D Q =
  ((x1 = (-1) → WP 124 xF1 none 140 14 [some (.inr (.inr (some a0))), some (.inl x1)] [] D Q) ∧ (¬ (x1 = (-1)) → WP 124 xF1 none 145 0 [some (.inl x1)] [] D (fun v D9 => WP 124 xF1 none 140 9 [some (.inr (.inr (some a0))), some (.inl x1)] (v.toList ++ []) D9 Q))) :=
  (WP.ldI rfl rfl).trans <| (WP.kI rfl).trans <| (WP.ic0 rfl).trans <| br_eq rfl ((WP.ldI rfl rfl).trans <| WP.call rfl rfl rfl rfl)
theorem seg140_9 (a0 : Nat) (x1 : Int) (s0 : Int) (D : xD) (Q : Option xv → xD → Prop) (ha0 : xisO 124 a0 9 = true) :
  WP 124 xF1 none 140 9 [some (.inr (.inr (some a0))), some (.inl x1)] [.inl s0] D Q =
  ((s0 ≠ 0 → WP 124 xF1 none 140 14 [some (.inr (.inr (some a0))), some (.inl x1)] [] D Q) ∧ (¬ (s0 ≠ 0) → Q (some (.inl (-1))) D)) :=
  (WP.if1 rfl).trans <| br_eq rfl ((WP.kI rfl).trans <| WP.ret rfl rfl)
theorem seg140_14 (a0 : Nat) (x1 : Int) (D : xD) (Q : Option xv → xD → Prop) (ha0 : xisO 124 a0 9 = true) :
  WP 124 xF1 none 140 14 [some (.inr (.inr (some a0))), some (.inl x1)] [] D Q =
  (WP 124 xF1 none 8 0 [some (.inr (.inr (some (a0 + 90)))), some (.inr (.inr (some (a0 + 2)))), some (.inr (.inr (some (a0 + 84))))] [] D (fun v D9 => WP 124 xF1 none 140 29 [some (.inr (.inr (some a0))), some (.inl x1)] (v.toList ++ []) D9 Q)) :=
  (WP.ldR rfl rfl).trans <| (WP.getR (b := (a0 + 90)) rfl ha0 rfl rfl).trans <| (WP.ldR rfl rfl).trans <| (WP.getR (b := (a0 + 2)) rfl ha0 rfl rfl).trans <| (WP.ldR rfl rfl).trans <| (WP.getR (b := (a0 + 84)) rfl ha0 rfl rfl).trans <| WP.call rfl rfl (crv (r := xrecv 124 8 [.inr (.inr (some (a0 + 90))), .inr (.inr (some (a0 + 2))), .inr (.inr (some (a0 + 84)))]) (so_9_12 ha0) rfl rfl rfl) rfl
theorem seg140_29 (a0 : Nat) (x1 : Int) (D : xD) (Q : Option xv → xD → Prop) (ha0 : xisO 124 a0 9 = true) :
  WP 124 xF1 none 140 29 [some (.inr (.inr (some a0))), some (.inl x1)] [] D Q =
  ((x1 = (-1) → WP 124 xF1 none 140 45 [some (.inr (.inr (some a0))), some (.inl x1)] [] D Q) ∧ (¬ (x1 = (-1)) → ((D (a0 + 90) 2) ≠ (-1) → ((0 : Int) ≤ x1 ∧ x1 < (8 : Int)) ∧ WP 124 xF1 none 140 64 [some (.inr (.inr (some a0))), some (.inl x1)] [.inl (D (a0 + 91) x1)] D Q) ∧ (¬ ((D (a0 + 90) 2) ≠ (-1)) → WP 124 xF1 none 140 45 [some (.inr (.inr (some a0))), some (.inl x1)] [] D Q))) :=
  (WP.ldI rfl rfl).trans <| (WP.kI rfl).trans <| (WP.ic0 rfl).trans <| br_eq rfl ((WP.ldR rfl rfl).trans <| (WP.getR (b := (a0 + 90)) rfl ha0 rfl rfl).trans <| (WP.getI rfl (so_9_12 ha0)).trans <| (WP.kI rfl).trans <| (WP.ic1 rfl).trans <| br_eq ((WP.ldR rfl rfl).trans <| (WP.getR (b := (a0 + 90)) rfl ha0 rfl rfl).trans <| (WP.getR (b := (a0 + 91)) rfl (so_9_12 ha0) rfl rfl).trans <| (WP.ldI rfl rfl).trans <| WP.iald rfl (so_1_1 (so_9_12 ha0))) rfl)
theorem seg140_45 (a0 : Nat) (x1 : Int) (D : xD) (Q : Option xv → xD → Prop) (ha0 : xisO 124 a0 9 = true) :
  WP 124 xF1 none 140 45 [some (.inr (.inr (some a0))), some (.inl x1)] [] D Q =
  (WP 124 xF1 none 140 64 [some (.inr (.inr (some a0))), some (.inl x1)] [.inl (D (a0 + 90) 2)] D Q) :=
  (WP.ldR rfl rfl).trans <| (WP.getR (b := (a0 + 90)) rfl ha0 rfl rfl).trans <| (WP.getI rfl (so_9_12 ha0)).trans <| WP.goto rfl
theorem seg140_64 (a0 : Nat) (x1 : Int) (s0 : Int) (D : xD) (Q : Option xv → xD → Prop) (ha0 : xisO 124 a0 9 = true) :
  WP 124 xF1 none 140 64 [some (.inr (.inr (some a0))), some (.inl x1)] [.inl s0] D Q =
  (Q (some (.inl s0)) D) :=
  WP.ret rfl rfl
theorem seg141_0 (a0 : Nat) (D : xD) (Q : Option xv → xD → Prop) (ha0 : xisO 124 a0 9 = true) :
  WP 124 xF1 none 141 0 [some (.inr (.inr (some a0)))] [] D Q =
  (WP 124 xF1 none 77 0 [some (.inr (.inr (some (a0 + 21)))), some (.inr (.inr (some (a0 + 2))))] [] D (fun v D9 => WP 124 xF1 none 141 11 [some (.inr (.inr (some a0)))] (v.toList ++ []) D9 Q)) :=
  (WP.ldR rfl rfl).trans <| (WP.getR (b := (a0 + 21)) rfl ha0 rfl rfl).trans <| (WP.ldR rfl rfl).trans <| (WP.getR (b := (a0 + 2)) rfl ha0 rfl rfl).trans <| WP.call rfl rfl (crv (r := xrecv 124 77 [.inr (.inr (some (a0 + 21))), .inr (.inr (some (a0 + 2)))]) (so_9_5 ha0) rfl rfl rfl) rfl
theorem seg141_11 (a0 : Nat) (D : xD) (Q : Option xv → xD → Prop) (ha0 : xisO 124 a0 9 = true) :
  WP 124 xF1 none 141 11 [some (.inr (.inr (some a0)))] [] D Q =
  (Q (some (.inl (D (a0 + 3) 11))) D) :=
  (WP.ldR rfl rfl).trans <| (WP.getR (b := (a0 + 2)) rfl ha0 rfl rfl).trans <| (WP.getR (b := (a0 + 3)) rfl (so_9_4 ha0) rfl rfl).trans <| (WP.getI rfl (so_6_0 (so_9_4 ha0))).trans <| WP.ret rfl rfl
theorem seg142_0 (a0 : Nat) (D : xD) (Q : Option xv → xD → Prop) (ha0 : xisO 124 a0 9 = true) :
  WP 124 xF1 none 142 0 [some (.inr (.inr (some a0)))] [] D Q =
  (WP 124 xF1 none 77 0 [some (.inr (.inr (some (a0 + 2)))), some (.inr (.inr (some (a0 + 21))))] [] D (fun v D9 => WP 124 xF1 none 142 11 [some (.inr (.inr (some a0)))] (v.toList ++ []) D9 Q)) :=
  (WP.ldR rfl rfl).trans <| (WP.getR (b := (a0 + 2)) rfl ha0 rfl rfl).trans <| (WP.ldR rfl rfl).trans <| (WP.getR (b := (a0 + 21)) rfl ha0 rfl rfl).trans <| WP.call rfl rfl (crv (r := xrecv 124 77 [.inr (.inr (some (a0 + 2))), .inr (.inr (some (a0 + 21)))]) (so_9_4 ha0) rfl rfl rfl) rfl
theorem seg142_11 (a0 : Nat) (D : xD) (Q : Option xv → xD → Prop) (ha0 : xisO 124 a0 9 = true) :
  WP 124 xF1 none 142 11 [some (.inr (.inr (some a0)))] [] D Q =
  (WP 124 xF1 none 116 0 [some (.inr (.inr (some a0)))] [] D (fun v D9 => WP 124 xF1 none 142 15 [some (.inr (.inr (some a0)))] (v.toList ++ []) D9 Q)) :=
  (WP.ldR rfl rfl).trans <| WP.call rfl rfl (crv (r := xrecv 124 116 [.inr (.inr (some a0))]) ha0 rfl rfl rfl) rfl
theorem seg142_15 (a0 : Nat) (D : xD) (Q : Option xv → xD → Prop) (ha0 : xisO 124 a0 9 = true) :
  WP 124 xF1 none 142 15 [some (.inr (.inr (some a0)))] [] D Q =
  (Q (some (.inl (D (a0 + 3) 11))) D) :=
  (WP.ldR rfl rfl).trans <| (WP.getR (b := (a0 + 2)) rfl ha0 rfl rfl).trans <| (WP.getR (b := (a0 + 3)) rfl (so_9_4 ha0) rfl rfl).trans <| (WP.getI rfl (so_6_0 (so_9_4 ha0))).trans <| WP.ret rfl rfl
theorem seg143_0 (a0 : Nat) (x1 : Int) (D : xD) (Q : Option xv → xD → Prop) (ha0 : xisO 124 a0 9 = true) :
  WP 124 xF1 none 143 0 [some (.inr (.inr (some a0))), some (.inl x1)] [] D Q =
  (WP 124 xF1 none 143 (bif decide (x1 < 0) then 130 else ([48, 59, 70, 81, 95, 100, 111, 119] : List Nat).getD (x1 - 0).toNat 130) [some (.inr (.inr (some a0))), some (.inl x1)] [] D Q) :=
  (WP.ldI rfl rfl).trans <| WP.tab rfl
theorem seg143_48 (a0 : Nat) (x1 : Int) (D : xD) (Q : Option xv → xD → Prop) (ha0 : xisO 124 a0 9 = true) :
  WP 124 xF1 none 143 48 [some (.inr (.inr (some a0))), some (.inl x1)] [] D Q =
  (Q (some (.inl (D (a0 + 3) 11))) D) :=
  (WP.ldR rfl rfl).trans <| (WP.getR (b := (a0 + 2)) rfl ha0 rfl rfl).trans <| (WP.getR (b := (a0 + 3)) rfl (so_9_4 ha0) rfl rfl).trans <| (WP.getI rfl (so_6_0 (so_9_4 ha0))).trans <| WP.ret rfl rfl
theorem seg143_59 (a0 : Nat) (x1 : Int) (D : xD) (Q : Option xv → xD → Prop) (ha0 : xisO 124 a0 9 = true) :
  WP 124 xF1 none 143 59 [some (.inr (.inr (some a0))), some (.inl x1)] [] D Q =
  (Q (some (.inl (D (a0 + 3) 12))) D) :=
  (WP.ldR rfl rfl).trans <| (WP.getR (b := (a0 + 2)) rfl ha0 rfl rfl).trans <| (WP.getR (b := (a0 + 3)) rfl (so_9_4 ha0) rfl rfl).trans <| (WP.getI rfl (so_6_0 (so_9_4 ha0))).trans <| WP.ret rfl rfl
theorem seg143_70 (a0 : Nat) (x1 : Int) (D : xD) (Q : Option xv → xD → Prop) (ha0 : xisO 124 a0 9 = true) :
  WP 124 xF1 none 143 70 [some (.inr (.inr (some a0))), some (.inl x1)] [] D Q =
  (WP 124 xF1 none 100 0 [some (.inr (.inr (some (a0 + 3)))), none, none] [] D (fun v D9 => WP 124 xF1 none 143 80 [some (.inr (.inr (some a0))), some (.inl x1)] (v.toList ++ []) D9 Q)) :=
  (WP.ldR rfl rfl).trans <| (WP.getR (b := (a0 + 2)) rfl ha0 rfl rfl).trans <| (WP.getR (b := (a0 + 3)) rfl (so_9_4 ha0) rfl rfl).trans <| WP.call rfl rfl (crv (r := xrecv 124 100 [.inr (.inr (some (a0 + 3)))]) (so_6_0 (so_9_4 ha0)) rfl rfl rfl) rfl
theorem seg143_80 (a0 : Nat) (x1 : Int) (s0 : Int) (D : xD) (Q : Option xv → xD → Prop) (ha0 : xisO 124 a0 9 = true) :
  WP 124 xF1 none 143 80 [some (.inr (.inr (some a0))), some (.inl x1)] [.inl s0] D Q =
  (Q (some (.inl s0)) D) :=
  WP.ret rfl rfl
theorem seg143_81 (a0 : Nat) (x1 : Int) (D : xD) (Q : Option xv → xD → Prop) (ha0 : xisO 124 a0 9 = true) :
  WP 124 xF1 none 143 81 [some (.inr (.inr (some a0))), some (.inl x1)] [] D Q =
  (WP 124 xF1 none 241 0 [some (.inl (D (a0 + 3) 13))] [] D (fun v D9 => WP 124 xF1 none 143 94 [some (.inr (.inr (some a0))), some (.inl x1)] (v.toList ++ []) D9 Q)) :=
  (WP.ldR rfl rfl).trans <| (WP.getR (b := (a0 + 2)) rfl ha0 rfl rfl).trans <| (WP.getR (b := (a0 + 3)) rfl (so_9_4 ha0) rfl rfl).trans <| (WP.getI rfl (so_6_0 (so_9_4 ha0))).trans <| WP.call rfl rfl rfl rfl
theorem seg143_94 (a0 : Nat) (x1 : Int) (s0 : Int) (D : xD) (Q : Option xv → xD → Prop) (ha0 : xisO 124 a0 9 = true) :
  WP 124 xF1 none 143 94 [some (.inr (.inr (some a0))), some (.inl x1)] [.inl s0] D Q =
  (Q (some (.inl s0)) D) :=
  WP.ret rfl rfl
theorem seg143_95 (a0 : Nat) (x1 : Int) (D : xD) (Q : Option xv → xD → Prop) (ha0 : xisO 124 a0 9 = true) :
  WP 124 xF1 none 143 95 [some (.inr (.inr (some a0))), some (.inl x1)] [] D Q =
  (Q (some (.inl (D a0 1))) D) :=
  (WP.ldR rfl rfl).trans <| (WP.getI rfl ha0).trans <| WP.ret rfl rfl
theorem seg143_100 (a0 : Nat) (x1 : Int) (D : xD) (Q : Option xv → xD → Prop) (ha0 : xisO 124 a0 9 = true) :
  WP 124 xF1 none 143 100 [some (.inr (.inr (some a0))), some (.inl x1)] [] D Q =
  (Q (some (.inl (D (a0 + 3) 15))) D) :=
  (WP.ldR rfl rfl).trans <| (WP.getR (b := (a0 + 2)) rfl ha0 rfl rfl).trans <| (WP.getR (b := (a0 + 3)) rfl (so_9_4 ha0) rfl rfl).trans <| (WP.getI rfl (so_6_0 (so_9_4 ha0))).trans <| WP.ret rfl rfl
theorem seg143_111 (a0 : Nat) (x1 : Int) (D : xD) (Q : Option xv → xD → Prop) (ha0 : xisO 124 a0 9 = true) :
  WP 124 xF1 none 143 111 [some (.inr (.inr (some a0))), some (.inl x1)] [] D Q =
  (Q (some (.inl (D (a0 + 2) 3))) D) :=
  (WP.ldR rfl rfl).trans <| (WP.getR (b := (a0 + 2)) rfl ha0 rfl rfl).trans <| (WP.getI rfl (so_9_4 ha0)).trans <| WP.ret rfl rfl
theorem seg143_119 (a0 : Nat) (x1 : Int) (D : xD) (Q : Option xv → xD → Prop) (ha0 : xisO 124 a0 9 = true) :
  WP 124 xF1 none 143 119 [some (.inr (.inr (some a0))), some (.inl x1)] [] D Q =
  (WP 124 xF1 none 101 0 [some (.inr (.inr (some (a0 + 3)))), none, none] [] D (fun v D9 => WP 124 xF1 none 143 129 [some (.inr (.inr (some a0))), some (.inl x1)] (v.toList ++ []) D9 Q)) :=
  (WP.ldR rfl rfl).trans <| (WP.getR (b := (a0 + 2)) rfl ha0 rfl rfl).trans <| (WP.getR (b := (a0 + 3)) rfl (so_9_4 ha0) rfl rfl).trans <| WP.call rfl rfl (crv (r := xrecv 124 101 [.inr (.inr (some (a0 + 3)))]) (so_6_0 (so_9_4 ha0)) rfl rfl rfl) rfl
theorem seg143_129 (a0 : Nat) (x1 : Int) (s0 : Int) (D : xD) (Q : Option xv → xD → Prop) (ha0 : xisO 124 a0 9 = true) :
  WP 124 xF1 none 143 129 [some (.inr (.inr (some a0))), some (.inl x1)] [.inl s0] D Q =
  (Q (some (.inl s0)) D) :=
  WP.ret rfl rfl
theorem seg143_130 (a0 : Nat) (x1 : Int) (D : xD) (Q : Option xv → xD → Prop) (ha0 : xisO 124 a0 9 = true) :
  WP 124 xF1 none 143 130 [some (.inr (.inr (some a0))), some (.inl x1)] [] D Q =
  (Q (some (.inl (-1))) D) :=
  (WP.kI rfl).trans <| WP.ret rfl rfl
theorem seg144_0 (x0 : Int) (D : xD) (Q : Option xv → xD → Prop)  :
  WP 124 xF1 none 144 0 [some (.inl x0)] [] D Q =
  ((x0 < 0 → WP 124 xF1 none 144 14 [some (.inl x0)] [] D Q) ∧ (¬ (x0 < 0) → (12 < x0 → WP 124 xF1 none 144 14 [some (.inl x0)] [] D Q) ∧ (¬ (12 < x0) → WP 124 xF1 none 144 15 [some (.inl x0)] [.inl 1] D Q))) :=
  (WP.ldI rfl rfl).trans <| (WP.if2 rfl).trans <| br_eq rfl ((WP.ldI rfl rfl).trans <| (WP.kI rfl).trans <| (WP.ic4 rfl).trans <| br_eq rfl ((WP.kI rfl).trans <| WP.goto rfl))
theorem seg144_14 (x0 : Int) (D : xD) (Q : Option xv → xD → Prop)  :
  WP 124 xF1 none 144 14 [some (.inl x0)] [] D Q =
  (WP 124 xF1 none 144 15 [some (.inl x0)] [.inl 0] D Q) :=
  WP.kI rfl
theorem seg144_15 (x0 : Int) (s0 : Int) (D : xD) (Q : Option xv → xD → Prop)  :
  WP 124 xF1 none 144 15 [some (.inl x0)] [.inl s0] D Q =
  ((s0 = 0 ∨ s0 = 1) ∧ Q (some (.inl s0)) D) :=
  WP.retZ rfl rfl
theorem seg145_0 (x0 : Int) (D : xD) (Q : Option xv → xD → Prop)  :
  WP 124 xF1 none 145 0 [some (.inl x0)] [] D Q =
  ((x0 < 0 → WP 124 xF1 none 145 14 [some (.inl x0)] [] D Q) ∧ (¬ (x0 < 0) → (8 ≤ x0 → WP 124 xF1 none 145 14 [some (.inl x0)] [] D Q) ∧ (¬ (8 ≤ x0) → WP 124 xF1 none 145 15 [some (.inl x0)] [.inl 1] D Q))) :=
  (WP.ldI rfl rfl).trans <| (WP.if2 rfl).trans <| br_eq rfl ((WP.ldI rfl rfl).trans <| (WP.kI rfl).trans <| (WP.ic3 rfl).trans <| br_eq rfl ((WP.kI rfl).trans <| WP.goto rfl))
theorem seg145_14 (x0 : Int) (D : xD) (Q : Option xv → xD → Prop)  :
  WP 124 xF1 none 145 14 [some (.inl x0)] [] D Q =
  (WP 124 xF1 none 145 15 [some (.inl x0)] [.inl 0] D Q) :=
  WP.kI rfl
theorem seg145_15 (x0 : Int) (s0 : Int) (D : xD) (Q : Option xv → xD → Prop)  :
  WP 124 xF1 none 145 15 [some (.inl x0)] [.inl s0] D Q =
  ((s0 = 0 ∨ s0 = 1) ∧ Q (some (.inl s0)) D) :=
  WP.retZ rfl rfl
theorem seg147_0 (a0 : Nat) (La0 : Nat) (o1 : Option xv) (D : xD) (Q : Option xv → xD → Prop) (ha0 : xalen none 124 a0 = some La0) :
  WP 124 xF1 none 147 0 [some (.inr (.inr (some a0))), o1] [] D Q =
  (WP 124 xF1 none 147 2 [some (.inr (.inr (some a0))), some (.inl 0)] [] D Q) :=
  (WP.kI rfl).trans <| WP.stI rfl rfl
theorem seg147_2 (a0 : Nat) (La0 : Nat) (x1 : Int) (D : xD) (Q : Option xv → xD → Prop) (ha0 : xalen none 124 a0 = some La0) :
  WP 124 xF1 none 147 2 [some (.inr (.inr (some a0))), some (.inl x1)] [] D Q =
  ((640 ≤ x1 → WP 124 xF1 none 147 21 [some (.inr (.inr (some a0))), some (.inl 0)] [] D Q) ∧ (¬ (640 ≤ x1) → ((0 : Int) ≤ x1 ∧ x1 < (La0 : Int)) ∧ (xinP (x1 + 1)) ∧ WP 124 xF1 none 147 2 [some (.inr (.inr (some a0))), some (.inl (x1 + 1))] [] (xup D a0 x1 0) Q)) :=
  (WP.ldI rfl rfl).trans <| (WP.kI rfl).trans <| (WP.ic3 rfl).trans <| br_eq ((WP.kI rfl).trans <| WP.stI rfl rfl) ((WP.ldR rfl rfl).trans <| (WP.ldI rfl rfl).trans <| (WP.kI rfl).trans <| (WP.iast rfl ha0).trans <| cn_eq ((WP.iinc rfl rfl rfl).trans <| cn_eq (WP.goto rfl)))
theorem seg147_21 (a0 : Nat) (La0 : Nat) (x1 : Int) (D : xD) (Q : Option xv → xD → Prop) (ha0 : xalen none 124 a0 = some La0) :
  WP 124 xF1 none 147 21 [some (.inr (.inr (some a0))), some (.inl x1)] [] D Q =
  ((8 ≤ x1 → Q none D) ∧ (¬ (8 ≤ x1) → (xinP (10 + x1)) ∧ ((0 : Int) ≤ (10 + x1) ∧ (10 + x1) < (La0 : Int)) ∧ (xinP (176 + x1)) ∧ ((0 : Int) ≤ (176 + x1) ∧ (176 + x1) < (La0 : Int)) ∧ (xinP (x1 + 1)) ∧ WP 124 xF1 none 147 21 [some (.inr (.inr (some a0))), some (.inl (x1 + 1))] [] (xup (xup D a0 (10 + x1) 99) a0 (176 + x1) (-1)) Q)) :=
  (WP.ldI rfl rfl).trans <| (WP.kI rfl).trans <| (WP.ic3 rfl).trans <| br_eq (WP.ret rfl rfl) ((WP.ldR rfl rfl).trans <| (WP.kI rfl).trans <| (WP.ldI rfl rfl).trans <| (WP.iadd rfl).trans <| cn_eq ((WP.kI rfl).trans <| (WP.iast rfl ha0).trans <| cn_eq ((WP.ldR rfl rfl).trans <| (WP.kI rfl).trans <| (WP.ldI rfl rfl).trans <| (WP.iadd rfl).trans <| cn_eq ((WP.kI rfl).trans <| (WP.iast rfl ha0).trans <| cn_eq ((WP.iinc rfl rfl rfl).trans <| cn_eq (WP.goto rfl))))))
theorem seg148_0 (a0 : Nat) (La0 : Nat) (a1 : Nat) (La1 : Nat) (o2 : Option xv) (D : xD) (Q : Option xv → xD → Prop) (ha0 : xalen none 124 a0 = some La0) (ha1 : xalen none 124 a1 = some La1) :
  WP 124 xF1 none 148 0 [some (.inr (.inr (some a0))), some (.inr (.inr (some a1))), o2] [] D Q =
  (WP 124 xF1 none 148 2 [some (.inr (.inr (some a0))), some (.inr (.inr (some a1))), some (.inl 0)] [] D Q) :=
  (WP.kI rfl).trans <| WP.stI rfl rfl
theorem seg148_2 (a0 : Nat) (La0 : Nat) (a1 : Nat) (La1 : Nat) (x2 : Int) (D : xD) (Q : Option xv → xD → Prop) (ha0 : xalen none 124 a0 = some La0) (ha1 : xalen none 124 a1 = some La1) :
  WP 124 xF1 none 148 2 [some (.inr (.inr (some a0))), some (.inr (.inr (some a1))), some (.inl x2)] [] D Q =
  ((640 ≤ x2 → Q none D) ∧ (¬ (640 ≤ x2) → ((0 : Int) ≤ x2 ∧ x2 < (La0 : Int)) ∧ ((0 : Int) ≤ x2 ∧ x2 < (La1 : Int)) ∧ (xinP (x2 + 1)) ∧ WP 124 xF1 none 148 2 [some (.inr (.inr (some a0))), some (.inr (.inr (some a1))), some (.inl (x2 + 1))] [] (xup D a1 x2 (D a0 x2)) Q)) :=
  (WP.ldI rfl rfl).trans <| (WP.kI rfl).trans <| (WP.ic3 rfl).trans <| br_eq (WP.ret rfl rfl) ((WP.ldR rfl rfl).trans <| (WP.ldI rfl rfl).trans <| (WP.ldR rfl rfl).trans <| (WP.ldI rfl rfl).trans <| (WP.iald rfl ha0).trans <| cn_eq ((WP.iast rfl ha1).trans <| cn_eq ((WP.iinc rfl rfl rfl).trans <| cn_eq (WP.goto rfl))))
theorem seg149_0 (x0 : Int) (x1 : Int) (x2 : Int) (D : xD) (Q : Option xv → xD → Prop)  :
  WP 124 xF1 none 149 0 [some (.inl x0), some (.inl x1), some (.inl x2)] [] D Q =
  ((x0 < x1 → WP 124 xF1 none 149 14 [some (.inl x0), some (.inl x1), some (.inl x2)] [] D Q) ∧ (¬ (x0 < x1) → (x2 < x0 → WP 124 xF1 none 149 14 [some (.inl x0), some (.inl x1), some (.inl x2)] [] D Q) ∧ (¬ (x2 < x0) → WP 124 xF1 none 149 15 [some (.inl x0), some (.inl x1), some (.inl x2)] [.inl 1] D Q))) :=
  (WP.ldI rfl rfl).trans <| (WP.ldI rfl rfl).trans <| (WP.ic2 rfl).trans <| br_eq rfl ((WP.ldI rfl rfl).trans <| (WP.ldI rfl rfl).trans <| (WP.ic4 rfl).trans <| br_eq rfl ((WP.kI rfl).trans <| WP.goto rfl))
theorem seg149_14 (x0 : Int) (x1 : Int) (x2 : Int) (D : xD) (Q : Option xv → xD → Prop)  :
  WP 124 xF1 none 149 14 [some (.inl x0), some (.inl x1), some (.inl x2)] [] D Q =
  (WP 124 xF1 none 149 15 [some (.inl x0), some (.inl x1), some (.inl x2)] [.inl 0] D Q) :=
  WP.kI rfl
theorem seg149_15 (x0 : Int) (x1 : Int) (x2 : Int) (s0 : Int) (D : xD) (Q : Option xv → xD → Prop)  :
  WP 124 xF1 none 149 15 [some (.inl x0), some (.inl x1), some (.inl x2)] [.inl s0] D Q =
  ((s0 = 0 ∨ s0 = 1) ∧ Q (some (.inl s0)) D) :=
  WP.retZ rfl rfl
theorem seg150_0 (x0 : Int) (D : xD) (Q : Option xv → xD → Prop)  :
  WP 124 xF1 none 150 0 [some (.inl x0)] [] D Q =
  (WP 124 xF1 none 149 0 [some (.inl x0), some (.inl 0), some (.inl 12)] [] D (fun v D9 => WP 124 xF1 none 150 7 [some (.inl x0)] (v.toList ++ []) D9 Q)) :=
  (WP.ldI rfl rfl).trans <| (WP.kI rfl).trans <| (WP.kI rfl).trans <| WP.call rfl rfl rfl rfl
theorem seg150_7 (x0 : Int) (s0 : Int) (D : xD) (Q : Option xv → xD → Prop)  :
  WP 124 xF1 none 150 7 [some (.inl x0)] [.inl s0] D Q =
  ((s0 = 0 ∨ s0 = 1) ∧ Q (some (.inl s0)) D) :=
  WP.retZ rfl rfl
theorem seg151_0 (a0 : Nat) (x1 : Int) (o2 : Option xv) (D : xD) (Q : Option xv → xD → Prop) (ha0 : xisO 124 a0 10 = true) :
  WP 124 xF1 none 151 0 [some (.inr (.inr (some a0))), some (.inl x1), o2] [] D Q =
  (WP 124 xF1 none 151 3 [some (.inr (.inr (some a0))), some (.inl x1), some (.inl 24)] [] D Q) :=
  (WP.kI rfl).trans <| WP.stI rfl rfl
theorem seg151_3 (a0 : Nat) (x1 : Int) (x2 : Int) (D : xD) (Q : Option xv → xD → Prop) (ha0 : xisO 124 a0 10 = true) :
  WP 124 xF1 none 151 3 [some (.inr (.inr (some a0))), some (.inl x1), some (.inl x2)] [] D Q =
  ((x2 < 0 → Q none D) ∧ (¬ (x2 < 0) → ((0 : Int) ≤ (D a0 4) ∧ (D a0 4) < (300 : Int)) ∧ (xinP ((D a0 4) + 1)) ∧ (xinP (x2 + (-8))) ∧ WP 124 xF1 none 151 3 [some (.inr (.inr (some a0))), some (.inl x1), some (.inl (x2 + (-8)))] [] (xup (xup D (a0 + 4) (D a0 4) (iand (ishr x1 x2) 255)) a0 4 ((D a0 4) + 1)) Q)) :=
  (WP.ldI rfl rfl).trans <| (WP.if2 rfl).trans <| br_eq (WP.ret rfl rfl) ((WP.ldR rfl rfl).trans <| (WP.getR (b := (a0 + 4)) rfl ha0 rfl rfl).trans <| (WP.ldR rfl rfl).trans <| (WP.getI rfl ha0).trans <| (WP.ldI rfl rfl).trans <| (WP.ldI rfl rfl).trans <| (WP.ishr rfl).trans <| (WP.kI rfl).trans <| (WP.iand rfl).trans <| (WP.iast rfl (so_10_3 ha0)).trans <| cn_eq ((WP.ldR rfl rfl).trans <| (WP.dup rfl rfl).trans <| (WP.getI2 rfl ha0 (xr_n (by omega))).trans <| (WP.kI rfl).trans <| (WP.iadd rfl).trans <| cn_eq ((WP.putI rfl ha0).trans <| (WP.iinc rfl rfl rfl).trans <| cn_eq (WP.goto rfl))))
theorem seg152_0 (a0 : Nat) (x1 : Int) (x2 : Int) (x3 : Int) (x4 : Int) (x5 : Int) (D : xD) (Q : Option xv → xD → Prop) (ha0 : xisO 124 a0 10 = true) :
  WP 124 xF1 none 152 0 [some (.inr (.inr (some a0))), some (.inl x1), some (.inl x2), some (.inl x3), some (.inl x4), some (.inl x5)] [] D Q =
  ((xinP ((D a0 4) + 20)) ∧ (((D a0 4) + 20) ≤ 300 → WP 124 xF1 none 151 0 [some (.inr (.inr (some a0))), some (.inl x1), none] [] D (fun v D9 => WP 124 xF1 none 152 20 [some (.inr (.inr (some a0))), some (.inl x1), some (.inl x2), some (.inl x3), some (.inl x4), some (.inl x5)] (v.toList ++ []) D9 Q)) ∧ (¬ (((D a0 4) + 20) ≤ 300) → Q (some (.inl (-1))) D)) :=
  (WP.ldR rfl rfl).trans <| (WP.getI rfl ha0).trans <| (WP.kI rfl).trans <| (WP.iadd rfl).trans <| cn_eq ((WP.kI rfl).trans <| (WP.ic5 rfl).trans <| br_eq ((WP.ldR rfl rfl).trans <| (WP.ldI rfl rfl).trans <| WP.call rfl rfl (crv (r := xrecv 124 151 [.inr (.inr (some a0)), .inl x1]) ha0 rfl rfl rfl) rfl) ((WP.kI rfl).trans <| WP.ret rfl rfl))
theorem seg152_20 (a0 : Nat) (x1 : Int) (x2 : Int) (x3 : Int) (x4 : Int) (x5 : Int) (D : xD) (Q : Option xv → xD → Prop) (ha0 : xisO 124 a0 10 = true) :
  WP 124 xF1 none 152 20 [some (.inr (.inr (some a0))), some (.inl x1), some (.inl x2), some (.inl x3), some (.inl x4), some (.inl x5)] [] D Q =
  (WP 124 xF1 none 151 0 [some (.inr (.inr (some a0))), some (.inl x2), none] [] D (fun v D9 => WP 124 xF1 none 152 25 [some (.inr (.inr (some a0))), some (.inl x1), some (.inl x2), some (.inl x3), some (.inl x4), some (.inl x5)] (v.toList ++ []) D9 Q)) :=
  (WP.ldR rfl rfl).trans <| (WP.ldI rfl rfl).trans <| WP.call rfl rfl (crv (r := xrecv 124 151 [.inr (.inr (some a0)), .inl x2]) ha0 rfl rfl rfl) rfl
theorem seg152_25 (a0 : Nat) (x1 : Int) (x2 : Int) (x3 : Int) (x4 : Int) (x5 : Int) (D : xD) (Q : Option xv → xD → Prop) (ha0 : xisO 124 a0 10 = true) :
  WP 124 xF1 none 152 25 [some (.inr (.inr (some a0))), some (.inl x1), some (.inl x2), some (.inl x3), some (.inl x4), some (.inl x5)] [] D Q =
  (WP 124 xF1 none 151 0 [some (.inr (.inr (some a0))), some (.inl x3), none] [] D (fun v D9 => WP 124 xF1 none 152 30 [some (.inr (.inr (some a0))), some (.inl x1), some (.inl x2), some (.inl x3), some (.inl x4), some (.inl x5)] (v.toList ++ []) D9 Q)) :=
  (WP.ldR rfl rfl).trans <| (WP.ldI rfl rfl).trans <| WP.call rfl rfl (crv (r := xrecv 124 151 [.inr (.inr (some a0)), .inl x3]) ha0 rfl rfl rfl) rfl
theorem seg152_30 (a0 : Nat) (x1 : Int) (x2 : Int) (x3 : Int) (x4 : Int) (x5 : Int) (D : xD) (Q : Option xv → xD → Prop) (ha0 : xisO 124 a0 10 = true) :
  WP 124 xF1 none 152 30 [some (.inr (.inr (some a0))), some (.inl x1), some (.inl x2), some (.inl x3), some (.inl x4), some (.inl x5)] [] D Q =
  (WP 124 xF1 none 151 0 [some (.inr (.inr (some a0))), some (.inl x4), none] [] D (fun v D9 => WP 124 xF1 none 152 36 [some (.inr (.inr (some a0))), some (.inl x1), some (.inl x2), some (.inl x3), some (.inl x4), some (.inl x5)] (v.toList ++ []) D9 Q)) :=
  (WP.ldR rfl rfl).trans <| (WP.ldI rfl rfl).trans <| WP.call rfl rfl (crv (r := xrecv 124 151 [.inr (.inr (some a0)), .inl x4]) ha0 rfl rfl rfl) rfl
theorem seg152_36 (a0 : Nat) (x1 : Int) (x2 : Int) (x3 : Int) (x4 : Int) (x5 : Int) (D : xD) (Q : Option xv → xD → Prop) (ha0 : xisO 124 a0 10 = true) :
  WP 124 xF1 none 152 36 [some (.inr (.inr (some a0))), some (.inl x1), some (.inl x2), some (.inl x3), some (.inl x4), some (.inl x5)] [] D Q =
  (WP 124 xF1 none 151 0 [some (.inr (.inr (some a0))), some (.inl x5), none] [] D (fun v D9 => WP 124 xF1 none 152 42 [some (.inr (.inr (some a0))), some (.inl x1), some (.inl x2), some (.inl x3), some (.inl x4), some (.inl x5)] (v.toList ++ []) D9 Q)) :=
  (WP.ldR rfl rfl).trans <| (WP.ldI rfl rfl).trans <| WP.call rfl rfl (crv (r := xrecv 124 151 [.inr (.inr (some a0)), .inl x5]) ha0 rfl rfl rfl) rfl
theorem seg152_42 (a0 : Nat) (x1 : Int) (x2 : Int) (x3 : Int) (x4 : Int) (x5 : Int) (D : xD) (Q : Option xv → xD → Prop) (ha0 : xisO 124 a0 10 = true) :
  WP 124 xF1 none 152 42 [some (.inr (.inr (some a0))), some (.inl x1), some (.inl x2), some (.inl x3), some (.inl x4), some (.inl x5)] [] D Q =
  (Q (some (.inl (D a0 4))) D) :=
  (WP.ldR rfl rfl).trans <| (WP.getI rfl ha0).trans <| WP.ret rfl rfl
theorem seg153_0 (a0 : Nat) (x1 : Int) (D : xD) (Q : Option xv → xD → Prop) (ha0 : xisO 124 a0 10 = true) :
  WP 124 xF1 none 153 0 [some (.inr (.inr (some a0))), some (.inl x1)] [] D Q =
  (WP 124 xF1 none 149 0 [some (.inl x1), some (.inl 0), some (.inl (D a0 4))] [] D (fun v D9 => WP 124 xF1 none 153 9 [some (.inr (.inr (some a0))), some (.inl x1)] (v.toList ++ []) D9 Q)) :=
  (WP.ldI rfl rfl).trans <| (WP.kI rfl).trans <| (WP.ldR rfl rfl).trans <| (WP.getI rfl ha0).trans <| WP.call rfl rfl rfl rfl
theorem seg153_9 (a0 : Nat) (x1 : Int) (s0 : Int) (D : xD) (Q : Option xv → xD → Prop) (ha0 : xisO 124 a0 10 = true) :
  WP 124 xF1 none 153 9 [some (.inr (.inr (some a0))), some (.inl x1)] [.inl s0] D Q =
  ((s0 ≠ 0 → Q (some (.inl x1)) (xup D a0 4 x1)) ∧ (¬ (s0 ≠ 0) → Q (some (.inl (-1))) D)) :=
  (WP.if1 rfl).trans <| br_eq ((WP.ldR rfl rfl).trans <| (WP.ldI rfl rfl).trans <| (WP.putI rfl ha0).trans <| (WP.ldI rfl rfl).trans <| WP.ret rfl rfl) ((WP.kI rfl).trans <| WP.ret rfl rfl)
theorem seg154_0 (a0 : Nat) (x1 : Int) (D : xD) (Q : Option xv → xD → Prop) (ha0 : xisO 124 a0 10 = true) :
  WP 124 xF1 none 154 0 [some (.inr (.inr (some a0))), some (.inl x1)] [] D Q =
  (((D a0 4) ≤ x1 → WP 124 xF1 none 154 18 [some (.inr (.inr (some a0))), some (.inl x1)] [.inl (-1)] D Q) ∧ (¬ ((D a0 4) ≤ x1) → ((0 : Int) ≤ x1 ∧ x1 < (300 : Int)) ∧ WP 124 xF1 none 154 18 [some (.inr (.inr (some a0))), some (.inl x1)] [.inl (D (a0 + 4) x1)] D Q)) :=
  (WP.ldI rfl rfl).trans <| (WP.ldR rfl rfl).trans <| (WP.getI rfl ha0).trans <| (WP.ic3 rfl).trans <| br_eq (WP.kI rfl) ((WP.ldR rfl rfl).trans <| (WP.getR (b := (a0 + 4)) rfl ha0 rfl rfl).trans <| (WP.ldI rfl rfl).trans <| (WP.iald rfl (so_10_3 ha0)).trans <| cn_eq (WP.goto rfl))
theorem seg154_18 (a0 : Nat) (x1 : Int) (s0 : Int) (D : xD) (Q : Option xv → xD → Prop) (ha0 : xisO 124 a0 10 = true) :
  WP 124 xF1 none 154 18 [some (.inr (.inr (some a0))), some (.inl x1)] [.inl s0] D Q =
  (Q (some (.inl s0)) D) :=
  WP.ret rfl rfl
theorem seg155_0 (x0 : Int) (D : xD) (Q : Option xv → xD → Prop)  :
  WP 124 xF1 none 155 0 [some (.inl x0)] [] D Q =
  (WP 124 xF1 none 149 0 [some (.inl x0), some (.inl 97), some (.inl 122)] [] D (fun v D9 => WP 124 xF1 none 155 8 [some (.inl x0)] (v.toList ++ []) D9 Q)) :=
  (WP.ldI rfl rfl).trans <| (WP.kI rfl).trans <| (WP.kI rfl).trans <| WP.call rfl rfl rfl rfl
theorem seg155_8 (x0 : Int) (s0 : Int) (D : xD) (Q : Option xv → xD → Prop)  :
  WP 124 xF1 none 155 8 [some (.inl x0)] [.inl s0] D Q =
  ((s0 ≠ 0 → WP 124 xF1 none 155 22 [some (.inl x0)] [] D Q) ∧ (¬ (s0 ≠ 0) → WP 124 xF1 none 149 0 [some (.inl x0), some (.inl 65), some (.inl 90)] [] D (fun v D9 => WP 124 xF1 none 155 19 [some (.inl x0)] (v.toList ++ []) D9 Q))) :=
  (WP.if1 rfl).trans <| br_eq rfl ((WP.ldI rfl rfl).trans <| (WP.kI rfl).trans <| (WP.kI rfl).trans <| WP.call rfl rfl rfl rfl)
theorem seg155_19 (x0 : Int) (s0 : Int) (D : xD) (Q : Option xv → xD → Prop)  :
  WP 124 xF1 none 155 19 [some (.inl x0)] [.inl s0] D Q =
  ((s0 = 0 → WP 124 xF1 none 155 27 [some (.inl x0)] [.inl 0] D Q) ∧ (¬ (s0 = 0) → WP 124 xF1 none 155 22 [some (.inl x0)] [] D Q)) :=
  (WP.if0 rfl).trans <| br_eq (WP.kI rfl) rfl
theorem seg155_22 (x0 : Int) (D : xD) (Q : Option xv → xD → Prop)  :
  WP 124 xF1 none 155 22 [some (.inl x0)] [] D Q =
  (WP 124 xF1 none 155 27 [some (.inl x0)] [.inl 1] D Q) :=
  (WP.kI rfl).trans <| WP.goto rfl
theorem seg155_27 (x0 : Int) (s0 : Int) (D : xD) (Q : Option xv → xD → Prop)  :
  WP 124 xF1 none 155 27 [some (.inl x0)] [.inl s0] D Q =
  ((s0 = 0 ∨ s0 = 1) ∧ Q (some (.inl s0)) D) :=
  WP.retZ rfl rfl
theorem seg156_0 (x0 : Int) (D : xD) (Q : Option xv → xD → Prop)  :
  WP 124 xF1 none 156 0 [some (.inl x0)] [] D Q =
  (WP 124 xF1 none 149 0 [some (.inl x0), some (.inl 48), some (.inl 57)] [] D (fun v D9 => WP 124 xF1 none 156 8 [some (.inl x0)] (v.toList ++ []) D9 Q)) :=
  (WP.ldI rfl rfl).trans <| (WP.kI rfl).trans <| (WP.kI rfl).trans <| WP.call rfl rfl rfl rfl
theorem seg156_8 (x0 : Int) (s0 : Int) (D : xD) (Q : Option xv → xD → Prop)  :
  WP 124 xF1 none 156 8 [some (.inl x0)] [.inl s0] D Q =
  ((s0 = 0 ∨ s0 = 1) ∧ Q (some (.inl s0)) D) :=
  WP.retZ rfl rfl
theorem seg157_0 (a0 : Nat) (o1 : Option xv) (D : xD) (Q : Option xv → xD → Prop) (ha0 : xisO 124 a0 10 = true) :
  WP 124 xF1 none 157 0 [some (.inr (.inr (some a0))), o1] [] D Q =
  (WP 124 xF1 none 154 0 [some (.inr (.inr (some a0))), some (.inl (D a0 7))] [] D (fun v D9 => WP 124 xF1 none 157 8 [some (.inr (.inr (some a0))), o1] (v.toList ++ []) D9 Q)) :=
  (WP.ldR rfl rfl).trans <| (WP.ldR rfl rfl).trans <| (WP.getI rfl ha0).trans <| WP.call rfl rfl (crv (r := xrecv 124 154 [.inr (.inr (some a0)), .inl (D a0 7)]) ha0 rfl rfl rfl) rfl
theorem seg157_8 (a0 : Nat) (o1 : Option xv) (s0 : Int) (D : xD) (Q : Option xv → xD → Prop) (ha0 : xisO 124 a0 10 = true) :
  WP 124 xF1 none 157 8 [some (.inr (.inr (some a0))), o1] [.inl s0] D Q =
  ((s0 = 32 → WP 124 xF1 none 157 26 [some (.inr (.inr (some a0))), o1] [] D Q) ∧ (¬ (s0 = 32) → WP 124 xF1 none 154 0 [some (.inr (.inr (some a0))), some (.inl (D a0 7))] [] D (fun v D9 => WP 124 xF1 none 157 21 [some (.inr (.inr (some a0))), o1] (v.toList ++ []) D9 Q))) :=
  (WP.kI rfl).trans <| (WP.ic0 rfl).trans <| br_eq rfl ((WP.ldR rfl rfl).trans <| (WP.ldR rfl rfl).trans <| (WP.getI rfl ha0).trans <| WP.call rfl rfl (crv (r := xrecv 124 154 [.inr (.inr (some a0)), .inl (D a0 7)]) ha0 rfl rfl rfl) rfl)
theorem seg157_21 (a0 : Nat) (o1 : Option xv) (s0 : Int) (D : xD) (Q : Option xv → xD → Prop) (ha0 : xisO 124 a0 10 = true) :
  WP 124 xF1 none 157 21 [some (.inr (.inr (some a0))), o1] [.inl s0] D Q =
  ((s0 ≠ 10 → WP 124 xF1 none 154 0 [some (.inr (.inr (some a0))), some (.inl (D a0 7))] [] (xup D a0 8 (D a0 7)) (fun v D9 => WP 124 xF1 none 157 55 [some (.inr (.inr (some a0))), o1] (v.toList ++ []) D9 Q)) ∧ (¬ (s0 ≠ 10) → WP 124 xF1 none 157 26 [some (.inr (.inr (some a0))), o1] [] D Q)) :=
  (WP.kI rfl).trans <| (WP.ic1 rfl).trans <| br_eq ((WP.ldR rfl rfl).trans <| (WP.ldR rfl rfl).trans <| (WP.getI rfl ha0).trans <| (WP.putI rfl ha0).trans <| (WP.ldR rfl rfl).trans <| (WP.ldR rfl rfl).trans <| (WP.getI2 rfl ha0 (xr_k (by decide))).trans <| WP.call rfl rfl (crv (r := xrecv 124 154 [.inr (.inr (some a0)), .inl (D a0 7)]) ha0 rfl rfl rfl) rfl) rfl
theorem seg157_26 (a0 : Nat) (o1 : Option xv) (D : xD) (Q : Option xv → xD → Prop) (ha0 : xisO 124 a0 10 = true) :
  WP 124 xF1 none 157 26 [some (.inr (.inr (some a0))), o1] [] D Q =
  ((xinP ((D a0 7) + 1)) ∧ WP 124 xF1 none 157 0 [some (.inr (.inr (some a0))), o1] [] (xup D a0 7 ((D a0 7) + 1)) Q) :=
  (WP.ldR rfl rfl).trans <| (WP.dup rfl rfl).trans <| (WP.getI rfl ha0).trans <| (WP.kI rfl).trans <| (WP.iadd rfl).trans <| cn_eq ((WP.putI rfl ha0).trans <| WP.goto rfl)
theorem seg157_55 (a0 : Nat) (o1 : Option xv) (s0 : Int) (D : xD) (Q : Option xv → xD → Prop) (ha0 : xisO 124 a0 10 = true) :
  WP 124 xF1 none 157 55 [some (.inr (.inr (some a0))), o1] [.inl s0] D Q =
  ((0 ≤ s0 → WP 124 xF1 none 156 0 [some (.inl s0)] [] D (fun v D9 => WP 124 xF1 none 157 72 [some (.inr (.inr (some a0))), some (.inl s0)] (v.toList ++ []) D9 Q)) ∧ (¬ (0 ≤ s0) → WP 124 xF1 none 157 270 [some (.inr (.inr (some a0))), some (.inl s0)] [] (xup D a0 9 0) Q)) :=
  (WP.stI rfl rfl).trans <| (WP.ldI rfl rfl).trans <| (WP.if3 rfl).trans <| br_eq ((WP.ldI rfl rfl).trans <| WP.call rfl rfl rfl rfl) ((WP.ldR rfl rfl).trans <| (WP.kI rfl).trans <| (WP.putI rfl ha0).trans <| WP.goto rfl)
theorem seg157_72 (a0 : Nat) (x1 : Int) (s0 : Int) (D : xD) (Q : Option xv → xD → Prop) (ha0 : xisO 124 a0 10 = true) :
  WP 124 xF1 none 157 72 [some (.inr (.inr (some a0))), some (.inl x1)] [.inl s0] D Q =
  ((s0 = 0 → WP 124 xF1 none 155 0 [some (.inl x1)] [] D (fun v D9 => WP 124 xF1 none 157 148 [some (.inr (.inr (some a0))), some (.inl x1)] (v.toList ++ []) D9 Q)) ∧ (¬ (s0 = 0) → WP 124 xF1 none 157 85 [some (.inr (.inr (some a0))), some (.inl x1)] [] (xup (xup D a0 9 1) a0 10 0) Q)) :=
  (WP.if0 rfl).trans <| br_eq ((WP.ldI rfl rfl).trans <| WP.call rfl rfl rfl rfl) ((WP.ldR rfl rfl).trans <| (WP.kI rfl).trans <| (WP.putI rfl ha0).trans <| (WP.ldR rfl rfl).trans <| (WP.kI rfl).trans <| WP.putI rfl ha0)
theorem seg157_85 (a0 : Nat) (x1 : Int) (D : xD) (Q : Option xv → xD → Prop) (ha0 : xisO 124 a0 10 = true) :
  WP 124 xF1 none 157 85 [some (.inr (.inr (some a0))), some (.inl x1)] [] D Q =
  (WP 124 xF1 none 154 0 [some (.inr (.inr (some a0))), some (.inl (D a0 7))] [] D (fun v D9 => WP 124 xF1 none 157 93 [some (.inr (.inr (some a0))), some (.inl x1)] (v.toList ++ []) D9 Q)) :=
  (WP.ldR rfl rfl).trans <| (WP.ldR rfl rfl).trans <| (WP.getI rfl ha0).trans <| WP.call rfl rfl (crv (r := xrecv 124 154 [.inr (.inr (some a0)), .inl (D a0 7)]) ha0 rfl rfl rfl) rfl
theorem seg157_93 (a0 : Nat) (x1 : Int) (s0 : Int) (D : xD) (Q : Option xv → xD → Prop) (ha0 : xisO 124 a0 10 = true) :
  WP 124 xF1 none 157 93 [some (.inr (.inr (some a0))), some (.inl x1)] [.inl s0] D Q =
  (WP 124 xF1 none 156 0 [some (.inl s0)] [] D (fun v D9 => WP 124 xF1 none 157 96 [some (.inr (.inr (some a0))), some (.inl x1)] (v.toList ++ []) D9 Q)) :=
  WP.call rfl rfl rfl rfl
theorem seg157_96 (a0 : Nat) (x1 : Int) (s0 : Int) (D : xD) (Q : Option xv → xD → Prop) (ha0 : xisO 124 a0 10 = true) :
  WP 124 xF1 none 157 96 [some (.inr (.inr (some a0))), some (.inl x1)] [.inl s0] D Q =
  ((s0 = 0 → WP 124 xF1 none 157 270 [some (.inr (.inr (some a0))), some (.inl x1)] [] D Q) ∧ (¬ (s0 = 0) → (100000 ≤ (D a0 10) → WP 124 xF1 none 157 131 [some (.inr (.inr (some a0))), some (.inl x1)] [] D Q) ∧ (¬ (100000 ≤ (D a0 10)) → (xinP (10 * (D a0 10))) ∧ WP 124 xF1 none 154 0 [some (.inr (.inr (some a0))), some (.inl (D a0 7))] [] D (fun v D9 => WP 124 xF1 none 157 124 [some (.inr (.inr (some a0))), some (.inl x1)] (v.toList ++ [.inl (10 * (D a0 10)), .inr (.inr (some a0))]) D9 Q)))) :=
  (WP.if0 rfl).trans <| br_eq rfl ((WP.ldR rfl rfl).trans <| (WP.getI rfl ha0).trans <| (WP.kI rfl).trans <| (WP.ic3 rfl).trans <| br_eq rfl ((WP.ldR rfl rfl).trans <| (WP.kI rfl).trans <| (WP.ldR rfl rfl).trans <| (WP.getI rfl ha0).trans <| (WP.imul rfl).trans <| cn_eq ((WP.ldR rfl rfl).trans <| (WP.ldR rfl rfl).trans <| (WP.getI rfl ha0).trans <| WP.call rfl rfl (crv (r := xrecv 124 154 [.inr (.inr (some a0)), .inl (D a0 7)]) ha0 rfl rfl rfl) rfl)))
theorem seg157_124 (a0 : Nat) (x1 : Int) (s0 : Int) (s1 : Int) (b2 : Nat) (D : xD) (Q : Option xv → xD → Prop) (ha0 : xisO 124 a0 10 = true) (hb2 : xisO 124 b2 10 = true) :
  WP 124 xF1 none 157 124 [some (.inr (.inr (some a0))), some (.inl x1)] [.inl s0, .inl s1, .inr (.inr (some b2))] D Q =
  ((xinP (s1 + s0)) ∧ (xinP ((s1 + s0) - 48)) ∧ WP 124 xF1 none 157 131 [some (.inr (.inr (some a0))), some (.inl x1)] [] (xup D b2 10 ((s1 + s0) - 48)) Q) :=
  (WP.iadd rfl).trans <| cn_eq ((WP.kI rfl).trans <| (WP.isub rfl).trans <| cn_eq (WP.putI rfl hb2))
theorem seg157_131 (a0 : Nat) (x1 : Int) (D : xD) (Q : Option xv → xD → Prop) (ha0 : xisO 124 a0 10 = true) :
  WP 124 xF1 none 157 131 [some (.inr (.inr (some a0))), some (.inl x1)] [] D Q =
  ((xinP ((D a0 7) + 1)) ∧ WP 124 xF1 none 157 85 [some (.inr (.inr (some a0))), some (.inl x1)] [] (xup D a0 7 ((D a0 7) + 1)) Q) :=
  (WP.ldR rfl rfl).trans <| (WP.dup rfl rfl).trans <| (WP.getI rfl ha0).trans <| (WP.kI rfl).trans <| (WP.iadd rfl).trans <| cn_eq ((WP.putI rfl ha0).trans <| WP.goto rfl)
theorem seg157_148 (a0 : Nat) (x1 : Int) (s0 : Int) (D : xD) (Q : Option xv → xD → Prop) (ha0 : xisO 124 a0 10 = true) :
  WP 124 xF1 none 157 148 [some (.inr (.inr (some a0))), some (.inl x1)] [.inl s0] D Q =
  ((s0 = 0 → (xinP ((D a0 7) + 1)) ∧ (x1 ≠ 59 → WP 124 xF1 none 157 267 [some (.inr (.inr (some a0))), some (.inl x1)] [.inl 3, .inr (.inr (some a0))] (xup D a0 7 ((D a0 7) + 1)) Q) ∧ (¬ (x1 ≠ 59) → WP 124 xF1 none 157 267 [some (.inr (.inr (some a0))), some (.inl x1)] [.inl x1, .inr (.inr (some a0))] (xup D a0 7 ((D a0 7) + 1)) Q)) ∧ (¬ (s0 = 0) → WP 124 xF1 none 157 161 [some (.inr (.inr (some a0))), some (.inl x1)] [] (xup (xup D a0 9 2) a0 11 0) Q)) :=
  (WP.if0 rfl).trans <| br_eq ((WP.ldR rfl rfl).trans <| (WP.dup rfl rfl).trans <| (WP.getI rfl ha0).trans <| (WP.kI rfl).trans <| (WP.iadd rfl).trans <| cn_eq ((WP.putI rfl ha0).trans <| (WP.ldR rfl rfl).trans <| (WP.ldI rfl rfl).trans <| (WP.kI rfl).trans <| (WP.ic1 rfl).trans <| br_eq (WP.kI rfl) ((WP.ldI rfl rfl).trans <| WP.goto rfl))) ((WP.ldR rfl rfl).trans <| (WP.kI rfl).trans <| (WP.putI rfl ha0).trans <| (WP.ldR rfl rfl).trans <| (WP.kL rfl).trans <| WP.putL rfl ha0)
theorem seg157_161 (a0 : Nat) (x1 : Int) (D : xD) (Q : Option xv → xD → Prop) (ha0 : xisO 124 a0 10 = true) :
  WP 124 xF1 none 157 161 [some (.inr (.inr (some a0))), some (.inl x1)] [] D Q =
  (WP 124 xF1 none 154 0 [some (.inr (.inr (some a0))), some (.inl (D a0 7))] [] D (fun v D9 => WP 124 xF1 none 157 169 [some (.inr (.inr (some a0))), some (.inl x1)] (v.toList ++ []) D9 Q)) :=
  (WP.ldR rfl rfl).trans <| (WP.ldR rfl rfl).trans <| (WP.getI rfl ha0).trans <| WP.call rfl rfl (crv (r := xrecv 124 154 [.inr (.inr (some a0)), .inl (D a0 7)]) ha0 rfl rfl rfl) rfl
theorem seg157_169 (a0 : Nat) (x1 : Int) (s0 : Int) (D : xD) (Q : Option xv → xD → Prop) (ha0 : xisO 124 a0 10 = true) :
  WP 124 xF1 none 157 169 [some (.inr (.inr (some a0))), some (.inl x1)] [.inl s0] D Q =
  (WP 124 xF1 none 155 0 [some (.inl s0)] [] D (fun v D9 => WP 124 xF1 none 157 172 [some (.inr (.inr (some a0))), some (.inl x1)] (v.toList ++ []) D9 Q)) :=
  WP.call rfl rfl rfl rfl
theorem seg157_172 (a0 : Nat) (x1 : Int) (s0 : Int) (D : xD) (Q : Option xv → xD → Prop) (ha0 : xisO 124 a0 10 = true) :
  WP 124 xF1 none 157 172 [some (.inr (.inr (some a0))), some (.inl x1)] [.inl s0] D Q =
  ((s0 = 0 → (xinP ((D a0 7) - (D a0 8))) ∧ (((D a0 7) - (D a0 8)) ≤ 6 → WP 124 xF1 none 157 270 [some (.inr (.inr (some a0))), some (.inl x1)] [] D Q) ∧ (¬ (((D a0 7) - (D a0 8)) ≤ 6) → WP 124 xF1 none 157 270 [some (.inr (.inr (some a0))), some (.inl x1)] [] (xup D a0 11 0) Q)) ∧ (¬ (s0 = 0) → (xinP ((D a0 7) - (D a0 8))) ∧ (6 ≤ ((D a0 7) - (D a0 8)) → WP 124 xF1 none 157 210 [some (.inr (.inr (some a0))), some (.inl x1)] [] D Q) ∧ (¬ (6 ≤ ((D a0 7) - (D a0 8))) → WP 124 xF1 none 154 0 [some (.inr (.inr (some a0))), some (.inl (D a0 7))] [] D (fun v D9 => WP 124 xF1 none 157 205 [some (.inr (.inr (some a0))), some (.inl x1)] (v.toList ++ [.inr (.inl (lshl (D a0 11) 8)), .inr (.inr (some a0))]) D9 Q)))) :=
  (WP.if0 rfl).trans <| br_eq ((WP.ldR rfl rfl).trans <| (WP.getI rfl ha0).trans <| (WP.ldR rfl rfl).trans <| (WP.getI rfl ha0).trans <| (WP.isub rfl).trans <| cn_eq ((WP.kI rfl).trans <| (WP.ic5 rfl).trans <| br_eq rfl ((WP.ldR rfl rfl).trans <| (WP.kL rfl).trans <| (WP.putL rfl ha0).trans <| WP.goto rfl))) ((WP.ldR rfl rfl).trans <| (WP.getI rfl ha0).trans <| (WP.ldR rfl rfl).trans <| (WP.getI rfl ha0).trans <| (WP.isub rfl).trans <| cn_eq ((WP.kI rfl).trans <| (WP.ic3 rfl).trans <| br_eq rfl ((WP.ldR rfl rfl).trans <| (WP.ldR rfl rfl).trans <| (WP.getL rfl ha0).trans <| (WP.kI rfl).trans <| (WP.lshl rfl).trans <| (WP.ldR rfl rfl).trans <| (WP.ldR rfl rfl).trans <| (WP.getI rfl ha0).trans <| WP.call rfl rfl (crv (r := xrecv 124 154 [.inr (.inr (some a0)), .inl (D a0 7)]) ha0 rfl rfl rfl) rfl)))
theorem seg157_205 (a0 : Nat) (x1 : Int) (s0 : Int) (v1 : Int) (b2 : Nat) (D : xD) (Q : Option xv → xD → Prop) (ha0 : xisO 124 a0 10 = true) (hb2 : xisO 124 b2 10 = true) :
  WP 124 xF1 none 157 205 [some (.inr (.inr (some a0))), some (.inl x1)] [.inl s0, .inr (.inl v1), .inr (.inr (some b2))] D Q =
  (WP 124 xF1 none 157 210 [some (.inr (.inr (some a0))), some (.inl x1)] [] (xup D b2 11 (lor v1 s0)) Q) :=
  (WP.i2l rfl).trans <| (WP.lor rfl).trans <| WP.putL rfl hb2
theorem seg157_210 (a0 : Nat) (x1 : Int) (D : xD) (Q : Option xv → xD → Prop) (ha0 : xisO 124 a0 10 = true) :
  WP 124 xF1 none 157 210 [some (.inr (.inr (some a0))), some (.inl x1)] [] D Q =
  ((xinP ((D a0 7) + 1)) ∧ WP 124 xF1 none 157 161 [some (.inr (.inr (some a0))), some (.inl x1)] [] (xup D a0 7 ((D a0 7) + 1)) Q) :=
  (WP.ldR rfl rfl).trans <| (WP.dup rfl rfl).trans <| (WP.getI rfl ha0).trans <| (WP.kI rfl).trans <| (WP.iadd rfl).trans <| cn_eq ((WP.putI rfl ha0).trans <| WP.goto rfl)
theorem seg157_267 (a0 : Nat) (x1 : Int) (s0 : Int) (b1 : Nat) (D : xD) (Q : Option xv → xD → Prop) (ha0 : xisO 124 a0 10 = true) (hb1 : xisO 124 b1 10 = true) :
  WP 124 xF1 none 157 267 [some (.inr (.inr (some a0))), some (.inl x1)] [.inl s0, .inr (.inr (some b1))] D Q =
  (WP 124 xF1 none 157 270 [some (.inr (.inr (some a0))), some (.inl x1)] [] (xup D b1 9 s0) Q) :=
  WP.putI rfl hb1
theorem seg157_270 (a0 : Nat) (x1 : Int) (D : xD) (Q : Option xv → xD → Prop) (ha0 : xisO 124 a0 10 = true) :
  WP 124 xF1 none 157 270 [some (.inr (.inr (some a0))), some (.inl x1)] [] D Q =
  (Q none D) :=
  WP.ret rfl rfl
theorem seg158_0 (x0 : Int) (x1 : Int) (x2 : Int) (x3 : Int) (D : xD) (Q : Option xv → xD → Prop)  :
  WP 124 xF1 none 158 0 [some (.inl x0), some (.inl x1), some (.inl x2), some (.inl x3)] [] D Q =
  (Q (some (.inr (.inl (lor (lshl (lor (lshl (lor (lshl x0 8) x1) 8) x2) 8) x3)))) D) :=
  (WP.ldI rfl rfl).trans <| (WP.i2l rfl).trans <| (WP.kI rfl).trans <| (WP.lshl rfl).trans <| (WP.ldI rfl rfl).trans <| (WP.i2l rfl).trans <| (WP.lor rfl).trans <| (WP.kI rfl).trans <| (WP.lshl rfl).trans <| (WP.ldI rfl rfl).trans <| (WP.i2l rfl).trans <| (WP.lor rfl).trans <| (WP.kI rfl).trans <| (WP.lshl rfl).trans <| (WP.ldI rfl rfl).trans <| (WP.i2l rfl).trans <| (WP.lor rfl).trans <| WP.ret rfl rfl
theorem seg159_0 (x0 : Int) (x1 : Int) (x2 : Int) (x3 : Int) (x4 : Int) (D : xD) (Q : Option xv → xD → Prop)  :
  WP 124 xF1 none 159 0 [some (.inl x0), some (.inl x1), some (.inl x2), some (.inl x3), some (.inl x4)] [] D Q =
  (WP 124 xF1 none 158 0 [some (.inl x0), some (.inl x1), some (.inl x2), some (.inl x3)] [] D (fun v D9 => WP 124 xF1 none 159 7 [some (.inl x0), some (.inl x1), some (.inl x2), some (.inl x3), some (.inl x4)] (v.toList ++ []) D9 Q)) :=
  (WP.ldI rfl rfl).trans <| (WP.ldI rfl rfl).trans <| (WP.ldI rfl rfl).trans <| (WP.ldI rfl rfl).trans <| WP.call rfl rfl rfl rfl
theorem seg159_7 (x0 : Int) (x1 : Int) (x2 : Int) (x3 : Int) (x4 : Int) (v0 : Int) (D : xD) (Q : Option xv → xD → Prop)  :
  WP 124 xF1 none 159 7 [some (.inl x0), some (.inl x1), some (.inl x2), some (.inl x3), some (.inl x4)] [.inr (.inl v0)] D Q =
  (Q (some (.inr (.inl (lor (lshl v0 8) x4)))) D) :=
  (WP.kI rfl).trans <| (WP.lshl rfl).trans <| (WP.ldI rfl rfl).trans <| (WP.i2l rfl).trans <| (WP.lor rfl).trans <| WP.ret rfl rfl
theorem seg160_0 (a0 : Nat) (w1 : Int) (o2 : Option xv) (D : xD) (Q : Option xv → xD → Prop) (ha0 : xisO 124 a0 10 = true) :
  WP 124 xF1 none 160 0 [some (.inr (.inr (some a0))), some (.inr (.inl w1)), o2] [] D Q =
  (((D a0 9) ≠ 2 → WP 124 xF1 none 160 21 [some (.inr (.inr (some a0))), some (.inr (.inl w1)), o2] [] D Q) ∧ (¬ ((D a0 9) ≠ 2) → ((if (D a0 11) < w1 then -1 else if (D a0 11) = w1 then 0 else 1) ≠ 0 → WP 124 xF1 none 160 21 [some (.inr (.inr (some a0))), some (.inr (.inl w1)), o2] [] D Q) ∧ (¬ ((if (D a0 11) < w1 then -1 else if (D a0 11) = w1 then 0 else 1) ≠ 0) → WP 124 xF1 none 160 22 [some (.inr (.inr (some a0))), some (.inr (.inl w1)), o2] [.inl 1] D Q))) :=
  (WP.ldR rfl rfl).trans <| (WP.getI rfl ha0).trans <| (WP.kI rfl).trans <| (WP.ic1 rfl).trans <| br_eq rfl ((WP.ldR rfl rfl).trans <| (WP.getL rfl ha0).trans <| (WP.ldL rfl rfl).trans <| (WP.lcmp rfl).trans <| (WP.if1 rfl).trans <| br_eq rfl ((WP.kI rfl).trans <| WP.goto rfl))
theorem seg160_21 (a0 : Nat) (w1 : Int) (o2 : Option xv) (D : xD) (Q : Option xv → xD → Prop) (ha0 : xisO 124 a0 10 = true) :
  WP 124 xF1 none 160 21 [some (.inr (.inr (some a0))), some (.inr (.inl w1)), o2] [] D Q =
  (WP 124 xF1 none 160 22 [some (.inr (.inr (some a0))), some (.inr (.inl w1)), o2] [.inl 0] D Q) :=
  WP.kI rfl
theorem seg160_22 (a0 : Nat) (w1 : Int) (o2 : Option xv) (s0 : Int) (D : xD) (Q : Option xv → xD → Prop) (ha0 : xisO 124 a0 10 = true) :
  WP 124 xF1 none 160 22 [some (.inr (.inr (some a0))), some (.inr (.inl w1)), o2] [.inl s0] D Q =
  ((s0 = 0 ∨ s0 = 1) ∧ Q (some (.inl s0)) D) :=
  WP.retZ rfl rfl
theorem seg161_0 (a0 : Nat) (D : xD) (Q : Option xv → xD → Prop) (ha0 : xisO 124 a0 10 = true) :
  WP 124 xF1 none 161 0 [some (.inr (.inr (some a0)))] [] D Q =
  (((D a0 9) ≠ 2 → WP 124 xF1 none 161 41 [some (.inr (.inr (some a0)))] [] D Q) ∧ (¬ ((D a0 9) ≠ 2) → ((if (D a0 11) < 65 then -1 else if (D a0 11) = 65 then 0 else 1) < 0 → WP 124 xF1 none 161 41 [some (.inr (.inr (some a0)))] [] D Q) ∧ (¬ ((if (D a0 11) < 65 then -1 else if (D a0 11) = 65 then 0 else 1) < 0) → (0 < (if (D a0 11) < 72 then -1 else if (D a0 11) = 72 then 0 else 1) → WP 124 xF1 none 161 41 [some (.inr (.inr (some a0)))] [] D Q) ∧ (¬ (0 < (if (D a0 11) < 72 then -1 else if (D a0 11) = 72 then 0 else 1)) → (xinP (D a0 11)) ∧ (xinP ((D a0 11) - 65)) ∧ WP 124 xF1 none 161 42 [some (.inr (.inr (some a0)))] [.inl ((D a0 11) - 65)] D Q)))) :=
  (WP.ldR rfl rfl).trans <| (WP.getI rfl ha0).trans <| (WP.kI rfl).trans <| (WP.ic1 rfl).trans <| br_eq rfl ((WP.ldR rfl rfl).trans <| (WP.getL rfl ha0).trans <| (WP.kL rfl).trans <| (WP.lcmp rfl).trans <| (WP.if2 rfl).trans <| br_eq rfl ((WP.ldR rfl rfl).trans <| (WP.getL rfl ha0).trans <| (WP.kL rfl).trans <| (WP.lcmp rfl).trans <| (WP.if4 rfl).trans <| br_eq rfl ((WP.ldR rfl rfl).trans <| (WP.getL rfl ha0).trans <| (WP.l2i rfl).trans <| cn_eq ((WP.kI rfl).trans <| (WP.isub rfl).trans <| cn_eq (WP.goto rfl)))))
theorem seg161_41 (a0 : Nat) (D : xD) (Q : Option xv → xD → Prop) (ha0 : xisO 124 a0 10 = true) :
  WP 124 xF1 none 161 41 [some (.inr (.inr (some a0)))] [] D Q =
  (WP 124 xF1 none 161 42 [some (.inr (.inr (some a0)))] [.inl (-1)] D Q) :=
  WP.kI rfl
theorem seg161_42 (a0 : Nat) (s0 : Int) (D : xD) (Q : Option xv → xD → Prop) (ha0 : xisO 124 a0 10 = true) :
  WP 124 xF1 none 161 42 [some (.inr (.inr (some a0)))] [.inl s0] D Q =
  (Q (some (.inl s0)) D) :=
  WP.ret rfl rfl
theorem seg162_0 (a0 : Nat) (x1 : Int) (x2 : Int) (x3 : Int) (D : xD) (Q : Option xv → xD → Prop) (ha0 : xisO 124 a0 10 = true) :
  WP 124 xF1 none 162 0 [some (.inr (.inr (some a0))), some (.inl x1), some (.inl x2), some (.inl x3)] [] D Q =
  (((D a0 9) = 1 → WP 124 xF1 none 149 0 [some (.inl (D a0 10)), some (.inl x1), some (.inl x2)] [] D (fun v D9 => WP 124 xF1 none 162 19 [some (.inr (.inr (some a0))), some (.inl x1), some (.inl x2), some (.inl x3)] (v.toList ++ []) D9 Q)) ∧ (¬ ((D a0 9) = 1) → Q (some (.inl 1)) D)) :=
  (WP.ldR rfl rfl).trans <| (WP.getI rfl ha0).trans <| (WP.kI rfl).trans <| (WP.ic0 rfl).trans <| br_eq ((WP.ldR rfl rfl).trans <| (WP.getI rfl ha0).trans <| (WP.ldI rfl rfl).trans <| (WP.ldI rfl rfl).trans <| WP.call rfl rfl rfl rfl) ((WP.kI rfl).trans <| WP.ret rfl rfl)
theorem seg162_19 (a0 : Nat) (x1 : Int) (x2 : Int) (x3 : Int) (s0 : Int) (D : xD) (Q : Option xv → xD → Prop) (ha0 : xisO 124 a0 10 = true) :
  WP 124 xF1 none 162 19 [some (.inr (.inr (some a0))), some (.inl x1), some (.inl x2), some (.inl x3)] [.inl s0] D Q =
  ((s0 ≠ 0 → ((0 : Int) ≤ x3 ∧ x3 < (640 : Int)) ∧ WP 124 xF1 none 157 0 [some (.inr (.inr (some a0))), none] [] (xup D (a0 + 3) x3 (D a0 10)) (fun v D9 => WP 124 xF1 none 162 38 [some (.inr (.inr (some a0))), some (.inl x1), some (.inl x2), some (.inl x3)] (v.toList ++ []) D9 Q)) ∧ (¬ (s0 ≠ 0) → Q (some (.inl 2)) D)) :=
  (WP.if1 rfl).trans <| br_eq ((WP.ldR rfl rfl).trans <| (WP.getR (b := (a0 + 3)) rfl ha0 rfl rfl).trans <| (WP.ldI rfl rfl).trans <| (WP.ldR rfl rfl).trans <| (WP.getI rfl ha0).trans <| (WP.iast rfl (so_10_2 ha0)).trans <| cn_eq ((WP.ldR rfl rfl).trans <| WP.call rfl rfl (crv (r := xrecv 124 157 [.inr (.inr (some a0))]) ha0 rfl rfl rfl) rfl)) ((WP.kI rfl).trans <| WP.ret rfl rfl)
theorem seg162_38 (a0 : Nat) (x1 : Int) (x2 : Int) (x3 : Int) (D : xD) (Q : Option xv → xD → Prop) (ha0 : xisO 124 a0 10 = true) :
  WP 124 xF1 none 162 38 [some (.inr (.inr (some a0))), some (.inl x1), some (.inl x2), some (.inl x3)] [] D Q =
  (Q (some (.inl 0)) D) :=
  (WP.kI rfl).trans <| WP.ret rfl rfl
theorem seg163_0 (a0 : Nat) (o1 : Option xv) (D : xD) (Q : Option xv → xD → Prop) (ha0 : xisO 124 a0 10 = true) :
  WP 124 xF1 none 163 0 [some (.inr (.inr (some a0))), o1] [] D Q =
  (WP 124 xF1 none 161 0 [some (.inr (.inr (some a0)))] [] D (fun v D9 => WP 124 xF1 none 163 4 [some (.inr (.inr (some a0))), o1] (v.toList ++ []) D9 Q)) :=
  (WP.ldR rfl rfl).trans <| WP.call rfl rfl (crv (r := xrecv 124 161 [.inr (.inr (some a0))]) ha0 rfl rfl rfl) rfl
theorem seg163_4 (a0 : Nat) (o1 : Option xv) (s0 : Int) (D : xD) (Q : Option xv → xD → Prop) (ha0 : xisO 124 a0 10 = true) :
  WP 124 xF1 none 163 4 [some (.inr (.inr (some a0))), o1] [.inl s0] D Q =
  ((0 ≤ s0 → ((iand (ishr (D a0 12) s0) 1) ≠ 1 → WP 124 xF1 none 157 0 [some (.inr (.inr (some a0))), none] [] (xup D a0 12 (ior (D a0 12) (ishl 1 s0))) (fun v D9 => WP 124 xF1 none 163 41 [some (.inr (.inr (some a0))), some (.inl s0)] (v.toList ++ []) D9 Q)) ∧ (¬ ((iand (ishr (D a0 12) s0) 1) ≠ 1) → Q (some (.inl 3)) D)) ∧ (¬ (0 ≤ s0) → Q (some (.inl 1)) D)) :=
  (WP.stI rfl rfl).trans <| (WP.ldI rfl rfl).trans <| (WP.if3 rfl).trans <| br_eq ((WP.ldR rfl rfl).trans <| (WP.getI rfl ha0).trans <| (WP.ldI rfl rfl).trans <| (WP.ishr rfl).trans <| (WP.kI rfl).trans <| (WP.iand rfl).trans <| (WP.kI rfl).trans <| (WP.ic1 rfl).trans <| br_eq ((WP.ldR rfl rfl).trans <| (WP.dup rfl rfl).trans <| (WP.getI rfl ha0).trans <| (WP.kI rfl).trans <| (WP.ldI rfl rfl).trans <| (WP.ishl rfl).trans <| (WP.ior rfl).trans <| (WP.putI rfl ha0).trans <| (WP.ldR rfl rfl).trans <| WP.call rfl rfl (crv (r := xrecv 124 157 [.inr (.inr (some a0))]) ha0 rfl rfl rfl) rfl) ((WP.kI rfl).trans <| WP.ret rfl rfl)) ((WP.kI rfl).trans <| WP.ret rfl rfl)
theorem seg163_41 (a0 : Nat) (x1 : Int) (D : xD) (Q : Option xv → xD → Prop) (ha0 : xisO 124 a0 10 = true) :
  WP 124 xF1 none 163 41 [some (.inr (.inr (some a0))), some (.inl x1)] [] D Q =
  ((xinP (10 + x1)) ∧ WP 124 xF1 none 162 0 [some (.inr (.inr (some a0))), some (.inl 0), some (.inl 99), some (.inl (10 + x1))] [] D (fun v D9 => WP 124 xF1 none 163 52 [some (.inr (.inr (some a0))), some (.inl x1)] (v.toList ++ []) D9 Q)) :=
  (WP.ldR rfl rfl).trans <| (WP.kI rfl).trans <| (WP.kI rfl).trans <| (WP.kI rfl).trans <| (WP.ldI rfl rfl).trans <| (WP.iadd rfl).trans <| cn_eq (WP.call rfl rfl (crv (r := xrecv 124 162 [.inr (.inr (some a0)), .inl 0, .inl 99, .inl (10 + x1)]) ha0 rfl rfl rfl) rfl)
theorem seg163_52 (a0 : Nat) (x1 : Int) (s0 : Int) (D : xD) (Q : Option xv → xD → Prop) (ha0 : xisO 124 a0 10 = true) :
  WP 124 xF1 none 163 52 [some (.inr (.inr (some a0))), some (.inl x1)] [.inl s0] D Q =
  (Q (some (.inl s0)) D) :=
  WP.ret rfl rfl
theorem seg164_0 (a0 : Nat) (o1 : Option xv) (D : xD) (Q : Option xv → xD → Prop) (ha0 : xisO 124 a0 10 = true) :
  WP 124 xF1 none 164 0 [some (.inr (.inr (some a0))), o1] [] D Q =
  (WP 124 xF1 none 161 0 [some (.inr (.inr (some a0)))] [] D (fun v D9 => WP 124 xF1 none 164 4 [some (.inr (.inr (some a0))), o1] (v.toList ++ []) D9 Q)) :=
  (WP.ldR rfl rfl).trans <| WP.call rfl rfl (crv (r := xrecv 124 161 [.inr (.inr (some a0))]) ha0 rfl rfl rfl) rfl
theorem seg164_4 (a0 : Nat) (o1 : Option xv) (s0 : Int) (D : xD) (Q : Option xv → xD → Prop) (ha0 : xisO 124 a0 10 = true) :
  WP 124 xF1 none 164 4 [some (.inr (.inr (some a0))), o1] [.inl s0] D Q =
  ((0 ≤ s0 → ((iand (ishr (D a0 13) s0) 1) ≠ 1 → WP 124 xF1 none 157 0 [some (.inr (.inr (some a0))), none] [] (xup D a0 13 (ior (D a0 13) (ishl 1 s0))) (fun v D9 => WP 124 xF1 none 164 41 [some (.inr (.inr (some a0))), some (.inl s0)] (v.toList ++ []) D9 Q)) ∧ (¬ ((iand (ishr (D a0 13) s0) 1) ≠ 1) → Q (some (.inl 3)) D)) ∧ (¬ (0 ≤ s0) → Q (some (.inl 1)) D)) :=
  (WP.stI rfl rfl).trans <| (WP.ldI rfl rfl).trans <| (WP.if3 rfl).trans <| br_eq ((WP.ldR rfl rfl).trans <| (WP.getI rfl ha0).trans <| (WP.ldI rfl rfl).trans <| (WP.ishr rfl).trans <| (WP.kI rfl).trans <| (WP.iand rfl).trans <| (WP.kI rfl).trans <| (WP.ic1 rfl).trans <| br_eq ((WP.ldR rfl rfl).trans <| (WP.dup rfl rfl).trans <| (WP.getI rfl ha0).trans <| (WP.kI rfl).trans <| (WP.ldI rfl rfl).trans <| (WP.ishl rfl).trans <| (WP.ior rfl).trans <| (WP.putI rfl ha0).trans <| (WP.ldR rfl rfl).trans <| WP.call rfl rfl (crv (r := xrecv 124 157 [.inr (.inr (some a0))]) ha0 rfl rfl rfl) rfl) ((WP.kI rfl).trans <| WP.ret rfl rfl)) ((WP.kI rfl).trans <| WP.ret rfl rfl)
theorem seg164_41 (a0 : Nat) (x1 : Int) (D : xD) (Q : Option xv → xD → Prop) (ha0 : xisO 124 a0 10 = true) :
  WP 124 xF1 none 164 41 [some (.inr (.inr (some a0))), some (.inl x1)] [] D Q =
  ((xinP (18 + x1)) ∧ WP 124 xF1 none 162 0 [some (.inr (.inr (some a0))), some (.inl 1), some (.inl 99), some (.inl (18 + x1))] [] D (fun v D9 => WP 124 xF1 none 164 52 [some (.inr (.inr (some a0))), some (.inl x1)] (v.toList ++ []) D9 Q)) :=
  (WP.ldR rfl rfl).trans <| (WP.kI rfl).trans <| (WP.kI rfl).trans <| (WP.kI rfl).trans <| (WP.ldI rfl rfl).trans <| (WP.iadd rfl).trans <| cn_eq (WP.call rfl rfl (crv (r := xrecv 124 162 [.inr (.inr (some a0)), .inl 1, .inl 99, .inl (18 + x1)]) ha0 rfl rfl rfl) rfl)
theorem seg164_52 (a0 : Nat) (x1 : Int) (s0 : Int) (D : xD) (Q : Option xv → xD → Prop) (ha0 : xisO 124 a0 10 = true) :
  WP 124 xF1 none 164 52 [some (.inr (.inr (some a0))), some (.inl x1)] [.inl s0] D Q =
  (Q (some (.inl s0)) D) :=
  WP.ret rfl rfl
theorem seg165_0 (a0 : Nat) (o1 : Option xv) (o2 : Option xv) (o3 : Option xv) (o4 : Option xv) (D : xD) (Q : Option xv → xD → Prop) (ha0 : xisO 124 a0 10 = true) :
  WP 124 xF1 none 165 0 [some (.inr (.inr (some a0))), o1, o2, o3, o4] [] D Q =
  (((0 : Int) ≤ 0 ∧ 0 < (640 : Int)) ∧ (xinP (7 * (D (a0 + 3) 0))) ∧ (xinP (30 + (7 * (D (a0 + 3) 0)))) ∧ WP 124 xF1 none 161 0 [some (.inr (.inr (some a0)))] [] D (fun v D9 => WP 124 xF1 none 165 17 [some (.inr (.inr (some a0))), some (.inl (30 + (7 * (D (a0 + 3) 0)))), o2, o3, o4] (v.toList ++ []) D9 Q)) :=
  (WP.kI rfl).trans <| (WP.kI rfl).trans <| (WP.ldR rfl rfl).trans <| (WP.getR (b := (a0 + 3)) rfl ha0 rfl rfl).trans <| (WP.kI rfl).trans <| (WP.iald rfl (so_10_2 ha0)).trans <| cn_eq ((WP.imul rfl).trans <| cn_eq ((WP.iadd rfl).trans <| cn_eq ((WP.stI rfl rfl).trans <| (WP.ldR rfl rfl).trans <| WP.call rfl rfl (crv (r := xrecv 124 161 [.inr (.inr (some a0))]) ha0 rfl rfl rfl) rfl)))
theorem seg165_17 (a0 : Nat) (x1 : Int) (o2 : Option xv) (o3 : Option xv) (o4 : Option xv) (s0 : Int) (D : xD) (Q : Option xv → xD → Prop) (ha0 : xisO 124 a0 10 = true) :
  WP 124 xF1 none 165 17 [some (.inr (.inr (some a0))), some (.inl x1), o2, o3, o4] [.inl s0] D Q =
  ((0 ≤ s0 → WP 124 xF1 none 157 0 [some (.inr (.inr (some a0))), none] [] D (fun v D9 => WP 124 xF1 none 165 28 [some (.inr (.inr (some a0))), some (.inl x1), some (.inl s0), o3, o4] (v.toList ++ []) D9 Q)) ∧ (¬ (0 ≤ s0) → Q (some (.inl 1)) D)) :=
  (WP.stI rfl rfl).trans <| (WP.ldI rfl rfl).trans <| (WP.if3 rfl).trans <| br_eq ((WP.ldR rfl rfl).trans <| WP.call rfl rfl (crv (r := xrecv 124 157 [.inr (.inr (some a0))]) ha0 rfl rfl rfl) rfl) ((WP.kI rfl).trans <| WP.ret rfl rfl)
theorem seg165_28 (a0 : Nat) (x1 : Int) (x2 : Int) (o3 : Option xv) (o4 : Option xv) (D : xD) (Q : Option xv → xD → Prop) (ha0 : xisO 124 a0 10 = true) :
  WP 124 xF1 none 165 28 [some (.inr (.inr (some a0))), some (.inl x1), some (.inl x2), o3, o4] [] D Q =
  (WP 124 xF1 none 161 0 [some (.inr (.inr (some a0)))] [] D (fun v D9 => WP 124 xF1 none 165 32 [some (.inr (.inr (some a0))), some (.inl x1), some (.inl x2), o3, o4] (v.toList ++ []) D9 Q)) :=
  (WP.ldR rfl rfl).trans <| WP.call rfl rfl (crv (r := xrecv 124 161 [.inr (.inr (some a0))]) ha0 rfl rfl rfl) rfl
theorem seg165_32 (a0 : Nat) (x1 : Int) (x2 : Int) (o3 : Option xv) (o4 : Option xv) (s0 : Int) (D : xD) (Q : Option xv → xD → Prop) (ha0 : xisO 124 a0 10 = true) :
  WP 124 xF1 none 165 32 [some (.inr (.inr (some a0))), some (.inl x1), some (.inl x2), o3, o4] [.inl s0] D Q =
  ((0 ≤ s0 → (x2 ≠ s0 → ((0 : Int) ≤ x1 ∧ x1 < (640 : Int)) ∧ (xinP (x1 + 1)) ∧ ((0 : Int) ≤ (x1 + 1) ∧ (x1 + 1) < (640 : Int)) ∧ (xinP (x1 + 4)) ∧ ((0 : Int) ≤ (x1 + 4) ∧ (x1 + 4) < (640 : Int)) ∧ (xinP (x1 + 5)) ∧ ((0 : Int) ≤ (x1 + 5) ∧ (x1 + 5) < (640 : Int)) ∧ (xinP (x1 + 6)) ∧ ((0 : Int) ≤ (x1 + 6) ∧ (x1 + 6) < (640 : Int)) ∧ WP 124 xF1 none 157 0 [some (.inr (.inr (some a0))), none] [] (xup (xup (xup (xup (xup D (a0 + 3) x1 x2) (a0 + 3) (x1 + 1) s0) (a0 + 3) (x1 + 4) 0) (a0 + 3) (x1 + 5) 12) (a0 + 3) (x1 + 6) 0) (fun v D9 => WP 124 xF1 none 165 95 [some (.inr (.inr (some a0))), some (.inl x1), some (.inl x2), some (.inl s0), o4] (v.toList ++ []) D9 Q)) ∧ (¬ (x2 ≠ s0) → Q (some (.inl 3)) D)) ∧ (¬ (0 ≤ s0) → Q (some (.inl 1)) D)) :=
  (WP.stI rfl rfl).trans <| (WP.ldI rfl rfl).trans <| (WP.if3 rfl).trans <| br_eq ((WP.ldI rfl rfl).trans <| (WP.ldI rfl rfl).trans <| (WP.ic1 rfl).trans <| br_eq ((WP.ldR rfl rfl).trans <| (WP.getR (b := (a0 + 3)) rfl ha0 rfl rfl).trans <| (WP.ldI rfl rfl).trans <| (WP.ldI rfl rfl).trans <| (WP.iast rfl (so_10_2 ha0)).trans <| cn_eq ((WP.ldR rfl rfl).trans <| (WP.getR (b := (a0 + 3)) rfl ha0 rfl rfl).trans <| (WP.ldI rfl rfl).trans <| (WP.kI rfl).trans <| (WP.iadd rfl).trans <| cn_eq ((WP.ldI rfl rfl).trans <| (WP.iast rfl (so_10_2 ha0)).trans <| cn_eq ((WP.ldR rfl rfl).trans <| (WP.getR (b := (a0 + 3)) rfl ha0 rfl rfl).trans <| (WP.ldI rfl rfl).trans <| (WP.kI rfl).trans <| (WP.iadd rfl).trans <| cn_eq ((WP.kI rfl).trans <| (WP.iast rfl (so_10_2 ha0)).trans <| cn_eq ((WP.ldR rfl rfl).trans <| (WP.getR (b := (a0 + 3)) rfl ha0 rfl rfl).trans <| (WP.ldI rfl rfl).trans <| (WP.kI rfl).trans <| (WP.iadd rfl).trans <| cn_eq ((WP.kI rfl).trans <| (WP.iast rfl (so_10_2 ha0)).trans <| cn_eq ((WP.ldR rfl rfl).trans <| (WP.getR (b := (a0 + 3)) rfl ha0 rfl rfl).trans <| (WP.ldI rfl rfl).trans <| (WP.kI rfl).trans <| (WP.iadd rfl).trans <| cn_eq ((WP.kI rfl).trans <| (WP.iast rfl (so_10_2 ha0)).trans <| cn_eq ((WP.ldR rfl rfl).trans <| WP.call rfl rfl (crv (r := xrecv 124 157 [.inr (.inr (some a0))]) ha0 rfl rfl rfl) rfl)))))))))) ((WP.kI rfl).trans <| WP.ret rfl rfl)) ((WP.kI rfl).trans <| WP.ret rfl rfl)
theorem seg165_95 (a0 : Nat) (x1 : Int) (x2 : Int) (x3 : Int) (o4 : Option xv) (D : xD) (Q : Option xv → xD → Prop) (ha0 : xisO 124 a0 10 = true) :
  WP 124 xF1 none 165 95 [some (.inr (.inr (some a0))), some (.inl x1), some (.inl x2), some (.inl x3), o4] [] D Q =
  ((xinP (x1 + 2)) ∧ WP 124 xF1 none 162 0 [some (.inr (.inr (some a0))), some (.inl 1), some (.inl 5), some (.inl (x1 + 2))] [] D (fun v D9 => WP 124 xF1 none 165 104 [some (.inr (.inr (some a0))), some (.inl x1), some (.inl x2), some (.inl x3), o4] (v.toList ++ []) D9 Q)) :=
  (WP.ldR rfl rfl).trans <| (WP.kI rfl).trans <| (WP.kI rfl).trans <| (WP.ldI rfl rfl).trans <| (WP.kI rfl).trans <| (WP.iadd rfl).trans <| cn_eq (WP.call rfl rfl (crv (r := xrecv 124 162 [.inr (.inr (some a0)), .inl 1, .inl 5, .inl (x1 + 2)]) ha0 rfl rfl rfl) rfl)
theorem seg165_104 (a0 : Nat) (x1 : Int) (x2 : Int) (x3 : Int) (o4 : Option xv) (s0 : Int) (D : xD) (Q : Option xv → xD → Prop) (ha0 : xisO 124 a0 10 = true) :
  WP 124 xF1 none 165 104 [some (.inr (.inr (some a0))), some (.inl x1), some (.inl x2), some (.inl x3), o4] [.inl s0] D Q =
  ((s0 ≠ 0 → WP 124 xF1 none 165 123 [some (.inr (.inr (some a0))), some (.inl x1), some (.inl x2), some (.inl x3), some (.inl s0)] [] D Q) ∧ (¬ (s0 ≠ 0) → (xinP (x1 + 3)) ∧ WP 124 xF1 none 162 0 [some (.inr (.inr (some a0))), some (.inl 1), some (.inl 9), some (.inl (x1 + 3))] [] D (fun v D9 => WP 124 xF1 none 165 121 [some (.inr (.inr (some a0))), some (.inl x1), some (.inl x2), some (.inl x3), some (.inl s0)] (v.toList ++ []) D9 Q))) :=
  (WP.stI rfl rfl).trans <| (WP.ldI rfl rfl).trans <| (WP.if1 rfl).trans <| br_eq rfl ((WP.ldR rfl rfl).trans <| (WP.kI rfl).trans <| (WP.kI rfl).trans <| (WP.ldI rfl rfl).trans <| (WP.kI rfl).trans <| (WP.iadd rfl).trans <| cn_eq (WP.call rfl rfl (crv (r := xrecv 124 162 [.inr (.inr (some a0)), .inl 1, .inl 9, .inl (x1 + 3)]) ha0 rfl rfl rfl) rfl))
theorem seg165_121 (a0 : Nat) (x1 : Int) (x2 : Int) (x3 : Int) (x4 : Int) (s0 : Int) (D : xD) (Q : Option xv → xD → Prop) (ha0 : xisO 124 a0 10 = true) :
  WP 124 xF1 none 165 121 [some (.inr (.inr (some a0))), some (.inl x1), some (.inl x2), some (.inl x3), some (.inl x4)] [.inl s0] D Q =
  (WP 124 xF1 none 165 123 [some (.inr (.inr (some a0))), some (.inl x1), some (.inl x2), some (.inl x3), some (.inl s0)] [] D Q) :=
  WP.stI rfl rfl
theorem seg165_123 (a0 : Nat) (x1 : Int) (x2 : Int) (x3 : Int) (x4 : Int) (D : xD) (Q : Option xv → xD → Prop) (ha0 : xisO 124 a0 10 = true) :
  WP 124 xF1 none 165 123 [some (.inr (.inr (some a0))), some (.inl x1), some (.inl x2), some (.inl x3), some (.inl x4)] [] D Q =
  ((x4 ≠ 0 → WP 124 xF1 none 165 138 [some (.inr (.inr (some a0))), some (.inl x1), some (.inl x2), some (.inl x3), some (.inl x4)] [] D Q) ∧ (¬ (x4 ≠ 0) → ((0 : Int) ≤ 0 ∧ 0 < (640 : Int)) ∧ (xinP ((D (a0 + 3) 0) + 1)) ∧ ((0 : Int) ≤ 0 ∧ 0 < (640 : Int)) ∧ WP 124 xF1 none 165 138 [some (.inr (.inr (some a0))), some (.inl x1), some (.inl x2), some (.inl x3), some (.inl x4)] [] (xup D (a0 + 3) 0 ((D (a0 + 3) 0) + 1)) Q)) :=
  (WP.ldI rfl rfl).trans <| (WP.if1 rfl).trans <| br_eq rfl ((WP.ldR rfl rfl).trans <| (WP.getR (b := (a0 + 3)) rfl ha0 rfl rfl).trans <| (WP.kI rfl).trans <| (WP.dup2 rfl rfl rfl).trans <| (WP.iald rfl (so_10_2 ha0)).trans <| cn_eq ((WP.kI rfl).trans <| (WP.iadd rfl).trans <| cn_eq (WP.iast rfl (so_10_2 ha0))))
theorem seg165_138 (a0 : Nat) (x1 : Int) (x2 : Int) (x3 : Int) (x4 : Int) (D : xD) (Q : Option xv → xD → Prop) (ha0 : xisO 124 a0 10 = true) :
  WP 124 xF1 none 165 138 [some (.inr (.inr (some a0))), some (.inl x1), some (.inl x2), some (.inl x3), some (.inl x4)] [] D Q =
  (Q (some (.inl x4)) D) :=
  (WP.ldI rfl rfl).trans <| WP.ret rfl rfl
theorem seg166_0 (a0 : Nat) (o1 : Option xv) (o2 : Option xv) (D : xD) (Q : Option xv → xD → Prop) (ha0 : xisO 124 a0 10 = true) :
  WP 124 xF1 none 166 0 [some (.inr (.inr (some a0))), o1, o2] [] D Q =
  (((D a0 9) = 1 → ((0 : Int) ≤ 0 ∧ 0 < (640 : Int)) ∧ (xinP ((D (a0 + 3) 0) - 1)) ∧ WP 124 xF1 none 149 0 [some (.inl (D a0 10)), some (.inl 0), some (.inl ((D (a0 + 3) 0) - 1))] [] D (fun v D9 => WP 124 xF1 none 166 26 [some (.inr (.inr (some a0))), o1, o2] (v.toList ++ []) D9 Q)) ∧ (¬ ((D a0 9) = 1) → Q (some (.inl 1)) D)) :=
  (WP.ldR rfl rfl).trans <| (WP.getI rfl ha0).trans <| (WP.kI rfl).trans <| (WP.ic0 rfl).trans <| br_eq ((WP.ldR rfl rfl).trans <| (WP.getI rfl ha0).trans <| (WP.kI rfl).trans <| (WP.ldR rfl rfl).trans <| (WP.getR (b := (a0 + 3)) rfl ha0 rfl rfl).trans <| (WP.kI rfl).trans <| (WP.iald rfl (so_10_2 ha0)).trans <| cn_eq ((WP.kI rfl).trans <| (WP.isub rfl).trans <| cn_eq (WP.call rfl rfl rfl rfl))) ((WP.kI rfl).trans <| WP.ret rfl rfl)
theorem seg166_26 (a0 : Nat) (o1 : Option xv) (o2 : Option xv) (s0 : Int) (D : xD) (Q : Option xv → xD → Prop) (ha0 : xisO 124 a0 10 = true) :
  WP 124 xF1 none 166 26 [some (.inr (.inr (some a0))), o1, o2] [.inl s0] D Q =
  ((s0 ≠ 0 → ((iand (ishr (D a0 14) (D a0 10)) 1) ≠ 1 → (xinP (7 * (D a0 10))) ∧ (xinP (30 + (7 * (D a0 10)))) ∧ WP 124 xF1 none 157 0 [some (.inr (.inr (some a0))), none] [] (xup D a0 14 (ior (D a0 14) (ishl 1 (D a0 10)))) (fun v D9 => WP 124 xF1 none 166 78 [some (.inr (.inr (some a0))), some (.inl (30 + (7 * (D a0 10)))), o2] (v.toList ++ []) D9 Q)) ∧ (¬ ((iand (ishr (D a0 14) (D a0 10)) 1) ≠ 1) → Q (some (.inl 3)) D)) ∧ (¬ (s0 ≠ 0) → Q (some (.inl 2)) D)) :=
  (WP.if1 rfl).trans <| br_eq ((WP.ldR rfl rfl).trans <| (WP.getI rfl ha0).trans <| (WP.ldR rfl rfl).trans <| (WP.getI rfl ha0).trans <| (WP.ishr rfl).trans <| (WP.kI rfl).trans <| (WP.iand rfl).trans <| (WP.kI rfl).trans <| (WP.ic1 rfl).trans <| br_eq ((WP.ldR rfl rfl).trans <| (WP.dup rfl rfl).trans <| (WP.getI rfl ha0).trans <| (WP.kI rfl).trans <| (WP.ldR rfl rfl).trans <| (WP.getI rfl ha0).trans <| (WP.ishl rfl).trans <| (WP.ior rfl).trans <| (WP.putI rfl ha0).trans <| (WP.kI rfl).trans <| (WP.kI rfl).trans <| (WP.ldR rfl rfl).trans <| (WP.getI2 rfl ha0 (xr_k (by decide))).trans <| (WP.imul rfl).trans <| cn_eq ((WP.iadd rfl).trans <| cn_eq ((WP.stI rfl rfl).trans <| (WP.ldR rfl rfl).trans <| WP.call rfl rfl (crv (r := xrecv 124 157 [.inr (.inr (some a0))]) ha0 rfl rfl rfl) rfl))) ((WP.kI rfl).trans <| WP.ret rfl rfl)) ((WP.kI rfl).trans <| WP.ret rfl rfl)
theorem seg166_78 (a0 : Nat) (x1 : Int) (o2 : Option xv) (D : xD) (Q : Option xv → xD → Prop) (ha0 : xisO 124 a0 10 = true) :
  WP 124 xF1 none 166 78 [some (.inr (.inr (some a0))), some (.inl x1), o2] [] D Q =
  ((xinP (x1 + 4)) ∧ WP 124 xF1 none 162 0 [some (.inr (.inr (some a0))), some (.inl 0), some (.inl 12), some (.inl (x1 + 4))] [] D (fun v D9 => WP 124 xF1 none 166 88 [some (.inr (.inr (some a0))), some (.inl x1), o2] (v.toList ++ []) D9 Q)) :=
  (WP.ldR rfl rfl).trans <| (WP.kI rfl).trans <| (WP.kI rfl).trans <| (WP.ldI rfl rfl).trans <| (WP.kI rfl).trans <| (WP.iadd rfl).trans <| cn_eq (WP.call rfl rfl (crv (r := xrecv 124 162 [.inr (.inr (some a0)), .inl 0, .inl 12, .inl (x1 + 4)]) ha0 rfl rfl rfl) rfl)
theorem seg166_88 (a0 : Nat) (x1 : Int) (o2 : Option xv) (s0 : Int) (D : xD) (Q : Option xv → xD → Prop) (ha0 : xisO 124 a0 10 = true) :
  WP 124 xF1 none 166 88 [some (.inr (.inr (some a0))), some (.inl x1), o2] [.inl s0] D Q =
  ((s0 = 0 → (xinP (x1 + 4)) ∧ ((0 : Int) ≤ (x1 + 4) ∧ (x1 + 4) < (640 : Int)) ∧ (xinP (x1 + 5)) ∧ WP 124 xF1 none 162 0 [some (.inr (.inr (some a0))), some (.inl (D (a0 + 3) (x1 + 4))), some (.inl 12), some (.inl (x1 + 5))] [] D (fun v D9 => WP 124 xF1 none 166 114 [some (.inr (.inr (some a0))), some (.inl x1), some (.inl s0)] (v.toList ++ []) D9 Q)) ∧ (¬ (s0 = 0) → WP 124 xF1 none 166 114 [some (.inr (.inr (some a0))), some (.inl x1), some (.inl s0)] [.inl s0] D Q)) :=
  (WP.stI rfl rfl).trans <| (WP.ldI rfl rfl).trans <| (WP.if0 rfl).trans <| br_eq ((WP.ldR rfl rfl).trans <| (WP.ldR rfl rfl).trans <| (WP.getR (b := (a0 + 3)) rfl ha0 rfl rfl).trans <| (WP.ldI rfl rfl).trans <| (WP.kI rfl).trans <| (WP.iadd rfl).trans <| cn_eq ((WP.iald rfl (so_10_2 ha0)).trans <| cn_eq ((WP.kI rfl).trans <| (WP.ldI rfl rfl).trans <| (WP.kI rfl).trans <| (WP.iadd rfl).trans <| cn_eq (WP.call rfl rfl (crv (r := xrecv 124 162 [.inr (.inr (some a0)), .inl (D (a0 + 3) (x1 + 4)), .inl 12, .inl (x1 + 5)]) ha0 rfl rfl rfl) rfl)))) ((WP.ldI rfl rfl).trans <| WP.goto rfl)
theorem seg166_114 (a0 : Nat) (x1 : Int) (x2 : Int) (s0 : Int) (D : xD) (Q : Option xv → xD → Prop) (ha0 : xisO 124 a0 10 = true) :
  WP 124 xF1 none 166 114 [some (.inr (.inr (some a0))), some (.inl x1), some (.inl x2)] [.inl s0] D Q =
  (Q (some (.inl s0)) D) :=
  WP.ret rfl rfl
theorem seg167_0 (a0 : Nat) (o1 : Option xv) (D : xD) (Q : Option xv → xD → Prop) (ha0 : xisO 124 a0 10 = true) :
  WP 124 xF1 none 167 0 [some (.inr (.inr (some a0))), o1] [] D Q =
  (((D a0 9) = 1 → ((0 : Int) ≤ 0 ∧ 0 < (640 : Int)) ∧ (xinP ((D (a0 + 3) 0) - 1)) ∧ WP 124 xF1 none 149 0 [some (.inl (D a0 10)), some (.inl 0), some (.inl ((D (a0 + 3) 0) - 1))] [] D (fun v D9 => WP 124 xF1 none 167 26 [some (.inr (.inr (some a0))), o1] (v.toList ++ []) D9 Q)) ∧ (¬ ((D a0 9) = 1) → Q (some (.inl 1)) D)) :=
  (WP.ldR rfl rfl).trans <| (WP.getI rfl ha0).trans <| (WP.kI rfl).trans <| (WP.ic0 rfl).trans <| br_eq ((WP.ldR rfl rfl).trans <| (WP.getI rfl ha0).trans <| (WP.kI rfl).trans <| (WP.ldR rfl rfl).trans <| (WP.getR (b := (a0 + 3)) rfl ha0 rfl rfl).trans <| (WP.kI rfl).trans <| (WP.iald rfl (so_10_2 ha0)).trans <| cn_eq ((WP.kI rfl).trans <| (WP.isub rfl).trans <| cn_eq (WP.call rfl rfl rfl rfl))) ((WP.kI rfl).trans <| WP.ret rfl rfl)
theorem seg167_26 (a0 : Nat) (o1 : Option xv) (s0 : Int) (D : xD) (Q : Option xv → xD → Prop) (ha0 : xisO 124 a0 10 = true) :
  WP 124 xF1 none 167 26 [some (.inr (.inr (some a0))), o1] [.inl s0] D Q =
  ((s0 ≠ 0 → (xinP (7 * (D a0 10))) ∧ (xinP (30 + (7 * (D a0 10)))) ∧ (xinP ((30 + (7 * (D a0 10))) + 6)) ∧ ((0 : Int) ≤ ((30 + (7 * (D a0 10))) + 6) ∧ ((30 + (7 * (D a0 10))) + 6) < (640 : Int)) ∧ ((D (a0 + 3) ((30 + (7 * (D a0 10))) + 6)) ≠ 1 → (xinP ((30 + (7 * (D a0 10))) + 6)) ∧ ((0 : Int) ≤ ((30 + (7 * (D a0 10))) + 6) ∧ ((30 + (7 * (D a0 10))) + 6) < (640 : Int)) ∧ ((0 : Int) ≤ 3 ∧ 3 < (640 : Int)) ∧ (xinP (((xup D (a0 + 3) ((30 + (7 * (D a0 10))) + 6) 1) (a0 + 3) 3) + 1)) ∧ ((0 : Int) ≤ 3 ∧ 3 < (640 : Int)) ∧ WP 124 xF1 none 157 0 [some (.inr (.inr (some a0))), none] [] (xup (xup D (a0 + 3) ((30 + (7 * (D a0 10))) + 6) 1) (a0 + 3) 3 (((xup D (a0 + 3) ((30 + (7 * (D a0 10))) + 6) 1) (a0 + 3) 3) + 1)) (fun v D9 => WP 124 xF1 none 167 81 [some (.inr (.inr (some a0))), some (.inl (30 + (7 * (D a0 10))))] (v.toList ++ []) D9 Q)) ∧ (¬ ((D (a0 + 3) ((30 + (7 * (D a0 10))) + 6)) ≠ 1) → Q (some (.inl 3)) D)) ∧ (¬ (s0 ≠ 0) → Q (some (.inl 2)) D)) :=
  (WP.if1 rfl).trans <| br_eq ((WP.kI rfl).trans <| (WP.kI rfl).trans <| (WP.ldR rfl rfl).trans <| (WP.getI rfl ha0).trans <| (WP.imul rfl).trans <| cn_eq ((WP.iadd rfl).trans <| cn_eq ((WP.stI rfl rfl).trans <| (WP.ldR rfl rfl).trans <| (WP.getR (b := (a0 + 3)) rfl ha0 rfl rfl).trans <| (WP.ldI rfl rfl).trans <| (WP.kI rfl).trans <| (WP.iadd rfl).trans <| cn_eq ((WP.iald rfl (so_10_2 ha0)).trans <| cn_eq ((WP.kI rfl).trans <| (WP.ic1 rfl).trans <| br_eq ((WP.ldR rfl rfl).trans <| (WP.getR (b := (a0 + 3)) rfl ha0 rfl rfl).trans <| (WP.ldI rfl rfl).trans <| (WP.kI rfl).trans <| (WP.iadd rfl).trans <| cn_eq ((WP.kI rfl).trans <| (WP.iast rfl (so_10_2 ha0)).trans <| cn_eq ((WP.ldR rfl rfl).trans <| (WP.getR (b := (a0 + 3)) rfl ha0 rfl rfl).trans <| (WP.kI rfl).trans <| (WP.dup2 rfl rfl rfl).trans <| (WP.iald rfl (so_10_2 ha0)).trans <| cn_eq ((WP.kI rfl).trans <| (WP.iadd rfl).trans <| cn_eq ((WP.iast rfl (so_10_2 ha0)).trans <| cn_eq ((WP.ldR rfl rfl).trans <| WP.call rfl rfl (crv (r := xrecv 124 157 [.inr (.inr (some a0))]) ha0 rfl rfl rfl) rfl)))))) ((WP.kI rfl).trans <| WP.ret rfl rfl)))))) ((WP.kI rfl).trans <| WP.ret rfl rfl)
theorem seg167_81 (a0 : Nat) (x1 : Int) (D : xD) (Q : Option xv → xD → Prop) (ha0 : xisO 124 a0 10 = true) :
  WP 124 xF1 none 167 81 [some (.inr (.inr (some a0))), some (.inl x1)] [] D Q =
  (Q (some (.inl 0)) D) :=
  (WP.kI rfl).trans <| WP.ret rfl rfl
theorem seg168_0 (a0 : Nat) (o1 : Option xv) (D : xD) (Q : Option xv → xD → Prop) (ha0 : xisO 124 a0 10 = true) :
  WP 124 xF1 none 168 0 [some (.inr (.inr (some a0))), o1] [] D Q =
  (((D a0 9) = 1 → ((0 : Int) ≤ 1 ∧ 1 < (640 : Int)) ∧ (xinP ((D (a0 + 3) 1) - 1)) ∧ WP 124 xF1 none 149 0 [some (.inl (D a0 10)), some (.inl 0), some (.inl ((D (a0 + 3) 1) - 1))] [] D (fun v D9 => WP 124 xF1 none 168 26 [some (.inr (.inr (some a0))), o1] (v.toList ++ []) D9 Q)) ∧ (¬ ((D a0 9) = 1) → Q (some (.inl 1)) D)) :=
  (WP.ldR rfl rfl).trans <| (WP.getI rfl ha0).trans <| (WP.kI rfl).trans <| (WP.ic0 rfl).trans <| br_eq ((WP.ldR rfl rfl).trans <| (WP.getI rfl ha0).trans <| (WP.kI rfl).trans <| (WP.ldR rfl rfl).trans <| (WP.getR (b := (a0 + 3)) rfl ha0 rfl rfl).trans <| (WP.kI rfl).trans <| (WP.iald rfl (so_10_2 ha0)).trans <| cn_eq ((WP.kI rfl).trans <| (WP.isub rfl).trans <| cn_eq (WP.call rfl rfl rfl rfl))) ((WP.kI rfl).trans <| WP.ret rfl rfl)
theorem seg168_26 (a0 : Nat) (o1 : Option xv) (s0 : Int) (D : xD) (Q : Option xv → xD → Prop) (ha0 : xisO 124 a0 10 = true) :
  WP 124 xF1 none 168 26 [some (.inr (.inr (some a0))), o1] [.inl s0] D Q =
  ((s0 ≠ 0 → (xinP (4 * (D a0 10))) ∧ (xinP (150 + (4 * (D a0 10)))) ∧ (xinP ((150 + (4 * (D a0 10))) + 3)) ∧ ((0 : Int) ≤ ((150 + (4 * (D a0 10))) + 3) ∧ ((150 + (4 * (D a0 10))) + 3) < (640 : Int)) ∧ ((D (a0 + 3) ((150 + (4 * (D a0 10))) + 3)) ≠ 1 → (xinP ((150 + (4 * (D a0 10))) + 3)) ∧ ((0 : Int) ≤ ((150 + (4 * (D a0 10))) + 3) ∧ ((150 + (4 * (D a0 10))) + 3) < (640 : Int)) ∧ ((0 : Int) ≤ 7 ∧ 7 < (640 : Int)) ∧ (xinP ((150 + (4 * (D a0 10))) + 2)) ∧ ((0 : Int) ≤ ((150 + (4 * (D a0 10))) + 2) ∧ ((150 + (4 * (D a0 10))) + 2) < (640 : Int)) ∧ (xinP (((xup D (a0 + 3) ((150 + (4 * (D a0 10))) + 3) 1) (a0 + 3) 7) + ((xup D (a0 + 3) ((150 + (4 * (D a0 10))) + 3) 1) (a0 + 3) ((150 + (4 * (D a0 10))) + 2)))) ∧ ((0 : Int) ≤ 7 ∧ 7 < (640 : Int)) ∧ WP 124 xF1 none 157 0 [some (.inr (.inr (some a0))), none] [] (xup (xup D (a0 + 3) ((150 + (4 * (D a0 10))) + 3) 1) (a0 + 3) 7 (((xup D (a0 + 3) ((150 + (4 * (D a0 10))) + 3) 1) (a0 + 3) 7) + ((xup D (a0 + 3) ((150 + (4 * (D a0 10))) + 3) 1) (a0 + 3) ((150 + (4 * (D a0 10))) + 2)))) (fun v D9 => WP 124 xF1 none 168 87 [some (.inr (.inr (some a0))), some (.inl (150 + (4 * (D a0 10))))] (v.toList ++ []) D9 Q)) ∧ (¬ ((D (a0 + 3) ((150 + (4 * (D a0 10))) + 3)) ≠ 1) → Q (some (.inl 3)) D)) ∧ (¬ (s0 ≠ 0) → Q (some (.inl 2)) D)) :=
  (WP.if1 rfl).trans <| br_eq ((WP.kI rfl).trans <| (WP.kI rfl).trans <| (WP.ldR rfl rfl).trans <| (WP.getI rfl ha0).trans <| (WP.imul rfl).trans <| cn_eq ((WP.iadd rfl).trans <| cn_eq ((WP.stI rfl rfl).trans <| (WP.ldR rfl rfl).trans <| (WP.getR (b := (a0 + 3)) rfl ha0 rfl rfl).trans <| (WP.ldI rfl rfl).trans <| (WP.kI rfl).trans <| (WP.iadd rfl).trans <| cn_eq ((WP.iald rfl (so_10_2 ha0)).trans <| cn_eq ((WP.kI rfl).trans <| (WP.ic1 rfl).trans <| br_eq ((WP.ldR rfl rfl).trans <| (WP.getR (b := (a0 + 3)) rfl ha0 rfl rfl).trans <| (WP.ldI rfl rfl).trans <| (WP.kI rfl).trans <| (WP.iadd rfl).trans <| cn_eq ((WP.kI rfl).trans <| (WP.iast rfl (so_10_2 ha0)).trans <| cn_eq ((WP.ldR rfl rfl).trans <| (WP.getR (b := (a0 + 3)) rfl ha0 rfl rfl).trans <| (WP.kI rfl).trans <| (WP.dup2 rfl rfl rfl).trans <| (WP.iald rfl (so_10_2 ha0)).trans <| cn_eq ((WP.ldR rfl rfl).trans <| (WP.getR (b := (a0 + 3)) rfl ha0 rfl rfl).trans <| (WP.ldI rfl rfl).trans <| (WP.kI rfl).trans <| (WP.iadd rfl).trans <| cn_eq ((WP.iald rfl (so_10_2 ha0)).trans <| cn_eq ((WP.iadd rfl).trans <| cn_eq ((WP.iast rfl (so_10_2 ha0)).trans <| cn_eq ((WP.ldR rfl rfl).trans <| WP.call rfl rfl (crv (r := xrecv 124 157 [.inr (.inr (some a0))]) ha0 rfl rfl rfl) rfl)))))))) ((WP.kI rfl).trans <| WP.ret rfl rfl)))))) ((WP.kI rfl).trans <| WP.ret rfl rfl)
theorem seg168_87 (a0 : Nat) (x1 : Int) (D : xD) (Q : Option xv → xD → Prop) (ha0 : xisO 124 a0 10 = true) :
  WP 124 xF1 none 168 87 [some (.inr (.inr (some a0))), some (.inl x1)] [] D Q =
  (Q (some (.inl 0)) D) :=
  (WP.kI rfl).trans <| WP.ret rfl rfl
theorem seg169_0 (a0 : Nat) (o1 : Option xv) (o2 : Option xv) (o3 : Option xv) (D : xD) (Q : Option xv → xD → Prop) (ha0 : xisO 124 a0 10 = true) :
  WP 124 xF1 none 169 0 [some (.inr (.inr (some a0))), o1, o2, o3] [] D Q =
  (((0 : Int) ≤ 1 ∧ 1 < (640 : Int)) ∧ (xinP (4 * (D (a0 + 3) 1))) ∧ (xinP (150 + (4 * (D (a0 + 3) 1)))) ∧ WP 124 xF1 none 161 0 [some (.inr (.inr (some a0)))] [] D (fun v D9 => WP 124 xF1 none 169 17 [some (.inr (.inr (some a0))), some (.inl (150 + (4 * (D (a0 + 3) 1)))), o2, o3] (v.toList ++ []) D9 Q)) :=
  (WP.kI rfl).trans <| (WP.kI rfl).trans <| (WP.ldR rfl rfl).trans <| (WP.getR (b := (a0 + 3)) rfl ha0 rfl rfl).trans <| (WP.kI rfl).trans <| (WP.iald rfl (so_10_2 ha0)).trans <| cn_eq ((WP.imul rfl).trans <| cn_eq ((WP.iadd rfl).trans <| cn_eq ((WP.stI rfl rfl).trans <| (WP.ldR rfl rfl).trans <| WP.call rfl rfl (crv (r := xrecv 124 161 [.inr (.inr (some a0))]) ha0 rfl rfl rfl) rfl)))
theorem seg169_17 (a0 : Nat) (x1 : Int) (o2 : Option xv) (o3 : Option xv) (s0 : Int) (D : xD) (Q : Option xv → xD → Prop) (ha0 : xisO 124 a0 10 = true) :
  WP 124 xF1 none 169 17 [some (.inr (.inr (some a0))), some (.inl x1), o2, o3] [.inl s0] D Q =
  ((0 ≤ s0 → ((0 : Int) ≤ x1 ∧ x1 < (640 : Int)) ∧ WP 124 xF1 none 157 0 [some (.inr (.inr (some a0))), none] [] (xup D (a0 + 3) x1 s0) (fun v D9 => WP 124 xF1 none 169 35 [some (.inr (.inr (some a0))), some (.inl x1), some (.inl s0), o3] (v.toList ++ []) D9 Q)) ∧ (¬ (0 ≤ s0) → Q (some (.inl 1)) D)) :=
  (WP.stI rfl rfl).trans <| (WP.ldI rfl rfl).trans <| (WP.if3 rfl).trans <| br_eq ((WP.ldR rfl rfl).trans <| (WP.getR (b := (a0 + 3)) rfl ha0 rfl rfl).trans <| (WP.ldI rfl rfl).trans <| (WP.ldI rfl rfl).trans <| (WP.iast rfl (so_10_2 ha0)).trans <| cn_eq ((WP.ldR rfl rfl).trans <| WP.call rfl rfl (crv (r := xrecv 124 157 [.inr (.inr (some a0))]) ha0 rfl rfl rfl) rfl)) ((WP.kI rfl).trans <| WP.ret rfl rfl)
theorem seg169_35 (a0 : Nat) (x1 : Int) (x2 : Int) (o3 : Option xv) (D : xD) (Q : Option xv → xD → Prop) (ha0 : xisO 124 a0 10 = true) :
  WP 124 xF1 none 169 35 [some (.inr (.inr (some a0))), some (.inl x1), some (.inl x2), o3] [] D Q =
  ((xinP (x1 + 1)) ∧ WP 124 xF1 none 162 0 [some (.inr (.inr (some a0))), some (.inl 0), some (.inl 12), some (.inl (x1 + 1))] [] D (fun v D9 => WP 124 xF1 none 169 45 [some (.inr (.inr (some a0))), some (.inl x1), some (.inl x2), o3] (v.toList ++ []) D9 Q)) :=
  (WP.ldR rfl rfl).trans <| (WP.kI rfl).trans <| (WP.kI rfl).trans <| (WP.ldI rfl rfl).trans <| (WP.kI rfl).trans <| (WP.iadd rfl).trans <| cn_eq (WP.call rfl rfl (crv (r := xrecv 124 162 [.inr (.inr (some a0)), .inl 0, .inl 12, .inl (x1 + 1)]) ha0 rfl rfl rfl) rfl)
theorem seg169_45 (a0 : Nat) (x1 : Int) (x2 : Int) (o3 : Option xv) (s0 : Int) (D : xD) (Q : Option xv → xD → Prop) (ha0 : xisO 124 a0 10 = true) :
  WP 124 xF1 none 169 45 [some (.inr (.inr (some a0))), some (.inl x1), some (.inl x2), o3] [.inl s0] D Q =
  ((s0 = 0 → ((D a0 9) = 1 → WP 124 xF1 none 149 0 [some (.inl (D a0 10)), some (.inl 1), some (.inl 30)] [] D (fun v D9 => WP 124 xF1 none 169 72 [some (.inr (.inr (some a0))), some (.inl x1), some (.inl x2), some (.inl s0)] (v.toList ++ []) D9 Q)) ∧ (¬ ((D a0 9) = 1) → Q (some (.inl 1)) D)) ∧ (¬ (s0 = 0) → Q (some (.inl s0)) D)) :=
  (WP.stI rfl rfl).trans <| (WP.ldI rfl rfl).trans <| (WP.if0 rfl).trans <| br_eq ((WP.ldR rfl rfl).trans <| (WP.getI rfl ha0).trans <| (WP.kI rfl).trans <| (WP.ic0 rfl).trans <| br_eq ((WP.ldR rfl rfl).trans <| (WP.getI rfl ha0).trans <| (WP.kI rfl).trans <| (WP.kI rfl).trans <| WP.call rfl rfl rfl rfl) ((WP.kI rfl).trans <| WP.ret rfl rfl)) ((WP.ldI rfl rfl).trans <| WP.ret rfl rfl)
theorem seg169_72 (a0 : Nat) (x1 : Int) (x2 : Int) (x3 : Int) (s0 : Int) (D : xD) (Q : Option xv → xD → Prop) (ha0 : xisO 124 a0 10 = true) :
  WP 124 xF1 none 169 72 [some (.inr (.inr (some a0))), some (.inl x1), some (.inl x2), some (.inl x3)] [.inl s0] D Q =
  ((s0 ≠ 0 → ((0 : Int) ≤ 2 ∧ 2 < (640 : Int)) ∧ (xinP ((D (a0 + 3) 2) + (D a0 10))) ∧ (((D (a0 + 3) 2) + (D a0 10)) ≤ 99 → (xinP (x1 + 2)) ∧ ((0 : Int) ≤ (x1 + 2) ∧ (x1 + 2) < (640 : Int)) ∧ ((0 : Int) ≤ 2 ∧ 2 < (640 : Int)) ∧ (xinP (((xup D (a0 + 3) (x1 + 2) (D a0 10)) (a0 + 3) 2) + (D a0 10))) ∧ ((0 : Int) ≤ 2 ∧ 2 < (640 : Int)) ∧ ((0 : Int) ≤ 1 ∧ 1 < (640 : Int)) ∧ (xinP (((xup D (a0 + 3) (x1 + 2) (D a0 10)) (a0 + 3) 1) + 1)) ∧ ((0 : Int) ≤ 1 ∧ 1 < (640 : Int)) ∧ WP 124 xF1 none 157 0 [some (.inr (.inr (some a0))), none] [] (xup (xup (xup D (a0 + 3) (x1 + 2) (D a0 10)) (a0 + 3) 2 (((xup D (a0 + 3) (x1 + 2) (D a0 10)) (a0 + 3) 2) + (D a0 10))) (a0 + 3) 1 (((xup D (a0 + 3) (x1 + 2) (D a0 10)) (a0 + 3) 1) + 1)) (fun v D9 => WP 124 xF1 none 169 134 [some (.inr (.inr (some a0))), some (.inl x1), some (.inl x2), some (.inl x3)] (v.toList ++ []) D9 Q)) ∧ (¬ (((D (a0 + 3) 2) + (D a0 10)) ≤ 99) → Q (some (.inl 4)) D)) ∧ (¬ (s0 ≠ 0) → Q (some (.inl 2)) D)) :=
  (WP.if1 rfl).trans <| br_eq ((WP.ldR rfl rfl).trans <| (WP.getR (b := (a0 + 3)) rfl ha0 rfl rfl).trans <| (WP.kI rfl).trans <| (WP.iald rfl (so_10_2 ha0)).trans <| cn_eq ((WP.ldR rfl rfl).trans <| (WP.getI rfl ha0).trans <| (WP.iadd rfl).trans <| cn_eq ((WP.kI rfl).trans <| (WP.ic5 rfl).trans <| br_eq ((WP.ldR rfl rfl).trans <| (WP.getR (b := (a0 + 3)) rfl ha0 rfl rfl).trans <| (WP.ldI rfl rfl).trans <| (WP.kI rfl).trans <| (WP.iadd rfl).trans <| cn_eq ((WP.ldR rfl rfl).trans <| (WP.getI rfl ha0).trans <| (WP.iast rfl (so_10_2 ha0)).trans <| cn_eq ((WP.ldR rfl rfl).trans <| (WP.getR (b := (a0 + 3)) rfl ha0 rfl rfl).trans <| (WP.kI rfl).trans <| (WP.dup2 rfl rfl rfl).trans <| (WP.iald rfl (so_10_2 ha0)).trans <| cn_eq ((WP.ldR rfl rfl).trans <| (WP.getI2 rfl ha0 (xr_n (by omega))).trans <| (WP.iadd rfl).trans <| cn_eq ((WP.iast rfl (so_10_2 ha0)).trans <| cn_eq ((WP.ldR rfl rfl).trans <| (WP.getR (b := (a0 + 3)) rfl ha0 rfl rfl).trans <| (WP.kI rfl).trans <| (WP.dup2 rfl rfl rfl).trans <| (WP.iald2 rfl (so_10_2 ha0) (xr_k (by decide))).trans <| cn_eq ((WP.kI rfl).trans <| (WP.iadd rfl).trans <| cn_eq ((WP.iast rfl (so_10_2 ha0)).trans <| cn_eq ((WP.ldR rfl rfl).trans <| WP.call rfl rfl (crv (r := xrecv 124 157 [.inr (.inr (some a0))]) ha0 rfl rfl rfl) rfl))))))))) ((WP.kI rfl).trans <| WP.ret rfl rfl)))) ((WP.kI rfl).trans <| WP.ret rfl rfl)
theorem seg169_134 (a0 : Nat) (x1 : Int) (x2 : Int) (x3 : Int) (D : xD) (Q : Option xv → xD → Prop) (ha0 : xisO 124 a0 10 = true) :
  WP 124 xF1 none 169 134 [some (.inr (.inr (some a0))), some (.inl x1), some (.inl x2), some (.inl x3)] [] D Q =
  (Q (some (.inl 0)) D) :=
  (WP.kI rfl).trans <| WP.ret rfl rfl
theorem seg170_0 (a0 : Nat) (o1 : Option xv) (o2 : Option xv) (o3 : Option xv) (o4 : Option xv) (o5 : Option xv) (o6 : Option xv) (o7 : Option xv) (o8 : Option xv) (D : xD) (Q : Option xv → xD → Prop) (ha0 : xisO 124 a0 10 = true) :
  WP 124 xF1 none 170 0 [some (.inr (.inr (some a0))), o1, o2, o3, o4, o5, o6, o7, o8] [] D Q =
  (WP 124 xF1 none 158 0 [some (.inl 104), some (.inl 111), some (.inl 108), some (.inl 100)] [] D (fun v D9 => WP 124 xF1 none 170 12 [some (.inr (.inr (some a0))), o1, o2, o3, o4, o5, o6, o7, o8] (v.toList ++ [.inr (.inr (some a0))]) D9 Q)) :=
  (WP.ldR rfl rfl).trans <| (WP.kI rfl).trans <| (WP.kI rfl).trans <| (WP.kI rfl).trans <| (WP.kI rfl).trans <| WP.call rfl rfl rfl rfl
theorem seg170_12 (a0 : Nat) (o1 : Option xv) (o2 : Option xv) (o3 : Option xv) (o4 : Option xv) (o5 : Option xv) (o6 : Option xv) (o7 : Option xv) (o8 : Option xv) (v0 : Int) (b1 : Nat) (D : xD) (Q : Option xv → xD → Prop) (ha0 : xisO 124 a0 10 = true) (hb1 : xisO 124 b1 10 = true) :
  WP 124 xF1 none 170 12 [some (.inr (.inr (some a0))), o1, o2, o3, o4, o5, o6, o7, o8] [.inr (.inl v0), .inr (.inr (some b1))] D Q =
  (WP 124 xF1 none 160 0 [some (.inr (.inr (some b1))), some (.inr (.inl v0)), none] [] D (fun v D9 => WP 124 xF1 none 170 15 [some (.inr (.inr (some a0))), o1, o2, o3, o4, o5, o6, o7, o8] (v.toList ++ []) D9 Q)) :=
  WP.call rfl rfl (crv (r := xrecv 124 160 [.inr (.inr (some b1)), .inr (.inl v0)]) hb1 rfl rfl rfl) rfl
theorem seg170_15 (a0 : Nat) (o1 : Option xv) (o2 : Option xv) (o3 : Option xv) (o4 : Option xv) (o5 : Option xv) (o6 : Option xv) (o7 : Option xv) (o8 : Option xv) (s0 : Int) (D : xD) (Q : Option xv → xD → Prop) (ha0 : xisO 124 a0 10 = true) :
  WP 124 xF1 none 170 15 [some (.inr (.inr (some a0))), o1, o2, o3, o4, o5, o6, o7, o8] [.inl s0] D Q =
  (WP 124 xF1 none 158 0 [some (.inl 115), some (.inl 97), some (.inl 102), some (.inl 101)] [] D (fun v D9 => WP 124 xF1 none 170 28 [some (.inr (.inr (some a0))), some (.inl s0), o2, o3, o4, o5, o6, o7, o8] (v.toList ++ [.inr (.inr (some a0))]) D9 Q)) :=
  (WP.stI rfl rfl).trans <| (WP.ldR rfl rfl).trans <| (WP.kI rfl).trans <| (WP.kI rfl).trans <| (WP.kI rfl).trans <| (WP.kI rfl).trans <| WP.call rfl rfl rfl rfl
theorem seg170_28 (a0 : Nat) (x1 : Int) (o2 : Option xv) (o3 : Option xv) (o4 : Option xv) (o5 : Option xv) (o6 : Option xv) (o7 : Option xv) (o8 : Option xv) (v0 : Int) (b1 : Nat) (D : xD) (Q : Option xv → xD → Prop) (ha0 : xisO 124 a0 10 = true) (hb1 : xisO 124 b1 10 = true) :
  WP 124 xF1 none 170 28 [some (.inr (.inr (some a0))), some (.inl x1), o2, o3, o4, o5, o6, o7, o8] [.inr (.inl v0), .inr (.inr (some b1))] D Q =
  (WP 124 xF1 none 160 0 [some (.inr (.inr (some b1))), some (.inr (.inl v0)), none] [] D (fun v D9 => WP 124 xF1 none 170 31 [some (.inr (.inr (some a0))), some (.inl x1), o2, o3, o4, o5, o6, o7, o8] (v.toList ++ []) D9 Q)) :=
  WP.call rfl rfl (crv (r := xrecv 124 160 [.inr (.inr (some b1)), .inr (.inl v0)]) hb1 rfl rfl rfl) rfl
theorem seg170_31 (a0 : Nat) (x1 : Int) (o2 : Option xv) (o3 : Option xv) (o4 : Option xv) (o5 : Option xv) (o6 : Option xv) (o7 : Option xv) (o8 : Option xv) (s0 : Int) (D : xD) (Q : Option xv → xD → Prop) (ha0 : xisO 124 a0 10 = true) :
  WP 124 xF1 none 170 31 [some (.inr (.inr (some a0))), some (.inl x1), o2, o3, o4, o5, o6, o7, o8] [.inl s0] D Q =
  (WP 124 xF1 none 159 0 [some (.inl 115), some (.inl 116), some (.inl 114), some (.inl 101), some (.inl 101)] [] D (fun v D9 => WP 124 xF1 none 170 46 [some (.inr (.inr (some a0))), some (.inl x1), some (.inl s0), o3, o4, o5, o6, o7, o8] (v.toList ++ [.inr (.inr (some a0))]) D9 Q)) :=
  (WP.stI rfl rfl).trans <| (WP.ldR rfl rfl).trans <| (WP.kI rfl).trans <| (WP.kI rfl).trans <| (WP.kI rfl).trans <| (WP.kI rfl).trans <| (WP.kI rfl).trans <| WP.call rfl rfl rfl rfl
theorem seg170_46 (a0 : Nat) (x1 : Int) (x2 : Int) (o3 : Option xv) (o4 : Option xv) (o5 : Option xv) (o6 : Option xv) (o7 : Option xv) (o8 : Option xv) (v0 : Int) (b1 : Nat) (D : xD) (Q : Option xv → xD → Prop) (ha0 : xisO 124 a0 10 = true) (hb1 : xisO 124 b1 10 = true) :
  WP 124 xF1 none 170 46 [some (.inr (.inr (some a0))), some (.inl x1), some (.inl x2), o3, o4, o5, o6, o7, o8] [.inr (.inl v0), .inr (.inr (some b1))] D Q =
  (WP 124 xF1 none 160 0 [some (.inr (.inr (some b1))), some (.inr (.inl (lor (lshl v0 8) 116))), none] [] D (fun v D9 => WP 124 xF1 none 170 56 [some (.inr (.inr (some a0))), some (.inl x1), some (.inl x2), o3, o4, o5, o6, o7, o8] (v.toList ++ []) D9 Q)) :=
  (WP.kI rfl).trans <| (WP.lshl rfl).trans <| (WP.kL rfl).trans <| (WP.lor rfl).trans <| WP.call rfl rfl (crv (r := xrecv 124 160 [.inr (.inr (some b1)), .inr (.inl (lor (lshl v0 8) 116))]) hb1 rfl rfl rfl) rfl
theorem seg170_56 (a0 : Nat) (x1 : Int) (x2 : Int) (o3 : Option xv) (o4 : Option xv) (o5 : Option xv) (o6 : Option xv) (o7 : Option xv) (o8 : Option xv) (s0 : Int) (D : xD) (Q : Option xv → xD → Prop) (ha0 : xisO 124 a0 10 = true) :
  WP 124 xF1 none 170 56 [some (.inr (.inr (some a0))), some (.inl x1), some (.inl x2), o3, o4, o5, o6, o7, o8] [.inl s0] D Q =
  (WP 124 xF1 none 158 0 [some (.inl 111), some (.inl 112), some (.inl 101), some (.inl 110)] [] D (fun v D9 => WP 124 xF1 none 170 69 [some (.inr (.inr (some a0))), some (.inl x1), some (.inl x2), some (.inl s0), o4, o5, o6, o7, o8] (v.toList ++ [.inr (.inr (some a0))]) D9 Q)) :=
  (WP.stI rfl rfl).trans <| (WP.ldR rfl rfl).trans <| (WP.kI rfl).trans <| (WP.kI rfl).trans <| (WP.kI rfl).trans <| (WP.kI rfl).trans <| WP.call rfl rfl rfl rfl
theorem seg170_69 (a0 : Nat) (x1 : Int) (x2 : Int) (x3 : Int) (o4 : Option xv) (o5 : Option xv) (o6 : Option xv) (o7 : Option xv) (o8 : Option xv) (v0 : Int) (b1 : Nat) (D : xD) (Q : Option xv → xD → Prop) (ha0 : xisO 124 a0 10 = true) (hb1 : xisO 124 b1 10 = true) :
  WP 124 xF1 none 170 69 [some (.inr (.inr (some a0))), some (.inl x1), some (.inl x2), some (.inl x3), o4, o5, o6, o7, o8] [.inr (.inl v0), .inr (.inr (some b1))] D Q =
  (WP 124 xF1 none 160 0 [some (.inr (.inr (some b1))), some (.inr (.inl v0)), none] [] D (fun v D9 => WP 124 xF1 none 170 72 [some (.inr (.inr (some a0))), some (.inl x1), some (.inl x2), some (.inl x3), o4, o5, o6, o7, o8] (v.toList ++ []) D9 Q)) :=
  WP.call rfl rfl (crv (r := xrecv 124 160 [.inr (.inr (some b1)), .inr (.inl v0)]) hb1 rfl rfl rfl) rfl
theorem seg170_72 (a0 : Nat) (x1 : Int) (x2 : Int) (x3 : Int) (o4 : Option xv) (o5 : Option xv) (o6 : Option xv) (o7 : Option xv) (o8 : Option xv) (s0 : Int) (D : xD) (Q : Option xv → xD → Prop) (ha0 : xisO 124 a0 10 = true) :
  WP 124 xF1 none 170 72 [some (.inr (.inr (some a0))), some (.inl x1), some (.inl x2), some (.inl x3), o4, o5, o6, o7, o8] [.inl s0] D Q =
  (WP 124 xF1 none 159 0 [some (.inl 116), some (.inl 117), some (.inl 114), some (.inl 110), some (.inl 115)] [] D (fun v D9 => WP 124 xF1 none 170 88 [some (.inr (.inr (some a0))), some (.inl x1), some (.inl x2), some (.inl x3), some (.inl s0), o5, o6, o7, o8] (v.toList ++ [.inr (.inr (some a0))]) D9 Q)) :=
  (WP.stI rfl rfl).trans <| (WP.ldR rfl rfl).trans <| (WP.kI rfl).trans <| (WP.kI rfl).trans <| (WP.kI rfl).trans <| (WP.kI rfl).trans <| (WP.kI rfl).trans <| WP.call rfl rfl rfl rfl
theorem seg170_88 (a0 : Nat) (x1 : Int) (x2 : Int) (x3 : Int) (x4 : Int) (o5 : Option xv) (o6 : Option xv) (o7 : Option xv) (o8 : Option xv) (v0 : Int) (b1 : Nat) (D : xD) (Q : Option xv → xD → Prop) (ha0 : xisO 124 a0 10 = true) (hb1 : xisO 124 b1 10 = true) :
  WP 124 xF1 none 170 88 [some (.inr (.inr (some a0))), some (.inl x1), some (.inl x2), some (.inl x3), some (.inl x4), o5, o6, o7, o8] [.inr (.inl v0), .inr (.inr (some b1))] D Q =
  (WP 124 xF1 none 160 0 [some (.inr (.inr (some b1))), some (.inr (.inl v0)), none] [] D (fun v D9 => WP 124 xF1 none 170 91 [some (.inr (.inr (some a0))), some (.inl x1), some (.inl x2), some (.inl x3), some (.inl x4), o5, o6, o7, o8] (v.toList ++ []) D9 Q)) :=
  WP.call rfl rfl (crv (r := xrecv 124 160 [.inr (.inr (some b1)), .inr (.inl v0)]) hb1 rfl rfl rfl) rfl
theorem seg170_91 (a0 : Nat) (x1 : Int) (x2 : Int) (x3 : Int) (x4 : Int) (o5 : Option xv) (o6 : Option xv) (o7 : Option xv) (o8 : Option xv) (s0 : Int) (D : xD) (Q : Option xv → xD → Prop) (ha0 : xisO 124 a0 10 = true) :
  WP 124 xF1 none 170 91 [some (.inr (.inr (some a0))), some (.inl x1), some (.inl x2), some (.inl x3), some (.inl x4), o5, o6, o7, o8] [.inl s0] D Q =
  (WP 124 xF1 none 158 0 [some (.inl 100), some (.inl 111), some (.inl 111), some (.inl 114)] [] D (fun v D9 => WP 124 xF1 none 170 105 [some (.inr (.inr (some a0))), some (.inl x1), some (.inl x2), some (.inl x3), some (.inl x4), some (.inl s0), o6, o7, o8] (v.toList ++ [.inr (.inr (some a0))]) D9 Q)) :=
  (WP.stI rfl rfl).trans <| (WP.ldR rfl rfl).trans <| (WP.kI rfl).trans <| (WP.kI rfl).trans <| (WP.kI rfl).trans <| (WP.kI rfl).trans <| WP.call rfl rfl rfl rfl
theorem seg170_105 (a0 : Nat) (x1 : Int) (x2 : Int) (x3 : Int) (x4 : Int) (x5 : Int) (o6 : Option xv) (o7 : Option xv) (o8 : Option xv) (v0 : Int) (b1 : Nat) (D : xD) (Q : Option xv → xD → Prop) (ha0 : xisO 124 a0 10 = true) (hb1 : xisO 124 b1 10 = true) :
  WP 124 xF1 none 170 105 [some (.inr (.inr (some a0))), some (.inl x1), some (.inl x2), some (.inl x3), some (.inl x4), some (.inl x5), o6, o7, o8] [.inr (.inl v0), .inr (.inr (some b1))] D Q =
  (WP 124 xF1 none 160 0 [some (.inr (.inr (some b1))), some (.inr (.inl v0)), none] [] D (fun v D9 => WP 124 xF1 none 170 108 [some (.inr (.inr (some a0))), some (.inl x1), some (.inl x2), some (.inl x3), some (.inl x4), some (.inl x5), o6, o7, o8] (v.toList ++ []) D9 Q)) :=
  WP.call rfl rfl (crv (r := xrecv 124 160 [.inr (.inr (some b1)), .inr (.inl v0)]) hb1 rfl rfl rfl) rfl
theorem seg170_108 (a0 : Nat) (x1 : Int) (x2 : Int) (x3 : Int) (x4 : Int) (x5 : Int) (o6 : Option xv) (o7 : Option xv) (o8 : Option xv) (s0 : Int) (D : xD) (Q : Option xv → xD → Prop) (ha0 : xisO 124 a0 10 = true) :
  WP 124 xF1 none 170 108 [some (.inr (.inr (some a0))), some (.inl x1), some (.inl x2), some (.inl x3), some (.inl x4), some (.inl x5), o6, o7, o8] [.inl s0] D Q =
  (WP 124 xF1 none 158 0 [some (.inl 115), some (.inl 108), some (.inl 111), some (.inl 119)] [] D (fun v D9 => WP 124 xF1 none 170 122 [some (.inr (.inr (some a0))), some (.inl x1), some (.inl x2), some (.inl x3), some (.inl x4), some (.inl x5), some (.inl s0), o7, o8] (v.toList ++ [.inr (.inr (some a0))]) D9 Q)) :=
  (WP.stI rfl rfl).trans <| (WP.ldR rfl rfl).trans <| (WP.kI rfl).trans <| (WP.kI rfl).trans <| (WP.kI rfl).trans <| (WP.kI rfl).trans <| WP.call rfl rfl rfl rfl
theorem seg170_122 (a0 : Nat) (x1 : Int) (x2 : Int) (x3 : Int) (x4 : Int) (x5 : Int) (x6 : Int) (o7 : Option xv) (o8 : Option xv) (v0 : Int) (b1 : Nat) (D : xD) (Q : Option xv → xD → Prop) (ha0 : xisO 124 a0 10 = true) (hb1 : xisO 124 b1 10 = true) :
  WP 124 xF1 none 170 122 [some (.inr (.inr (some a0))), some (.inl x1), some (.inl x2), some (.inl x3), some (.inl x4), some (.inl x5), some (.inl x6), o7, o8] [.inr (.inl v0), .inr (.inr (some b1))] D Q =
  (WP 124 xF1 none 160 0 [some (.inr (.inr (some b1))), some (.inr (.inl v0)), none] [] D (fun v D9 => WP 124 xF1 none 170 125 [some (.inr (.inr (some a0))), some (.inl x1), some (.inl x2), some (.inl x3), some (.inl x4), some (.inl x5), some (.inl x6), o7, o8] (v.toList ++ []) D9 Q)) :=
  WP.call rfl rfl (crv (r := xrecv 124 160 [.inr (.inr (some b1)), .inr (.inl v0)]) hb1 rfl rfl rfl) rfl
theorem seg170_125 (a0 : Nat) (x1 : Int) (x2 : Int) (x3 : Int) (x4 : Int) (x5 : Int) (x6 : Int) (o7 : Option xv) (o8 : Option xv) (s0 : Int) (D : xD) (Q : Option xv → xD → Prop) (ha0 : xisO 124 a0 10 = true) :
  WP 124 xF1 none 170 125 [some (.inr (.inr (some a0))), some (.inl x1), some (.inl x2), some (.inl x3), some (.inl x4), some (.inl x5), some (.inl x6), o7, o8] [.inl s0] D Q =
  ((x1 ≠ 0 → WP 124 xF1 none 170 161 [some (.inr (.inr (some a0))), some (.inl x1), some (.inl x2), some (.inl x3), some (.inl x4), some (.inl x5), some (.inl x6), some (.inl s0), o8] [] D Q) ∧ (¬ (x1 ≠ 0) → (x2 ≠ 0 → WP 124 xF1 none 170 161 [some (.inr (.inr (some a0))), some (.inl x1), some (.inl x2), some (.inl x3), some (.inl x4), some (.inl x5), some (.inl x6), some (.inl s0), o8] [] D Q) ∧ (¬ (x2 ≠ 0) → (x3 ≠ 0 → WP 124 xF1 none 170 161 [some (.inr (.inr (some a0))), some (.inl x1), some (.inl x2), some (.inl x3), some (.inl x4), some (.inl x5), some (.inl x6), some (.inl s0), o8] [] D Q) ∧ (¬ (x3 ≠ 0) → (x4 ≠ 0 → WP 124 xF1 none 170 161 [some (.inr (.inr (some a0))), some (.inl x1), some (.inl x2), some (.inl x3), some (.inl x4), some (.inl x5), some (.inl x6), some (.inl s0), o8] [] D Q) ∧ (¬ (x4 ≠ 0) → (x5 ≠ 0 → WP 124 xF1 none 170 161 [some (.inr (.inr (some a0))), some (.inl x1), some (.inl x2), some (.inl x3), some (.inl x4), some (.inl x5), some (.inl x6), some (.inl s0), o8] [] D Q) ∧ (¬ (x5 ≠ 0) → (x6 ≠ 0 → WP 124 xF1 none 170 161 [some (.inr (.inr (some a0))), some (.inl x1), some (.inl x2), some (.inl x3), some (.inl x4), some (.inl x5), some (.inl x6), some (.inl s0), o8] [] D Q) ∧ (¬ (x6 ≠ 0) → (s0 ≠ 0 → WP 124 xF1 none 170 161 [some (.inr (.inr (some a0))), some (.inl x1), some (.inl x2), some (.inl x3), some (.inl x4), some (.inl x5), some (.inl x6), some (.inl s0), o8] [] D Q) ∧ (¬ (s0 ≠ 0) → Q (some (.inl 1)) D)))))))) :=
  (WP.stI rfl rfl).trans <| (WP.ldI rfl rfl).trans <| (WP.if1 rfl).trans <| br_eq rfl ((WP.ldI rfl rfl).trans <| (WP.if1 rfl).trans <| br_eq rfl ((WP.ldI rfl rfl).trans <| (WP.if1 rfl).trans <| br_eq rfl ((WP.ldI rfl rfl).trans <| (WP.if1 rfl).trans <| br_eq rfl ((WP.ldI rfl rfl).trans <| (WP.if1 rfl).trans <| br_eq rfl ((WP.ldI rfl rfl).trans <| (WP.if1 rfl).trans <| br_eq rfl ((WP.ldI rfl rfl).trans <| (WP.if1 rfl).trans <| br_eq rfl ((WP.kI rfl).trans <| WP.ret rfl rfl)))))))
theorem seg170_161 (a0 : Nat) (x1 : Int) (x2 : Int) (x3 : Int) (x4 : Int) (x5 : Int) (x6 : Int) (x7 : Int) (o8 : Option xv) (D : xD) (Q : Option xv → xD → Prop) (ha0 : xisO 124 a0 10 = true) :
  WP 124 xF1 none 170 161 [some (.inr (.inr (some a0))), some (.inl x1), some (.inl x2), some (.inl x3), some (.inl x4), some (.inl x5), some (.inl x6), some (.inl x7), o8] [] D Q =
  ((x3 = 0 → WP 124 xF1 none 170 176 [some (.inr (.inr (some a0))), some (.inl x1), some (.inl x2), some (.inl x3), some (.inl x4), some (.inl x5), some (.inl x6), some (.inl x7), o8] [] D Q) ∧ (¬ (x3 = 0) → ((0 : Int) ≤ 0 ∧ 0 < (640 : Int)) ∧ ((D (a0 + 3) 0) = 16 → WP 124 xF1 none 170 207 [some (.inr (.inr (some a0))), some (.inl x1), some (.inl x2), some (.inl x3), some (.inl x4), some (.inl x5), some (.inl x6), some (.inl x7), o8] [] D Q) ∧ (¬ ((D (a0 + 3) 0) = 16) → WP 124 xF1 none 170 176 [some (.inr (.inr (some a0))), some (.inl x1), some (.inl x2), some (.inl x3), some (.inl x4), some (.inl x5), some (.inl x6), some (.inl x7), o8] [] D Q))) :=
  (WP.ldI rfl rfl).trans <| (WP.if0 rfl).trans <| br_eq rfl ((WP.ldR rfl rfl).trans <| (WP.getR (b := (a0 + 3)) rfl ha0 rfl rfl).trans <| (WP.kI rfl).trans <| (WP.iald rfl (so_10_2 ha0)).trans <| cn_eq ((WP.kI rfl).trans <| (WP.ic0 rfl).trans <| br_eq rfl rfl))
theorem seg170_176 (a0 : Nat) (x1 : Int) (x2 : Int) (x3 : Int) (x4 : Int) (x5 : Int) (x6 : Int) (x7 : Int) (o8 : Option xv) (D : xD) (Q : Option xv → xD → Prop) (ha0 : xisO 124 a0 10 = true) :
  WP 124 xF1 none 170 176 [some (.inr (.inr (some a0))), some (.inl x1), some (.inl x2), some (.inl x3), some (.inl x4), some (.inl x5), some (.inl x6), some (.inl x7), o8] [] D Q =
  ((x5 = 0 → WP 124 xF1 none 170 191 [some (.inr (.inr (some a0))), some (.inl x1), some (.inl x2), some (.inl x3), some (.inl x4), some (.inl x5), some (.inl x6), some (.inl x7), o8] [] D Q) ∧ (¬ (x5 = 0) → ((0 : Int) ≤ 3 ∧ 3 < (640 : Int)) ∧ ((D (a0 + 3) 3) = 5 → WP 124 xF1 none 170 207 [some (.inr (.inr (some a0))), some (.inl x1), some (.inl x2), some (.inl x3), some (.inl x4), some (.inl x5), some (.inl x6), some (.inl x7), o8] [] D Q) ∧ (¬ ((D (a0 + 3) 3) = 5) → WP 124 xF1 none 170 191 [some (.inr (.inr (some a0))), some (.inl x1), some (.inl x2), some (.inl x3), some (.inl x4), some (.inl x5), some (.inl x6), some (.inl x7), o8] [] D Q))) :=
  (WP.ldI rfl rfl).trans <| (WP.if0 rfl).trans <| br_eq rfl ((WP.ldR rfl rfl).trans <| (WP.getR (b := (a0 + 3)) rfl ha0 rfl rfl).trans <| (WP.kI rfl).trans <| (WP.iald rfl (so_10_2 ha0)).trans <| cn_eq ((WP.kI rfl).trans <| (WP.ic0 rfl).trans <| br_eq rfl rfl))
theorem seg170_191 (a0 : Nat) (x1 : Int) (x2 : Int) (x3 : Int) (x4 : Int) (x5 : Int) (x6 : Int) (x7 : Int) (o8 : Option xv) (D : xD) (Q : Option xv → xD → Prop) (ha0 : xisO 124 a0 10 = true) :
  WP 124 xF1 none 170 191 [some (.inr (.inr (some a0))), some (.inl x1), some (.inl x2), some (.inl x3), some (.inl x4), some (.inl x5), some (.inl x6), some (.inl x7), o8] [] D Q =
  ((x6 = 0 → WP 124 xF1 none 170 209 [some (.inr (.inr (some a0))), some (.inl x1), some (.inl x2), some (.inl x3), some (.inl x4), some (.inl x5), some (.inl x6), some (.inl x7), o8] [] D Q) ∧ (¬ (x6 = 0) → ((0 : Int) ≤ 1 ∧ 1 < (640 : Int)) ∧ ((D (a0 + 3) 1) ≠ 6 → WP 124 xF1 none 170 209 [some (.inr (.inr (some a0))), some (.inl x1), some (.inl x2), some (.inl x3), some (.inl x4), some (.inl x5), some (.inl x6), some (.inl x7), o8] [] D Q) ∧ (¬ ((D (a0 + 3) 1) ≠ 6) → WP 124 xF1 none 170 207 [some (.inr (.inr (some a0))), some (.inl x1), some (.inl x2), some (.inl x3), some (.inl x4), some (.inl x5), some (.inl x6), some (.inl x7), o8] [] D Q))) :=
  (WP.ldI rfl rfl).trans <| (WP.if0 rfl).trans <| br_eq rfl ((WP.ldR rfl rfl).trans <| (WP.getR (b := (a0 + 3)) rfl ha0 rfl rfl).trans <| (WP.kI rfl).trans <| (WP.iald rfl (so_10_2 ha0)).trans <| cn_eq ((WP.kI rfl).trans <| (WP.ic1 rfl).trans <| br_eq rfl rfl))
theorem seg170_207 (a0 : Nat) (x1 : Int) (x2 : Int) (x3 : Int) (x4 : Int) (x5 : Int) (x6 : Int) (x7 : Int) (o8 : Option xv) (D : xD) (Q : Option xv → xD → Prop) (ha0 : xisO 124 a0 10 = true) :
  WP 124 xF1 none 170 207 [some (.inr (.inr (some a0))), some (.inl x1), some (.inl x2), some (.inl x3), some (.inl x4), some (.inl x5), some (.inl x6), some (.inl x7), o8] [] D Q =
  (Q (some (.inl 4)) D) :=
  (WP.kI rfl).trans <| WP.ret rfl rfl
theorem seg170_209 (a0 : Nat) (x1 : Int) (x2 : Int) (x3 : Int) (x4 : Int) (x5 : Int) (x6 : Int) (x7 : Int) (o8 : Option xv) (D : xD) (Q : Option xv → xD → Prop) (ha0 : xisO 124 a0 10 = true) :
  WP 124 xF1 none 170 209 [some (.inr (.inr (some a0))), some (.inl x1), some (.inl x2), some (.inl x3), some (.inl x4), some (.inl x5), some (.inl x6), some (.inl x7), o8] [] D Q =
  (WP 124 xF1 none 157 0 [some (.inr (.inr (some a0))), none] [] D (fun v D9 => WP 124 xF1 none 170 213 [some (.inr (.inr (some a0))), some (.inl x1), some (.inl x2), some (.inl x3), some (.inl x4), some (.inl x5), some (.inl x6), some (.inl x7), o8] (v.toList ++ []) D9 Q)) :=
  (WP.ldR rfl rfl).trans <| WP.call rfl rfl (crv (r := xrecv 124 157 [.inr (.inr (some a0))]) ha0 rfl rfl rfl) rfl
theorem seg170_213 (a0 : Nat) (x1 : Int) (x2 : Int) (x3 : Int) (x4 : Int) (x5 : Int) (x6 : Int) (x7 : Int) (o8 : Option xv) (D : xD) (Q : Option xv → xD → Prop) (ha0 : xisO 124 a0 10 = true) :
  WP 124 xF1 none 170 213 [some (.inr (.inr (some a0))), some (.inl x1), some (.inl x2), some (.inl x3), some (.inl x4), some (.inl x5), some (.inl x6), some (.inl x7), o8] [] D Q =
  ((x1 = 0 → (x2 = 0 → (x3 = 0 → (x4 = 0 → (x5 = 0 → (x6 = 0 → WP 124 xF1 none 168 0 [some (.inr (.inr (some a0))), none] [] D (fun v D9 => WP 124 xF1 none 170 286 [some (.inr (.inr (some a0))), some (.inl x1), some (.inl x2), some (.inl x3), some (.inl x4), some (.inl x5), some (.inl x6), some (.inl x7), o8] (v.toList ++ []) D9 Q)) ∧ (¬ (x6 = 0) → WP 124 xF1 none 169 0 [some (.inr (.inr (some a0))), none, none, none] [] D (fun v D9 => WP 124 xF1 none 170 279 [some (.inr (.inr (some a0))), some (.inl x1), some (.inl x2), some (.inl x3), some (.inl x4), some (.inl x5), some (.inl x6), some (.inl x7), o8] (v.toList ++ []) D9 Q))) ∧ (¬ (x5 = 0) → WP 124 xF1 none 167 0 [some (.inr (.inr (some a0))), none] [] D (fun v D9 => WP 124 xF1 none 170 267 [some (.inr (.inr (some a0))), some (.inl x1), some (.inl x2), some (.inl x3), some (.inl x4), some (.inl x5), some (.inl x6), some (.inl x7), o8] (v.toList ++ []) D9 Q))) ∧ (¬ (x4 = 0) → WP 124 xF1 none 166 0 [some (.inr (.inr (some a0))), none, none] [] D (fun v D9 => WP 124 xF1 none 170 255 [some (.inr (.inr (some a0))), some (.inl x1), some (.inl x2), some (.inl x3), some (.inl x4), some (.inl x5), some (.inl x6), some (.inl x7), o8] (v.toList ++ []) D9 Q))) ∧ (¬ (x3 = 0) → WP 124 xF1 none 165 0 [some (.inr (.inr (some a0))), none, none, none, none] [] D (fun v D9 => WP 124 xF1 none 170 243 [some (.inr (.inr (some a0))), some (.inl x1), some (.inl x2), some (.inl x3), some (.inl x4), some (.inl x5), some (.inl x6), some (.inl x7), o8] (v.toList ++ []) D9 Q))) ∧ (¬ (x2 = 0) → WP 124 xF1 none 164 0 [some (.inr (.inr (some a0))), none] [] D (fun v D9 => WP 124 xF1 none 170 232 [some (.inr (.inr (some a0))), some (.inl x1), some (.inl x2), some (.inl x3), some (.inl x4), some (.inl x5), some (.inl x6), some (.inl x7), o8] (v.toList ++ []) D9 Q))) ∧ (¬ (x1 = 0) → WP 124 xF1 none 163 0 [some (.inr (.inr (some a0))), none] [] D (fun v D9 => WP 124 xF1 none 170 221 [some (.inr (.inr (some a0))), some (.inl x1), some (.inl x2), some (.inl x3), some (.inl x4), some (.inl x5), some (.inl x6), some (.inl x7), o8] (v.toList ++ []) D9 Q))) :=
  (WP.ldI rfl rfl).trans <| (WP.if0 rfl).trans <| br_eq ((WP.ldI rfl rfl).trans <| (WP.if0 rfl).trans <| br_eq ((WP.ldI rfl rfl).trans <| (WP.if0 rfl).trans <| br_eq ((WP.ldI rfl rfl).trans <| (WP.if0 rfl).trans <| br_eq ((WP.ldI rfl rfl).trans <| (WP.if0 rfl).trans <| br_eq ((WP.ldI rfl rfl).trans <| (WP.if0 rfl).trans <| br_eq ((WP.ldR rfl rfl).trans <| WP.call rfl rfl (crv (r := xrecv 124 168 [.inr (.inr (some a0))]) ha0 rfl rfl rfl) rfl) ((WP.ldR rfl rfl).trans <| WP.call rfl rfl (crv (r := xrecv 124 169 [.inr (.inr (some a0))]) ha0 rfl rfl rfl) rfl)) ((WP.ldR rfl rfl).trans <| WP.call rfl rfl (crv (r := xrecv 124 167 [.inr (.inr (some a0))]) ha0 rfl rfl rfl) rfl)) ((WP.ldR rfl rfl).trans <| WP.call rfl rfl (crv (r := xrecv 124 166 [.inr (.inr (some a0))]) ha0 rfl rfl rfl) rfl)) ((WP.ldR rfl rfl).trans <| WP.call rfl rfl (crv (r := xrecv 124 165 [.inr (.inr (some a0))]) ha0 rfl rfl rfl) rfl)) ((WP.ldR rfl rfl).trans <| WP.call rfl rfl (crv (r := xrecv 124 164 [.inr (.inr (some a0))]) ha0 rfl rfl rfl) rfl)) ((WP.ldR rfl rfl).trans <| WP.call rfl rfl (crv (r := xrecv 124 163 [.inr (.inr (some a0))]) ha0 rfl rfl rfl) rfl)
theorem seg170_221 (a0 : Nat) (x1 : Int) (x2 : Int) (x3 : Int) (x4 : Int) (x5 : Int) (x6 : Int) (x7 : Int) (o8 : Option xv) (s0 : Int) (D : xD) (Q : Option xv → xD → Prop) (ha0 : xisO 124 a0 10 = true) :
  WP 124 xF1 none 170 221 [some (.inr (.inr (some a0))), some (.inl x1), some (.inl x2), some (.inl x3), some (.inl x4), some (.inl x5), some (.inl x6), some (.inl x7), o8] [.inl s0] D Q =
  (WP 124 xF1 none 170 286 [some (.inr (.inr (some a0))), some (.inl x1), some (.inl x2), some (.inl x3), some (.inl x4), some (.inl x5), some (.inl x6), some (.inl x7), o8] [.inl s0] D Q) :=
  WP.goto rfl
theorem seg170_232 (a0 : Nat) (x1 : Int) (x2 : Int) (x3 : Int) (x4 : Int) (x5 : Int) (x6 : Int) (x7 : Int) (o8 : Option xv) (s0 : Int) (D : xD) (Q : Option xv → xD → Prop) (ha0 : xisO 124 a0 10 = true) :
  WP 124 xF1 none 170 232 [some (.inr (.inr (some a0))), some (.inl x1), some (.inl x2), some (.inl x3), some (.inl x4), some (.inl x5), some (.inl x6), some (.inl x7), o8] [.inl s0] D Q =
  (WP 124 xF1 none 170 286 [some (.inr (.inr (some a0))), some (.inl x1), some (.inl x2), some (.inl x3), some (.inl x4), some (.inl x5), some (.inl x6), some (.inl x7), o8] [.inl s0] D Q) :=
  WP.goto rfl
theorem seg170_243 (a0 : Nat) (x1 : Int) (x2 : Int) (x3 : Int) (x4 : Int) (x5 : Int) (x6 : Int) (x7 : Int) (o8 : Option xv) (s0 : Int) (D : xD) (Q : Option xv → xD → Prop) (ha0 : xisO 124 a0 10 = true) :
  WP 124 xF1 none 170 243 [some (.inr (.inr (some a0))), some (.inl x1), some (.inl x2), some (.inl x3), some (.inl x4), some (.inl x5), some (.inl x6), some (.inl x7), o8] [.inl s0] D Q =
  (WP 124 xF1 none 170 286 [some (.inr (.inr (some a0))), some (.inl x1), some (.inl x2), some (.inl x3), some (.inl x4), some (.inl x5), some (.inl x6), some (.inl x7), o8] [.inl s0] D Q) :=
  WP.goto rfl
theorem seg170_255 (a0 : Nat) (x1 : Int) (x2 : Int) (x3 : Int) (x4 : Int) (x5 : Int) (x6 : Int) (x7 : Int) (o8 : Option xv) (s0 : Int) (D : xD) (Q : Option xv → xD → Prop) (ha0 : xisO 124 a0 10 = true) :
  WP 124 xF1 none 170 255 [some (.inr (.inr (some a0))), some (.inl x1), some (.inl x2), some (.inl x3), some (.inl x4), some (.inl x5), some (.inl x6), some (.inl x7), o8] [.inl s0] D Q =
  (WP 124 xF1 none 170 286 [some (.inr (.inr (some a0))), some (.inl x1), some (.inl x2), some (.inl x3), some (.inl x4), some (.inl x5), some (.inl x6), some (.inl x7), o8] [.inl s0] D Q) :=
  WP.goto rfl
theorem seg170_267 (a0 : Nat) (x1 : Int) (x2 : Int) (x3 : Int) (x4 : Int) (x5 : Int) (x6 : Int) (x7 : Int) (o8 : Option xv) (s0 : Int) (D : xD) (Q : Option xv → xD → Prop) (ha0 : xisO 124 a0 10 = true) :
  WP 124 xF1 none 170 267 [some (.inr (.inr (some a0))), some (.inl x1), some (.inl x2), some (.inl x3), some (.inl x4), some (.inl x5), some (.inl x6), some (.inl x7), o8] [.inl s0] D Q =
  (WP 124 xF1 none 170 286 [some (.inr (.inr (some a0))), some (.inl x1), some (.inl x2), some (.inl x3), some (.inl x4), some (.inl x5), some (.inl x6), some (.inl x7), o8] [.inl s0] D Q) :=
  WP.goto rfl
theorem seg170_279 (a0 : Nat) (x1 : Int) (x2 : Int) (x3 : Int) (x4 : Int) (x5 : Int) (x6 : Int) (x7 : Int) (o8 : Option xv) (s0 : Int) (D : xD) (Q : Option xv → xD → Prop) (ha0 : xisO 124 a0 10 = true) :
  WP 124 xF1 none 170 279 [some (.inr (.inr (some a0))), some (.inl x1), some (.inl x2), some (.inl x3), some (.inl x4), some (.inl x5), some (.inl x6), some (.inl x7), o8] [.inl s0] D Q =
  (WP 124 xF1 none 170 286 [some (.inr (.inr (some a0))), some (.inl x1), some (.inl x2), some (.inl x3), some (.inl x4), some (.inl x5), some (.inl x6), some (.inl x7), o8] [.inl s0] D Q) :=
  WP.goto rfl
theorem seg170_286 (a0 : Nat) (x1 : Int) (x2 : Int) (x3 : Int) (x4 : Int) (x5 : Int) (x6 : Int) (x7 : Int) (o8 : Option xv) (s0 : Int) (D : xD) (Q : Option xv → xD → Prop) (ha0 : xisO 124 a0 10 = true) :
  WP 124 xF1 none 170 286 [some (.inr (.inr (some a0))), some (.inl x1), some (.inl x2), some (.inl x3), some (.inl x4), some (.inl x5), some (.inl x6), some (.inl x7), o8] [.inl s0] D Q =
  ((s0 = 0 → ((D a0 9) = 59 → ((0 : Int) ≤ 4 ∧ 4 < (640 : Int)) ∧ (xinP ((D (a0 + 3) 4) + 1)) ∧ ((0 : Int) ≤ 4 ∧ 4 < (640 : Int)) ∧ WP 124 xF1 none 157 0 [some (.inr (.inr (some a0))), none] [] (xup D (a0 + 3) 4 ((D (a0 + 3) 4) + 1)) (fun v D9 => WP 124 xF1 none 170 321 [some (.inr (.inr (some a0))), some (.inl x1), some (.inl x2), some (.inl x3), some (.inl x4), some (.inl x5), some (.inl x6), some (.inl x7), some (.inl s0)] (v.toList ++ []) D9 Q)) ∧ (¬ ((D a0 9) = 59) → Q (some (.inl 1)) D)) ∧ (¬ (s0 = 0) → Q (some (.inl s0)) D)) :=
  (WP.stI rfl rfl).trans <| (WP.ldI rfl rfl).trans <| (WP.if0 rfl).trans <| br_eq ((WP.ldR rfl rfl).trans <| (WP.getI rfl ha0).trans <| (WP.kI rfl).trans <| (WP.ic0 rfl).trans <| br_eq ((WP.ldR rfl rfl).trans <| (WP.getR (b := (a0 + 3)) rfl ha0 rfl rfl).trans <| (WP.kI rfl).trans <| (WP.dup2 rfl rfl rfl).trans <| (WP.iald rfl (so_10_2 ha0)).trans <| cn_eq ((WP.kI rfl).trans <| (WP.iadd rfl).trans <| cn_eq ((WP.iast rfl (so_10_2 ha0)).trans <| cn_eq ((WP.ldR rfl rfl).trans <| WP.call rfl rfl (crv (r := xrecv 124 157 [.inr (.inr (some a0))]) ha0 rfl rfl rfl) rfl)))) ((WP.kI rfl).trans <| WP.ret rfl rfl)) ((WP.ldI rfl rfl).trans <| WP.ret rfl rfl)
theorem seg170_321 (a0 : Nat) (x1 : Int) (x2 : Int) (x3 : Int) (x4 : Int) (x5 : Int) (x6 : Int) (x7 : Int) (x8 : Int) (D : xD) (Q : Option xv → xD → Prop) (ha0 : xisO 124 a0 10 = true) :
  WP 124 xF1 none 170 321 [some (.inr (.inr (some a0))), some (.inl x1), some (.inl x2), some (.inl x3), some (.inl x4), some (.inl x5), some (.inl x6), some (.inl x7), some (.inl x8)] [] D Q =
  (Q (some (.inl 0)) D) :=
  (WP.kI rfl).trans <| WP.ret rfl rfl
