/-! equations -/
theorem seg45_0 (a0 : Nat) (D : xD) (Q : Option xv → xD → Prop) (ha0 : xisO 124 a0 4 = true) :
  WP 124 xF1 none 45 0 [some (.inr (.inr (some a0)))] [] D Q =
  (WP 124 xF1 none 240 0 [some (.inr (.inr (some (a0 + 14)))), some (.inl (-1)), none, none] [] (xup (xup D a0 1 0) a0 9 0) (fun v D9 => WP 124 xF1 none 45 18 [some (.inr (.inr (some a0)))] (v.toList ++ []) D9 Q)) :=
  (WP.ldR rfl rfl).trans <| (WP.kI rfl).trans <| (WP.putZ0 rfl ha0).trans <| (WP.ldR rfl rfl).trans <| (WP.kI rfl).trans <| (WP.putZ0 rfl ha0).trans <| (WP.ldR rfl rfl).trans <| (WP.getR (b := (a0 + 14)) rfl ha0 rfl rfl).trans <| (WP.kI rfl).trans <| WP.call rfl rfl rfl rfl
theorem seg45_18 (a0 : Nat) (D : xD) (Q : Option xv → xD → Prop) (ha0 : xisO 124 a0 4 = true) :
  WP 124 xF1 none 45 18 [some (.inr (.inr (some a0)))] [] D Q =
  (WP 124 xF1 none 240 0 [some (.inr (.inr (some (a0 + 15)))), some (.inl 0), none, none] [] D (fun v D9 => WP 124 xF1 none 45 26 [some (.inr (.inr (some a0)))] (v.toList ++ []) D9 Q)) :=
  (WP.ldR rfl rfl).trans <| (WP.getR (b := (a0 + 15)) rfl ha0 rfl rfl).trans <| (WP.kI rfl).trans <| WP.call rfl rfl rfl rfl
theorem seg45_26 (a0 : Nat) (D : xD) (Q : Option xv → xD → Prop) (ha0 : xisO 124 a0 4 = true) :
  WP 124 xF1 none 45 26 [some (.inr (.inr (some a0)))] [] D Q =
  (Q none D) :=
  WP.ret rfl rfl
theorem seg46_0 (a0 : Nat) (a1 : Nat) (o2 : Option xv) (o3 : Option xv) (D : xD) (Q : Option xv → xD → Prop) (ha0 : xisO 124 a0 4 = true) (ha1 : xisO 124 a1 6 = true) :
  WP 124 xF1 none 46 0 [some (.inr (.inr (some a0))), some (.inr (.inr (some a1))), o2, o3] [] D Q =
  (((D a0 1) = 0 → WP 124 xF1 none 27 0 [some (.inr (.inr (some (a0 + 1)))), some (.inr (.inr (some (a1 + 1)))), some (.inl ((xup D a0 1 1) a1 1)), some (.inl 0), none] [] (xup D a0 1 1) (fun v D9 => WP 124 xF1 none 46 29 [some (.inr (.inr (some a0))), some (.inr (.inr (some a1))), o2, o3] (v.toList ++ []) D9 Q)) ∧ (¬ ((D a0 1) = 0) → Q none D)) :=
  (WP.ldR rfl rfl).trans <| (WP.getI rfl ha0).trans <| (WP.if0 rfl).trans <| br_eq ((WP.ldR rfl rfl).trans <| (WP.kI rfl).trans <| (WP.putZ1 rfl ha0).trans <| (WP.ldR rfl rfl).trans <| (WP.getR (b := (a0 + 1)) rfl ha0 rfl rfl).trans <| (WP.ldR rfl rfl).trans <| (WP.getR (b := (a1 + 1)) rfl ha1 rfl rfl).trans <| (WP.ldR rfl rfl).trans <| (WP.getI rfl ha1).trans <| (WP.kI rfl).trans <| WP.call rfl rfl (crv (r := xrecv 124 27 [.inr (.inr (some (a0 + 1))), .inr (.inr (some (a1 + 1))), .inl ((xup D a0 1 1) a1 1), .inl 0]) (so_4_0 ha0) rfl rfl rfl) rfl) (WP.ret rfl rfl)
theorem seg46_29 (a0 : Nat) (a1 : Nat) (o2 : Option xv) (o3 : Option xv) (D : xD) (Q : Option xv → xD → Prop) (ha0 : xisO 124 a0 4 = true) (ha1 : xisO 124 a1 6 = true) :
  WP 124 xF1 none 46 29 [some (.inr (.inr (some a0))), some (.inr (.inr (some a1))), o2, o3] [] D Q =
  (WP 124 xF1 none 46 33 [some (.inr (.inr (some a0))), some (.inr (.inr (some a1))), some (.inl 0), some (.inl 0)] [] D Q) :=
  (WP.kI rfl).trans <| (WP.stI rfl rfl).trans <| (WP.kI rfl).trans <| WP.stI rfl rfl
theorem seg46_33 (a0 : Nat) (a1 : Nat) (x2 : Int) (x3 : Int) (D : xD) (Q : Option xv → xD → Prop) (ha0 : xisO 124 a0 4 = true) (ha1 : xisO 124 a1 6 = true) :
  WP 124 xF1 none 46 33 [some (.inr (.inr (some a0))), some (.inr (.inr (some a1))), some (.inl x2), some (.inl x3)] [] D Q =
  ((13 ≤ x3 → Q none D) ∧ (¬ (13 ≤ x3) → WP 124 xF1 none 36 0 [some (.inr (.inr (some (a0 + 1)))), some (.inl x3), none, none] [] D (fun v D9 => WP 124 xF1 none 46 48 [some (.inr (.inr (some a0))), some (.inr (.inr (some a1))), some (.inl x2), some (.inl x3)] (v.toList ++ [.inl x2]) D9 Q))) :=
  (WP.ldI rfl rfl).trans <| (WP.kI rfl).trans <| (WP.ic3 rfl).trans <| br_eq (WP.ret rfl rfl) ((WP.ldI rfl rfl).trans <| (WP.ldR rfl rfl).trans <| (WP.getR (b := (a0 + 1)) rfl ha0 rfl rfl).trans <| (WP.ldI rfl rfl).trans <| WP.call rfl rfl (crv (r := xrecv 124 36 [.inr (.inr (some (a0 + 1))), .inl x3]) (so_4_0 ha0) rfl rfl rfl) rfl)
theorem seg46_48 (a0 : Nat) (a1 : Nat) (x2 : Int) (x3 : Int) (s0 : Int) (s1 : Int) (D : xD) (Q : Option xv → xD → Prop) (ha0 : xisO 124 a0 4 = true) (ha1 : xisO 124 a1 6 = true) :
  WP 124 xF1 none 46 48 [some (.inr (.inr (some a0))), some (.inr (.inr (some a1))), some (.inl x2), some (.inl x3)] [.inl s0, .inl s1] D Q =
  ((xinP (s1 + s0)) ∧ ((0 : Int) ≤ x3 ∧ x3 < (13 : Int)) ∧ WP 124 xF1 none 47 0 [some (.inr (.inr (some a0))), some (.inl x3), none, none, none] [] (xup D (a0 + 12) x3 (s1 + s0)) (fun v D9 => WP 124 xF1 none 46 62 [some (.inr (.inr (some a0))), some (.inr (.inr (some a1))), some (.inl (s1 + s0)), some (.inl x3)] (v.toList ++ []) D9 Q)) :=
  (WP.iadd rfl).trans <| cn_eq ((WP.stI rfl rfl).trans <| (WP.ldR rfl rfl).trans <| (WP.getR (b := (a0 + 12)) rfl ha0 rfl rfl).trans <| (WP.ldI rfl rfl).trans <| (WP.ldI rfl rfl).trans <| (WP.iast rfl (so_4_2 ha0)).trans <| cn_eq ((WP.ldR rfl rfl).trans <| (WP.ldI rfl rfl).trans <| WP.call rfl rfl (crv (r := xrecv 124 47 [.inr (.inr (some a0)), .inl x3]) ha0 rfl rfl rfl) rfl))
theorem seg46_62 (a0 : Nat) (a1 : Nat) (x2 : Int) (x3 : Int) (D : xD) (Q : Option xv → xD → Prop) (ha0 : xisO 124 a0 4 = true) (ha1 : xisO 124 a1 6 = true) :
  WP 124 xF1 none 46 62 [some (.inr (.inr (some a0))), some (.inr (.inr (some a1))), some (.inl x2), some (.inl x3)] [] D Q =
  ((xinP (x3 + 1)) ∧ WP 124 xF1 none 46 33 [some (.inr (.inr (some a0))), some (.inr (.inr (some a1))), some (.inl x2), some (.inl (x3 + 1))] [] D Q) :=
  (WP.iinc rfl rfl rfl).trans <| cn_eq (WP.goto rfl)
theorem seg47_0 (a0 : Nat) (x1 : Int) (o2 : Option xv) (o3 : Option xv) (o4 : Option xv) (D : xD) (Q : Option xv → xD → Prop) (ha0 : xisO 124 a0 4 = true) :
  WP 124 xF1 none 47 0 [some (.inr (.inr (some a0))), some (.inl x1), o2, o3, o4] [] D Q =
  (WP 124 xF1 none 47 2 [some (.inr (.inr (some a0))), some (.inl x1), some (.inl 0), o3, o4] [] D Q) :=
  (WP.kI rfl).trans <| WP.stI rfl rfl
theorem seg47_2 (a0 : Nat) (x1 : Int) (x2 : Int) (o3 : Option xv) (o4 : Option xv) (D : xD) (Q : Option xv → xD → Prop) (ha0 : xisO 124 a0 4 = true) :
  WP 124 xF1 none 47 2 [some (.inr (.inr (some a0))), some (.inl x1), some (.inl x2), o3, o4] [] D Q =
  ((8 ≤ x2 → Q none D) ∧ (¬ (8 ≤ x2) → WP 124 xF1 none 47 13 [some (.inr (.inr (some a0))), some (.inl x1), some (.inl x2), some (.inl 0), some (.inl 0)] [] D Q)) :=
  (WP.ldI rfl rfl).trans <| (WP.kI rfl).trans <| (WP.ic3 rfl).trans <| br_eq (WP.ret rfl rfl) ((WP.kI rfl).trans <| (WP.stI rfl rfl).trans <| (WP.kI rfl).trans <| WP.stI rfl rfl)
theorem seg47_13 (a0 : Nat) (x1 : Int) (x2 : Int) (x3 : Int) (x4 : Int) (D : xD) (Q : Option xv → xD → Prop) (ha0 : xisO 124 a0 4 = true) :
  WP 124 xF1 none 47 13 [some (.inr (.inr (some a0))), some (.inl x1), some (.inl x2), some (.inl x3), some (.inl x4)] [] D Q =
  ((x1 < x4 → (xinP (x1 * 8)) ∧ (xinP ((x1 * 8) + x2)) ∧ ((0 : Int) ≤ ((x1 * 8) + x2) ∧ ((x1 * 8) + x2) < (104 : Int)) ∧ (xinP (x2 + 1)) ∧ WP 124 xF1 none 47 2 [some (.inr (.inr (some a0))), some (.inl x1), some (.inl (x2 + 1)), some (.inl x3), some (.inl x4)] [] (xup D (a0 + 13) ((x1 * 8) + x2) x3) Q) ∧ (¬ (x1 < x4) → WP 124 xF1 none 30 0 [some (.inl x2), some (.inl x4)] [] D (fun v D9 => WP 124 xF1 none 47 30 [some (.inr (.inr (some a0))), some (.inl x1), some (.inl x2), some (.inl x3), some (.inl x4)] (v.toList ++ [.inr (.inr (some (a0 + 1))), .inl x3]) D9 Q))) :=
  (WP.ldI rfl rfl).trans <| (WP.ldI rfl rfl).trans <| (WP.ic4 rfl).trans <| br_eq ((WP.ldR rfl rfl).trans <| (WP.getR (b := (a0 + 13)) rfl ha0 rfl rfl).trans <| (WP.ldI rfl rfl).trans <| (WP.kI rfl).trans <| (WP.imul rfl).trans <| cn_eq ((WP.ldI rfl rfl).trans <| (WP.iadd rfl).trans <| cn_eq ((WP.ldI rfl rfl).trans <| (WP.iast rfl (so_4_3 ha0)).trans <| cn_eq ((WP.iinc rfl rfl rfl).trans <| cn_eq (WP.goto rfl))))) ((WP.ldI rfl rfl).trans <| (WP.ldR rfl rfl).trans <| (WP.getR (b := (a0 + 1)) rfl ha0 rfl rfl).trans <| (WP.ldI rfl rfl).trans <| (WP.ldI rfl rfl).trans <| WP.call rfl rfl rfl rfl)
theorem seg47_30 (a0 : Nat) (x1 : Int) (x2 : Int) (x3 : Int) (x4 : Int) (s0 : Int) (b1 : Nat) (s2 : Int) (D : xD) (Q : Option xv → xD → Prop) (ha0 : xisO 124 a0 4 = true) (hb1 : xisO 124 b1 3 = true) :
  WP 124 xF1 none 47 30 [some (.inr (.inr (some a0))), some (.inl x1), some (.inl x2), some (.inl x3), some (.inl x4)] [.inl s0, .inr (.inr (some b1)), .inl s2] D Q =
  (WP 124 xF1 none 40 0 [some (.inr (.inr (some b1))), some (.inl s0)] [] D (fun v D9 => WP 124 xF1 none 47 33 [some (.inr (.inr (some a0))), some (.inl x1), some (.inl x2), some (.inl x3), some (.inl x4)] (v.toList ++ [.inl s2]) D9 Q)) :=
  WP.call rfl rfl (crv (r := xrecv 124 40 [.inr (.inr (some b1)), .inl s0]) hb1 rfl rfl rfl) rfl
theorem seg47_33 (a0 : Nat) (x1 : Int) (x2 : Int) (x3 : Int) (x4 : Int) (s0 : Int) (s1 : Int) (D : xD) (Q : Option xv → xD → Prop) (ha0 : xisO 124 a0 4 = true) :
  WP 124 xF1 none 47 33 [some (.inr (.inr (some a0))), some (.inl x1), some (.inl x2), some (.inl x3), some (.inl x4)] [.inl s0, .inl s1] D Q =
  ((s0 = 0 → WP 124 xF1 none 47 44 [some (.inr (.inr (some a0))), some (.inl x1), some (.inl x2), some (.inl x3), some (.inl x4)] [.inl 0, .inl s1] D Q) ∧ (¬ (s0 = 0) → WP 124 xF1 none 47 44 [some (.inr (.inr (some a0))), some (.inl x1), some (.inl x2), some (.inl x3), some (.inl x4)] [.inl (ishl 1 x4), .inl s1] D Q)) :=
  (WP.if0 rfl).trans <| br_eq (WP.kI rfl) ((WP.kI rfl).trans <| (WP.ldI rfl rfl).trans <| (WP.ishl rfl).trans <| WP.goto rfl)
theorem seg47_44 (a0 : Nat) (x1 : Int) (x2 : Int) (x3 : Int) (x4 : Int) (s0 : Int) (s1 : Int) (D : xD) (Q : Option xv → xD → Prop) (ha0 : xisO 124 a0 4 = true) :
  WP 124 xF1 none 47 44 [some (.inr (.inr (some a0))), some (.inl x1), some (.inl x2), some (.inl x3), some (.inl x4)] [.inl s0, .inl s1] D Q =
  ((xinP (x4 + 1)) ∧ WP 124 xF1 none 47 13 [some (.inr (.inr (some a0))), some (.inl x1), some (.inl x2), some (.inl (ior s1 s0)), some (.inl (x4 + 1))] [] D Q) :=
  (WP.ior rfl).trans <| (WP.stI rfl rfl).trans <| (WP.iinc rfl rfl rfl).trans <| cn_eq (WP.goto rfl)
theorem seg48_0 (a0 : Nat) (x1 : Int) (o2 : Option xv) (D : xD) (Q : Option xv → xD → Prop) (ha0 : xisO 124 a0 4 = true) :
  WP 124 xF1 none 48 0 [some (.inr (.inr (some a0))), some (.inl x1), o2] [] D Q =
  (WP 124 xF1 none 48 2 [some (.inr (.inr (some a0))), some (.inl x1), some (.inl 0)] [] D Q) :=
  (WP.kI rfl).trans <| WP.stI rfl rfl
theorem seg48_2 (a0 : Nat) (x1 : Int) (x2 : Int) (D : xD) (Q : Option xv → xD → Prop) (ha0 : xisO 124 a0 4 = true) :
  WP 124 xF1 none 48 2 [some (.inr (.inr (some a0))), some (.inl x1), some (.inl x2)] [] D Q =
  ((13 ≤ x2 → Q (some (.inl (-1))) D) ∧ (¬ (13 ≤ x2) → ((0 : Int) ≤ x2 ∧ x2 < (13 : Int)) ∧ ((D (a0 + 12) x2) ≠ x1 → (xinP (x2 + 1)) ∧ WP 124 xF1 none 48 2 [some (.inr (.inr (some a0))), some (.inl x1), some (.inl (x2 + 1))] [] D Q) ∧ (¬ ((D (a0 + 12) x2) ≠ x1) → Q (some (.inl x2)) D))) :=
  (WP.ldI rfl rfl).trans <| (WP.kI rfl).trans <| (WP.ic3 rfl).trans <| br_eq ((WP.kI rfl).trans <| WP.ret rfl rfl) ((WP.ldR rfl rfl).trans <| (WP.getR (b := (a0 + 12)) rfl ha0 rfl rfl).trans <| (WP.ldI rfl rfl).trans <| (WP.iald rfl (so_4_2 ha0)).trans <| cn_eq ((WP.ldI rfl rfl).trans <| (WP.ic1 rfl).trans <| br_eq ((WP.iinc rfl rfl rfl).trans <| cn_eq (WP.goto rfl)) ((WP.ldI rfl rfl).trans <| WP.ret rfl rfl)))
theorem seg49_0 (a0 : Nat) (a1 : Nat) (x2 : Int) (x3 : Int) (D : xD) (Q : Option xv → xD → Prop) (ha0 : xisO 124 a0 4 = true) (ha1 : xisO 124 a1 6 = true) :
  WP 124 xF1 none 49 0 [some (.inr (.inr (some a0))), some (.inr (.inr (some a1))), some (.inl x2), some (.inl x3)] [] D Q =
  (WP 124 xF1 none 27 0 [some (.inr (.inr (some (a0 + 1)))), some (.inr (.inr (some (a1 + 1)))), some (.inl (D a1 1)), some (.inl x3), none] [] D (fun v D9 => WP 124 xF1 none 49 16 [some (.inr (.inr (some a0))), some (.inr (.inr (some a1))), some (.inl x2), some (.inl x3)] (v.toList ++ []) D9 Q)) :=
  (WP.ldR rfl rfl).trans <| (WP.getR (b := (a0 + 1)) rfl ha0 rfl rfl).trans <| (WP.ldR rfl rfl).trans <| (WP.getR (b := (a1 + 1)) rfl ha1 rfl rfl).trans <| (WP.ldR rfl rfl).trans <| (WP.getI rfl ha1).trans <| (WP.ldI rfl rfl).trans <| WP.call rfl rfl (crv (r := xrecv 124 27 [.inr (.inr (some (a0 + 1))), .inr (.inr (some (a1 + 1))), .inl (D a1 1), .inl x3]) (so_4_0 ha0) rfl rfl rfl) rfl
theorem seg49_16 (a0 : Nat) (a1 : Nat) (x2 : Int) (x3 : Int) (D : xD) (Q : Option xv → xD → Prop) (ha0 : xisO 124 a0 4 = true) (ha1 : xisO 124 a1 6 = true) :
  WP 124 xF1 none 49 16 [some (.inr (.inr (some a0))), some (.inr (.inr (some a1))), some (.inl x2), some (.inl x3)] [] D Q =
  (WP 124 xF1 none 36 0 [some (.inr (.inr (some (a0 + 1)))), some (.inl x2), none, none] [] D (fun v D9 => WP 124 xF1 none 49 24 [some (.inr (.inr (some a0))), some (.inr (.inr (some a1))), some (.inl x2), some (.inl x3)] (v.toList ++ []) D9 Q)) :=
  (WP.ldR rfl rfl).trans <| (WP.getR (b := (a0 + 1)) rfl ha0 rfl rfl).trans <| (WP.ldI rfl rfl).trans <| WP.call rfl rfl (crv (r := xrecv 124 36 [.inr (.inr (some (a0 + 1))), .inl x2]) (so_4_0 ha0) rfl rfl rfl) rfl
theorem seg49_24 (a0 : Nat) (a1 : Nat) (x2 : Int) (x3 : Int) (s0 : Int) (D : xD) (Q : Option xv → xD → Prop) (ha0 : xisO 124 a0 4 = true) (ha1 : xisO 124 a1 6 = true) :
  WP 124 xF1 none 49 24 [some (.inr (.inr (some a0))), some (.inr (.inr (some a1))), some (.inl x2), some (.inl x3)] [.inl s0] D Q =
  (Q (some (.inl s0)) D) :=
  WP.ret rfl rfl
theorem seg50_0 (a0 : Nat) (a1 : Nat) (x2 : Int) (o3 : Option xv) (D : xD) (Q : Option xv → xD → Prop) (ha0 : xisO 124 a0 4 = true) (ha1 : xisO 124 a1 6 = true) :
  WP 124 xF1 none 50 0 [some (.inr (.inr (some a0))), some (.inr (.inr (some a1))), some (.inl x2), o3] [] D Q =
  (((0 : Int) ≤ x2 ∧ x2 < (13 : Int)) ∧ ((D (a0 + 14) x2) = (-1) → WP 124 xF1 none 50 13 [some (.inr (.inr (some a0))), some (.inr (.inr (some a1))), some (.inl x2), some (.inl 0)] [] D Q) ∧ (¬ ((D (a0 + 14) x2) = (-1)) → Q none D)) :=
  (WP.ldR rfl rfl).trans <| (WP.getR (b := (a0 + 14)) rfl ha0 rfl rfl).trans <| (WP.ldI rfl rfl).trans <| (WP.iald rfl (so_4_4 ha0)).trans <| cn_eq ((WP.kI rfl).trans <| (WP.ic0 rfl).trans <| br_eq ((WP.kI rfl).trans <| WP.stI rfl rfl) (WP.ret rfl rfl))
theorem seg50_13 (a0 : Nat) (a1 : Nat) (x2 : Int) (x3 : Int) (D : xD) (Q : Option xv → xD → Prop) (ha0 : xisO 124 a0 4 = true) (ha1 : xisO 124 a1 6 = true) :
  WP 124 xF1 none 50 13 [some (.inr (.inr (some a0))), some (.inr (.inr (some a1))), some (.inl x2), some (.inl x3)] [] D Q =
  ((13 ≤ x3 → WP 124 xF1 none 27 0 [some (.inr (.inr (some (a0 + 1)))), some (.inr (.inr (some (a1 + 1)))), some (.inl (D a1 1)), some (.inl 0), none] [] D (fun v D9 => WP 124 xF1 none 50 56 [some (.inr (.inr (some a0))), some (.inr (.inr (some a1))), some (.inl x2), some (.inl x3)] (v.toList ++ []) D9 Q)) ∧ (¬ (13 ≤ x3) → (xinP (x2 - x3)) ∧ (xinP ((x2 - x3) + 1)) ∧ ((0 : Int) ≤ x3 ∧ x3 < (13 : Int)) ∧ (xinP (x3 + 1)) ∧ WP 124 xF1 none 50 13 [some (.inr (.inr (some a0))), some (.inr (.inr (some a1))), some (.inl x2), some (.inl (x3 + 1))] [] (xup D (a0 + 16) x3 (max 0 ((x2 - x3) + 1))) Q)) :=
  (WP.ldI rfl rfl).trans <| (WP.kI rfl).trans <| (WP.ic3 rfl).trans <| br_eq ((WP.ldR rfl rfl).trans <| (WP.getR (b := (a0 + 1)) rfl ha0 rfl rfl).trans <| (WP.ldR rfl rfl).trans <| (WP.getR (b := (a1 + 1)) rfl ha1 rfl rfl).trans <| (WP.ldR rfl rfl).trans <| (WP.getI rfl ha1).trans <| (WP.kI rfl).trans <| WP.call rfl rfl (crv (r := xrecv 124 27 [.inr (.inr (some (a0 + 1))), .inr (.inr (some (a1 + 1))), .inl (D a1 1), .inl 0]) (so_4_0 ha0) rfl rfl rfl) rfl) ((WP.ldR rfl rfl).trans <| (WP.getR (b := (a0 + 16)) rfl ha0 rfl rfl).trans <| (WP.ldI rfl rfl).trans <| (WP.kI rfl).trans <| (WP.ldI rfl rfl).trans <| (WP.ldI rfl rfl).trans <| (WP.isub rfl).trans <| cn_eq ((WP.kI rfl).trans <| (WP.iadd rfl).trans <| cn_eq ((WP.kmax rfl rfl).trans <| (WP.iast rfl (so_4_6 ha0)).trans <| cn_eq ((WP.iinc rfl rfl rfl).trans <| cn_eq (WP.goto rfl)))))
theorem seg50_56 (a0 : Nat) (a1 : Nat) (x2 : Int) (x3 : Int) (D : xD) (Q : Option xv → xD → Prop) (ha0 : xisO 124 a0 4 = true) (ha1 : xisO 124 a1 6 = true) :
  WP 124 xF1 none 50 56 [some (.inr (.inr (some a0))), some (.inr (.inr (some a1))), some (.inl x2), some (.inl x3)] [] D Q =
  (WP 124 xF1 none 42 0 [some (.inr (.inr (some (a0 + 1)))), some (.inl x2), some (.inr (.inr (some (a0 + 16)))), none, none, none] [] D (fun v D9 => WP 124 xF1 none 50 73 [some (.inr (.inr (some a0))), some (.inr (.inr (some a1))), some (.inl x2), some (.inl x3)] (v.toList ++ [.inl x2, .inr (.inr (some (a0 + 14)))]) D9 Q)) :=
  (WP.ldR rfl rfl).trans <| (WP.getR (b := (a0 + 14)) rfl ha0 rfl rfl).trans <| (WP.ldI rfl rfl).trans <| (WP.ldR rfl rfl).trans <| (WP.getR (b := (a0 + 1)) rfl ha0 rfl rfl).trans <| (WP.ldI rfl rfl).trans <| (WP.ldR rfl rfl).trans <| (WP.getR (b := (a0 + 16)) rfl ha0 rfl rfl).trans <| WP.call rfl rfl (crv (r := xrecv 124 42 [.inr (.inr (some (a0 + 1))), .inl x2, .inr (.inr (some (a0 + 16)))]) (so_4_0 ha0) rfl rfl rfl) rfl
theorem seg50_73 (a0 : Nat) (a1 : Nat) (x2 : Int) (x3 : Int) (s0 : Int) (s1 : Int) (b2 : Nat) (Lb2 : Nat) (D : xD) (Q : Option xv → xD → Prop) (ha0 : xisO 124 a0 4 = true) (ha1 : xisO 124 a1 6 = true) (hb2 : xalen none 124 b2 = some Lb2) :
  WP 124 xF1 none 50 73 [some (.inr (.inr (some a0))), some (.inr (.inr (some a1))), some (.inl x2), some (.inl x3)] [.inl s0, .inl s1, .inr (.inr (some b2))] D Q =
  (((0 : Int) ≤ s1 ∧ s1 < (Lb2 : Int)) ∧ Q none (xup D b2 s1 s0)) :=
  (WP.iast rfl hb2).trans <| cn_eq (WP.ret rfl rfl)
theorem seg51_0 (a0 : Nat) (x1 : Int) (o2 : Option xv) (o3 : Option xv) (D : xD) (Q : Option xv → xD → Prop) (ha0 : xisO 124 a0 4 = true) :
  WP 124 xF1 none 51 0 [some (.inr (.inr (some a0))), some (.inl x1), o2, o3] [] D Q =
  (WP 124 xF1 none 51 4 [some (.inr (.inr (some a0))), some (.inl x1), some (.inl 0), some (.inl 0)] [] D Q) :=
  (WP.kI rfl).trans <| (WP.stI rfl rfl).trans <| (WP.kI rfl).trans <| WP.stI rfl rfl
theorem seg51_4 (a0 : Nat) (x1 : Int) (x2 : Int) (x3 : Int) (D : xD) (Q : Option xv → xD → Prop) (ha0 : xisO 124 a0 4 = true) :
  WP 124 xF1 none 51 4 [some (.inr (.inr (some a0))), some (.inl x1), some (.inl x2), some (.inl x3)] [] D Q =
  ((x1 < x3 → ((0 : Int) ≤ x1 ∧ x1 < (13 : Int)) ∧ ((D (a0 + 14) x1) ≠ x2 → WP 124 xF1 none 51 39 [some (.inr (.inr (some a0))), some (.inl x1), some (.inl x2), some (.inl x3)] [.inl 0] D Q) ∧ (¬ ((D (a0 + 14) x1) ≠ x2) → WP 124 xF1 none 51 39 [some (.inr (.inr (some a0))), some (.inl x1), some (.inl x2), some (.inl x3)] [.inl 1] D Q)) ∧ (¬ (x1 < x3) → ((0 : Int) ≤ x3 ∧ x3 < (13 : Int)) ∧ (xinP (x2 + (D (a0 + 12) x3))) ∧ (xinP (x3 + 1)) ∧ WP 124 xF1 none 51 4 [some (.inr (.inr (some a0))), some (.inl x1), some (.inl (x2 + (D (a0 + 12) x3))), some (.inl (x3 + 1))] [] D Q)) :=
  (WP.ldI rfl rfl).trans <| (WP.ldI rfl rfl).trans <| (WP.ic4 rfl).trans <| br_eq ((WP.ldR rfl rfl).trans <| (WP.getR (b := (a0 + 14)) rfl ha0 rfl rfl).trans <| (WP.ldI rfl rfl).trans <| (WP.iald rfl (so_4_4 ha0)).trans <| cn_eq ((WP.ldI rfl rfl).trans <| (WP.ic1 rfl).trans <| br_eq (WP.kI rfl) ((WP.kI rfl).trans <| WP.goto rfl))) ((WP.ldI rfl rfl).trans <| (WP.ldR rfl rfl).trans <| (WP.getR (b := (a0 + 12)) rfl ha0 rfl rfl).trans <| (WP.ldI rfl rfl).trans <| (WP.iald rfl (so_4_2 ha0)).trans <| cn_eq ((WP.iadd rfl).trans <| cn_eq ((WP.stI rfl rfl).trans <| (WP.iinc rfl rfl rfl).trans <| cn_eq (WP.goto rfl))))
theorem seg51_39 (a0 : Nat) (x1 : Int) (x2 : Int) (x3 : Int) (s0 : Int) (D : xD) (Q : Option xv → xD → Prop) (ha0 : xisO 124 a0 4 = true) :
  WP 124 xF1 none 51 39 [some (.inr (.inr (some a0))), some (.inl x1), some (.inl x2), some (.inl x3)] [.inl s0] D Q =
  ((s0 = 0 ∨ s0 = 1) ∧ Q (some (.inl s0)) D) :=
  WP.retZ rfl rfl
theorem seg52_0 (a0 : Nat) (a1 : Nat) (x2 : Int) (o3 : Option xv) (o4 : Option xv) (D : xD) (Q : Option xv → xD → Prop) (ha0 : xisO 124 a0 4 = true) (ha1 : xisO 124 a1 6 = true) :
  WP 124 xF1 none 52 0 [some (.inr (.inr (some a0))), some (.inr (.inr (some a1))), some (.inl x2), o3, o4] [] D Q =
  (WP 124 xF1 none 51 0 [some (.inr (.inr (some a0))), some (.inl x2), none, none] [] (xup (xup D a0 7 (-1)) a0 8 (-1)) (fun v D9 => WP 124 xF1 none 52 15 [some (.inr (.inr (some a0))), some (.inr (.inr (some a1))), some (.inl x2), o3, o4] (v.toList ++ []) D9 Q)) :=
  (WP.ldR rfl rfl).trans <| (WP.kI rfl).trans <| (WP.putI rfl ha0).trans <| (WP.ldR rfl rfl).trans <| (WP.kI rfl).trans <| (WP.putI rfl ha0).trans <| (WP.ldR rfl rfl).trans <| (WP.ldI rfl rfl).trans <| WP.call rfl rfl (crv (r := xrecv 124 51 [.inr (.inr (some a0)), .inl x2]) ha0 rfl rfl rfl) rfl
theorem seg52_15 (a0 : Nat) (a1 : Nat) (x2 : Int) (o3 : Option xv) (o4 : Option xv) (s0 : Int) (D : xD) (Q : Option xv → xD → Prop) (ha0 : xisO 124 a0 4 = true) (ha1 : xisO 124 a1 6 = true) :
  WP 124 xF1 none 52 15 [some (.inr (.inr (some a0))), some (.inr (.inr (some a1))), some (.inl x2), o3, o4] [.inl s0] D Q =
  ((s0 = 0 → WP 124 xF1 none 52 21 [some (.inr (.inr (some a0))), some (.inr (.inr (some a1))), some (.inl x2), some (.inl 0), o4] [] D Q) ∧ (¬ (s0 = 0) → Q none D)) :=
  (WP.if0 rfl).trans <| br_eq ((WP.kI rfl).trans <| WP.stI rfl rfl) (WP.ret rfl rfl)
theorem seg52_21 (a0 : Nat) (a1 : Nat) (x2 : Int) (x3 : Int) (o4 : Option xv) (D : xD) (Q : Option xv → xD → Prop) (ha0 : xisO 124 a0 4 = true) (ha1 : xisO 124 a1 6 = true) :
  WP 124 xF1 none 52 21 [some (.inr (.inr (some a0))), some (.inr (.inr (some a1))), some (.inl x2), some (.inl x3), o4] [] D Q =
  ((x2 ≤ x3 → Q none D) ∧ (¬ (x2 ≤ x3) → (xinP (x3 + 1)) ∧ WP 124 xF1 none 52 31 [some (.inr (.inr (some a0))), some (.inr (.inr (some a1))), some (.inl x2), some (.inl x3), some (.inl (x3 + 1))] [] D Q)) :=
  (WP.ldI rfl rfl).trans <| (WP.ldI rfl rfl).trans <| (WP.ic3 rfl).trans <| br_eq (WP.ret rfl rfl) ((WP.ldI rfl rfl).trans <| (WP.kI rfl).trans <| (WP.iadd rfl).trans <| cn_eq (WP.stI rfl rfl))
theorem seg52_31 (a0 : Nat) (a1 : Nat) (x2 : Int) (x3 : Int) (x4 : Int) (D : xD) (Q : Option xv → xD → Prop) (ha0 : xisO 124 a0 4 = true) (ha1 : xisO 124 a1 6 = true) :
  WP 124 xF1 none 52 31 [some (.inr (.inr (some a0))), some (.inr (.inr (some a1))), some (.inl x2), some (.inl x3), some (.inl x4)] [] D Q =
  ((x2 < x4 → (xinP (x3 + 1)) ∧ WP 124 xF1 none 52 21 [some (.inr (.inr (some a0))), some (.inr (.inr (some a1))), some (.inl x2), some (.inl (x3 + 1)), some (.inl x4)] [] D Q) ∧ (¬ (x2 < x4) → WP 124 xF1 none 53 0 [some (.inr (.inr (some a0))), some (.inr (.inr (some a1))), some (.inl x3), some (.inl x4), none, none] [] D (fun v D9 => WP 124 xF1 none 52 45 [some (.inr (.inr (some a0))), some (.inr (.inr (some a1))), some (.inl x2), some (.inl x3), some (.inl x4)] (v.toList ++ []) D9 Q))) :=
  (WP.ldI rfl rfl).trans <| (WP.ldI rfl rfl).trans <| (WP.ic4 rfl).trans <| br_eq ((WP.iinc rfl rfl rfl).trans <| cn_eq (WP.goto rfl)) ((WP.ldR rfl rfl).trans <| (WP.ldR rfl rfl).trans <| (WP.ldI rfl rfl).trans <| (WP.ldI rfl rfl).trans <| WP.call rfl rfl (crv (r := xrecv 124 53 [.inr (.inr (some a0)), .inr (.inr (some a1)), .inl x3, .inl x4]) ha0 rfl rfl rfl) rfl)
theorem seg52_45 (a0 : Nat) (a1 : Nat) (x2 : Int) (x3 : Int) (x4 : Int) (s0 : Int) (D : xD) (Q : Option xv → xD → Prop) (ha0 : xisO 124 a0 4 = true) (ha1 : xisO 124 a1 6 = true) :
  WP 124 xF1 none 52 45 [some (.inr (.inr (some a0))), some (.inr (.inr (some a1))), some (.inl x2), some (.inl x3), some (.inl x4)] [.inl s0] D Q =
  ((s0 = 0 → (xinP (x4 + 1)) ∧ WP 124 xF1 none 52 31 [some (.inr (.inr (some a0))), some (.inr (.inr (some a1))), some (.inl x2), some (.inl x3), some (.inl (x4 + 1))] [] D Q) ∧ (¬ (s0 = 0) → Q none (xup (xup D a0 7 x3) a0 8 x4))) :=
  (WP.if0 rfl).trans <| br_eq ((WP.iinc rfl rfl rfl).trans <| cn_eq (WP.goto rfl)) ((WP.ldR rfl rfl).trans <| (WP.ldI rfl rfl).trans <| (WP.putI rfl ha0).trans <| (WP.ldR rfl rfl).trans <| (WP.ldI rfl rfl).trans <| (WP.putI rfl ha0).trans <| WP.ret rfl rfl)
theorem seg53_0 (a0 : Nat) (a1 : Nat) (x2 : Int) (x3 : Int) (o4 : Option xv) (o5 : Option xv) (D : xD) (Q : Option xv → xD → Prop) (ha0 : xisO 124 a0 4 = true) (ha1 : xisO 124 a1 6 = true) :
  WP 124 xF1 none 53 0 [some (.inr (.inr (some a0))), some (.inr (.inr (some a1))), some (.inl x2), some (.inl x3), o4, o5] [] D Q =
  ((xinP (x2 * 13)) ∧ (xinP ((x2 * 13) + x3)) ∧ ((0 : Int) ≤ ((x2 * 13) + x3) ∧ ((x2 * 13) + x3) < (169 : Int)) ∧ ((D (a0 + 15) ((x2 * 13) + x3)) ≠ 0 → WP 124 xF1 none 53 130 [some (.inr (.inr (some a0))), some (.inr (.inr (some a1))), some (.inl x2), some (.inl x3), some (.inl ((x2 * 13) + x3)), o5] [] D Q) ∧ (¬ ((D (a0 + 15) ((x2 * 13) + x3)) ≠ 0) → WP 124 xF1 none 53 21 [some (.inr (.inr (some a0))), some (.inr (.inr (some a1))), some (.inl x2), some (.inl x3), some (.inl ((x2 * 13) + x3)), some (.inl 0)] [] D Q)) :=
  (WP.ldI rfl rfl).trans <| (WP.kI rfl).trans <| (WP.imul rfl).trans <| cn_eq ((WP.ldI rfl rfl).trans <| (WP.iadd rfl).trans <| cn_eq ((WP.stI rfl rfl).trans <| (WP.ldR rfl rfl).trans <| (WP.getR (b := (a0 + 15)) rfl ha0 rfl rfl).trans <| (WP.ldI rfl rfl).trans <| (WP.iald rfl (so_4_5 ha0)).trans <| cn_eq ((WP.if1 rfl).trans <| br_eq rfl ((WP.kI rfl).trans <| WP.stI rfl rfl))))
theorem seg53_21 (a0 : Nat) (a1 : Nat) (x2 : Int) (x3 : Int) (x4 : Int) (x5 : Int) (D : xD) (Q : Option xv → xD → Prop) (ha0 : xisO 124 a0 4 = true) (ha1 : xisO 124 a1 6 = true) :
  WP 124 xF1 none 53 21 [some (.inr (.inr (some a0))), some (.inr (.inr (some a1))), some (.inl x2), some (.inl x3), some (.inl x4), some (.inl x5)] [] D Q =
  ((13 ≤ x5 → WP 124 xF1 none 27 0 [some (.inr (.inr (some (a0 + 1)))), some (.inr (.inr (some (a1 + 1)))), some (.inl (D a1 1)), some (.inl 0), none] [] D (fun v D9 => WP 124 xF1 none 53 78 [some (.inr (.inr (some a0))), some (.inr (.inr (some a1))), some (.inl x2), some (.inl x3), some (.inl x4), some (.inl x5)] (v.toList ++ []) D9 Q)) ∧ (¬ (13 ≤ x5) → (x2 < x5 → (x3 < x5 → WP 124 xF1 none 53 55 [some (.inr (.inr (some a0))), some (.inr (.inr (some a1))), some (.inl x2), some (.inl x3), some (.inl x4), some (.inl x5)] [.inl 0, .inl x5, .inr (.inr (some (a0 + 16)))] D Q) ∧ (¬ (x3 < x5) → WP 124 xF1 none 53 55 [some (.inr (.inr (some a0))), some (.inr (.inr (some a1))), some (.inl x2), some (.inl x3), some (.inl x4), some (.inl x5)] [.inl 1, .inl x5, .inr (.inr (some (a0 + 16)))] D Q)) ∧ (¬ (x2 < x5) → WP 124 xF1 none 53 55 [some (.inr (.inr (some a0))), some (.inr (.inr (some a1))), some (.inl x2), some (.inl x3), some (.inl x4), some (.inl x5)] [.inl 2, .inl x5, .inr (.inr (some (a0 + 16)))] D Q))) :=
  (WP.ldI rfl rfl).trans <| (WP.kI rfl).trans <| (WP.ic3 rfl).trans <| br_eq ((WP.ldR rfl rfl).trans <| (WP.getR (b := (a0 + 1)) rfl ha0 rfl rfl).trans <| (WP.ldR rfl rfl).trans <| (WP.getR (b := (a1 + 1)) rfl ha1 rfl rfl).trans <| (WP.ldR rfl rfl).trans <| (WP.getI rfl ha1).trans <| (WP.kI rfl).trans <| WP.call rfl rfl (crv (r := xrecv 124 27 [.inr (.inr (some (a0 + 1))), .inr (.inr (some (a1 + 1))), .inl (D a1 1), .inl 0]) (so_4_0 ha0) rfl rfl rfl) rfl) ((WP.ldR rfl rfl).trans <| (WP.getR (b := (a0 + 16)) rfl ha0 rfl rfl).trans <| (WP.ldI rfl rfl).trans <| (WP.ldI rfl rfl).trans <| (WP.ldI rfl rfl).trans <| (WP.ic4 rfl).trans <| br_eq ((WP.ldI rfl rfl).trans <| (WP.ldI rfl rfl).trans <| (WP.ic4 rfl).trans <| br_eq (WP.kI rfl) ((WP.kI rfl).trans <| WP.goto rfl)) ((WP.kI rfl).trans <| WP.goto rfl))
theorem seg53_55 (a0 : Nat) (a1 : Nat) (x2 : Int) (x3 : Int) (x4 : Int) (x5 : Int) (s0 : Int) (s1 : Int) (b2 : Nat) (Lb2 : Nat) (D : xD) (Q : Option xv → xD → Prop) (ha0 : xisO 124 a0 4 = true) (ha1 : xisO 124 a1 6 = true) (hb2 : xalen none 124 b2 = some Lb2) :
  WP 124 xF1 none 53 55 [some (.inr (.inr (some a0))), some (.inr (.inr (some a1))), some (.inl x2), some (.inl x3), some (.inl x4), some (.inl x5)] [.inl s0, .inl s1, .inr (.inr (some b2))] D Q =
  (((0 : Int) ≤ s1 ∧ s1 < (Lb2 : Int)) ∧ (xinP (x5 + 1)) ∧ WP 124 xF1 none 53 21 [some (.inr (.inr (some a0))), some (.inr (.inr (some a1))), some (.inl x2), some (.inl x3), some (.inl x4), some (.inl (x5 + 1))] [] (xup D b2 s1 s0) Q) :=
  (WP.iast rfl hb2).trans <| cn_eq ((WP.iinc rfl rfl rfl).trans <| cn_eq (WP.goto rfl))
theorem seg53_78 (a0 : Nat) (a1 : Nat) (x2 : Int) (x3 : Int) (x4 : Int) (x5 : Int) (D : xD) (Q : Option xv → xD → Prop) (ha0 : xisO 124 a0 4 = true) (ha1 : xisO 124 a1 6 = true) :
  WP 124 xF1 none 53 78 [some (.inr (.inr (some a0))), some (.inr (.inr (some a1))), some (.inl x2), some (.inl x3), some (.inl x4), some (.inl x5)] [] D Q =
  (WP 124 xF1 none 42 0 [some (.inr (.inr (some (a0 + 1)))), some (.inl x3), some (.inr (.inr (some (a0 + 16)))), none, none, none] [] D (fun v D9 => WP 124 xF1 none 53 90 [some (.inr (.inr (some a0))), some (.inr (.inr (some a1))), some (.inl x2), some (.inl x3), some (.inl x4), some (.inl x5)] (v.toList ++ []) D9 Q)) :=
  (WP.ldR rfl rfl).trans <| (WP.getR (b := (a0 + 1)) rfl ha0 rfl rfl).trans <| (WP.ldI rfl rfl).trans <| (WP.ldR rfl rfl).trans <| (WP.getR (b := (a0 + 16)) rfl ha0 rfl rfl).trans <| WP.call rfl rfl (crv (r := xrecv 124 42 [.inr (.inr (some (a0 + 1))), .inl x3, .inr (.inr (some (a0 + 16)))]) (so_4_0 ha0) rfl rfl rfl) rfl
theorem seg53_90 (a0 : Nat) (a1 : Nat) (x2 : Int) (x3 : Int) (x4 : Int) (x5 : Int) (s0 : Int) (D : xD) (Q : Option xv → xD → Prop) (ha0 : xisO 124 a0 4 = true) (ha1 : xisO 124 a1 6 = true) :
  WP 124 xF1 none 53 90 [some (.inr (.inr (some a0))), some (.inr (.inr (some a1))), some (.inl x2), some (.inl x3), some (.inl x4), some (.inl x5)] [.inl s0] D Q =
  (((0 : Int) ≤ x2 ∧ x2 < (13 : Int)) ∧ ((0 : Int) ≤ x3 ∧ x3 < (13 : Int)) ∧ (xinP ((D (a0 + 12) x2) + (D (a0 + 12) x3))) ∧ (s0 ≠ ((D (a0 + 12) x2) + (D (a0 + 12) x3)) → WP 124 xF1 none 53 111 [some (.inr (.inr (some a0))), some (.inr (.inr (some a1))), some (.inl x2), some (.inl x3), some (.inl x4), some (.inl x5)] [.inl 0] D Q) ∧ (¬ (s0 ≠ ((D (a0 + 12) x2) + (D (a0 + 12) x3))) → WP 124 xF1 none 53 111 [some (.inr (.inr (some a0))), some (.inr (.inr (some a1))), some (.inl x2), some (.inl x3), some (.inl x4), some (.inl x5)] [.inl 1] D Q)) :=
  (WP.ldR rfl rfl).trans <| (WP.getR (b := (a0 + 12)) rfl ha0 rfl rfl).trans <| (WP.ldI rfl rfl).trans <| (WP.iald rfl (so_4_2 ha0)).trans <| cn_eq ((WP.ldR rfl rfl).trans <| (WP.getR (b := (a0 + 12)) rfl ha0 rfl rfl).trans <| (WP.ldI rfl rfl).trans <| (WP.iald rfl (so_4_2 ha0)).trans <| cn_eq ((WP.iadd rfl).trans <| cn_eq ((WP.ic1 rfl).trans <| br_eq (WP.kI rfl) ((WP.kI rfl).trans <| WP.goto rfl))))
theorem seg53_111 (a0 : Nat) (a1 : Nat) (x2 : Int) (x3 : Int) (x4 : Int) (x5 : Int) (s0 : Int) (D : xD) (Q : Option xv → xD → Prop) (ha0 : xisO 124 a0 4 = true) (ha1 : xisO 124 a1 6 = true) :
  WP 124 xF1 none 53 111 [some (.inr (.inr (some a0))), some (.inr (.inr (some a1))), some (.inl x2), some (.inl x3), some (.inl x4), some (.inl x5)] [.inl s0] D Q =
  ((s0 = 0 → WP 124 xF1 none 53 129 [some (.inr (.inr (some a0))), some (.inr (.inr (some a1))), some (.inl x2), some (.inl x3), some (.inl x4), some (.inl s0)] [.inl 2, .inl x4, .inr (.inr (some (a0 + 15)))] D Q) ∧ (¬ (s0 = 0) → WP 124 xF1 none 53 129 [some (.inr (.inr (some a0))), some (.inr (.inr (some a1))), some (.inl x2), some (.inl x3), some (.inl x4), some (.inl s0)] [.inl 1, .inl x4, .inr (.inr (some (a0 + 15)))] D Q)) :=
  (WP.stI rfl rfl).trans <| (WP.ldR rfl rfl).trans <| (WP.getR (b := (a0 + 15)) rfl ha0 rfl rfl).trans <| (WP.ldI rfl rfl).trans <| (WP.ldI rfl rfl).trans <| (WP.if0 rfl).trans <| br_eq (WP.kI rfl) ((WP.kI rfl).trans <| WP.goto rfl)
theorem seg53_129 (a0 : Nat) (a1 : Nat) (x2 : Int) (x3 : Int) (x4 : Int) (x5 : Int) (s0 : Int) (s1 : Int) (b2 : Nat) (Lb2 : Nat) (D : xD) (Q : Option xv → xD → Prop) (ha0 : xisO 124 a0 4 = true) (ha1 : xisO 124 a1 6 = true) (hb2 : xalen none 124 b2 = some Lb2) :
  WP 124 xF1 none 53 129 [some (.inr (.inr (some a0))), some (.inr (.inr (some a1))), some (.inl x2), some (.inl x3), some (.inl x4), some (.inl x5)] [.inl s0, .inl s1, .inr (.inr (some b2))] D Q =
  (((0 : Int) ≤ s1 ∧ s1 < (Lb2 : Int)) ∧ WP 124 xF1 none 53 130 [some (.inr (.inr (some a0))), some (.inr (.inr (some a1))), some (.inl x2), some (.inl x3), some (.inl x4), some (.inl x5)] [] (xup D b2 s1 s0) Q) :=
  WP.iast rfl hb2
theorem seg53_130 (a0 : Nat) (a1 : Nat) (x2 : Int) (x3 : Int) (x4 : Int) (o5 : Option xv) (D : xD) (Q : Option xv → xD → Prop) (ha0 : xisO 124 a0 4 = true) (ha1 : xisO 124 a1 6 = true) :
  WP 124 xF1 none 53 130 [some (.inr (.inr (some a0))), some (.inr (.inr (some a1))), some (.inl x2), some (.inl x3), some (.inl x4), o5] [] D Q =
  (((0 : Int) ≤ x4 ∧ x4 < (169 : Int)) ∧ ((D (a0 + 15) x4) ≠ 2 → WP 124 xF1 none 53 146 [some (.inr (.inr (some a0))), some (.inr (.inr (some a1))), some (.inl x2), some (.inl x3), some (.inl x4), o5] [.inl 0] D Q) ∧ (¬ ((D (a0 + 15) x4) ≠ 2) → WP 124 xF1 none 53 146 [some (.inr (.inr (some a0))), some (.inr (.inr (some a1))), some (.inl x2), some (.inl x3), some (.inl x4), o5] [.inl 1] D Q)) :=
  (WP.ldR rfl rfl).trans <| (WP.getR (b := (a0 + 15)) rfl ha0 rfl rfl).trans <| (WP.ldI rfl rfl).trans <| (WP.iald rfl (so_4_5 ha0)).trans <| cn_eq ((WP.kI rfl).trans <| (WP.ic1 rfl).trans <| br_eq (WP.kI rfl) ((WP.kI rfl).trans <| WP.goto rfl))
theorem seg53_146 (a0 : Nat) (a1 : Nat) (x2 : Int) (x3 : Int) (x4 : Int) (o5 : Option xv) (s0 : Int) (D : xD) (Q : Option xv → xD → Prop) (ha0 : xisO 124 a0 4 = true) (ha1 : xisO 124 a1 6 = true) :
  WP 124 xF1 none 53 146 [some (.inr (.inr (some a0))), some (.inr (.inr (some a1))), some (.inl x2), some (.inl x3), some (.inl x4), o5] [.inl s0] D Q =
  ((s0 = 0 ∨ s0 = 1) ∧ Q (some (.inl s0)) D) :=
  WP.retZ rfl rfl
theorem seg54_0 (a0 : Nat) (a1 : Nat) (o2 : Option xv) (o3 : Option xv) (o4 : Option xv) (o5 : Option xv) (D : xD) (Q : Option xv → xD → Prop) (ha0 : xisO 124 a0 4 = true) (ha1 : xisO 124 a1 7 = true) :
  WP 124 xF1 none 54 0 [some (.inr (.inr (some a0))), some (.inr (.inr (some a1))), o2, o3, o4, o5] [] D Q =
  (((D a0 9) = 0 → WP 124 xF1 none 54 26 [some (.inr (.inr (some a0))), some (.inr (.inr (some a1))), some (.inl 13), some (.inl 0), some (.inl 0), o5] [] (xup (xup D a0 9 1) a0 10 0) Q) ∧ (¬ ((D a0 9) = 0) → Q none D)) :=
  (WP.ldR rfl rfl).trans <| (WP.getI rfl ha0).trans <| (WP.if0 rfl).trans <| br_eq ((WP.ldR rfl rfl).trans <| (WP.kI rfl).trans <| (WP.putZ1 rfl ha0).trans <| (WP.ldR rfl rfl).trans <| (WP.kI rfl).trans <| (WP.putI rfl ha0).trans <| (WP.kI rfl).trans <| (WP.stI rfl rfl).trans <| (WP.kI rfl).trans <| (WP.stI rfl rfl).trans <| (WP.kI rfl).trans <| WP.stI rfl rfl) (WP.ret rfl rfl)
theorem seg54_26 (a0 : Nat) (a1 : Nat) (x2 : Int) (x3 : Int) (x4 : Int) (o5 : Option xv) (D : xD) (Q : Option xv → xD → Prop) (ha0 : xisO 124 a0 4 = true) (ha1 : xisO 124 a1 7 = true) :
  WP 124 xF1 none 54 26 [some (.inr (.inr (some a0))), some (.inr (.inr (some a1))), some (.inl x2), some (.inl x3), some (.inl x4), o5] [] D Q =
  ((32 ≤ x4 → WP 124 xF1 none 54 81 [some (.inr (.inr (some a0))), some (.inr (.inr (some a1))), some (.inl x2), some (.inl x3), some (.inl x4), o5] [] D Q) ∧ (¬ (32 ≤ x4) → WP 124 xF1 none 55 0 [some (.inr (.inr (some a0))), some (.inr (.inr (some a1))), some (.inl x3), some (.inl x2), none, none, none] [] D (fun v D9 => WP 124 xF1 none 54 40 [some (.inr (.inr (some a0))), some (.inr (.inr (some a1))), some (.inl x2), some (.inl x3), some (.inl x4), o5] (v.toList ++ []) D9 Q))) :=
  (WP.ldI rfl rfl).trans <| (WP.kI rfl).trans <| (WP.ic3 rfl).trans <| br_eq rfl ((WP.ldR rfl rfl).trans <| (WP.ldR rfl rfl).trans <| (WP.ldI rfl rfl).trans <| (WP.ldI rfl rfl).trans <| WP.call rfl rfl (crv (r := xrecv 124 55 [.inr (.inr (some a0)), .inr (.inr (some a1)), .inl x3, .inl x2]) ha0 rfl rfl rfl) rfl)
theorem seg54_40 (a0 : Nat) (a1 : Nat) (x2 : Int) (x3 : Int) (x4 : Int) (o5 : Option xv) (s0 : Int) (D : xD) (Q : Option xv → xD → Prop) (ha0 : xisO 124 a0 4 = true) (ha1 : xisO 124 a1 7 = true) :
  WP 124 xF1 none 54 40 [some (.inr (.inr (some a0))), some (.inr (.inr (some a1))), some (.inl x2), some (.inl x3), some (.inl x4), o5] [.inl s0] D Q =
  ((s0 = (-1) → WP 124 xF1 none 54 56 [some (.inr (.inr (some a0))), some (.inr (.inr (some a1))), some (.inl x2), some (.inl x3), some (.inl x4), some (.inl s0)] [] D Q) ∧ (¬ (s0 = (-1)) → WP 124 xF1 none 54 56 [some (.inr (.inr (some a0))), some (.inr (.inr (some a1))), some (.inl s0), some (.inl x3), some (.inl x4), some (.inl s0)] [] (xup D a0 10 x3) Q)) :=
  (WP.stI rfl rfl).trans <| (WP.ldI rfl rfl).trans <| (WP.kI rfl).trans <| (WP.ic0 rfl).trans <| br_eq rfl ((WP.ldR rfl rfl).trans <| (WP.ldI rfl rfl).trans <| (WP.putI rfl ha0).trans <| (WP.ldI rfl rfl).trans <| WP.stI rfl rfl)
theorem seg54_56 (a0 : Nat) (a1 : Nat) (x2 : Int) (x3 : Int) (x4 : Int) (x5 : Int) (D : xD) (Q : Option xv → xD → Prop) (ha0 : xisO 124 a0 4 = true) (ha1 : xisO 124 a1 7 = true) :
  WP 124 xF1 none 54 56 [some (.inr (.inr (some a0))), some (.inr (.inr (some a1))), some (.inl x2), some (.inl x3), some (.inl x4), some (.inl x5)] [] D Q =
  ((xinP (x3 - (D a1 13))) ∧ ((iand (x3 - (D a1 13)) (D a1 13)) ≠ 0 → (xinP (x4 + 1)) ∧ WP 124 xF1 none 54 26 [some (.inr (.inr (some a0))), some (.inr (.inr (some a1))), some (.inl x2), some (.inl (iand (x3 - (D a1 13)) (D a1 13))), some (.inl (x4 + 1)), some (.inl x5)] [] D Q) ∧ (¬ ((iand (x3 - (D a1 13)) (D a1 13)) ≠ 0) → WP 124 xF1 none 54 81 [some (.inr (.inr (some a0))), some (.inr (.inr (some a1))), some (.inl x2), some (.inl (iand (x3 - (D a1 13)) (D a1 13))), some (.inl x4), some (.inl x5)] [] D Q)) :=
  (WP.ldI rfl rfl).trans <| (WP.ldR rfl rfl).trans <| (WP.getI rfl ha1).trans <| (WP.isub rfl).trans <| cn_eq ((WP.ldR rfl rfl).trans <| (WP.getI rfl ha1).trans <| (WP.iand rfl).trans <| (WP.stI rfl rfl).trans <| (WP.ldI rfl rfl).trans <| (WP.if1 rfl).trans <| br_eq ((WP.iinc rfl rfl rfl).trans <| cn_eq (WP.goto rfl)) (WP.goto rfl))
theorem seg54_81 (a0 : Nat) (a1 : Nat) (x2 : Int) (x3 : Int) (x4 : Int) (o5 : Option xv) (D : xD) (Q : Option xv → xD → Prop) (ha0 : xisO 124 a0 4 = true) (ha1 : xisO 124 a1 7 = true) :
  WP 124 xF1 none 54 81 [some (.inr (.inr (some a0))), some (.inr (.inr (some a1))), some (.inl x2), some (.inl x3), some (.inl x4), o5] [] D Q =
  ((13 ≤ x2 → WP 124 xF1 none 54 93 [some (.inr (.inr (some a0))), some (.inr (.inr (some a1))), some (.inl x2), some (.inl x3), some (.inl x4), o5] [.inl (-1), .inr (.inr (some a0))] D Q) ∧ (¬ (13 ≤ x2) → WP 124 xF1 none 54 93 [some (.inr (.inr (some a0))), some (.inr (.inr (some a1))), some (.inl x2), some (.inl x3), some (.inl x4), o5] [.inl x2, .inr (.inr (some a0))] D Q)) :=
  (WP.ldR rfl rfl).trans <| (WP.ldI rfl rfl).trans <| (WP.kI rfl).trans <| (WP.ic3 rfl).trans <| br_eq (WP.kI rfl) ((WP.ldI rfl rfl).trans <| WP.goto rfl)
theorem seg54_93 (a0 : Nat) (a1 : Nat) (x2 : Int) (x3 : Int) (x4 : Int) (o5 : Option xv) (s0 : Int) (b1 : Nat) (D : xD) (Q : Option xv → xD → Prop) (ha0 : xisO 124 a0 4 = true) (ha1 : xisO 124 a1 7 = true) (hb1 : xisO 124 b1 4 = true) :
  WP 124 xF1 none 54 93 [some (.inr (.inr (some a0))), some (.inr (.inr (some a1))), some (.inl x2), some (.inl x3), some (.inl x4), o5] [.inl s0, .inr (.inr (some b1))] D Q =
  (Q none (xup D b1 11 s0)) :=
  (WP.putI rfl hb1).trans <| WP.ret rfl rfl
theorem seg55_0 (a0 : Nat) (a1 : Nat) (x2 : Int) (x3 : Int) (o4 : Option xv) (o5 : Option xv) (o6 : Option xv) (D : xD) (Q : Option xv → xD → Prop) (ha0 : xisO 124 a0 4 = true) (ha1 : xisO 124 a1 7 = true) :
  WP 124 xF1 none 55 0 [some (.inr (.inr (some a0))), some (.inr (.inr (some a1))), some (.inl x2), some (.inl x3), o4, o5, o6] [] D Q =
  (WP 124 xF1 none 27 0 [some (.inr (.inr (some (a0 + 1)))), some (.inr (.inr (some a1))), some (.inl x2), some (.inl 0), none] [] D (fun v D9 => WP 124 xF1 none 55 10 [some (.inr (.inr (some a0))), some (.inr (.inr (some a1))), some (.inl x2), some (.inl x3), o4, o5, o6] (v.toList ++ []) D9 Q)) :=
  (WP.ldR rfl rfl).trans <| (WP.getR (b := (a0 + 1)) rfl ha0 rfl rfl).trans <| (WP.ldR rfl rfl).trans <| (WP.ldI rfl rfl).trans <| (WP.kI rfl).trans <| WP.call rfl rfl (crv (r := xrecv 124 27 [.inr (.inr (some (a0 + 1))), .inr (.inr (some a1)), .inl x2, .inl 0]) (so_4_0 ha0) rfl rfl rfl) rfl
theorem seg55_10 (a0 : Nat) (a1 : Nat) (x2 : Int) (x3 : Int) (o4 : Option xv) (o5 : Option xv) (o6 : Option xv) (D : xD) (Q : Option xv → xD → Prop) (ha0 : xisO 124 a0 4 = true) (ha1 : xisO 124 a1 7 = true) :
  WP 124 xF1 none 55 10 [some (.inr (.inr (some a0))), some (.inr (.inr (some a1))), some (.inl x2), some (.inl x3), o4, o5, o6] [] D Q =
  (WP 124 xF1 none 100 0 [some (.inr (.inr (some a1))), none, none] [] D (fun v D9 => WP 124 xF1 none 55 14 [some (.inr (.inr (some a0))), some (.inr (.inr (some a1))), some (.inl x2), some (.inl x3), o4, o5, o6] (v.toList ++ []) D9 Q)) :=
  (WP.ldR rfl rfl).trans <| WP.call rfl rfl (crv (r := xrecv 124 100 [.inr (.inr (some a1))]) ha1 rfl rfl rfl) rfl
theorem seg55_14 (a0 : Nat) (a1 : Nat) (x2 : Int) (x3 : Int) (o4 : Option xv) (o5 : Option xv) (o6 : Option xv) (s0 : Int) (D : xD) (Q : Option xv → xD → Prop) (ha0 : xisO 124 a0 4 = true) (ha1 : xisO 124 a1 7 = true) :
  WP 124 xF1 none 55 14 [some (.inr (.inr (some a0))), some (.inr (.inr (some a1))), some (.inl x2), some (.inl x3), o4, o5, o6] [.inl s0] D Q =
  (WP 124 xF1 none 55 22 [some (.inr (.inr (some a0))), some (.inr (.inr (some a1))), some (.inl x2), some (.inl x3), some (.inl s0), some (.inl 0), some (.inl 0)] [] D Q) :=
  (WP.stI rfl rfl).trans <| (WP.kI rfl).trans <| (WP.stI rfl rfl).trans <| (WP.kI rfl).trans <| WP.stI rfl rfl
theorem seg55_22 (a0 : Nat) (a1 : Nat) (x2 : Int) (x3 : Int) (x4 : Int) (x5 : Int) (x6 : Int) (D : xD) (Q : Option xv → xD → Prop) (ha0 : xisO 124 a0 4 = true) (ha1 : xisO 124 a1 7 = true) :
  WP 124 xF1 none 55 22 [some (.inr (.inr (some a0))), some (.inr (.inr (some a1))), some (.inl x2), some (.inl x3), some (.inl x4), some (.inl x5), some (.inl x6)] [] D Q =
  ((x3 ≤ x6 → WP 124 xF1 none 55 65 [some (.inr (.inr (some a0))), some (.inr (.inr (some a1))), some (.inl x2), some (.inl x3), some (.inl x4), some (.inl x5), some (.inl x6)] [] D Q) ∧ (¬ (x3 ≤ x6) → (13 ≤ x6 → WP 124 xF1 none 55 65 [some (.inr (.inr (some a0))), some (.inr (.inr (some a1))), some (.inl x2), some (.inl x3), some (.inl x4), some (.inl x5), some (.inl x6)] [] D Q) ∧ (¬ (13 ≤ x6) → WP 124 xF1 none 36 0 [some (.inr (.inr (some (a0 + 1)))), some (.inl x6), none, none] [] D (fun v D9 => WP 124 xF1 none 55 46 [some (.inr (.inr (some a0))), some (.inr (.inr (some a1))), some (.inl x2), some (.inl x3), some (.inl x4), some (.inl x5), some (.inl x6)] (v.toList ++ [.inl x5]) D9 Q)))) :=
  (WP.ldI rfl rfl).trans <| (WP.ldI rfl rfl).trans <| (WP.ic3 rfl).trans <| br_eq rfl ((WP.ldI rfl rfl).trans <| (WP.kI rfl).trans <| (WP.ic3 rfl).trans <| br_eq rfl ((WP.ldI rfl rfl).trans <| (WP.ldR rfl rfl).trans <| (WP.getR (b := (a0 + 1)) rfl ha0 rfl rfl).trans <| (WP.ldI rfl rfl).trans <| WP.call rfl rfl (crv (r := xrecv 124 36 [.inr (.inr (some (a0 + 1))), .inl x6]) (so_4_0 ha0) rfl rfl rfl) rfl))
theorem seg55_46 (a0 : Nat) (a1 : Nat) (x2 : Int) (x3 : Int) (x4 : Int) (x5 : Int) (x6 : Int) (s0 : Int) (s1 : Int) (D : xD) (Q : Option xv → xD → Prop) (ha0 : xisO 124 a0 4 = true) (ha1 : xisO 124 a1 7 = true) :
  WP 124 xF1 none 55 46 [some (.inr (.inr (some a0))), some (.inr (.inr (some a1))), some (.inl x2), some (.inl x3), some (.inl x4), some (.inl x5), some (.inl x6)] [.inl s0, .inl s1] D Q =
  ((xinP (s1 + s0)) ∧ ((s1 + s0) ≠ x4 → (xinP (x6 + 1)) ∧ WP 124 xF1 none 55 22 [some (.inr (.inr (some a0))), some (.inr (.inr (some a1))), some (.inl x2), some (.inl x3), some (.inl x4), some (.inl (s1 + s0)), some (.inl (x6 + 1))] [] D Q) ∧ (¬ ((s1 + s0) ≠ x4) → Q (some (.inl x6)) D)) :=
  (WP.iadd rfl).trans <| cn_eq ((WP.stI rfl rfl).trans <| (WP.ldI rfl rfl).trans <| (WP.ldI rfl rfl).trans <| (WP.ic1 rfl).trans <| br_eq ((WP.iinc rfl rfl rfl).trans <| cn_eq (WP.goto rfl)) ((WP.ldI rfl rfl).trans <| WP.ret rfl rfl))
theorem seg55_65 (a0 : Nat) (a1 : Nat) (x2 : Int) (x3 : Int) (x4 : Int) (x5 : Int) (x6 : Int) (D : xD) (Q : Option xv → xD → Prop) (ha0 : xisO 124 a0 4 = true) (ha1 : xisO 124 a1 7 = true) :
  WP 124 xF1 none 55 65 [some (.inr (.inr (some a0))), some (.inr (.inr (some a1))), some (.inl x2), some (.inl x3), some (.inl x4), some (.inl x5), some (.inl x6)] [] D Q =
  (Q (some (.inl (-1))) D) :=
  (WP.kI rfl).trans <| WP.ret rfl rfl
theorem seg56_0 (a0 : Nat) (a1 : Nat) (x2 : Int) (o3 : Option xv) (o4 : Option xv) (D : xD) (Q : Option xv → xD → Prop) (ha0 : xisO 124 a0 4 = true) (ha1 : xisO 124 a1 6 = true) :
  WP 124 xF1 none 56 0 [some (.inr (.inr (some a0))), some (.inr (.inr (some a1))), some (.inl x2), o3, o4] [] D Q =
  (WP 124 xF1 none 27 0 [some (.inr (.inr (some (a0 + 1)))), some (.inr (.inr (some (a1 + 1)))), some (.inl (D a1 1)), some (.inl 0), none] [] D (fun v D9 => WP 124 xF1 none 56 16 [some (.inr (.inr (some a0))), some (.inr (.inr (some a1))), some (.inl x2), o3, o4] (v.toList ++ []) D9 Q)) :=
  (WP.ldR rfl rfl).trans <| (WP.getR (b := (a0 + 1)) rfl ha0 rfl rfl).trans <| (WP.ldR rfl rfl).trans <| (WP.getR (b := (a1 + 1)) rfl ha1 rfl rfl).trans <| (WP.ldR rfl rfl).trans <| (WP.getI rfl ha1).trans <| (WP.kI rfl).trans <| WP.call rfl rfl (crv (r := xrecv 124 27 [.inr (.inr (some (a0 + 1))), .inr (.inr (some (a1 + 1))), .inl (D a1 1), .inl 0]) (so_4_0 ha0) rfl rfl rfl) rfl
theorem seg56_16 (a0 : Nat) (a1 : Nat) (x2 : Int) (o3 : Option xv) (o4 : Option xv) (D : xD) (Q : Option xv → xD → Prop) (ha0 : xisO 124 a0 4 = true) (ha1 : xisO 124 a1 6 = true) :
  WP 124 xF1 none 56 16 [some (.inr (.inr (some a0))), some (.inr (.inr (some a1))), some (.inl x2), o3, o4] [] D Q =
  (WP 124 xF1 none 36 0 [some (.inr (.inr (some (a0 + 1)))), some (.inl x2), none, none] [] D (fun v D9 => WP 124 xF1 none 56 24 [some (.inr (.inr (some a0))), some (.inr (.inr (some a1))), some (.inl x2), o3, o4] (v.toList ++ []) D9 Q)) :=
  (WP.ldR rfl rfl).trans <| (WP.getR (b := (a0 + 1)) rfl ha0 rfl rfl).trans <| (WP.ldI rfl rfl).trans <| WP.call rfl rfl (crv (r := xrecv 124 36 [.inr (.inr (some (a0 + 1))), .inl x2]) (so_4_0 ha0) rfl rfl rfl) rfl
theorem seg56_24 (a0 : Nat) (a1 : Nat) (x2 : Int) (o3 : Option xv) (o4 : Option xv) (s0 : Int) (D : xD) (Q : Option xv → xD → Prop) (ha0 : xisO 124 a0 4 = true) (ha1 : xisO 124 a1 6 = true) :
  WP 124 xF1 none 56 24 [some (.inr (.inr (some a0))), some (.inr (.inr (some a1))), some (.inl x2), o3, o4] [.inl s0] D Q =
  (WP 124 xF1 none 33 0 [some (.inr (.inr (some (a0 + 1))))] [] D (fun v D9 => WP 124 xF1 none 56 32 [some (.inr (.inr (some a0))), some (.inr (.inr (some a1))), some (.inl x2), o3, o4] (v.toList ++ []) D9 Q)) :=
  (WP.pop rfl rfl).trans <| (WP.ldR rfl rfl).trans <| (WP.getR (b := (a0 + 1)) rfl ha0 rfl rfl).trans <| WP.call rfl rfl (crv (r := xrecv 124 33 [.inr (.inr (some (a0 + 1)))]) (so_4_0 ha0) rfl rfl rfl) rfl
theorem seg56_32 (a0 : Nat) (a1 : Nat) (x2 : Int) (o3 : Option xv) (o4 : Option xv) (D : xD) (Q : Option xv → xD → Prop) (ha0 : xisO 124 a0 4 = true) (ha1 : xisO 124 a1 6 = true) :
  WP 124 xF1 none 56 32 [some (.inr (.inr (some a0))), some (.inr (.inr (some a1))), some (.inl x2), o3, o4] [] D Q =
  (WP 124 xF1 none 56 44 [some (.inr (.inr (some a0))), some (.inr (.inr (some a1))), some (.inl x2), some (.inl 0), o4] [] (xup (xup D a0 12 (-1)) a0 13 (-1)) Q) :=
  (WP.ldR rfl rfl).trans <| (WP.kI rfl).trans <| (WP.putI rfl ha0).trans <| (WP.ldR rfl rfl).trans <| (WP.kI rfl).trans <| (WP.putI rfl ha0).trans <| (WP.kI rfl).trans <| WP.stI rfl rfl
theorem seg56_44 (a0 : Nat) (a1 : Nat) (x2 : Int) (x3 : Int) (o4 : Option xv) (D : xD) (Q : Option xv → xD → Prop) (ha0 : xisO 124 a0 4 = true) (ha1 : xisO 124 a1 6 = true) :
  WP 124 xF1 none 56 44 [some (.inr (.inr (some a0))), some (.inr (.inr (some a1))), some (.inl x2), some (.inl x3), o4] [] D Q =
  (((D (a1 + 1) 11) ≤ x3 → Q none D) ∧ (¬ ((D (a1 + 1) 11) ≤ x3) → WP 124 xF1 none 34 0 [some (.inr (.inr (some (a0 + 1))))] [] D (fun v D9 => WP 124 xF1 none 56 62 [some (.inr (.inr (some a0))), some (.inr (.inr (some a1))), some (.inl x2), some (.inl x3), o4] (v.toList ++ []) D9 Q))) :=
  (WP.ldI rfl rfl).trans <| (WP.ldR rfl rfl).trans <| (WP.getR (b := (a1 + 1)) rfl ha1 rfl rfl).trans <| (WP.getI rfl (so_6_0 ha1)).trans <| (WP.ic3 rfl).trans <| br_eq (WP.ret rfl rfl) ((WP.ldR rfl rfl).trans <| (WP.getR (b := (a0 + 1)) rfl ha0 rfl rfl).trans <| WP.call rfl rfl (crv (r := xrecv 124 34 [.inr (.inr (some (a0 + 1)))]) (so_4_0 ha0) rfl rfl rfl) rfl)
theorem seg56_62 (a0 : Nat) (a1 : Nat) (x2 : Int) (x3 : Int) (o4 : Option xv) (D : xD) (Q : Option xv → xD → Prop) (ha0 : xisO 124 a0 4 = true) (ha1 : xisO 124 a1 6 = true) :
  WP 124 xF1 none 56 62 [some (.inr (.inr (some a0))), some (.inr (.inr (some a1))), some (.inl x2), some (.inl x3), o4] [] D Q =
  (WP 124 xF1 none 35 0 [some (.inr (.inr (some (a0 + 1)))), some (.inl x3), none] [] D (fun v D9 => WP 124 xF1 none 56 70 [some (.inr (.inr (some a0))), some (.inr (.inr (some a1))), some (.inl x2), some (.inl x3), o4] (v.toList ++ []) D9 Q)) :=
  (WP.ldR rfl rfl).trans <| (WP.getR (b := (a0 + 1)) rfl ha0 rfl rfl).trans <| (WP.ldI rfl rfl).trans <| WP.call rfl rfl (crv (r := xrecv 124 35 [.inr (.inr (some (a0 + 1))), .inl x3]) (so_4_0 ha0) rfl rfl rfl) rfl
theorem seg56_70 (a0 : Nat) (a1 : Nat) (x2 : Int) (x3 : Int) (o4 : Option xv) (D : xD) (Q : Option xv → xD → Prop) (ha0 : xisO 124 a0 4 = true) (ha1 : xisO 124 a1 6 = true) :
  WP 124 xF1 none 56 70 [some (.inr (.inr (some a0))), some (.inr (.inr (some a1))), some (.inl x2), some (.inl x3), o4] [] D Q =
  (WP 124 xF1 none 36 0 [some (.inr (.inr (some (a0 + 1)))), some (.inl x2), none, none] [] D (fun v D9 => WP 124 xF1 none 56 78 [some (.inr (.inr (some a0))), some (.inr (.inr (some a1))), some (.inl x2), some (.inl x3), o4] (v.toList ++ []) D9 Q)) :=
  (WP.ldR rfl rfl).trans <| (WP.getR (b := (a0 + 1)) rfl ha0 rfl rfl).trans <| (WP.ldI rfl rfl).trans <| WP.call rfl rfl (crv (r := xrecv 124 36 [.inr (.inr (some (a0 + 1))), .inl x2]) (so_4_0 ha0) rfl rfl rfl) rfl
theorem seg56_78 (a0 : Nat) (a1 : Nat) (x2 : Int) (x3 : Int) (o4 : Option xv) (s0 : Int) (D : xD) (Q : Option xv → xD → Prop) (ha0 : xisO 124 a0 4 = true) (ha1 : xisO 124 a1 6 = true) :
  WP 124 xF1 none 56 78 [some (.inr (.inr (some a0))), some (.inr (.inr (some a1))), some (.inl x2), some (.inl x3), o4] [.inl s0] D Q =
  ((s0 ≤ 0 → WP 124 xF1 none 56 105 [some (.inr (.inr (some a0))), some (.inr (.inr (some a1))), some (.inl x2), some (.inl x3), some (.inl s0)] [] D Q) ∧ (¬ (s0 ≤ 0) → (s0 ≤ (D a0 13) → WP 124 xF1 none 56 105 [some (.inr (.inr (some a0))), some (.inr (.inr (some a1))), some (.inl x2), some (.inl x3), some (.inl s0)] [] D Q) ∧ (¬ (s0 ≤ (D a0 13)) → WP 124 xF1 none 56 105 [some (.inr (.inr (some a0))), some (.inr (.inr (some a1))), some (.inl x2), some (.inl x3), some (.inl s0)] [] (xup (xup D a0 12 x3) a0 13 s0) Q))) :=
  (WP.stI rfl rfl).trans <| (WP.ldI rfl rfl).trans <| (WP.if5 rfl).trans <| br_eq rfl ((WP.ldI rfl rfl).trans <| (WP.ldR rfl rfl).trans <| (WP.getI rfl ha0).trans <| (WP.ic5 rfl).trans <| br_eq rfl ((WP.ldR rfl rfl).trans <| (WP.ldI rfl rfl).trans <| (WP.putI rfl ha0).trans <| (WP.ldR rfl rfl).trans <| (WP.ldI rfl rfl).trans <| WP.putI rfl ha0))
theorem seg56_105 (a0 : Nat) (a1 : Nat) (x2 : Int) (x3 : Int) (x4 : Int) (D : xD) (Q : Option xv → xD → Prop) (ha0 : xisO 124 a0 4 = true) (ha1 : xisO 124 a1 6 = true) :
  WP 124 xF1 none 56 105 [some (.inr (.inr (some a0))), some (.inr (.inr (some a1))), some (.inl x2), some (.inl x3), some (.inl x4)] [] D Q =
  ((xinP (x3 + 1)) ∧ WP 124 xF1 none 56 44 [some (.inr (.inr (some a0))), some (.inr (.inr (some a1))), some (.inl x2), some (.inl (x3 + 1)), some (.inl x4)] [] D Q) :=
  (WP.iinc rfl rfl rfl).trans <| cn_eq (WP.goto rfl)
theorem seg58_0 (a0 : Nat) (a1 : Nat) (La1 : Nat) (x2 : Int) (o3 : Option xv) (D : xD) (Q : Option xv → xD → Prop) (ha0 : xisO 124 a0 5 = true) (ha1 : xalen none 124 a1 = some La1) :
  WP 124 xF1 none 58 0 [some (.inr (.inr (some a0))), some (.inr (.inr (some a1))), some (.inl x2), o3] [] D Q =
  (((La1 : Int) ≤ 2147483647) ∧ ((0 : Int) ≤ (max 0 (min (min x2 (La1 : Int)) 300)) ∧ (0 : Int) ≤ 0 ∧ (0 : Int) ≤ 0 ∧ 0 + (max 0 (min (min x2 (La1 : Int)) 300)) ≤ (La1 : Int) ∧ 0 + (max 0 (min (min x2 (La1 : Int)) 300)) ≤ (300 : Int)) ∧ WP 124 xF1 none 92 0 [some (.inr (.inr (some (a0 + 1))))] [] (xcpy (xup D a0 2 (max 0 (min (min x2 (La1 : Int)) 300))) a1 (a0 + 13) 0 0 (max 0 (min (min x2 (La1 : Int)) 300))) (fun v D9 => WP 124 xF1 none 58 41 [some (.inr (.inr (some a0))), some (.inr (.inr (some a1))), some (.inl x2), o3] (v.toList ++ []) D9 Q)) :=
  (WP.ldR rfl rfl).trans <| (WP.kI rfl).trans <| (WP.ldI rfl rfl).trans <| (WP.ldR rfl rfl).trans <| (WP.alen2 rfl ha1).trans <| cn_eq ((WP.kmin rfl rfl).trans <| (WP.kI rfl).trans <| (WP.kmin rfl rfl).trans <| (WP.kmax rfl rfl).trans <| (WP.putI rfl ha0).trans <| (WP.ldR rfl rfl).trans <| (WP.kI rfl).trans <| (WP.ldR rfl rfl).trans <| (WP.getR (b := (a0 + 13)) rfl ha0 rfl rfl).trans <| (WP.kI rfl).trans <| (WP.ldR rfl rfl).trans <| (WP.getI2 rfl ha0 xr_s).trans <| (WP.copy rfl ha1 (so_5_1 ha0) rfl).trans <| cn_eq ((WP.ldR rfl rfl).trans <| (WP.getR (b := (a0 + 1)) rfl ha0 rfl rfl).trans <| WP.call rfl rfl (crv (r := xrecv 124 92 [.inr (.inr (some (a0 + 1)))]) (so_5_0 ha0) rfl rfl rfl) rfl))
theorem seg58_41 (a0 : Nat) (a1 : Nat) (La1 : Nat) (x2 : Int) (o3 : Option xv) (D : xD) (Q : Option xv → xD → Prop) (ha0 : xisO 124 a0 5 = true) (ha1 : xalen none 124 a1 = some La1) :
  WP 124 xF1 none 58 41 [some (.inr (.inr (some a0))), some (.inr (.inr (some a1))), some (.inl x2), o3] [] D Q =
  (WP 124 xF1 none 59 0 [some (.inr (.inr (some a0)))] [] (xup (xup (xup (xup (xup D a0 7 0) a0 8 0) a0 9 0) a0 10 (-1)) a0 5 0) (fun v D9 => WP 124 xF1 none 58 70 [some (.inr (.inr (some a0))), some (.inr (.inr (some a1))), some (.inl x2), o3] (v.toList ++ []) D9 Q)) :=
  (WP.ldR rfl rfl).trans <| (WP.kI rfl).trans <| (WP.putI rfl ha0).trans <| (WP.ldR rfl rfl).trans <| (WP.kI rfl).trans <| (WP.putI rfl ha0).trans <| (WP.ldR rfl rfl).trans <| (WP.kI rfl).trans <| (WP.putI rfl ha0).trans <| (WP.ldR rfl rfl).trans <| (WP.kI rfl).trans <| (WP.putI rfl ha0).trans <| (WP.ldR rfl rfl).trans <| (WP.kI rfl).trans <| (WP.putI rfl ha0).trans <| (WP.ldR rfl rfl).trans <| WP.call rfl rfl (crv (r := xrecv 124 59 [.inr (.inr (some a0))]) ha0 rfl rfl rfl) rfl
theorem seg58_70 (a0 : Nat) (a1 : Nat) (La1 : Nat) (x2 : Int) (o3 : Option xv) (D : xD) (Q : Option xv → xD → Prop) (ha0 : xisO 124 a0 5 = true) (ha1 : xalen none 124 a1 = some La1) :
  WP 124 xF1 none 58 70 [some (.inr (.inr (some a0))), some (.inr (.inr (some a1))), some (.inl x2), o3] [] D Q =
  (WP 124 xF1 none 58 72 [some (.inr (.inr (some a0))), some (.inr (.inr (some a1))), some (.inl x2), some (.inl 0)] [] D Q) :=
  (WP.kI rfl).trans <| WP.stI rfl rfl
theorem seg58_72 (a0 : Nat) (a1 : Nat) (La1 : Nat) (x2 : Int) (x3 : Int) (D : xD) (Q : Option xv → xD → Prop) (ha0 : xisO 124 a0 5 = true) (ha1 : xalen none 124 a1 = some La1) :
  WP 124 xF1 none 58 72 [some (.inr (.inr (some a0))), some (.inr (.inr (some a1))), some (.inl x2), some (.inl x3)] [] D Q =
  ((300 ≤ x3 → WP 124 xF1 none 58 117 [some (.inr (.inr (some a0))), some (.inr (.inr (some a1))), some (.inl x2), some (.inl x3)] [] D Q) ∧ (¬ (300 ≤ x3) → ((D a0 3) = 0 → WP 124 xF1 none 58 117 [some (.inr (.inr (some a0))), some (.inr (.inr (some a1))), some (.inl x2), some (.inl x3)] [] D Q) ∧ (¬ ((D a0 3) = 0) → WP 124 xF1 none 64 0 [some (.inr (.inr (some a0)))] [] D (fun v D9 => WP 124 xF1 none 58 90 [some (.inr (.inr (some a0))), some (.inr (.inr (some a1))), some (.inl x2), some (.inl x3)] (v.toList ++ []) D9 Q)))) :=
  (WP.ldI rfl rfl).trans <| (WP.kI rfl).trans <| (WP.ic3 rfl).trans <| br_eq rfl ((WP.ldR rfl rfl).trans <| (WP.getI rfl ha0).trans <| (WP.if0 rfl).trans <| br_eq rfl ((WP.ldR rfl rfl).trans <| WP.call rfl rfl (crv (r := xrecv 124 64 [.inr (.inr (some a0))]) ha0 rfl rfl rfl) rfl))
theorem seg58_90 (a0 : Nat) (a1 : Nat) (La1 : Nat) (x2 : Int) (x3 : Int) (s0 : Int) (D : xD) (Q : Option xv → xD → Prop) (ha0 : xisO 124 a0 5 = true) (ha1 : xalen none 124 a1 = some La1) :
  WP 124 xF1 none 58 90 [some (.inr (.inr (some a0))), some (.inr (.inr (some a1))), some (.inl x2), some (.inl x3)] [.inl s0] D Q =
  ((s0 ≠ 0 → (xinP ((D (a0 + 1) 15) + 1)) ∧ (xinP (x3 + 1)) ∧ WP 124 xF1 none 58 72 [some (.inr (.inr (some a0))), some (.inr (.inr (some a1))), some (.inl x2), some (.inl (x3 + 1))] [] (xup D (a0 + 1) 15 ((D (a0 + 1) 15) + 1)) Q) ∧ (¬ (s0 ≠ 0) → Q (some (.inl (D a0 9))) D)) :=
  (WP.if1 rfl).trans <| br_eq ((WP.ldR rfl rfl).trans <| (WP.getR (b := (a0 + 1)) rfl ha0 rfl rfl).trans <| (WP.dup rfl rfl).trans <| (WP.getI rfl (so_5_0 ha0)).trans <| (WP.kI rfl).trans <| (WP.iadd rfl).trans <| cn_eq ((WP.putI rfl (so_5_0 ha0)).trans <| (WP.iinc rfl rfl rfl).trans <| cn_eq (WP.goto rfl))) ((WP.ldR rfl rfl).trans <| (WP.getI rfl ha0).trans <| WP.ret rfl rfl)
theorem seg58_117 (a0 : Nat) (a1 : Nat) (La1 : Nat) (x2 : Int) (x3 : Int) (D : xD) (Q : Option xv → xD → Prop) (ha0 : xisO 124 a0 5 = true) (ha1 : xalen none 124 a1 = some La1) :
  WP 124 xF1 none 58 117 [some (.inr (.inr (some a0))), some (.inr (.inr (some a1))), some (.inl x2), some (.inl x3)] [] D Q =
  (Q (some (.inl (D a0 9))) D) :=
  (WP.ldR rfl rfl).trans <| (WP.getI rfl ha0).trans <| WP.ret rfl rfl
theorem seg59_0 (a0 : Nat) (D : xD) (Q : Option xv → xD → Prop) (ha0 : xisO 124 a0 5 = true) :
  WP 124 xF1 none 59 0 [some (.inr (.inr (some a0)))] [] D Q =
  (WP 124 xF1 none 59 8 [some (.inr (.inr (some a0)))] [] (xup D a0 4 (D a0 5)) Q) :=
  (WP.ldR rfl rfl).trans <| (WP.ldR rfl rfl).trans <| (WP.getI rfl ha0).trans <| WP.putI rfl ha0
theorem seg59_8 (a0 : Nat) (D : xD) (Q : Option xv → xD → Prop) (ha0 : xisO 124 a0 5 = true) :
  WP 124 xF1 none 59 8 [some (.inr (.inr (some a0)))] [] D Q =
  (((D a0 2) ≤ (D a0 4) → WP 124 xF1 none 59 60 [some (.inr (.inr (some a0)))] [] D Q) ∧ (¬ ((D a0 2) ≤ (D a0 4)) → ((0 : Int) ≤ (D a0 4) ∧ (D a0 4) < (300 : Int)) ∧ ((D (a0 + 13) (D a0 4)) = 32 → WP 124 xF1 none 59 47 [some (.inr (.inr (some a0)))] [] D Q) ∧ (¬ ((D (a0 + 13) (D a0 4)) = 32) → ((0 : Int) ≤ (D a0 4) ∧ (D a0 4) < (300 : Int)) ∧ ((D (a0 + 13) (D a0 4)) ≠ 10 → WP 124 xF1 none 59 60 [some (.inr (.inr (some a0)))] [] D Q) ∧ (¬ ((D (a0 + 13) (D a0 4)) ≠ 10) → WP 124 xF1 none 59 47 [some (.inr (.inr (some a0)))] [] D Q)))) :=
  (WP.ldR rfl rfl).trans <| (WP.getI rfl ha0).trans <| (WP.ldR rfl rfl).trans <| (WP.getI rfl ha0).trans <| (WP.ic3 rfl).trans <| br_eq rfl ((WP.ldR rfl rfl).trans <| (WP.getR (b := (a0 + 13)) rfl ha0 rfl rfl).trans <| (WP.ldR rfl rfl).trans <| (WP.getI rfl ha0).trans <| (WP.iald rfl (so_5_1 ha0)).trans <| cn_eq ((WP.kI rfl).trans <| (WP.ic0 rfl).trans <| br_eq rfl ((WP.ldR rfl rfl).trans <| (WP.getR (b := (a0 + 13)) rfl ha0 rfl rfl).trans <| (WP.ldR rfl rfl).trans <| (WP.getI rfl ha0).trans <| (WP.iald rfl (so_5_1 ha0)).trans <| cn_eq ((WP.kI rfl).trans <| (WP.ic1 rfl).trans <| br_eq rfl rfl))))
theorem seg59_47 (a0 : Nat) (D : xD) (Q : Option xv → xD → Prop) (ha0 : xisO 124 a0 5 = true) :
  WP 124 xF1 none 59 47 [some (.inr (.inr (some a0)))] [] D Q =
  ((xinP ((D a0 4) + 1)) ∧ WP 124 xF1 none 59 8 [some (.inr (.inr (some a0)))] [] (xup D a0 4 ((D a0 4) + 1)) Q) :=
  (WP.ldR rfl rfl).trans <| (WP.dup rfl rfl).trans <| (WP.getI rfl ha0).trans <| (WP.kI rfl).trans <| (WP.iadd rfl).trans <| cn_eq ((WP.putI rfl ha0).trans <| WP.goto rfl)
theorem seg59_60 (a0 : Nat) (D : xD) (Q : Option xv → xD → Prop) (ha0 : xisO 124 a0 5 = true) :
  WP 124 xF1 none 59 60 [some (.inr (.inr (some a0)))] [] D Q =
  (((D a0 4) < (D a0 2) → ((0 : Int) ≤ (D a0 4) ∧ (D a0 4) < (300 : Int)) ∧ WP 124 xF1 none 60 0 [some (.inl (D (a0 + 13) (D a0 4)))] [] (xup D a0 5 (D a0 4)) (fun v D9 => WP 124 xF1 none 59 99 [some (.inr (.inr (some a0)))] (v.toList ++ []) D9 Q)) ∧ (¬ ((D a0 4) < (D a0 2)) → WP 124 xF1 none 59 273 [some (.inr (.inr (some a0)))] [] (xup (xup D a0 5 (D a0 4)) a0 3 0) Q)) :=
  (WP.ldR rfl rfl).trans <| (WP.ldR rfl rfl).trans <| (WP.getI rfl ha0).trans <| (WP.putI rfl ha0).trans <| (WP.ldR rfl rfl).trans <| (WP.getI2 rfl ha0 (xr_k (by decide))).trans <| (WP.ldR rfl rfl).trans <| (WP.getI2 rfl ha0 (xr_k (by decide))).trans <| (WP.ic2 rfl).trans <| br_eq ((WP.ldR rfl rfl).trans <| (WP.getR (b := (a0 + 13)) rfl ha0 rfl rfl).trans <| (WP.ldR rfl rfl).trans <| (WP.getI2 rfl ha0 (xr_k (by decide))).trans <| (WP.iald2 rfl (so_5_1 ha0) (xr_n (by omega))).trans <| cn_eq (WP.call rfl rfl rfl rfl)) ((WP.ldR rfl rfl).trans <| (WP.kI rfl).trans <| (WP.putI rfl ha0).trans <| WP.goto rfl)
theorem seg59_99 (a0 : Nat) (s0 : Int) (D : xD) (Q : Option xv → xD → Prop) (ha0 : xisO 124 a0 5 = true) :
  WP 124 xF1 none 59 99 [some (.inr (.inr (some a0)))] [.inl s0] D Q =
  ((s0 = 0 → ((0 : Int) ≤ (D a0 4) ∧ (D a0 4) < (300 : Int)) ∧ WP 124 xF1 none 61 0 [some (.inl (D (a0 + 13) (D a0 4)))] [] D (fun v D9 => WP 124 xF1 none 59 158 [some (.inr (.inr (some a0)))] (v.toList ++ []) D9 Q)) ∧ (¬ (s0 = 0) → WP 124 xF1 none 59 107 [some (.inr (.inr (some a0)))] [] (xup D a0 3 1) Q)) :=
  (WP.if0 rfl).trans <| br_eq ((WP.ldR rfl rfl).trans <| (WP.getR (b := (a0 + 13)) rfl ha0 rfl rfl).trans <| (WP.ldR rfl rfl).trans <| (WP.getI rfl ha0).trans <| (WP.iald rfl (so_5_1 ha0)).trans <| cn_eq (WP.call rfl rfl rfl rfl)) ((WP.ldR rfl rfl).trans <| (WP.kI rfl).trans <| WP.putI rfl ha0)
theorem seg59_107 (a0 : Nat) (D : xD) (Q : Option xv → xD → Prop) (ha0 : xisO 124 a0 5 = true) :
  WP 124 xF1 none 59 107 [some (.inr (.inr (some a0)))] [] D Q =
  (((D a0 2) ≤ (D a0 5) → WP 124 xF1 none 59 273 [some (.inr (.inr (some a0)))] [] D Q) ∧ (¬ ((D a0 2) ≤ (D a0 5)) → ((0 : Int) ≤ (D a0 5) ∧ (D a0 5) < (300 : Int)) ∧ WP 124 xF1 none 60 0 [some (.inl (D (a0 + 13) (D a0 5)))] [] D (fun v D9 => WP 124 xF1 none 59 130 [some (.inr (.inr (some a0)))] (v.toList ++ []) D9 Q))) :=
  (WP.ldR rfl rfl).trans <| (WP.getI rfl ha0).trans <| (WP.ldR rfl rfl).trans <| (WP.getI rfl ha0).trans <| (WP.ic3 rfl).trans <| br_eq rfl ((WP.ldR rfl rfl).trans <| (WP.getR (b := (a0 + 13)) rfl ha0 rfl rfl).trans <| (WP.ldR rfl rfl).trans <| (WP.getI rfl ha0).trans <| (WP.iald rfl (so_5_1 ha0)).trans <| cn_eq (WP.call rfl rfl rfl rfl))
theorem seg59_130 (a0 : Nat) (s0 : Int) (D : xD) (Q : Option xv → xD → Prop) (ha0 : xisO 124 a0 5 = true) :
  WP 124 xF1 none 59 130 [some (.inr (.inr (some a0)))] [.inl s0] D Q =
  ((s0 = 0 → WP 124 xF1 none 59 273 [some (.inr (.inr (some a0)))] [] D Q) ∧ (¬ (s0 = 0) → (xinP ((D a0 5) + 1)) ∧ WP 124 xF1 none 59 107 [some (.inr (.inr (some a0)))] [] (xup D a0 5 ((D a0 5) + 1)) Q)) :=
  (WP.if0 rfl).trans <| br_eq rfl ((WP.ldR rfl rfl).trans <| (WP.dup rfl rfl).trans <| (WP.getI rfl ha0).trans <| (WP.kI rfl).trans <| (WP.iadd rfl).trans <| cn_eq ((WP.putI rfl ha0).trans <| WP.goto rfl))
theorem seg59_158 (a0 : Nat) (s0 : Int) (D : xD) (Q : Option xv → xD → Prop) (ha0 : xisO 124 a0 5 = true) :
  WP 124 xF1 none 59 158 [some (.inr (.inr (some a0)))] [.inl s0] D Q =
  ((s0 = 0 → ((0 : Int) ≤ (D a0 4) ∧ (D a0 4) < (300 : Int)) ∧ ((D (a0 + 13) (D a0 4)) ≠ 59 → WP 124 xF1 none 59 260 [some (.inr (.inr (some a0)))] [.inl 4, .inr (.inr (some a0))] D Q) ∧ (¬ ((D (a0 + 13) (D a0 4)) ≠ 59) → WP 124 xF1 none 59 260 [some (.inr (.inr (some a0)))] [.inl 3, .inr (.inr (some a0))] D Q)) ∧ (¬ (s0 = 0) → WP 124 xF1 none 59 171 [some (.inr (.inr (some a0)))] [] (xup (xup D a0 3 2) a0 6 0) Q)) :=
  (WP.if0 rfl).trans <| br_eq ((WP.ldR rfl rfl).trans <| (WP.ldR rfl rfl).trans <| (WP.getR (b := (a0 + 13)) rfl ha0 rfl rfl).trans <| (WP.ldR rfl rfl).trans <| (WP.getI rfl ha0).trans <| (WP.iald rfl (so_5_1 ha0)).trans <| cn_eq ((WP.kI rfl).trans <| (WP.ic1 rfl).trans <| br_eq (WP.kI rfl) ((WP.kI rfl).trans <| WP.goto rfl))) ((WP.ldR rfl rfl).trans <| (WP.kI rfl).trans <| (WP.putI rfl ha0).trans <| (WP.ldR rfl rfl).trans <| (WP.kI rfl).trans <| WP.putI rfl ha0)
theorem seg59_171 (a0 : Nat) (D : xD) (Q : Option xv → xD → Prop) (ha0 : xisO 124 a0 5 = true) :
  WP 124 xF1 none 59 171 [some (.inr (.inr (some a0)))] [] D Q =
  (((D a0 2) ≤ (D a0 5) → WP 124 xF1 none 59 273 [some (.inr (.inr (some a0)))] [] D Q) ∧ (¬ ((D a0 2) ≤ (D a0 5)) → ((0 : Int) ≤ (D a0 5) ∧ (D a0 5) < (300 : Int)) ∧ WP 124 xF1 none 61 0 [some (.inl (D (a0 + 13) (D a0 5)))] [] D (fun v D9 => WP 124 xF1 none 59 194 [some (.inr (.inr (some a0)))] (v.toList ++ []) D9 Q))) :=
  (WP.ldR rfl rfl).trans <| (WP.getI rfl ha0).trans <| (WP.ldR rfl rfl).trans <| (WP.getI rfl ha0).trans <| (WP.ic3 rfl).trans <| br_eq rfl ((WP.ldR rfl rfl).trans <| (WP.getR (b := (a0 + 13)) rfl ha0 rfl rfl).trans <| (WP.ldR rfl rfl).trans <| (WP.getI rfl ha0).trans <| (WP.iald rfl (so_5_1 ha0)).trans <| cn_eq (WP.call rfl rfl rfl rfl))
theorem seg59_194 (a0 : Nat) (s0 : Int) (D : xD) (Q : Option xv → xD → Prop) (ha0 : xisO 124 a0 5 = true) :
  WP 124 xF1 none 59 194 [some (.inr (.inr (some a0)))] [.inl s0] D Q =
  ((s0 = 0 → WP 124 xF1 none 59 273 [some (.inr (.inr (some a0)))] [] D Q) ∧ (¬ (s0 = 0) → (xinP ((D a0 6) * 10)) ∧ ((0 : Int) ≤ (D a0 5) ∧ (D a0 5) < (300 : Int)) ∧ (xinP (((D a0 6) * 10) + (D (a0 + 13) (D a0 5)))) ∧ (xinP ((((D a0 6) * 10) + (D (a0 + 13) (D a0 5))) - 48)) ∧ (xinP ((D a0 5) + 1)) ∧ WP 124 xF1 none 59 171 [some (.inr (.inr (some a0)))] [] (xup (xup D a0 6 (min 1000 ((((D a0 6) * 10) + (D (a0 + 13) (D a0 5))) - 48))) a0 5 ((D a0 5) + 1)) Q)) :=
  (WP.if0 rfl).trans <| br_eq rfl ((WP.ldR rfl rfl).trans <| (WP.kI rfl).trans <| (WP.ldR rfl rfl).trans <| (WP.getI rfl ha0).trans <| (WP.kI rfl).trans <| (WP.imul rfl).trans <| cn_eq ((WP.ldR rfl rfl).trans <| (WP.getR (b := (a0 + 13)) rfl ha0 rfl rfl).trans <| (WP.ldR rfl rfl).trans <| (WP.getI rfl ha0).trans <| (WP.iald rfl (so_5_1 ha0)).trans <| cn_eq ((WP.iadd rfl).trans <| cn_eq ((WP.kI rfl).trans <| (WP.isub rfl).trans <| cn_eq ((WP.kmin rfl rfl).trans <| (WP.putI rfl ha0).trans <| (WP.ldR rfl rfl).trans <| (WP.dup rfl rfl).trans <| (WP.getI2 rfl ha0 (xr_k (by decide))).trans <| (WP.kI rfl).trans <| (WP.iadd rfl).trans <| cn_eq ((WP.putI rfl ha0).trans <| WP.goto rfl))))))
theorem seg59_260 (a0 : Nat) (s0 : Int) (b1 : Nat) (D : xD) (Q : Option xv → xD → Prop) (ha0 : xisO 124 a0 5 = true) (hb1 : xisO 124 b1 5 = true) :
  WP 124 xF1 none 59 260 [some (.inr (.inr (some a0)))] [.inl s0, .inr (.inr (some b1))] D Q =
  ((xinP (((xup D b1 3 s0) a0 5) + 1)) ∧ WP 124 xF1 none 59 273 [some (.inr (.inr (some a0)))] [] (xup (xup D b1 3 s0) a0 5 (((xup D b1 3 s0) a0 5) + 1)) Q) :=
  (WP.putI rfl hb1).trans <| (WP.ldR rfl rfl).trans <| (WP.dup rfl rfl).trans <| (WP.getI rfl ha0).trans <| (WP.kI rfl).trans <| (WP.iadd rfl).trans <| cn_eq (WP.putI rfl ha0)
theorem seg59_273 (a0 : Nat) (D : xD) (Q : Option xv → xD → Prop) (ha0 : xisO 124 a0 5 = true) :
  WP 124 xF1 none 59 273 [some (.inr (.inr (some a0)))] [] D Q =
  (Q none D) :=
  WP.ret rfl rfl
theorem seg60_0 (x0 : Int) (D : xD) (Q : Option xv → xD → Prop)  :
  WP 124 xF1 none 60 0 [some (.inl x0)] [] D Q =
  ((x0 < 97 → WP 124 xF1 none 60 12 [some (.inl x0)] [] D Q) ∧ (¬ (x0 < 97) → (x0 ≤ 122 → WP 124 xF1 none 60 24 [some (.inl x0)] [] D Q) ∧ (¬ (x0 ≤ 122) → WP 124 xF1 none 60 12 [some (.inl x0)] [] D Q))) :=
  (WP.ldI rfl rfl).trans <| (WP.kI rfl).trans <| (WP.ic2 rfl).trans <| br_eq rfl ((WP.ldI rfl rfl).trans <| (WP.kI rfl).trans <| (WP.ic5 rfl).trans <| br_eq rfl rfl)
theorem seg60_12 (x0 : Int) (D : xD) (Q : Option xv → xD → Prop)  :
  WP 124 xF1 none 60 12 [some (.inl x0)] [] D Q =
  ((x0 < 65 → WP 124 xF1 none 60 28 [some (.inl x0)] [] D Q) ∧ (¬ (x0 < 65) → (90 < x0 → WP 124 xF1 none 60 28 [some (.inl x0)] [] D Q) ∧ (¬ (90 < x0) → WP 124 xF1 none 60 24 [some (.inl x0)] [] D Q))) :=
  (WP.ldI rfl rfl).trans <| (WP.kI rfl).trans <| (WP.ic2 rfl).trans <| br_eq rfl ((WP.ldI rfl rfl).trans <| (WP.kI rfl).trans <| (WP.ic4 rfl).trans <| br_eq rfl rfl)
theorem seg60_24 (x0 : Int) (D : xD) (Q : Option xv → xD → Prop)  :
  WP 124 xF1 none 60 24 [some (.inl x0)] [] D Q =
  (WP 124 xF1 none 60 29 [some (.inl x0)] [.inl 1] D Q) :=
  (WP.kI rfl).trans <| WP.goto rfl
theorem seg60_28 (x0 : Int) (D : xD) (Q : Option xv → xD → Prop)  :
  WP 124 xF1 none 60 28 [some (.inl x0)] [] D Q =
  (WP 124 xF1 none 60 29 [some (.inl x0)] [.inl 0] D Q) :=
  WP.kI rfl
theorem seg60_29 (x0 : Int) (s0 : Int) (D : xD) (Q : Option xv → xD → Prop)  :
  WP 124 xF1 none 60 29 [some (.inl x0)] [.inl s0] D Q =
  ((s0 = 0 ∨ s0 = 1) ∧ Q (some (.inl s0)) D) :=
  WP.retZ rfl rfl
theorem seg61_0 (x0 : Int) (D : xD) (Q : Option xv → xD → Prop)  :
  WP 124 xF1 none 61 0 [some (.inl x0)] [] D Q =
  ((x0 < 48 → WP 124 xF1 none 61 16 [some (.inl x0)] [] D Q) ∧ (¬ (x0 < 48) → (57 < x0 → WP 124 xF1 none 61 16 [some (.inl x0)] [] D Q) ∧ (¬ (57 < x0) → WP 124 xF1 none 61 17 [some (.inl x0)] [.inl 1] D Q))) :=
  (WP.ldI rfl rfl).trans <| (WP.kI rfl).trans <| (WP.ic2 rfl).trans <| br_eq rfl ((WP.ldI rfl rfl).trans <| (WP.kI rfl).trans <| (WP.ic4 rfl).trans <| br_eq rfl ((WP.kI rfl).trans <| WP.goto rfl))
theorem seg61_16 (x0 : Int) (D : xD) (Q : Option xv → xD → Prop)  :
  WP 124 xF1 none 61 16 [some (.inl x0)] [] D Q =
  (WP 124 xF1 none 61 17 [some (.inl x0)] [.inl 0] D Q) :=
  WP.kI rfl
theorem seg61_17 (x0 : Int) (s0 : Int) (D : xD) (Q : Option xv → xD → Prop)  :
  WP 124 xF1 none 61 17 [some (.inl x0)] [.inl s0] D Q =
  ((s0 = 0 ∨ s0 = 1) ∧ Q (some (.inl s0)) D) :=
  WP.retZ rfl rfl
theorem seg62_0 (a0 : Nat) (x1 : Int) (D : xD) (Q : Option xv → xD → Prop) (ha0 : xisO 124 a0 5 = true) :
  WP 124 xF1 none 62 0 [some (.inr (.inr (some a0))), some (.inl x1)] [] D Q =
  (Q (some (.inl 0)) (xup (xup D a0 9 x1) a0 10 (D a0 4))) :=
  (WP.ldR rfl rfl).trans <| (WP.ldI rfl rfl).trans <| (WP.putI rfl ha0).trans <| (WP.ldR rfl rfl).trans <| (WP.ldR rfl rfl).trans <| (WP.getI2 rfl ha0 (xr_k (by decide))).trans <| (WP.putI rfl ha0).trans <| (WP.kI rfl).trans <| WP.ret rfl rfl
theorem seg63_0 (a0 : Nat) (a1 : Nat) (o2 : Option xv) (D : xD) (Q : Option xv → xD → Prop) (ha0 : xisO 124 a0 5 = true) (ha1 : (Nat.ble 1000 a1 && Nat.blt a1 1007) = true) :
  WP 124 xF1 none 63 0 [some (.inr (.inr (some a0))), some (.inr (.inr (some a1))), o2] [] D Q =
  (((D a0 3) ≠ 1 → WP 124 xF1 none 63 24 [some (.inr (.inr (some a0))), some (.inr (.inr (some a1))), o2] [] D Q) ∧ (¬ ((D a0 3) ≠ 1) → (xinP ((D a0 5) - (D a0 4))) ∧ (((D a0 5) - (D a0 4)) = ((xstr (a1 - 1000)).length : Int) → WP 124 xF1 none 63 28 [some (.inr (.inr (some a0))), some (.inr (.inr (some a1))), some (.inl 0)] [] D Q) ∧ (¬ (((D a0 5) - (D a0 4)) = ((xstr (a1 - 1000)).length : Int)) → WP 124 xF1 none 63 24 [some (.inr (.inr (some a0))), some (.inr (.inr (some a1))), o2] [] D Q))) :=
  (WP.ldR rfl rfl).trans <| (WP.getI rfl ha0).trans <| (WP.kI rfl).trans <| (WP.ic1 rfl).trans <| br_eq rfl ((WP.ldR rfl rfl).trans <| (WP.getI rfl ha0).trans <| (WP.ldR rfl rfl).trans <| (WP.getI rfl ha0).trans <| (WP.isub rfl).trans <| cn_eq ((WP.ldR rfl rfl).trans <| (WP.slen2 rfl ha1 rfl).trans <| (WP.ic0 rfl).trans <| br_eq ((WP.kI rfl).trans <| WP.stI rfl rfl) rfl))
theorem seg63_24 (a0 : Nat) (a1 : Nat) (o2 : Option xv) (D : xD) (Q : Option xv → xD → Prop) (ha0 : xisO 124 a0 5 = true) (ha1 : (Nat.ble 1000 a1 && Nat.blt a1 1007) = true) :
  WP 124 xF1 none 63 24 [some (.inr (.inr (some a0))), some (.inr (.inr (some a1))), o2] [] D Q =
  (Q (some (.inl 0)) D) :=
  (WP.kI rfl).trans <| WP.ret rfl rfl
theorem seg63_28 (a0 : Nat) (a1 : Nat) (x2 : Int) (D : xD) (Q : Option xv → xD → Prop) (ha0 : xisO 124 a0 5 = true) (ha1 : (Nat.ble 1000 a1 && Nat.blt a1 1007) = true) :
  WP 124 xF1 none 63 28 [some (.inr (.inr (some a0))), some (.inr (.inr (some a1))), some (.inl x2)] [] D Q =
  ((((xstr (a1 - 1000)).length : Int) ≤ x2 → Q (some (.inl 1)) D) ∧ (¬ (((xstr (a1 - 1000)).length : Int) ≤ x2) → (xinP ((D a0 4) + x2)) ∧ ((0 : Int) ≤ ((D a0 4) + x2) ∧ ((D a0 4) + x2) < (300 : Int)) ∧ ((0 : Int) ≤ x2 ∧ x2 < ((xstr (a1 - 1000)).length : Int)) ∧ ((D (a0 + 13) ((D a0 4) + x2)) = ((xstr (a1 - 1000)).getD (x2).toNat 0) → (xinP (x2 + 1)) ∧ WP 124 xF1 none 63 28 [some (.inr (.inr (some a0))), some (.inr (.inr (some a1))), some (.inl (x2 + 1))] [] D Q) ∧ (¬ ((D (a0 + 13) ((D a0 4) + x2)) = ((xstr (a1 - 1000)).getD (x2).toNat 0)) → Q (some (.inl 0)) D))) :=
  (WP.ldI rfl rfl).trans <| (WP.ldR rfl rfl).trans <| (WP.slen2 rfl ha1 rfl).trans <| (WP.ic3 rfl).trans <| br_eq ((WP.kI rfl).trans <| WP.ret rfl rfl) ((WP.ldR rfl rfl).trans <| (WP.getR (b := (a0 + 13)) rfl ha0 rfl rfl).trans <| (WP.ldR rfl rfl).trans <| (WP.getI rfl ha0).trans <| (WP.ldI rfl rfl).trans <| (WP.iadd rfl).trans <| cn_eq ((WP.iald rfl (so_5_1 ha0)).trans <| cn_eq ((WP.ldR rfl rfl).trans <| (WP.ldI rfl rfl).trans <| (WP.chr2 rfl ha1 rfl).trans <| cn_eq ((WP.ic0 rfl).trans <| br_eq ((WP.iinc rfl rfl rfl).trans <| cn_eq (WP.goto rfl)) ((WP.kI rfl).trans <| WP.ret rfl rfl)))))
theorem seg64_0 (a0 : Nat) (D : xD) (Q : Option xv → xD → Prop) (ha0 : xisO 124 a0 5 = true) :
  WP 124 xF1 none 64 0 [some (.inr (.inr (some a0)))] [] D Q =
  (WP 124 xF1 none 63 0 [some (.inr (.inr (some a0))), some (.inr (.inr (some 1000))), none] [] D (fun v D9 => WP 124 xF1 none 64 6 [some (.inr (.inr (some a0)))] (v.toList ++ []) D9 Q)) :=
  (WP.ldR rfl rfl).trans <| (WP.kS rfl).trans <| WP.call rfl rfl (crv (r := xrecv 124 63 [.inr (.inr (some a0)), .inr (.inr (some 1000))]) ha0 rfl rfl rfl) rfl
theorem seg64_6 (a0 : Nat) (s0 : Int) (D : xD) (Q : Option xv → xD → Prop) (ha0 : xisO 124 a0 5 = true) :
  WP 124 xF1 none 64 6 [some (.inr (.inr (some a0)))] [.inl s0] D Q =
  ((s0 = 0 → WP 124 xF1 none 63 0 [some (.inr (.inr (some a0))), some (.inr (.inr (some 1001))), none] [] D (fun v D9 => WP 124 xF1 none 64 20 [some (.inr (.inr (some a0)))] (v.toList ++ []) D9 Q)) ∧ (¬ (s0 = 0) → WP 124 xF1 none 68 0 [some (.inr (.inr (some a0))), none] [] D (fun v D9 => WP 124 xF1 none 64 13 [some (.inr (.inr (some a0)))] (v.toList ++ []) D9 Q))) :=
  (WP.if0 rfl).trans <| br_eq ((WP.ldR rfl rfl).trans <| (WP.kS rfl).trans <| WP.call rfl rfl (crv (r := xrecv 124 63 [.inr (.inr (some a0)), .inr (.inr (some 1001))]) ha0 rfl rfl rfl) rfl) ((WP.ldR rfl rfl).trans <| WP.call rfl rfl (crv (r := xrecv 124 68 [.inr (.inr (some a0))]) ha0 rfl rfl rfl) rfl)
theorem seg64_13 (a0 : Nat) (s0 : Int) (D : xD) (Q : Option xv → xD → Prop) (ha0 : xisO 124 a0 5 = true) :
  WP 124 xF1 none 64 13 [some (.inr (.inr (some a0)))] [.inl s0] D Q =
  ((s0 = 0 ∨ s0 = 1) ∧ Q (some (.inl s0)) D) :=
  WP.retZ rfl rfl
theorem seg64_20 (a0 : Nat) (s0 : Int) (D : xD) (Q : Option xv → xD → Prop) (ha0 : xisO 124 a0 5 = true) :
  WP 124 xF1 none 64 20 [some (.inr (.inr (some a0)))] [.inl s0] D Q =
  ((s0 = 0 → WP 124 xF1 none 63 0 [some (.inr (.inr (some a0))), some (.inr (.inr (some 1002))), none] [] D (fun v D9 => WP 124 xF1 none 64 34 [some (.inr (.inr (some a0)))] (v.toList ++ []) D9 Q)) ∧ (¬ (s0 = 0) → WP 124 xF1 none 69 0 [some (.inr (.inr (some a0))), none] [] D (fun v D9 => WP 124 xF1 none 64 27 [some (.inr (.inr (some a0)))] (v.toList ++ []) D9 Q))) :=
  (WP.if0 rfl).trans <| br_eq ((WP.ldR rfl rfl).trans <| (WP.kS rfl).trans <| WP.call rfl rfl (crv (r := xrecv 124 63 [.inr (.inr (some a0)), .inr (.inr (some 1002))]) ha0 rfl rfl rfl) rfl) ((WP.ldR rfl rfl).trans <| WP.call rfl rfl (crv (r := xrecv 124 69 [.inr (.inr (some a0))]) ha0 rfl rfl rfl) rfl)
theorem seg64_27 (a0 : Nat) (s0 : Int) (D : xD) (Q : Option xv → xD → Prop) (ha0 : xisO 124 a0 5 = true) :
  WP 124 xF1 none 64 27 [some (.inr (.inr (some a0)))] [.inl s0] D Q =
  ((s0 = 0 ∨ s0 = 1) ∧ Q (some (.inl s0)) D) :=
  WP.retZ rfl rfl
theorem seg64_34 (a0 : Nat) (s0 : Int) (D : xD) (Q : Option xv → xD → Prop) (ha0 : xisO 124 a0 5 = true) :
  WP 124 xF1 none 64 34 [some (.inr (.inr (some a0)))] [.inl s0] D Q =
  ((s0 = 0 → WP 124 xF1 none 63 0 [some (.inr (.inr (some a0))), some (.inr (.inr (some 1003))), none] [] D (fun v D9 => WP 124 xF1 none 64 48 [some (.inr (.inr (some a0)))] (v.toList ++ []) D9 Q)) ∧ (¬ (s0 = 0) → WP 124 xF1 none 70 0 [some (.inr (.inr (some a0))), none] [] D (fun v D9 => WP 124 xF1 none 64 41 [some (.inr (.inr (some a0)))] (v.toList ++ []) D9 Q))) :=
  (WP.if0 rfl).trans <| br_eq ((WP.ldR rfl rfl).trans <| (WP.kS rfl).trans <| WP.call rfl rfl (crv (r := xrecv 124 63 [.inr (.inr (some a0)), .inr (.inr (some 1003))]) ha0 rfl rfl rfl) rfl) ((WP.ldR rfl rfl).trans <| WP.call rfl rfl (crv (r := xrecv 124 70 [.inr (.inr (some a0))]) ha0 rfl rfl rfl) rfl)
theorem seg64_41 (a0 : Nat) (s0 : Int) (D : xD) (Q : Option xv → xD → Prop) (ha0 : xisO 124 a0 5 = true) :
  WP 124 xF1 none 64 41 [some (.inr (.inr (some a0)))] [.inl s0] D Q =
  ((s0 = 0 ∨ s0 = 1) ∧ Q (some (.inl s0)) D) :=
  WP.retZ rfl rfl
theorem seg64_48 (a0 : Nat) (s0 : Int) (D : xD) (Q : Option xv → xD → Prop) (ha0 : xisO 124 a0 5 = true) :
  WP 124 xF1 none 64 48 [some (.inr (.inr (some a0)))] [.inl s0] D Q =
  ((s0 = 0 → WP 124 xF1 none 63 0 [some (.inr (.inr (some a0))), some (.inr (.inr (some 1004))), none] [] D (fun v D9 => WP 124 xF1 none 64 62 [some (.inr (.inr (some a0)))] (v.toList ++ []) D9 Q)) ∧ (¬ (s0 = 0) → WP 124 xF1 none 71 0 [some (.inr (.inr (some a0)))] [] D (fun v D9 => WP 124 xF1 none 64 55 [some (.inr (.inr (some a0)))] (v.toList ++ []) D9 Q))) :=
  (WP.if0 rfl).trans <| br_eq ((WP.ldR rfl rfl).trans <| (WP.kS rfl).trans <| WP.call rfl rfl (crv (r := xrecv 124 63 [.inr (.inr (some a0)), .inr (.inr (some 1004))]) ha0 rfl rfl rfl) rfl) ((WP.ldR rfl rfl).trans <| WP.call rfl rfl (crv (r := xrecv 124 71 [.inr (.inr (some a0))]) ha0 rfl rfl rfl) rfl)
theorem seg64_55 (a0 : Nat) (s0 : Int) (D : xD) (Q : Option xv → xD → Prop) (ha0 : xisO 124 a0 5 = true) :
  WP 124 xF1 none 64 55 [some (.inr (.inr (some a0)))] [.inl s0] D Q =
  ((s0 = 0 ∨ s0 = 1) ∧ Q (some (.inl s0)) D) :=
  WP.retZ rfl rfl
theorem seg64_62 (a0 : Nat) (s0 : Int) (D : xD) (Q : Option xv → xD → Prop) (ha0 : xisO 124 a0 5 = true) :
  WP 124 xF1 none 64 62 [some (.inr (.inr (some a0)))] [.inl s0] D Q =
  ((s0 = 0 → WP 124 xF1 none 63 0 [some (.inr (.inr (some a0))), some (.inr (.inr (some 1005))), none] [] D (fun v D9 => WP 124 xF1 none 64 76 [some (.inr (.inr (some a0)))] (v.toList ++ []) D9 Q)) ∧ (¬ (s0 = 0) → WP 124 xF1 none 72 0 [some (.inr (.inr (some a0))), none] [] D (fun v D9 => WP 124 xF1 none 64 69 [some (.inr (.inr (some a0)))] (v.toList ++ []) D9 Q))) :=
  (WP.if0 rfl).trans <| br_eq ((WP.ldR rfl rfl).trans <| (WP.kS rfl).trans <| WP.call rfl rfl (crv (r := xrecv 124 63 [.inr (.inr (some a0)), .inr (.inr (some 1005))]) ha0 rfl rfl rfl) rfl) ((WP.ldR rfl rfl).trans <| WP.call rfl rfl (crv (r := xrecv 124 72 [.inr (.inr (some a0))]) ha0 rfl rfl rfl) rfl)
theorem seg64_69 (a0 : Nat) (s0 : Int) (D : xD) (Q : Option xv → xD → Prop) (ha0 : xisO 124 a0 5 = true) :
  WP 124 xF1 none 64 69 [some (.inr (.inr (some a0)))] [.inl s0] D Q =
  ((s0 = 0 ∨ s0 = 1) ∧ Q (some (.inl s0)) D) :=
  WP.retZ rfl rfl
theorem seg64_76 (a0 : Nat) (s0 : Int) (D : xD) (Q : Option xv → xD → Prop) (ha0 : xisO 124 a0 5 = true) :
  WP 124 xF1 none 64 76 [some (.inr (.inr (some a0)))] [.inl s0] D Q =
  ((s0 = 0 → WP 124 xF1 none 63 0 [some (.inr (.inr (some a0))), some (.inr (.inr (some 1006))), none] [] D (fun v D9 => WP 124 xF1 none 64 90 [some (.inr (.inr (some a0)))] (v.toList ++ []) D9 Q)) ∧ (¬ (s0 = 0) → WP 124 xF1 none 73 0 [some (.inr (.inr (some a0))), none] [] D (fun v D9 => WP 124 xF1 none 64 83 [some (.inr (.inr (some a0)))] (v.toList ++ []) D9 Q))) :=
  (WP.if0 rfl).trans <| br_eq ((WP.ldR rfl rfl).trans <| (WP.kS rfl).trans <| WP.call rfl rfl (crv (r := xrecv 124 63 [.inr (.inr (some a0)), .inr (.inr (some 1006))]) ha0 rfl rfl rfl) rfl) ((WP.ldR rfl rfl).trans <| WP.call rfl rfl (crv (r := xrecv 124 73 [.inr (.inr (some a0))]) ha0 rfl rfl rfl) rfl)
theorem seg64_83 (a0 : Nat) (s0 : Int) (D : xD) (Q : Option xv → xD → Prop) (ha0 : xisO 124 a0 5 = true) :
  WP 124 xF1 none 64 83 [some (.inr (.inr (some a0)))] [.inl s0] D Q =
  ((s0 = 0 ∨ s0 = 1) ∧ Q (some (.inl s0)) D) :=
  WP.retZ rfl rfl
theorem seg64_90 (a0 : Nat) (s0 : Int) (D : xD) (Q : Option xv → xD → Prop) (ha0 : xisO 124 a0 5 = true) :
  WP 124 xF1 none 64 90 [some (.inr (.inr (some a0)))] [.inl s0] D Q =
  ((s0 = 0 → WP 124 xF1 none 62 0 [some (.inr (.inr (some a0))), some (.inl 1)] [] D (fun v D9 => WP 124 xF1 none 64 103 [some (.inr (.inr (some a0)))] (v.toList ++ []) D9 Q)) ∧ (¬ (s0 = 0) → WP 124 xF1 none 74 0 [some (.inr (.inr (some a0)))] [] D (fun v D9 => WP 124 xF1 none 64 97 [some (.inr (.inr (some a0)))] (v.toList ++ []) D9 Q))) :=
  (WP.if0 rfl).trans <| br_eq ((WP.ldR rfl rfl).trans <| (WP.kI rfl).trans <| WP.call rfl rfl (crv (r := xrecv 124 62 [.inr (.inr (some a0)), .inl 1]) ha0 rfl rfl rfl) rfl) ((WP.ldR rfl rfl).trans <| WP.call rfl rfl (crv (r := xrecv 124 74 [.inr (.inr (some a0))]) ha0 rfl rfl rfl) rfl)
theorem seg64_97 (a0 : Nat) (s0 : Int) (D : xD) (Q : Option xv → xD → Prop) (ha0 : xisO 124 a0 5 = true) :
  WP 124 xF1 none 64 97 [some (.inr (.inr (some a0)))] [.inl s0] D Q =
  ((s0 = 0 ∨ s0 = 1) ∧ Q (some (.inl s0)) D) :=
  WP.retZ rfl rfl
theorem seg64_103 (a0 : Nat) (s0 : Int) (D : xD) (Q : Option xv → xD → Prop) (ha0 : xisO 124 a0 5 = true) :
  WP 124 xF1 none 64 103 [some (.inr (.inr (some a0)))] [.inl s0] D Q =
  ((s0 = 0 ∨ s0 = 1) ∧ Q (some (.inl s0)) D) :=
  WP.retZ rfl rfl
theorem seg65_0 (a0 : Nat) (o1 : Option xv) (D : xD) (Q : Option xv → xD → Prop) (ha0 : xisO 124 a0 5 = true) :
  WP 124 xF1 none 65 0 [some (.inr (.inr (some a0))), o1] [] D Q =
  (WP 124 xF1 none 59 0 [some (.inr (.inr (some a0)))] [] D (fun v D9 => WP 124 xF1 none 65 4 [some (.inr (.inr (some a0))), o1] (v.toList ++ []) D9 Q)) :=
  (WP.ldR rfl rfl).trans <| WP.call rfl rfl (crv (r := xrecv 124 59 [.inr (.inr (some a0))]) ha0 rfl rfl rfl) rfl
theorem seg65_4 (a0 : Nat) (o1 : Option xv) (D : xD) (Q : Option xv → xD → Prop) (ha0 : xisO 124 a0 5 = true) :
  WP 124 xF1 none 65 4 [some (.inr (.inr (some a0))), o1] [] D Q =
  (((D a0 3) ≠ 1 → WP 124 xF1 none 65 29 [some (.inr (.inr (some a0))), o1] [] D Q) ∧ (¬ ((D a0 3) ≠ 1) → (xinP ((D a0 5) - (D a0 4))) ∧ (((D a0 5) - (D a0 4)) ≠ 1 → WP 124 xF1 none 65 29 [some (.inr (.inr (some a0))), o1] [] D Q) ∧ (¬ (((D a0 5) - (D a0 4)) ≠ 1) → WP 124 xF1 none 65 30 [some (.inr (.inr (some a0))), o1] [.inl 1] D Q))) :=
  (WP.ldR rfl rfl).trans <| (WP.getI rfl ha0).trans <| (WP.kI rfl).trans <| (WP.ic1 rfl).trans <| br_eq rfl ((WP.ldR rfl rfl).trans <| (WP.getI rfl ha0).trans <| (WP.ldR rfl rfl).trans <| (WP.getI rfl ha0).trans <| (WP.isub rfl).trans <| cn_eq ((WP.kI rfl).trans <| (WP.ic1 rfl).trans <| br_eq rfl ((WP.kI rfl).trans <| WP.goto rfl)))
theorem seg65_29 (a0 : Nat) (o1 : Option xv) (D : xD) (Q : Option xv → xD → Prop) (ha0 : xisO 124 a0 5 = true) :
  WP 124 xF1 none 65 29 [some (.inr (.inr (some a0))), o1] [] D Q =
  (WP 124 xF1 none 65 30 [some (.inr (.inr (some a0))), o1] [.inl 0] D Q) :=
  WP.kI rfl
theorem seg65_30 (a0 : Nat) (o1 : Option xv) (s0 : Int) (D : xD) (Q : Option xv → xD → Prop) (ha0 : xisO 124 a0 5 = true) :
  WP 124 xF1 none 65 30 [some (.inr (.inr (some a0))), o1] [.inl s0] D Q =
  ((s0 = 0 → WP 124 xF1 none 65 63 [some (.inr (.inr (some a0))), some (.inl s0)] [] D Q) ∧ (¬ (s0 = 0) → ((0 : Int) ≤ (D a0 4) ∧ (D a0 4) < (300 : Int)) ∧ ((D (a0 + 13) (D a0 4)) < 65 → WP 124 xF1 none 65 63 [some (.inr (.inr (some a0))), some (.inl s0)] [] D Q) ∧ (¬ ((D (a0 + 13) (D a0 4)) < 65) → ((0 : Int) ≤ (D a0 4) ∧ (D a0 4) < (300 : Int)) ∧ ((D (a0 + 13) (D a0 4)) < 73 → ((0 : Int) ≤ (D a0 4) ∧ (D a0 4) < (300 : Int)) ∧ (xinP ((D (a0 + 13) (D a0 4)) - 65)) ∧ Q (some (.inl 1)) (xup D a0 6 ((D (a0 + 13) (D a0 4)) - 65))) ∧ (¬ ((D (a0 + 13) (D a0 4)) < 73) → WP 124 xF1 none 65 63 [some (.inr (.inr (some a0))), some (.inl s0)] [] D Q)))) :=
  (WP.stI rfl rfl).trans <| (WP.ldI rfl rfl).trans <| (WP.if0 rfl).trans <| br_eq rfl ((WP.ldR rfl rfl).trans <| (WP.getR (b := (a0 + 13)) rfl ha0 rfl rfl).trans <| (WP.ldR rfl rfl).trans <| (WP.getI rfl ha0).trans <| (WP.iald rfl (so_5_1 ha0)).trans <| cn_eq ((WP.kI rfl).trans <| (WP.ic2 rfl).trans <| br_eq rfl ((WP.ldR rfl rfl).trans <| (WP.getR (b := (a0 + 13)) rfl ha0 rfl rfl).trans <| (WP.ldR rfl rfl).trans <| (WP.getI rfl ha0).trans <| (WP.iald rfl (so_5_1 ha0)).trans <| cn_eq ((WP.kI rfl).trans <| (WP.ic2 rfl).trans <| br_eq ((WP.ldR rfl rfl).trans <| (WP.ldR rfl rfl).trans <| (WP.getR (b := (a0 + 13)) rfl ha0 rfl rfl).trans <| (WP.ldR rfl rfl).trans <| (WP.getI rfl ha0).trans <| (WP.iald rfl (so_5_1 ha0)).trans <| cn_eq ((WP.kI rfl).trans <| (WP.isub rfl).trans <| cn_eq ((WP.putI rfl ha0).trans <| (WP.kI rfl).trans <| WP.ret rfl rfl))) rfl))))
theorem seg65_63 (a0 : Nat) (x1 : Int) (D : xD) (Q : Option xv → xD → Prop) (ha0 : xisO 124 a0 5 = true) :
  WP 124 xF1 none 65 63 [some (.inr (.inr (some a0))), some (.inl x1)] [] D Q =
  (WP 124 xF1 none 62 0 [some (.inr (.inr (some a0))), some (.inl 1)] [] D (fun v D9 => WP 124 xF1 none 65 68 [some (.inr (.inr (some a0))), some (.inl x1)] (v.toList ++ []) D9 Q)) :=
  (WP.ldR rfl rfl).trans <| (WP.kI rfl).trans <| WP.call rfl rfl (crv (r := xrecv 124 62 [.inr (.inr (some a0)), .inl 1]) ha0 rfl rfl rfl) rfl
theorem seg65_68 (a0 : Nat) (x1 : Int) (s0 : Int) (D : xD) (Q : Option xv → xD → Prop) (ha0 : xisO 124 a0 5 = true) :
  WP 124 xF1 none 65 68 [some (.inr (.inr (some a0))), some (.inl x1)] [.inl s0] D Q =
  ((s0 = 0 ∨ s0 = 1) ∧ Q (some (.inl s0)) D) :=
  WP.retZ rfl rfl
theorem seg66_0 (a0 : Nat) (x1 : Int) (x2 : Int) (D : xD) (Q : Option xv → xD → Prop) (ha0 : xisO 124 a0 5 = true) :
  WP 124 xF1 none 66 0 [some (.inr (.inr (some a0))), some (.inl x1), some (.inl x2)] [] D Q =
  (WP 124 xF1 none 59 0 [some (.inr (.inr (some a0)))] [] D (fun v D9 => WP 124 xF1 none 66 4 [some (.inr (.inr (some a0))), some (.inl x1), some (.inl x2)] (v.toList ++ []) D9 Q)) :=
  (WP.ldR rfl rfl).trans <| WP.call rfl rfl (crv (r := xrecv 124 59 [.inr (.inr (some a0))]) ha0 rfl rfl rfl) rfl
theorem seg66_4 (a0 : Nat) (x1 : Int) (x2 : Int) (D : xD) (Q : Option xv → xD → Prop) (ha0 : xisO 124 a0 5 = true) :
  WP 124 xF1 none 66 4 [some (.inr (.inr (some a0))), some (.inl x1), some (.inl x2)] [] D Q =
  (((D a0 3) = 2 → ((D a0 6) < x1 → WP 124 xF1 none 66 34 [some (.inr (.inr (some a0))), some (.inl x1), some (.inl x2)] [] D Q) ∧ (¬ ((D a0 6) < x1) → ((D a0 6) ≤ x2 → WP 124 xF1 none 66 42 [some (.inr (.inr (some a0))), some (.inl x1), some (.inl x2)] [] D Q) ∧ (¬ ((D a0 6) ≤ x2) → WP 124 xF1 none 66 34 [some (.inr (.inr (some a0))), some (.inl x1), some (.inl x2)] [] D Q))) ∧ (¬ ((D a0 3) = 2) → WP 124 xF1 none 62 0 [some (.inr (.inr (some a0))), some (.inl 1)] [] D (fun v D9 => WP 124 xF1 none 66 17 [some (.inr (.inr (some a0))), some (.inl x1), some (.inl x2)] (v.toList ++ []) D9 Q))) :=
  (WP.ldR rfl rfl).trans <| (WP.getI rfl ha0).trans <| (WP.kI rfl).trans <| (WP.ic0 rfl).trans <| br_eq ((WP.ldR rfl rfl).trans <| (WP.getI rfl ha0).trans <| (WP.ldI rfl rfl).trans <| (WP.ic2 rfl).trans <| br_eq rfl ((WP.ldR rfl rfl).trans <| (WP.getI rfl ha0).trans <| (WP.ldI rfl rfl).trans <| (WP.ic5 rfl).trans <| br_eq rfl rfl)) ((WP.ldR rfl rfl).trans <| (WP.kI rfl).trans <| WP.call rfl rfl (crv (r := xrecv 124 62 [.inr (.inr (some a0)), .inl 1]) ha0 rfl rfl rfl) rfl)
theorem seg66_17 (a0 : Nat) (x1 : Int) (x2 : Int) (s0 : Int) (D : xD) (Q : Option xv → xD → Prop) (ha0 : xisO 124 a0 5 = true) :
  WP 124 xF1 none 66 17 [some (.inr (.inr (some a0))), some (.inl x1), some (.inl x2)] [.inl s0] D Q =
  ((s0 = 0 ∨ s0 = 1) ∧ Q (some (.inl s0)) D) :=
  WP.retZ rfl rfl
theorem seg66_34 (a0 : Nat) (x1 : Int) (x2 : Int) (D : xD) (Q : Option xv → xD → Prop) (ha0 : xisO 124 a0 5 = true) :
  WP 124 xF1 none 66 34 [some (.inr (.inr (some a0))), some (.inl x1), some (.inl x2)] [] D Q =
  (WP 124 xF1 none 62 0 [some (.inr (.inr (some a0))), some (.inl 2)] [] D (fun v D9 => WP 124 xF1 none 66 39 [some (.inr (.inr (some a0))), some (.inl x1), some (.inl x2)] (v.toList ++ []) D9 Q)) :=
  (WP.ldR rfl rfl).trans <| (WP.kI rfl).trans <| WP.call rfl rfl (crv (r := xrecv 124 62 [.inr (.inr (some a0)), .inl 2]) ha0 rfl rfl rfl) rfl
theorem seg66_39 (a0 : Nat) (x1 : Int) (x2 : Int) (s0 : Int) (D : xD) (Q : Option xv → xD → Prop) (ha0 : xisO 124 a0 5 = true) :
  WP 124 xF1 none 66 39 [some (.inr (.inr (some a0))), some (.inl x1), some (.inl x2)] [.inl s0] D Q =
  ((s0 = 0 → WP 124 xF1 none 66 47 [some (.inr (.inr (some a0))), some (.inl x1), some (.inl x2)] [.inl 0] D Q) ∧ (¬ (s0 = 0) → WP 124 xF1 none 66 42 [some (.inr (.inr (some a0))), some (.inl x1), some (.inl x2)] [] D Q)) :=
  (WP.if0 rfl).trans <| br_eq (WP.kI rfl) rfl
theorem seg66_42 (a0 : Nat) (x1 : Int) (x2 : Int) (D : xD) (Q : Option xv → xD → Prop) (ha0 : xisO 124 a0 5 = true) :
  WP 124 xF1 none 66 42 [some (.inr (.inr (some a0))), some (.inl x1), some (.inl x2)] [] D Q =
  (WP 124 xF1 none 66 47 [some (.inr (.inr (some a0))), some (.inl x1), some (.inl x2)] [.inl 1] D Q) :=
  (WP.kI rfl).trans <| WP.goto rfl
theorem seg66_47 (a0 : Nat) (x1 : Int) (x2 : Int) (s0 : Int) (D : xD) (Q : Option xv → xD → Prop) (ha0 : xisO 124 a0 5 = true) :
  WP 124 xF1 none 66 47 [some (.inr (.inr (some a0))), some (.inl x1), some (.inl x2)] [.inl s0] D Q =
  ((s0 = 0 ∨ s0 = 1) ∧ Q (some (.inl s0)) D) :=
  WP.retZ rfl rfl
theorem seg67_0 (a0 : Nat) (D : xD) (Q : Option xv → xD → Prop) (ha0 : xisO 124 a0 5 = true) :
  WP 124 xF1 none 67 0 [some (.inr (.inr (some a0)))] [] D Q =
  (WP 124 xF1 none 59 0 [some (.inr (.inr (some a0)))] [] D (fun v D9 => WP 124 xF1 none 67 4 [some (.inr (.inr (some a0)))] (v.toList ++ []) D9 Q)) :=
  (WP.ldR rfl rfl).trans <| WP.call rfl rfl (crv (r := xrecv 124 59 [.inr (.inr (some a0))]) ha0 rfl rfl rfl) rfl
theorem seg67_4 (a0 : Nat) (D : xD) (Q : Option xv → xD → Prop) (ha0 : xisO 124 a0 5 = true) :
  WP 124 xF1 none 67 4 [some (.inr (.inr (some a0)))] [] D Q =
  (((D a0 3) = 3 → WP 124 xF1 none 59 0 [some (.inr (.inr (some a0)))] [] D (fun v D9 => WP 124 xF1 none 67 22 [some (.inr (.inr (some a0)))] (v.toList ++ []) D9 Q)) ∧ (¬ ((D a0 3) = 3) → WP 124 xF1 none 62 0 [some (.inr (.inr (some a0))), some (.inl 1)] [] D (fun v D9 => WP 124 xF1 none 67 17 [some (.inr (.inr (some a0)))] (v.toList ++ []) D9 Q))) :=
  (WP.ldR rfl rfl).trans <| (WP.getI rfl ha0).trans <| (WP.kI rfl).trans <| (WP.ic0 rfl).trans <| br_eq ((WP.ldR rfl rfl).trans <| WP.call rfl rfl (crv (r := xrecv 124 59 [.inr (.inr (some a0))]) ha0 rfl rfl rfl) rfl) ((WP.ldR rfl rfl).trans <| (WP.kI rfl).trans <| WP.call rfl rfl (crv (r := xrecv 124 62 [.inr (.inr (some a0)), .inl 1]) ha0 rfl rfl rfl) rfl)
theorem seg67_17 (a0 : Nat) (s0 : Int) (D : xD) (Q : Option xv → xD → Prop) (ha0 : xisO 124 a0 5 = true) :
  WP 124 xF1 none 67 17 [some (.inr (.inr (some a0)))] [.inl s0] D Q =
  ((s0 = 0 ∨ s0 = 1) ∧ Q (some (.inl s0)) D) :=
  WP.retZ rfl rfl
theorem seg67_22 (a0 : Nat) (D : xD) (Q : Option xv → xD → Prop) (ha0 : xisO 124 a0 5 = true) :
  WP 124 xF1 none 67 22 [some (.inr (.inr (some a0)))] [] D Q =
  (Q (some (.inl 1)) D) :=
  (WP.kI rfl).trans <| WP.ret rfl rfl
theorem seg68_0 (a0 : Nat) (o1 : Option xv) (D : xD) (Q : Option xv → xD → Prop) (ha0 : xisO 124 a0 5 = true) :
  WP 124 xF1 none 68 0 [some (.inr (.inr (some a0))), o1] [] D Q =
  (WP 124 xF1 none 65 0 [some (.inr (.inr (some a0))), none] [] D (fun v D9 => WP 124 xF1 none 68 4 [some (.inr (.inr (some a0))), o1] (v.toList ++ []) D9 Q)) :=
  (WP.ldR rfl rfl).trans <| WP.call rfl rfl (crv (r := xrecv 124 65 [.inr (.inr (some a0))]) ha0 rfl rfl rfl) rfl
theorem seg68_4 (a0 : Nat) (o1 : Option xv) (s0 : Int) (D : xD) (Q : Option xv → xD → Prop) (ha0 : xisO 124 a0 5 = true) :
  WP 124 xF1 none 68 4 [some (.inr (.inr (some a0))), o1] [.inl s0] D Q =
  ((s0 ≠ 0 → ((iand (ishr (D a0 7) (D a0 6)) 1) ≠ 1 → WP 124 xF1 none 66 0 [some (.inr (.inr (some a0))), some (.inl 0), some (.inl 99)] [] D (fun v D9 => WP 124 xF1 none 68 39 [some (.inr (.inr (some a0))), some (.inl (D a0 6))] (v.toList ++ []) D9 Q)) ∧ (¬ ((iand (ishr (D a0 7) (D a0 6)) 1) ≠ 1) → WP 124 xF1 none 62 0 [some (.inr (.inr (some a0))), some (.inl 3)] [] D (fun v D9 => WP 124 xF1 none 68 31 [some (.inr (.inr (some a0))), some (.inl (D a0 6))] (v.toList ++ []) D9 Q))) ∧ (¬ (s0 ≠ 0) → Q (some (.inl 0)) D)) :=
  (WP.if1 rfl).trans <| br_eq ((WP.ldR rfl rfl).trans <| (WP.getI rfl ha0).trans <| (WP.stI rfl rfl).trans <| (WP.ldR rfl rfl).trans <| (WP.getI rfl ha0).trans <| (WP.ldI rfl rfl).trans <| (WP.ishr rfl).trans <| (WP.kI rfl).trans <| (WP.iand rfl).trans <| (WP.kI rfl).trans <| (WP.ic1 rfl).trans <| br_eq ((WP.ldR rfl rfl).trans <| (WP.kI rfl).trans <| (WP.kI rfl).trans <| WP.call rfl rfl (crv (r := xrecv 124 66 [.inr (.inr (some a0)), .inl 0, .inl 99]) ha0 rfl rfl rfl) rfl) ((WP.ldR rfl rfl).trans <| (WP.kI rfl).trans <| WP.call rfl rfl (crv (r := xrecv 124 62 [.inr (.inr (some a0)), .inl 3]) ha0 rfl rfl rfl) rfl)) ((WP.kI rfl).trans <| WP.ret rfl rfl)
theorem seg68_31 (a0 : Nat) (x1 : Int) (s0 : Int) (D : xD) (Q : Option xv → xD → Prop) (ha0 : xisO 124 a0 5 = true) :
  WP 124 xF1 none 68 31 [some (.inr (.inr (some a0))), some (.inl x1)] [.inl s0] D Q =
  ((s0 = 0 ∨ s0 = 1) ∧ Q (some (.inl s0)) D) :=
  WP.retZ rfl rfl
theorem seg68_39 (a0 : Nat) (x1 : Int) (s0 : Int) (D : xD) (Q : Option xv → xD → Prop) (ha0 : xisO 124 a0 5 = true) :
  WP 124 xF1 none 68 39 [some (.inr (.inr (some a0))), some (.inl x1)] [.inl s0] D Q =
  ((s0 ≠ 0 → ((0 : Int) ≤ x1 ∧ x1 < (8 : Int)) ∧ WP 124 xF1 none 67 0 [some (.inr (.inr (some a0)))] [] (xup (xup D a0 7 (ior (D a0 7) (ishl 1 x1))) (a0 + 8) x1 (D a0 6)) (fun v D9 => WP 124 xF1 none 68 73 [some (.inr (.inr (some a0))), some (.inl x1)] (v.toList ++ []) D9 Q)) ∧ (¬ (s0 ≠ 0) → Q (some (.inl 0)) D)) :=
  (WP.if1 rfl).trans <| br_eq ((WP.ldR rfl rfl).trans <| (WP.dup rfl rfl).trans <| (WP.getI rfl ha0).trans <| (WP.kI rfl).trans <| (WP.ldI rfl rfl).trans <| (WP.ishl rfl).trans <| (WP.ior rfl).trans <| (WP.putI rfl ha0).trans <| (WP.ldR rfl rfl).trans <| (WP.getR (b := (a0 + 1)) rfl ha0 rfl rfl).trans <| (WP.getR (b := (a0 + 8)) rfl (so_5_0 ha0) rfl rfl).trans <| (WP.ldI rfl rfl).trans <| (WP.ldR rfl rfl).trans <| (WP.getI2 rfl ha0 (xr_k (by decide))).trans <| (WP.iast rfl (so_7_6 (so_5_0 ha0))).trans <| cn_eq ((WP.ldR rfl rfl).trans <| WP.call rfl rfl (crv (r := xrecv 124 67 [.inr (.inr (some a0))]) ha0 rfl rfl rfl) rfl)) ((WP.kI rfl).trans <| WP.ret rfl rfl)
theorem seg68_73 (a0 : Nat) (x1 : Int) (s0 : Int) (D : xD) (Q : Option xv → xD → Prop) (ha0 : xisO 124 a0 5 = true) :
  WP 124 xF1 none 68 73 [some (.inr (.inr (some a0))), some (.inl x1)] [.inl s0] D Q =
  ((s0 = 0 ∨ s0 = 1) ∧ Q (some (.inl s0)) D) :=
  WP.retZ rfl rfl
theorem seg69_0 (a0 : Nat) (o1 : Option xv) (D : xD) (Q : Option xv → xD → Prop) (ha0 : xisO 124 a0 5 = true) :
  WP 124 xF1 none 69 0 [some (.inr (.inr (some a0))), o1] [] D Q =
  (((D (a0 + 1) 11) < 16 → WP 124 xF1 none 65 0 [some (.inr (.inr (some a0))), none] [] D (fun v D9 => WP 124 xF1 none 69 24 [some (.inr (.inr (some a0))), some (.inl (D (a0 + 1) 11))] (v.toList ++ []) D9 Q)) ∧ (¬ ((D (a0 + 1) 11) < 16) → WP 124 xF1 none 62 0 [some (.inr (.inr (some a0))), some (.inl 4)] [] D (fun v D9 => WP 124 xF1 none 69 19 [some (.inr (.inr (some a0))), some (.inl (D (a0 + 1) 11))] (v.toList ++ []) D9 Q))) :=
  (WP.ldR rfl rfl).trans <| (WP.getR (b := (a0 + 1)) rfl ha0 rfl rfl).trans <| (WP.getI rfl (so_5_0 ha0)).trans <| (WP.stI rfl rfl).trans <| (WP.ldI rfl rfl).trans <| (WP.kI rfl).trans <| (WP.ic2 rfl).trans <| br_eq ((WP.ldR rfl rfl).trans <| WP.call rfl rfl (crv (r := xrecv 124 65 [.inr (.inr (some a0))]) ha0 rfl rfl rfl) rfl) ((WP.ldR rfl rfl).trans <| (WP.kI rfl).trans <| WP.call rfl rfl (crv (r := xrecv 124 62 [.inr (.inr (some a0)), .inl 4]) ha0 rfl rfl rfl) rfl)
theorem seg69_19 (a0 : Nat) (x1 : Int) (s0 : Int) (D : xD) (Q : Option xv → xD → Prop) (ha0 : xisO 124 a0 5 = true) :
  WP 124 xF1 none 69 19 [some (.inr (.inr (some a0))), some (.inl x1)] [.inl s0] D Q =
  ((s0 = 0 ∨ s0 = 1) ∧ Q (some (.inl s0)) D) :=
  WP.retZ rfl rfl
theorem seg69_24 (a0 : Nat) (x1 : Int) (s0 : Int) (D : xD) (Q : Option xv → xD → Prop) (ha0 : xisO 124 a0 5 = true) :
  WP 124 xF1 none 69 24 [some (.inr (.inr (some a0))), some (.inl x1)] [.inl s0] D Q =
  ((s0 ≠ 0 → ((0 : Int) ≤ x1 ∧ x1 < (16 : Int)) ∧ WP 124 xF1 none 65 0 [some (.inr (.inr (some a0))), none] [] (xup D (a0 + 2) x1 (D a0 6)) (fun v D9 => WP 124 xF1 none 69 46 [some (.inr (.inr (some a0))), some (.inl x1)] (v.toList ++ []) D9 Q)) ∧ (¬ (s0 ≠ 0) → Q (some (.inl 0)) D)) :=
  (WP.if1 rfl).trans <| br_eq ((WP.ldR rfl rfl).trans <| (WP.getR (b := (a0 + 1)) rfl ha0 rfl rfl).trans <| (WP.getR (b := (a0 + 2)) rfl (so_5_0 ha0) rfl rfl).trans <| (WP.ldI rfl rfl).trans <| (WP.ldR rfl rfl).trans <| (WP.getI rfl ha0).trans <| (WP.iast rfl (so_7_0 (so_5_0 ha0))).trans <| cn_eq ((WP.ldR rfl rfl).trans <| WP.call rfl rfl (crv (r := xrecv 124 65 [.inr (.inr (some a0))]) ha0 rfl rfl rfl) rfl)) ((WP.kI rfl).trans <| WP.ret rfl rfl)
theorem seg69_46 (a0 : Nat) (x1 : Int) (s0 : Int) (D : xD) (Q : Option xv → xD → Prop) (ha0 : xisO 124 a0 5 = true) :
  WP 124 xF1 none 69 46 [some (.inr (.inr (some a0))), some (.inl x1)] [.inl s0] D Q =
  ((s0 ≠ 0 → ((0 : Int) ≤ x1 ∧ x1 < (16 : Int)) ∧ ((0 : Int) ≤ x1 ∧ x1 < (16 : Int)) ∧ ((D (a0 + 2) x1) ≠ (D a0 6) → WP 124 xF1 none 66 0 [some (.inr (.inr (some a0))), some (.inl 1), some (.inl 5)] [] (xup D (a0 + 3) x1 (D a0 6)) (fun v D9 => WP 124 xF1 none 69 92 [some (.inr (.inr (some a0))), some (.inl x1)] (v.toList ++ []) D9 Q)) ∧ (¬ ((D (a0 + 2) x1) ≠ (D a0 6)) → WP 124 xF1 none 62 0 [some (.inr (.inr (some a0))), some (.inl 3)] [] (xup D (a0 + 3) x1 (D a0 6)) (fun v D9 => WP 124 xF1 none 69 85 [some (.inr (.inr (some a0))), some (.inl x1)] (v.toList ++ []) D9 Q))) ∧ (¬ (s0 ≠ 0) → Q (some (.inl 0)) D)) :=
  (WP.if1 rfl).trans <| br_eq ((WP.ldR rfl rfl).trans <| (WP.getR (b := (a0 + 1)) rfl ha0 rfl rfl).trans <| (WP.getR (b := (a0 + 3)) rfl (so_5_0 ha0) rfl rfl).trans <| (WP.ldI rfl rfl).trans <| (WP.ldR rfl rfl).trans <| (WP.getI rfl ha0).trans <| (WP.iast rfl (so_7_1 (so_5_0 ha0))).trans <| cn_eq ((WP.ldR rfl rfl).trans <| (WP.getR (b := (a0 + 1)) rfl ha0 rfl rfl).trans <| (WP.getR (b := (a0 + 2)) rfl (so_5_0 ha0) rfl rfl).trans <| (WP.ldI rfl rfl).trans <| (WP.iald2 rfl (so_7_0 (so_5_0 ha0)) (xr_n (by omega))).trans <| cn_eq ((WP.ldR rfl rfl).trans <| (WP.getI2 rfl ha0 (xr_n (by omega))).trans <| (WP.ic1 rfl).trans <| br_eq ((WP.ldR rfl rfl).trans <| (WP.kI rfl).trans <| (WP.kI rfl).trans <| WP.call rfl rfl (crv (r := xrecv 124 66 [.inr (.inr (some a0)), .inl 1, .inl 5]) ha0 rfl rfl rfl) rfl) ((WP.ldR rfl rfl).trans <| (WP.kI rfl).trans <| WP.call rfl rfl (crv (r := xrecv 124 62 [.inr (.inr (some a0)), .inl 3]) ha0 rfl rfl rfl) rfl)))) ((WP.kI rfl).trans <| WP.ret rfl rfl)
theorem seg69_85 (a0 : Nat) (x1 : Int) (s0 : Int) (D : xD) (Q : Option xv → xD → Prop) (ha0 : xisO 124 a0 5 = true) :
  WP 124 xF1 none 69 85 [some (.inr (.inr (some a0))), some (.inl x1)] [.inl s0] D Q =
  ((s0 = 0 ∨ s0 = 1) ∧ Q (some (.inl s0)) D) :=
  WP.retZ rfl rfl
theorem seg69_92 (a0 : Nat) (x1 : Int) (s0 : Int) (D : xD) (Q : Option xv → xD → Prop) (ha0 : xisO 124 a0 5 = true) :
  WP 124 xF1 none 69 92 [some (.inr (.inr (some a0))), some (.inl x1)] [.inl s0] D Q =
  ((s0 ≠ 0 → ((0 : Int) ≤ x1 ∧ x1 < (16 : Int)) ∧ WP 124 xF1 none 66 0 [some (.inr (.inr (some a0))), some (.inl 1), some (.inl 9)] [] (xup D (a0 + 4) x1 (D a0 6)) (fun v D9 => WP 124 xF1 none 69 117 [some (.inr (.inr (some a0))), some (.inl x1)] (v.toList ++ []) D9 Q)) ∧ (¬ (s0 ≠ 0) → Q (some (.inl 0)) D)) :=
  (WP.if1 rfl).trans <| br_eq ((WP.ldR rfl rfl).trans <| (WP.getR (b := (a0 + 1)) rfl ha0 rfl rfl).trans <| (WP.getR (b := (a0 + 4)) rfl (so_5_0 ha0) rfl rfl).trans <| (WP.ldI rfl rfl).trans <| (WP.ldR rfl rfl).trans <| (WP.getI rfl ha0).trans <| (WP.iast rfl (so_7_2 (so_5_0 ha0))).trans <| cn_eq ((WP.ldR rfl rfl).trans <| (WP.kI rfl).trans <| (WP.kI rfl).trans <| WP.call rfl rfl (crv (r := xrecv 124 66 [.inr (.inr (some a0)), .inl 1, .inl 9]) ha0 rfl rfl rfl) rfl)) ((WP.kI rfl).trans <| WP.ret rfl rfl)
theorem seg69_117 (a0 : Nat) (x1 : Int) (s0 : Int) (D : xD) (Q : Option xv → xD → Prop) (ha0 : xisO 124 a0 5 = true) :
  WP 124 xF1 none 69 117 [some (.inr (.inr (some a0))), some (.inl x1)] [.inl s0] D Q =
  ((s0 ≠ 0 → ((0 : Int) ≤ x1 ∧ x1 < (16 : Int)) ∧ ((0 : Int) ≤ x1 ∧ x1 < (16 : Int)) ∧ ((0 : Int) ≤ x1 ∧ x1 < (16 : Int)) ∧ (xinP ((D (a0 + 1) 11) + 1)) ∧ WP 124 xF1 none 67 0 [some (.inr (.inr (some a0)))] [] (xup (xup (xup (xup D (a0 + 5) x1 (D a0 6)) (a0 + 6) x1 0) (a0 + 7) x1 12) (a0 + 1) 11 ((D (a0 + 1) 11) + 1)) (fun v D9 => WP 124 xF1 none 69 173 [some (.inr (.inr (some a0))), some (.inl x1)] (v.toList ++ []) D9 Q)) ∧ (¬ (s0 ≠ 0) → Q (some (.inl 0)) D)) :=
  (WP.if1 rfl).trans <| br_eq ((WP.ldR rfl rfl).trans <| (WP.getR (b := (a0 + 1)) rfl ha0 rfl rfl).trans <| (WP.getR (b := (a0 + 5)) rfl (so_5_0 ha0) rfl rfl).trans <| (WP.ldI rfl rfl).trans <| (WP.ldR rfl rfl).trans <| (WP.getI rfl ha0).trans <| (WP.iast rfl (so_7_3 (so_5_0 ha0))).trans <| cn_eq ((WP.ldR rfl rfl).trans <| (WP.getR (b := (a0 + 1)) rfl ha0 rfl rfl).trans <| (WP.getR (b := (a0 + 6)) rfl (so_5_0 ha0) rfl rfl).trans <| (WP.ldI rfl rfl).trans <| (WP.kI rfl).trans <| (WP.iast rfl (so_7_4 (so_5_0 ha0))).trans <| cn_eq ((WP.ldR rfl rfl).trans <| (WP.getR (b := (a0 + 1)) rfl ha0 rfl rfl).trans <| (WP.getR (b := (a0 + 7)) rfl (so_5_0 ha0) rfl rfl).trans <| (WP.ldI rfl rfl).trans <| (WP.kI rfl).trans <| (WP.iast rfl (so_7_5 (so_5_0 ha0))).trans <| cn_eq ((WP.ldR rfl rfl).trans <| (WP.getR (b := (a0 + 1)) rfl ha0 rfl rfl).trans <| (WP.dup rfl rfl).trans <| (WP.getI2 rfl (so_5_0 ha0) ((xr_n (by omega)).trans ((xr_n (by omega)).trans (xr_n (by omega))))).trans <| (WP.kI rfl).trans <| (WP.iadd rfl).trans <| cn_eq ((WP.putI rfl (so_5_0 ha0)).trans <| (WP.ldR rfl rfl).trans <| WP.call rfl rfl (crv (r := xrecv 124 67 [.inr (.inr (some a0))]) ha0 rfl rfl rfl) rfl))))) ((WP.kI rfl).trans <| WP.ret rfl rfl)
theorem seg69_173 (a0 : Nat) (x1 : Int) (s0 : Int) (D : xD) (Q : Option xv → xD → Prop) (ha0 : xisO 124 a0 5 = true) :
  WP 124 xF1 none 69 173 [some (.inr (.inr (some a0))), some (.inl x1)] [.inl s0] D Q =
  ((s0 = 0 ∨ s0 = 1) ∧ Q (some (.inl s0)) D) :=
  WP.retZ rfl rfl
theorem seg70_0 (a0 : Nat) (o1 : Option xv) (D : xD) (Q : Option xv → xD → Prop) (ha0 : xisO 124 a0 5 = true) :
  WP 124 xF1 none 70 0 [some (.inr (.inr (some a0))), o1] [] D Q =
  ((xinP ((D (a0 + 1) 11) - 1)) ∧ WP 124 xF1 none 66 0 [some (.inr (.inr (some a0))), some (.inl 0), some (.inl ((D (a0 + 1) 11) - 1))] [] D (fun v D9 => WP 124 xF1 none 70 14 [some (.inr (.inr (some a0))), o1] (v.toList ++ []) D9 Q)) :=
  (WP.ldR rfl rfl).trans <| (WP.kI rfl).trans <| (WP.ldR rfl rfl).trans <| (WP.getR (b := (a0 + 1)) rfl ha0 rfl rfl).trans <| (WP.getI rfl (so_5_0 ha0)).trans <| (WP.kI rfl).trans <| (WP.isub rfl).trans <| cn_eq (WP.call rfl rfl (crv (r := xrecv 124 66 [.inr (.inr (some a0)), .inl 0, .inl ((D (a0 + 1) 11) - 1)]) ha0 rfl rfl rfl) rfl)
theorem seg70_14 (a0 : Nat) (o1 : Option xv) (s0 : Int) (D : xD) (Q : Option xv → xD → Prop) (ha0 : xisO 124 a0 5 = true) :
  WP 124 xF1 none 70 14 [some (.inr (.inr (some a0))), o1] [.inl s0] D Q =
  ((s0 ≠ 0 → ((iand (ishr (D a0 8) (D a0 6)) 1) ≠ 1 → WP 124 xF1 none 66 0 [some (.inr (.inr (some a0))), some (.inl 0), some (.inl 12)] [] (xup D a0 8 (ior (D a0 8) (ishl 1 (D a0 6)))) (fun v D9 => WP 124 xF1 none 70 61 [some (.inr (.inr (some a0))), some (.inl (D a0 6))] (v.toList ++ []) D9 Q)) ∧ (¬ ((iand (ishr (D a0 8) (D a0 6)) 1) ≠ 1) → WP 124 xF1 none 62 0 [some (.inr (.inr (some a0))), some (.inl 3)] [] D (fun v D9 => WP 124 xF1 none 70 41 [some (.inr (.inr (some a0))), some (.inl (D a0 6))] (v.toList ++ []) D9 Q))) ∧ (¬ (s0 ≠ 0) → Q (some (.inl 0)) D)) :=
  (WP.if1 rfl).trans <| br_eq ((WP.ldR rfl rfl).trans <| (WP.getI rfl ha0).trans <| (WP.stI rfl rfl).trans <| (WP.ldR rfl rfl).trans <| (WP.getI rfl ha0).trans <| (WP.ldI rfl rfl).trans <| (WP.ishr rfl).trans <| (WP.kI rfl).trans <| (WP.iand rfl).trans <| (WP.kI rfl).trans <| (WP.ic1 rfl).trans <| br_eq ((WP.ldR rfl rfl).trans <| (WP.dup rfl rfl).trans <| (WP.getI rfl ha0).trans <| (WP.kI rfl).trans <| (WP.ldI rfl rfl).trans <| (WP.ishl rfl).trans <| (WP.ior rfl).trans <| (WP.putI rfl ha0).trans <| (WP.ldR rfl rfl).trans <| (WP.kI rfl).trans <| (WP.kI rfl).trans <| WP.call rfl rfl (crv (r := xrecv 124 66 [.inr (.inr (some a0)), .inl 0, .inl 12]) ha0 rfl rfl rfl) rfl) ((WP.ldR rfl rfl).trans <| (WP.kI rfl).trans <| WP.call rfl rfl (crv (r := xrecv 124 62 [.inr (.inr (some a0)), .inl 3]) ha0 rfl rfl rfl) rfl)) ((WP.kI rfl).trans <| WP.ret rfl rfl)
theorem seg70_41 (a0 : Nat) (x1 : Int) (s0 : Int) (D : xD) (Q : Option xv → xD → Prop) (ha0 : xisO 124 a0 5 = true) :
  WP 124 xF1 none 70 41 [some (.inr (.inr (some a0))), some (.inl x1)] [.inl s0] D Q =
  ((s0 = 0 ∨ s0 = 1) ∧ Q (some (.inl s0)) D) :=
  WP.retZ rfl rfl
theorem seg70_61 (a0 : Nat) (x1 : Int) (s0 : Int) (D : xD) (Q : Option xv → xD → Prop) (ha0 : xisO 124 a0 5 = true) :
  WP 124 xF1 none 70 61 [some (.inr (.inr (some a0))), some (.inl x1)] [.inl s0] D Q =
  ((s0 ≠ 0 → ((0 : Int) ≤ x1 ∧ x1 < (16 : Int)) ∧ ((0 : Int) ≤ x1 ∧ x1 < (16 : Int)) ∧ WP 124 xF1 none 66 0 [some (.inr (.inr (some a0))), some (.inl (D a0 6)), some (.inl 12)] [] (xup D (a0 + 6) x1 (D a0 6)) (fun v D9 => WP 124 xF1 none 70 94 [some (.inr (.inr (some a0))), some (.inl x1)] (v.toList ++ []) D9 Q)) ∧ (¬ (s0 ≠ 0) → Q (some (.inl 0)) D)) :=
  (WP.if1 rfl).trans <| br_eq ((WP.ldR rfl rfl).trans <| (WP.getR (b := (a0 + 1)) rfl ha0 rfl rfl).trans <| (WP.getR (b := (a0 + 6)) rfl (so_5_0 ha0) rfl rfl).trans <| (WP.ldI rfl rfl).trans <| (WP.ldR rfl rfl).trans <| (WP.getI rfl ha0).trans <| (WP.iast rfl (so_7_4 (so_5_0 ha0))).trans <| cn_eq ((WP.ldR rfl rfl).trans <| (WP.ldR rfl rfl).trans <| (WP.getR (b := (a0 + 1)) rfl ha0 rfl rfl).trans <| (WP.getR (b := (a0 + 6)) rfl (so_5_0 ha0) rfl rfl).trans <| (WP.ldI rfl rfl).trans <| (WP.iald2 rfl (so_7_4 (so_5_0 ha0)) xr_s).trans <| cn_eq ((WP.kI rfl).trans <| WP.call rfl rfl (crv (r := xrecv 124 66 [.inr (.inr (some a0)), .inl (D a0 6), .inl 12]) ha0 rfl rfl rfl) rfl))) ((WP.kI rfl).trans <| WP.ret rfl rfl)
theorem seg70_94 (a0 : Nat) (x1 : Int) (s0 : Int) (D : xD) (Q : Option xv → xD → Prop) (ha0 : xisO 124 a0 5 = true) :
  WP 124 xF1 none 70 94 [some (.inr (.inr (some a0))), some (.inl x1)] [.inl s0] D Q =
  ((s0 ≠ 0 → ((0 : Int) ≤ x1 ∧ x1 < (16 : Int)) ∧ WP 124 xF1 none 67 0 [some (.inr (.inr (some a0)))] [] (xup D (a0 + 7) x1 (D a0 6)) (fun v D9 => WP 124 xF1 none 70 116 [some (.inr (.inr (some a0))), some (.inl x1)] (v.toList ++ []) D9 Q)) ∧ (¬ (s0 ≠ 0) → Q (some (.inl 0)) D)) :=
  (WP.if1 rfl).trans <| br_eq ((WP.ldR rfl rfl).trans <| (WP.getR (b := (a0 + 1)) rfl ha0 rfl rfl).trans <| (WP.getR (b := (a0 + 7)) rfl (so_5_0 ha0) rfl rfl).trans <| (WP.ldI rfl rfl).trans <| (WP.ldR rfl rfl).trans <| (WP.getI rfl ha0).trans <| (WP.iast rfl (so_7_5 (so_5_0 ha0))).trans <| cn_eq ((WP.ldR rfl rfl).trans <| WP.call rfl rfl (crv (r := xrecv 124 67 [.inr (.inr (some a0))]) ha0 rfl rfl rfl) rfl)) ((WP.kI rfl).trans <| WP.ret rfl rfl)
theorem seg70_116 (a0 : Nat) (x1 : Int) (s0 : Int) (D : xD) (Q : Option xv → xD → Prop) (ha0 : xisO 124 a0 5 = true) :
  WP 124 xF1 none 70 116 [some (.inr (.inr (some a0))), some (.inl x1)] [.inl s0] D Q =
  ((s0 = 0 ∨ s0 = 1) ∧ Q (some (.inl s0)) D) :=
  WP.retZ rfl rfl
theorem seg71_0 (a0 : Nat) (D : xD) (Q : Option xv → xD → Prop) (ha0 : xisO 124 a0 5 = true) :
  WP 124 xF1 none 71 0 [some (.inr (.inr (some a0)))] [] D Q =
  (WP 124 xF1 none 241 0 [some (.inl (D (a0 + 1) 13))] [] D (fun v D9 => WP 124 xF1 none 71 10 [some (.inr (.inr (some a0)))] (v.toList ++ []) D9 Q)) :=
  (WP.ldR rfl rfl).trans <| (WP.getR (b := (a0 + 1)) rfl ha0 rfl rfl).trans <| (WP.getI rfl (so_5_0 ha0)).trans <| WP.call rfl rfl rfl rfl
theorem seg71_10 (a0 : Nat) (s0 : Int) (D : xD) (Q : Option xv → xD → Prop) (ha0 : xisO 124 a0 5 = true) :
  WP 124 xF1 none 71 10 [some (.inr (.inr (some a0)))] [.inl s0] D Q =
  ((s0 < 5 → (xinP ((D (a0 + 1) 11) - 1)) ∧ WP 124 xF1 none 66 0 [some (.inr (.inr (some a0))), some (.inl 0), some (.inl ((D (a0 + 1) 11) - 1))] [] D (fun v D9 => WP 124 xF1 none 71 34 [some (.inr (.inr (some a0)))] (v.toList ++ []) D9 Q)) ∧ (¬ (s0 < 5) → WP 124 xF1 none 62 0 [some (.inr (.inr (some a0))), some (.inl 4)] [] D (fun v D9 => WP 124 xF1 none 71 19 [some (.inr (.inr (some a0)))] (v.toList ++ []) D9 Q))) :=
  (WP.kI rfl).trans <| (WP.ic2 rfl).trans <| br_eq ((WP.ldR rfl rfl).trans <| (WP.kI rfl).trans <| (WP.ldR rfl rfl).trans <| (WP.getR (b := (a0 + 1)) rfl ha0 rfl rfl).trans <| (WP.getI rfl (so_5_0 ha0)).trans <| (WP.kI rfl).trans <| (WP.isub rfl).trans <| cn_eq (WP.call rfl rfl (crv (r := xrecv 124 66 [.inr (.inr (some a0)), .inl 0, .inl ((D (a0 + 1) 11) - 1)]) ha0 rfl rfl rfl) rfl)) ((WP.ldR rfl rfl).trans <| (WP.kI rfl).trans <| WP.call rfl rfl (crv (r := xrecv 124 62 [.inr (.inr (some a0)), .inl 4]) ha0 rfl rfl rfl) rfl)
theorem seg71_19 (a0 : Nat) (s0 : Int) (D : xD) (Q : Option xv → xD → Prop) (ha0 : xisO 124 a0 5 = true) :
  WP 124 xF1 none 71 19 [some (.inr (.inr (some a0)))] [.inl s0] D Q =
  ((s0 = 0 ∨ s0 = 1) ∧ Q (some (.inl s0)) D) :=
  WP.retZ rfl rfl
theorem seg71_34 (a0 : Nat) (s0 : Int) (D : xD) (Q : Option xv → xD → Prop) (ha0 : xisO 124 a0 5 = true) :
  WP 124 xF1 none 71 34 [some (.inr (.inr (some a0)))] [.inl s0] D Q =
  ((s0 ≠ 0 → ((iand (ishr (D (a0 + 1) 13) (D a0 6)) 1) ≠ 1 → WP 124 xF1 none 67 0 [some (.inr (.inr (some a0)))] [] (xup D (a0 + 1) 13 (ior (D (a0 + 1) 13) (ishl 1 (D a0 6)))) (fun v D9 => WP 124 xF1 none 71 85 [some (.inr (.inr (some a0)))] (v.toList ++ []) D9 Q)) ∧ (¬ ((iand (ishr (D (a0 + 1) 13) (D a0 6)) 1) ≠ 1) → WP 124 xF1 none 62 0 [some (.inr (.inr (some a0))), some (.inl 3)] [] D (fun v D9 => WP 124 xF1 none 71 62 [some (.inr (.inr (some a0)))] (v.toList ++ []) D9 Q))) ∧ (¬ (s0 ≠ 0) → Q (some (.inl 0)) D)) :=
  (WP.if1 rfl).trans <| br_eq ((WP.ldR rfl rfl).trans <| (WP.getR (b := (a0 + 1)) rfl ha0 rfl rfl).trans <| (WP.getI rfl (so_5_0 ha0)).trans <| (WP.ldR rfl rfl).trans <| (WP.getI rfl ha0).trans <| (WP.ishr rfl).trans <| (WP.kI rfl).trans <| (WP.iand rfl).trans <| (WP.kI rfl).trans <| (WP.ic1 rfl).trans <| br_eq ((WP.ldR rfl rfl).trans <| (WP.getR (b := (a0 + 1)) rfl ha0 rfl rfl).trans <| (WP.dup rfl rfl).trans <| (WP.getI rfl (so_5_0 ha0)).trans <| (WP.kI rfl).trans <| (WP.ldR rfl rfl).trans <| (WP.getI rfl ha0).trans <| (WP.ishl rfl).trans <| (WP.ior rfl).trans <| (WP.putI rfl (so_5_0 ha0)).trans <| (WP.ldR rfl rfl).trans <| WP.call rfl rfl (crv (r := xrecv 124 67 [.inr (.inr (some a0))]) ha0 rfl rfl rfl) rfl) ((WP.ldR rfl rfl).trans <| (WP.kI rfl).trans <| WP.call rfl rfl (crv (r := xrecv 124 62 [.inr (.inr (some a0)), .inl 3]) ha0 rfl rfl rfl) rfl)) ((WP.kI rfl).trans <| WP.ret rfl rfl)
theorem seg71_62 (a0 : Nat) (s0 : Int) (D : xD) (Q : Option xv → xD → Prop) (ha0 : xisO 124 a0 5 = true) :
  WP 124 xF1 none 71 62 [some (.inr (.inr (some a0)))] [.inl s0] D Q =
  ((s0 = 0 ∨ s0 = 1) ∧ Q (some (.inl s0)) D) :=
  WP.retZ rfl rfl
theorem seg71_85 (a0 : Nat) (s0 : Int) (D : xD) (Q : Option xv → xD → Prop) (ha0 : xisO 124 a0 5 = true) :
  WP 124 xF1 none 71 85 [some (.inr (.inr (some a0)))] [.inl s0] D Q =
  ((s0 = 0 ∨ s0 = 1) ∧ Q (some (.inl s0)) D) :=
  WP.retZ rfl rfl
theorem seg72_0 (a0 : Nat) (o1 : Option xv) (D : xD) (Q : Option xv → xD → Prop) (ha0 : xisO 124 a0 5 = true) :
  WP 124 xF1 none 72 0 [some (.inr (.inr (some a0))), o1] [] D Q =
  (((D (a0 + 1) 12) < 6 → WP 124 xF1 none 65 0 [some (.inr (.inr (some a0))), none] [] D (fun v D9 => WP 124 xF1 none 72 24 [some (.inr (.inr (some a0))), some (.inl (D (a0 + 1) 12))] (v.toList ++ []) D9 Q)) ∧ (¬ ((D (a0 + 1) 12) < 6) → WP 124 xF1 none 62 0 [some (.inr (.inr (some a0))), some (.inl 4)] [] D (fun v D9 => WP 124 xF1 none 72 19 [some (.inr (.inr (some a0))), some (.inl (D (a0 + 1) 12))] (v.toList ++ []) D9 Q))) :=
  (WP.ldR rfl rfl).trans <| (WP.getR (b := (a0 + 1)) rfl ha0 rfl rfl).trans <| (WP.getI rfl (so_5_0 ha0)).trans <| (WP.stI rfl rfl).trans <| (WP.ldI rfl rfl).trans <| (WP.kI rfl).trans <| (WP.ic2 rfl).trans <| br_eq ((WP.ldR rfl rfl).trans <| WP.call rfl rfl (crv (r := xrecv 124 65 [.inr (.inr (some a0))]) ha0 rfl rfl rfl) rfl) ((WP.ldR rfl rfl).trans <| (WP.kI rfl).trans <| WP.call rfl rfl (crv (r := xrecv 124 62 [.inr (.inr (some a0)), .inl 4]) ha0 rfl rfl rfl) rfl)
theorem seg72_19 (a0 : Nat) (x1 : Int) (s0 : Int) (D : xD) (Q : Option xv → xD → Prop) (ha0 : xisO 124 a0 5 = true) :
  WP 124 xF1 none 72 19 [some (.inr (.inr (some a0))), some (.inl x1)] [.inl s0] D Q =
  ((s0 = 0 ∨ s0 = 1) ∧ Q (some (.inl s0)) D) :=
  WP.retZ rfl rfl
theorem seg72_24 (a0 : Nat) (x1 : Int) (s0 : Int) (D : xD) (Q : Option xv → xD → Prop) (ha0 : xisO 124 a0 5 = true) :
  WP 124 xF1 none 72 24 [some (.inr (.inr (some a0))), some (.inl x1)] [.inl s0] D Q =
  ((s0 ≠ 0 → ((0 : Int) ≤ x1 ∧ x1 < (6 : Int)) ∧ WP 124 xF1 none 66 0 [some (.inr (.inr (some a0))), some (.inl 0), some (.inl 12)] [] (xup D (a0 + 10) x1 (D a0 6)) (fun v D9 => WP 124 xF1 none 72 49 [some (.inr (.inr (some a0))), some (.inl x1)] (v.toList ++ []) D9 Q)) ∧ (¬ (s0 ≠ 0) → Q (some (.inl 0)) D)) :=
  (WP.if1 rfl).trans <| br_eq ((WP.ldR rfl rfl).trans <| (WP.getR (b := (a0 + 1)) rfl ha0 rfl rfl).trans <| (WP.getR (b := (a0 + 10)) rfl (so_5_0 ha0) rfl rfl).trans <| (WP.ldI rfl rfl).trans <| (WP.ldR rfl rfl).trans <| (WP.getI rfl ha0).trans <| (WP.iast rfl (so_7_8 (so_5_0 ha0))).trans <| cn_eq ((WP.ldR rfl rfl).trans <| (WP.kI rfl).trans <| (WP.kI rfl).trans <| WP.call rfl rfl (crv (r := xrecv 124 66 [.inr (.inr (some a0)), .inl 0, .inl 12]) ha0 rfl rfl rfl) rfl)) ((WP.kI rfl).trans <| WP.ret rfl rfl)
theorem seg72_49 (a0 : Nat) (x1 : Int) (s0 : Int) (D : xD) (Q : Option xv → xD → Prop) (ha0 : xisO 124 a0 5 = true) :
  WP 124 xF1 none 72 49 [some (.inr (.inr (some a0))), some (.inl x1)] [.inl s0] D Q =
  ((s0 ≠ 0 → ((0 : Int) ≤ x1 ∧ x1 < (6 : Int)) ∧ WP 124 xF1 none 66 0 [some (.inr (.inr (some a0))), some (.inl 1), some (.inl 30)] [] (xup D (a0 + 11) x1 (D a0 6)) (fun v D9 => WP 124 xF1 none 72 74 [some (.inr (.inr (some a0))), some (.inl x1)] (v.toList ++ []) D9 Q)) ∧ (¬ (s0 ≠ 0) → Q (some (.inl 0)) D)) :=
  (WP.if1 rfl).trans <| br_eq ((WP.ldR rfl rfl).trans <| (WP.getR (b := (a0 + 1)) rfl ha0 rfl rfl).trans <| (WP.getR (b := (a0 + 11)) rfl (so_5_0 ha0) rfl rfl).trans <| (WP.ldI rfl rfl).trans <| (WP.ldR rfl rfl).trans <| (WP.getI rfl ha0).trans <| (WP.iast rfl (so_7_9 (so_5_0 ha0))).trans <| cn_eq ((WP.ldR rfl rfl).trans <| (WP.kI rfl).trans <| (WP.kI rfl).trans <| WP.call rfl rfl (crv (r := xrecv 124 66 [.inr (.inr (some a0)), .inl 1, .inl 30]) ha0 rfl rfl rfl) rfl)) ((WP.kI rfl).trans <| WP.ret rfl rfl)
theorem seg72_74 (a0 : Nat) (x1 : Int) (s0 : Int) (D : xD) (Q : Option xv → xD → Prop) (ha0 : xisO 124 a0 5 = true) :
  WP 124 xF1 none 72 74 [some (.inr (.inr (some a0))), some (.inl x1)] [.inl s0] D Q =
  ((s0 ≠ 0 → WP 124 xF1 none 100 0 [some (.inr (.inr (some (a0 + 1)))), none, none] [] D (fun v D9 => WP 124 xF1 none 72 86 [some (.inr (.inr (some a0))), some (.inl x1)] (v.toList ++ []) D9 Q)) ∧ (¬ (s0 ≠ 0) → Q (some (.inl 0)) D)) :=
  (WP.if1 rfl).trans <| br_eq ((WP.ldR rfl rfl).trans <| (WP.getR (b := (a0 + 1)) rfl ha0 rfl rfl).trans <| WP.call rfl rfl (crv (r := xrecv 124 100 [.inr (.inr (some (a0 + 1)))]) (so_5_0 ha0) rfl rfl rfl) rfl) ((WP.kI rfl).trans <| WP.ret rfl rfl)
theorem seg72_86 (a0 : Nat) (x1 : Int) (s0 : Int) (D : xD) (Q : Option xv → xD → Prop) (ha0 : xisO 124 a0 5 = true) :
  WP 124 xF1 none 72 86 [some (.inr (.inr (some a0))), some (.inl x1)] [.inl s0] D Q =
  ((xinP (s0 + (D a0 6))) ∧ ((s0 + (D a0 6)) ≤ 99 → ((0 : Int) ≤ x1 ∧ x1 < (6 : Int)) ∧ (xinP ((D (a0 + 1) 12) + 1)) ∧ WP 124 xF1 none 67 0 [some (.inr (.inr (some a0)))] [] (xup (xup D (a0 + 12) x1 (D a0 6)) (a0 + 1) 12 ((D (a0 + 1) 12) + 1)) (fun v D9 => WP 124 xF1 none 72 132 [some (.inr (.inr (some a0))), some (.inl x1)] (v.toList ++ []) D9 Q)) ∧ (¬ ((s0 + (D a0 6)) ≤ 99) → WP 124 xF1 none 62 0 [some (.inr (.inr (some a0))), some (.inl 4)] [] D (fun v D9 => WP 124 xF1 none 72 101 [some (.inr (.inr (some a0))), some (.inl x1)] (v.toList ++ []) D9 Q))) :=
  (WP.ldR rfl rfl).trans <| (WP.getI rfl ha0).trans <| (WP.iadd rfl).trans <| cn_eq ((WP.kI rfl).trans <| (WP.ic5 rfl).trans <| br_eq ((WP.ldR rfl rfl).trans <| (WP.getR (b := (a0 + 1)) rfl ha0 rfl rfl).trans <| (WP.getR (b := (a0 + 12)) rfl (so_5_0 ha0) rfl rfl).trans <| (WP.ldI rfl rfl).trans <| (WP.ldR rfl rfl).trans <| (WP.getI rfl ha0).trans <| (WP.iast rfl (so_7_10 (so_5_0 ha0))).trans <| cn_eq ((WP.ldR rfl rfl).trans <| (WP.getR (b := (a0 + 1)) rfl ha0 rfl rfl).trans <| (WP.dup rfl rfl).trans <| (WP.getI2 rfl (so_5_0 ha0) (xr_n (by omega))).trans <| (WP.kI rfl).trans <| (WP.iadd rfl).trans <| cn_eq ((WP.putI rfl (so_5_0 ha0)).trans <| (WP.ldR rfl rfl).trans <| WP.call rfl rfl (crv (r := xrecv 124 67 [.inr (.inr (some a0))]) ha0 rfl rfl rfl) rfl))) ((WP.ldR rfl rfl).trans <| (WP.kI rfl).trans <| WP.call rfl rfl (crv (r := xrecv 124 62 [.inr (.inr (some a0)), .inl 4]) ha0 rfl rfl rfl) rfl))
theorem seg72_101 (a0 : Nat) (x1 : Int) (s0 : Int) (D : xD) (Q : Option xv → xD → Prop) (ha0 : xisO 124 a0 5 = true) :
  WP 124 xF1 none 72 101 [some (.inr (.inr (some a0))), some (.inl x1)] [.inl s0] D Q =
  ((s0 = 0 ∨ s0 = 1) ∧ Q (some (.inl s0)) D) :=
  WP.retZ rfl rfl
theorem seg72_132 (a0 : Nat) (x1 : Int) (s0 : Int) (D : xD) (Q : Option xv → xD → Prop) (ha0 : xisO 124 a0 5 = true) :
  WP 124 xF1 none 72 132 [some (.inr (.inr (some a0))), some (.inl x1)] [.inl s0] D Q =
  ((s0 = 0 ∨ s0 = 1) ∧ Q (some (.inl s0)) D) :=
  WP.retZ rfl rfl
theorem seg73_0 (a0 : Nat) (o1 : Option xv) (D : xD) (Q : Option xv → xD → Prop) (ha0 : xisO 124 a0 5 = true) :
  WP 124 xF1 none 73 0 [some (.inr (.inr (some a0))), o1] [] D Q =
  (WP 124 xF1 none 65 0 [some (.inr (.inr (some a0))), none] [] D (fun v D9 => WP 124 xF1 none 73 4 [some (.inr (.inr (some a0))), o1] (v.toList ++ []) D9 Q)) :=
  (WP.ldR rfl rfl).trans <| WP.call rfl rfl (crv (r := xrecv 124 65 [.inr (.inr (some a0))]) ha0 rfl rfl rfl) rfl
theorem seg73_4 (a0 : Nat) (o1 : Option xv) (s0 : Int) (D : xD) (Q : Option xv → xD → Prop) (ha0 : xisO 124 a0 5 = true) :
  WP 124 xF1 none 73 4 [some (.inr (.inr (some a0))), o1] [.inl s0] D Q =
  ((s0 ≠ 0 → ((0 : Int) ≤ (D a0 6) ∧ (D a0 6) < (8 : Int)) ∧ ((D (a0 + 9) (D a0 6)) ≤ 0 → WP 124 xF1 none 66 0 [some (.inr (.inr (some a0))), some (.inl 1), some (.inl 99)] [] D (fun v D9 => WP 124 xF1 none 73 39 [some (.inr (.inr (some a0))), some (.inl (D a0 6))] (v.toList ++ []) D9 Q)) ∧ (¬ ((D (a0 + 9) (D a0 6)) ≤ 0) → WP 124 xF1 none 62 0 [some (.inr (.inr (some a0))), some (.inl 3)] [] D (fun v D9 => WP 124 xF1 none 73 31 [some (.inr (.inr (some a0))), some (.inl (D a0 6))] (v.toList ++ []) D9 Q))) ∧ (¬ (s0 ≠ 0) → Q (some (.inl 0)) D)) :=
  (WP.if1 rfl).trans <| br_eq ((WP.ldR rfl rfl).trans <| (WP.getI rfl ha0).trans <| (WP.stI rfl rfl).trans <| (WP.ldR rfl rfl).trans <| (WP.getR (b := (a0 + 1)) rfl ha0 rfl rfl).trans <| (WP.getR (b := (a0 + 9)) rfl (so_5_0 ha0) rfl rfl).trans <| (WP.ldI rfl rfl).trans <| (WP.iald rfl (so_7_7 (so_5_0 ha0))).trans <| cn_eq ((WP.if5 rfl).trans <| br_eq ((WP.ldR rfl rfl).trans <| (WP.kI rfl).trans <| (WP.kI rfl).trans <| WP.call rfl rfl (crv (r := xrecv 124 66 [.inr (.inr (some a0)), .inl 1, .inl 99]) ha0 rfl rfl rfl) rfl) ((WP.ldR rfl rfl).trans <| (WP.kI rfl).trans <| WP.call rfl rfl (crv (r := xrecv 124 62 [.inr (.inr (some a0)), .inl 3]) ha0 rfl rfl rfl) rfl))) ((WP.kI rfl).trans <| WP.ret rfl rfl)
theorem seg73_31 (a0 : Nat) (x1 : Int) (s0 : Int) (D : xD) (Q : Option xv → xD → Prop) (ha0 : xisO 124 a0 5 = true) :
  WP 124 xF1 none 73 31 [some (.inr (.inr (some a0))), some (.inl x1)] [.inl s0] D Q =
  ((s0 = 0 ∨ s0 = 1) ∧ Q (some (.inl s0)) D) :=
  WP.retZ rfl rfl
theorem seg73_39 (a0 : Nat) (x1 : Int) (s0 : Int) (D : xD) (Q : Option xv → xD → Prop) (ha0 : xisO 124 a0 5 = true) :
  WP 124 xF1 none 73 39 [some (.inr (.inr (some a0))), some (.inl x1)] [.inl s0] D Q =
  ((s0 ≠ 0 → ((0 : Int) ≤ x1 ∧ x1 < (8 : Int)) ∧ WP 124 xF1 none 67 0 [some (.inr (.inr (some a0)))] [] (xup D (a0 + 9) x1 (D a0 6)) (fun v D9 => WP 124 xF1 none 73 61 [some (.inr (.inr (some a0))), some (.inl x1)] (v.toList ++ []) D9 Q)) ∧ (¬ (s0 ≠ 0) → Q (some (.inl 0)) D)) :=
  (WP.if1 rfl).trans <| br_eq ((WP.ldR rfl rfl).trans <| (WP.getR (b := (a0 + 1)) rfl ha0 rfl rfl).trans <| (WP.getR (b := (a0 + 9)) rfl (so_5_0 ha0) rfl rfl).trans <| (WP.ldI rfl rfl).trans <| (WP.ldR rfl rfl).trans <| (WP.getI rfl ha0).trans <| (WP.iast rfl (so_7_7 (so_5_0 ha0))).trans <| cn_eq ((WP.ldR rfl rfl).trans <| WP.call rfl rfl (crv (r := xrecv 124 67 [.inr (.inr (some a0))]) ha0 rfl rfl rfl) rfl)) ((WP.kI rfl).trans <| WP.ret rfl rfl)
theorem seg73_61 (a0 : Nat) (x1 : Int) (s0 : Int) (D : xD) (Q : Option xv → xD → Prop) (ha0 : xisO 124 a0 5 = true) :
  WP 124 xF1 none 73 61 [some (.inr (.inr (some a0))), some (.inl x1)] [.inl s0] D Q =
  ((s0 = 0 ∨ s0 = 1) ∧ Q (some (.inl s0)) D) :=
  WP.retZ rfl rfl
theorem seg74_0 (a0 : Nat) (D : xD) (Q : Option xv → xD → Prop) (ha0 : xisO 124 a0 5 = true) :
  WP 124 xF1 none 74 0 [some (.inr (.inr (some a0)))] [] D Q =
  ((xinP ((D (a0 + 1) 12) - 1)) ∧ WP 124 xF1 none 66 0 [some (.inr (.inr (some a0))), some (.inl 0), some (.inl ((D (a0 + 1) 12) - 1))] [] D (fun v D9 => WP 124 xF1 none 74 14 [some (.inr (.inr (some a0)))] (v.toList ++ []) D9 Q)) :=
  (WP.ldR rfl rfl).trans <| (WP.kI rfl).trans <| (WP.ldR rfl rfl).trans <| (WP.getR (b := (a0 + 1)) rfl ha0 rfl rfl).trans <| (WP.getI rfl (so_5_0 ha0)).trans <| (WP.kI rfl).trans <| (WP.isub rfl).trans <| cn_eq (WP.call rfl rfl (crv (r := xrecv 124 66 [.inr (.inr (some a0)), .inl 0, .inl ((D (a0 + 1) 12) - 1)]) ha0 rfl rfl rfl) rfl)
theorem seg74_14 (a0 : Nat) (s0 : Int) (D : xD) (Q : Option xv → xD → Prop) (ha0 : xisO 124 a0 5 = true) :
  WP 124 xF1 none 74 14 [some (.inr (.inr (some a0)))] [.inl s0] D Q =
  ((s0 ≠ 0 → WP 124 xF1 none 98 0 [some (.inr (.inr (some (a0 + 1)))), some (.inl (D a0 6))] [] D (fun v D9 => WP 124 xF1 none 74 30 [some (.inr (.inr (some a0)))] (v.toList ++ []) D9 Q)) ∧ (¬ (s0 ≠ 0) → Q (some (.inl 0)) D)) :=
  (WP.if1 rfl).trans <| br_eq ((WP.ldR rfl rfl).trans <| (WP.getR (b := (a0 + 1)) rfl ha0 rfl rfl).trans <| (WP.ldR rfl rfl).trans <| (WP.getI rfl ha0).trans <| WP.call rfl rfl (crv (r := xrecv 124 98 [.inr (.inr (some (a0 + 1))), .inl (D a0 6)]) (so_5_0 ha0) rfl rfl rfl) rfl) ((WP.kI rfl).trans <| WP.ret rfl rfl)
theorem seg74_30 (a0 : Nat) (s0 : Int) (D : xD) (Q : Option xv → xD → Prop) (ha0 : xisO 124 a0 5 = true) :
  WP 124 xF1 none 74 30 [some (.inr (.inr (some a0)))] [.inl s0] D Q =
  ((s0 = 0 → WP 124 xF1 none 67 0 [some (.inr (.inr (some a0)))] [] (xup D (a0 + 1) 14 (ior (D (a0 + 1) 14) (ishl 1 (D a0 6)))) (fun v D9 => WP 124 xF1 none 74 61 [some (.inr (.inr (some a0)))] (v.toList ++ []) D9 Q)) ∧ (¬ (s0 = 0) → WP 124 xF1 none 62 0 [some (.inr (.inr (some a0))), some (.inl 3)] [] D (fun v D9 => WP 124 xF1 none 74 38 [some (.inr (.inr (some a0)))] (v.toList ++ []) D9 Q))) :=
  (WP.if0 rfl).trans <| br_eq ((WP.ldR rfl rfl).trans <| (WP.getR (b := (a0 + 1)) rfl ha0 rfl rfl).trans <| (WP.dup rfl rfl).trans <| (WP.getI rfl (so_5_0 ha0)).trans <| (WP.kI rfl).trans <| (WP.ldR rfl rfl).trans <| (WP.getI rfl ha0).trans <| (WP.ishl rfl).trans <| (WP.ior rfl).trans <| (WP.putI rfl (so_5_0 ha0)).trans <| (WP.ldR rfl rfl).trans <| WP.call rfl rfl (crv (r := xrecv 124 67 [.inr (.inr (some a0))]) ha0 rfl rfl rfl) rfl) ((WP.ldR rfl rfl).trans <| (WP.kI rfl).trans <| WP.call rfl rfl (crv (r := xrecv 124 62 [.inr (.inr (some a0)), .inl 3]) ha0 rfl rfl rfl) rfl)
theorem seg74_38 (a0 : Nat) (s0 : Int) (D : xD) (Q : Option xv → xD → Prop) (ha0 : xisO 124 a0 5 = true) :
  WP 124 xF1 none 74 38 [some (.inr (.inr (some a0)))] [.inl s0] D Q =
  ((s0 = 0 ∨ s0 = 1) ∧ Q (some (.inl s0)) D) :=
  WP.retZ rfl rfl
theorem seg74_61 (a0 : Nat) (s0 : Int) (D : xD) (Q : Option xv → xD → Prop) (ha0 : xisO 124 a0 5 = true) :
  WP 124 xF1 none 74 61 [some (.inr (.inr (some a0)))] [.inl s0] D Q =
  ((s0 = 0 ∨ s0 = 1) ∧ Q (some (.inl s0)) D) :=
  WP.retZ rfl rfl
theorem seg76_0 (a0 : Nat) (a1 : Nat) (D : xD) (Q : Option xv → xD → Prop) (ha0 : xisO 124 a0 6 = true) (ha1 : xisO 124 a1 7 = true) :
  WP 124 xF1 none 76 0 [some (.inr (.inr (some a0))), some (.inr (.inr (some a1)))] [] D Q =
  (WP 124 xF1 none 93 0 [some (.inr (.inr (some (a0 + 1)))), some (.inr (.inr (some a1)))] [] D (fun v D9 => WP 124 xF1 none 76 8 [some (.inr (.inr (some a0))), some (.inr (.inr (some a1)))] (v.toList ++ []) D9 Q)) :=
  (WP.ldR rfl rfl).trans <| (WP.getR (b := (a0 + 1)) rfl ha0 rfl rfl).trans <| (WP.ldR rfl rfl).trans <| WP.call rfl rfl (crv (r := xrecv 124 93 [.inr (.inr (some (a0 + 1))), .inr (.inr (some a1))]) (so_6_0 ha0) rfl rfl rfl) rfl
theorem seg76_8 (a0 : Nat) (a1 : Nat) (D : xD) (Q : Option xv → xD → Prop) (ha0 : xisO 124 a0 6 = true) (ha1 : xisO 124 a1 7 = true) :
  WP 124 xF1 none 76 8 [some (.inr (.inr (some a0))), some (.inr (.inr (some a1)))] [] D Q =
  (WP 124 xF1 none 240 0 [some (.inr (.inr (some (a0 + 13)))), some (.inl (-1)), none, none] [] (xup D a0 1 0) (fun v D9 => WP 124 xF1 none 76 21 [some (.inr (.inr (some a0))), some (.inr (.inr (some a1)))] (v.toList ++ []) D9 Q)) :=
  (WP.ldR rfl rfl).trans <| (WP.kI rfl).trans <| (WP.putI rfl ha0).trans <| (WP.ldR rfl rfl).trans <| (WP.getR (b := (a0 + 13)) rfl ha0 rfl rfl).trans <| (WP.kI rfl).trans <| WP.call rfl rfl rfl rfl
theorem seg76_21 (a0 : Nat) (a1 : Nat) (D : xD) (Q : Option xv → xD → Prop) (ha0 : xisO 124 a0 6 = true) (ha1 : xisO 124 a1 7 = true) :
  WP 124 xF1 none 76 21 [some (.inr (.inr (some a0))), some (.inr (.inr (some a1)))] [] D Q =
  (WP 124 xF1 none 240 0 [some (.inr (.inr (some (a0 + 17)))), some (.inl 0), none, none] [] (xup D a0 3 0) (fun v D9 => WP 124 xF1 none 76 34 [some (.inr (.inr (some a0))), some (.inr (.inr (some a1)))] (v.toList ++ []) D9 Q)) :=
  (WP.ldR rfl rfl).trans <| (WP.kI rfl).trans <| (WP.putI rfl ha0).trans <| (WP.ldR rfl rfl).trans <| (WP.getR (b := (a0 + 17)) rfl ha0 rfl rfl).trans <| (WP.kI rfl).trans <| WP.call rfl rfl rfl rfl
theorem seg76_34 (a0 : Nat) (a1 : Nat) (D : xD) (Q : Option xv → xD → Prop) (ha0 : xisO 124 a0 6 = true) (ha1 : xisO 124 a1 7 = true) :
  WP 124 xF1 none 76 34 [some (.inr (.inr (some a0))), some (.inr (.inr (some a1)))] [] D Q =
  (WP 124 xF1 none 240 0 [some (.inr (.inr (some (a0 + 18)))), some (.inl 0), none, none] [] D (fun v D9 => WP 124 xF1 none 76 42 [some (.inr (.inr (some a0))), some (.inr (.inr (some a1)))] (v.toList ++ []) D9 Q)) :=
  (WP.ldR rfl rfl).trans <| (WP.getR (b := (a0 + 18)) rfl ha0 rfl rfl).trans <| (WP.kI rfl).trans <| WP.call rfl rfl rfl rfl
theorem seg76_42 (a0 : Nat) (a1 : Nat) (D : xD) (Q : Option xv → xD → Prop) (ha0 : xisO 124 a0 6 = true) (ha1 : xisO 124 a1 7 = true) :
  WP 124 xF1 none 76 42 [some (.inr (.inr (some a0))), some (.inr (.inr (some a1)))] [] D Q =
  (Q none D) :=
  WP.ret rfl rfl
theorem seg77_0 (a0 : Nat) (a1 : Nat) (D : xD) (Q : Option xv → xD → Prop) (ha0 : xisO 124 a0 6 = true) (ha1 : xisO 124 a1 6 = true) :
  WP 124 xF1 none 77 0 [some (.inr (.inr (some a0))), some (.inr (.inr (some a1)))] [] D Q =
  (WP 124 xF1 none 93 0 [some (.inr (.inr (some (a0 + 1)))), some (.inr (.inr (some (a1 + 1))))] [] D (fun v D9 => WP 124 xF1 none 77 11 [some (.inr (.inr (some a0))), some (.inr (.inr (some a1)))] (v.toList ++ []) D9 Q)) :=
  (WP.ldR rfl rfl).trans <| (WP.getR (b := (a0 + 1)) rfl ha0 rfl rfl).trans <| (WP.ldR rfl rfl).trans <| (WP.getR (b := (a1 + 1)) rfl ha1 rfl rfl).trans <| WP.call rfl rfl (crv (r := xrecv 124 93 [.inr (.inr (some (a0 + 1))), .inr (.inr (some (a1 + 1)))]) (so_6_0 ha0) rfl rfl rfl) rfl
theorem seg77_11 (a0 : Nat) (a1 : Nat) (D : xD) (Q : Option xv → xD → Prop) (ha0 : xisO 124 a0 6 = true) (ha1 : xisO 124 a1 6 = true) :
  WP 124 xF1 none 77 11 [some (.inr (.inr (some a0))), some (.inr (.inr (some a1)))] [] D Q =
  (((0 : Int) ≤ 8 ∧ (0 : Int) ≤ 0 ∧ (0 : Int) ≤ 0 ∧ 0 + 8 ≤ (8 : Int) ∧ 0 + 8 ≤ (8 : Int)) ∧ ((0 : Int) ≤ 8 ∧ (0 : Int) ≤ 0 ∧ (0 : Int) ≤ 0 ∧ 0 + 8 ≤ (8 : Int) ∧ 0 + 8 ≤ (8 : Int)) ∧ ((0 : Int) ≤ 8 ∧ (0 : Int) ≤ 0 ∧ (0 : Int) ≤ 0 ∧ 0 + 8 ≤ (8 : Int) ∧ 0 + 8 ≤ (8 : Int)) ∧ ((0 : Int) ≤ 8 ∧ (0 : Int) ≤ 0 ∧ (0 : Int) ≤ 0 ∧ 0 + 8 ≤ (8 : Int) ∧ 0 + 8 ≤ (8 : Int)) ∧ ((0 : Int) ≤ 208 ∧ (0 : Int) ≤ 0 ∧ (0 : Int) ≤ 0 ∧ 0 + 208 ≤ (208 : Int) ∧ 0 + 208 ≤ (208 : Int)) ∧ ((0 : Int) ≤ 208 ∧ (0 : Int) ≤ 0 ∧ (0 : Int) ≤ 0 ∧ 0 + 208 ≤ (208 : Int) ∧ 0 + 208 ≤ (208 : Int)) ∧ Q none (xcpy (xcpy (xcpy (xcpy (xcpy (xup (xcpy (xup D a0 1 (D a1 1)) (a1 + 13) (a0 + 13) 0 0 8) a0 3 ((xcpy (xup D a0 1 (D a1 1)) (a1 + 13) (a0 + 13) 0 0 8) a1 3)) (a1 + 14) (a0 + 14) 0 0 8) (a1 + 15) (a0 + 15) 0 0 8) (a1 + 16) (a0 + 16) 0 0 8) (a1 + 17) (a0 + 17) 0 0 208) (a1 + 18) (a0 + 18) 0 0 208)) :=
  (WP.ldR rfl rfl).trans <| (WP.ldR rfl rfl).trans <| (WP.getI rfl ha1).trans <| (WP.putI rfl ha0).trans <| (WP.ldR rfl rfl).trans <| (WP.getR (b := (a1 + 13)) rfl ha1 rfl rfl).trans <| (WP.kI rfl).trans <| (WP.ldR rfl rfl).trans <| (WP.getR (b := (a0 + 13)) rfl ha0 rfl rfl).trans <| (WP.kI rfl).trans <| (WP.kI rfl).trans <| (WP.copy rfl (so_6_2 ha1) (so_6_2 ha0) rfl).trans <| cn_eq ((WP.ldR rfl rfl).trans <| (WP.ldR rfl rfl).trans <| (WP.getI rfl ha1).trans <| (WP.putI rfl ha0).trans <| (WP.ldR rfl rfl).trans <| (WP.getR (b := (a1 + 14)) rfl ha1 rfl rfl).trans <| (WP.kI rfl).trans <| (WP.ldR rfl rfl).trans <| (WP.getR (b := (a0 + 14)) rfl ha0 rfl rfl).trans <| (WP.kI rfl).trans <| (WP.kI rfl).trans <| (WP.copy rfl (so_6_4 ha1) (so_6_4 ha0) rfl).trans <| cn_eq ((WP.ldR rfl rfl).trans <| (WP.getR (b := (a1 + 15)) rfl ha1 rfl rfl).trans <| (WP.kI rfl).trans <| (WP.ldR rfl rfl).trans <| (WP.getR (b := (a0 + 15)) rfl ha0 rfl rfl).trans <| (WP.kI rfl).trans <| (WP.kI rfl).trans <| (WP.copy rfl (so_6_5 ha1) (so_6_5 ha0) rfl).trans <| cn_eq ((WP.ldR rfl rfl).trans <| (WP.getR (b := (a1 + 16)) rfl ha1 rfl rfl).trans <| (WP.kI rfl).trans <| (WP.ldR rfl rfl).trans <| (WP.getR (b := (a0 + 16)) rfl ha0 rfl rfl).trans <| (WP.kI rfl).trans <| (WP.kI rfl).trans <| (WP.copy rfl (so_6_6 ha1) (so_6_6 ha0) rfl).trans <| cn_eq ((WP.ldR rfl rfl).trans <| (WP.getR (b := (a1 + 17)) rfl ha1 rfl rfl).trans <| (WP.kI rfl).trans <| (WP.ldR rfl rfl).trans <| (WP.getR (b := (a0 + 17)) rfl ha0 rfl rfl).trans <| (WP.kI rfl).trans <| (WP.kI rfl).trans <| (WP.copy rfl (so_6_7 ha1) (so_6_7 ha0) rfl).trans <| cn_eq ((WP.ldR rfl rfl).trans <| (WP.getR (b := (a1 + 18)) rfl ha1 rfl rfl).trans <| (WP.kI rfl).trans <| (WP.ldR rfl rfl).trans <| (WP.getR (b := (a0 + 18)) rfl ha0 rfl rfl).trans <| (WP.kI rfl).trans <| (WP.kI rfl).trans <| (WP.copy rfl (so_6_8 ha1) (so_6_8 ha0) rfl).trans <| cn_eq (WP.ret rfl rfl))))))
theorem seg78_0 (a0 : Nat) (x1 : Int) (D : xD) (Q : Option xv → xD → Prop) (ha0 : xisO 124 a0 6 = true) :
  WP 124 xF1 none 78 0 [some (.inr (.inr (some a0))), some (.inl x1)] [] D Q =
  (WP 124 xF1 none 95 0 [some (.inr (.inr (some (a0 + 1)))), some (.inl x1), some (.inl (D a0 1))] [] D (fun v D9 => WP 124 xF1 none 78 12 [some (.inr (.inr (some a0))), some (.inl x1)] (v.toList ++ []) D9 Q)) :=
  (WP.ldR rfl rfl).trans <| (WP.getR (b := (a0 + 1)) rfl ha0 rfl rfl).trans <| (WP.ldI rfl rfl).trans <| (WP.ldR rfl rfl).trans <| (WP.getI rfl ha0).trans <| WP.call rfl rfl (crv (r := xrecv 124 95 [.inr (.inr (some (a0 + 1))), .inl x1, .inl (D a0 1)]) (so_6_0 ha0) rfl rfl rfl) rfl
theorem seg78_12 (a0 : Nat) (x1 : Int) (s0 : Int) (D : xD) (Q : Option xv → xD → Prop) (ha0 : xisO 124 a0 6 = true) :
  WP 124 xF1 none 78 12 [some (.inr (.inr (some a0))), some (.inl x1)] [.inl s0] D Q =
  (Q (some (.inl s0)) D) :=
  WP.ret rfl rfl
theorem seg79_0 (a0 : Nat) (x1 : Int) (D : xD) (Q : Option xv → xD → Prop) (ha0 : xisO 124 a0 6 = true) :
  WP 124 xF1 none 79 0 [some (.inr (.inr (some a0))), some (.inl x1)] [] D Q =
  (WP 124 xF1 none 96 0 [some (.inr (.inr (some (a0 + 1)))), some (.inl x1), some (.inl (D a0 1))] [] D (fun v D9 => WP 124 xF1 none 79 12 [some (.inr (.inr (some a0))), some (.inl x1)] (v.toList ++ []) D9 Q)) :=
  (WP.ldR rfl rfl).trans <| (WP.getR (b := (a0 + 1)) rfl ha0 rfl rfl).trans <| (WP.ldI rfl rfl).trans <| (WP.ldR rfl rfl).trans <| (WP.getI rfl ha0).trans <| WP.call rfl rfl (crv (r := xrecv 124 96 [.inr (.inr (some (a0 + 1))), .inl x1, .inl (D a0 1)]) (so_6_0 ha0) rfl rfl rfl) rfl
theorem seg79_12 (a0 : Nat) (x1 : Int) (s0 : Int) (D : xD) (Q : Option xv → xD → Prop) (ha0 : xisO 124 a0 6 = true) :
  WP 124 xF1 none 79 12 [some (.inr (.inr (some a0))), some (.inl x1)] [.inl s0] D Q =
  (Q (some (.inl s0)) D) :=
  WP.ret rfl rfl
theorem seg80_0 (a0 : Nat) (x1 : Int) (o2 : Option xv) (o3 : Option xv) (D : xD) (Q : Option xv → xD → Prop) (ha0 : xisO 124 a0 6 = true) :
  WP 124 xF1 none 80 0 [some (.inr (.inr (some a0))), some (.inl x1), o2, o3] [] D Q =
  (WP 124 xF1 none 80 14 [some (.inr (.inr (some a0))), some (.inl x1), some (.inl (ixor (D a0 1) x1)), some (.inl 0)] [] (xup D a0 1 x1) Q) :=
  (WP.ldR rfl rfl).trans <| (WP.getI rfl ha0).trans <| (WP.ldI rfl rfl).trans <| (WP.ixor rfl).trans <| (WP.stI rfl rfl).trans <| (WP.ldR rfl rfl).trans <| (WP.ldI rfl rfl).trans <| (WP.putI rfl ha0).trans <| (WP.kI rfl).trans <| WP.stI rfl rfl
theorem seg80_14 (a0 : Nat) (x1 : Int) (x2 : Int) (x3 : Int) (D : xD) (Q : Option xv → xD → Prop) (ha0 : xisO 124 a0 6 = true) :
  WP 124 xF1 none 80 14 [some (.inr (.inr (some a0))), some (.inl x1), some (.inl x2), some (.inl x3)] [] D Q =
  ((8 ≤ x3 → WP 124 xF1 none 80 44 [some (.inr (.inr (some a0))), some (.inl x1), some (.inl x2), some (.inl 0)] [] D Q) ∧ (¬ (8 ≤ x3) → ((0 : Int) ≤ x3 ∧ x3 < (8 : Int)) ∧ WP 124 xF1 none 81 0 [some (.inl x2), some (.inl (D (a0 + 13) x3))] [] D (fun v D9 => WP 124 xF1 none 80 35 [some (.inr (.inr (some a0))), some (.inl x1), some (.inl x2), some (.inl x3)] (v.toList ++ [.inl x3, .inr (.inr (some (a0 + 13)))]) D9 Q))) :=
  (WP.ldI rfl rfl).trans <| (WP.kI rfl).trans <| (WP.ic3 rfl).trans <| br_eq ((WP.kI rfl).trans <| WP.stI rfl rfl) ((WP.ldR rfl rfl).trans <| (WP.getR (b := (a0 + 13)) rfl ha0 rfl rfl).trans <| (WP.ldI rfl rfl).trans <| (WP.ldI rfl rfl).trans <| (WP.ldR rfl rfl).trans <| (WP.getR (b := (a0 + 13)) rfl ha0 rfl rfl).trans <| (WP.ldI rfl rfl).trans <| (WP.iald rfl (so_6_2 ha0)).trans <| cn_eq (WP.call rfl rfl rfl rfl))
theorem seg80_35 (a0 : Nat) (x1 : Int) (x2 : Int) (x3 : Int) (s0 : Int) (s1 : Int) (b2 : Nat) (Lb2 : Nat) (D : xD) (Q : Option xv → xD → Prop) (ha0 : xisO 124 a0 6 = true) (hb2 : xalen none 124 b2 = some Lb2) :
  WP 124 xF1 none 80 35 [some (.inr (.inr (some a0))), some (.inl x1), some (.inl x2), some (.inl x3)] [.inl s0, .inl s1, .inr (.inr (some b2))] D Q =
  (((0 : Int) ≤ s1 ∧ s1 < (Lb2 : Int)) ∧ (xinP (x3 + 1)) ∧ WP 124 xF1 none 80 14 [some (.inr (.inr (some a0))), some (.inl x1), some (.inl x2), some (.inl (x3 + 1))] [] (xup D b2 s1 s0) Q) :=
  (WP.iast rfl hb2).trans <| cn_eq ((WP.iinc rfl rfl rfl).trans <| cn_eq (WP.goto rfl))
theorem seg80_44 (a0 : Nat) (x1 : Int) (x2 : Int) (x3 : Int) (D : xD) (Q : Option xv → xD → Prop) (ha0 : xisO 124 a0 6 = true) :
  WP 124 xF1 none 80 44 [some (.inr (.inr (some a0))), some (.inl x1), some (.inl x2), some (.inl x3)] [] D Q =
  (((D a0 3) ≤ x3 → Q none D) ∧ (¬ ((D a0 3) ≤ x3) → ((0 : Int) ≤ x3 ∧ x3 < (8 : Int)) ∧ WP 124 xF1 none 81 0 [some (.inl x2), some (.inl (D (a0 + 16) x3))] [] D (fun v D9 => WP 124 xF1 none 80 67 [some (.inr (.inr (some a0))), some (.inl x1), some (.inl x2), some (.inl x3)] (v.toList ++ [.inl x3, .inr (.inr (some (a0 + 16)))]) D9 Q))) :=
  (WP.ldI rfl rfl).trans <| (WP.ldR rfl rfl).trans <| (WP.getI rfl ha0).trans <| (WP.ic3 rfl).trans <| br_eq (WP.ret rfl rfl) ((WP.ldR rfl rfl).trans <| (WP.getR (b := (a0 + 16)) rfl ha0 rfl rfl).trans <| (WP.ldI rfl rfl).trans <| (WP.ldI rfl rfl).trans <| (WP.ldR rfl rfl).trans <| (WP.getR (b := (a0 + 16)) rfl ha0 rfl rfl).trans <| (WP.ldI rfl rfl).trans <| (WP.iald rfl (so_6_6 ha0)).trans <| cn_eq (WP.call rfl rfl rfl rfl))
theorem seg80_67 (a0 : Nat) (x1 : Int) (x2 : Int) (x3 : Int) (s0 : Int) (s1 : Int) (b2 : Nat) (Lb2 : Nat) (D : xD) (Q : Option xv → xD → Prop) (ha0 : xisO 124 a0 6 = true) (hb2 : xalen none 124 b2 = some Lb2) :
  WP 124 xF1 none 80 67 [some (.inr (.inr (some a0))), some (.inl x1), some (.inl x2), some (.inl x3)] [.inl s0, .inl s1, .inr (.inr (some b2))] D Q =
  (((0 : Int) ≤ s1 ∧ s1 < (Lb2 : Int)) ∧ (xinP (x3 + 1)) ∧ WP 124 xF1 none 80 44 [some (.inr (.inr (some a0))), some (.inl x1), some (.inl x2), some (.inl (x3 + 1))] [] (xup D b2 s1 s0) Q) :=
  (WP.iast rfl hb2).trans <| cn_eq ((WP.iinc rfl rfl rfl).trans <| cn_eq (WP.goto rfl))
theorem seg81_0 (x0 : Int) (x1 : Int) (D : xD) (Q : Option xv → xD → Prop)  :
  WP 124 xF1 none 81 0 [some (.inl x0), some (.inl x1)] [] D Q =
  ((x1 = (-1) → WP 124 xF1 none 81 18 [some (.inl x0), some (.inl x1)] [] D Q) ∧ (¬ (x1 = (-1)) → ((iand (ishr x0 x1) 1) ≠ 1 → WP 124 xF1 none 81 18 [some (.inl x0), some (.inl x1)] [] D Q) ∧ (¬ ((iand (ishr x0 x1) 1) ≠ 1) → WP 124 xF1 none 81 19 [some (.inl x0), some (.inl x1)] [.inl (-1)] D Q))) :=
  (WP.ldI rfl rfl).trans <| (WP.kI rfl).trans <| (WP.ic0 rfl).trans <| br_eq rfl ((WP.ldI rfl rfl).trans <| (WP.ldI rfl rfl).trans <| (WP.ishr rfl).trans <| (WP.kI rfl).trans <| (WP.iand rfl).trans <| (WP.kI rfl).trans <| (WP.ic1 rfl).trans <| br_eq rfl ((WP.kI rfl).trans <| WP.goto rfl))
theorem seg81_18 (x0 : Int) (x1 : Int) (D : xD) (Q : Option xv → xD → Prop)  :
  WP 124 xF1 none 81 18 [some (.inl x0), some (.inl x1)] [] D Q =
  (WP 124 xF1 none 81 19 [some (.inl x0), some (.inl x1)] [.inl x1] D Q) :=
  WP.ldI rfl rfl
theorem seg81_19 (x0 : Int) (x1 : Int) (s0 : Int) (D : xD) (Q : Option xv → xD → Prop)  :
  WP 124 xF1 none 81 19 [some (.inl x0), some (.inl x1)] [.inl s0] D Q =
  (Q (some (.inl s0)) D) :=
  WP.ret rfl rfl
theorem seg82_0 (a0 : Nat) (a1 : Nat) (La1 : Nat) (x2 : Int) (x3 : Int) (x4 : Int) (D : xD) (Q : Option xv → xD → Prop) (ha0 : xisO 124 a0 6 = true) (ha1 : xalen none 124 a1 = some La1) :
  WP 124 xF1 none 82 0 [some (.inr (.inr (some a0))), some (.inr (.inr (some a1))), some (.inl x2), some (.inl x3), some (.inl x4)] [] D Q =
  (WP 124 xF1 none 94 0 [some (.inr (.inr (some (a0 + 1)))), some (.inl x2)] [] D (fun v D9 => WP 124 xF1 none 82 8 [some (.inr (.inr (some a0))), some (.inr (.inr (some a1))), some (.inl x2), some (.inl x3), some (.inl x4)] (v.toList ++ []) D9 Q)) :=
  (WP.ldR rfl rfl).trans <| (WP.getR (b := (a0 + 1)) rfl ha0 rfl rfl).trans <| (WP.ldI rfl rfl).trans <| WP.call rfl rfl (crv (r := xrecv 124 94 [.inr (.inr (some (a0 + 1))), .inl x2]) (so_6_0 ha0) rfl rfl rfl) rfl
theorem seg82_8 (a0 : Nat) (a1 : Nat) (La1 : Nat) (x2 : Int) (x3 : Int) (x4 : Int) (s0 : Int) (D : xD) (Q : Option xv → xD → Prop) (ha0 : xisO 124 a0 6 = true) (ha1 : xalen none 124 a1 = some La1) :
  WP 124 xF1 none 82 8 [some (.inr (.inr (some a0))), some (.inr (.inr (some a1))), some (.inl x2), some (.inl x3), some (.inl x4)] [.inl s0] D Q =
  ((s0 = 0 → WP 124 xF1 none 82 30 [some (.inr (.inr (some a0))), some (.inr (.inr (some a1))), some (.inl x2), some (.inl x3), some (.inl x4)] [] D Q) ∧ (¬ (s0 = 0) → WP 124 xF1 none 144 0 [some (.inl x3)] [] D (fun v D9 => WP 124 xF1 none 82 15 [some (.inr (.inr (some a0))), some (.inr (.inr (some a1))), some (.inl x2), some (.inl x3), some (.inl x4)] (v.toList ++ []) D9 Q))) :=
  (WP.if0 rfl).trans <| br_eq rfl ((WP.ldI rfl rfl).trans <| WP.call rfl rfl rfl rfl)
theorem seg82_15 (a0 : Nat) (a1 : Nat) (La1 : Nat) (x2 : Int) (x3 : Int) (x4 : Int) (s0 : Int) (D : xD) (Q : Option xv → xD → Prop) (ha0 : xisO 124 a0 6 = true) (ha1 : xalen none 124 a1 = some La1) :
  WP 124 xF1 none 82 15 [some (.inr (.inr (some a0))), some (.inr (.inr (some a1))), some (.inl x2), some (.inl x3), some (.inl x4)] [.inl s0] D Q =
  ((s0 = 0 → WP 124 xF1 none 82 30 [some (.inr (.inr (some a0))), some (.inr (.inr (some a1))), some (.inl x2), some (.inl x3), some (.inl x4)] [] D Q) ∧ (¬ (s0 = 0) → (x4 < 0 → WP 124 xF1 none 82 30 [some (.inr (.inr (some a0))), some (.inr (.inr (some a1))), some (.inl x2), some (.inl x3), some (.inl x4)] [] D Q) ∧ (¬ (x4 < 0) → (x4 ≤ 30 → (xinP (x2 * 13)) ∧ (xinP ((x2 * 13) + x3)) ∧ ((0 : Int) ≤ ((x2 * 13) + x3) ∧ ((x2 * 13) + x3) < (La1 : Int)) ∧ Q (some (.inl 1)) (xup D a1 ((x2 * 13) + x3) x4)) ∧ (¬ (x4 ≤ 30) → WP 124 xF1 none 82 30 [some (.inr (.inr (some a0))), some (.inr (.inr (some a1))), some (.inl x2), some (.inl x3), some (.inl x4)] [] D Q)))) :=
  (WP.if0 rfl).trans <| br_eq rfl ((WP.ldI rfl rfl).trans <| (WP.if2 rfl).trans <| br_eq rfl ((WP.ldI rfl rfl).trans <| (WP.kI rfl).trans <| (WP.ic5 rfl).trans <| br_eq ((WP.ldR rfl rfl).trans <| (WP.ldI rfl rfl).trans <| (WP.kI rfl).trans <| (WP.imul rfl).trans <| cn_eq ((WP.ldI rfl rfl).trans <| (WP.iadd rfl).trans <| cn_eq ((WP.ldI rfl rfl).trans <| (WP.iast rfl ha1).trans <| cn_eq ((WP.kI rfl).trans <| WP.ret rfl rfl)))) rfl))
theorem seg82_30 (a0 : Nat) (a1 : Nat) (La1 : Nat) (x2 : Int) (x3 : Int) (x4 : Int) (D : xD) (Q : Option xv → xD → Prop) (ha0 : xisO 124 a0 6 = true) (ha1 : xalen none 124 a1 = some La1) :
  WP 124 xF1 none 82 30 [some (.inr (.inr (some a0))), some (.inr (.inr (some a1))), some (.inl x2), some (.inl x3), some (.inl x4)] [] D Q =
  (Q (some (.inl 0)) D) :=
  (WP.kI rfl).trans <| WP.ret rfl rfl
theorem seg83_0 (a0 : Nat) (o1 : Option xv) (o2 : Option xv) (D : xD) (Q : Option xv → xD → Prop) (ha0 : xisO 124 a0 6 = true) :
  WP 124 xF1 none 83 0 [some (.inr (.inr (some a0))), o1, o2] [] D Q =
  (WP 124 xF1 none 83 4 [some (.inr (.inr (some a0))), some (.inl 0), some (.inl 0)] [] D Q) :=
  (WP.kI rfl).trans <| (WP.stI rfl rfl).trans <| (WP.kI rfl).trans <| WP.stI rfl rfl
theorem seg83_4 (a0 : Nat) (x1 : Int) (x2 : Int) (D : xD) (Q : Option xv → xD → Prop) (ha0 : xisO 124 a0 6 = true) :
  WP 124 xF1 none 83 4 [some (.inr (.inr (some a0))), some (.inl x1), some (.inl x2)] [] D Q =
  ((208 ≤ x2 → Q (some (.inl x1)) D) ∧ (¬ (208 ≤ x2) → ((0 : Int) ≤ x2 ∧ x2 < (208 : Int)) ∧ (0 < (D (a0 + 17) x2) → WP 124 xF1 none 83 30 [some (.inr (.inr (some a0))), some (.inl x1), some (.inl x2)] [.inl x1] D Q) ∧ (¬ (0 < (D (a0 + 17) x2)) → ((0 : Int) ≤ x2 ∧ x2 < (208 : Int)) ∧ ((D (a0 + 18) x2) ≤ 0 → WP 124 xF1 none 83 35 [some (.inr (.inr (some a0))), some (.inl x1), some (.inl x2)] [.inl 0, .inl x1] D Q) ∧ (¬ ((D (a0 + 18) x2) ≤ 0) → WP 124 xF1 none 83 30 [some (.inr (.inr (some a0))), some (.inl x1), some (.inl x2)] [.inl x1] D Q)))) :=
  (WP.ldI rfl rfl).trans <| (WP.kI rfl).trans <| (WP.ic3 rfl).trans <| br_eq ((WP.ldI rfl rfl).trans <| WP.ret rfl rfl) ((WP.ldI rfl rfl).trans <| (WP.ldR rfl rfl).trans <| (WP.getR (b := (a0 + 17)) rfl ha0 rfl rfl).trans <| (WP.ldI rfl rfl).trans <| (WP.iald rfl (so_6_7 ha0)).trans <| cn_eq ((WP.if4 rfl).trans <| br_eq rfl ((WP.ldR rfl rfl).trans <| (WP.getR (b := (a0 + 18)) rfl ha0 rfl rfl).trans <| (WP.ldI rfl rfl).trans <| (WP.iald rfl (so_6_8 ha0)).trans <| cn_eq ((WP.if5 rfl).trans <| br_eq (WP.kI rfl) rfl))))
theorem seg83_30 (a0 : Nat) (x1 : Int) (x2 : Int) (s0 : Int) (D : xD) (Q : Option xv → xD → Prop) (ha0 : xisO 124 a0 6 = true) :
  WP 124 xF1 none 83 30 [some (.inr (.inr (some a0))), some (.inl x1), some (.inl x2)] [.inl s0] D Q =
  (WP 124 xF1 none 83 35 [some (.inr (.inr (some a0))), some (.inl x1), some (.inl x2)] [.inl 1, .inl s0] D Q) :=
  (WP.kI rfl).trans <| WP.goto rfl
theorem seg83_35 (a0 : Nat) (x1 : Int) (x2 : Int) (s0 : Int) (s1 : Int) (D : xD) (Q : Option xv → xD → Prop) (ha0 : xisO 124 a0 6 = true) :
  WP 124 xF1 none 83 35 [some (.inr (.inr (some a0))), some (.inl x1), some (.inl x2)] [.inl s0, .inl s1] D Q =
  ((xinP (s1 + s0)) ∧ (xinP (x2 + 1)) ∧ WP 124 xF1 none 83 4 [some (.inr (.inr (some a0))), some (.inl (s1 + s0)), some (.inl (x2 + 1))] [] D Q) :=
  (WP.iadd rfl).trans <| cn_eq ((WP.stI rfl rfl).trans <| (WP.iinc rfl rfl rfl).trans <| cn_eq (WP.goto rfl))
theorem seg84_0 (a0 : Nat) (x1 : Int) (x2 : Int) (D : xD) (Q : Option xv → xD → Prop) (ha0 : xisO 124 a0 6 = true) :
  WP 124 xF1 none 84 0 [some (.inr (.inr (some a0))), some (.inl x1), some (.inl x2)] [] D Q =
  ((x2 ≠ (-1) → WP 124 xF1 none 94 0 [some (.inr (.inr (some (a0 + 1)))), some (.inl x1)] [] D (fun v D9 => WP 124 xF1 none 84 15 [some (.inr (.inr (some a0))), some (.inl x1), some (.inl x2)] (v.toList ++ []) D9 Q)) ∧ (¬ (x2 ≠ (-1)) → Q (some (.inl 1)) D)) :=
  (WP.ldI rfl rfl).trans <| (WP.kI rfl).trans <| (WP.ic1 rfl).trans <| br_eq ((WP.ldR rfl rfl).trans <| (WP.getR (b := (a0 + 1)) rfl ha0 rfl rfl).trans <| (WP.ldI rfl rfl).trans <| WP.call rfl rfl (crv (r := xrecv 124 94 [.inr (.inr (some (a0 + 1))), .inl x1]) (so_6_0 ha0) rfl rfl rfl) rfl) ((WP.kI rfl).trans <| WP.ret rfl rfl)
theorem seg84_15 (a0 : Nat) (x1 : Int) (x2 : Int) (s0 : Int) (D : xD) (Q : Option xv → xD → Prop) (ha0 : xisO 124 a0 6 = true) :
  WP 124 xF1 none 84 15 [some (.inr (.inr (some a0))), some (.inl x1), some (.inl x2)] [.inl s0] D Q =
  ((s0 = 0 → WP 124 xF1 none 84 46 [some (.inr (.inr (some a0))), some (.inl x1), some (.inl x2)] [] D Q) ∧ (¬ (s0 = 0) → WP 124 xF1 none 94 0 [some (.inr (.inr (some (a0 + 1)))), some (.inl x2)] [] D (fun v D9 => WP 124 xF1 none 84 26 [some (.inr (.inr (some a0))), some (.inl x1), some (.inl x2)] (v.toList ++ []) D9 Q))) :=
  (WP.if0 rfl).trans <| br_eq rfl ((WP.ldR rfl rfl).trans <| (WP.getR (b := (a0 + 1)) rfl ha0 rfl rfl).trans <| (WP.ldI rfl rfl).trans <| WP.call rfl rfl (crv (r := xrecv 124 94 [.inr (.inr (some (a0 + 1))), .inl x2]) (so_6_0 ha0) rfl rfl rfl) rfl)
theorem seg84_26 (a0 : Nat) (x1 : Int) (x2 : Int) (s0 : Int) (D : xD) (Q : Option xv → xD → Prop) (ha0 : xisO 124 a0 6 = true) :
  WP 124 xF1 none 84 26 [some (.inr (.inr (some a0))), some (.inl x1), some (.inl x2)] [.inl s0] D Q =
  ((s0 = 0 → WP 124 xF1 none 84 46 [some (.inr (.inr (some a0))), some (.inl x1), some (.inl x2)] [] D Q) ∧ (¬ (s0 = 0) → WP 124 xF1 none 79 0 [some (.inr (.inr (some a0))), some (.inl x1)] [] D (fun v D9 => WP 124 xF1 none 84 34 [some (.inr (.inr (some a0))), some (.inl x1), some (.inl x2)] (v.toList ++ []) D9 Q))) :=
  (WP.if0 rfl).trans <| br_eq rfl ((WP.ldR rfl rfl).trans <| (WP.ldI rfl rfl).trans <| WP.call rfl rfl (crv (r := xrecv 124 79 [.inr (.inr (some a0)), .inl x1]) ha0 rfl rfl rfl) rfl)
theorem seg84_34 (a0 : Nat) (x1 : Int) (x2 : Int) (s0 : Int) (D : xD) (Q : Option xv → xD → Prop) (ha0 : xisO 124 a0 6 = true) :
  WP 124 xF1 none 84 34 [some (.inr (.inr (some a0))), some (.inl x1), some (.inl x2)] [.inl s0] D Q =
  (WP 124 xF1 none 78 0 [some (.inr (.inr (some a0))), some (.inl x2)] [] D (fun v D9 => WP 124 xF1 none 84 39 [some (.inr (.inr (some a0))), some (.inl x1), some (.inl x2)] (v.toList ++ [.inl s0]) D9 Q)) :=
  (WP.ldR rfl rfl).trans <| (WP.ldI rfl rfl).trans <| WP.call rfl rfl (crv (r := xrecv 124 78 [.inr (.inr (some a0)), .inl x2]) ha0 rfl rfl rfl) rfl
theorem seg84_39 (a0 : Nat) (x1 : Int) (x2 : Int) (s0 : Int) (s1 : Int) (D : xD) (Q : Option xv → xD → Prop) (ha0 : xisO 124 a0 6 = true) :
  WP 124 xF1 none 84 39 [some (.inr (.inr (some a0))), some (.inl x1), some (.inl x2)] [.inl s0, .inl s1] D Q =
  ((s1 ≠ s0 → WP 124 xF1 none 84 46 [some (.inr (.inr (some a0))), some (.inl x1), some (.inl x2)] [] D Q) ∧ (¬ (s1 ≠ s0) → WP 124 xF1 none 84 47 [some (.inr (.inr (some a0))), some (.inl x1), some (.inl x2)] [.inl 1] D Q)) :=
  (WP.ic1 rfl).trans <| br_eq rfl ((WP.kI rfl).trans <| WP.goto rfl)
theorem seg84_46 (a0 : Nat) (x1 : Int) (x2 : Int) (D : xD) (Q : Option xv → xD → Prop) (ha0 : xisO 124 a0 6 = true) :
  WP 124 xF1 none 84 46 [some (.inr (.inr (some a0))), some (.inl x1), some (.inl x2)] [] D Q =
  (WP 124 xF1 none 84 47 [some (.inr (.inr (some a0))), some (.inl x1), some (.inl x2)] [.inl 0] D Q) :=
  WP.kI rfl
theorem seg84_47 (a0 : Nat) (x1 : Int) (x2 : Int) (s0 : Int) (D : xD) (Q : Option xv → xD → Prop) (ha0 : xisO 124 a0 6 = true) :
  WP 124 xF1 none 84 47 [some (.inr (.inr (some a0))), some (.inl x1), some (.inl x2)] [.inl s0] D Q =
  ((s0 = 0 ∨ s0 = 1) ∧ Q (some (.inl s0)) D) :=
  WP.retZ rfl rfl
theorem seg85_0 (a0 : Nat) (x1 : Int) (x2 : Int) (D : xD) (Q : Option xv → xD → Prop) (ha0 : xisO 124 a0 6 = true) :
  WP 124 xF1 none 85 0 [some (.inr (.inr (some a0))), some (.inl x1), some (.inl x2)] [] D Q =
  (WP 124 xF1 none 145 0 [some (.inl x1)] [] D (fun v D9 => WP 124 xF1 none 85 4 [some (.inr (.inr (some a0))), some (.inl x1), some (.inl x2)] (v.toList ++ []) D9 Q)) :=
  (WP.ldI rfl rfl).trans <| WP.call rfl rfl rfl rfl
theorem seg85_4 (a0 : Nat) (x1 : Int) (x2 : Int) (s0 : Int) (D : xD) (Q : Option xv → xD → Prop) (ha0 : xisO 124 a0 6 = true) :
  WP 124 xF1 none 85 4 [some (.inr (.inr (some a0))), some (.inl x1), some (.inl x2)] [.inl s0] D Q =
  ((s0 ≠ 0 → (x2 = (-1) → WP 124 xF1 none 85 34 [some (.inr (.inr (some a0))), some (.inl x1), some (.inl x2)] [] D Q) ∧ (¬ (x2 = (-1)) → WP 124 xF1 none 94 0 [some (.inr (.inr (some (a0 + 1)))), some (.inl x2)] [] D (fun v D9 => WP 124 xF1 none 85 22 [some (.inr (.inr (some a0))), some (.inl x1), some (.inl x2)] (v.toList ++ []) D9 Q))) ∧ (¬ (s0 ≠ 0) → Q (some (.inl 0)) D)) :=
  (WP.if1 rfl).trans <| br_eq ((WP.ldI rfl rfl).trans <| (WP.kI rfl).trans <| (WP.ic0 rfl).trans <| br_eq rfl ((WP.ldR rfl rfl).trans <| (WP.getR (b := (a0 + 1)) rfl ha0 rfl rfl).trans <| (WP.ldI rfl rfl).trans <| WP.call rfl rfl (crv (r := xrecv 124 94 [.inr (.inr (some (a0 + 1))), .inl x2]) (so_6_0 ha0) rfl rfl rfl) rfl)) ((WP.kI rfl).trans <| WP.ret rfl rfl)
theorem seg85_22 (a0 : Nat) (x1 : Int) (x2 : Int) (s0 : Int) (D : xD) (Q : Option xv → xD → Prop) (ha0 : xisO 124 a0 6 = true) :
  WP 124 xF1 none 85 22 [some (.inr (.inr (some a0))), some (.inl x1), some (.inl x2)] [.inl s0] D Q =
  ((s0 = 0 → WP 124 xF1 none 85 38 [some (.inr (.inr (some a0))), some (.inl x1), some (.inl x2)] [] D Q) ∧ (¬ (s0 = 0) → WP 124 xF1 none 78 0 [some (.inr (.inr (some a0))), some (.inl x2)] [] D (fun v D9 => WP 124 xF1 none 85 30 [some (.inr (.inr (some a0))), some (.inl x1), some (.inl x2)] (v.toList ++ []) D9 Q))) :=
  (WP.if0 rfl).trans <| br_eq rfl ((WP.ldR rfl rfl).trans <| (WP.ldI rfl rfl).trans <| WP.call rfl rfl (crv (r := xrecv 124 78 [.inr (.inr (some a0)), .inl x2]) ha0 rfl rfl rfl) rfl)
theorem seg85_30 (a0 : Nat) (x1 : Int) (x2 : Int) (s0 : Int) (D : xD) (Q : Option xv → xD → Prop) (ha0 : xisO 124 a0 6 = true) :
  WP 124 xF1 none 85 30 [some (.inr (.inr (some a0))), some (.inl x1), some (.inl x2)] [.inl s0] D Q =
  ((s0 ≠ x1 → WP 124 xF1 none 85 38 [some (.inr (.inr (some a0))), some (.inl x1), some (.inl x2)] [] D Q) ∧ (¬ (s0 ≠ x1) → WP 124 xF1 none 85 34 [some (.inr (.inr (some a0))), some (.inl x1), some (.inl x2)] [] D Q)) :=
  (WP.ldI rfl rfl).trans <| (WP.ic1 rfl).trans <| br_eq rfl rfl
theorem seg85_34 (a0 : Nat) (x1 : Int) (x2 : Int) (D : xD) (Q : Option xv → xD → Prop) (ha0 : xisO 124 a0 6 = true) :
  WP 124 xF1 none 85 34 [some (.inr (.inr (some a0))), some (.inl x1), some (.inl x2)] [] D Q =
  (WP 124 xF1 none 85 39 [some (.inr (.inr (some a0))), some (.inl x1), some (.inl x2)] [.inl 1] D Q) :=
  (WP.kI rfl).trans <| WP.goto rfl
theorem seg85_38 (a0 : Nat) (x1 : Int) (x2 : Int) (D : xD) (Q : Option xv → xD → Prop) (ha0 : xisO 124 a0 6 = true) :
  WP 124 xF1 none 85 38 [some (.inr (.inr (some a0))), some (.inl x1), some (.inl x2)] [] D Q =
  (WP 124 xF1 none 85 39 [some (.inr (.inr (some a0))), some (.inl x1), some (.inl x2)] [.inl 0] D Q) :=
  WP.kI rfl
theorem seg85_39 (a0 : Nat) (x1 : Int) (x2 : Int) (s0 : Int) (D : xD) (Q : Option xv → xD → Prop) (ha0 : xisO 124 a0 6 = true) :
  WP 124 xF1 none 85 39 [some (.inr (.inr (some a0))), some (.inl x1), some (.inl x2)] [.inl s0] D Q =
  ((s0 = 0 ∨ s0 = 1) ∧ Q (some (.inl s0)) D) :=
  WP.retZ rfl rfl
theorem seg86_0 (a0 : Nat) (x1 : Int) (x2 : Int) (o3 : Option xv) (D : xD) (Q : Option xv → xD → Prop) (ha0 : xisO 124 a0 6 = true) :
  WP 124 xF1 none 86 0 [some (.inr (.inr (some a0))), some (.inl x1), some (.inl x2), o3] [] D Q =
  ((xinP (x2 + 1)) ∧ WP 124 xF1 none 86 4 [some (.inr (.inr (some a0))), some (.inl x1), some (.inl x2), some (.inl (x2 + 1))] [] D Q) :=
  (WP.ldI rfl rfl).trans <| (WP.kI rfl).trans <| (WP.iadd rfl).trans <| cn_eq (WP.stI rfl rfl)
theorem seg86_4 (a0 : Nat) (x1 : Int) (x2 : Int) (x3 : Int) (D : xD) (Q : Option xv → xD → Prop) (ha0 : xisO 124 a0 6 = true) :
  WP 124 xF1 none 86 4 [some (.inr (.inr (some a0))), some (.inl x1), some (.inl x2), some (.inl x3)] [] D Q =
  (((D (a0 + 1) 11) ≤ x3 → Q (some (.inl (-1))) D) ∧ (¬ ((D (a0 + 1) 11) ≤ x3) → WP 124 xF1 none 78 0 [some (.inr (.inr (some a0))), some (.inl x3)] [] D (fun v D9 => WP 124 xF1 none 86 20 [some (.inr (.inr (some a0))), some (.inl x1), some (.inl x2), some (.inl x3)] (v.toList ++ []) D9 Q))) :=
  (WP.ldI rfl rfl).trans <| (WP.ldR rfl rfl).trans <| (WP.getR (b := (a0 + 1)) rfl ha0 rfl rfl).trans <| (WP.getI rfl (so_6_0 ha0)).trans <| (WP.ic3 rfl).trans <| br_eq ((WP.kI rfl).trans <| WP.ret rfl rfl) ((WP.ldR rfl rfl).trans <| (WP.ldI rfl rfl).trans <| WP.call rfl rfl (crv (r := xrecv 124 78 [.inr (.inr (some a0)), .inl x3]) ha0 rfl rfl rfl) rfl)
theorem seg86_20 (a0 : Nat) (x1 : Int) (x2 : Int) (x3 : Int) (s0 : Int) (D : xD) (Q : Option xv → xD → Prop) (ha0 : xisO 124 a0 6 = true) :
  WP 124 xF1 none 86 20 [some (.inr (.inr (some a0))), some (.inl x1), some (.inl x2), some (.inl x3)] [.inl s0] D Q =
  ((s0 ≠ x1 → (xinP (x3 + 1)) ∧ WP 124 xF1 none 86 4 [some (.inr (.inr (some a0))), some (.inl x1), some (.inl x2), some (.inl (x3 + 1))] [] D Q) ∧ (¬ (s0 ≠ x1) → Q (some (.inl x3)) D)) :=
  (WP.ldI rfl rfl).trans <| (WP.ic1 rfl).trans <| br_eq ((WP.iinc rfl rfl rfl).trans <| cn_eq (WP.goto rfl)) ((WP.ldI rfl rfl).trans <| WP.ret rfl rfl)
