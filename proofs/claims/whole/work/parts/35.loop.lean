/-! the law's loop out of its pairs of calls -/
def xpr (I : xD → Prop) (y : Nat) (ly : xls) (z : Nat) (lz : xls) : Prop := ∀ D : xD, I D → WP 124 xF1 none y 0 ly [] D (fun v D1 => ∃ r : Int, v = some (.inl r) ∧ D1 0 = D 0 ∧ WP 124 xF1 none z 0 lz [] D1 (fun w D2 => w = some (.inl r) ∧ D2 0 = D 0 ∧ I D2))
section M35
variable {L : Nat} {I : xD → Prop} {D : xD} {Q : Option xv → xD → Prop} {x3 : Int}
theorem case0 (h : ∀ (z1 z2 z3 z4 z5 : Int), xinP z1 → xinP z2 → xinP z3 → xinP z4 → xinP z5 → xpr I 112 [some (.inr (.inr (some 1))), some (.inl z1), some (.inl z2), some (.inl z3), some (.inl z4), some (.inl z5)] 152 [some (.inr (.inr (some 95))), some (.inl z1), some (.inl z2), some (.inl z3), some (.inl z4), some (.inl z5)]) (hL : L ≤ 4096) (h0 : 0 ≤ x3) (h8 : x3 + 8 ≤ L) (hS : ∀ j, xinP (D 0 j)) (hI : I D) (hn : ∀ D2 : xD, I D2 → D2 0 = D 0 → WP 124 xF1 (some L) 239 1075 [some (.inr (.inr (some 0))), some (.inr (.inr (some 1))), some (.inr (.inr (some 95))), some (.inl x3)] [] D2 Q) : WP 124 xF1 (some L) 239 164 [some (.inr (.inr (some 0))), some (.inr (.inr (some 1))), some (.inr (.inr (some 95))), some (.inl x3)] [] D Q := by
  rw [seg239_164 (ha0 := rfl) (ha1 := ho1) (ha2 := ho95)]
  simp (disch := omega) only [cnB, cnX]
  refine (h (D 0 (x3 + 1)) (D 0 (x3 + 2)) (D 0 (x3 + 3)) (D 0 (x3 + 4)) (D 0 (x3 + 5)) (hS _) (hS _) (hS _) (hS _) (hS _) D hI).mono ?_
  rintro v D1 ⟨r, rfl, e1, hw⟩
  simp only [Option.toList_some, List.cons_append, List.nil_append]
  rw [seg239_193 (ha0 := rfl) (ha1 := ho1) (ha2 := ho95)]
  simp (disch := omega) only [cnB, cnX, e1]
  refine hw.mono ?_
  rintro w D2 ⟨rfl, e2, hI2⟩
  simp only [Option.toList_some, List.cons_append, List.nil_append]
  rw [seg239_222 (ha0 := rfl) (ha1 := ho1) (ha2 := ho95)]
  exact ⟨fun _ => hn D2 hI2 e2, fun e => absurd rfl e⟩
theorem case1 (h : ∀ (z1 : Int), xinP z1 → xpr I 114 [some (.inr (.inr (some 1))), some (.inl z1)] 153 [some (.inr (.inr (some 95))), some (.inl z1)]) (hL : L ≤ 4096) (h0 : 0 ≤ x3) (h8 : x3 + 8 ≤ L) (hS : ∀ j, xinP (D 0 j)) (hI : I D) (hn : ∀ D2 : xD, I D2 → D2 0 = D 0 → WP 124 xF1 (some L) 239 1075 [some (.inr (.inr (some 0))), some (.inr (.inr (some 1))), some (.inr (.inr (some 95))), some (.inl x3)] [] D2 Q) : WP 124 xF1 (some L) 239 227 [some (.inr (.inr (some 0))), some (.inr (.inr (some 1))), some (.inr (.inr (some 95))), some (.inl x3)] [] D Q := by
  rw [seg239_227 (ha0 := rfl) (ha1 := ho1) (ha2 := ho95)]
  simp (disch := omega) only [cnB, cnX]
  refine (h (D 0 (x3 + 1)) (hS _) D hI).mono ?_
  rintro v D1 ⟨r, rfl, e1, hw⟩
  simp only [Option.toList_some, List.cons_append, List.nil_append]
  rw [seg239_236 (ha0 := rfl) (ha1 := ho1) (ha2 := ho95)]
  simp (disch := omega) only [cnB, cnX, e1]
  refine hw.mono ?_
  rintro w D2 ⟨rfl, e2, hI2⟩
  simp only [Option.toList_some, List.cons_append, List.nil_append]
  rw [seg239_245 (ha0 := rfl) (ha1 := ho1) (ha2 := ho95)]
  exact ⟨fun _ => hn D2 hI2 e2, fun e => absurd rfl e⟩
theorem case2 (h : xpr I 115 [some (.inr (.inr (some 1)))] 172 [some (.inr (.inr (some 95)))]) (hL : L ≤ 4096) (h0 : 0 ≤ x3) (h8 : x3 + 8 ≤ L) (hS : ∀ j, xinP (D 0 j)) (hI : I D) (hn : ∀ D2 : xD, I D2 → D2 0 = D 0 → WP 124 xF1 (some L) 239 1075 [some (.inr (.inr (some 0))), some (.inr (.inr (some 1))), some (.inr (.inr (some 95))), some (.inl x3)] [] D2 Q) : WP 124 xF1 (some L) 239 250 [some (.inr (.inr (some 0))), some (.inr (.inr (some 1))), some (.inr (.inr (some 95))), some (.inl x3)] [] D Q := by
  rw [seg239_250 (ha0 := rfl) (ha1 := ho1) (ha2 := ho95)]
  skip
  refine (h D hI).mono ?_
  rintro v D1 ⟨r, rfl, e1, hw⟩
  simp only [Option.toList_some, List.cons_append, List.nil_append]
  rw [seg239_254 (ha0 := rfl) (ha1 := ho1) (ha2 := ho95)]
  skip
  refine hw.mono ?_
  rintro w D2 ⟨rfl, e2, hI2⟩
  simp only [Option.toList_some, List.cons_append, List.nil_append]
  rw [seg239_258 (ha0 := rfl) (ha1 := ho1) (ha2 := ho95)]
  exact ⟨fun _ => hn D2 hI2 e2, fun e => absurd rfl e⟩
theorem case3 (h : ∀ (z1 : Int), xinP z1 → xpr I 117 [some (.inr (.inr (some 1))), some (.inl z1)] 173 [some (.inr (.inr (some 95))), some (.inl z1)]) (hL : L ≤ 4096) (h0 : 0 ≤ x3) (h8 : x3 + 8 ≤ L) (hS : ∀ j, xinP (D 0 j)) (hI : I D) (hn : ∀ D2 : xD, I D2 → D2 0 = D 0 → WP 124 xF1 (some L) 239 1075 [some (.inr (.inr (some 0))), some (.inr (.inr (some 1))), some (.inr (.inr (some 95))), some (.inl x3)] [] D2 Q) : WP 124 xF1 (some L) 239 263 [some (.inr (.inr (some 0))), some (.inr (.inr (some 1))), some (.inr (.inr (some 95))), some (.inl x3)] [] D Q := by
  rw [seg239_263 (ha0 := rfl) (ha1 := ho1) (ha2 := ho95)]
  simp (disch := omega) only [cnB, cnX]
  refine (h (D 0 (x3 + 1)) (hS _) D hI).mono ?_
  rintro v D1 ⟨r, rfl, e1, hw⟩
  simp only [Option.toList_some, List.cons_append, List.nil_append]
  rw [seg239_272 (ha0 := rfl) (ha1 := ho1) (ha2 := ho95)]
  simp (disch := omega) only [cnB, cnX, e1]
  refine hw.mono ?_
  rintro w D2 ⟨rfl, e2, hI2⟩
  simp only [Option.toList_some, List.cons_append, List.nil_append]
  rw [seg239_281 (ha0 := rfl) (ha1 := ho1) (ha2 := ho95)]
  exact ⟨fun _ => hn D2 hI2 e2, fun e => absurd rfl e⟩
theorem case4 (h : ∀ (z1 z2 : Int), xinP z1 → xinP z2 → xpr I 118 [some (.inr (.inr (some 1))), some (.inl z1), some (.inl z2), none] 180 [some (.inr (.inr (some 95))), some (.inl z1), some (.inl z2)]) (hL : L ≤ 4096) (h0 : 0 ≤ x3) (h8 : x3 + 8 ≤ L) (hS : ∀ j, xinP (D 0 j)) (hI : I D) (hn : ∀ D2 : xD, I D2 → D2 0 = D 0 → WP 124 xF1 (some L) 239 1075 [some (.inr (.inr (some 0))), some (.inr (.inr (some 1))), some (.inr (.inr (some 95))), some (.inl x3)] [] D2 Q) : WP 124 xF1 (some L) 239 286 [some (.inr (.inr (some 0))), some (.inr (.inr (some 1))), some (.inr (.inr (some 95))), some (.inl x3)] [] D Q := by
  rw [seg239_286 (ha0 := rfl) (ha1 := ho1) (ha2 := ho95)]
  simp (disch := omega) only [cnB, cnX]
  refine (h (D 0 (x3 + 1)) (D 0 (x3 + 2)) (hS _) (hS _) D hI).mono ?_
  rintro v D1 ⟨r, rfl, e1, hw⟩
  simp only [Option.toList_some, List.cons_append, List.nil_append]
  rw [seg239_300 (ha0 := rfl) (ha1 := ho1) (ha2 := ho95)]
  simp (disch := omega) only [cnB, cnX, e1]
  refine hw.mono ?_
  rintro w D2 ⟨rfl, e2, hI2⟩
  simp only [Option.toList_some, List.cons_append, List.nil_append]
  rw [seg239_314 (ha0 := rfl) (ha1 := ho1) (ha2 := ho95)]
  exact ⟨fun _ => hn D2 hI2 e2, fun e => absurd rfl e⟩
theorem case5 (h : ∀ (z1 z2 : Int), xinP z1 → xinP z2 → xpr I 119 [some (.inr (.inr (some 1))), some (.inl z1), some (.inl z2)] 182 [some (.inr (.inr (some 95))), some (.inl z1), some (.inl z2)]) (hL : L ≤ 4096) (h0 : 0 ≤ x3) (h8 : x3 + 8 ≤ L) (hS : ∀ j, xinP (D 0 j)) (hI : I D) (hn : ∀ D2 : xD, I D2 → D2 0 = D 0 → WP 124 xF1 (some L) 239 1075 [some (.inr (.inr (some 0))), some (.inr (.inr (some 1))), some (.inr (.inr (some 95))), some (.inl x3)] [] D2 Q) : WP 124 xF1 (some L) 239 319 [some (.inr (.inr (some 0))), some (.inr (.inr (some 1))), some (.inr (.inr (some 95))), some (.inl x3)] [] D Q := by
  rw [seg239_319 (ha0 := rfl) (ha1 := ho1) (ha2 := ho95)]
  simp (disch := omega) only [cnB, cnX]
  refine (h (D 0 (x3 + 1)) (D 0 (x3 + 2)) (hS _) (hS _) D hI).mono ?_
  rintro v D1 ⟨r, rfl, e1, hw⟩
  simp only [Option.toList_some, List.cons_append, List.nil_append]
  rw [seg239_333 (ha0 := rfl) (ha1 := ho1) (ha2 := ho95)]
  simp (disch := omega) only [cnB, cnX, e1]
  refine hw.mono ?_
  rintro w D2 ⟨rfl, e2, hI2⟩
  simp only [Option.toList_some, List.cons_append, List.nil_append]
  rw [seg239_347 (ha0 := rfl) (ha1 := ho1) (ha2 := ho95)]
  exact ⟨fun _ => hn D2 hI2 e2, fun e => absurd rfl e⟩
theorem case6 (h : ∀ (z1 : Int), xinP z1 → xpr I 120 [some (.inr (.inr (some 1))), some (.inl z1)] 184 [some (.inr (.inr (some 95))), some (.inl z1), none, none]) (hL : L ≤ 4096) (h0 : 0 ≤ x3) (h8 : x3 + 8 ≤ L) (hS : ∀ j, xinP (D 0 j)) (hI : I D) (hn : ∀ D2 : xD, I D2 → D2 0 = D 0 → WP 124 xF1 (some L) 239 1075 [some (.inr (.inr (some 0))), some (.inr (.inr (some 1))), some (.inr (.inr (some 95))), some (.inl x3)] [] D2 Q) : WP 124 xF1 (some L) 239 352 [some (.inr (.inr (some 0))), some (.inr (.inr (some 1))), some (.inr (.inr (some 95))), some (.inl x3)] [] D Q := by
  rw [seg239_352 (ha0 := rfl) (ha1 := ho1) (ha2 := ho95)]
  simp (disch := omega) only [cnB, cnX]
  refine (h (D 0 (x3 + 1)) (hS _) D hI).mono ?_
  rintro v D1 ⟨r, rfl, e1, hw⟩
  simp only [Option.toList_some, List.cons_append, List.nil_append]
  rw [seg239_361 (ha0 := rfl) (ha1 := ho1) (ha2 := ho95)]
  simp (disch := omega) only [cnB, cnX, e1]
  refine hw.mono ?_
  rintro w D2 ⟨rfl, e2, hI2⟩
  simp only [Option.toList_some, List.cons_append, List.nil_append]
  rw [seg239_370 (ha0 := rfl) (ha1 := ho1) (ha2 := ho95)]
  exact ⟨fun _ => hn D2 hI2 e2, fun e => absurd rfl e⟩
theorem case7 (h : ∀ (z1 : Int), xinP z1 → xpr I 121 [some (.inr (.inr (some 1))), some (.inl z1)] 191 [some (.inr (.inr (some 95))), some (.inl z1)]) (hL : L ≤ 4096) (h0 : 0 ≤ x3) (h8 : x3 + 8 ≤ L) (hS : ∀ j, xinP (D 0 j)) (hI : I D) (hn : ∀ D2 : xD, I D2 → D2 0 = D 0 → WP 124 xF1 (some L) 239 1075 [some (.inr (.inr (some 0))), some (.inr (.inr (some 1))), some (.inr (.inr (some 95))), some (.inl x3)] [] D2 Q) : WP 124 xF1 (some L) 239 375 [some (.inr (.inr (some 0))), some (.inr (.inr (some 1))), some (.inr (.inr (some 95))), some (.inl x3)] [] D Q := by
  rw [seg239_375 (ha0 := rfl) (ha1 := ho1) (ha2 := ho95)]
  simp (disch := omega) only [cnB, cnX]
  refine (h (D 0 (x3 + 1)) (hS _) D hI).mono ?_
  rintro v D1 ⟨r, rfl, e1, hw⟩
  simp only [Option.toList_some, List.cons_append, List.nil_append]
  rw [seg239_384 (ha0 := rfl) (ha1 := ho1) (ha2 := ho95)]
  simp (disch := omega) only [cnB, cnX, e1]
  refine hw.mono ?_
  rintro w D2 ⟨rfl, e2, hI2⟩
  simp only [Option.toList_some, List.cons_append, List.nil_append]
  rw [seg239_393 (ha0 := rfl) (ha1 := ho1) (ha2 := ho95)]
  exact ⟨fun _ => hn D2 hI2 e2, fun e => absurd rfl e⟩
theorem case8 (h : ∀ (z1 z2 z3 : Int), xinP z1 → xinP z2 → xinP z3 → xpr I 122 [some (.inr (.inr (some 1))), some (.inl z1), some (.inl z2), some (.inl z3)] 192 [some (.inr (.inr (some 95))), some (.inl z1), some (.inl z2), some (.inl z3)]) (hL : L ≤ 4096) (h0 : 0 ≤ x3) (h8 : x3 + 8 ≤ L) (hS : ∀ j, xinP (D 0 j)) (hI : I D) (hn : ∀ D2 : xD, I D2 → D2 0 = D 0 → WP 124 xF1 (some L) 239 1075 [some (.inr (.inr (some 0))), some (.inr (.inr (some 1))), some (.inr (.inr (some 95))), some (.inl x3)] [] D2 Q) : WP 124 xF1 (some L) 239 398 [some (.inr (.inr (some 0))), some (.inr (.inr (some 1))), some (.inr (.inr (some 95))), some (.inl x3)] [] D Q := by
  rw [seg239_398 (ha0 := rfl) (ha1 := ho1) (ha2 := ho95)]
  simp (disch := omega) only [cnB, cnX]
  refine (h (D 0 (x3 + 1)) (D 0 (x3 + 2)) (D 0 (x3 + 3)) (hS _) (hS _) (hS _) D hI).mono ?_
  rintro v D1 ⟨r, rfl, e1, hw⟩
  simp only [Option.toList_some, List.cons_append, List.nil_append]
  rw [seg239_417 (ha0 := rfl) (ha1 := ho1) (ha2 := ho95)]
  simp (disch := omega) only [cnB, cnX, e1]
  refine hw.mono ?_
  rintro w D2 ⟨rfl, e2, hI2⟩
  simp only [Option.toList_some, List.cons_append, List.nil_append]
  rw [seg239_436 (ha0 := rfl) (ha1 := ho1) (ha2 := ho95)]
  exact ⟨fun _ => hn D2 hI2 e2, fun e => absurd rfl e⟩
theorem case9 (h : xpr I 123 [some (.inr (.inr (some 1)))] 194 [some (.inr (.inr (some 95)))]) (hL : L ≤ 4096) (h0 : 0 ≤ x3) (h8 : x3 + 8 ≤ L) (hS : ∀ j, xinP (D 0 j)) (hI : I D) (hn : ∀ D2 : xD, I D2 → D2 0 = D 0 → WP 124 xF1 (some L) 239 1075 [some (.inr (.inr (some 0))), some (.inr (.inr (some 1))), some (.inr (.inr (some 95))), some (.inl x3)] [] D2 Q) : WP 124 xF1 (some L) 239 441 [some (.inr (.inr (some 0))), some (.inr (.inr (some 1))), some (.inr (.inr (some 95))), some (.inl x3)] [] D Q := by
  rw [seg239_441 (ha0 := rfl) (ha1 := ho1) (ha2 := ho95)]
  skip
  refine (h D hI).mono ?_
  rintro v D1 ⟨r, rfl, e1, hw⟩
  simp only [Option.toList_some, List.cons_append, List.nil_append]
  rw [seg239_445 (ha0 := rfl) (ha1 := ho1) (ha2 := ho95)]
  skip
  refine hw.mono ?_
  rintro w D2 ⟨rfl, e2, hI2⟩
  simp only [Option.toList_some, List.cons_append, List.nil_append]
  rw [seg239_449 (ha0 := rfl) (ha1 := ho1) (ha2 := ho95)]
  exact ⟨fun _ => hn D2 hI2 e2, fun e => absurd rfl e⟩
theorem case10 (h : ∀ (z1 z2 : Int), xinP z1 → xinP z2 → xpr I 124 [some (.inr (.inr (some 1))), some (.inl z1), some (.inl z2)] 197 [some (.inr (.inr (some 95))), some (.inl z1), some (.inl z2), none, none, none, none]) (hL : L ≤ 4096) (h0 : 0 ≤ x3) (h8 : x3 + 8 ≤ L) (hS : ∀ j, xinP (D 0 j)) (hI : I D) (hn : ∀ D2 : xD, I D2 → D2 0 = D 0 → WP 124 xF1 (some L) 239 1075 [some (.inr (.inr (some 0))), some (.inr (.inr (some 1))), some (.inr (.inr (some 95))), some (.inl x3)] [] D2 Q) : WP 124 xF1 (some L) 239 454 [some (.inr (.inr (some 0))), some (.inr (.inr (some 1))), some (.inr (.inr (some 95))), some (.inl x3)] [] D Q := by
  rw [seg239_454 (ha0 := rfl) (ha1 := ho1) (ha2 := ho95)]
  simp (disch := omega) only [cnB, cnX]
  refine (h (D 0 (x3 + 1)) (D 0 (x3 + 2)) (hS _) (hS _) D hI).mono ?_
  rintro v D1 ⟨r, rfl, e1, hw⟩
  simp only [Option.toList_some, List.cons_append, List.nil_append]
  rw [seg239_468 (ha0 := rfl) (ha1 := ho1) (ha2 := ho95)]
  simp (disch := omega) only [cnB, cnX, e1]
  refine hw.mono ?_
  rintro w D2 ⟨rfl, e2, hI2⟩
  simp only [Option.toList_some, List.cons_append, List.nil_append]
  rw [seg239_482 (ha0 := rfl) (ha1 := ho1) (ha2 := ho95)]
  exact ⟨fun _ => hn D2 hI2 e2, fun e => absurd rfl e⟩
theorem case11 (h : ∀ (z1 : Int), xinP z1 → xpr I 125 [some (.inr (.inr (some 1))), some (.inl z1)] 198 [some (.inr (.inr (some 95))), some (.inl z1), none, none, none, none, none, none, none]) (hL : L ≤ 4096) (h0 : 0 ≤ x3) (h8 : x3 + 8 ≤ L) (hS : ∀ j, xinP (D 0 j)) (hI : I D) (hn : ∀ D2 : xD, I D2 → D2 0 = D 0 → WP 124 xF1 (some L) 239 1075 [some (.inr (.inr (some 0))), some (.inr (.inr (some 1))), some (.inr (.inr (some 95))), some (.inl x3)] [] D2 Q) : WP 124 xF1 (some L) 239 487 [some (.inr (.inr (some 0))), some (.inr (.inr (some 1))), some (.inr (.inr (some 95))), some (.inl x3)] [] D Q := by
  rw [seg239_487 (ha0 := rfl) (ha1 := ho1) (ha2 := ho95)]
  simp (disch := omega) only [cnB, cnX]
  refine (h (D 0 (x3 + 1)) (hS _) D hI).mono ?_
  rintro v D1 ⟨r, rfl, e1, hw⟩
  simp only [Option.toList_some, List.cons_append, List.nil_append]
  rw [seg239_496 (ha0 := rfl) (ha1 := ho1) (ha2 := ho95)]
  simp (disch := omega) only [cnB, cnX, e1]
  refine hw.mono ?_
  rintro w D2 ⟨rfl, e2, hI2⟩
  simp only [Option.toList_some, List.cons_append, List.nil_append]
  rw [seg239_505 (ha0 := rfl) (ha1 := ho1) (ha2 := ho95)]
  exact ⟨fun _ => hn D2 hI2 e2, fun e => absurd rfl e⟩
theorem case12 (h : ∀ (z1 z2 : Int), xinP z1 → xinP z2 → xpr I 126 [some (.inr (.inr (some 1))), some (.inl z1), some (.inl z2)] 199 [some (.inr (.inr (some 95))), some (.inl z1), some (.inl z2), none, none, none, none, none]) (hL : L ≤ 4096) (h0 : 0 ≤ x3) (h8 : x3 + 8 ≤ L) (hS : ∀ j, xinP (D 0 j)) (hI : I D) (hn : ∀ D2 : xD, I D2 → D2 0 = D 0 → WP 124 xF1 (some L) 239 1075 [some (.inr (.inr (some 0))), some (.inr (.inr (some 1))), some (.inr (.inr (some 95))), some (.inl x3)] [] D2 Q) : WP 124 xF1 (some L) 239 510 [some (.inr (.inr (some 0))), some (.inr (.inr (some 1))), some (.inr (.inr (some 95))), some (.inl x3)] [] D Q := by
  rw [seg239_510 (ha0 := rfl) (ha1 := ho1) (ha2 := ho95)]
  simp (disch := omega) only [cnB, cnX]
  refine (h (D 0 (x3 + 1)) (D 0 (x3 + 2)) (hS _) (hS _) D hI).mono ?_
  rintro v D1 ⟨r, rfl, e1, hw⟩
  simp only [Option.toList_some, List.cons_append, List.nil_append]
  rw [seg239_524 (ha0 := rfl) (ha1 := ho1) (ha2 := ho95)]
  simp (disch := omega) only [cnB, cnX, e1]
  refine hw.mono ?_
  rintro w D2 ⟨rfl, e2, hI2⟩
  simp only [Option.toList_some, List.cons_append, List.nil_append]
  rw [seg239_538 (ha0 := rfl) (ha1 := ho1) (ha2 := ho95)]
  exact ⟨fun _ => hn D2 hI2 e2, fun e => absurd rfl e⟩
theorem case13 (h : ∀ (z1 z2 z3 : Int), xinP z1 → xinP z2 → xinP z3 → xpr I 127 [some (.inr (.inr (some 1))), some (.inl z1), some (.inl z2), some (.inl z3)] 201 [some (.inr (.inr (some 95))), some (.inl z1), some (.inl z2), some (.inl z3)]) (hL : L ≤ 4096) (h0 : 0 ≤ x3) (h8 : x3 + 8 ≤ L) (hS : ∀ j, xinP (D 0 j)) (hI : I D) (hn : ∀ D2 : xD, I D2 → D2 0 = D 0 → WP 124 xF1 (some L) 239 1075 [some (.inr (.inr (some 0))), some (.inr (.inr (some 1))), some (.inr (.inr (some 95))), some (.inl x3)] [] D2 Q) : WP 124 xF1 (some L) 239 543 [some (.inr (.inr (some 0))), some (.inr (.inr (some 1))), some (.inr (.inr (some 95))), some (.inl x3)] [] D Q := by
  rw [seg239_543 (ha0 := rfl) (ha1 := ho1) (ha2 := ho95)]
  simp (disch := omega) only [cnB, cnX]
  refine (h (D 0 (x3 + 1)) (D 0 (x3 + 2)) (D 0 (x3 + 3)) (hS _) (hS _) (hS _) D hI).mono ?_
  rintro v D1 ⟨r, rfl, e1, hw⟩
  simp only [Option.toList_some, List.cons_append, List.nil_append]
  rw [seg239_562 (ha0 := rfl) (ha1 := ho1) (ha2 := ho95)]
  simp (disch := omega) only [cnB, cnX, e1]
  refine hw.mono ?_
  rintro w D2 ⟨rfl, e2, hI2⟩
  simp only [Option.toList_some, List.cons_append, List.nil_append]
  rw [seg239_581 (ha0 := rfl) (ha1 := ho1) (ha2 := ho95)]
  exact ⟨fun _ => hn D2 hI2 e2, fun e => absurd rfl e⟩
theorem case14 (h : ∀ (z1 : Int), xinP z1 → xpr I 128 [some (.inr (.inr (some 1))), some (.inl z1), none, none] 216 [some (.inr (.inr (some 95))), some (.inl z1), none, none]) (hL : L ≤ 4096) (h0 : 0 ≤ x3) (h8 : x3 + 8 ≤ L) (hS : ∀ j, xinP (D 0 j)) (hI : I D) (hn : ∀ D2 : xD, I D2 → D2 0 = D 0 → WP 124 xF1 (some L) 239 1075 [some (.inr (.inr (some 0))), some (.inr (.inr (some 1))), some (.inr (.inr (some 95))), some (.inl x3)] [] D2 Q) : WP 124 xF1 (some L) 239 586 [some (.inr (.inr (some 0))), some (.inr (.inr (some 1))), some (.inr (.inr (some 95))), some (.inl x3)] [] D Q := by
  rw [seg239_586 (ha0 := rfl) (ha1 := ho1) (ha2 := ho95)]
  simp (disch := omega) only [cnB, cnX]
  refine (h (D 0 (x3 + 1)) (hS _) D hI).mono ?_
  rintro v D1 ⟨r, rfl, e1, hw⟩
  simp only [Option.toList_some, List.cons_append, List.nil_append]
  rw [seg239_595 (ha0 := rfl) (ha1 := ho1) (ha2 := ho95)]
  simp (disch := omega) only [cnB, cnX, e1]
  refine hw.mono ?_
  rintro w D2 ⟨rfl, e2, hI2⟩
  simp only [Option.toList_some, List.cons_append, List.nil_append]
  rw [seg239_604 (ha0 := rfl) (ha1 := ho1) (ha2 := ho95)]
  exact ⟨fun _ => hn D2 hI2 e2, fun e => absurd rfl e⟩
theorem case15 (h : ∀ (z1 z2 z3 z4 z5 z6 z7 : Int), xinP z1 → xinP z2 → xinP z3 → xinP z4 → xinP z5 → xinP z6 → xinP z7 → xpr I 129 [some (.inr (.inr (some 1))), some (.inl z1), some (.inl z2), some (.inl z3), some (.inl z4), some (.inl z5), some (.inl z6), some (.inl z7), none] 203 [some (.inr (.inr (some 95))), some (.inl z1), some (.inl z2), some (.inl z3), some (.inl z4), some (.inl z5), some (.inl z6), some (.inl z7), none, none, none]) (hL : L ≤ 4096) (h0 : 0 ≤ x3) (h8 : x3 + 8 ≤ L) (hS : ∀ j, xinP (D 0 j)) (hI : I D) (hn : ∀ D2 : xD, I D2 → D2 0 = D 0 → WP 124 xF1 (some L) 239 1075 [some (.inr (.inr (some 0))), some (.inr (.inr (some 1))), some (.inr (.inr (some 95))), some (.inl x3)] [] D2 Q) : WP 124 xF1 (some L) 239 609 [some (.inr (.inr (some 0))), some (.inr (.inr (some 1))), some (.inr (.inr (some 95))), some (.inl x3)] [] D Q := by
  rw [seg239_609 (ha0 := rfl) (ha1 := ho1) (ha2 := ho95)]
  simp (disch := omega) only [cnB, cnX]
  refine (h (D 0 (x3 + 1)) (D 0 (x3 + 2)) (D 0 (x3 + 3)) (D 0 (x3 + 4)) (D 0 (x3 + 5)) (D 0 (x3 + 6)) (D 0 (x3 + 7)) (hS _) (hS _) (hS _) (hS _) (hS _) (hS _) (hS _) D hI).mono ?_
  rintro v D1 ⟨r, rfl, e1, hw⟩
  simp only [Option.toList_some, List.cons_append, List.nil_append]
  rw [seg239_650 (ha0 := rfl) (ha1 := ho1) (ha2 := ho95)]
  simp (disch := omega) only [cnB, cnX, e1]
  refine hw.mono ?_
  rintro w D2 ⟨rfl, e2, hI2⟩
  simp only [Option.toList_some, List.cons_append, List.nil_append]
  rw [seg239_691 (ha0 := rfl) (ha1 := ho1) (ha2 := ho95)]
  exact ⟨fun _ => hn D2 hI2 e2, fun e => absurd rfl e⟩
theorem case16 (h : ∀ (z1 z2 : Int), xinP z1 → xinP z2 → xpr I 131 [some (.inr (.inr (some 1))), some (.inl z1), some (.inl z2)] 206 [some (.inr (.inr (some 95))), some (.inl z1), some (.inl z2), none]) (hL : L ≤ 4096) (h0 : 0 ≤ x3) (h8 : x3 + 8 ≤ L) (hS : ∀ j, xinP (D 0 j)) (hI : I D) (hn : ∀ D2 : xD, I D2 → D2 0 = D 0 → WP 124 xF1 (some L) 239 1075 [some (.inr (.inr (some 0))), some (.inr (.inr (some 1))), some (.inr (.inr (some 95))), some (.inl x3)] [] D2 Q) : WP 124 xF1 (some L) 239 696 [some (.inr (.inr (some 0))), some (.inr (.inr (some 1))), some (.inr (.inr (some 95))), some (.inl x3)] [] D Q := by
  rw [seg239_696 (ha0 := rfl) (ha1 := ho1) (ha2 := ho95)]
  simp (disch := omega) only [cnB, cnX]
  refine (h (D 0 (x3 + 1)) (D 0 (x3 + 2)) (hS _) (hS _) D hI).mono ?_
  rintro v D1 ⟨r, rfl, e1, hw⟩
  simp only [Option.toList_some, List.cons_append, List.nil_append]
  rw [seg239_710 (ha0 := rfl) (ha1 := ho1) (ha2 := ho95)]
  simp (disch := omega) only [cnB, cnX, e1]
  refine hw.mono ?_
  rintro w D2 ⟨rfl, e2, hI2⟩
  simp only [Option.toList_some, List.cons_append, List.nil_append]
  rw [seg239_724 (ha0 := rfl) (ha1 := ho1) (ha2 := ho95)]
  exact ⟨fun _ => hn D2 hI2 e2, fun e => absurd rfl e⟩
theorem case17 (h : ∀ (z1 z2 z3 : Int), xinP z1 → xinP z2 → xinP z3 → xpr I 132 [some (.inr (.inr (some 1))), some (.inl z1), some (.inl z2), some (.inl z3)] 202 [some (.inr (.inr (some 95))), some (.inl z1), some (.inl z2), some (.inl z3)]) (hL : L ≤ 4096) (h0 : 0 ≤ x3) (h8 : x3 + 8 ≤ L) (hS : ∀ j, xinP (D 0 j)) (hI : I D) (hn : ∀ D2 : xD, I D2 → D2 0 = D 0 → WP 124 xF1 (some L) 239 1075 [some (.inr (.inr (some 0))), some (.inr (.inr (some 1))), some (.inr (.inr (some 95))), some (.inl x3)] [] D2 Q) : WP 124 xF1 (some L) 239 729 [some (.inr (.inr (some 0))), some (.inr (.inr (some 1))), some (.inr (.inr (some 95))), some (.inl x3)] [] D Q := by
  rw [seg239_729 (ha0 := rfl) (ha1 := ho1) (ha2 := ho95)]
  simp (disch := omega) only [cnB, cnX]
  refine (h (D 0 (x3 + 1)) (D 0 (x3 + 2)) (D 0 (x3 + 3)) (hS _) (hS _) (hS _) D hI).mono ?_
  rintro v D1 ⟨r, rfl, e1, hw⟩
  simp only [Option.toList_some, List.cons_append, List.nil_append]
  rw [seg239_748 (ha0 := rfl) (ha1 := ho1) (ha2 := ho95)]
  simp (disch := omega) only [cnB, cnX, e1]
  refine hw.mono ?_
  rintro w D2 ⟨rfl, e2, hI2⟩
  simp only [Option.toList_some, List.cons_append, List.nil_append]
  rw [seg239_767 (ha0 := rfl) (ha1 := ho1) (ha2 := ho95)]
  exact ⟨fun _ => hn D2 hI2 e2, fun e => absurd rfl e⟩
theorem case18 (h : ∀ (z1 z2 : Int), xinP z1 → xinP z2 → xpr I 133 [some (.inr (.inr (some 1))), some (.inl z1), some (.inl z2), none, none] 200 [some (.inr (.inr (some 95))), some (.inl z1), some (.inl z2), none, none, none]) (hL : L ≤ 4096) (h0 : 0 ≤ x3) (h8 : x3 + 8 ≤ L) (hS : ∀ j, xinP (D 0 j)) (hI : I D) (hn : ∀ D2 : xD, I D2 → D2 0 = D 0 → WP 124 xF1 (some L) 239 1075 [some (.inr (.inr (some 0))), some (.inr (.inr (some 1))), some (.inr (.inr (some 95))), some (.inl x3)] [] D2 Q) : WP 124 xF1 (some L) 239 772 [some (.inr (.inr (some 0))), some (.inr (.inr (some 1))), some (.inr (.inr (some 95))), some (.inl x3)] [] D Q := by
  rw [seg239_772 (ha0 := rfl) (ha1 := ho1) (ha2 := ho95)]
  simp (disch := omega) only [cnB, cnX]
  refine (h (D 0 (x3 + 1)) (D 0 (x3 + 2)) (hS _) (hS _) D hI).mono ?_
  rintro v D1 ⟨r, rfl, e1, hw⟩
  simp only [Option.toList_some, List.cons_append, List.nil_append]
  rw [seg239_786 (ha0 := rfl) (ha1 := ho1) (ha2 := ho95)]
  simp (disch := omega) only [cnB, cnX, e1]
  refine hw.mono ?_
  rintro w D2 ⟨rfl, e2, hI2⟩
  simp only [Option.toList_some, List.cons_append, List.nil_append]
  rw [seg239_800 (ha0 := rfl) (ha1 := ho1) (ha2 := ho95)]
  exact ⟨fun _ => hn D2 hI2 e2, fun e => absurd rfl e⟩
theorem case19 (h : ∀ (z1 z2 : Int), xinP z1 → xinP z2 → xpr I 134 [some (.inr (.inr (some 1))), some (.inl z1), some (.inl z2)] 217 [some (.inr (.inr (some 95))), some (.inl z1), some (.inl z2)]) (hL : L ≤ 4096) (h0 : 0 ≤ x3) (h8 : x3 + 8 ≤ L) (hS : ∀ j, xinP (D 0 j)) (hI : I D) (hn : ∀ D2 : xD, I D2 → D2 0 = D 0 → WP 124 xF1 (some L) 239 1075 [some (.inr (.inr (some 0))), some (.inr (.inr (some 1))), some (.inr (.inr (some 95))), some (.inl x3)] [] D2 Q) : WP 124 xF1 (some L) 239 805 [some (.inr (.inr (some 0))), some (.inr (.inr (some 1))), some (.inr (.inr (some 95))), some (.inl x3)] [] D Q := by
  rw [seg239_805 (ha0 := rfl) (ha1 := ho1) (ha2 := ho95)]
  simp (disch := omega) only [cnB, cnX]
  refine (h (D 0 (x3 + 1)) (D 0 (x3 + 2)) (hS _) (hS _) D hI).mono ?_
  rintro v D1 ⟨r, rfl, e1, hw⟩
  simp only [Option.toList_some, List.cons_append, List.nil_append]
  rw [seg239_819 (ha0 := rfl) (ha1 := ho1) (ha2 := ho95)]
  simp (disch := omega) only [cnB, cnX, e1]
  refine hw.mono ?_
  rintro w D2 ⟨rfl, e2, hI2⟩
  simp only [Option.toList_some, List.cons_append, List.nil_append]
  rw [seg239_833 (ha0 := rfl) (ha1 := ho1) (ha2 := ho95)]
  exact ⟨fun _ => hn D2 hI2 e2, fun e => absurd rfl e⟩
theorem case20 (h : ∀ (z1 z2 : Int), xinP z1 → xinP z2 → xpr I 135 [some (.inr (.inr (some 1))), some (.inl z1), some (.inl z2)] 224 [some (.inr (.inr (some 95))), some (.inl z1), some (.inl z2), none]) (hL : L ≤ 4096) (h0 : 0 ≤ x3) (h8 : x3 + 8 ≤ L) (hS : ∀ j, xinP (D 0 j)) (hI : I D) (hn : ∀ D2 : xD, I D2 → D2 0 = D 0 → WP 124 xF1 (some L) 239 1075 [some (.inr (.inr (some 0))), some (.inr (.inr (some 1))), some (.inr (.inr (some 95))), some (.inl x3)] [] D2 Q) : WP 124 xF1 (some L) 239 838 [some (.inr (.inr (some 0))), some (.inr (.inr (some 1))), some (.inr (.inr (some 95))), some (.inl x3)] [] D Q := by
  rw [seg239_838 (ha0 := rfl) (ha1 := ho1) (ha2 := ho95)]
  simp (disch := omega) only [cnB, cnX]
  refine (h (D 0 (x3 + 1)) (D 0 (x3 + 2)) (hS _) (hS _) D hI).mono ?_
  rintro v D1 ⟨r, rfl, e1, hw⟩
  simp only [Option.toList_some, List.cons_append, List.nil_append]
  rw [seg239_852 (ha0 := rfl) (ha1 := ho1) (ha2 := ho95)]
  simp (disch := omega) only [cnB, cnX, e1]
  refine hw.mono ?_
  rintro w D2 ⟨rfl, e2, hI2⟩
  simp only [Option.toList_some, List.cons_append, List.nil_append]
  rw [seg239_866 (ha0 := rfl) (ha1 := ho1) (ha2 := ho95)]
  exact ⟨fun _ => hn D2 hI2 e2, fun e => absurd rfl e⟩
theorem case21 (h : ∀ (z1 z2 z3 : Int), xinP z1 → xinP z2 → xinP z3 → xpr I 136 [some (.inr (.inr (some 1))), some (.inl z1), some (.inl z2), some (.inl z3)] 219 [some (.inr (.inr (some 95))), some (.inl z1), some (.inl z2), some (.inl z3), none]) (hL : L ≤ 4096) (h0 : 0 ≤ x3) (h8 : x3 + 8 ≤ L) (hS : ∀ j, xinP (D 0 j)) (hI : I D) (hn : ∀ D2 : xD, I D2 → D2 0 = D 0 → WP 124 xF1 (some L) 239 1075 [some (.inr (.inr (some 0))), some (.inr (.inr (some 1))), some (.inr (.inr (some 95))), some (.inl x3)] [] D2 Q) : WP 124 xF1 (some L) 239 871 [some (.inr (.inr (some 0))), some (.inr (.inr (some 1))), some (.inr (.inr (some 95))), some (.inl x3)] [] D Q := by
  rw [seg239_871 (ha0 := rfl) (ha1 := ho1) (ha2 := ho95)]
  simp (disch := omega) only [cnB, cnX]
  refine (h (D 0 (x3 + 1)) (D 0 (x3 + 2)) (D 0 (x3 + 3)) (hS _) (hS _) (hS _) D hI).mono ?_
  rintro v D1 ⟨r, rfl, e1, hw⟩
  simp only [Option.toList_some, List.cons_append, List.nil_append]
  rw [seg239_890 (ha0 := rfl) (ha1 := ho1) (ha2 := ho95)]
  simp (disch := omega) only [cnB, cnX, e1]
  refine hw.mono ?_
  rintro w D2 ⟨rfl, e2, hI2⟩
  simp only [Option.toList_some, List.cons_append, List.nil_append]
  rw [seg239_909 (ha0 := rfl) (ha1 := ho1) (ha2 := ho95)]
  exact ⟨fun _ => hn D2 hI2 e2, fun e => absurd rfl e⟩
theorem case22 (h : ∀ (z1 : Int), xinP z1 → xpr I 137 [some (.inr (.inr (some 1))), some (.inl z1)] 227 [some (.inr (.inr (some 95))), some (.inl z1), none, none]) (hL : L ≤ 4096) (h0 : 0 ≤ x3) (h8 : x3 + 8 ≤ L) (hS : ∀ j, xinP (D 0 j)) (hI : I D) (hn : ∀ D2 : xD, I D2 → D2 0 = D 0 → WP 124 xF1 (some L) 239 1075 [some (.inr (.inr (some 0))), some (.inr (.inr (some 1))), some (.inr (.inr (some 95))), some (.inl x3)] [] D2 Q) : WP 124 xF1 (some L) 239 914 [some (.inr (.inr (some 0))), some (.inr (.inr (some 1))), some (.inr (.inr (some 95))), some (.inl x3)] [] D Q := by
  rw [seg239_914 (ha0 := rfl) (ha1 := ho1) (ha2 := ho95)]
  simp (disch := omega) only [cnB, cnX]
  refine (h (D 0 (x3 + 1)) (hS _) D hI).mono ?_
  rintro v D1 ⟨r, rfl, e1, hw⟩
  simp only [Option.toList_some, List.cons_append, List.nil_append]
  rw [seg239_923 (ha0 := rfl) (ha1 := ho1) (ha2 := ho95)]
  simp (disch := omega) only [cnB, cnX, e1]
  refine hw.mono ?_
  rintro w D2 ⟨rfl, e2, hI2⟩
  simp only [Option.toList_some, List.cons_append, List.nil_append]
  rw [seg239_932 (ha0 := rfl) (ha1 := ho1) (ha2 := ho95)]
  exact ⟨fun _ => hn D2 hI2 e2, fun e => absurd rfl e⟩
theorem case23 (h : ∀ (z1 z2 z3 : Int), xinP z1 → xinP z2 → xinP z3 → xpr I 138 [some (.inr (.inr (some 1))), some (.inl z1), some (.inl z2), some (.inl z3)] 235 [some (.inr (.inr (some 95))), some (.inl z1), some (.inl z2), some (.inl z3), none]) (hL : L ≤ 4096) (h0 : 0 ≤ x3) (h8 : x3 + 8 ≤ L) (hS : ∀ j, xinP (D 0 j)) (hI : I D) (hn : ∀ D2 : xD, I D2 → D2 0 = D 0 → WP 124 xF1 (some L) 239 1075 [some (.inr (.inr (some 0))), some (.inr (.inr (some 1))), some (.inr (.inr (some 95))), some (.inl x3)] [] D2 Q) : WP 124 xF1 (some L) 239 937 [some (.inr (.inr (some 0))), some (.inr (.inr (some 1))), some (.inr (.inr (some 95))), some (.inl x3)] [] D Q := by
  rw [seg239_937 (ha0 := rfl) (ha1 := ho1) (ha2 := ho95)]
  simp (disch := omega) only [cnB, cnX]
  refine (h (D 0 (x3 + 1)) (D 0 (x3 + 2)) (D 0 (x3 + 3)) (hS _) (hS _) (hS _) D hI).mono ?_
  rintro v D1 ⟨r, rfl, e1, hw⟩
  simp only [Option.toList_some, List.cons_append, List.nil_append]
  rw [seg239_956 (ha0 := rfl) (ha1 := ho1) (ha2 := ho95)]
  simp (disch := omega) only [cnB, cnX, e1]
  refine hw.mono ?_
  rintro w D2 ⟨rfl, e2, hI2⟩
  simp only [Option.toList_some, List.cons_append, List.nil_append]
  rw [seg239_975 (ha0 := rfl) (ha1 := ho1) (ha2 := ho95)]
  exact ⟨fun _ => hn D2 hI2 e2, fun e => absurd rfl e⟩
theorem case24 (h : ∀ (z1 : Int), xinP z1 → xpr I 139 [some (.inr (.inr (some 1))), some (.inl z1), none] 229 [some (.inr (.inr (some 95))), some (.inl z1), none, none, none]) (hL : L ≤ 4096) (h0 : 0 ≤ x3) (h8 : x3 + 8 ≤ L) (hS : ∀ j, xinP (D 0 j)) (hI : I D) (hn : ∀ D2 : xD, I D2 → D2 0 = D 0 → WP 124 xF1 (some L) 239 1075 [some (.inr (.inr (some 0))), some (.inr (.inr (some 1))), some (.inr (.inr (some 95))), some (.inl x3)] [] D2 Q) : WP 124 xF1 (some L) 239 980 [some (.inr (.inr (some 0))), some (.inr (.inr (some 1))), some (.inr (.inr (some 95))), some (.inl x3)] [] D Q := by
  rw [seg239_980 (ha0 := rfl) (ha1 := ho1) (ha2 := ho95)]
  simp (disch := omega) only [cnB, cnX]
  refine (h (D 0 (x3 + 1)) (hS _) D hI).mono ?_
  rintro v D1 ⟨r, rfl, e1, hw⟩
  simp only [Option.toList_some, List.cons_append, List.nil_append]
  rw [seg239_989 (ha0 := rfl) (ha1 := ho1) (ha2 := ho95)]
  simp (disch := omega) only [cnB, cnX, e1]
  refine hw.mono ?_
  rintro w D2 ⟨rfl, e2, hI2⟩
  simp only [Option.toList_some, List.cons_append, List.nil_append]
  rw [seg239_998 (ha0 := rfl) (ha1 := ho1) (ha2 := ho95)]
  exact ⟨fun _ => hn D2 hI2 e2, fun e => absurd rfl e⟩
theorem case25 (h : ∀ (z1 : Int), xinP z1 → xpr I 140 [some (.inr (.inr (some 1))), some (.inl z1)] 234 [some (.inr (.inr (some 95))), some (.inl z1), none]) (hL : L ≤ 4096) (h0 : 0 ≤ x3) (h8 : x3 + 8 ≤ L) (hS : ∀ j, xinP (D 0 j)) (hI : I D) (hn : ∀ D2 : xD, I D2 → D2 0 = D 0 → WP 124 xF1 (some L) 239 1075 [some (.inr (.inr (some 0))), some (.inr (.inr (some 1))), some (.inr (.inr (some 95))), some (.inl x3)] [] D2 Q) : WP 124 xF1 (some L) 239 1003 [some (.inr (.inr (some 0))), some (.inr (.inr (some 1))), some (.inr (.inr (some 95))), some (.inl x3)] [] D Q := by
  rw [seg239_1003 (ha0 := rfl) (ha1 := ho1) (ha2 := ho95)]
  simp (disch := omega) only [cnB, cnX]
  refine (h (D 0 (x3 + 1)) (hS _) D hI).mono ?_
  rintro v D1 ⟨r, rfl, e1, hw⟩
  simp only [Option.toList_some, List.cons_append, List.nil_append]
  rw [seg239_1012 (ha0 := rfl) (ha1 := ho1) (ha2 := ho95)]
  simp (disch := omega) only [cnB, cnX, e1]
  refine hw.mono ?_
  rintro w D2 ⟨rfl, e2, hI2⟩
  simp only [Option.toList_some, List.cons_append, List.nil_append]
  rw [seg239_1021 (ha0 := rfl) (ha1 := ho1) (ha2 := ho95)]
  exact ⟨fun _ => hn D2 hI2 e2, fun e => absurd rfl e⟩
theorem case26 (h : xpr I 141 [some (.inr (.inr (some 1)))] 236 [some (.inr (.inr (some 95)))]) (hL : L ≤ 4096) (h0 : 0 ≤ x3) (h8 : x3 + 8 ≤ L) (hS : ∀ j, xinP (D 0 j)) (hI : I D) (hn : ∀ D2 : xD, I D2 → D2 0 = D 0 → WP 124 xF1 (some L) 239 1075 [some (.inr (.inr (some 0))), some (.inr (.inr (some 1))), some (.inr (.inr (some 95))), some (.inl x3)] [] D2 Q) : WP 124 xF1 (some L) 239 1026 [some (.inr (.inr (some 0))), some (.inr (.inr (some 1))), some (.inr (.inr (some 95))), some (.inl x3)] [] D Q := by
  rw [seg239_1026 (ha0 := rfl) (ha1 := ho1) (ha2 := ho95)]
  skip
  refine (h D hI).mono ?_
  rintro v D1 ⟨r, rfl, e1, hw⟩
  simp only [Option.toList_some, List.cons_append, List.nil_append]
  rw [seg239_1030 (ha0 := rfl) (ha1 := ho1) (ha2 := ho95)]
  skip
  refine hw.mono ?_
  rintro w D2 ⟨rfl, e2, hI2⟩
  simp only [Option.toList_some, List.cons_append, List.nil_append]
  rw [seg239_1034 (ha0 := rfl) (ha1 := ho1) (ha2 := ho95)]
  exact ⟨fun _ => hn D2 hI2 e2, fun e => absurd rfl e⟩
theorem case27 (h : xpr I 142 [some (.inr (.inr (some 1)))] 237 [some (.inr (.inr (some 95)))]) (hL : L ≤ 4096) (h0 : 0 ≤ x3) (h8 : x3 + 8 ≤ L) (hS : ∀ j, xinP (D 0 j)) (hI : I D) (hn : ∀ D2 : xD, I D2 → D2 0 = D 0 → WP 124 xF1 (some L) 239 1075 [some (.inr (.inr (some 0))), some (.inr (.inr (some 1))), some (.inr (.inr (some 95))), some (.inl x3)] [] D2 Q) : WP 124 xF1 (some L) 239 1039 [some (.inr (.inr (some 0))), some (.inr (.inr (some 1))), some (.inr (.inr (some 95))), some (.inl x3)] [] D Q := by
  rw [seg239_1039 (ha0 := rfl) (ha1 := ho1) (ha2 := ho95)]
  skip
  refine (h D hI).mono ?_
  rintro v D1 ⟨r, rfl, e1, hw⟩
  simp only [Option.toList_some, List.cons_append, List.nil_append]
  rw [seg239_1043 (ha0 := rfl) (ha1 := ho1) (ha2 := ho95)]
  skip
  refine hw.mono ?_
  rintro w D2 ⟨rfl, e2, hI2⟩
  simp only [Option.toList_some, List.cons_append, List.nil_append]
  rw [seg239_1047 (ha0 := rfl) (ha1 := ho1) (ha2 := ho95)]
  exact ⟨fun _ => hn D2 hI2 e2, fun e => absurd rfl e⟩
theorem case28 (h : ∀ (z1 : Int), xinP z1 → xpr I 143 [some (.inr (.inr (some 1))), some (.inl z1)] 238 [some (.inr (.inr (some 95))), some (.inl z1)]) (hL : L ≤ 4096) (h0 : 0 ≤ x3) (h8 : x3 + 8 ≤ L) (hS : ∀ j, xinP (D 0 j)) (hI : I D) (hn : ∀ D2 : xD, I D2 → D2 0 = D 0 → WP 124 xF1 (some L) 239 1075 [some (.inr (.inr (some 0))), some (.inr (.inr (some 1))), some (.inr (.inr (some 95))), some (.inl x3)] [] D2 Q) : WP 124 xF1 (some L) 239 1052 [some (.inr (.inr (some 0))), some (.inr (.inr (some 1))), some (.inr (.inr (some 95))), some (.inl x3)] [] D Q := by
  rw [seg239_1052 (ha0 := rfl) (ha1 := ho1) (ha2 := ho95)]
  simp (disch := omega) only [cnB, cnX]
  refine (h (D 0 (x3 + 1)) (hS _) D hI).mono ?_
  rintro v D1 ⟨r, rfl, e1, hw⟩
  simp only [Option.toList_some, List.cons_append, List.nil_append]
  rw [seg239_1061 (ha0 := rfl) (ha1 := ho1) (ha2 := ho95)]
  simp (disch := omega) only [cnB, cnX, e1]
  refine hw.mono ?_
  rintro w D2 ⟨rfl, e2, hI2⟩
  simp only [Option.toList_some, List.cons_append, List.nil_append]
  rw [seg239_1070 (ha0 := rfl) (ha1 := ho1) (ha2 := ho95)]
  exact ⟨fun _ => hn D2 hI2 e2, fun e => absurd rfl e⟩
theorem sw31 {v : Int} (hv : xinP v) : 0 ≤ iand v 31 ∧ iand v 31 ≤ 31 := by
  have e : (Int32.ofInt v &&& Int32.ofInt 31).toBitVec = (Int32.ofInt v).toBitVec &&& 31#32 := rfl
  show 0 ≤ ((Int32.ofInt v &&& Int32.ofInt 31).toBitVec).toInt ∧ ((Int32.ofInt v &&& Int32.ofInt 31).toBitVec).toInt ≤ 31
  rw [e]
  have h : ((Int32.ofInt v).toBitVec &&& 31#32).toNat ≤ 31 := by
    rw [BitVec.toNat_and]
    exact Nat.and_le_right
  rw [BitVec.toInt_eq_toNat_of_lt (by omega)]
  omega
theorem law_of (hL : L ≤ 4096) (p0 : ∀ (z1 z2 z3 z4 z5 : Int), xinP z1 → xinP z2 → xinP z3 → xinP z4 → xinP z5 → xpr I 112 [some (.inr (.inr (some 1))), some (.inl z1), some (.inl z2), some (.inl z3), some (.inl z4), some (.inl z5)] 152 [some (.inr (.inr (some 95))), some (.inl z1), some (.inl z2), some (.inl z3), some (.inl z4), some (.inl z5)]) (p1 : ∀ (z1 : Int), xinP z1 → xpr I 114 [some (.inr (.inr (some 1))), some (.inl z1)] 153 [some (.inr (.inr (some 95))), some (.inl z1)]) (p2 : xpr I 115 [some (.inr (.inr (some 1)))] 172 [some (.inr (.inr (some 95)))]) (p3 : ∀ (z1 : Int), xinP z1 → xpr I 117 [some (.inr (.inr (some 1))), some (.inl z1)] 173 [some (.inr (.inr (some 95))), some (.inl z1)]) (p4 : ∀ (z1 z2 : Int), xinP z1 → xinP z2 → xpr I 118 [some (.inr (.inr (some 1))), some (.inl z1), some (.inl z2), none] 180 [some (.inr (.inr (some 95))), some (.inl z1), some (.inl z2)]) (p5 : ∀ (z1 z2 : Int), xinP z1 → xinP z2 → xpr I 119 [some (.inr (.inr (some 1))), some (.inl z1), some (.inl z2)] 182 [some (.inr (.inr (some 95))), some (.inl z1), some (.inl z2)]) (p6 : ∀ (z1 : Int), xinP z1 → xpr I 120 [some (.inr (.inr (some 1))), some (.inl z1)] 184 [some (.inr (.inr (some 95))), some (.inl z1), none, none]) (p7 : ∀ (z1 : Int), xinP z1 → xpr I 121 [some (.inr (.inr (some 1))), some (.inl z1)] 191 [some (.inr (.inr (some 95))), some (.inl z1)]) (p8 : ∀ (z1 z2 z3 : Int), xinP z1 → xinP z2 → xinP z3 → xpr I 122 [some (.inr (.inr (some 1))), some (.inl z1), some (.inl z2), some (.inl z3)] 192 [some (.inr (.inr (some 95))), some (.inl z1), some (.inl z2), some (.inl z3)]) (p9 : xpr I 123 [some (.inr (.inr (some 1)))] 194 [some (.inr (.inr (some 95)))]) (p10 : ∀ (z1 z2 : Int), xinP z1 → xinP z2 → xpr I 124 [some (.inr (.inr (some 1))), some (.inl z1), some (.inl z2)] 197 [some (.inr (.inr (some 95))), some (.inl z1), some (.inl z2), none, none, none, none]) (p11 : ∀ (z1 : Int), xinP z1 → xpr I 125 [some (.inr (.inr (some 1))), some (.inl z1)] 198 [some (.inr (.inr (some 95))), some (.inl z1), none, none, none, none, none, none, none]) (p12 : ∀ (z1 z2 : Int), xinP z1 → xinP z2 → xpr I 126 [some (.inr (.inr (some 1))), some (.inl z1), some (.inl z2)] 199 [some (.inr (.inr (some 95))), some (.inl z1), some (.inl z2), none, none, none, none, none]) (p13 : ∀ (z1 z2 z3 : Int), xinP z1 → xinP z2 → xinP z3 → xpr I 127 [some (.inr (.inr (some 1))), some (.inl z1), some (.inl z2), some (.inl z3)] 201 [some (.inr (.inr (some 95))), some (.inl z1), some (.inl z2), some (.inl z3)]) (p14 : ∀ (z1 : Int), xinP z1 → xpr I 128 [some (.inr (.inr (some 1))), some (.inl z1), none, none] 216 [some (.inr (.inr (some 95))), some (.inl z1), none, none]) (p15 : ∀ (z1 z2 z3 z4 z5 z6 z7 : Int), xinP z1 → xinP z2 → xinP z3 → xinP z4 → xinP z5 → xinP z6 → xinP z7 → xpr I 129 [some (.inr (.inr (some 1))), some (.inl z1), some (.inl z2), some (.inl z3), some (.inl z4), some (.inl z5), some (.inl z6), some (.inl z7), none] 203 [some (.inr (.inr (some 95))), some (.inl z1), some (.inl z2), some (.inl z3), some (.inl z4), some (.inl z5), some (.inl z6), some (.inl z7), none, none, none]) (p16 : ∀ (z1 z2 : Int), xinP z1 → xinP z2 → xpr I 131 [some (.inr (.inr (some 1))), some (.inl z1), some (.inl z2)] 206 [some (.inr (.inr (some 95))), some (.inl z1), some (.inl z2), none]) (p17 : ∀ (z1 z2 z3 : Int), xinP z1 → xinP z2 → xinP z3 → xpr I 132 [some (.inr (.inr (some 1))), some (.inl z1), some (.inl z2), some (.inl z3)] 202 [some (.inr (.inr (some 95))), some (.inl z1), some (.inl z2), some (.inl z3)]) (p18 : ∀ (z1 z2 : Int), xinP z1 → xinP z2 → xpr I 133 [some (.inr (.inr (some 1))), some (.inl z1), some (.inl z2), none, none] 200 [some (.inr (.inr (some 95))), some (.inl z1), some (.inl z2), none, none, none]) (p19 : ∀ (z1 z2 : Int), xinP z1 → xinP z2 → xpr I 134 [some (.inr (.inr (some 1))), some (.inl z1), some (.inl z2)] 217 [some (.inr (.inr (some 95))), some (.inl z1), some (.inl z2)]) (p20 : ∀ (z1 z2 : Int), xinP z1 → xinP z2 → xpr I 135 [some (.inr (.inr (some 1))), some (.inl z1), some (.inl z2)] 224 [some (.inr (.inr (some 95))), some (.inl z1), some (.inl z2), none]) (p21 : ∀ (z1 z2 z3 : Int), xinP z1 → xinP z2 → xinP z3 → xpr I 136 [some (.inr (.inr (some 1))), some (.inl z1), some (.inl z2), some (.inl z3)] 219 [some (.inr (.inr (some 95))), some (.inl z1), some (.inl z2), some (.inl z3), none]) (p22 : ∀ (z1 : Int), xinP z1 → xpr I 137 [some (.inr (.inr (some 1))), some (.inl z1)] 227 [some (.inr (.inr (some 95))), some (.inl z1), none, none]) (p23 : ∀ (z1 z2 z3 : Int), xinP z1 → xinP z2 → xinP z3 → xpr I 138 [some (.inr (.inr (some 1))), some (.inl z1), some (.inl z2), some (.inl z3)] 235 [some (.inr (.inr (some 95))), some (.inl z1), some (.inl z2), some (.inl z3), none]) (p24 : ∀ (z1 : Int), xinP z1 → xpr I 139 [some (.inr (.inr (some 1))), some (.inl z1), none] 229 [some (.inr (.inr (some 95))), some (.inl z1), none, none, none]) (p25 : ∀ (z1 : Int), xinP z1 → xpr I 140 [some (.inr (.inr (some 1))), some (.inl z1)] 234 [some (.inr (.inr (some 95))), some (.inl z1), none]) (p26 : xpr I 141 [some (.inr (.inr (some 1)))] 236 [some (.inr (.inr (some 95)))]) (p27 : xpr I 142 [some (.inr (.inr (some 1)))] 237 [some (.inr (.inr (some 95)))]) (p28 : ∀ (z1 : Int), xinP z1 → xpr I 143 [some (.inr (.inr (some 1))), some (.inl z1)] 238 [some (.inr (.inr (some 95))), some (.inl z1)]) : ∀ (k : Nat) (x3 : Int) (D : xD), L ≤ x3 + k → 0 ≤ x3 → x3 ≤ L + 8 → (∀ j, xinP (D 0 j)) → I D → (∀ D2 : xD, Q (some (.inl 1)) D2) → WP 124 xF1 (some L) 239 18 [some (.inr (.inr (some 0))), some (.inr (.inr (some 1))), some (.inr (.inr (some 95))), some (.inl x3)] [] D Q := by
  intro k
  induction k with
  | zero =>
    intro x3 D h1 h2 h3 hS hI hQ
    rw [seg239_18 (ha0 := rfl) (ha1 := ho1) (ha2 := ho95)]
    refine ⟨by omega, by omega, fun _ => hQ D, fun z => absurd (show (L : Int) - 8 < x3 by omega) z⟩
  | succ k ih =>
    intro x3 D h1 h2 h3 hS hI hQ
    rw [seg239_18 (ha0 := rfl) (ha1 := ho1) (ha2 := ho95)]
    refine ⟨by omega, by omega, fun _ => hQ D, fun z => ⟨by omega, ?_⟩⟩
    have hn : ∀ D2 : xD, I D2 → D2 0 = D 0 → WP 124 xF1 (some L) 239 1075 [some (.inr (.inr (some 0))), some (.inr (.inr (some 1))), some (.inr (.inr (some 95))), some (.inl x3)] [] D2 Q := by
      intro D2 hI2 e2
      rw [seg239_1075 (ha0 := rfl) (ha1 := ho1) (ha2 := ho95)]
      exact ⟨by omega, ih (x3 + 8) D2 (by omega) (by omega) (by omega) (fun j => by rw [e2]; exact hS j) hI2 hQ⟩
    have hsw := sw31 (hS x3)
    generalize hw : iand (D 0 x3) 31 = w at hsw ⊢
    have hw2 : w = 0 ∨ w = 1 ∨ w = 2 ∨ w = 3 ∨ w = 4 ∨ w = 5 ∨ w = 6 ∨ w = 7 ∨ w = 8 ∨ w = 9 ∨ w = 10 ∨ w = 11 ∨ w = 12 ∨ w = 13 ∨ w = 14 ∨ w = 15 ∨ w = 16 ∨ w = 17 ∨ w = 18 ∨ w = 19 ∨ w = 20 ∨ w = 21 ∨ w = 22 ∨ w = 23 ∨ w = 24 ∨ w = 25 ∨ w = 26 ∨ w = 27 ∨ w = 28 ∨ w = 29 ∨ w = 30 ∨ w = 31 := by omega
    rcases hw2 with rfl | rfl | rfl | rfl | rfl | rfl | rfl | rfl | rfl | rfl | rfl | rfl | rfl | rfl | rfl | rfl | rfl | rfl | rfl | rfl | rfl | rfl | rfl | rfl | rfl | rfl | rfl | rfl | rfl | rfl | rfl | rfl
    · exact case0 p0 hL h2 (by omega) hS hI hn
    · exact case1 p1 hL h2 (by omega) hS hI hn
    · exact case2 p2 hL h2 (by omega) hS hI hn
    · exact case3 p3 hL h2 (by omega) hS hI hn
    · exact case4 p4 hL h2 (by omega) hS hI hn
    · exact case5 p5 hL h2 (by omega) hS hI hn
    · exact case6 p6 hL h2 (by omega) hS hI hn
    · exact case7 p7 hL h2 (by omega) hS hI hn
    · exact case8 p8 hL h2 (by omega) hS hI hn
    · exact case9 p9 hL h2 (by omega) hS hI hn
    · exact case10 p10 hL h2 (by omega) hS hI hn
    · exact case11 p11 hL h2 (by omega) hS hI hn
    · exact case12 p12 hL h2 (by omega) hS hI hn
    · exact case13 p13 hL h2 (by omega) hS hI hn
    · exact case14 p14 hL h2 (by omega) hS hI hn
    · exact case15 p15 hL h2 (by omega) hS hI hn
    · exact case16 p16 hL h2 (by omega) hS hI hn
    · exact case17 p17 hL h2 (by omega) hS hI hn
    · exact case18 p18 hL h2 (by omega) hS hI hn
    · exact case19 p19 hL h2 (by omega) hS hI hn
    · exact case20 p20 hL h2 (by omega) hS hI hn
    · exact case21 p21 hL h2 (by omega) hS hI hn
    · exact case22 p22 hL h2 (by omega) hS hI hn
    · exact case23 p23 hL h2 (by omega) hS hI hn
    · exact case24 p24 hL h2 (by omega) hS hI hn
    · exact case25 p25 hL h2 (by omega) hS hI hn
    · exact case26 p26 hL h2 (by omega) hS hI hn
    · exact case27 p27 hL h2 (by omega) hS hI hn
    · exact case28 p28 hL h2 (by omega) hS hI hn
    · exact hn D hI rfl
    · exact hn D hI rfl
    · exact hn D hI rfl
end M35
