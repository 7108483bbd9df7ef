/-! outs: both sides, the wider street -/
def foC (G : Int → Int) : Nat → Int × Int
  | 0 => (-1, -1)
  | n + 1 => if G n ≤ 0 then foC G n else if G n ≤ (foC G n).2 then foC G n else ((n : Int), G n)
def foM (G : Int → Int) : Nat → Int × Int
  | 0 => (-1, 0)
  | n + 1 => if (foM G n).2 < G n then ((n : Int), G n) else foM G n
section M95
variable {K2 : (Int → Int) → Int → Int → Int → (Int → Int) → (Int → Int) → Prop}
variable {E x1 x2 x3 x4 n m h t F z s B wd wh : Int} {D D' D1 D2 : xD} {T w c c' r p b y G G' : Int → Int} {o1 o2 o3 o4 o5 : Option xv} {V : (Int → Int → Int → Int → Int) → Int} {Q : Option xv → xD → Prop}
theorem fo_cg : ∀ n : Nat, (∀ s, 0 ≤ s → s < (n : Int) → G' s = G s) → foC G' n = foC G n ∧ foM G' n = foM G n := by
  intro n
  induction n with
  | zero => intro _; exact ⟨rfl, rfl⟩
  | succ n ih =>
    intro h
    obtain ⟨i1, i2⟩ := ih (fun s s1 s2 => h s s1 (by omega))
    simp only [foC, foM]
    rw [i1, i2, h n (by omega) (by omega)]
    exact ⟨rfl, rfl⟩
theorem fo_eq : ∀ n : Nat, ((foM G n).1 < 0 ∧ (foM G n).2 = 0 ∧ foC G n = (-1, -1)) ∨ (0 ≤ (foM G n).1 ∧ 0 < (foM G n).2 ∧ foC G n = foM G n) := by
  intro n
  induction n with
  | zero => exact .inl ⟨(by decide : (-1 : Int) < 0), rfl, rfl⟩
  | succ n ih =>
    simp only [foC, foM]
    rcases ih with ⟨a1, a2, a3⟩ | ⟨a1, a2, a3⟩
    · rw [a3, a2]
      by_cases c : G n ≤ 0
      · rw [if_pos c, if_neg (by omega)]
        exact .inl ⟨a1, a2, rfl⟩
      · rw [if_neg c, if_neg (show ¬ G n ≤ (-1 : Int) by omega), if_pos (by omega)]
        exact .inr ⟨by show 0 ≤ (n : Int); omega, by show 0 < G n; omega, rfl⟩
    · rw [a3]
      by_cases c : G n ≤ (foM G n).2
      · rw [if_pos c, if_neg (by omega), ite_self]
        exact .inr ⟨a1, a2, rfl⟩
      · rw [if_neg (show ¬ G n ≤ 0 by omega), if_neg c, if_pos (show (foM G n).2 < G n by omega)]
        exact .inr ⟨by show 0 ≤ (n : Int); omega, by show 0 < G n; omega, rfl⟩
theorem cl_cg (hF : ∀ a, 57 ≤ a → a ≤ 62 → a ≠ 61 → D' a = D a) (hR : ∀ j, 0 ≤ j → j < D 57 0 → D' 61 j = D 61 j) (hc : clI D c h F V) : clI D' c h F V := by
  obtain ⟨hN, hI, hb, h0⟩ := hc
  have e57 := hF 57 (by decide) (by decide) (by decide)
  have e60 := hF 60 (by decide) (by decide) (by decide)
  have hE := hN.1
  refine ⟨?_, ⟨fun e q1 q2 => ?_, fun e q1 q2 q3 q4 => ?_, fun y => ?_⟩, by rw [e57]; exact hb, h0⟩
  · unfold nsI at *
    rw [e57, e60, hF 58 (by decide) (by decide) (by decide), hF 59 (by decide) (by decide) (by decide), hF 62 (by decide) (by decide) (by decide)]
    exact hN
  · rw [e57] at q2
    have pp := prI_rg ⟨hE.1, hE.2.2⟩ ⟨q1, q2⟩
    rw [hR e q1 q2, hR _ pp.1 pp.2]; exact hI.1 e q1 q2
  · rw [e57] at q2
    have q4 : (alH h (D' 60 (prI e)) && alH h (D' 60 e)) = false := q4
    rw [e60] at q4
    rw [hR e q1 q2]; exact hI.2.1 e q1 q2 q3 q4
  · rw [← hI.2.2 y, e57, e60]
    unfold flL
    exact smI_congr _ _ (fun k k1 k2 => by rw [hR _ (by omega) (by omega)])
theorem nc_99 (hT : tnW T) (hw : 0 ≤ wh ∧ wh ≤ 2) (hI : ncI D (csS T wh) 1016) : ∀ k, 0 ≤ k → 2 * k < D 57 0 → cPr (D 61) (2 * k) ≤ 99 := by
  intro k k1 k2
  obtain ⟨hN, hr⟩ := ns_of hT hw hI
  have e0 := hN.1
  have h0 := hN.2.2.1 (fun a b c l => if c ≤ 99 then 0 else 1)
  rw [cs_all2 hT hw (fun a b c l h => by show (if c ≤ 99 then (0 : Int) else 1) = 0; rw [if_pos h])] at h0
  have h1 := sm_all (f := fun k => if cPr (D 61) (2 * k) ≤ 99 then 0 else 1) (D 57 0 / 2).toNat 0 (fun j => by show 0 ≤ (if _ then (0 : Int) else 1); split <;> decide) h0 k k1 (by omega)
  have h1 : (if cPr (D 61) (2 * k) ≤ 99 then (0 : Int) else 1) = 0 := h1
  by_cases q : cPr (D 61) (2 * k) ≤ 99
  · exact q
  · rw [if_neg q] at h1; exact absurd h1 (by decide)
def wdF (D' D : xD) : Prop := (∀ a, a ≠ 56 → a ≠ 61 → a ≠ 65 → a ≠ 66 → D' a = D a) ∧ ∀ j, j ≠ 12 → j ≠ 13 → D' 56 j = D 56 j
theorem l56 (hT : tnW T) (hh : 0 ≤ x2 ∧ x2 ≤ 12) (h4 : D 4 11 = T 0) (hc : clI D c x2 F (csS T 0)) (h99 : ∀ k, 0 ≤ k → 2 * k < D 57 0 → c (2 * k) ≤ 99) (h64 : ∀ j, 0 ≤ j → j < D 57 0 → D 64 j = D 61 j)
    (hq : ∀ (D' : xD) G, wdF D' D → (∀ s, 0 ≤ s → s < T 0 → opT 0 1 (mdl T (fun _ => 1) s 0 x2) (F + G s)) → D' 56 12 = (foC G (T 0).toNat).1 → D' 56 13 = (foC G (T 0).toNat).2 → Q none D') :
    ∀ (k n : Nat) (D' : xD) (o4 : Option xv) (G : Int → Int), T 0 = n + k → wdF D' D → (∀ s, 0 ≤ s → s < (n : Int) → opT 0 1 (mdl T (fun _ => 1) s 0 x2) (F + G s)) → D' 56 12 = (foC G n).1 → D' 56 13 = (foC G n).2 → WP 124 xF1 none 56 44 [some (.inr (.inr (some 56))), some (.inr (.inr (some 3))), some (.inl x2), some (.inl (n : Int)), o4] [] D' Q := by
  have w0 := hT.1
  have hN := hc.1
  have hE := hN.1
  intro k
  induction k with
  | zero =>
    intro n D' o4 G h1 h2 h3 h5 h6
    have e4 := h2.1 4 (by decide) (by decide) (by decide) (by decide)
    rw [seg56_44 (ha0 := ho56) (ha1 := ho3)]
    simp only [Nat.reduceAdd]
    rw [e4, h4, brT (by omega)]
    refine hq D' G h2 (fun s s1 s2 => h3 s s1 (by omega)) ?_ ?_
    · rw [show (T 0).toNat = n by omega]; exact h5
    · rw [show (T 0).toNat = n by omega]; exact h6
  | succ k ih =>
    intro n D' o4 G h1 h2 h3 h5 h6
    have e4 := h2.1 4 (by decide) (by decide) (by decide) (by decide)
    have e57 := h2.1 57 (by decide) (by decide) (by decide) (by decide)
    have e64 := h2.1 64 (by decide) (by decide) (by decide) (by decide)
    rw [seg56_44 (ha0 := ho56) (ha1 := ho3)]
    simp only [Nat.reduceAdd]
    rw [e4, h4, brF (by omega), seg34_0 (ha0 := ho57), e57]
    refine ⟨by omega, ?_⟩
    simp only [Option.toList_some, Option.toList_none, List.cons_append, List.nil_append, Nat.reduceAdd]
    obtain ⟨D2, hD2⟩ : ∃ D2, D2 = xcpy D' 64 61 0 0 (D 57 0) := ⟨_, rfl⟩
    rw [← hD2]
    have f2 : ∀ a, a ≠ 61 → D2 a = D' a := fun a ha => by rw [hD2, cpy_ne ha]
    have g2 : ∀ j, 0 ≤ j → j < D 57 0 → D2 61 j = D 61 j := fun j j1 j2 => by rw [hD2, cpy_in ⟨j1, j2⟩, e64, h64 j j1 j2]
    clear hD2
    have c2 : clI D2 c x2 F (csS T 0) := cl_cg (fun a a1 a2 a3 => by rw [f2 a a3]; exact h2.1 a (by omega) a3 (by omega) (by omega)) g2 hc
    have e57' : D2 57 = D 57 := by rw [f2 57 (by decide), e57]
    rw [seg56_62 (ha0 := ho56) (ha1 := ho3)]
    simp only [Nat.reduceAdd]
    refine m35 c2.1.1 (cl_rm c2) (fun D3 f3 g3 => ?_)
    simp only [Option.toList_some, Option.toList_none, List.cons_append, List.nil_append, Nat.reduceAdd]
    obtain ⟨V', c3, cc⟩ := cl_wide c2.1 (by rw [e57']; exact h99) c2 f3 g3
    have e3 : D3 57 = D2 57 := f3 57 (by decide)
    have e3b : D3 60 = D2 60 := f3 60 (by decide)
    have e3c : D3 62 = D2 62 := f3 62 (by decide)
    have du : ∀ w y, duD D3 w (cPr (D3 61)) x2 y = csS T 0 (cfY w n x2 y) := fun w y => by
      unfold duD
      rw [e3, e3b, e3c]
      exact du_wi c2.1 cc (by omega)
    have W3 : duD D3 (fun _ => 0) (cPr (D3 61)) x2 inS ≤ 99 := by rw [du]; exact in_99 hT (by decide)
    rw [seg56_70 (ha0 := ho56) (ha1 := ho3)]
    simp only [Nat.reduceAdd]
    refine m36 c3 W3 (fun D4 F' g41 g42 g43 g44 => ?_)
    simp only [Option.toList_some, Option.toList_none, List.cons_append, List.nil_append, Nat.reduceAdd]
    have op := cl_opt g42 g44
    rw [show duD D4 (fun _ => 1) (cPr (D3 61)) x2 = fun y => csS T 0 (cfY (fun _ => 1) n x2 y) from funext (fun y => by rw [du_fr g41, du])] at op
    have op2 := op_cm hT hh (by decide) (fun z => absurd z (by decide)) (by omega) op
    have F4 : ∀ a, a ≠ 61 → a ≠ 65 → a ≠ 66 → D4 a = D' a := fun a a1 a2 a3 => by rw [g41 a a1 a2 a3, f3 a a1, f2 a a1]
    have e56 : D4 56 = D' 56 := F4 56 (by decide) (by decide) (by decide)
    obtain ⟨G2, hG2⟩ : ∃ G2 : Int → Int, G2 = fun s : Int => if s = (n : Int) then F' - F else G s := ⟨_, rfl⟩
    have Gn : G2 n = F' - F := by rw [hG2]; show (if (n : Int) = n then F' - F else G n) = _; rw [if_pos rfl]
    have Gs : ∀ s, 0 ≤ s → s < (n : Int) → G2 s = G s := fun s s1 s2 => by rw [hG2]; show (if s = n then F' - F else G s) = _; rw [if_neg (by omega)]
    have cg := (fo_cg n Gs).1
    have h3' : ∀ s, 0 ≤ s → s < ((n + 1 : Nat) : Int) → opT 0 1 (mdl T (fun _ => 1) s 0 x2) (F + G2 s) := fun s s1 s2 => by
      by_cases cs : s = n
      · rw [cs, Gn, show F + (F' - F) = F' by omega]; exact op2
      · rw [Gs s s1 (by omega)]; exact h3 s s1 (by omega)
    have W4 : wdF D4 D := ⟨fun a a1 a2 a3 a4 => by rw [F4 a a2 a3 a4]; exact h2.1 a a1 a2 a3 a4, fun j j1 j2 => by rw [e56]; exact h2.2 j j1 j2⟩
    have nx : ∀ D5 : xD, wdF D5 D → D5 56 12 = (foC G2 (n + 1)).1 → D5 56 13 = (foC G2 (n + 1)).2 → WP 124 xF1 none 56 105 [some (.inr (.inr (some 56))), some (.inr (.inr (some 3))), some (.inl x2), some (.inl (n : Int)), some (.inl (F' - F))] [] D5 Q := by
      intro D5 k1 k2 k3
      rw [seg56_105 (ha0 := ho56) (ha1 := ho3), cnX (by omega), show (n : Int) + 1 = ((n + 1 : Nat) : Int) by omega]
      exact ih (n + 1) D5 _ G2 (by omega) k1 h3' k2 k3
    rw [seg56_78 (ha0 := ho56) (ha1 := ho3)]
    simp only [foC] at nx
    rw [cg, Gn] at nx
    by_cases c1 : F' - F ≤ 0
    · rw [brT c1]
      rw [if_pos c1] at nx
      exact nx D4 W4 (by rw [e56]; exact h5) (by rw [e56]; exact h6)
    · rw [brF c1, e56, h6]
      rw [if_neg c1] at nx
      by_cases c5 : F' - F ≤ (foC G n).2
      · rw [brT c5]
        rw [if_pos c5] at nx
        exact nx D4 W4 (by rw [e56]; exact h5) (by rw [e56]; exact h6)
      · rw [brF c5]
        rw [if_neg c5] at nx
        refine nx _ ⟨fun a a1 a2 a3 a4 => by rw [up_ne a1, up_ne a1]; exact W4.1 a a1 a2 a3 a4, fun j j1 j2 => by rw [up_ne2 j2, up_ne2 j1]; exact W4.2 j j1 j2⟩ ?_ ?_
        · rw [up_ne2 (by decide), up_eq]
        · rw [up_eq]
end M95
