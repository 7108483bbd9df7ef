/-! nets: the reference sends all that it can -/
def mrF (D' D : xD) : Prop := (∀ a, a ≠ 95 → (a < 100 ∨ 110 < a ∨ a = 106) → D' a = D a) ∧ ∀ j, j ≠ 21 → D' 95 j = D 95 j
/-- the reference's net after it has sent all: for another search -/
def mdX (D : xD) (T w : Int → Int) (wd wh h z : Int) : Prop := mlS D ∧ (∃ p, poI D p 1300) ∧ (∀ k, 0 ≤ k → 2 * k < D 95 21 → shA w h (D 100 (2 * k)) (D 101 (2 * k)) (D 103 (2 * k))) ∧ ∃ c F, flI (D 95 21) (D 100) (D 101) c alT 0 1 (D 102) F ∧ (∀ y, duS (D 95 21) (D 100) (D 101) (D 103) c alT y = mdl T w wd wh h y) ∧ flL (D 95 21) (D 102) (D 103) = z
/-- in the midst; D1 as laid -/
def mfI (D1 D' : xD) (p : Int → Int) (F x2 : Int) : Prop := (∀ a, a ≠ 102 → a ≠ 107 → a ≠ 108 → a ≠ 109 → a ≠ 110 → D' a = D1 a) ∧ flI (D1 95 21) (D1 100) (D1 101) (cPr (D1 102)) alT 0 1 (D' 102) F ∧ 0 ≤ F ∧ poI D' p (12 * F) ∧ x2 = flL (D1 95 21) (D' 102) (D1 103) ∧ (0 ≤ x2 ∧ x2 ≤ 13 * F)
section M89
variable {E x1 x2 x3 x4 n m h F z B wd wh : Int} {D D' D1 D2 : xD} {T w c r p b y : Int → Int} {rk : Int → Nat} {o1 o2 o3 o4 : Option xv} {Q : Option xv → xD → Prop}
def bbM (D : xD) (v : Int) : Int := if 0 ≤ v ∧ v < 120 then D 107 v else -1000000
theorem bb_in {v : Int} (hv : 0 ≤ v ∧ v < 120) : bbM D v = D 107 v := by unfold bbM; rw [if_pos hv]
theorem mf_ml (hS : mlS D1) (hc : ∀ e, 0 ≤ e → e < D1 95 21 → cPr (D1 102) e ≤ 1000) (hI : mfI D1 D' p F x2) : mlS D' := by
  obtain ⟨f, g1, -⟩ := hI
  unfold mlS at *
  rw [f 95 (by decide) (by decide) (by decide) (by decide) (by decide), f 100 (by decide) (by decide) (by decide) (by decide) (by decide), f 101 (by decide) (by decide) (by decide) (by decide) (by decide), f 103 (by decide) (by decide) (by decide) (by decide) (by decide), f 104 (by decide) (by decide) (by decide) (by decide) (by decide), f 105 (by decide) (by decide) (by decide) (by decide) (by decide)]
  refine ⟨hS.1, hS.2.1, hS.2.2.1, fun e q1 q2 => ?_⟩
  have hE := hS.1
  have pp := prI_rg ⟨hE.1, hE.2.2⟩ ⟨q1, q2⟩
  have a1 := g1.1 e q1 q2
  have a2 := g1.1 _ pp.1 pp.2
  have := hc e q1 q2
  omega
/-- of arcs with room none is broken by the labels -/
theorem sk_up {β : Int} (hS : mlS D) (hP : poI D p B) (hβ : 0 ≤ β) (hE : skE D D' p) : flC (D 95 21) (D 100) (D 101) (D 103) alT (D 102) (fun v => max (bbM D' v - β) (p v)) := by
  obtain ⟨f, ⟨rk, hI⟩, hcl⟩ := hE
  intro e e1 e2 a1 a2 hr
  have hN := hS.2.2.1.2 e e1 e2
  have h1 := hP.1 e e1 e2 a1 a2 hr
  have h3 := hP.2.1 (D 100 e)
  show max (bbM D' (D 100 e) - β) (p (D 100 e)) + D 103 e ≤ max (bbM D' (D 101 e) - β) (p (D 101 e))
  rw [bb_in hN.1, bb_in hN.2.1]
  by_cases q : D' 107 (D 100 e) = -1000000
  · rw [q]; omega
  · have := hcl e e1 e2 hr (by
      by_cases c0 : D 100 e = 0
      · exact .inl c0
      · right
        intro z
        exact q ((hI.2.1 _ hN.1.1 hN.1.2).2 c0 z))
    omega
theorem sk_eq (hS : mlS D) (hE : skE D D' p) {rk : Int → Nat} (hI : seI D p (D' 107) (D' 108) rk) : ∀ v, v ≠ 0 → viM D' v ≠ -1 → bbM D' v = bbM D' (D 100 (viM D' v)) + D 103 (viM D' v) := by
  intro v v1 v2
  have hv : 0 ≤ v ∧ v < 120 := by
    unfold viM at v2
    by_cases c : 0 ≤ v ∧ v < 120
    · exact c
    · rw [if_neg c] at v2; exact absurd rfl v2
  rw [vm_in hv] at v2 ⊢
  obtain ⟨a1, a2, a3, a4, a5, a6, a7⟩ := hI.2.2 v hv.1 hv.2 v2
  have hN := hS.2.2.1.2 _ a1.1 a1.2
  have cl := hE.2.2 _ a1.1 a1.2 a4 a3
  rw [a2] at cl
  rw [bb_in hv, bb_in hN.1]
  omega
theorem mf_99 (hN : ntOk (D1 95 21) (D1 100) (D1 101) (D1 103)) (hW : duS (D1 95 21) (D1 100) (D1 101) (fun _ => 0) (cPr (D1 102)) alT inM ≤ 99) (hI : flI (D1 95 21) (D1 100) (D1 101) (cPr (D1 102)) alT 0 1 r F) : F ≤ 99 := by
  have hN0 : ntOk (D1 95 21) (D1 100) (D1 101) (fun _ => 0) := ⟨hN.1, fun e q1 q2 => by
    obtain ⟨a1, a2, a3, a4, a5, -⟩ := hN.2 e q1 q2
    exact ⟨a1, a2, a3, a4, a5, rfl, (by decide : (-13 : Int) ≤ 0 ∧ (0 : Int) ≤ 13)⟩⟩
  have k := fl_weak hN0 hI inM
  have z : flL (D1 95 21) r (fun _ => 0) = 0 := by
    unfold flL
    exact smI_0 _ _ (fun _ _ _ => Int.mul_zero _)
  have e1 : inM 0 = 1 := rfl
  have e2 : inM 1 = 0 := rfl
  rw [z, e1, e2] at k
  omega
theorem l189 (hS : mlS D1) (hc : ∀ e, 0 ≤ e → e < D1 95 21 → cPr (D1 102) e ≤ 1000) (hW : duS (D1 95 21) (D1 100) (D1 101) (fun _ => 0) (cPr (D1 102)) alT inM ≤ 99)
    (hd : ∀ y, duS (D1 95 21) (D1 100) (D1 101) (D1 103) (cPr (D1 102)) alT y = mdl T w wd wh h y)
    (ha : ∀ k, 0 ≤ k → 2 * k < D1 95 21 → shA w h (D1 100 (2 * k)) (D1 101 (2 * k)) (D1 103 (2 * k)))
    (hq : ∀ D' z, (∀ a, a ≠ 102 → a ≠ 107 → a ≠ 108 → a ≠ 109 → a ≠ 110 → D' a = D1 a) → opT 0 1 (mdl T w wd wh h) z → mdX D' T w wd wh h z → (0 ≤ z ∧ z ≤ 1287) → Q (some (.inl z)) D') :
    ∀ (k : Nat) (F x2 : Int) (D' : xD) (p : Int → Int) (o3 o4 : Option xv), 100 ≤ F + k → mfI D1 D' p F x2 → WP 124 xF1 none 189 7 [some (.inr (.inr (some 95))), some (.inl h), some (.inl x2), o3, o4] [] D' Q := by
  intro k
  induction k with
  | zero =>
    intro F x2 D' p o3 o4 h1 h2
    have := mf_99 hS.2.2.1 hW h2.2.1
    omega
  | succ k ih =>
    intro F x2 D' p o3 o4 h1 h2
    have f99 := mf_99 hS.2.2.1 hW h2.2.1
    have hS' := mf_ml hS hc h2
    obtain ⟨m1, m2, m3, m4, m5, m6⟩ := id h2
    have g95 := m1 95 (by decide) (by decide) (by decide) (by decide) (by decide)
    have g100 := m1 100 (by decide) (by decide) (by decide) (by decide) (by decide)
    have g101 := m1 101 (by decide) (by decide) (by decide) (by decide) (by decide)
    have g103 := m1 103 (by decide) (by decide) (by decide) (by decide) (by decide)
    rw [seg189_7 (ha0 := ho95)]
    refine m188 hS' m4 (by omega) (fun D2 r hE hr => ?_)
    simp only [Option.toList_some, Option.toList_none, List.cons_append, List.nil_append]
    obtain ⟨f, ⟨rk, hI⟩, hcl⟩ := id hE
    have f95 := f 95 (by decide) (by decide) (by decide) (by decide)
    have f100 := f 100 (by decide) (by decide) (by decide) (by decide)
    have f101 := f 101 (by decide) (by decide) (by decide) (by decide)
    have f102 := f 102 (by decide) (by decide) (by decide) (by decide)
    have f103 := f 103 (by decide) (by decide) (by decide) (by decide)
    have f104 := f 104 (by decide) (by decide) (by decide) (by decide)
    have f105 := f 105 (by decide) (by decide) (by decide) (by decide)
    have b0 : bbM D2 0 = 0 := by rw [bb_in (by decide)]; exact hI.1.1
    have b1 : bbM D2 1 = D2 107 1 := bb_in (by decide)
    have F2 : ∀ a, a ≠ 102 → a ≠ 107 → a ≠ 108 → a ≠ 109 → a ≠ 110 → D2 a = D1 a := fun a c1 c2 c3 c4 c5 => by rw [f a c2 c3 c4 c5, m1 a c1 c2 c3 c4 c5]
    have hS2 : mlS D2 := by
      unfold mlS at *
      rw [f95, f100, f101, f102, f103, f104, f105]; exact hS'
    have p1 := m4.2.2.2
    have p0 := m4.2.2.1
    rw [seg189_11 (ha0 := ho95)]
    by_cases cr : D2 107 1 ≤ 0
    · rw [if_pos cr] at hr
      rw [brT hr]
      have up := sk_up (β := 0) hS' m4 (by decide) hE
      rw [g95, g100, g101, g103] at up
      have op := fl_max hS.2.2.1 m2 up (by show max (bbM D2 0 - 0) (p 0) = 0; rw [b0]; omega) (by show max (bbM D2 1 - 0) (p 1) = 0; rw [b1]; omega)
      rw [← m5, show duS (D1 95 21) (D1 100) (D1 101) (D1 103) (cPr (D1 102)) alT = mdl T w wd wh h from funext hd] at op
      refine hq D2 x2 F2 op ⟨hS2, ⟨p, ?_⟩, ?_, cPr (D1 102), F, ?_, ?_, ?_⟩ (by omega)
      · unfold poI at *
        rw [f95, f100, f101, f102, f103]
        exact ⟨m4.1, fun v => by have := m4.2.1 v; omega, p0, p1⟩
      · rw [f95, f100, f101, f103, g95, g100, g101, g103]; exact ha
      · rw [f95, f100, f101, f102, g95, g100, g101]; exact m2
      · rw [f95, f100, f101, f103, g95, g100, g101, g103]; exact hd
      · rw [f95, f102, f103, g95, g103]; exact m5.symm
    · rw [if_neg cr] at hr
      rw [brF (by omega)]
      have tr := se_tr hS' hI
      have tr2 : trI (D2 95 21) (D2 100) (D2 101) (D2 102) (viM D2) rk 0 := by rw [f95, f100, f101, f102]; exact tr
      have v1 : viM D2 1 ≠ -1 := by
        rw [vm_in (by decide)]
        intro z
        have := (hI.2.1 1 (by decide) (by decide)).2 (by decide) z
        omega
      obtain ⟨n, hn⟩ : ∃ n, n = pmN (D' 100) (viM D2) (D' 102) 0 (rk 1 + 1) 1 99 := ⟨_, rfl⟩
      rw [g95, g100, g101] at tr
      rw [g100] at hn
      have hw : ∀ e, 0 ≤ e → e < D1 95 21 → D1 103 (prI e) = - D1 103 e := fun e q1 q2 => (hS.2.2.1.2 e q1 q2).2.2.2.2.2.1
      have beq := sk_eq hS' hE hI
      rw [g100, g103] at beq
      obtain ⟨n1, n2, n3, n4⟩ := pu_ok (w := D1 103) (b := bbM D2) (k := rk 1 + 1) hS.2.2.1 m2 tr (fun _ _ _ => ⟨rfl, rfl⟩) v1 hw beq (by omega) hn
      have frp : frP (D' 102) (cPr (D1 102)) (D1 95 21) n (D1 100) (viM D2) 0 (rk 1 + 1) 1 := ⟨m2.1, by rw [hn]; exact (pm_sp tr (rk 1 + 1) 1 99 (.inr v1) (by decide)).2⟩
      refine l189a hS2 tr2 (rk 1 + 1) 99 1 (.inr v1) (by omega) ?_
      rw [f100, f102, g100, ← hn]
      refine l189b (c := cPr (D1 102)) hS2 tr2 (by omega) (by rw [f95, g95]; exact hc) (rk 1 + 1) 1 D2 (.inr v1) (by omega) (fun _ _ => rfl) (by rw [f102, f95, f100, g95, g100]; exact frp) (fun D3 k1 k2 => ?_)
      have e107 : D3 107 = D2 107 := k1 107 (by decide)
      rw [f102, f100, g100] at k2
      have ub := (hI.2.1 1 (by decide) (by decide)).1
      have pb := m4.2.1 0
      have bb : n * D2 107 1 ≤ n * 13 := Int.mul_le_mul_of_nonneg_left (by omega) (by omega)
      have bb0 : 0 ≤ n * D2 107 1 := Int.mul_nonneg (by omega) (by omega)
      rw [seg189_74 (ha0 := ho95), brT rfl, cnB (by decide)]
      simp only [Nat.reduceAdd]
      rw [e107, cnX (by omega), cnX (by omega)]
      have up := sk_up (β := D2 107 1) hS' m4 (by omega) hE
      rw [g95, g100, g101, g103] at up
      have fp := po_push (r' := D3 102) (k := rk 1 + 1) hS.2.2.1 tr (fun _ _ _ => ⟨rfl, rfl⟩) v1 up beq (β := D2 107 1) (fun v _ => by show bbM D2 v - D2 107 1 ≤ max (bbM D2 v - D2 107 1) (p v); omega) (by show max (bbM D2 1 - D2 107 1) (p 1) = bbM D2 1 - D2 107 1; rw [b1]; omega) (by rw [k2]; exact n4)
      refine ih (F + n) _ D3 (fun v => max (bbM D2 v - D2 107 1) (p v)) _ _ (by omega) ⟨fun a c1 c2 c3 c4 c5 => by rw [k1 a c1]; exact F2 a c1 c2 c3 c4 c5, by rw [k2]; exact n2, by omega, ⟨?_, fun v => ?_, ?_, ?_⟩, ?_, by omega⟩
      · rw [k1 95 (by decide), k1 100 (by decide), k1 101 (by decide), k1 103 (by decide), f95, f100, f101, f103, g95, g100, g101, g103]
        exact fp
      · show -13 ≤ max (bbM D2 v - D2 107 1) (p v) ∧ max (bbM D2 v - D2 107 1) (p v) ≤ 12 * (F + n)
        have pv := m4.2.1 v
        by_cases c0 : 0 ≤ v ∧ v < 120
        · rw [bb_in c0]
          have := (hI.2.1 v c0.1 c0.2).1
          omega
        · have : bbM D2 v = -1000000 := by unfold bbM; rw [if_neg c0]
          omega
      · show max (bbM D2 0 - D2 107 1) (p 0) ≤ 0
        rw [b0]; omega
      · show max (bbM D2 1 - D2 107 1) (p 1) = 0
        rw [b1]; omega
      · rw [k2, n3, b1, b0, m5, Int.sub_zero]
/-- the best of it -/
theorem m189 (hT : tnW T) (H : mlC D T w wd wh h) (hh : 0 ≤ h ∧ h ≤ 12) (hw : ∀ t, 0 ≤ t → t ≤ h → 0 ≤ w t ∧ w t ≤ 13) (hwh : 0 ≤ wh ∧ wh ≤ 2) (hq : ∀ D' z, mrF D' D → opT 0 1 (mdl T w wd wh h) z → mdX D' T w wd wh h z → (0 ≤ z ∧ z ≤ 1287) → Q (some (.inl z)) D') :
    WP 124 xF1 none 189 0 [some (.inr (.inr (some 95))), some (.inl h), o2, o3, o4] [] D Q := by
  rw [seg189_0 (ha0 := ho95)]
  refine m187 hT H hh hw hwh (fun D1 f1 f2 => ?_)
  simp only [Option.toList_some, Option.toList_none, List.cons_append, List.nil_append]
  rw [seg189_5 (ha0 := ho95)]
  obtain ⟨z1, z2, z3⟩ := mc_zero f2
  refine l189 (mc_ml f2 (by omega)) z3 (mc_w99 hT hh f2) (mc_du f2) (mc_arc hT hh f2) (fun D' z g1 g2 g3 g4 => hq D' z ⟨fun a a1 a2 => ?_, fun j hj => ?_⟩ g2 g3 g4) 100 0 0 D1 p0M _ _ (by omega) ⟨fun _ _ _ _ _ _ => rfl, z1, by decide, mc_pot hT hh hw f2, (z2 _).symm, by decide⟩
  · rw [g1 a (by omega) (by omega) (by omega) (by omega) (by omega)]
    exact f1.1 a a1 (by omega) (by omega) (by omega) (by omega) (by omega) (by omega)
  · rw [g1 95 (by decide) (by decide) (by decide) (by decide) (by decide)]
    exact f1.2 j hj
end M89
