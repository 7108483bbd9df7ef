/-! nets: the class fills by worth, its rounds -/
def bbC (f : Int → Int) (v : Int) : Int := if 0 ≤ v ∧ v < 120 then f v else -1000000
def raI (D D' : xD) (c p w : Int → Int) (h F x3 x4 : Int) (V : (Int → Int → Int → Int → Int) → Int) : Prop :=
  (∀ a, a ≠ 61 → a ≠ 65 → a ≠ 66 → a ≠ 67 → D' a = D a) ∧ clI D' c h F V ∧ flC (D 57 0) (fun e => D 60 (prI e)) (D 60) (gnE w (D 62)) (alH h) (D' 61) p ∧ x3 = flL (D 57 0) (D' 61) (gnE w (D 62)) ∧ (0 ≤ x3 ∧ x3 ≤ 13 * F) ∧ (∀ v, -13 ≤ p v ∧ p v ≤ 12 * x4) ∧ p 118 ≤ 0 ∧ p 119 = 0
section M98e
variable {x1 x3 x4 x5 h F β : Int} {D D' : xD} {p far c w : Int → Int} {o5 : Option xv} {V : (Int → Int → Int → Int → Int) → Int} {Q : Option xv → xD → Prop}
theorem bbC_in {f : Int → Int} {v : Int} (hv : 0 ≤ v ∧ v < 120) : bbC f v = f v := by unfold bbC; rw [if_pos hv]
theorem l42a (hg : ∀ e, 0 ≤ e → e < D 57 0 → D 63 e = gnE w (D 62) e) (hw : ∀ m, 0 ≤ m → m ≤ 12 → 0 ≤ w m ∧ w m ≤ 13) (hW : duD D (fun _ => 0) c h inS ≤ 99)
    (hq : ∀ (D' : xD) F x3, (∀ a, a ≠ 61 → a ≠ 65 → a ≠ 66 → a ≠ 67 → D' a = D a) → clI D' c h F V → opT 118 119 (duD D w c h) x3 → (0 ≤ x3 ∧ x3 ≤ 1287) → Q (some (.inl x3)) D') :
    ∀ (k : Nat) (x4 F x3 : Int) (D' : xD) (p : Int → Int) (o5 : Option xv), x4 + k = 14 → 0 ≤ x4 → x4 ≤ 13 → raI D D' c p w h F x3 x4 V → (∀ D2, meE D' D2 h p → D2 67 119 ≤ 13 - x4) → WP 124 xF1 none 42 10 [some (.inr (.inr (some 57))), some (.inl h), some (.inr (.inr (some 72))), some (.inl x3), some (.inl x4), o5] [] D' Q := by
  intro k
  induction k with
  | zero => intro x4 F x3 D' p o5 h1 h2 h3; omega
  | succ k ih =>
    intro x4 F x3 D' p o5 h1 h2 h3 hR hPR
    obtain ⟨hF, hc, hC, hx3, hx3b, hp, hp0, hp1⟩ := hR
    have d57 := hF 57 (by decide) (by decide) (by decide) (by decide)
    have d60 := hF 60 (by decide) (by decide) (by decide) (by decide)
    have d62 := hF 62 (by decide) (by decide) (by decide) (by decide)
    have d63 := hF 63 (by decide) (by decide) (by decide) (by decide)
    have hWd : ∀ D'' : xD, (∀ a, a ≠ 61 → a ≠ 65 → a ≠ 66 → a ≠ 67 → D'' a = D a) → duD D'' (fun _ => 0) c h inS ≤ 99 := fun D'' g => by
      unfold duD at *
      rw [g 57 (by decide) (by decide) (by decide) (by decide), g 60 (by decide) (by decide) (by decide) (by decide), g 62 (by decide) (by decide) (by decide) (by decide)]
      exact hW
    have f99 := cl_99 hc (hWd D' hF)
    have hNt := nt_of hc.1 hw
    have hE := hc.1.1
    have hN3 : ntOk (D' 57 0) (fun e => D' 60 (prI e)) (D' 60) (D' 63) := ⟨hNt.1, fun e q1 q2 => by
      obtain ⟨a1, a2, a3, a4, a5, a6, a7⟩ := hNt.2 e q1 q2
      have pp := prI_rg hNt.1 ⟨q1, q2⟩
      rw [d57] at q2 pp
      rw [d62] at a6 a7
      exact ⟨a1, a2, a3, a4, a5, by rw [d63, hg _ pp.1 pp.2, hg e q1 q2]; exact a6, by rw [d63, hg e q1 q2]; exact a7⟩⟩
    rw [seg42_10 (ha0 := ho57) (ha2 := show xalen none 124 72 = some 13 from rfl), brF (by omega)]
    refine m43 (p := p) hE hN3 (fun e q1 q2 q3 => ?_) (fun v => by have := hp v; omega) (fun D2 hM => ?_)
    · have := hC e q1 (by rw [← d57]; exact q2) (by rw [← d60]; exact q3.2.1) (by rw [← d60]; exact q3.2.2) q3.1
      rw [d60, d63, hg e q1 (by rw [← d57]; exact q2)]
      exact this
    · simp only [Option.toList_some, Option.toList_none, List.cons_append, List.nil_append]
      have pr := hPR D2 hM
      obtain ⟨mF, vi, rk, st, mI, mC⟩ := id hM
      have F2 : ∀ a, a ≠ 61 → a ≠ 65 → a ≠ 66 → a ≠ 67 → D2 a = D a := fun a a1 a2 a3 a4 => by rw [mF a a4]; exact hF a a1 a2 a3 a4
      have k57 := F2 57 (by decide) (by decide) (by decide) (by decide)
      have k60 := F2 60 (by decide) (by decide) (by decide) (by decide)
      have k62 := F2 62 (by decide) (by decide) (by decide) (by decide)
      have k63 := F2 63 (by decide) (by decide) (by decide) (by decide)
      have k61 : D2 61 = D' 61 := mF 61 (by decide)
      have c2 : clI D2 c h F V := cl_fr (fun a a1 a2 => mF a (by omega)) hc
      have far0 : D2 67 118 = 0 := mI.1.1
      have hNt1 := hNt
      rw [d57, d60, d62] at hNt1
      have fst : ∀ e, 0 ≤ e → e < D 57 0 → 0 < D2 61 e → alH h (D 60 (prI e)) = true → alH h (D 60 e) = true → D2 67 (D 60 (prI e)) ≠ -1000000 → D2 67 (D 60 (prI e)) + D 63 e ≤ D2 67 (D 60 e) := fun e q1 q2 q3 q4 q5 q6 => by
        have nn := (hNt1.2 e q1 q2).1
        have nn : 0 ≤ D 60 (prI e) ∧ D 60 (prI e) < 120 := nn
        have := mC e q1 (by rw [d57]; exact q2) ⟨by rw [← k61]; exact q3, by rw [d60]; exact q4, by rw [d60]; exact q5⟩ (by
          rw [d60]
          by_cases c0 : D 60 (prI e) = 118
          · exact .inl c0
          · exact .inr (fun z => q6 ((mI.2.1 _ nn.1 nn.2).2.1 c0 z)))
        rw [d60, d63] at this
        exact this
      have up : ∀ β, 0 ≤ β → flC (D 57 0) (fun e => D 60 (prI e)) (D 60) (gnE w (D 62)) (alH h) (D2 61) (fun v => max (bbC (D2 67) v - β) (p v)) := fun β hβ e q1 q2 q3 q4 q5 => by
        have o1 := hC e q1 q2 q3 q4 (by rw [← k61]; exact q5)
        have o1 : p (D 60 (prI e)) + gnE w (D 62) e ≤ p (D 60 e) := o1
        have nn := hNt1.2 e q1 q2
        have n1 : 0 ≤ D 60 (prI e) ∧ D 60 (prI e) < 120 := nn.1
        have pb := hp (D 60 (prI e))
        show max (bbC (D2 67) (D 60 (prI e)) - β) (p (D 60 (prI e))) + gnE w (D 62) e ≤ max (bbC (D2 67) (D 60 e) - β) (p (D 60 e))
        rw [bbC_in n1, bbC_in nn.2.1]
        by_cases z : D2 67 (D 60 (prI e)) = -1000000
        · rw [z]; omega
        · have := fst e q1 q2 q5 q3 q4 z
          rw [hg e q1 q2] at this
          omega
      rw [seg42_22 (ha0 := ho57) (ha2 := show xalen none 124 72 = some 13 from rfl), cnB (by decide)]
      simp only [Nat.reduceAdd]
      by_cases cT : 0 < D2 67 119
      · rw [brT cT]
        have c57 : ∀ e, 0 ≤ e → e < D2 57 0 → D2 63 e = gnE w (D2 62) e := by rw [k57, k62, k63]; exact hg
        refine l42b (D := D2) (far := D2 67) (p := fun v => max (bbC (D2 67) v - D2 67 119) (p v)) (β := D2 67 119) (c := c) (w := w) (V := V) rfl (fun v v1 v2 => ?_) c57 hw far0 ⟨rfl, cT, by omega⟩ (fun v v1 v2 => ?_) ?_ (hWd D2 F2) (fun D3 F3 y3 x5 t3 s1 s2 s3 => ?_) 100 F x3 0 D2 (by omega) (by omega) c2.2.2.2 ⟨fun _ _ _ _ => rfl, c2, ?_, ?_, ?_, hx3b⟩
        · have := (mI.2.1 v v1 v2).1
          have := hp v
          have := hp 118
          omega
        · show D2 67 v - D2 67 119 ≤ max (bbC (D2 67) v - D2 67 119) (p v)
          rw [bbC_in ⟨v1, v2⟩]; omega
        · show max (bbC (D2 67) 119 - D2 67 119) (p 119) = 0
          rw [bbC_in (by decide)]; omega
        · obtain ⟨t31, t32, t33, t34, t35, t36⟩ := t3
          obtain ⟨rk3, sT⟩ := s1
          have F3' : ∀ a, a ≠ 61 → a ≠ 65 → a ≠ 66 → a ≠ 67 → D3 a = D a := fun a a1 a2 a3 a4 => by rw [t31 a a1 a2 a3]; exact F2 a a1 a2 a3 a4
          have l57 := F3' 57 (by decide) (by decide) (by decide) (by decide)
          have l60 := F3' 60 (by decide) (by decide) (by decide) (by decide)
          have l63 := F3' 63 (by decide) (by decide) (by decide) (by decide)
          have l67 : D3 67 = D2 67 := t31 67 (by decide) (by decide) (by decide)
          rw [seg42_78 (ha0 := ho57) (ha2 := show xalen none 124 72 = some 13 from rfl), cnX (by omega)]
          refine ih (x4 + 1) F3 y3 D3 (fun v => max (bbC (D2 67) v - D2 67 119) (p v)) _ (by omega) (by omega) (by omega) ⟨F3', t32, ?_, ?_, t36, fun v => ?_, ?_, ?_⟩ (fun D4 hM4 => ?_)
          · rw [k57, k60, k62] at t33; exact t33
          · rw [k57, k62] at t35; exact t35
          · show -13 ≤ max (bbC (D2 67) v - D2 67 119) (p v) ∧ max (bbC (D2 67) v - D2 67 119) (p v) ≤ 12 * (x4 + 1)
            have b1 := hp v
            have b2 := hp 118
            by_cases cv : 0 ≤ v ∧ v < 120
            · have := (mI.2.1 v cv.1 cv.2).1
              rw [bbC_in cv]; omega
            · have : bbC (D2 67) v = -1000000 := by unfold bbC; rw [if_neg cv]
              omega
          · show max (bbC (D2 67) 118 - D2 67 119) (p 118) ≤ 0
            rw [bbC_in (by decide), far0]; omega
          · show max (bbC (D2 67) 119 - D2 67 119) (p 119) = 0
            rw [bbC_in (by decide)]; omega
          · have hN4 : ntOk (D3 57 0) (fun e => D3 60 (prI e)) (D3 60) (D3 63) := by
              rw [l57, l60, l63, ← d57, ← d60, ← d63]; exact hN3
            have lt := me_lt (D := D3) (far := D2 67) hN4 l67.symm (fun e q1 q2 q3 q4 => by
              rw [l60] at q4 ⊢
              rw [l63, ← k63]
              have := t34 e (by omega) (by rw [k57, ← l57]; exact q2) q3.1 (by rw [k60, ← l60]; exact q3.2.1) (by rw [k60, ← l60]; exact q3.2.2) (by rw [k60]; exact q4)
              rw [k60] at this
              exact this) far0 sT.1 s3 s2 hM4
            rcases lt with z | z <;> omega
        · rw [k57, k60, k62]; exact up _ (by omega)
        · rw [k57, k60, k63]; exact fst
        · rw [k57, k62, k61]; exact hx3
      · rw [brF cT, seg42_84 (ha0 := ho57) (ha2 := show xalen none 124 72 = some 13 from rfl)]
        have hI2 := c2.2.1
        rw [k57, k60] at hI2
        have op := fl_max hNt1 hI2 (up 0 (Int.le_refl _)) (by show max (bbC (D2 67) 118 - 0) (p 118) = 0; rw [bbC_in (by decide), far0]; omega) (by show max (bbC (D2 67) 119 - 0) (p 119) = 0; rw [bbC_in (by decide)]; omega)
        rw [k61, ← hx3] at op
        exact hq D2 F x3 F2 c2 op (by omega)
end M98e
