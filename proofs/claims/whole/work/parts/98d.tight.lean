/-! nets: the class fills tight ways -/
/-- what stands while tight ways are filled; far as measured -/
def tiI (D D' : xD) (c far p w : Int → Int) (h F x3 : Int) (V : (Int → Int → Int → Int → Int) → Int) : Prop :=
  (∀ a, a ≠ 61 → a ≠ 65 → a ≠ 66 → D' a = D a) ∧ clI D' c h F V ∧ flC (D 57 0) (fun e => D 60 (prI e)) (D 60) (gnE w (D 62)) (alH h) (D' 61) p ∧
  (∀ e, 0 ≤ e → e < D 57 0 → 0 < D' 61 e → alH h (D 60 (prI e)) = true → alH h (D 60 e) = true → far (D 60 (prI e)) ≠ -1000000 → far (D 60 (prI e)) + D 63 e ≤ far (D 60 e)) ∧ x3 = flL (D 57 0) (D' 61) (gnE w (D 62)) ∧ (0 ≤ x3 ∧ x3 ≤ 13 * F)
section M98d
variable {x1 x3 x4 x5 h F β : Int} {D D' : xD} {p far c w : Int → Int} {V : (Int → Int → Int → Int → Int) → Int} {Q : Option xv → xD → Prop}
theorem l42b (hf : far = D 67) (hfb : ∀ v, 0 ≤ v → v < 120 → -1000000 ≤ far v ∧ far v ≤ 1000000) (hg : ∀ e, 0 ≤ e → e < D 57 0 → D 63 e = gnE w (D 62) e) (hw : ∀ m, 0 ≤ m → m ≤ 12 → 0 ≤ w m ∧ w m ≤ 13) (h0 : far 118 = 0) (hβ : β = far 119 ∧ 0 < β ∧ β ≤ 13) (hp : ∀ v, 0 ≤ v → v < 120 → far v - β ≤ p v) (hpT : p 119 = 0)
    (hW : duD D (fun _ => 0) c h inS ≤ 99)
    (hq : ∀ (D' : xD) F x3 x5, tiI D D' c far p w h F x3 V → (∃ rk, srT D' (viA D') h 1 rk) → viA D' 119 = -1 → srC D' (viA D') h 1 (fun e => viA D' (D' 60 (prI e)) ≠ -1) → WP 124 xF1 none 42 78 [some (.inr (.inr (some 57))), some (.inl h), some (.inr (.inr (some 72))), some (.inl x3), some (.inl x4), some (.inl x5)] [] D' Q) :
    ∀ (k : Nat) (F x3 x5 : Int) (D' : xD), x5 + k = 100 → 0 ≤ x5 → x5 ≤ F → tiI D D' c far p w h F x3 V → WP 124 xF1 none 42 38 [some (.inr (.inr (some 57))), some (.inl h), some (.inr (.inr (some 72))), some (.inl x3), some (.inl x4), some (.inl x5)] [] D' Q := by
  intro k
  induction k with
  | zero =>
    intro F x3 x5 D' h1 h2 h3 h4
    have := cl_99 h4.2.1 (by rw [du_fr h4.1]; exact hW)
    omega
  | succ k ih =>
    intro F x3 x5 D' h1 h2 h3 h4
    obtain ⟨hF, hc, hC, hfar, hx3, hx3b⟩ := id h4
    have f99 := cl_99 hc (by rw [du_fr hF]; exact hW)
    have d57 := hF 57 (by decide) (by decide) (by decide)
    have d60 := hF 60 (by decide) (by decide) (by decide)
    have d62 := hF 62 (by decide) (by decide) (by decide)
    have d63 := hF 63 (by decide) (by decide) (by decide)
    have d67 := hF 67 (by decide) (by decide) (by decide)
    have hNt := nt_of hc.1 hw
    have hNt2 := hNt
    rw [d57, d60, d62] at hNt2
    have sB : srB D' h 1 := ⟨hc.1.2.1, hc.1.1, ns_nd hc.1, .inr ⟨rfl, by rw [d67, ← hf]; exact hfb, fun e q1 q2 => by
      rw [d57] at q2
      rw [d63, hg e q1 q2]
      exact (hNt2.2 e q1 q2).2.2.2.2.2.2⟩⟩
    rw [seg42_38 (ha0 := ho57) (ha2 := show xalen none 124 72 = some 13 from rfl), brF (by omega)]
    refine m38 sB (fun D2 r hE => ?_)
    simp only [Option.toList_some, Option.toList_none, List.cons_append, List.nil_append]
    obtain ⟨g1, rk, g2, g3⟩ := hE
    have e57 := g1 57 (by decide) (by decide)
    have e60 := g1 60 (by decide) (by decide)
    have e61 := g1 61 (by decide) (by decide)
    have e62 := g1 62 (by decide) (by decide)
    have e67 := g1 67 (by decide) (by decide)
    have F2 : ∀ a, a ≠ 61 → a ≠ 65 → a ≠ 66 → D2 a = D a := fun a a1 a2 a3 => by rw [g1 a a2 a3]; exact hF a a1 a2 a3
    have c2 : clI D2 c h F V := ⟨ns_fr (fun a _ a2 a3 => g1 a a2 a3) hc.1, by rw [e57, e60, e61]; exact hc.2.1, by rw [e57]; exact hc.2.2.1, hc.2.2.2⟩
    have hT2 := sr_fr g1 g2
    have t2 : tiI D D2 c far p w h F x3 V := ⟨F2, c2, by rw [e61]; exact hC, by rw [e61]; exact hfar, by rw [e61]; exact hx3, hx3b⟩
    rw [seg42_51 (ha0 := ho57) (ha2 := show xalen none 124 72 = some 13 from rfl)]
    rcases g3 with ⟨r1, r2, r3⟩ | ⟨r1, r2, r3⟩
    · rw [brT (by omega)]
      refine m39 c2.1.1 (ns_nd c2.1) hT2 r2 r3 (cl_rm c2) (fun D3 k1 k2 => ?_)
      simp only [Option.toList_some, Option.toList_none, List.cons_append, List.nil_append]
      have tr2 := sr_tr hT2
      have k57 := F2 57 (by decide) (by decide) (by decide)
      have k60 := F2 60 (by decide) (by decide) (by decide)
      have k63 := F2 63 (by decide) (by decide) (by decide)
      have k67 := F2 67 (by decide) (by decide) (by decide)
      have al2 : ∀ v, v ≠ 118 → viA D2 v ≠ -1 → alH h ((fun e => D 60 (prI e)) (viA D2 v)) = true ∧ alH h (D 60 (viA D2 v)) = true := fun v v1 v2 => by
        obtain ⟨a1, a2, a3, a4, a5⟩ := hT2.2 v v1 v2
        rw [← k60]
        exact ⟨sr_al hT2 a3, a4.2.1⟩
      have beq : ∀ v, v ≠ 118 → viA D2 v ≠ -1 → far v = far ((fun e => D 60 (prI e)) (viA D2 v)) + gnE w (D 62) (viA D2 v) := fun v v1 v2 => by
        obtain ⟨a1, a2, a3, a4, a5⟩ := hT2.2 v v1 v2
        have tg := a4.2.2.resolve_left (by decide)
        rw [k60, k63, k67, ← hf] at tg
        rw [k57] at a1
        rw [k60] at a2
        rw [a2, hg _ a1.1 a1.2] at tg
        exact tg.symm
      have hI2 := c2.2.1
      rw [k57, k60] at hI2 tr2
      obtain ⟨n, hn⟩ : ∃ n, n = pmN (fun e => D2 60 (prI e)) (viA D2) (D2 61) 118 120 119 99 := ⟨_, rfl⟩
      rw [← hn] at k2 ⊢
      rw [k60] at hn k2
      obtain ⟨p1, p2, p3, p4⟩ := pu_ok (w := gnE w (D 62)) (b := far) (k := 120) hNt2 hI2 tr2 al2 r2 (fun e _ _ => gnE_pr e) beq (by omega) hn
      rw [← k2] at p2 p3 p4
      have po := po_push (r' := D3 61) (k := 120) hNt2 tr2 al2 r2 (by rw [e61]; exact hC) beq (β := β) (fun v hv => by
        by_cases cv : 0 ≤ v ∧ v < 120
        · exact hp v cv.1 cv.2
        · exfalso
          rcases hv with z | z
          · omega
          · unfold viA at z; rw [if_neg cv] at z; exact z rfl) (by rw [hpT, hβ.1]; omega) p4
      have F3 : ∀ a, a ≠ 61 → a ≠ 65 → a ≠ 66 → D3 a = D a := fun a a1 a2 a3 => by rw [k1 a a1]; exact F2 a a1 a2 a3
      have c3 : clI D3 c h (F + n) V := ⟨ns_fr (fun a a1 _ _ => k1 a a1) c2.1, by rw [k1 57 (by decide), k1 60 (by decide), k57, k60]; exact p2, by rw [k1 57 (by decide)]; exact c2.2.2.1, by have := c2.2.2.2; omega⟩
      have f99' := cl_99 c3 (by rw [du_fr F3]; exact hW)
      have F119 : D3 67 119 = β := by rw [F3 67 (by decide) (by decide) (by decide), ← hf, hβ.1]
      have bb : n * β ≤ n * 13 := Int.mul_le_mul_of_nonneg_left (by omega) (by omega)
      have bb0 : 0 ≤ n * β := Int.mul_nonneg (by omega) (by omega)
      rw [seg42_62 (ha0 := ho57) (ha2 := show xalen none 124 72 = some 13 from rfl), cnB (by decide)]
      simp only [Nat.reduceAdd]
      rw [F119, cnX (by omega), cnX (by omega), cnX (by omega)]
      refine ih (F + n) _ (x5 + 1) D3 (by omega) (by omega) (by omega) ⟨F3, c3, po, fun e q1 q2 q3 q4 q5 q6 => ?_, ?_, by omega⟩
      · rcases p4 e q3 with z | ⟨x, z1, z2⟩
        · exact hfar e q1 q2 (by rw [← e61]; exact z) q4 q5 q6
        · have px := pi_ind (Pr := fun _ => True) (fun _ _ _ _ => trivial) tr2 120 119 (.inr r2) trivial x z1
          obtain ⟨t1, t2, -⟩ := tr2 x px.1 px.2.1
          have be := beq x px.1 px.2.1
          have be : far x = far (D 60 (prI (viA D2 x))) + gnE w (D 62) (viA D2 x) := be
          rw [z2, prI_pr, t2, hg _ (prI_rg hNt2.1 t1).1 (prI_rg hNt2.1 t1).2, gnE_pr]
          omega
      · rw [p3, h0, Int.sub_zero, ← hβ.1, hx3, e61]
    · rw [brF (by omega)]
      refine hq D2 F x3 x5 t2 ⟨rk, hT2⟩ r2 ?_
      unfold srC okA at *
      rw [e57, e60, e61, g1 63 (by decide) (by decide), e67]
      exact r3
end M98d
