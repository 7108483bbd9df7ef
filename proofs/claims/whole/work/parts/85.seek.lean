/-! nets: the reference's search, its run -/
def mqF (D' D : xD) : Prop := ∀ a, a ≠ 107 → a ≠ 108 → a ≠ 109 → a ≠ 110 → D' a = D a
/-- arcs P of those that do not wait are settled -/
def cloI (D D' : xD) (P : Int → Prop) : Prop := ∀ e, 0 ≤ e → e < D 95 21 → 0 < D 102 e → (D 100 e = 0 ∨ D' 108 (D 100 e) ≠ -1) → D' 110 (D 100 e) = 0 → P e → D' 107 (D 100 e) + D 103 e ≤ D' 107 (D 101 e)
def seM (p b : Int → Int) (n : Int) : Int := 121 * smI (fun v => p v - p 0 - b v) 0 120 + n
def skI (D D' : xD) (p : Int → Int) (x1 n : Int) (P : Int → Prop) (rk : Int → Nat) : Prop := mqF D' D ∧ seI D p (D' 107) (D' 108) rk ∧ sqI (D' 110) (D' 109) x1 n ∧ cloI D D' P ∧ ∀ v, 0 ≤ v → v < 120 → D' 110 v = 1 → D' 108 v ≠ -1
def skE (D D' : xD) (p : Int → Int) : Prop := mqF D' D ∧ (∃ rk, seI D p (D' 107) (D' 108) rk) ∧ ∀ e, 0 ≤ e → e < D 95 21 → 0 < D 102 e → (D 100 e = 0 ∨ D' 108 (D 100 e) ≠ -1) → D' 107 (D 100 e) + D 103 e ≤ D' 107 (D 101 e)
section M85
variable {E x1 x2 x3 x4 n m u h v e B K : Int} {D D' D1 D2 : xD} {p b vi b' vi' : Int → Int} {rk : Int → Nat} {P : Int → Prop} {o1 o2 o3 o4 : Option xv} {Q : Option xv → xD → Prop}
theorem iand_127 (h : 0 ≤ v ∧ v < 256) : iand v 127 = v % 128 := by
  have key : ∀ k : Fin 256, iand ((k.val : Nat) : Int) 127 = ((k.val : Nat) : Int) % 128 := by decide +kernel
  have := key ⟨v.toNat, by omega⟩
  have e1 : ((v.toNat : Nat) : Int) = v := by omega
  simp only [e1] at this
  exact this
theorem seM_up (hh : 0 ≤ h ∧ h < 120) (hb : b h + 1 ≤ m) (hB : ∀ j, b' j = if j = h then m else b j) : seM p b' n + 121 ≤ seM p b n := by
  unfold seM
  have := smI_pt (f := fun v => p v - p 0 - b v) (g := fun v => p v - p 0 - b' v) 120 0 h (b h - m) (by omega) (by omega) (fun j hj => by
    show p j - p 0 - b' j = p j - p 0 - b j
    rw [hB, if_neg hj]) (by
    show p h - p 0 - b' h = p h - p 0 - b h + (b h - m)
    rw [hB, if_pos rfl]; omega)
  omega
theorem l188b (hS : mlS D) (hP : poI D p B) (hB : B ≤ 3000) (hv : 0 ≤ v ∧ v < 120)
    (hn : ∀ (D' : xD) n rk o3 o4, skI D D' p x1 n (fun _ => True) rk → seM p (D' 107) n ≤ K → WP 124 xF1 none 188 55 [some (.inr (.inr (some 95))), some (.inl x1), some (.inl n), o3, o4] [] D' Q) :
    ∀ (k : Nat) (x4 n : Int) (D' : xD) (rk : Int → Nat), x4 + 1 ≤ k → (x4 = -1 ∨ ((0 ≤ x4 ∧ x4 < D 95 21) ∧ D 100 x4 = v)) → skI D D' p x1 n (fun e => D 100 e ≠ v ∨ x4 < e) rk → (v = 0 ∨ D' 108 v ≠ -1) → D' 110 v = 0 → seM p (D' 107) n ≤ K →
    WP 124 xF1 none 188 91 [some (.inr (.inr (some 95))), some (.inl x1), some (.inl n), some (.inl v), some (.inl x4)] [] D' Q := by
  obtain ⟨hE, hJ, hN, hR⟩ := id hS
  have fin : ∀ (x4 n : Int) (D' : xD) (rk : Int → Nat), x4 = -1 → skI D D' p x1 n (fun e => D 100 e ≠ v ∨ x4 < e) rk → seM p (D' 107) n ≤ K → WP 124 xF1 none 188 91 [some (.inr (.inr (some 95))), some (.inl x1), some (.inl n), some (.inl v), some (.inl x4)] [] D' Q := by
    intro x4 n D' rk h1 h2 h3
    rw [seg188_91 (ha0 := ho95), brT (by omega)]
    obtain ⟨a1, a2, a3, a4, a5⟩ := h2
    exact hn D' n rk _ _ ⟨a1, a2, a3, fun e q1 q2 q3 q4 q5 _ => a4 e q1 q2 q3 q4 q5 (.inr (by omega)), a5⟩ h3
  intro k
  induction k with
  | zero =>
    intro x4 n D' rk h1 h2 h3 h4 h5 h6
    exact fin x4 n D' rk (by omega) h3 h6
  | succ k ih =>
    intro x4 n D' rk h1 h2 h3 h4 h5 h6
    by_cases e4 : x4 = -1
    · exact fin x4 n D' rk e4 h3 h6
    · obtain ⟨⟨g1, g2⟩, g3⟩ := h2.resolve_left e4
      obtain ⟨a1, a2, a3, a4, a5⟩ := id h3
      have bd := (sq_bd a3).1
      have nN := hN.2 x4 g1 g2
      have rN := hR x4 g1 g2
      rw [g3] at nN
      have i3 := a2.2.1 v hv.1 hv.2
      have i4 := a2.2.1 (D 101 x4) nN.2.1.1 nN.2.1.2
      have pv := hP.2.1 v
      have p0 := hP.2.1 0
      have f100 := a1 100 (by decide) (by decide) (by decide) (by decide)
      have f101 := a1 101 (by decide) (by decide) (by decide) (by decide)
      have f102 := a1 102 (by decide) (by decide) (by decide) (by decide)
      have f103 := a1 103 (by decide) (by decide) (by decide) (by decide)
      -- on to the next arc
      have nx : ∀ (D2 : xD) (n2 : Int) (rk2 : Int → Nat), skI D D2 p x1 n2 (fun e => D 100 e ≠ v ∨ x4 ≤ e) rk2 → (v = 0 ∨ D2 108 v ≠ -1) → D2 110 v = 0 → seM p (D2 107) n2 ≤ K → WP 124 xF1 none 188 230 [some (.inr (.inr (some 95))), some (.inl x1), some (.inl n2), some (.inl v), some (.inl x4)] [] D2 Q := by
        intro D2 n2 rk2 k1 k2 k3 k4
        have f105 := k1.1 105 (by decide) (by decide) (by decide) (by decide)
        rw [seg188_230 (ha0 := ho95), cnB (by omega)]
        simp only [Nat.reduceAdd]
        rw [f105]
        have j2 := hJ.2.1 x4 g1 g2
        refine ih (D 105 x4) n2 D2 rk2 (by omega) ?_ ⟨k1.1, k1.2.1, k1.2.2.1, fun e q1 q2 q3 q4 q5 q6 => ?_, k1.2.2.2.2⟩ k2 k3 k4
        · rcases j2 with z | ⟨z1, z2⟩
          · exact .inl z
          · exact .inr ⟨by omega, by rw [z2]; exact g3⟩
        · refine k1.2.2.2.1 e q1 q2 q3 q4 q5 ?_
          by_cases c1 : D 100 e = v
          · right
            by_cases c2 : e < x4
            · have := hJ.2.2.2 x4 e q1 c2 g2 (by rw [c1, g3])
              rcases q6 with q6 | q6
              · exact absurd c1 q6
              · omega
            · omega
          · exact .inl c1
      rw [seg188_91 (ha0 := ho95), brF (by omega), cnB (by omega)]
      simp only [Nat.reduceAdd]
      rw [f102, f103, f101]
      by_cases c1 : D 102 x4 = 0
      · rw [brT c1]
        refine nx D' n rk ⟨a1, a2, a3, fun e q1 q2 q3 q4 q5 q6 => ?_, a5⟩ h4 h5 h6
        by_cases c2 : e = x4
        · rw [c2] at q3; omega
        · refine a4 e q1 q2 q3 q4 q5 ?_
          rcases q6 with q6 | q6
          · exact .inl q6
          · exact .inr (by omega)
      · rw [brF c1, cnB (by omega), cnB (by omega), cnX (by omega), cnB (by omega), cnB (by omega)]
        by_cases c2 : D' 107 (D 101 x4) < D' 107 v + D 103 x4
        · rw [brT c2, cnB (by omega), cnB (by omega), cnB (by omega), cnX (by omega), cnB (by omega), cnB (by omega), cnB (by omega), cnB (by omega), cnB (by omega)]
          have go : ∀ (D2 : xD) (n2 : Int), n2 ≤ n + 1 → mqF D2 D → (∀ j, D2 107 j = if j = D 101 x4 then D' 107 v + D 103 x4 else D' 107 j) → (∀ j, D2 108 j = if j = D 101 x4 then x4 else D' 108 j) → sqI (D2 110) (D2 109) x1 n2 → (∀ j, D2 110 j = if j = D 101 x4 then 1 else D' 110 j) → WP 124 xF1 none 188 230 [some (.inr (.inr (some 95))), some (.inl x1), some (.inl n2), some (.inl v), some (.inl x4)] [] D2 Q := by
            intro D2 n2 hn2 k1 k2 k3 k4 k5
            obtain ⟨h0, rk', hI'⟩ := se_up (e := x4) hS hP a2 ⟨g1, g2⟩ (by omega) (by rw [g3]; exact h4) (by rw [g3]; exact c2) (by rw [g3]; exact k2) k3
            have vh : v ≠ D 101 x4 := nN.2.2.1
            have mm := seM_up (p := p) (n := n2) (b := D' 107) (b' := D2 107) nN.2.1 (by omega) k2
            have mm2 : seM p (D' 107) n2 = seM p (D' 107) n + (n2 - n) := by unfold seM; omega
            refine nx D2 n2 rk' ⟨k1, hI', k4, fun e q1 q2 q3 q4 q5 q6 => ?_, fun u u1 u2 u3 => ?_⟩ ?_ ?_ (by omega)
            · have th : D 100 e ≠ D 101 x4 := fun z => by
                rw [k5, if_pos z] at q5; omega
              rw [k5, if_neg th] at q5
              rw [k3, if_neg th] at q4
              rw [k2, if_neg th, k2]
              by_cases c3 : e = x4
              · rw [c3, if_pos rfl, g3]; exact Int.le_refl _
              · have old := a4 e q1 q2 q3 q4 q5 (by
                  rcases q6 with q6 | q6
                  · exact .inl q6
                  · exact .inr (by omega))
                by_cases c4 : D 101 e = D 101 x4
                · rw [if_pos c4]; rw [c4] at old; omega
                · rw [if_neg c4]; exact old
            · rw [k3]
              by_cases c3 : u = D 101 x4
              · rw [if_pos c3]; omega
              · rw [if_neg c3]
                rw [k5, if_neg c3] at u3
                exact a5 u u1 u2 u3
            · rcases h4 with z | z
              · exact .inl z
              · right; rw [k3, if_neg vh]; exact z
            · rw [k5, if_neg vh]; exact h5
          by_cases c3 : D' 110 (D 101 x4) = 0
          · rw [brT c3, cnB (by omega)]
            have s1 := a3.2.2.1
            rw [iand_127 (by omega)]
            refine ⟨⟨nN.2.1.1, nN.2.1.2, .inr trivial⟩, ?_⟩
            rw [cnX (by omega), cnB (by omega), cnB (by omega), cnX (by omega)]
            have q2 : ∀ j, xup (xup (xup (xup D' 107 (D 101 x4) (D' 107 v + D 103 x4)) 108 (D 101 x4) x4) 110 (D 101 x4) 1) 109 ((x1 + n) % 128) (D 101 x4) 110 j = if j = D 101 x4 then 1 else D' 110 j := fun j => by
              simp (disch := decide) only [up_ne, up_at]
            refine go _ (n + 1) (by omega) (fun a b1 b2 b3 b4 => by rw [up_ne b3, up_ne b4, up_ne b2, up_ne b1]; exact a1 a b1 b2 b3 b4) (fun j => by simp (disch := decide) only [up_ne, up_at]) (fun j => by simp (disch := decide) only [up_ne, up_at]) (sq_put a3 nN.2.1 c3 q2 (fun j => by simp (disch := decide) only [up_ne, up_at])) q2
          · rw [brF c3]
            have w1 : D' 110 (D 101 x4) = 1 := (a3.1 _ nN.2.1.1 nN.2.1.2).resolve_left c3
            have e110 : (xup (xup D' 107 (D 101 x4) (D' 107 v + D 103 x4)) 108 (D 101 x4) x4) 110 = D' 110 := by simp (disch := decide) only [up_ne]
            have e109 : (xup (xup D' 107 (D 101 x4) (D' 107 v + D 103 x4)) 108 (D 101 x4) x4) 109 = D' 109 := by simp (disch := decide) only [up_ne]
            refine go _ n (by omega) (fun a b1 b2 b3 b4 => by rw [up_ne b2, up_ne b1]; exact a1 a b1 b2 b3 b4) (fun j => by simp (disch := decide) only [up_ne, up_at]) (fun j => by simp (disch := decide) only [up_ne, up_at]) (by rw [e110, e109]; exact a3) (fun j => ?_)
            rw [e110]
            by_cases c4 : j = D 101 x4
            · rw [if_pos c4, c4]; exact w1
            · rw [if_neg c4]
        · rw [brF c2]
          refine nx D' n rk ⟨a1, a2, a3, fun e q1 q2 q3 q4 q5 q6 => ?_, a5⟩ h4 h5 h6
          by_cases c3 : e = x4
          · rw [c3, g3]; omega
          · refine a4 e q1 q2 q3 q4 q5 ?_
            rcases q6 with q6 | q6
            · exact .inl q6
            · exact .inr (by omega)
end M85
