/-! a town or a state copied; image, back, about -/
theorem tbN (n : Nat) (h : n < 4294967296) : (Int32.ofInt (n : Int)).toBitVec.toNat = n := by
  show (BitVec.ofInt 32 (n : Int)).toNat = n
  rw [BitVec.toNat_ofInt]
  have : ((2 ^ 32 : Nat) : Int) = 4294967296 := rfl
  rw [this]
  omega
theorem iand_nat (n m : Nat) (hn : n < 2147483648) (hm : m < 2147483648) : iand (n : Int) (m : Int) = ((n &&& m : Nat) : Int) := by
  show (Int32.ofInt (n : Int) &&& Int32.ofInt (m : Int)).toBitVec.toInt = _
  have h1 : (n &&& m) ≤ n := Nat.and_le_left
  rw [Int32.toBitVec_and, BitVec.toInt_eq_toNat_of_lt (by rw [BitVec.toNat_and, tbN n (by omega), tbN m (by omega)]; omega), BitVec.toNat_and, tbN n (by omega), tbN m (by omega)]
theorem iushr_nat (n k : Nat) (hn : n < 2147483648) (hk : k < 32) : iushr (n : Int) (k : Int) = ((n >>> k : Nat) : Int) := by
  show ((Int32.ofInt (n : Int)).toUInt32 >>> ((nI k).toUInt32 &&& Int32.toUInt32 31)).toBitVec.toInt = _
  rw [UInt32.toBitVec_shiftRight]
  show ((Int32.ofInt (n : Int)).toBitVec >>> (((nI k).toUInt32 &&& Int32.toUInt32 31).toBitVec % 32).toNat).toInt = _
  have h1 : n >>> k ≤ n := Nat.shiftRight_le n k
  rw [s_u k hk, BitVec.toInt_eq_toNat_of_lt (by rw [BitVec.toNat_ushiftRight, tbN n (by omega)]; omega), BitVec.toNat_ushiftRight, tbN n (by omega)]
theorem bI_nat (n k : Nat) (hn : n < 4294967296) : bI (n : Int) k = n.testBit k := by
  show (Int32.ofInt (n : Int)).toBitVec.toNat.testBit k = _
  rw [tbN n hn]
def bcA (n : Nat) : Nat := n - ((n >>> 1) &&& 1431655765)
def bcB (a : Nat) : Nat := (a &&& 858993459) + ((a >>> 2) &&& 858993459)
def bcC (b : Nat) : Nat := (b + (b >>> 4)) &&& 252645135
def bcD (c : Nat) : Nat := c + (c >>> 8)
def bcE (d : Nat) : Nat := (d + (d >>> 16)) &&& 63
def bcN (n : Nat) : Nat := bcE (bcD (bcC (bcB (bcA n))))
def b8A (l : Nat) : Nat := l - ((l / 2) &&& 85)
def b8B (a : Nat) : Nat := (a &&& 51) + ((a / 4) &&& 51)
def b8C (b : Nat) : Nat := (b + b / 16) &&& 15
def b8S (n : Nat) : Nat := n / 1 % 2 + (n / 2 % 2 + (n / 4 % 2 + (n / 8 % 2 + (n / 16 % 2 + (n / 32 % 2 + (n / 64 % 2 + (n / 128 % 2 + 0)))))))
def bsN (n : Nat) : Nat := n / 1 % 2 + (n / 2 % 2 + (n / 4 % 2 + (n / 8 % 2 + (n / 16 % 2 + (n / 32 % 2 + (n / 64 % 2 + (n / 128 % 2 + (n / 256 % 2 + (n / 512 % 2 + (n / 1024 % 2 + (n / 2048 % 2 + (n / 4096 % 2 + (n / 8192 % 2 + (n / 16384 % 2 + (n / 32768 % 2 + 0)))))))))))))))
theorem b8_all : ∀ l, l < 256 → (l / 2) &&& 85 ≤ l ∧ b8A l < 256 ∧ b8B (b8A l) ≤ 68 ∧ b8B (b8A l) % 16 ≤ 4 ∧ b8C (b8B (b8A l)) = b8S l ∧ b8S l ≤ 8 := by decide +kernel
theorem b8_1 : ∀ r, r < 2 → ∀ l, l < 256 → (128 * r + l / 2) &&& 85 = (l / 2) &&& 85 := by decide +kernel
theorem b8_2 : ∀ r, r < 4 → ∀ l, l < 256 → (64 * r + l / 4) &&& 51 = (l / 4) &&& 51 := by decide +kernel
theorem land8 (x1 x0 m1 m0 : Nat) (h0 : x0 < 256) (g0 : m0 < 256) : (256 * x1 + x0) &&& (256 * m1 + m0) = 256 * (x1 &&& m1) + (x0 &&& m0) := by
  have h1 := Nat.and_div_two_pow (a := 256 * x1 + x0) (b := 256 * m1 + m0) (n := 8)
  have h2 := Nat.and_mod_two_pow (a := 256 * x1 + x0) (b := 256 * m1 + m0) (n := 8)
  rw [show (256 * x1 + x0) / 2 ^ 8 = x1 by omega, show (256 * m1 + m0) / 2 ^ 8 = m1 by omega] at h1
  rw [show (256 * x1 + x0) % 2 ^ 8 = x0 by omega, show (256 * m1 + m0) % 2 ^ 8 = m0 by omega] at h2
  omega
theorem land8m (x1 x0 m1 m0 : Nat) (h1 : x1 < 256) (h0 : x0 < 256) (g0 : m0 < 256) : (256 * x1 + x0) &&& (256 * (256 * m1 + m0) + m0) = 256 * (x1 &&& m0) + (x0 &&& m0) := by
  have e := land8 0 x1 m1 m0 h1 g0
  rw [Nat.zero_and, Nat.mul_zero, Nat.zero_add, Nat.zero_add] at e
  rw [land8 _ _ _ _ h0 g0, e]
theorem bc_bs2 (h l : Nat) (hh : h < 256) (hl : l < 256) : bcN (256 * h + l) = b8S h + b8S l := by
  obtain ⟨p1, p2, p3, p4, p5, p6⟩ := b8_all h hh
  obtain ⟨q1, q2, q3, q4, q5, q6⟩ := b8_all l hl
  have e1 : bcA (256 * h + l) = 256 * b8A h + b8A l := by
    unfold bcA b8A
    rw [Nat.shiftRight_eq_div_pow, show (256 * h + l) / 2 ^ 1 = 256 * (h / 2) + (128 * (h % 2) + l / 2) by omega, show 1431655765 = 256 * (256 * 21845 + 85) + 85 by decide, land8m _ _ _ _ (by omega) (by omega) (by decide), b8_1 _ (by omega) _ hl]
    omega
  have e2 : bcB (256 * b8A h + b8A l) = 256 * b8B (b8A h) + b8B (b8A l) := by
    generalize b8A h = x at p2 ⊢
    generalize b8A l = y at q2 ⊢
    unfold bcB b8B
    rw [Nat.shiftRight_eq_div_pow, show (256 * x + y) / 2 ^ 2 = 256 * (x / 4) + (64 * (x % 4) + y / 4) by omega, show 858993459 = 256 * (256 * 13107 + 51) + 51 by decide, land8m _ _ _ _ (by omega) (by omega) (by decide), land8m _ _ _ _ (by omega) (by omega) (by decide), b8_2 _ (by omega) _ q2]
    omega
  have e3 : bcC (256 * b8B (b8A h) + b8B (b8A l)) = 256 * b8S h + b8S l := by
    rw [← p5, ← q5]
    generalize b8B (b8A h) = x at p3 p4 ⊢
    generalize b8B (b8A l) = y at q3 q4 ⊢
    unfold bcC b8C
    have m4 : ∀ z : Nat, z &&& 15 = z % 16 := fun z => Nat.and_two_pow_sub_one_eq_mod z 4
    rw [Nat.shiftRight_eq_div_pow, show 256 * x + y + (256 * x + y) / 2 ^ 4 = 256 * (x + x / 16) + (16 * (x % 16) + (y + y / 16)) by omega, show 252645135 = 256 * (256 * 3855 + 15) + 15 by decide, land8m _ _ _ _ (by omega) (by omega) (by decide), m4, m4, m4]
    omega
  have m6 : ∀ z : Nat, z &&& 63 = z % 64 := fun z => Nat.and_two_pow_sub_one_eq_mod z 6
  unfold bcN
  rw [e1, e2, e3]
  unfold bcD bcE
  rw [Nat.shiftRight_eq_div_pow, Nat.shiftRight_eq_div_pow, m6, show (256 * b8S h + b8S l) / 2 ^ 8 = b8S h by omega, show (256 * b8S h + b8S l + b8S h) / 2 ^ 16 = 0 by omega]
  omega
theorem bc_bs (n : Nat) (h : n < 65536) : bcN n = bsN n := by
  have e := bc_bs2 (n / 256) (n % 256) (by omega) (by omega)
  rw [show 256 * (n / 256) + n % 256 = n by omega] at e
  rw [e, Nat.add_comm]
  unfold bsN b8S
  rw [show n / 1 % 2 = n % 256 / 1 % 2 by omega, show n / 2 % 2 = n % 256 / 2 % 2 by omega, show n / 4 % 2 = n % 256 / 4 % 2 by omega, show n / 8 % 2 = n % 256 / 8 % 2 by omega, show n / 16 % 2 = n % 256 / 16 % 2 by omega, show n / 32 % 2 = n % 256 / 32 % 2 by omega, show n / 64 % 2 = n % 256 / 64 % 2 by omega, show n / 128 % 2 = n % 256 / 128 % 2 by omega, show n / 256 % 2 = n / 256 / 1 % 2 by omega, show n / 512 % 2 = n / 256 / 2 % 2 by omega, show n / 1024 % 2 = n / 256 / 4 % 2 by omega, show n / 2048 % 2 = n / 256 / 8 % 2 by omega, show n / 4096 % 2 = n / 256 / 16 % 2 by omega, show n / 8192 % 2 = n / 256 / 32 % 2 by omega, show n / 16384 % 2 = n / 256 / 64 % 2 by omega, show n / 32768 % 2 = n / 256 / 128 % 2 by omega]
  simp only [Nat.add_assoc, Nat.zero_add]
section M44
variable {K : (Int → Int) → (Int → Int) → (Int → Int) → (Int → Int) → (Int → Int) → (Int → Int) → (Int → Int) → (Int → Int) → Prop}
variable {x0 x1 x2 x3 s z : Int} {a0 a1 : Nat} {D D' : xD} {Q : Option xv → xD → Prop}
theorem m241 (h : 0 ≤ x0 ∧ x0 < 65536) : WP 124 xF1 none 241 0 [some (.inl x0)] [] D Q = Q (some (.inl (smI (fun k => iand (ishr x0 k) 1) 0 16))) D := by
  obtain ⟨n, rfl⟩ : ∃ n : Nat, x0 = n := ⟨x0.toNat, by omega⟩
  have hn : n < 65536 := by omega
  have c1 : ((1 : Nat) : Int) = 1 := rfl
  have c2 : ((2 : Nat) : Int) = 2 := rfl
  have c4 : ((4 : Nat) : Int) = 4 := rfl
  have c8 : ((8 : Nat) : Int) = 8 := rfl
  have c16 : ((16 : Nat) : Int) = 16 := rfl
  have cA : ((1431655765 : Nat) : Int) = 1431655765 := rfl
  have cB : ((858993459 : Nat) : Int) = 858993459 := rfl
  have cC : ((252645135 : Nat) : Int) = 252645135 := rfl
  have cE : ((63 : Nat) : Int) = 63 := rfl
  obtain ⟨a, ea⟩ : ∃ a, a = n - ((n >>> 1) &&& 1431655765) := ⟨_, rfl⟩
  obtain ⟨b, eb⟩ : ∃ b, b = (a &&& 858993459) + ((a >>> 2) &&& 858993459) := ⟨_, rfl⟩
  obtain ⟨c, ec⟩ : ∃ c, c = (b + (b >>> 4)) &&& 252645135 := ⟨_, rfl⟩
  obtain ⟨d, ed⟩ : ∃ d, d = c + (c >>> 8) := ⟨_, rfl⟩
  obtain ⟨e, ee⟩ : ∃ e, e = d + (d >>> 16) := ⟨_, rfl⟩
  have l1 : ((n >>> 1) &&& 1431655765) ≤ n := Nat.le_trans Nat.and_le_left (Nat.shiftRight_le _ _)
  have la : a < 65536 := by omega
  have l2 : (a &&& 858993459) ≤ a := Nat.and_le_left
  have l3 : ((a >>> 2) &&& 858993459) ≤ a := Nat.le_trans Nat.and_le_left (Nat.shiftRight_le _ _)
  have l4 : b >>> 4 ≤ b := Nat.shiftRight_le _ _
  have l5 : c ≤ b + (b >>> 4) := by rw [ec]; exact Nat.and_le_left
  have l6 : c >>> 8 ≤ c := Nat.shiftRight_le _ _
  have l7 : d >>> 16 ≤ d := Nat.shiftRight_le _ _
  have ha : (n : Int) - iand (iushr n 1) 1431655765 = (a : Int) := by
    have u1 := iushr_nat n 1 (by omega) (by decide)
    have u2 := iand_nat (n >>> 1) 1431655765 (by have := Nat.shiftRight_le n 1; omega) (by decide)
    rw [c1] at u1
    rw [cA] at u2
    rw [u1, u2, ea]
    omega
  have hb : iand (a : Int) 858993459 + iand (iushr a 2) 858993459 = (b : Int) := by
    have u1 := iushr_nat a 2 (by omega) (by decide)
    have u2 := iand_nat (a >>> 2) 858993459 (by have := Nat.shiftRight_le a 2; omega) (by decide)
    have u3 := iand_nat a 858993459 (by omega) (by decide)
    rw [c2] at u1
    rw [cB] at u2 u3
    rw [u1, u2, u3, eb]
    omega
  have hc0 : (b : Int) + iushr b 4 = ((b + (b >>> 4) : Nat) : Int) := by
    have u1 := iushr_nat b 4 (by omega) (by decide)
    rw [c4] at u1
    rw [u1]
    omega
  have hc : iand ((b + (b >>> 4) : Nat) : Int) 252645135 = (c : Int) := by
    have u1 := iand_nat (b + (b >>> 4)) 252645135 (by omega) (by decide)
    rw [cC] at u1
    rw [u1, ec]
  have hd : (c : Int) + iushr c 8 = (d : Int) := by
    have u1 := iushr_nat c 8 (by omega) (by decide)
    rw [c8] at u1
    rw [u1, ed]
    omega
  have he : (d : Int) + iushr d 16 = (e : Int) := by
    have u1 := iushr_nat d 16 (by omega) (by decide)
    rw [c16] at u1
    rw [u1, ee]
    omega
  have hf : iand (e : Int) 63 = (bsN n : Int) := by
    have u1 := iand_nat e 63 (by omega) (by decide)
    rw [cE] at u1
    rw [u1, ← bc_bs n hn]
    unfold bcN bcE bcD bcC bcB bcA
    rw [ee, ed, ec, eb, ea]
  have q : ∀ k : Nat, k < 16 → iand (ishr (n : Int) (k : Int)) 1 = ((n / 2 ^ k % 2 : Nat) : Int) := fun k hk => by
    rw [bit_eq _ _ (by omega), bI_nat n k (by omega), Nat.testBit_eq_decide_div_mod_eq]
    rcases Nat.mod_two_eq_zero_or_one (n / 2 ^ k) with h | h <;> rw [h] <;> rfl
  have q0 : iand (ishr (n : Int) 0) 1 = ((n / 1 % 2 : Nat) : Int) := by
    have u := q 0 (by decide)
    rw [show ((0 : Nat) : Int) = 0 from rfl, show 2 ^ 0 = 1 from rfl] at u
    exact u
  have q1 : iand (ishr (n : Int) 1) 1 = ((n / 2 % 2 : Nat) : Int) := by
    have u := q 1 (by decide)
    rw [show ((1 : Nat) : Int) = 1 from rfl, show 2 ^ 1 = 2 from rfl] at u
    exact u
  have q2 : iand (ishr (n : Int) 2) 1 = ((n / 4 % 2 : Nat) : Int) := by
    have u := q 2 (by decide)
    rw [show ((2 : Nat) : Int) = 2 from rfl, show 2 ^ 2 = 4 from rfl] at u
    exact u
  have q3 : iand (ishr (n : Int) 3) 1 = ((n / 8 % 2 : Nat) : Int) := by
    have u := q 3 (by decide)
    rw [show ((3 : Nat) : Int) = 3 from rfl, show 2 ^ 3 = 8 from rfl] at u
    exact u
  have q4 : iand (ishr (n : Int) 4) 1 = ((n / 16 % 2 : Nat) : Int) := by
    have u := q 4 (by decide)
    rw [show ((4 : Nat) : Int) = 4 from rfl, show 2 ^ 4 = 16 from rfl] at u
    exact u
  have q5 : iand (ishr (n : Int) 5) 1 = ((n / 32 % 2 : Nat) : Int) := by
    have u := q 5 (by decide)
    rw [show ((5 : Nat) : Int) = 5 from rfl, show 2 ^ 5 = 32 from rfl] at u
    exact u
  have q6 : iand (ishr (n : Int) 6) 1 = ((n / 64 % 2 : Nat) : Int) := by
    have u := q 6 (by decide)
    rw [show ((6 : Nat) : Int) = 6 from rfl, show 2 ^ 6 = 64 from rfl] at u
    exact u
  have q7 : iand (ishr (n : Int) 7) 1 = ((n / 128 % 2 : Nat) : Int) := by
    have u := q 7 (by decide)
    rw [show ((7 : Nat) : Int) = 7 from rfl, show 2 ^ 7 = 128 from rfl] at u
    exact u
  have q8 : iand (ishr (n : Int) 8) 1 = ((n / 256 % 2 : Nat) : Int) := by
    have u := q 8 (by decide)
    rw [show ((8 : Nat) : Int) = 8 from rfl, show 2 ^ 8 = 256 from rfl] at u
    exact u
  have q9 : iand (ishr (n : Int) 9) 1 = ((n / 512 % 2 : Nat) : Int) := by
    have u := q 9 (by decide)
    rw [show ((9 : Nat) : Int) = 9 from rfl, show 2 ^ 9 = 512 from rfl] at u
    exact u
  have q10 : iand (ishr (n : Int) 10) 1 = ((n / 1024 % 2 : Nat) : Int) := by
    have u := q 10 (by decide)
    rw [show ((10 : Nat) : Int) = 10 from rfl, show 2 ^ 10 = 1024 from rfl] at u
    exact u
  have q11 : iand (ishr (n : Int) 11) 1 = ((n / 2048 % 2 : Nat) : Int) := by
    have u := q 11 (by decide)
    rw [show ((11 : Nat) : Int) = 11 from rfl, show 2 ^ 11 = 2048 from rfl] at u
    exact u
  have q12 : iand (ishr (n : Int) 12) 1 = ((n / 4096 % 2 : Nat) : Int) := by
    have u := q 12 (by decide)
    rw [show ((12 : Nat) : Int) = 12 from rfl, show 2 ^ 12 = 4096 from rfl] at u
    exact u
  have q13 : iand (ishr (n : Int) 13) 1 = ((n / 8192 % 2 : Nat) : Int) := by
    have u := q 13 (by decide)
    rw [show ((13 : Nat) : Int) = 13 from rfl, show 2 ^ 13 = 8192 from rfl] at u
    exact u
  have q14 : iand (ishr (n : Int) 14) 1 = ((n / 16384 % 2 : Nat) : Int) := by
    have u := q 14 (by decide)
    rw [show ((14 : Nat) : Int) = 14 from rfl, show 2 ^ 14 = 16384 from rfl] at u
    exact u
  have q15 : iand (ishr (n : Int) 15) 1 = ((n / 32768 % 2 : Nat) : Int) := by
    have u := q 15 (by decide)
    rw [show ((15 : Nat) : Int) = 15 from rfl, show 2 ^ 15 = 32768 from rfl] at u
    exact u
  have hs : smI (fun k => iand (ishr (n : Int) k) 1) 0 16 = (bsN n : Int) := by
    simp only [smI, Int.reduceAdd]
    rw [q0, q1, q2, q3, q4, q5, q6, q7, q8, q9, q10, q11, q12, q13, q14, q15]
    unfold bsN
    simp only [Int.natCast_add]
    rfl
  rw [seg241_0, ha, hb, hc0, hc, hd, he, hf, hs]
  rw [cnX (by omega), cnX (by omega), cnX (by omega), cnX (by omega), cnX (by omega)]
/-- the cells of a town at s are there at s' -/
def TC (D : xD) (s : Nat) (D' : xD) (s' : Nat) : Prop :=
  (D' s' 11 = D s 11 ∧ D' s' 12 = D s 12 ∧ D' s' 13 = D s 13 ∧ D' s' 14 = D s 14 ∧ D' s' 15 = D s 15) ∧
  (∀ j, 0 ≤ j → j < 16 → D' (s' + 1) j = D (s + 1) j ∧ D' (s' + 2) j = D (s + 2) j ∧ D' (s' + 3) j = D (s + 3) j ∧ D' (s' + 4) j = D (s + 4) j ∧ D' (s' + 5) j = D (s + 5) j ∧ D' (s' + 6) j = D (s + 6) j) ∧
  (∀ j, 0 ≤ j → j < 8 → D' (s' + 7) j = D (s + 7) j ∧ D' (s' + 8) j = D (s + 8) j) ∧
  (∀ j, 0 ≤ j → j < 6 → D' (s' + 9) j = D (s + 9) j ∧ D' (s' + 10) j = D (s + 10) j ∧ D' (s' + 11) j = D (s + 11) j)
theorem m93 (ha0 : xisO 124 a0 7 = true) (ha1 : xisO 124 a1 7 = true) (hd : a0 + 11 < a1 ∨ a1 + 11 < a0) (hQ : ∀ D', (∀ a, (a < a0 ∨ a0 + 11 < a) → D' a = D a) → TC D a1 D' a0 → Q none D') : WP 124 xF1 none 93 0 [some (.inr (.inr (some a0))), some (.inr (.inr (some a1)))] [] D Q := by
  rw [seg93_0 (ha0 := ha0) (ha1 := ha1)]
  obtain ⟨T, hT⟩ : ∃ T, T = (xcpy (xcpy (xcpy (xcpy (xcpy (xcpy (xcpy (xcpy (xcpy (xcpy (xcpy D (a1 + 1) (a0 + 1) 0 0 16) (a1 + 2) (a0 + 2) 0 0 16) (a1 + 3) (a0 + 3) 0 0 16) (a1 + 4) (a0 + 4) 0 0 16) (a1 + 5) (a0 + 5) 0 0 16) (a1 + 6) (a0 + 6) 0 0 16) (a1 + 7) (a0 + 7) 0 0 8) (a1 + 8) (a0 + 8) 0 0 8) (a1 + 9) (a0 + 9) 0 0 6) (a1 + 10) (a0 + 10) 0 0 6) (a1 + 11) (a0 + 11) 0 0 6) := ⟨_, rfl⟩
  rw [← hT]
  have f0 : ∀ a, (a < a0 + 1 ∨ a0 + 11 < a) → T a = D a := fun a ha => by
    rw [hT, cpy_ne (by omega), cpy_ne (by omega), cpy_ne (by omega), cpy_ne (by omega), cpy_ne (by omega), cpy_ne (by omega), cpy_ne (by omega), cpy_ne (by omega), cpy_ne (by omega), cpy_ne (by omega), cpy_ne (by omega)]
  have g1 : ∀ j, 0 ≤ j → j < 16 → T (a0 + 1) j = D (a1 + 1) j := fun j j1 j2 => by
    rw [hT, cpy_ne (by omega), cpy_ne (by omega), cpy_ne (by omega), cpy_ne (by omega), cpy_ne (by omega), cpy_ne (by omega), cpy_ne (by omega), cpy_ne (by omega), cpy_ne (by omega), cpy_ne (by omega), cpy_in ⟨j1, j2⟩]
  have g2 : ∀ j, 0 ≤ j → j < 16 → T (a0 + 2) j = D (a1 + 2) j := fun j j1 j2 => by
    rw [hT, cpy_ne (by omega), cpy_ne (by omega), cpy_ne (by omega), cpy_ne (by omega), cpy_ne (by omega), cpy_ne (by omega), cpy_ne (by omega), cpy_ne (by omega), cpy_ne (by omega), cpy_in ⟨j1, j2⟩, cpy_ne (by omega)]
  have g3 : ∀ j, 0 ≤ j → j < 16 → T (a0 + 3) j = D (a1 + 3) j := fun j j1 j2 => by
    rw [hT, cpy_ne (by omega), cpy_ne (by omega), cpy_ne (by omega), cpy_ne (by omega), cpy_ne (by omega), cpy_ne (by omega), cpy_ne (by omega), cpy_ne (by omega), cpy_in ⟨j1, j2⟩, cpy_ne (by omega), cpy_ne (by omega)]
  have g4 : ∀ j, 0 ≤ j → j < 16 → T (a0 + 4) j = D (a1 + 4) j := fun j j1 j2 => by
    rw [hT, cpy_ne (by omega), cpy_ne (by omega), cpy_ne (by omega), cpy_ne (by omega), cpy_ne (by omega), cpy_ne (by omega), cpy_ne (by omega), cpy_in ⟨j1, j2⟩, cpy_ne (by omega), cpy_ne (by omega), cpy_ne (by omega)]
  have g5 : ∀ j, 0 ≤ j → j < 16 → T (a0 + 5) j = D (a1 + 5) j := fun j j1 j2 => by
    rw [hT, cpy_ne (by omega), cpy_ne (by omega), cpy_ne (by omega), cpy_ne (by omega), cpy_ne (by omega), cpy_ne (by omega), cpy_in ⟨j1, j2⟩, cpy_ne (by omega), cpy_ne (by omega), cpy_ne (by omega), cpy_ne (by omega)]
  have g6 : ∀ j, 0 ≤ j → j < 16 → T (a0 + 6) j = D (a1 + 6) j := fun j j1 j2 => by
    rw [hT, cpy_ne (by omega), cpy_ne (by omega), cpy_ne (by omega), cpy_ne (by omega), cpy_ne (by omega), cpy_in ⟨j1, j2⟩, cpy_ne (by omega), cpy_ne (by omega), cpy_ne (by omega), cpy_ne (by omega), cpy_ne (by omega)]
  have g7 : ∀ j, 0 ≤ j → j < 8 → T (a0 + 7) j = D (a1 + 7) j := fun j j1 j2 => by
    rw [hT, cpy_ne (by omega), cpy_ne (by omega), cpy_ne (by omega), cpy_ne (by omega), cpy_in ⟨j1, j2⟩, cpy_ne (by omega), cpy_ne (by omega), cpy_ne (by omega), cpy_ne (by omega), cpy_ne (by omega), cpy_ne (by omega)]
  have g8 : ∀ j, 0 ≤ j → j < 8 → T (a0 + 8) j = D (a1 + 8) j := fun j j1 j2 => by
    rw [hT, cpy_ne (by omega), cpy_ne (by omega), cpy_ne (by omega), cpy_in ⟨j1, j2⟩, cpy_ne (by omega), cpy_ne (by omega), cpy_ne (by omega), cpy_ne (by omega), cpy_ne (by omega), cpy_ne (by omega), cpy_ne (by omega)]
  have g9 : ∀ j, 0 ≤ j → j < 6 → T (a0 + 9) j = D (a1 + 9) j := fun j j1 j2 => by
    rw [hT, cpy_ne (by omega), cpy_ne (by omega), cpy_in ⟨j1, j2⟩, cpy_ne (by omega), cpy_ne (by omega), cpy_ne (by omega), cpy_ne (by omega), cpy_ne (by omega), cpy_ne (by omega), cpy_ne (by omega), cpy_ne (by omega)]
  have g10 : ∀ j, 0 ≤ j → j < 6 → T (a0 + 10) j = D (a1 + 10) j := fun j j1 j2 => by
    rw [hT, cpy_ne (by omega), cpy_in ⟨j1, j2⟩, cpy_ne (by omega), cpy_ne (by omega), cpy_ne (by omega), cpy_ne (by omega), cpy_ne (by omega), cpy_ne (by omega), cpy_ne (by omega), cpy_ne (by omega), cpy_ne (by omega)]
  have g11 : ∀ j, 0 ≤ j → j < 6 → T (a0 + 11) j = D (a1 + 11) j := fun j j1 j2 => by
    rw [hT, cpy_in ⟨j1, j2⟩, cpy_ne (by omega), cpy_ne (by omega), cpy_ne (by omega), cpy_ne (by omega), cpy_ne (by omega), cpy_ne (by omega), cpy_ne (by omega), cpy_ne (by omega), cpy_ne (by omega), cpy_ne (by omega)]
  clear hT
  have k1 : ∀ (E : xD) (i v : Int), xup E a0 i v a1 = E a1 := fun E i v => up_ne (by omega)
  simp only [k1, f0 a1 (by omega)]
  refine ⟨by decide, by decide, by decide, by decide, by decide, by decide, by decide, by decide, by decide, by decide, by decide, hQ _ (fun a ha => ?_) ⟨⟨?_, ?_, ?_, ?_, ?_⟩, fun j j1 j2 => ⟨?_, ?_, ?_, ?_, ?_, ?_⟩, fun j j1 j2 => ⟨?_, ?_⟩, fun j j1 j2 => ⟨?_, ?_, ?_⟩⟩⟩
  · rw [up_ne (by omega), up_ne (by omega), up_ne (by omega), up_ne (by omega), up_ne (by omega), f0 a (by omega)]
  · rw [up_ne2 (by decide), up_ne2 (by decide), up_ne2 (by decide), up_ne2 (by decide), up_eq]
  · rw [up_ne2 (by decide), up_ne2 (by decide), up_ne2 (by decide), up_eq]
  · rw [up_ne2 (by decide), up_ne2 (by decide), up_eq]
  · rw [up_ne2 (by decide), up_eq]
  · rw [up_eq]
  · rw [up_ne (by omega), up_ne (by omega), up_ne (by omega), up_ne (by omega), up_ne (by omega), g1 j j1 j2]
  · rw [up_ne (by omega), up_ne (by omega), up_ne (by omega), up_ne (by omega), up_ne (by omega), g2 j j1 j2]
  · rw [up_ne (by omega), up_ne (by omega), up_ne (by omega), up_ne (by omega), up_ne (by omega), g3 j j1 j2]
  · rw [up_ne (by omega), up_ne (by omega), up_ne (by omega), up_ne (by omega), up_ne (by omega), g4 j j1 j2]
  · rw [up_ne (by omega), up_ne (by omega), up_ne (by omega), up_ne (by omega), up_ne (by omega), g5 j j1 j2]
  · rw [up_ne (by omega), up_ne (by omega), up_ne (by omega), up_ne (by omega), up_ne (by omega), g6 j j1 j2]
  · rw [up_ne (by omega), up_ne (by omega), up_ne (by omega), up_ne (by omega), up_ne (by omega), g7 j j1 j2]
  · rw [up_ne (by omega), up_ne (by omega), up_ne (by omega), up_ne (by omega), up_ne (by omega), g8 j j1 j2]
  · rw [up_ne (by omega), up_ne (by omega), up_ne (by omega), up_ne (by omega), up_ne (by omega), g9 j j1 j2]
  · rw [up_ne (by omega), up_ne (by omega), up_ne (by omega), up_ne (by omega), up_ne (by omega), g10 j j1 j2]
  · rw [up_ne (by omega), up_ne (by omega), up_ne (by omega), up_ne (by omega), up_ne (by omega), g11 j j1 j2]
/-- the cells of a state at s are there at s' -/
def SC (D : xD) (s : Nat) (D' : xD) (s' : Nat) : Prop :=
  TC D (s + 1) D' (s' + 1) ∧ (D' s' 1 = D s 1 ∧ D' s' 3 = D s 3) ∧
  (∀ j, 0 ≤ j → j < 8 → D' (s' + 13) j = D (s + 13) j ∧ D' (s' + 14) j = D (s + 14) j ∧ D' (s' + 15) j = D (s + 15) j ∧ D' (s' + 16) j = D (s + 16) j) ∧
  (∀ j, 0 ≤ j → j < 208 → D' (s' + 17) j = D (s + 17) j ∧ D' (s' + 18) j = D (s + 18) j)
theorem m77 (ha0 : xisO 124 a0 6 = true) (ha1 : xisO 124 a1 6 = true) (hb0 : xisO 124 (a0 + 1) 7 = true) (hb1 : xisO 124 (a1 + 1) 7 = true) (hd : a0 + 18 < a1 ∨ a1 + 18 < a0) (hQ : ∀ D', (∀ a, (a < a0 ∨ a0 + 18 < a) → D' a = D a) → SC D a1 D' a0 → Q none D') : WP 124 xF1 none 77 0 [some (.inr (.inr (some a0))), some (.inr (.inr (some a1)))] [] D Q := by
  rw [seg77_0 (ha0 := ha0) (ha1 := ha1)]
  refine m93 hb0 hb1 (by omega) (fun D1 hf hT => ?_)
  simp only [Option.toList_some, Option.toList_none, List.cons_append, List.nil_append]
  rw [seg77_11 (ha0 := ha0) (ha1 := ha1)]
  obtain ⟨t1, t2, t3, t4⟩ := hT
  have g : ∀ a, (a < a0 ∨ a0 + 18 < a ∨ (a0 + 1 ≤ a ∧ a ≤ a0 + 12)) → (xcpy (xcpy (xcpy (xcpy (xcpy (xup (xcpy (xup D1 a0 1 (D1 a1 1)) (a1 + 13) (a0 + 13) 0 0 8) a0 3 ((xcpy (xup D1 a0 1 (D1 a1 1)) (a1 + 13) (a0 + 13) 0 0 8) a1 3)) (a1 + 14) (a0 + 14) 0 0 8) (a1 + 15) (a0 + 15) 0 0 8) (a1 + 16) (a0 + 16) 0 0 8) (a1 + 17) (a0 + 17) 0 0 208) (a1 + 18) (a0 + 18) 0 0 208) a = D1 a := fun a ha => by
    rw [cpy_ne (by omega), cpy_ne (by omega), cpy_ne (by omega), cpy_ne (by omega), cpy_ne (by omega), up_ne (by omega), cpy_ne (by omega), up_ne (by omega)]
  refine ⟨by decide, by decide, by decide, by decide, by decide, by decide, hQ _ (fun a ha => ?_) ⟨?_, ⟨?_, ?_⟩, fun j j1 j2 => ⟨?_, ?_, ?_, ?_⟩, fun j j1 j2 => ⟨?_, ?_⟩⟩⟩
  · rw [g a (by omega)]
    exact hf a (by omega)
  · unfold TC
    rw [g (a0 + 1) (by omega), g (a0 + 1 + 1) (by omega), g (a0 + 1 + 2) (by omega), g (a0 + 1 + 3) (by omega), g (a0 + 1 + 4) (by omega), g (a0 + 1 + 5) (by omega), g (a0 + 1 + 6) (by omega), g (a0 + 1 + 7) (by omega), g (a0 + 1 + 8) (by omega), g (a0 + 1 + 9) (by omega), g (a0 + 1 + 10) (by omega), g (a0 + 1 + 11) (by omega)]
    exact ⟨t1, t2, t3, t4⟩
  · rw [cpy_ne (by omega), cpy_ne (by omega), cpy_ne (by omega), cpy_ne (by omega), cpy_ne (by omega), up_ne2 (by decide), cpy_ne (by omega), up_eq, hf a1 (by omega)]
  · rw [cpy_ne (by omega), cpy_ne (by omega), cpy_ne (by omega), cpy_ne (by omega), cpy_ne (by omega), up_eq, cpy_ne (by omega), up_ne (by omega), hf a1 (by omega)]
  · rw [cpy_ne (by omega), cpy_ne (by omega), cpy_ne (by omega), cpy_ne (by omega), cpy_ne (by omega), up_ne (by omega), cpy_in ⟨j1, j2⟩, up_ne (by omega), hf (a1 + 13) (by omega)]
  · rw [cpy_ne (by omega), cpy_ne (by omega), cpy_ne (by omega), cpy_ne (by omega), cpy_in ⟨j1, j2⟩, up_ne (by omega), cpy_ne (by omega), up_ne (by omega), hf (a1 + 14) (by omega)]
  · rw [cpy_ne (by omega), cpy_ne (by omega), cpy_ne (by omega), cpy_in ⟨j1, j2⟩, cpy_ne (by omega), up_ne (by omega), cpy_ne (by omega), up_ne (by omega), hf (a1 + 15) (by omega)]
  · rw [cpy_ne (by omega), cpy_ne (by omega), cpy_in ⟨j1, j2⟩, cpy_ne (by omega), cpy_ne (by omega), up_ne (by omega), cpy_ne (by omega), up_ne (by omega), hf (a1 + 16) (by omega)]
  · rw [cpy_ne (by omega), cpy_in ⟨j1, j2⟩, cpy_ne (by omega), cpy_ne (by omega), cpy_ne (by omega), up_ne (by omega), cpy_ne (by omega), up_ne (by omega), hf (a1 + 17) (by omega)]
  · rw [cpy_in ⟨j1, j2⟩, cpy_ne (by omega), cpy_ne (by omega), cpy_ne (by omega), cpy_ne (by omega), up_ne (by omega), cpy_ne (by omega), up_ne (by omega), hf (a1 + 18) (by omega)]

theorem IS_move {A : Int → Int} {s s' : Nat} (H : IS D s A) (hA : A 0 ≤ 16 ∧ A 1 ≤ 6 ∧ A 6 ≤ 8) (hC : SC D s D' s') : IS D' s' A := by
  obtain ⟨⟨e1, e2, e3, e4, e5⟩, ⟨b1, b2, b3⟩, hsl, hst, hp, hd, hc, hk⟩ := H
  obtain ⟨⟨⟨t1, t2, t3, t4, t5⟩, u1, u2, u3⟩, ⟨v1, v2⟩, v3, v4⟩ := hC
  refine ⟨⟨?_, ?_, ?_, ?_, ?_⟩, ⟨?_, ?_, fun k k1 k2 => ?_⟩, fun d d1 d2 => ?_, fun k k1 k2 => ?_, fun p p1 p2 => ?_, fun d d1 d2 => ?_, fun c c1 c2 => ?_, fun k k1 k2 => ?_⟩
  · rw [t1]; exact e1
  · rw [t2]; exact e2
  · rw [t5]; exact e3
  · rw [v1]; exact e4
  · rw [v2]; exact e5
  · rw [t3]; exact b1
  · rw [t3]; exact b2
  · rw [t3]; exact b3 k k1 k2
  · rw [t4]; exact hsl d d1 d2
  · obtain ⟨q1, q2, q3, q4, q5, q6⟩ := u1 k k1 (by omega)
    rw [show s' + 2 = s' + 1 + 1 from rfl, show s' + 3 = s' + 1 + 2 from rfl, show s' + 4 = s' + 1 + 3 from rfl, show s' + 5 = s' + 1 + 4 from rfl, show s' + 6 = s' + 1 + 5 from rfl, show s' + 7 = s' + 1 + 6 from rfl, q1, q2, q3, q4, q5, q6]; exact hst k k1 k2
  · obtain ⟨q1, q2⟩ := u2 p p1 p2
    obtain ⟨r1, -⟩ := v3 p p1 p2
    rw [show s' + 8 = s' + 1 + 7 from rfl, show s' + 9 = s' + 1 + 8 from rfl, q1, q2, r1]; exact hp p p1 p2
  · obtain ⟨q1, q2, q3⟩ := u3 d d1 (by omega)
    rw [show s' + 10 = s' + 1 + 9 from rfl, show s' + 11 = s' + 1 + 10 from rfl, show s' + 12 = s' + 1 + 11 from rfl, q1, q2, q3]; exact hd d d1 d2
  · obtain ⟨-, r2, r3, r4⟩ := v3 c c1 (by omega)
    rw [r2, r3, r4]; exact hc c c1 c2
  · obtain ⟨r1, r2⟩ := v4 k k1 k2
    rw [r1, r2]; exact hk k k1 k2
/-- what lies outside the array's places does not matter -/
theorem IS_cgA {A B : Int → Int} {s : Nat} (H : IS D s A) (hA : A 0 ≤ 16 ∧ A 1 ≤ 6 ∧ A 6 ≤ 8) (h : ∀ j, 0 ≤ j ∧ j < 640 → B j = A j) : IS D s B := by
  obtain ⟨⟨e1, e2, e3, e4, e5⟩, hb, hsl, hst, hp, hd, hc, hk⟩ := id H
  refine IS_of H (fun a _ _ => rfl) (fun j hj => h j (by omega)) ⟨hA.1, hA.2.1⟩ ?_ ?_ (fun p p1 p2 => ?_) (fun c c1 c2 => ?_) (fun k k1 k2 => ?_)
  · rw [h 5 (by omega)]; exact e4
  · rw [h 6 (by omega)]; exact e5
  · rw [h _ (by omega)]; exact (hp p p1 p2).2.2
  · rw [h 6 (by omega)] at c2
    rw [h _ (by omega), h _ (by omega), h _ (by omega)]; exact hc c c1 c2
  · rw [h _ (by omega), h _ (by omega)]; exact hk k k1 k2
theorem Wf_cgA {A B : Int → Int} (W : WfA A) (h : ∀ j, 0 ≤ j ∧ j < 640 → B j = A j) : WfA B := by
  obtain ⟨⟨w0, w1, w2, w3, w4, w5⟩, ws, wd, wsum, wp, wc, wk, wx1, wx2, wx3⟩ := id W
  have ef : ∀ s, 0 ≤ s → s < A 0 → frM B s = frM A s := fun s s1 s2 => (frM_cg2 (fun j hj => h j (by omega)) ⟨s1, by omega⟩).1
  refine Wf_of W (fun j hj => h j (by omega)) (by rw [h 5 (by omega)]; exact wx2) (by rw [h 6 (by omega)]; exact ⟨w4, w5⟩) (fun p p1 p2 => ?_) (fun c c1 c2 => ?_) (fun k k1 k2 => ?_)
  · rw [h _ (by omega)]
    rcases (wp p p1 p2).2.2 with q | ⟨q, r, t⟩
    · exact .inl q
    · exact .inr ⟨q, r, by rw [ef _ q r, t]⟩
  · rw [h 6 (by omega)] at c2
    rw [h _ (by omega), h _ (by omega), h _ (by omega)]
    obtain ⟨v1, v2, v3⟩ := wc c c1 c2
    refine ⟨v1, v2, ?_⟩
    rcases v3 with q | ⟨q, r, t⟩
    · exact .inl q
    · exact .inr ⟨q, r, by rw [ef _ q r, t]⟩
  · rw [h _ (by omega), h _ (by omega)]; exact wk k k1 k2
theorem pair26 : xpr (Inv K) 141 [some (.inr (.inr (some 1)))] 236 [some (.inr (.inr (some 95)))] := by
  intro D H
  obtain ⟨ht, hs, hw, -, -, hK, hf⟩ := id H
  obtain ⟨⟨w0, w1, w2, w3, w4, w5⟩, -⟩ := id hw
  rw [seg141_0 (ha0 := ho1)]
  simp only [Nat.reduceAdd]
  refine m77 ho22 ho3 ho23 ho4 (by omega) (fun D1 h1 hS => ?_)
  simp only [Option.toList_some, Option.toList_none, List.cons_append, List.nil_append]
  rw [seg141_11 (ha0 := ho1)]
  simp only [Nat.reduceAdd]
  refine ⟨D1 4 11, rfl, h1 0 (by omega), ?_⟩
  have e1 : D1 4 11 = D 96 0 := by rw [h1 4 (by omega)]; exact hs.1.1
  rw [e1, seg236_0 (ha0 := ho95)]
  simp only [Nat.reduceAdd]
  rw [m148 hl96 hl97 (by decide)]
  simp only [Option.toList_some, Option.toList_none, List.cons_append, List.nil_append]
  rw [seg236_11 (ha0 := ho95), cnB (by omega)]
  simp only [Nat.reduceAdd]
  have n97 : ∀ a, a ≠ 97 → xcpy D1 96 97 0 0 640 a = D1 a := fun a ha => cpy_ne ha
  have i97 : ∀ j, 0 ≤ j ∧ j < 640 → xcpy D1 96 97 0 0 640 97 j = D 96 j := fun j hj => by rw [cpy_in hj, h1 96 (by omega)]
  refine ⟨by rw [n97 96 (by decide), h1 96 (by omega)], by rw [n97 0 (by decide)]; exact h1 0 (by omega), ?_⟩
  generalize xcpy D1 96 97 0 0 640 = D2 at n97 i97
  have n2 : ∀ a, a < 22 ∨ 40 < a → a ≠ 97 → D2 a = D a := fun a a1 a2 => by rw [n97 a a2, h1 a (by omega)]
  have hS2 : SC D 3 D2 22 := by
    unfold SC TC at hS ⊢
    simp only [Nat.reduceAdd] at hS ⊢
    rw [n97 22 (by decide), n97 23 (by decide), n97 24 (by decide), n97 25 (by decide), n97 26 (by decide), n97 27 (by decide), n97 28 (by decide), n97 29 (by decide), n97 30 (by decide), n97 31 (by decide), n97 32 (by decide), n97 33 (by decide), n97 34 (by decide), n97 35 (by decide), n97 36 (by decide), n97 37 (by decide), n97 38 (by decide), n97 39 (by decide), n97 40 (by decide)]
    exact hS
  refine ⟨?_, ?_, ?_, ?_, ?_, ?_, ?_⟩
  · rw [n2 1 (by omega) (by decide), n2 2 (by omega) (by decide), n2 95 (by omega) (by decide), n2 99 (by omega) (by decide)]; exact ht
  · rw [n2 96 (by omega) (by decide)]
    exact IS_congr (fun a e1 e2 => n2 a (by omega) (by omega)) hs
  · rw [n2 96 (by omega) (by decide)]; exact hw
  · exact IS_cgA (IS_move hs ⟨w1, w3, w5⟩ hS2) ⟨w1, w3, w5⟩ i97
  · exact Wf_cgA hw i97
  · rw [n2 96 (by omega) (by decide), n2 56 (by omega) (by decide), n2 68 (by omega) (by decide), n2 69 (by omega) (by decide), n2 70 (by omega) (by decide), n2 71 (by omega) (by decide), n2 91 (by omega) (by decide), n2 92 (by omega) (by decide)]; exact hK
  · rw [n2 85 (by omega) (by decide)]; exact hf
/-- what was worked out is forgotten -/
def KF (K : (Int → Int) → (Int → Int) → (Int → Int) → (Int → Int) → (Int → Int) → (Int → Int) → (Int → Int) → (Int → Int) → Prop) : Prop :=
  ∀ (T c1 c2 c3 c4 c5 c6 c7 : Int → Int), c1 1 = 0 → c1 9 = 0 → (∀ j, 0 ≤ j → j < 13 → c4 j = -1) → (∀ j, 0 ≤ j → j < 169 → c5 j = 0) → c6 0 = 0 → K T c1 c2 c3 c4 c5 c6 c7
def fgt (D : xD) : xD := xup (xfil (xfil (xup (xup D 56 1 0) 56 9 0) 70 0 (13 : Nat) (-1)) 71 0 (169 : Nat) 0) 91 0 0
theorem m116 : WP 124 xF1 none 116 0 [some (.inr (.inr (some 1)))] [] D Q = Q none (fgt D) := by
  rw [seg116_0 (ha0 := ho1)]
  simp only [Nat.reduceAdd]
  rw [seg45_0 (ha0 := ho56)]
  simp only [Nat.reduceAdd]
  rw [m240 (L := 13) rfl (by decide)]
  simp only [Option.toList_some, Option.toList_none, List.cons_append, List.nil_append]
  rw [seg45_18 (ha0 := ho56)]
  simp only [Nat.reduceAdd]
  rw [m240 (L := 169) rfl (by decide)]
  simp only [Option.toList_some, Option.toList_none, List.cons_append, List.nil_append]
  rw [seg45_26 (ha0 := ho56)]
  simp only [Option.toList_some, Option.toList_none, List.cons_append, List.nil_append]
  rw [seg116_7 (ha0 := ho1)]
  simp only [Nat.reduceAdd]
  rw [seg7_0 (ha0 := ho91)]
  simp only [Option.toList_some, Option.toList_none, List.cons_append, List.nil_append]
  rw [seg116_14 (ha0 := ho1)]
  rfl
theorem fgt_ne {a : Nat} (h : a ≠ 56 ∧ a ≠ 70 ∧ a ≠ 71 ∧ a ≠ 91) : fgt D a = D a := by
  unfold fgt
  rw [up_ne h.2.2.2, fil_ne h.2.2.1, fil_ne h.2.1, up_ne h.1, up_ne h.1]
theorem fgt_K (hK : KF K) {T c2 c3 c7 : Int → Int} (h : ∀ a, (a = 56 ∨ a = 70 ∨ a = 71 ∨ a = 91) → D' a = fgt D a) : K T (D' 56) c2 c3 (D' 70) (D' 71) (D' 91) c7 := by
  rw [h 56 (by omega), h 70 (by omega), h 71 (by omega), h 91 (by omega)]
  refine hK _ _ _ _ _ _ _ _ ?_ ?_ (fun j j1 j2 => ?_) (fun j j1 j2 => ?_) ?_
  · simp [fgt, xup, xfil]
  · simp [fgt, xup, xfil]
  · simp [fgt, xup, xfil, j1, j2]
  · simp [fgt, xup, xfil, j1, j2]
  · simp [fgt, xup, xfil]
theorem pair27 (hKF : KF K) : xpr (Inv K) 142 [some (.inr (.inr (some 1)))] 237 [some (.inr (.inr (some 95)))] := by
  intro D H
  obtain ⟨ht, -, -, hs, hw, hK, hf⟩ := id H
  obtain ⟨⟨w0, w1, w2, w3, w4, w5⟩, -⟩ := id hw
  rw [seg142_0 (ha0 := ho1)]
  simp only [Nat.reduceAdd]
  refine m77 ho3 ho22 ho4 ho23 (by omega) (fun D1 h1 hS => ?_)
  simp only [Option.toList_some, Option.toList_none, List.cons_append, List.nil_append]
  rw [seg142_11 (ha0 := ho1), m116]
  simp only [Option.toList_some, Option.toList_none, List.cons_append, List.nil_append]
  rw [seg142_15 (ha0 := ho1)]
  simp only [Nat.reduceAdd]
  have e1 : fgt D1 4 11 = D 97 0 := by
    rw [fgt_ne (by decide), hS.1.1.1]; exact hs.1.1
  refine ⟨_, rfl, by rw [fgt_ne (by decide)]; exact h1 0 (by omega), ?_⟩
  have q97 : fgt D1 97 = D 97 := by rw [fgt_ne (by decide), h1 97 (by omega)]
  rw [e1, seg237_0 (ha0 := ho95)]
  simp only [Nat.reduceAdd]
  rw [m148 hl97 hl96 (by decide)]
  simp only [Option.toList_some, Option.toList_none, List.cons_append, List.nil_append]
  rw [seg237_11 (ha0 := ho95), cnB (by omega)]
  simp only [Nat.reduceAdd]
  have i96 : ∀ j, 0 ≤ j ∧ j < 640 → xcpy (fgt D1) 97 96 0 0 640 96 j = D 97 j := fun j hj => by rw [cpy_in hj, q97]
  refine ⟨by rw [i96 0 (by omega)], by rw [cpy_ne (by decide), fgt_ne (by decide)]; exact h1 0 (by omega), ?_⟩
  have n96 : ∀ a, a ≠ 96 → xcpy (fgt D1) 97 96 0 0 640 a = fgt D1 a := fun a ha => cpy_ne ha
  generalize xcpy (fgt D1) 97 96 0 0 640 = D2 at n96 i96
  have n2 : ∀ a, (a < 3 ∨ 21 < a) → a ≠ 96 → (a ≠ 56 ∧ a ≠ 70 ∧ a ≠ 71 ∧ a ≠ 91) → D2 a = D a := fun a a1 a2 a3 => by rw [n96 a a2, fgt_ne a3, h1 a (by omega)]
  have hS2 : SC D 22 D2 3 := by
    have q : ∀ a, 3 ≤ a → a ≤ 21 → D2 a = D1 a := fun a a1 a2 => by rw [n96 a (by omega), fgt_ne (by omega)]
    unfold SC TC at hS ⊢
    simp only [Nat.reduceAdd] at hS ⊢
    rw [q 3 (by decide) (by decide), q 4 (by decide) (by decide), q 5 (by decide) (by decide), q 6 (by decide) (by decide), q 7 (by decide) (by decide), q 8 (by decide) (by decide), q 9 (by decide) (by decide), q 10 (by decide) (by decide), q 11 (by decide) (by decide), q 12 (by decide) (by decide), q 13 (by decide) (by decide), q 14 (by decide) (by decide), q 15 (by decide) (by decide), q 16 (by decide) (by decide), q 17 (by decide) (by decide), q 18 (by decide) (by decide), q 19 (by decide) (by decide), q 20 (by decide) (by decide), q 21 (by decide) (by decide)]
    exact hS
  refine ⟨?_, ?_, ?_, ?_, ?_, ?_, ?_⟩
  · rw [n2 1 (by omega) (by decide) (by decide), n2 2 (by omega) (by decide) (by decide), n2 95 (by omega) (by decide) (by decide), n2 99 (by omega) (by decide) (by decide)]; exact ht
  · exact IS_cgA (IS_move hs ⟨w1, w3, w5⟩ hS2) ⟨w1, w3, w5⟩ i96
  · exact Wf_cgA hw i96
  · rw [n2 97 (by omega) (by decide) (by decide)]
    exact IS_congr (fun a e1 e2 => n2 a (by omega) (by omega) (by omega)) hs
  · rw [n2 97 (by omega) (by decide) (by decide)]; exact hw
  · exact fgt_K hKF (fun a ha => n96 a (by omega))
  · rw [n2 85 (by omega) (by decide) (by decide)]; exact hf

theorem bits_A3 (H : IS D 3 (D 96)) (W : WfA (D 96)) : smI (fun k => iand (ishr (D 4 13) k) 1) 0 16 = D 96 3 := by
  obtain ⟨-, ⟨-, -, eb⟩, -⟩ := H
  obtain ⟨⟨w0, w1, -⟩, -, -, ⟨-, -, w3, -⟩, -⟩ := W
  simp only [Nat.reduceAdd] at eb
  have q : ∀ (k : Nat) (i : Int), 0 ≤ i → i + k ≤ D 96 0 → ∀ m : Nat, i + k + m = 16 → D 96 0 ≤ i + k → smI (fun k => iand (ishr (D 4 13) k) 1) i (k + m) = smI (fun s => D 96 (30 + 7 * s + 6)) i k := by
    intro k
    induction k with
    | zero =>
      intro i i1 i2 m m1 m2
      have z : ∀ (m : Nat) (i : Int), D 96 0 ≤ i → i + m ≤ 16 → smI (fun k => iand (ishr (D 4 13) k) 1) i m = 0 := by
        intro m
        induction m with
        | zero => intro i _ _; rfl
        | succ m ih =>
          intro i i1 i2
          simp only [smI]
          rw [ih (i + 1) (by omega) (by omega), eb i (by omega) (by omega), if_neg (by omega)]
          rfl
      rw [Nat.zero_add]
      exact z m i (by omega) (by omega)
    | succ k ih =>
      intro i i1 i2 m m1 m2
      rw [show k + 1 + m = (k + m) + 1 by omega]
      simp only [smI]
      rw [ih (i + 1) (by omega) (by omega) m (by omega) (by omega), eb i (by omega) (by omega), if_pos (by omega)]
  have := q (D 96 0).toNat 0 (by omega) (by omega) (16 - (D 96 0).toNat) (by omega) (by omega)
  rw [show (D 96 0).toNat + (16 - (D 96 0).toNat) = 16 by omega] at this
  rw [this, w3]
theorem pair28 : ∀ (z1 : Int), xinP z1 → xpr (Inv K) 143 [some (.inr (.inr (some 1))), some (.inl z1)] 238 [some (.inr (.inr (some 95))), some (.inl z1)] := by
  intro z1 y1 D H
  obtain ⟨⟨⟨t1, t2, t3, t4, t5⟩, tt, tw⟩, hs, hw, -, -, hK, hf⟩ := id H
  obtain ⟨⟨e1, e2, e3, e4, e5⟩, hb, hsl, hst, hp, hd, hcc, hk⟩ := id hs
  obtain ⟨⟨w0, w1, w2, w3, w4, w5⟩, ws, wd, wsum, wp, wc, wk, wx1, wx2, wx3⟩ := id hw
  simp only [Nat.reduceAdd] at e1 e2 e3 e4 e5 hb hsl hst hp hd hcc hk
  have hD : ∀ j, 0 ≤ j → j < D 4 12 → 0 ≤ D 15 j ∧ D 15 j ≤ 99 := fun j a b => by
    rw [e2] at b
    obtain ⟨-, -, d3⟩ := hd j a b
    obtain ⟨-, -, d4, -⟩ := wd j a b
    omega
  rw [seg143_0 (ha0 := ho1)]
  rcases (show z1 = 0 ∨ z1 = 1 ∨ z1 = 2 ∨ z1 = 3 ∨ z1 = 4 ∨ z1 = 5 ∨ z1 = 6 ∨ z1 = 7 ∨ (z1 < 0 ∨ 8 ≤ z1) by omega) with rfl | rfl | rfl | rfl | rfl | rfl | rfl | rfl | hz

  · show WP 124 xF1 none 143 48 _ _ _ _
    rw [seg143_48 (ha0 := ho1)]
    refine ⟨_, rfl, rfl, ?_⟩
    rw [seg238_0 (ha0 := ho95)]
    show WP 124 xF1 none 238 48 _ _ _ _
    rw [seg238_48 (ha0 := ho95), cnB (by omega)]
    exact ⟨by simp only [Nat.reduceAdd]; rw [e1], rfl, H⟩
  · show WP 124 xF1 none 143 59 _ _ _ _
    rw [seg143_59 (ha0 := ho1)]
    refine ⟨_, rfl, rfl, ?_⟩
    rw [seg238_0 (ha0 := ho95)]
    show WP 124 xF1 none 238 55 _ _ _ _
    rw [seg238_55 (ha0 := ho95), cnB (by omega)]
    exact ⟨by simp only [Nat.reduceAdd]; rw [e2], rfl, H⟩
  · show WP 124 xF1 none 143 70 _ _ _ _
    rw [seg143_70 (ha0 := ho1)]
    simp only [Nat.reduceAdd]
    rw [m100 ho4 hD (by omega)]
    simp only [Option.toList_some, Option.toList_none, List.cons_append, List.nil_append]
    rw [seg143_80 (ha0 := ho1)]
    refine ⟨_, rfl, rfl, ?_⟩
    rw [seg238_0 (ha0 := ho95)]
    show WP 124 xF1 none 238 62 _ _ _ _
    rw [seg238_62 (ha0 := ho95), cnB (by omega)]
    refine ⟨?_, rfl, H⟩
    simp only [Nat.reduceAdd]
    rw [wsum.1, e2, smI_congr (f := fun d => D 15 d) (g := fun d => D 96 (150 + 4 * d + 2)) _ _ (fun j a b => (hd j a (by omega)).2.2)]
  · show WP 124 xF1 none 143 81 _ _ _ _
    rw [seg143_81 (ha0 := ho1)]
    simp only [Nat.reduceAdd]
    rw [m241 ⟨hb.1, hb.2.1⟩, bits_A3 hs hw]
    simp only [Option.toList_some, Option.toList_none, List.cons_append, List.nil_append]
    rw [seg143_94 (ha0 := ho1)]
    refine ⟨_, rfl, rfl, ?_⟩
    rw [seg238_0 (ha0 := ho95)]
    show WP 124 xF1 none 238 69 _ _ _ _
    rw [seg238_69 (ha0 := ho95), cnB (by omega)]
    exact ⟨rfl, rfl, H⟩
  · show WP 124 xF1 none 143 95 _ _ _ _
    rw [seg143_95 (ha0 := ho1)]
    refine ⟨_, rfl, rfl, ?_⟩
    rw [seg238_0 (ha0 := ho95)]
    show WP 124 xF1 none 238 76 _ _ _ _
    rw [seg238_76 (ha0 := ho95)]
    exact ⟨by rw [t1], rfl, H⟩
  · show WP 124 xF1 none 143 100 _ _ _ _
    rw [seg143_100 (ha0 := ho1)]
    refine ⟨_, rfl, rfl, ?_⟩
    rw [seg238_0 (ha0 := ho95)]
    show WP 124 xF1 none 238 81 _ _ _ _
    rw [seg238_81 (ha0 := ho95), cnB (by omega)]
    exact ⟨by simp only [Nat.reduceAdd]; rw [e3], rfl, H⟩
  · show WP 124 xF1 none 143 111 _ _ _ _
    rw [seg143_111 (ha0 := ho1)]
    refine ⟨_, rfl, rfl, ?_⟩
    rw [seg238_0 (ha0 := ho95)]
    show WP 124 xF1 none 238 88 _ _ _ _
    rw [seg238_88 (ha0 := ho95), cnB (by omega)]
    exact ⟨by simp only [Nat.reduceAdd]; rw [e5], rfl, H⟩
  · show WP 124 xF1 none 143 119 _ _ _ _
    rw [seg143_119 (ha0 := ho1)]
    simp only [Nat.reduceAdd]
    rw [seg101_0 (ha0 := ho4), l101 hD (D 96 1).toNat 0 0 (by omega) (by omega) (by omega) (by omega) (by omega)]
    simp only [Option.toList_some, Option.toList_none, List.cons_append, List.nil_append, Int.zero_add]
    rw [seg143_129 (ha0 := ho1)]
    refine ⟨_, rfl, rfl, ?_⟩
    rw [seg238_0 (ha0 := ho95)]
    show WP 124 xF1 none 238 96 _ _ _ _
    rw [seg238_96 (ha0 := ho95), cnB (by omega)]
    refine ⟨?_, rfl, H⟩
    simp only [Nat.reduceAdd]
    rw [wsum.2.2.2.2]
    refine congrArg (fun x : Int => (some (.inl x) : Option xv)) (smI_congr _ _ (fun j a b => ?_))
    rw [hsl j a (by omega), (hd j a (by omega)).2.2]
  · rw [tab_out hz, seg143_130 (ha0 := ho1)]
    refine ⟨_, rfl, rfl, ?_⟩
    rw [seg238_0 (ha0 := ho95), tab_out hz, seg238_104 (ha0 := ho95)]
    exact ⟨rfl, rfl, H⟩

end M44
