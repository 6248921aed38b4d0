/-! how many bits: both ways of counting -/
theorem qand_mul (i : Nat) {a b c d : Nat} (hb : b < 2 ^ i) (hd : d < 2 ^ i) : (2 ^ i * a + b) &&& (2 ^ i * c + d) = 2 ^ i * (a &&& c) + (b &&& d) := by
  apply Nat.eq_of_testBit_eq
  intro j
  rw [Nat.testBit_and, Nat.testBit_two_pow_mul_add a hb, Nat.testBit_two_pow_mul_add c hd, Nat.testBit_two_pow_mul_add (a &&& c) (Nat.and_lt_two_pow b hd)]
  by_cases h : j < i
  · simp [h, Nat.testBit_and]
  · simp [h, Nat.testBit_and]
def qrep (c : Nat) : Nat → Nat
  | 0 => 0
  | k + 1 => 256 * qrep c k + c
def qs1 (k a : Nat) : Nat := a - ((a / 2) &&& qrep 85 k)
def qs2 (k a : Nat) : Nat := (a &&& qrep 51 k) + ((a / 4) &&& qrep 51 k)
def qs3 (k a : Nat) : Nat := (a + a / 16) &&& qrep 15 k
theorem qd1 : ∀ b, b < 256 → ∀ e, e < 2 → ((128 * e + b / 2) &&& 85) = (b / 2 &&& 85) ∧ (b / 2 &&& 85) ≤ b := by decide +kernel
theorem qd2 : ∀ b, b < 256 → ∀ e, e < 4 → ((64 * e + b / 4) &&& 51) = (b / 4 &&& 51) := by decide +kernel
theorem qand_le (x y : Nat) : x &&& y ≤ x := Nat.and_le_left
theorem qs1_step (k y b : Nat) (hb : b < 256) : qs1 (k + 1) (256 * y + b) = 256 * qs1 k y + (b - (b / 2 &&& 85)) := by
  unfold qs1
  have h1 : (256 * y + b) / 2 = 2 ^ 8 * (y / 2) + (128 * (y % 2) + b / 2) := by omega
  have h2 := qand_mul 8 (a := y / 2) (b := 128 * (y % 2) + b / 2) (c := qrep 85 k) (d := 85) (by omega) (by omega)
  obtain ⟨h3, h4⟩ := qd1 b hb (y % 2) (by omega)
  rw [h1, show qrep 85 (k + 1) = 2 ^ 8 * qrep 85 k + 85 from rfl, h2, h3]
  have h5 := qand_le (y / 2) (qrep 85 k)
  omega
theorem qs2_step (k y b : Nat) (hb : b < 256) : qs2 (k + 1) (256 * y + b) = 256 * qs2 k y + ((b &&& 51) + (b / 4 &&& 51)) := by
  unfold qs2
  have h1 : (256 * y + b) / 4 = 2 ^ 8 * (y / 4) + (64 * (y % 4) + b / 4) := by omega
  have h2 := qand_mul 8 (a := y / 4) (b := 64 * (y % 4) + b / 4) (c := qrep 51 k) (d := 51) (by omega) (by omega)
  have h3 := qd2 b hb (y % 4) (by omega)
  have h4 := qand_mul 8 (a := y) (b := b) (c := qrep 51 k) (d := 51) (by omega) (by omega)
  rw [h1, show qrep 51 (k + 1) = 2 ^ 8 * qrep 51 k + 51 from rfl, h2, h3, show 256 * y + b = 2 ^ 8 * y + b from rfl, h4]
  omega
/-- a byte's two steps -/
def qb (b : Nat) : Nat := ((b - (b / 2 &&& 85)) &&& 51) + ((b - (b / 2 &&& 85)) / 4 &&& 51)
theorem qd3 : ∀ b, b < 256 → (b - (b / 2 &&& 85)) < 256 ∧ qb b % 16 ≤ 4 ∧ qb b / 16 ≤ 4 ∧ ((qb b + qb b / 16) &&& 15) = qp b ∧ qp b ≤ 8 ∧ qb b < 128 := by decide +kernel
theorem qd4 : ∀ b, b < 128 → b % 16 ≤ 4 → b / 16 ≤ 4 → ∀ e, e < 5 → ((16 * e + b + b / 16) &&& 15) = ((b + b / 16) &&& 15) := by decide +kernel
/-- bytes' counts -/
def qB : Nat → Nat → Nat
  | 0, _ => 0
  | k + 1, a => 256 * qB k (a / 256) + qp (a % 256)
theorem qs2_all (k : Nat) : ∀ a, a < 256 ^ k → qs2 k (qs1 k a) % 16 ≤ 4 ∧ qs3 k (qs2 k (qs1 k a)) = qB k a := by
  induction k with
  | zero =>
    intro a ha
    have h0 : a = 0 := by simpa using ha
    subst h0
    decide
  | succ k ih =>
    intro a ha
    have hb : a % 256 < 256 := Nat.mod_lt _ (by decide)
    have hy : a / 256 < 256 ^ k := by
      rw [Nat.pow_succ] at ha
      exact Nat.div_lt_of_lt_mul (by rw [Nat.mul_comm]; exact ha)
    obtain ⟨i1, i2⟩ := ih (a / 256) hy
    obtain ⟨d1, d2, d3, d4, d5, d6⟩ := qd3 (a % 256) hb
    have e1 : a = 256 * (a / 256) + a % 256 := (Nat.div_add_mod a 256).symm
    have e2 : qs2 (k + 1) (qs1 (k + 1) a) = 256 * qs2 k (qs1 k (a / 256)) + qb (a % 256) := by
      conv => lhs; rw [e1]
      rw [qs1_step k _ _ hb, qs2_step k _ _ d1]
      rfl
    rw [e2]
    generalize hz : qs2 k (qs1 k (a / 256)) = z at i1 i2
    generalize hc : qb (a % 256) = c at d2 d3 d4 d6
    refine ⟨by omega, ?_⟩
    show qs3 (k + 1) (256 * z + c) = 256 * qB k (a / 256) + qp (a % 256)
    rw [← i2, ← d4]
    unfold qs3
    have h1 : 256 * z + c + (256 * z + c) / 16 = 2 ^ 8 * (z + z / 16) + (16 * (z % 16) + c + c / 16) := by omega
    have h2 := qand_mul 8 (a := z + z / 16) (b := 16 * (z % 16) + c + c / 16) (c := qrep 15 k) (d := 15) (by omega) (by omega)
    rw [h1, show qrep 15 (k + 1) = 2 ^ 8 * qrep 15 k + 15 from rfl, h2, qd4 c (by omega) d2 d3 (z % 16) (by omega)]
theorem qp_byte (a : Nat) (h : a < 2 ^ 32) : qp a = qp (a % 256) + qp (a / 256) := by
  have h1 : qp a = qc 8 (fun i => a.testBit i) + qc 24 (fun i => a.testBit (8 + i)) := qc_tail 24 8 _
  have h2 : qp (a % 256) = qc 8 (fun i => a.testBit i) := by
    rw [qp_lt (n := 8) (Nat.mod_lt _ (by decide)) (by decide)]
    exact qc_eq fun i hi => by rw [show a % 256 = a % 2 ^ 8 from rfl, Nat.testBit_mod_two_pow]; simp [hi]
  have h3 : qp (a / 256) = qc 24 (fun i => a.testBit (8 + i)) := by
    rw [qp_lt (n := 24) (by omega) (by decide)]
    exact qc_eq fun i hi => by rw [show a / 256 = a / 2 ^ 8 from rfl, Nat.testBit_div_two_pow, Nat.add_comm]
  omega
theorem qp_le (a : Nat) : qp a ≤ 32 := qc_le 32 _
theorem qB4 (a : Nat) (h : a < 2 ^ 32) : ∃ x0 x1 x2 x3, x0 ≤ 8 ∧ x1 ≤ 8 ∧ x2 ≤ 8 ∧ x3 ≤ 8 ∧ qB 4 a = x0 + 256 * x1 + 65536 * x2 + 16777216 * x3 ∧ qp a = x0 + x1 + x2 + x3 := by
  have z : qp 0 = 0 := by decide
  refine ⟨qp (a % 256), qp (a / 256 % 256), qp (a / 256 / 256 % 256), qp (a / 256 / 256 / 256 % 256), (qd3 _ (Nat.mod_lt _ (by decide))).2.2.2.2.1, (qd3 _ (Nat.mod_lt _ (by decide))).2.2.2.2.1, (qd3 _ (Nat.mod_lt _ (by decide))).2.2.2.2.1, (qd3 _ (Nat.mod_lt _ (by decide))).2.2.2.2.1, ?_, ?_⟩
  · simp only [qB]; omega
  · rw [qp_byte a h, qp_byte (a / 256) (by omega), qp_byte (a / 256 / 256) (by omega), qp_byte (a / 256 / 256 / 256) (by omega), show a / 256 / 256 / 256 / 256 = 0 by omega, z]
    omega
theorem qJ_bitCount {a : Nat} (h : a < 2 ^ 32) : f_J6_bitCount_0f7a4 (nI a) = some (nI (qp a)) := by
  obtain ⟨x0, x1, x2, x3, y0, y1, y2, y3, e1, e2⟩ := qB4 a h
  have hs := (qs2_all 4 a h).2
  rw [e1] at hs
  unfold f_J6_bitCount_0f7a4 f_J6_bitCount_0f7a4_c10 f_J6_bitCount_0f7a4_c24 f_J6_bitCount_0f7a4_c34 f_J6_bitCount_0f7a4_c41 f_J6_bitCount_0f7a4_c48
  have l1 := qand_le (a / 2) (qrep 85 4)
  have s1 : nI a - (mUshr (nI a) (1 : Int32) &&& (1431655765 : Int32)) = nI (qs1 4 a) := by
    rw [show (1 : Int32) = nI 1 from rfl, qI_ushr h (by decide), show (1431655765 : Int32) = nI (qrep 85 4) from rfl, qI_and, Nat.pow_one, qI_sub (by omega)]
    rfl
  have b1 : qs1 4 a < 2 ^ 32 := Nat.lt_of_le_of_lt (Nat.sub_le _ _) h
  have s2 : (nI (qs1 4 a) &&& (858993459 : Int32)) + (mUshr (nI (qs1 4 a)) (2 : Int32) &&& (858993459 : Int32)) = nI (qs2 4 (qs1 4 a)) := by
    rw [show (2 : Int32) = nI 2 from rfl, qI_ushr b1 (by decide), show (858993459 : Int32) = nI (qrep 51 4) from rfl, qI_and, qI_and, qI_add]
    rfl
  have b2 : qs2 4 (qs1 4 a) < 2 ^ 32 := by
    have i1 : qs1 4 a &&& qrep 51 4 ≤ qrep 51 4 := Nat.and_le_right
    have i2 : qs1 4 a / 4 &&& qrep 51 4 ≤ qrep 51 4 := Nat.and_le_right
    have i3 : qrep 51 4 = 858993459 := rfl
    unfold qs2
    omega
  have s3 : (nI (qs2 4 (qs1 4 a)) + mUshr (nI (qs2 4 (qs1 4 a))) (4 : Int32)) &&& (252645135 : Int32) = nI (x0 + 256 * x1 + 65536 * x2 + 16777216 * x3) := by
    rw [show (4 : Int32) = nI 4 from rfl, qI_ushr b2 (by decide), show (252645135 : Int32) = nI (qrep 15 4) from rfl, qI_add, qI_and, ← hs]
    rfl
  rw [s1, s2, s3]
  generalize hd : x0 + 256 * x1 + 65536 * x2 + 16777216 * x3 = d
  rw [show (8 : Int32) = nI 8 from rfl, qI_ushr (show d < 2 ^ 32 by omega) (by decide), qI_add]
  have hd8 : d / 2 ^ 8 = x1 + 256 * x2 + 65536 * x3 := by omega
  generalize hf : d + d / 2 ^ 8 = f
  have hf1 : f = (x0 + x1) + 256 * (x1 + x2) + 65536 * (x2 + x3) + 16777216 * x3 := by omega
  have hf2 : f / 2 ^ 16 = x2 + x3 + 256 * x3 := by omega
  rw [show (16 : Int32) = nI 16 from rfl, qI_ushr (show f < 2 ^ 32 by omega) (by decide), qI_add, show (63 : Int32) = nI (2 ^ 6 - 1) from rfl, qI_and, Nat.and_two_pow_sub_one_eq_mod, e2, hf2, hf1]
  congr 2
  omega
theorem qX_bitsOf {a : Nat} (h : a < 2 ^ 31) : f_X9_bitsOf (nI a) = some (nI (qp a)) := by
  obtain ⟨x0, x1, x2, x3, y0, y1, y2, y3, e1, e2⟩ := qB4 a (by omega)
  have hs := (qs2_all 4 a (by omega)).2
  rw [e1] at hs
  unfold f_X9_bitsOf f_X9_bitsOf_c10 f_X9_bitsOf_c24
  have l1 := qand_le (a / 2) (qrep 85 4)
  have s1 : nI a - ((nI a >>> ((1 : Int32) &&& 31)) &&& (1431655765 : Int32)) = nI (qs1 4 a) := by
    rw [show (1 : Int32) = nI 1 from rfl, qI_shr h (by decide), show (1431655765 : Int32) = nI (qrep 85 4) from rfl, qI_and, Nat.pow_one, qI_sub (by omega)]
    rfl
  have b1 : qs1 4 a < 2 ^ 31 := Nat.lt_of_le_of_lt (Nat.sub_le _ _) h
  have s2 : (nI (qs1 4 a) &&& (858993459 : Int32)) + ((nI (qs1 4 a) >>> ((2 : Int32) &&& 31)) &&& (858993459 : Int32)) = nI (qs2 4 (qs1 4 a)) := by
    rw [show (2 : Int32) = nI 2 from rfl, qI_shr b1 (by decide), show (858993459 : Int32) = nI (qrep 51 4) from rfl, qI_and, qI_and, qI_add]
    rfl
  have b2 : qs2 4 (qs1 4 a) < 2 ^ 31 := by
    have i1 : qs1 4 a &&& qrep 51 4 ≤ qrep 51 4 := Nat.and_le_right
    have i2 : qs1 4 a / 4 &&& qrep 51 4 ≤ qrep 51 4 := Nat.and_le_right
    have i3 : qrep 51 4 = 858993459 := rfl
    unfold qs2
    omega
  have s3 : (nI (qs2 4 (qs1 4 a)) + (nI (qs2 4 (qs1 4 a)) >>> ((4 : Int32) &&& 31))) &&& (252645135 : Int32) = nI (x0 + 256 * x1 + 65536 * x2 + 16777216 * x3) := by
    rw [show (4 : Int32) = nI 4 from rfl, qI_shr b2 (by decide), show (252645135 : Int32) = nI (qrep 15 4) from rfl, qI_add, qI_and, ← hs]
    rfl
  have x3' : x3 ≤ 8 := y3
  rw [s1, s2, s3, show (16843009 : Int32) = nI 16843009 from rfl, qI_mul]
  have hm : nI ((x0 + 256 * x1 + 65536 * x2 + 16777216 * x3) * 16843009) = nI ((x0 + 256 * x1 + 65536 * x2 + 16777216 * x3) * 16843009 % 4294967296) := by
    apply qI_inj
    apply BitVec.eq_of_toNat_eq
    rw [qI_bv, qI_bv, BitVec.toNat_ofNat, BitVec.toNat_ofNat]
    omega
  have hp : (x0 + 256 * x1 + 65536 * x2 + 16777216 * x3) * 16843009 = x0 + (x0 + x1) * 256 + (x0 + x1 + x2) * 65536 + (x0 + x1 + x2 + x3) * 16777216 + 4294967296 * (x1 + x2 + x3 + 256 * (x2 + x3) + 65536 * x3) := by omega
  have hq : (x0 + 256 * x1 + 65536 * x2 + 16777216 * x3) * 16843009 % 4294967296 = x0 + (x0 + x1) * 256 + (x0 + x1 + x2) * 65536 + (x0 + x1 + x2 + x3) * 16777216 := by omega
  rw [hm, hq, show (24 : Int32) = nI 24 from rfl, qI_shr (by omega) (by decide), e2]
  congr 2
  omega
