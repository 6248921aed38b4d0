/-! PURE: words as natural numbers. nI a = Int32.ofNat a -/
theorem qI_bv (a : Nat) : (nI a).toBitVec = BitVec.ofNat 32 a := rfl
theorem qI_inj {x y : Int32} (h : x.toBitVec = y.toBitVec) : x = y := Int32.toBitVec_inj.mp h
theorem qI_and (a b : Nat) : nI a &&& nI b = nI (a &&& b) := by
  apply qI_inj
  rw [Int32.toBitVec_and, qI_bv, qI_bv, qI_bv]
  apply BitVec.eq_of_toNat_eq
  simp [BitVec.toNat_and, Nat.and_mod_two_pow]
theorem qI_or (a b : Nat) : nI a ||| nI b = nI (a ||| b) := by
  apply qI_inj
  rw [Int32.toBitVec_or, qI_bv, qI_bv, qI_bv]
  apply BitVec.eq_of_toNat_eq
  simp [BitVec.toNat_or, Nat.or_mod_two_pow]
theorem qI_xor (a b : Nat) : nI a ^^^ nI b = nI (a ^^^ b) := by
  apply qI_inj
  rw [Int32.toBitVec_xor, qI_bv, qI_bv, qI_bv]
  apply BitVec.eq_of_toNat_eq
  simp [BitVec.toNat_xor, Nat.xor_mod_two_pow]
theorem qI_sm : ∀ k, k < 32 → ((nI k &&& 31).toBitVec.smod 32).toNat = k := by decide +kernel
theorem qI_su : ∀ k, k < 32 → (((nI k).toUInt32 &&& Int32.toUInt32 31).toBitVec % 32).toNat = k := by decide +kernel
theorem qI_shl (a : Nat) {k : Nat} (hk : k < 32) : nI a <<< (nI k &&& 31) = nI (a * 2 ^ k) := by
  apply qI_inj
  apply BitVec.eq_of_toNat_eq
  rw [pk_shl (nI a) (nI k &&& 31) k (qI_sm k hk), qI_bv, qI_bv]
  simp [Nat.mod_mul_mod]
theorem qI_shr {a k : Nat} (ha : a < 2 ^ 31) (hk : k < 32) : nI a >>> (nI k &&& 31) = nI (a / 2 ^ k) := pk_shrN ha _ k (qI_sm k hk)
theorem qI_ushr {a k : Nat} (ha : a < 2 ^ 32) (hk : k < 32) : mUshr (nI a) (nI k) = nI (a / 2 ^ k) := pk_ushrN ha _ k (qI_su k hk)
theorem qI_add (a b : Nat) : nI a + nI b = nI (a + b) := nI_add a b
theorem qI_mul (a b : Nat) : nI a * nI b = nI (a * b) := pk_mul a b
theorem qI_sub {a b : Nat} (h : b ≤ a) : nI a - nI b = nI (a - b) := pk_sub h
theorem qI_one : (1 : Int32) = nI 1 := rfl
theorem qI_zero : (0 : Int32) = nI 0 := rfl
theorem qI_bit {a k : Nat} (ha : a < 2 ^ 31) (hk : k < 32) : (nI a >>> (nI k &&& 31)) &&& 1 = nI (a / 2 ^ k % 2) := by
  rw [qI_shr ha hk, qI_one, qI_and, Nat.and_one_is_mod]
theorem qI_div {a d : Nat} (ha : a < 2 ^ 31) (h0 : 0 < d) (hd : d < 2 ^ 31) : nI a / nI d = nI (a / d) := pk_div ha h0 hd
theorem qI_rem {a d : Nat} (ha : a < 2 ^ 31) (h0 : 0 < d) (hd : d < 2 ^ 31) : mRem (nI a) (nI d) = nI (a % d) := pk_rem ha h0 hd
theorem qI_tb (a k : Nat) : a / 2 ^ k % 2 = (a.testBit k).toNat := by
  rw [Nat.testBit_eq_decide_div_mod_eq]
  rcases Nat.mod_two_eq_zero_or_one (a / 2 ^ k) with h | h <;> simp [h]
theorem qI_bit0 {a k : Nat} (ha : a < 2 ^ 31) (hk : k < 32) : ((nI a >>> (nI k &&& 31)) &&& 1 = 0) ↔ a.testBit k = false := by
  rw [qI_bit ha hk, qI_tb, qI_zero, nI_eq (by cases a.testBit k <;> decide) (by decide)]
  cases a.testBit k <;> simp
theorem qI_bit1 {a k : Nat} (ha : a < 2 ^ 31) (hk : k < 32) : ((nI a >>> (nI k &&& 31)) &&& 1 = 1) ↔ a.testBit k = true := by
  rw [qI_bit ha hk, qI_tb, qI_one, nI_eq (by cases a.testBit k <;> decide) (by decide)]
  cases a.testBit k <;> simp
theorem qI_pow {k : Nat} (hk : k < 32) : (1 : Int32) <<< (nI k &&& 31) = nI (2 ^ k) := by rw [qI_one, qI_shl 1 hk, Nat.one_mul]
theorem qI_mask {k : Nat} (hk : k < 32) : (1 : Int32) <<< (nI k &&& 31) - 1 = nI (2 ^ k - 1) := by
  rw [qI_pow hk, qI_one, qI_sub (Nat.one_le_two_pow)]
/-- all of the low n bits but those of a -/
theorem qI_inv (a : Nat) {n : Nat} (hn : n ≤ 32) : nI (2 ^ n - 1) &&& (nI a ^^^ (-1)) = nI ((2 ^ n - 1) ^^^ ((2 ^ n - 1) &&& a)) := by
  apply qI_inj
  apply BitVec.eq_of_getLsbD_eq
  intro i hi
  rw [Int32.toBitVec_and, Int32.toBitVec_xor, qI_bv, qI_bv, qI_bv]
  have h1 : ((-1 : Int32).toBitVec).getLsbD i = true := by
    have : ((-1 : Int32).toBitVec) = BitVec.allOnes 32 := by decide
    rw [this, BitVec.getLsbD_allOnes]
    exact decide_eq_true hi
  simp only [BitVec.getLsbD_and, BitVec.getLsbD_xor, BitVec.getLsbD_ofNat, h1, hi, decide_true, Bool.true_and, Nat.testBit_xor, Nat.testBit_and, Nat.testBit_two_pow_sub_one]
  cases decide (i < n) <;> cases a.testBit i <;> rfl
/-! counting -/
def qc : Nat → (Nat → Bool) → Nat
  | 0, _ => 0
  | n + 1, p => qc n p + (p n).toNat
theorem qc_le (n : Nat) (p : Nat → Bool) : qc n p ≤ n := by
  induction n with
  | zero => exact Nat.le_refl 0
  | succ n ih =>
    have : (p n).toNat ≤ 1 := by cases p n <;> decide
    show qc n p + (p n).toNat ≤ n + 1
    omega
theorem qc_eq {n : Nat} {p q : Nat → Bool} (h : ∀ i, i < n → p i = q i) : qc n p = qc n q := by
  induction n with
  | zero => rfl
  | succ n ih =>
    show qc n p + (p n).toNat = qc n q + (q n).toNat
    rw [ih fun i hi => h i (by omega), h n (by omega)]
theorem qc_not (n : Nat) (p : Nat → Bool) : qc n (fun i => !p i) + qc n p = n := by
  induction n with
  | zero => rfl
  | succ n ih =>
    show qc n (fun i => !p i) + (!p n).toNat + (qc n p + (p n).toNat) = n + 1
    have : (!p n).toNat + (p n).toNat = 1 := by cases p n <;> rfl
    omega
theorem qc_ext {n m : Nat} {p : Nat → Bool} (h : n ≤ m) (hp : ∀ i, n ≤ i → i < m → p i = false) : qc m p = qc n p := by
  induction m with
  | zero => rw [show n = 0 by omega]
  | succ m ih =>
    by_cases hm : n = m + 1
    · rw [hm]
    · show qc m p + (p m).toNat = qc n p
      rw [ih (by omega) fun i h1 h2 => hp i h1 (by omega), hp m (by omega) (by omega)]
      rfl
theorem qc_zero {n : Nat} {p : Nat → Bool} : qc n p = 0 ↔ ∀ i, i < n → p i = false := by
  induction n with
  | zero => simp [qc]
  | succ n ih =>
    show qc n p + (p n).toNat = 0 ↔ _
    rw [Nat.add_eq_zero_iff, ih]
    constructor
    · rintro ⟨h1, h2⟩ i hi
      by_cases hin : i = n
      · subst hin; cases hp : p i <;> simp [hp] at h2 ⊢
      · exact h1 i (by omega)
    · intro h
      exact ⟨fun i hi => h i (by omega), by rw [h n (by omega)]; rfl⟩
/-- bits of a word -/
def qp (a : Nat) : Nat := qc 32 (fun i => a.testBit i)
theorem qp_lt {a n : Nat} (h : a < 2 ^ n) (hn : n ≤ 32) : qp a = qc n (fun i => a.testBit i) :=
  qc_ext hn fun i h1 _ => Nat.testBit_lt_two_pow (Nat.lt_of_lt_of_le h (Nat.pow_le_pow_right (by decide) h1))
theorem qc_shift (n : Nat) (p : Nat → Bool) : qc (n + 1) p = (p 0).toNat + qc n (fun i => p (i + 1)) := by
  induction n with
  | zero => show 0 + (p 0).toNat = _ + 0; omega
  | succ n ih =>
    show qc (n + 1) p + (p (n + 1)).toNat = _ + (qc n (fun i => p (i + 1)) + (p (n + 1)).toNat)
    omega
theorem qc_tail (n k : Nat) (p : Nat → Bool) : qc (k + n) p = qc k p + qc n (fun i => p (k + i)) := by
  induction n with
  | zero => rfl
  | succ n ih =>
    show qc (k + n) p + (p (k + n)).toNat = qc k p + (qc n (fun i => p (k + i)) + (p (k + n)).toNat)
    omega
theorem qp_half (a : Nat) (h : a < 2 ^ 32) : qp a = a % 2 + qp (a / 2) := by
  unfold qp
  rw [qc_shift 31]
  have h1 : a.testBit 0 = decide (a % 2 = 1) := by simp [Nat.testBit_zero]
  have h2 : qc 31 (fun i => a.testBit (i + 1)) = qc 32 (fun i => (a / 2).testBit i) := by
    symm
    rw [qc_ext (n := 31) (by omega) fun i h1 h2 => Nat.testBit_lt_two_pow (Nat.lt_of_lt_of_le (show a / 2 < 2 ^ 31 by omega) (Nat.pow_le_pow_right (by decide) h1))]
    exact qc_eq fun i _ => by rw [Nat.testBit_succ]
  rw [h2, h1]
  rcases Nat.mod_two_eq_zero_or_one a with h | h <;> simp [h]
