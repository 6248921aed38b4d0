/-! PURE: what columns have had, as the model has it -/
section QHAD
variable (n : Nat) (R S : Nat → Nat)
def qHd (c : Nat → Nat) : Nat → Nat → Nat
  | 0, _ => 0
  | k + 1, j => 2 * qHd c k j + ((qXw n R c k).testBit j).toNat
def qHe (c : Nat → Nat) : Nat → Nat → Nat
  | 0, _ => 0
  | k + 1, j => 2 * qHe c k j + ((S (c k / 2)).testBit j).toNat
def qNd (b : Nat → Nat → Bool) : Nat → Nat → Nat
  | 0, _ => 0
  | k + 1, j => 2 * qNd b k j + (b k j).toNat
end QHAD
theorem qNd_lt (b : Nat → Nat → Bool) (j : Nat) (h0 : b 0 j = false) : ∀ k, qNd b (k + 1) j < 2 ^ k := by
  intro k
  induction k with
  | zero =>
    show 2 * 0 + (b 0 j).toNat < 1
    rw [h0]
    decide
  | succ k ih =>
    show 2 * qNd b (k + 1) j + (b (k + 1) j).toNat < 2 ^ (k + 1)
    have : (b (k + 1) j).toNat ≤ 1 := by cases b (k + 1) j <;> decide
    rw [Nat.pow_succ]
    omega
theorem qXm {a k : Nat} (h : a < 2 ^ k) : a ^^^ (2 ^ k - 1) = 2 ^ k - 1 - a := by
  apply Nat.eq_of_testBit_eq
  intro i
  rw [Nat.testBit_xor, Nat.testBit_two_pow_sub_one, show 2 ^ k - 1 - a = 2 ^ k - (a + 1) by omega, Nat.testBit_two_pow_sub_succ h]
  by_cases hi : i < k
  · rw [decide_eq_true hi, Bool.xor_true, Bool.true_and]
  · rw [decide_eq_false hi, Bool.xor_false, Bool.false_and]
    exact Nat.testBit_lt_two_pow (Nat.lt_of_lt_of_le h (Nat.pow_le_pow_right (by decide) (by omega)))
def qPn (x k : Nat) : Nat := if x ^^^ (2 ^ k - 1) ≤ x then x ^^^ (2 ^ k - 1) else x
/-- a number of bits p, with or without all of them changed -/
theorem qNd_of {b p : Nat → Nat → Bool} {g : Nat → Nat} {j : Nat} (h0 : g 0 = 0) (hg : ∀ k, g (k + 1) = 2 * g k + (p k j).toNat) (hb : ∀ k, b k j = (p k j ^^ p 0 j)) : ∀ k, (g k = if p 0 j then 2 ^ k - 1 - qNd b k j else qNd b k j) ∧ g k < 2 ^ k ∧ qPn (g k) k = qNd b k j := by
  have hb0 : b 0 j = false := by rw [hb 0, Bool.xor_self]
  have key : ∀ k, qNd b k j < 2 ^ k ∧ (g k = if p 0 j then 2 ^ k - 1 - qNd b k j else qNd b k j) := by
    intro k
    induction k with
    | zero => exact ⟨by show 0 < 1; decide, by rw [h0]; cases p 0 j <;> rfl⟩
    | succ k ih =>
      have h1 : qNd b (k + 1) j = 2 * qNd b k j + (b k j).toNat := rfl
      have hp : 2 ^ (k + 1) = 2 ^ k * 2 := Nat.pow_succ ..
      have hbk := hb k
      obtain ⟨i1, i2⟩ := ih
      rw [h1, hg k, i2, hbk]
      cases p 0 j <;> cases p k j <;> simp <;> omega
  intro k
  obtain ⟨k1, k2⟩ := key k
  have hlt : g k < 2 ^ k := by
    rw [k2]
    have := Nat.two_pow_pos k
    cases p 0 j
    · exact k1
    · show 2 ^ k - 1 - qNd b k j < 2 ^ k; omega
  refine ⟨k2, hlt, ?_⟩
  unfold qPn
  rw [qXm hlt]
  cases k with
  | zero =>
    have : g 0 = 0 := h0
    rw [this]
    rfl
  | succ k =>
    have h2 := qNd_lt b j hb0 k
    have hp : 2 ^ (k + 1) = 2 ^ k * 2 := Nat.pow_succ ..
    rw [k2]
    cases p 0 j
    · show (if 2 ^ (k + 1) - 1 - qNd b (k + 1) j ≤ qNd b (k + 1) j then _ else qNd b (k + 1) j) = _
      rw [if_neg (by omega)]
    · show (if 2 ^ (k + 1) - 1 - (2 ^ (k + 1) - 1 - qNd b (k + 1) j) ≤ 2 ^ (k + 1) - 1 - qNd b (k + 1) j then 2 ^ (k + 1) - 1 - (2 ^ (k + 1) - 1 - qNd b (k + 1) j) else _) = _
      rw [if_pos (by omega)]
      omega
section QHA2
variable (n : Nat) (R S : Nat → Nat)
theorem qHd_ok (c : Nat → Nat) (k j : Nat) : qHd n R c k j < 2 ^ k ∧ qPn (qHd n R c k j) k = qNd (qXb n R c) k j := by
  have := qNd_of (b := qXb n R c) (p := fun e j => (qXw n R c e).testBit j) (g := fun k => qHd n R c k j) (j := j) rfl (fun _ => rfl) (fun _ => rfl) k
  exact ⟨this.2.1, this.2.2⟩
theorem qHe_ok (c : Nat → Nat) (k j : Nat) : qHe S c k j < 2 ^ k ∧ qPn (qHe S c k j) k = qNd (qYb S c) k j := by
  have := qNd_of (b := qYb S c) (p := fun e j => (S (c e / 2)).testBit j) (g := fun k => qHe S c k j) (j := j) rfl (fun _ => rfl) (fun _ => rfl) k
  exact ⟨this.2.1, this.2.2⟩
theorem qNd_HH (c : Nat → Nat) (j o : Nat) : ∀ k, (qNd (qXb n R c) k o = qNd (qXb n R c) k j) ↔ qHH n R c k j o = true := by
  intro k
  induction k with
  | zero => exact ⟨fun _ => rfl, fun _ => rfl⟩
  | succ k ih =>
    show (2 * qNd (qXb n R c) k o + (qXb n R c k o).toNat = 2 * qNd (qXb n R c) k j + (qXb n R c k j).toNat) ↔ (qHH n R c k j o && (qXb n R c k o == qXb n R c k j)) = true
    rw [Bool.and_eq_true, ← ih]
    cases qXb n R c k o <;> cases qXb n R c k j <;> simp <;> omega
theorem qNd_HT (c : Nat → Nat) (j o : Nat) : ∀ k, (qNd (qYb S c) k o = qNd (qXb n R c) k j) ↔ qHT n R S c k j o = true := by
  intro k
  induction k with
  | zero => exact ⟨fun _ => rfl, fun _ => rfl⟩
  | succ k ih =>
    show (2 * qNd (qYb S c) k o + (qYb S c k o).toNat = 2 * qNd (qXb n R c) k j + (qXb n R c k j).toNat) ↔ (qHT n R S c k j o && (qYb S c k o == qXb n R c k j)) = true
    rw [Bool.and_eq_true, ← ih]
    cases qYb S c k o <;> cases qXb n R c k j <;> simp <;> omega
theorem qHd_congr {c c' : Nat → Nat} {k : Nat} (h : ∀ e, e < k → c' e = c e) (j : Nat) : qHd n R c' k j = qHd n R c k j ∧ qHe S c' k j = qHe S c k j := by
  induction k with
  | zero => exact ⟨rfl, rfl⟩
  | succ k ih =>
    obtain ⟨i1, i2⟩ := ih fun e he => h e (by omega)
    constructor
    · show 2 * qHd n R c' k j + ((qXw n R c' k).testBit j).toNat = _
      unfold qXw
      rw [i1, h k (by omega)]
      rfl
    · show 2 * qHe S c' k j + ((S (c' k / 2)).testBit j).toNat = _
      rw [i2, h k (by omega)]
      rfl
end QHA2
theorem m_plain {x k : Nat} (hx : x < 2 ^ k) (hk : k ≤ 28) : f_X9_plain (nI x) (nI k) = some (nI (qPn x k)) := by
  have hk28 : 2 ^ k ≤ 2 ^ 28 := Nat.pow_le_pow_right (by decide) hk
  have h1 : x ^^^ (2 ^ k - 1) < 2 ^ k := Nat.xor_lt_two_pow hx (by have := Nat.two_pow_pos k; omega)
  unfold f_X9_plain qPn
  rw [qI_mask (by omega), qI_xor]
  by_cases c : x ^^^ (2 ^ k - 1) ≤ x
  · rw [if_pos c, if_pos (by rw [qle (by omega) (by omega)]; exact c)]
  · rw [if_neg c, if_neg (by rw [qle (by omega) (by omega)]; exact c)]
