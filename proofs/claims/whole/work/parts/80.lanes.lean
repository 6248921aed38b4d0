/-! PURE: longs as numbers (the first rows are the kit's BITS, to be pasted); lanes of eight bits -/
theorem wb_tb (n : Nat) : (lN n).toBitVec = BitVec.ofNat 64 n := rfl
theorem wb_inj {a b : Int64} (h : a.toBitVec = b.toBitVec) : a = b := Int64.toBitVec_inj.mp h
theorem wb_tn {n : Nat} (h : n < 2 ^ 64) : (lN n).toBitVec.toNat = n := by rw [wb_tb, BitVec.toNat_ofNat, Nat.mod_eq_of_lt h]
theorem wb_c : ∀ k, k < 64 → ((nI k).toInt64 &&& 63) = lN k := by decide +kernel
theorem wb_cu : ∀ k, k < 64 → ((nI k).toInt64.toUInt64 &&& Int64.toUInt64 63) = UInt64.ofNat k := by decide +kernel
theorem wb_sm : ∀ k, k < 64 → (BitVec.ofNat 64 k).smod 64 = BitVec.ofNat 64 k := by decide +kernel
theorem wb_mod (n : Nat) : lN n = lN (n % 2 ^ 64) := wb_inj (by rw [wb_tb, wb_tb]; apply BitVec.eq_of_toNat_eq; rw [BitVec.toNat_ofNat, BitVec.toNat_ofNat, Nat.mod_mod])
theorem wb_shr {n k : Nat} (hn : n < 2 ^ 64) (hk : k < 64) : ((lN n).toUInt64 >>> ((nI k).toInt64.toUInt64 &&& Int64.toUInt64 63)).toInt64 = lN (n / 2 ^ k) := by
  rw [wb_cu k hk]
  apply wb_inj
  apply BitVec.eq_of_toNat_eq
  show ((lN n).toUInt64 >>> UInt64.ofNat k).toNat = (BitVec.ofNat 64 _).toNat
  have h1 : (UInt64.ofNat k).toNat = k := by
    show (BitVec.ofNat 64 k).toNat = k
    rw [BitVec.toNat_ofNat, Nat.mod_eq_of_lt (by omega)]
  have h2 : (lN n).toUInt64.toNat = n := wb_tn hn
  rw [UInt64.toNat_shiftRight, h1, h2, Nat.mod_eq_of_lt hk, Nat.shiftRight_eq_div_pow, BitVec.toNat_ofNat, Nat.mod_eq_of_lt (Nat.lt_of_le_of_lt (Nat.div_le_self _ _) hn)]
theorem wb_shl (n : Nat) {k : Nat} (hk : k < 64) : lN n <<< ((nI k).toInt64 &&& 63) = lN (n * 2 ^ k) := by
  rw [wb_c k hk]
  apply wb_inj
  rw [Int64.toBitVec_shiftLeft, wb_tb, wb_tb, wb_tb, wb_sm k hk]
  apply BitVec.eq_of_toNat_eq
  rw [BitVec.shiftLeft_eq', BitVec.toNat_shiftLeft, BitVec.toNat_ofNat, BitVec.toNat_ofNat, BitVec.toNat_ofNat, Nat.mod_eq_of_lt (show k < 2 ^ 64 by omega), Nat.shiftLeft_eq, Nat.mul_mod, Nat.mod_mod, ← Nat.mul_mod]
theorem wb_and {a b : Nat} (ha : a < 2 ^ 64) (hb : b < 2 ^ 64) : lN a &&& lN b = lN (a &&& b) := by
  apply wb_inj
  rw [Int64.toBitVec_and, wb_tb, wb_tb, wb_tb]
  apply BitVec.eq_of_toNat_eq
  rw [BitVec.toNat_and, BitVec.toNat_ofNat, BitVec.toNat_ofNat, BitVec.toNat_ofNat, Nat.mod_eq_of_lt ha, Nat.mod_eq_of_lt hb, Nat.mod_eq_of_lt (Nat.and_lt_two_pow _ hb)]
theorem wb_or {a b : Nat} (ha : a < 2 ^ 64) (hb : b < 2 ^ 64) : lN a ||| lN b = lN (a ||| b) := by
  apply wb_inj
  rw [Int64.toBitVec_or, wb_tb, wb_tb, wb_tb]
  apply BitVec.eq_of_toNat_eq
  rw [BitVec.toNat_or, BitVec.toNat_ofNat, BitVec.toNat_ofNat, BitVec.toNat_ofNat, Nat.mod_eq_of_lt ha, Nat.mod_eq_of_lt hb, Nat.mod_eq_of_lt (Nat.or_lt_two_pow ha hb)]
theorem qL_xor {a b : Nat} (ha : a < 2 ^ 64) (hb : b < 2 ^ 64) : lN a ^^^ lN b = lN (a ^^^ b) := by
  apply wb_inj
  rw [Int64.toBitVec_xor, wb_tb, wb_tb, wb_tb]
  apply BitVec.eq_of_toNat_eq
  rw [BitVec.toNat_xor, BitVec.toNat_ofNat, BitVec.toNat_ofNat, BitVec.toNat_ofNat, Nat.mod_eq_of_lt ha, Nat.mod_eq_of_lt hb, Nat.mod_eq_of_lt (Nat.xor_lt_two_pow ha hb)]
theorem qL_ushr {n k : Nat} (hn : n < 2 ^ 64) (hk : k < 64) : mLushr (lN n) (nI k) = lN (n / 2 ^ k) := wb_shr hn hk
theorem qL_shl (n : Nat) {k : Nat} (hk : k < 64) : mLshl (lN n) (nI k) = lN (n * 2 ^ k) := wb_shl n hk
theorem qor_mul (i : Nat) {a b c d : Nat} (hb : b < 2 ^ i) (hd : d < 2 ^ i) : (2 ^ i * a + b) ||| (2 ^ i * c + d) = 2 ^ i * (a ||| c) + (b ||| d) := by
  apply Nat.eq_of_testBit_eq
  intro j
  rw [Nat.testBit_or, Nat.testBit_two_pow_mul_add a hb, Nat.testBit_two_pow_mul_add c hd, Nat.testBit_two_pow_mul_add (a ||| c) (Nat.or_lt_two_pow hb hd)]
  by_cases h : j < i
  · simp [h, Nat.testBit_or]
  · simp [h, Nat.testBit_or]
theorem qxor_mul (i : Nat) {a b c d : Nat} (hb : b < 2 ^ i) (hd : d < 2 ^ i) : (2 ^ i * a + b) ^^^ (2 ^ i * c + d) = 2 ^ i * (a ^^^ c) + (b ^^^ d) := by
  apply Nat.eq_of_testBit_eq
  intro j
  rw [Nat.testBit_xor, Nat.testBit_two_pow_mul_add a hb, Nat.testBit_two_pow_mul_add c hd, Nat.testBit_two_pow_mul_add (a ^^^ c) (Nat.xor_lt_two_pow hb hd)]
  by_cases h : j < i
  · simp [h, Nat.testBit_xor]
  · simp [h, Nat.testBit_xor]
def qD : Nat → (Nat → Nat) → Nat
  | 0, _ => 0
  | k + 1, p => 256 * qD k (fun i => p (i + 1)) + p 0
theorem qD_s (k : Nat) (p : Nat → Nat) : qD (k + 1) p = 256 * qD k (fun i => p (i + 1)) + p 0 := rfl
theorem qD_lt : ∀ (k : Nat) (p : Nat → Nat), (∀ i, i < k → p i < 256) → qD k p < 256 ^ k := by
  intro k
  induction k with
  | zero => intro p _; exact Nat.zero_lt_one
  | succ k ih =>
    intro p h
    have h1 := ih (fun i => p (i + 1)) fun i hi => h (i + 1) (by omega)
    have h2 := h 0 (by omega)
    rw [qD_s, Nat.pow_succ]
    omega
theorem qD_eq : ∀ (k : Nat) {p q : Nat → Nat}, (∀ i, i < k → p i = q i) → qD k p = qD k q := by
  intro k
  induction k with
  | zero => intro p q _; rfl
  | succ k ih =>
    intro p q h
    rw [qD_s, qD_s, ih fun i hi => h (i + 1) (by omega), h 0 (by omega)]
theorem qD_add : ∀ (k : Nat) (p q : Nat → Nat), qD k p + qD k q = qD k (fun i => p i + q i) := by
  intro k
  induction k with
  | zero => intro p q; rfl
  | succ k ih =>
    intro p q
    have := ih (fun i => p (i + 1)) (fun i => q (i + 1))
    rw [qD_s, qD_s, qD_s]
    omega
theorem qD_mul (c : Nat) : ∀ (k : Nat) (p : Nat → Nat), c * qD k p = qD k (fun i => c * p i) := by
  intro k
  induction k with
  | zero => intro p; rfl
  | succ k ih =>
    intro p
    have := ih (fun i => p (i + 1))
    rw [qD_s, qD_s, ← this, Nat.mul_add]
    congr 1
    rw [← Nat.mul_assoc, ← Nat.mul_assoc, Nat.mul_comm c 256]
theorem qD_le : ∀ (k : Nat) {p q : Nat → Nat}, (∀ i, i < k → q i ≤ p i) → qD k q ≤ qD k p := by
  intro k
  induction k with
  | zero => intro p q _; exact Nat.le_refl 0
  | succ k ih =>
    intro p q h
    have h1 := ih (p := fun i => p (i + 1)) (q := fun i => q (i + 1)) fun i hi => h (i + 1) (by omega)
    have h2 := h 0 (by omega)
    rw [qD_s, qD_s]
    omega
theorem qD_sub (k : Nat) {p q : Nat → Nat} (h : ∀ i, i < k → q i ≤ p i) : qD k p - qD k q = qD k (fun i => p i - q i) := by
  have h1 : qD k (fun i => p i - q i) + qD k q = qD k p := by
    rw [qD_add]
    exact qD_eq k fun i hi => by have := h i hi; omega
  omega
theorem qD_and : ∀ (k : Nat) {p q : Nat → Nat}, (∀ i, i < k → p i < 256 ∧ q i < 256) → qD k p &&& qD k q = qD k (fun i => p i &&& q i) := by
  intro k
  induction k with
  | zero => intro p q _; show (0 : Nat) &&& 0 = 0; decide
  | succ k ih =>
    intro p q h
    obtain ⟨h1, h2⟩ := h 0 (by omega)
    rw [qD_s, qD_s, qD_s, ← ih fun i hi => h (i + 1) (by omega)]
    exact qand_mul 8 h1 h2
theorem qD_or : ∀ (k : Nat) {p q : Nat → Nat}, (∀ i, i < k → p i < 256 ∧ q i < 256) → qD k p ||| qD k q = qD k (fun i => p i ||| q i) := by
  intro k
  induction k with
  | zero => intro p q _; show (0 : Nat) ||| 0 = 0; decide
  | succ k ih =>
    intro p q h
    obtain ⟨h1, h2⟩ := h 0 (by omega)
    rw [qD_s, qD_s, qD_s, ← ih fun i hi => h (i + 1) (by omega)]
    exact qor_mul 8 h1 h2
theorem qD_xor : ∀ (k : Nat) {p q : Nat → Nat}, (∀ i, i < k → p i < 256 ∧ q i < 256) → qD k p ^^^ qD k q = qD k (fun i => p i ^^^ q i) := by
  intro k
  induction k with
  | zero => intro p q _; show (0 : Nat) ^^^ 0 = 0; decide
  | succ k ih =>
    intro p q h
    obtain ⟨h1, h2⟩ := h 0 (by omega)
    rw [qD_s, qD_s, qD_s, ← ih fun i hi => h (i + 1) (by omega)]
    exact qxor_mul 8 h1 h2
theorem qD_sh7 : ∀ (k : Nat) {u : Nat → Nat}, (∀ i, i < k → u i < 256) → qD k u / 128 &&& qD k (fun _ => 1) = qD k (fun i => u i / 128) := by
  intro k
  induction k with
  | zero => intro u _; show (0 : Nat) / 128 &&& 0 = 0; decide
  | succ k ih =>
    intro u h
    have h0 := h 0 (by omega)
    have h1 := ih (u := fun i => u (i + 1)) fun i hi => h (i + 1) (by omega)
    rw [qD_s, qD_s, qD_s, ← h1]
    generalize qD k (fun i => u (i + 1)) = y
    have e1 : (256 * y + u 0) / 128 = 2 ^ 8 * (y / 128) + (2 * (y % 128) + u 0 / 128) := by omega
    have e2 := qand_mul 8 (a := y / 128) (b := 2 * (y % 128) + u 0 / 128) (c := qD k (fun _ => 1)) (d := 1) (by omega) (by decide)
    rw [e1]
    refine e2.trans ?_
    show 2 ^ 8 * (y / 128 &&& qD k fun _ => 1) + ((2 * (y % 128) + u 0 / 128) &&& 1) = _
    rw [Nat.and_one_is_mod]
    omega
/-! the greater sides -/
theorem qGs_d : ∀ a, a < 17 → ∀ p, p < a + 1 → (p ||| 128) = p + 128 ∧ a - p ≤ (p ||| 128) ∧ (p ||| 128) - (a - p) < 256 ∧ ((p ||| 128) - (a - p)) / 128 < 2 ∧ ((p &&& 255 * (((p ||| 128) - (a - p)) / 128)) ||| ((a - p) &&& (255 * (((p ||| 128) - (a - p)) / 128) ^^^ 255))) = max p (a - p) := by decide +kernel
theorem qD8 {p : Nat → Nat} (h : ∀ i, i < 8 → p i < 256) : qD 8 p < 2 ^ 64 := qD_lt 8 p h
theorem qS8 {g : Nat → Nat} (h : qSum 8 g < 256) : qD 8 g * qD 8 (fun _ => 1) % 2 ^ 64 / 2 ^ 56 = qSum 8 g := by
  have e1 : qSum 8 g = 0 + g 0 + g 1 + g 2 + g 3 + g 4 + g 5 + g 6 + g 7 := rfl
  have e2 : qD 8 g = 256 * (256 * (256 * (256 * (256 * (256 * (256 * (256 * 0 + g 7) + g 6) + g 5) + g 4) + g 3) + g 2) + g 1) + g 0 := rfl
  have e3 : qD 8 (fun _ => 1) = 72340172838076673 := by decide
  rw [e1] at h ⊢
  rw [e2, e3]
  generalize g 0 = g0 at h ⊢
  generalize g 1 = g1 at h ⊢
  generalize g 2 = g2 at h ⊢
  generalize g 3 = g3 at h ⊢
  generalize g 4 = g4 at h ⊢
  generalize g 5 = g5 at h ⊢
  generalize g 6 = g6 at h ⊢
  generalize g 7 = g7 at h ⊢
  have hp : (256 * (256 * (256 * (256 * (256 * (256 * (256 * (256 * 0 + g7) + g6) + g5) + g4) + g3) + g2) + g1) + g0) * 72340172838076673 = (g0 + (g0 + g1) * 256 + (g0 + g1 + g2) * 65536 + (g0 + g1 + g2 + g3) * 16777216 + (g0 + g1 + g2 + g3 + g4) * 4294967296 + (g0 + g1 + g2 + g3 + g4 + g5) * 1099511627776 + (g0 + g1 + g2 + g3 + g4 + g5 + g6) * 281474976710656) + (g0 + g1 + g2 + g3 + g4 + g5 + g6 + g7) * 72057594037927936 + 18446744073709551616 * (g1 + g2 * 257 + g3 * 65793 + g4 * 16843009 + g5 * 4311810305 + g6 * 1103823438081 + g7 * 282578800148737) := by omega
  rw [hp]
  generalize hl : g0 + (g0 + g1) * 256 + (g0 + g1 + g2) * 65536 + (g0 + g1 + g2 + g3) * 16777216 + (g0 + g1 + g2 + g3 + g4) * 4294967296 + (g0 + g1 + g2 + g3 + g4 + g5) * 1099511627776 + (g0 + g1 + g2 + g3 + g4 + g5 + g6) * 281474976710656 = l
  have hl2 : l < 72057594037927936 := by omega
  generalize g1 + g2 * 257 + g3 * 65793 + g4 * 16843009 + g5 * 4311810305 + g6 * 1103823438081 + g7 * 282578800148737 = tt
  clear hl hp
  omega
theorem x_greater {p a : Nat → Nat} (h : ∀ i, i < 8 → p i ≤ a i ∧ a i ≤ 16) : f_X6_greaterSides (lN (qD 8 p)) (lN (qD 8 a)) = some (nI (qSum 8 (fun i => max (p i) (a i - p i)))) := by
  have G : ∀ i, i < 8 → _ := fun i hi => qGs_d (a i) (by have := h i hi; omega) (p i) (by have := h i hi; omega)
  have c1 : (-9187201950435737472 : Int64) = lN (qD 8 (fun _ => 128)) := by decide
  have c2 : (72340172838076673 : Int64) = lN (qD 8 (fun _ => 1)) := by decide
  have c3 : (-1 : Int64) = lN (qD 8 (fun _ => 255)) := by decide
  have hp : ∀ i, i < 8 → p i < 256 := fun i hi => by have := h i hi; omega
  have e1 : lN (qD 8 a) - lN (qD 8 p) = lN (qD 8 (fun i => a i - p i)) := by
    rw [lN_sub (qD_le 8 fun i hi => (h i hi).1), qD_sub 8 fun i hi => (h i hi).1]
  have e2 : lN (qD 8 p) ||| lN (qD 8 (fun _ => 128)) = lN (qD 8 (fun i => p i ||| 128)) := by
    rw [wb_or (qD8 hp) (qD8 fun _ _ => by decide), qD_or 8 fun i hi => ⟨hp i hi, by decide⟩]
  have e3 : lN (qD 8 (fun i => p i ||| 128)) - lN (qD 8 (fun i => a i - p i)) = lN (qD 8 (fun i => (p i ||| 128) - (a i - p i))) := by
    rw [lN_sub (qD_le 8 fun i hi => (G i hi).2.1), qD_sub 8 fun i hi => (G i hi).2.1]
  have e4 : mLushr (lN (qD 8 (fun i => (p i ||| 128) - (a i - p i)))) 7 &&& lN (qD 8 (fun _ => 1)) = lN (qD 8 (fun i => ((p i ||| 128) - (a i - p i)) / 128)) := by
    have b := qD8 (p := fun i => (p i ||| 128) - (a i - p i)) fun i hi => (G i hi).2.2.1
    rw [show (7 : Int32) = nI 7 from rfl, qL_ushr b (by decide), wb_and (Nat.lt_of_le_of_lt (Nat.div_le_self _ _) b) (qD8 fun _ _ => by decide), show (2 : Nat) ^ 7 = 128 from rfl, qD_sh7 8 fun i hi => (G i hi).2.2.1]
  generalize hw : (fun i => ((p i ||| 128) - (a i - p i)) / 128) = w at e4
  have hwi : ∀ i, w i = ((p i ||| 128) - (a i - p i)) / 128 := fun i => by rw [← hw]
  have w2 : ∀ i, i < 8 → w i < 2 := fun i hi => by rw [hwi]; exact (G i hi).2.2.2.1
  have e5 : mLshl (lN (qD 8 w)) 8 - lN (qD 8 w) = lN (qD 8 (fun i => 255 * w i)) := by
    rw [show (8 : Int32) = nI 8 from rfl, qL_shl _ (by decide), lN_sub (by omega), ← qD_mul]
    congr 1
    omega
  have h255 : ∀ i, i < 8 → 255 * w i < 256 := fun i hi => by have := w2 i hi; omega
  have ham : ∀ i, i < 8 → a i - p i < 256 := fun i hi => by have := h i hi; omega
  have e6 : lN (qD 8 p) &&& lN (qD 8 (fun i => 255 * w i)) = lN (qD 8 (fun i => p i &&& 255 * w i)) := by
    rw [wb_and (qD8 hp) (qD8 h255), qD_and 8 fun i hi => ⟨hp i hi, h255 i hi⟩]
  have e7 : lN (qD 8 (fun i => 255 * w i)) ^^^ lN (qD 8 (fun _ => 255)) = lN (qD 8 (fun i => 255 * w i ^^^ 255)) := by
    rw [qL_xor (qD8 h255) (qD8 fun _ _ => by decide), qD_xor 8 fun i hi => ⟨h255 i hi, by decide⟩]
  have hx : ∀ i, i < 8 → (255 * w i ^^^ 255) < 256 := fun i hi => Nat.xor_lt_two_pow (n := 8) (h255 i hi) (by decide)
  have e8 : lN (qD 8 (fun i => a i - p i)) &&& lN (qD 8 (fun i => 255 * w i ^^^ 255)) = lN (qD 8 (fun i => (a i - p i) &&& (255 * w i ^^^ 255))) := by
    rw [wb_and (qD8 ham) (qD8 hx), qD_and 8 fun i hi => ⟨ham i hi, hx i hi⟩]
  have hl : ∀ i, i < 8 → (p i &&& 255 * w i) < 256 := fun i hi => Nat.lt_of_le_of_lt Nat.and_le_left (hp i hi)
  have hr : ∀ i, i < 8 → ((a i - p i) &&& (255 * w i ^^^ 255)) < 256 := fun i hi => Nat.lt_of_le_of_lt Nat.and_le_left (ham i hi)
  have e9 : lN (qD 8 (fun i => p i &&& 255 * w i)) ||| lN (qD 8 (fun i => (a i - p i) &&& (255 * w i ^^^ 255))) = lN (qD 8 (fun i => max (p i) (a i - p i))) := by
    rw [wb_or (qD8 hl) (qD8 hr), qD_or 8 fun i hi => ⟨hl i hi, hr i hi⟩]
    congr 1
    refine qD_eq 8 fun i hi => ?_
    rw [hwi]
    exact (G i hi).2.2.2.2
  have hs : qSum 8 (fun i => max (p i) (a i - p i)) < 256 := by
    have b : ∀ i, i < 8 → max (p i) (a i - p i) ≤ 16 := fun i hi => by have := h i hi; omega
    have b0 := b 0 (by decide)
    have b1 := b 1 (by decide)
    have b2 := b 2 (by decide)
    have b3 := b 3 (by decide)
    have b4 := b 4 (by decide)
    have b5 := b 5 (by decide)
    have b6 := b 6 (by decide)
    have b7 := b 7 (by decide)
    show 0 + max (p 0) (a 0 - p 0) + max (p 1) (a 1 - p 1) + max (p 2) (a 2 - p 2) + max (p 3) (a 3 - p 3) + max (p 4) (a 4 - p 4) + max (p 5) (a 5 - p 5) + max (p 6) (a 6 - p 6) + max (p 7) (a 7 - p 7) < 256
    omega
  unfold f_X6_greaterSides
  rw [c1, c2, c3, e1, e2, e3, e4, e5, e6, e7, e8, e9, lN_mul, wb_mod, show (56 : Int32) = nI 56 from rfl, qL_ushr (Nat.mod_lt _ (by decide)) (by decide), qS8 hs, lN_i]
