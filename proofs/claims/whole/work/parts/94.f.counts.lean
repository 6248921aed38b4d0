/-! PURE: how many words stand right against some rows -/
def qBin : Nat → Nat → Nat
  | _, 0 => 1
  | 0, _ + 1 => 0
  | n + 1, k + 1 => qBin n k + qBin n (k + 1)
theorem qc_add (n m : Nat) (p : Nat → Bool) : qc (n + m) p = qc n p + qc m (fun i => p (n + i)) := qc_tail m n p
theorem qc_mono {n : Nat} {p q : Nat → Bool} (h : ∀ i, i < n → p i = true → q i = true) : qc n p ≤ qc n q := by
  induction n with
  | zero => exact Nat.le_refl 0
  | succ n ih =>
    have h1 := ih fun i hi => h i (by omega)
    have h2 := h n (by omega)
    show qc n p + (p n).toNat ≤ qc n q + (q n).toNat
    cases hp : p n
    · show qc n p + 0 ≤ _; omega
    · rw [h2 hp]; show qc n p + 1 ≤ qc n q + 1; omega
theorem qc_or (n : Nat) (p q : Nat → Bool) : qc n (fun i => p i || q i) ≤ qc n p + qc n q := by
  induction n with
  | zero => exact Nat.le_refl 0
  | succ n ih =>
    show qc n _ + (p n || q n).toNat ≤ qc n p + (p n).toNat + (qc n q + (q n).toNat)
    have : (p n || q n).toNat ≤ (p n).toNat + (q n).toNat := by cases p n <;> cases q n <;> decide
    omega
/-- all words of m signs, moved by a word -/
theorem qc_move : ∀ (m s : Nat) (p : Nat → Bool), s < 2 ^ m → qc (2 ^ m) (fun w => p (w ^^^ s)) = qc (2 ^ m) p := by
  intro m
  induction m with
  | zero =>
    intro s p hs
    have h0 : s = 0 := by have : s < 1 := hs; omega
    subst h0
    exact qc_eq fun i _ => by rw [Nat.xor_zero]
  | succ m ih =>
    intro s p hs
    have e2 : 2 ^ (m + 1) = 2 ^ m + 2 ^ m := by rw [Nat.pow_succ]; omega
    rw [e2, qc_add, qc_add]
    by_cases hb : s < 2 ^ m
    · have a2 : qc (2 ^ m) (fun i => p ((2 ^ m + i) ^^^ s)) = qc (2 ^ m) (fun i => p (2 ^ m + i)) := by
        rw [← ih s (fun i => p (2 ^ m + i)) hb]
        refine qc_eq fun i hi => ?_
        have hx : i ^^^ s < 2 ^ m := Nat.xor_lt_two_pow hi hb
        rw [qXp hi, qXp hx, Nat.xor_assoc]
      rw [ih s p hb, a2]
    · have hs' : s - 2 ^ m < 2 ^ m := by omega
      have es : s = 2 ^ m ^^^ (s - 2 ^ m) := by rw [← qXp hs']; omega
      have a1 : qc (2 ^ m) (fun w => p (w ^^^ s)) = qc (2 ^ m) (fun i => p (2 ^ m + i)) := by
        rw [← ih (s - 2 ^ m) (fun i => p (2 ^ m + i)) hs']
        refine qc_eq fun i hi => ?_
        have hx : i ^^^ (s - 2 ^ m) < 2 ^ m := Nat.xor_lt_two_pow hi hs'
        rw [qXp hx]
        congr 1
        conv => lhs; rw [es]
        rw [← Nat.xor_assoc, Nat.xor_comm i, Nat.xor_assoc]
      have a2 : qc (2 ^ m) (fun i => p ((2 ^ m + i) ^^^ s)) = qc (2 ^ m) p := by
        rw [← ih (s - 2 ^ m) p hs']
        refine qc_eq fun i hi => ?_
        congr 1
        conv => lhs; rw [qXp hi, es]
        rw [Nat.xor_comm (2 ^ m) i, Nat.xor_assoc, ← Nat.xor_assoc (2 ^ m), Nat.xor_self, Nat.zero_xor]
      rw [a1, a2, Nat.add_comm]
/-- by classes of columns -/
noncomputable def qKl (m : Nat) (f a : Nat → Nat) (w : Nat) : Bool := @decide (∀ z, z < 4 → qc m (fun i => w.testBit i && decide (f i = z)) = a z) (Classical.propDecidable _)
def qPr4 (N a : Nat → Nat) : Nat := qBin (N 0) (a 0) * qBin (N 1) (a 1) * (qBin (N 2) (a 2) * qBin (N 3) (a 3))
theorem qBin_z (k : Nat) : qBin 0 (k + 1) = 0 := rfl
theorem qBin_0 (n : Nat) : qBin n 0 = 1 := by cases n <;> rfl
theorem qKl_cnt (f : Nat → Nat) (hf : ∀ i, f i < 4) : ∀ (m : Nat) (a : Nat → Nat), qc (2 ^ m) (qKl m f a) = qPr4 (fun z => qc m (fun i => decide (f i = z))) a := by
  intro m
  induction m with
  | zero =>
    intro a
    show qc 1 (qKl 0 f a) = qBin 0 (a 0) * qBin 0 (a 1) * (qBin 0 (a 2) * qBin 0 (a 3))
    show 0 + (qKl 0 f a 0).toNat = _
    by_cases h : ∀ z, z < 4 → 0 = a z
    · have e : qKl 0 f a 0 = true := by unfold qKl; exact @decide_eq_true _ (Classical.propDecidable _) h
      rw [e, ← h 0 (by decide), ← h 1 (by decide), ← h 2 (by decide), ← h 3 (by decide)]; rfl
    · have e : qKl 0 f a 0 = false := by unfold qKl; exact @decide_eq_false _ (Classical.propDecidable _) h
      rw [e]
      have : a 0 ≠ 0 ∨ a 1 ≠ 0 ∨ a 2 ≠ 0 ∨ a 3 ≠ 0 := by
        refine Classical.byContradiction fun hno => h fun z hz => ?_
        match z, hz with
        | 0, _ => omega
        | 1, _ => omega
        | 2, _ => omega
        | 3, _ => omega
      have zz : ∀ k, k ≠ 0 → qBin 0 k = 0 := fun k hk => by cases k with
        | zero => exact absurd rfl hk
        | succ k => rfl
      rcases this with z | z | z | z <;> rw [zz _ z] <;> simp
  | succ m ih =>
    intro a
    have e2 : 2 ^ (m + 1) = 2 ^ m + 2 ^ m := by rw [Nat.pow_succ]; omega
    rw [e2, qc_add]
    have lo : qc (2 ^ m) (qKl (m + 1) f a) = qc (2 ^ m) (qKl m f a) := by
      refine qc_eq fun w hw => ?_
      unfold qKl
      rw [decide_eq_decide]
      have hb : w.testBit m = false := Nat.testBit_lt_two_pow hw
      have e : ∀ z, qc (m + 1) (fun i => w.testBit i && decide (f i = z)) = qc m (fun i => w.testBit i && decide (f i = z)) := fun z => by
        show qc m _ + (w.testBit m && decide (f m = z)).toNat = _
        rw [hb]; rfl
      constructor <;> intro h z hz <;> have := h z hz
      · rw [e] at this; exact this
      · rw [e]; exact this
    have hi : qc (2 ^ m) (fun w => qKl (m + 1) f a (2 ^ m + w)) = if a (f m) = 0 then 0 else qc (2 ^ m) (qKl m f (va_up a (f m) (a (f m) - 1))) := by
      have e : ∀ w, w < 2 ^ m → ∀ z, qc (m + 1) (fun i => (2 ^ m + w).testBit i && decide (f i = z)) = qc m (fun i => w.testBit i && decide (f i = z)) + (decide (f m = z)).toNat := fun w hw z => by
        show qc m _ + ((2 ^ m + w).testBit m && decide (f m = z)).toNat = _
        have hb : (2 ^ m + w).testBit m = true := by
          have := Nat.testBit_two_pow_mul_add 1 hw m
          rw [Nat.mul_one, if_neg (by omega), Nat.sub_self] at this
          rw [this]; rfl
        have hl : qc m (fun i => (2 ^ m + w).testBit i && decide (f i = z)) = qc m (fun i => w.testBit i && decide (f i = z)) := qc_eq fun i hi => by
          have := Nat.testBit_two_pow_mul_add 1 hw i
          rw [Nat.mul_one, if_pos hi] at this
          rw [this]
        rw [hb, hl, Bool.true_and]
      by_cases h0 : a (f m) = 0
      · rw [if_pos h0]
        refine qc_zero.mpr fun w hw => ?_
        unfold qKl
        rw [decide_eq_false_iff_not]
        intro h
        have := h (f m) (hf m)
        rw [e w hw, decide_eq_true rfl] at this
        have h1 : (true : Bool).toNat = 1 := rfl
        omega
      · rw [if_neg h0]
        refine qc_eq fun w hw => ?_
        unfold qKl
        rw [decide_eq_decide]
        constructor <;> intro h z hz <;> have := h z hz
        · rw [e w hw] at this
          by_cases c : z = f m
          · subst c
            rw [decide_eq_true rfl] at this
            have h1 : (true : Bool).toNat = 1 := rfl
            rw [qVs]; omega
          · rw [decide_eq_false (fun y => c y.symm)] at this
            have h1 : (false : Bool).toNat = 0 := rfl
            rw [qVn c]; omega
        · rw [e w hw]
          by_cases c : z = f m
          · subst c
            rw [qVs] at this
            rw [decide_eq_true rfl]
            have h1 : (true : Bool).toNat = 1 := rfl
            omega
          · rw [qVn c] at this
            rw [decide_eq_false (fun y => c y.symm)]
            have h1 : (false : Bool).toNat = 0 := rfl
            omega
    rw [lo, hi, ih a]
    have hN : ∀ z, qc (m + 1) (fun i => decide (f i = z)) = qc m (fun i => decide (f i = z)) + (decide (f m = z)).toNat := fun _ => rfl
    have pas : ∀ N k, k ≠ 0 → qBin (N + 1) k = qBin N k + qBin N (k - 1) := by
      intro N k hk
      cases k with
      | zero => exact absurd rfl hk
      | succ k => show qBin N k + qBin N (k + 1) = qBin N (k + 1) + qBin N k; omega
    have t1 : (true : Bool).toNat = 1 := rfl
    have f0 : (false : Bool).toNat = 0 := rfl
    have hf4 := hf m
    have step : qPr4 (fun z => qc (m + 1) (fun i => decide (f i = z))) a = qPr4 (fun z => qc m (fun i => decide (f i = z))) a + if a (f m) = 0 then 0 else qPr4 (fun z => qc m (fun i => decide (f i = z))) (va_up a (f m) (a (f m) - 1)) := by
      unfold qPr4
      simp only [hN]
      generalize qc m (fun i => decide (f i = 0)) = n0
      generalize qc m (fun i => decide (f i = 1)) = n1
      generalize qc m (fun i => decide (f i = 2)) = n2
      generalize qc m (fun i => decide (f i = 3)) = n3
      generalize f m = z at hf4 ⊢
      match z, hf4 with
      | 0, _ =>
        rw [decide_eq_true rfl, decide_eq_false (by decide), decide_eq_false (by decide), decide_eq_false (by decide), t1, f0, qVs, qVn (by decide), qVn (by decide), qVn (by decide)]
        simp only [Nat.add_zero]
        by_cases h0 : a 0 = 0
        · rw [if_pos h0, h0, qBin_0, qBin_0]; omega
        · rw [if_neg h0, pas _ _ h0, Nat.add_mul, Nat.add_mul]
      | 1, _ =>
        rw [decide_eq_false (by decide), decide_eq_true rfl, decide_eq_false (by decide), decide_eq_false (by decide), t1, f0, qVs, qVn (by decide), qVn (by decide), qVn (by decide)]
        simp only [Nat.add_zero]
        by_cases h0 : a 1 = 0
        · rw [if_pos h0, h0, qBin_0, qBin_0]; omega
        · rw [if_neg h0, pas _ _ h0, Nat.mul_add, Nat.add_mul]
      | 2, _ =>
        rw [decide_eq_false (by decide), decide_eq_false (by decide), decide_eq_true rfl, decide_eq_false (by decide), t1, f0, qVs, qVn (by decide), qVn (by decide), qVn (by decide)]
        simp only [Nat.add_zero]
        by_cases h0 : a 2 = 0
        · rw [if_pos h0, h0, qBin_0, qBin_0]; omega
        · rw [if_neg h0, pas _ _ h0, Nat.add_mul, Nat.mul_add]
      | 3, _ =>
        rw [decide_eq_false (by decide), decide_eq_false (by decide), decide_eq_false (by decide), decide_eq_true rfl, t1, f0, qVs, qVn (by decide), qVn (by decide), qVn (by decide)]
        simp only [Nat.add_zero]
        by_cases h0 : a 3 = 0
        · rw [if_pos h0, h0, qBin_0, qBin_0]; omega
        · rw [if_neg h0, pas _ _ h0, Nat.mul_add, Nat.mul_add]
    rw [step]
    by_cases h0 : a (f m) = 0
    · rw [if_pos h0, if_pos h0]
    · rw [if_neg h0, if_neg h0, ih]
