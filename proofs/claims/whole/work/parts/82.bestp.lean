/-! PURE: best, no machine -/
theorem qc_flip (n : Nat) (p : Nat → Bool) {j : Nat} (hj : j < n) : qc n (fun i => p i ^^ decide (i = j)) + (p j).toNat = qc n p + (!p j).toNat := by
  induction n with
  | zero => omega
  | succ n ih =>
    show qc n (fun i => p i ^^ decide (i = j)) + (p n ^^ decide (n = j)).toNat + (p j).toNat = qc n p + (p n).toNat + (!p j).toNat
    by_cases h : j = n
    · subst h
      have e : qc j (fun i => p i ^^ decide (i = j)) = qc j p := qc_eq fun i hi => by rw [decide_eq_false (by omega), Bool.xor_false]
      rw [e, decide_eq_true rfl]
      cases p j <;> rfl
    · have := ih (by omega)
      rw [decide_eq_false (show ¬ n = j by omega), Bool.xor_false]
      omega
theorem qp_flip (x : Nat) {j : Nat} (hj : j < 32) : qp (x ^^^ 2 ^ j) + (x.testBit j).toNat = qp x + (!x.testBit j).toNat := by
  have h := qc_flip 32 (fun i => x.testBit i) hj
  have e : qp (x ^^^ 2 ^ j) = qc 32 (fun i => x.testBit i ^^ decide (i = j)) := by
    unfold qp
    refine qc_eq fun i _ => ?_
    rw [Nat.testBit_xor, Nat.testBit_two_pow]
    congr 1
    rw [decide_eq_decide]
    exact eq_comm
  rw [e]
  exact h
theorem qp_compl {w n : Nat} (hw : w < 2 ^ n) (hn : n ≤ 32) : qp (w ^^^ (2 ^ n - 1)) + qp w = n := by
  have hm : 2 ^ n - 1 < 2 ^ n := by have := Nat.two_pow_pos n; omega
  rw [qp_lt (Nat.xor_lt_two_pow hw hm) hn, qp_lt hw hn]
  have e : qc n (fun i => (w ^^^ (2 ^ n - 1)).testBit i) = qc n (fun i => !w.testBit i) := qc_eq fun i hi => by
    rw [Nat.testBit_xor, Nat.testBit_two_pow_sub_one, decide_eq_true hi, Bool.xor_true]
  rw [e]
  exact qc_not n _
theorem qp_len {w n : Nat} (hw : w < 2 ^ n) (hn : n ≤ 32) : qp w ≤ n := by rw [qp_lt hw hn]; exact qc_le n _
/-- the sum over rows of the greater side, columns of s signed -/
def qVl (T : qT) (s : Nat) : Nat := qSum T.1 (fun i => max (T.1 - qp (T.2.1 i ^^^ s)) (qp (T.2.1 i ^^^ s)))
theorem qSum2 {k n : Nat} {f g : Nat → Nat} (h : ∀ i, i < k → f i + n = 2 * g i) : qSum k f + k * n = 2 * qSum k g := by
  induction k with
  | zero => show 0 + 0 * n = 2 * 0; omega
  | succ k ih =>
    have h1 := ih fun i hi => h i (by omega)
    have h2 := h k (by omega)
    show qSum k f + f k + (k + 1) * n = 2 * (qSum k g + g k)
    rw [Nat.succ_mul]
    omega
theorem qAll_V {T : qT} (w : qWT T) {s : Nat} (hs : s < 2 ^ T.1) : qAll T s + T.1 * T.1 = 2 * qVl T s := by
  refine qSum2 fun i hi => ?_
  have h1 := qp_len (Nat.xor_lt_two_pow (w.2.1 i hi) hs) (show T.1 ≤ 32 by have := w.1; omega)
  show qSz T.1 (T.2.1 i ^^^ s) + T.1 = _
  unfold qSz
  by_cases c : 2 * qp (T.2.1 i ^^^ s) ≤ T.1
  · rw [if_pos c]; omega
  · rw [if_neg c]; omega
theorem qAll_compl {T : qT} (w : qWT T) {s : Nat} (hs : s < 2 ^ T.1) : qAll T (s ^^^ (2 ^ T.1 - 1)) = qAll T s := by
  refine qSum_eq fun i hi => ?_
  have h0 := Nat.xor_lt_two_pow (w.2.1 i hi) hs
  have h1 := qp_compl h0 (show T.1 ≤ 32 by have := w.1; omega)
  rw [← Nat.xor_assoc]
  unfold qSz
  by_cases c : 2 * qp (T.2.1 i ^^^ s) ≤ T.1
  · rw [if_pos c]
    by_cases c2 : 2 * qp (T.2.1 i ^^^ s ^^^ (2 ^ T.1 - 1)) ≤ T.1
    · rw [if_pos c2]; omega
    · rw [if_neg c2]; omega
  · rw [if_neg c]
    by_cases c2 : 2 * qp (T.2.1 i ^^^ s ^^^ (2 ^ T.1 - 1)) ≤ T.1
    · rw [if_pos c2]; omega
    · rw [if_neg c2]; omega
theorem qCompl_lt {n s : Nat} (h1 : 2 ^ (n - 1) ≤ s) (hs : s < 2 ^ n) (hn : 0 < n) : s ^^^ (2 ^ n - 1) < 2 ^ (n - 1) := by
  have e : 2 ^ n = 2 ^ (n - 1) * 2 := by rw [← Nat.pow_succ]; congr 1; omega
  have hp := Nat.two_pow_pos (n - 1)
  apply Nat.lt_pow_two_of_testBit
  intro i hi
  rw [Nat.testBit_xor, Nat.testBit_two_pow_sub_one]
  by_cases h : i = n - 1
  · rw [decide_eq_true (by omega), h, Nat.testBit_eq_decide_div_mod_eq]
    have : s / 2 ^ (n - 1) = 1 := Nat.div_eq_of_lt_le (by omega) (by omega)
    rw [this]
    rfl
  · rw [decide_eq_false (by omega), Nat.testBit_lt_two_pow (Nat.lt_of_lt_of_le hs (Nat.pow_le_pow_right (by decide) (by omega)))]
    rfl
theorem qBest_of {T : qT} (w : qWT T) (h0 : 0 < T.1) {m c : Nat} (hc : c < 2 ^ (T.1 - 1)) (hm : qVl T c = m) (hb : ∀ s, s < 2 ^ (T.1 - 1) → qVl T s ≤ m ∧ (qVl T s = m → c ≤ s)) : qBest T (2 * m - T.1 * T.1) c := by
  have e : 2 ^ T.1 = 2 ^ (T.1 - 1) * 2 := by rw [← Nat.pow_succ]; congr 1; omega
  have hc2 : c < 2 ^ T.1 := by omega
  have v := qAll_V w hc2
  refine ⟨hc2, by omega, fun s hs => ?_⟩
  by_cases h1 : s < 2 ^ (T.1 - 1)
  · have v2 := qAll_V w hs
    obtain ⟨b1, b2⟩ := hb s h1
    exact ⟨by omega, fun z => b2 (by omega)⟩
  · have h2 := qCompl_lt (by omega) hs h0
    have v2 := qAll_V w (show s ^^^ (2 ^ T.1 - 1) < 2 ^ T.1 by omega)
    have v3 := qAll_compl w hs
    obtain ⟨b1, b2⟩ := hb _ h2
    exact ⟨by omega, fun z => by have := b2 (by omega); omega⟩
theorem qBest_uniq {T : qT} {m c m' c' : Nat} (a : qBest T m c) (b : qBest T m' c') : m = m' ∧ c = c' := by
  obtain ⟨a1, a2, a3⟩ := a
  obtain ⟨b1, b2, b3⟩ := b
  have x1 := a3 c' b1
  have x2 := b3 c a1
  have e : m = m' := by omega
  subst e
  have := x1.2 b2
  have := x2.2 a2
  exact ⟨rfl, by omega⟩
/-! Gray's order meets every set -/
theorem qXp {k x : Nat} (h : x < 2 ^ k) : 2 ^ k + x = 2 ^ k ^^^ x := by
  have := qxor_mul k (a := 1) (b := 0) (c := 0) (d := x) (Nat.two_pow_pos k) h
  simp at this
  rw [Nat.add_comm]
  omega
theorem qGy_lt {r k : Nat} (h : r < 2 ^ k) : qGy r < 2 ^ k := Nat.xor_lt_two_pow h (Nat.lt_of_le_of_lt (Nat.div_le_self _ _) h)
theorem qGy_sur : ∀ (k s : Nat), s < 2 ^ k → ∃ r, r < 2 ^ k ∧ qGy r = s := by
  intro k
  induction k with
  | zero =>
    intro s hs
    have h0 : s = 0 := by
      have : s < 1 := hs
      omega
    subst h0
    exact ⟨0, by decide, rfl⟩
  | succ k ih =>
    intro s hs
    have hp : 2 ^ (k + 1) = 2 ^ k * 2 := Nat.pow_succ ..
    by_cases h : s < 2 ^ k
    · obtain ⟨r, h1, h2⟩ := ih s h
      exact ⟨r, by omega, h2⟩
    · cases k with
      | zero =>
        have h1 : s = 1 := by
          have a1 : s < 2 := hs
          have a2 : ¬ s < 1 := h
          omega
        subst h1
        exact ⟨1, by decide, rfl⟩
      | succ k =>
        have hp2 : 2 ^ (k + 1) = 2 ^ k * 2 := Nat.pow_succ ..
        have hpos := Nat.two_pow_pos k
        obtain ⟨r, h1, h2⟩ := ih ((s - 2 ^ (k + 1)) ^^^ 2 ^ k) (Nat.xor_lt_two_pow (by omega) (by omega))
        refine ⟨2 ^ (k + 1) + r, by omega, ?_⟩
        have e1 : (2 ^ (k + 1) + r) / 2 = 2 ^ k + r / 2 := by omega
        unfold qGy at h2 ⊢
        rw [e1, qXp h1, qXp (show r / 2 < 2 ^ k by omega)]
        have e2 : s = 2 ^ (k + 1) ^^^ (s - 2 ^ (k + 1)) := by rw [← qXp (show s - 2 ^ (k + 1) < 2 ^ (k + 1) by omega)]; omega
        have e3 : s - 2 ^ (k + 1) = r ^^^ r / 2 ^^^ 2 ^ k := by rw [h2, Nat.xor_assoc, Nat.xor_self, Nat.xor_zero]
        conv => rhs; rw [e2, e3]
        apply Nat.eq_of_testBit_eq
        intro i
        simp only [Nat.testBit_xor]
        cases (2 ^ (k + 1)).testBit i <;> cases (2 ^ k).testBit i <;> cases r.testBit i <;> cases (r / 2).testBit i <;> rfl
/-- the best of what has been met up to k -/
def qVis (T : qT) (k m c : Nat) : Prop := (∃ k', k' ≤ k ∧ qGy k' = c) ∧ qVl T c = m ∧ ∀ k', k' ≤ k → qVl T (qGy k') ≤ m ∧ (qVl T (qGy k') = m → c ≤ qGy k')
theorem qVis_0 (T : qT) : qVis T 0 (qVl T 0) 0 := ⟨⟨0, Nat.le_refl 0, rfl⟩, rfl, fun k' h => by
  have : k' = 0 := by omega
  subst this
  exact ⟨Nat.le_refl _, fun _ => Nat.zero_le _⟩⟩
theorem qVis_up {T : qT} {k m c : Nat} (v : qVis T k m c) (h : m < qVl T (qGy (k + 1)) ∨ (qVl T (qGy (k + 1)) = m ∧ ¬ c ≤ qGy (k + 1))) : qVis T (k + 1) (qVl T (qGy (k + 1))) (qGy (k + 1)) := by
  obtain ⟨v1, v2, v3⟩ := v
  refine ⟨⟨k + 1, Nat.le_refl _, rfl⟩, rfl, fun k' hk => ?_⟩
  by_cases e : k' = k + 1
  · subst e; exact ⟨Nat.le_refl _, fun _ => Nat.le_refl _⟩
  · obtain ⟨a1, a2⟩ := v3 k' (by omega)
    rcases h with h | ⟨h, h'⟩
    · exact ⟨by omega, fun z => by omega⟩
    · exact ⟨by omega, fun z => by have := a2 (by omega); omega⟩
theorem qVis_keep {T : qT} {k m c : Nat} (v : qVis T k m c) (h1 : ¬ m < qVl T (qGy (k + 1))) (h2 : qVl T (qGy (k + 1)) = m → c ≤ qGy (k + 1)) : qVis T (k + 1) m c := by
  obtain ⟨⟨z, z1, z2⟩, v2, v3⟩ := v
  refine ⟨⟨z, by omega, z2⟩, v2, fun k' hk => ?_⟩
  by_cases e : k' = k + 1
  · subst e; exact ⟨by omega, h2⟩
  · exact v3 k' (by omega)
theorem qVis_best {T : qT} (w : qWT T) (h0 : 0 < T.1) {k m c : Nat} (hk : k + 1 = 2 ^ (T.1 - 1)) (v : qVis T k m c) : qBest T (2 * m - T.1 * T.1) c := by
  obtain ⟨⟨z, z1, z2⟩, v2, v3⟩ := v
  refine qBest_of w h0 ?_ v2 fun s hs => ?_
  · rw [← z2]; exact qGy_lt (by omega)
  · obtain ⟨r, r1, r2⟩ := qGy_sur _ s hs
    have := v3 r (by omega)
    rw [r2] at this
    exact this
/-! the model's order -/
def qFst (T : qT) (s : Nat) (m c : Nat) : Prop := c < s ∧ qAll T c = m ∧ ∀ s', s' < s → qAll T s' ≤ m ∧ (qAll T s' = m → c ≤ s')
theorem qFst_1 (T : qT) : qFst T 1 (qAll T 0) 0 := ⟨by decide, rfl, fun s' h => by
  have : s' = 0 := by omega
  subst this
  exact ⟨Nat.le_refl _, fun _ => Nat.zero_le _⟩⟩
theorem qFst_up {T : qT} {s m c : Nat} (v : qFst T s m c) (h : m < qAll T s) : qFst T (s + 1) (qAll T s) s := by
  obtain ⟨v1, v2, v3⟩ := v
  refine ⟨by omega, rfl, fun s' hs => ?_⟩
  by_cases e : s' = s
  · subst e; exact ⟨Nat.le_refl _, fun _ => Nat.le_refl _⟩
  · obtain ⟨a1, a2⟩ := v3 s' (by omega)
    exact ⟨by omega, fun z => by omega⟩
theorem qFst_keep {T : qT} {s m c : Nat} (v : qFst T s m c) (h : ¬ m < qAll T s) : qFst T (s + 1) m c := by
  obtain ⟨v1, v2, v3⟩ := v
  refine ⟨by omega, v2, fun s' hs => ?_⟩
  by_cases e : s' = s
  · subst e; exact ⟨by omega, fun _ => by omega⟩
  · exact v3 s' (by omega)
theorem qAb_sz {n w : Nat} (hn : n ≤ 28) : qAb n w = nI (qSz n w) := by
  have hp := qp_le w
  unfold qAb qSz
  by_cases c : 2 * qp w ≤ n
  · rw [qI_sub c, if_pos c, if_pos (by rw [qI_zero, qle (by decide) (by omega)]; omega)]
  · have e : -(nI n - nI (2 * qp w)) = nI (2 * qp w - n) := by rw [← qI_sub (by omega), Int32.neg_sub]
    rw [if_neg c, e, if_neg]
    intro z
    have e2 : nI n - nI (2 * qp w) = -(nI (2 * qp w - n)) := by rw [← e, Int32.neg_neg]
    rw [e2] at z
    have h1 : ∀ x, x < 65 → 0 < x → ¬ (0 : Int32) ≤ -(nI x) := by decide +kernel
    exact h1 (2 * qp w - n) (by omega) (by omega) z
