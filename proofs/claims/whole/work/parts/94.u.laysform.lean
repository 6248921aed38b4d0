/-! PURE: form, the model lays a form -/
theorem qIm_compl {n : Nat} {r : Nat → Nat} (hr : ∀ p, p < n → r p < n) (x : Nat) : qIm n r (x ^^^ (2 ^ n - 1)) = qIm n r x ^^^ (2 ^ n - 1) := by
  unfold qIm
  apply Nat.eq_of_testBit_eq; intro p
  rw [Nat.testBit_xor, qW_bit, qW_bit, Nat.testBit_two_pow_sub_one]
  by_cases z : p < n
  · rw [decide_eq_true z, Nat.testBit_xor, Nat.testBit_two_pow_sub_one, decide_eq_true (hr p z)]; rfl
  · rw [decide_eq_false z]; rfl
/-- the lesser word of a row -/
def qLs2 (n : Nat) (R : Nat → Nat) (f : Nat) (r : Nat → Nat) (k : Nat) : Nat := min (qIm n r (qWd n R f k false)) (qIm n r (qWd n R f k true))
theorem qLs2_eq {n : Nat} {R : Nat → Nat} {f : Nat} {r : Nat → Nat} (hr : ∀ p, p < n → r p < n) (k : Nat) : qLs2 n R f r k = if qIm n r (R k ^^^ R f) ^^^ (2 ^ n - 1) ≤ qIm n r (R k ^^^ R f) then qIm n r (R k ^^^ R f) ^^^ (2 ^ n - 1) else qIm n r (R k ^^^ R f) := by
  unfold qLs2 qWd
  rw [if_neg (by decide), if_pos rfl, Nat.xor_zero, qIm_compl hr]
  by_cases z : qIm n r (R k ^^^ R f) ^^^ (2 ^ n - 1) ≤ qIm n r (R k ^^^ R f)
  · rw [if_pos z]; omega
  · rw [if_neg z]; omega
/-- places and the columns that stand there -/
def qInv (n : Nat) (pl r : Nat → Nat) : Prop := (∀ j, j < n → pl j < n ∧ r (pl j) = j) ∧ ∀ p, p < n → r p < n ∧ pl (r p) = p
def qN64 (h : mH) (k : Nat) (S : Nat → Nat) : Prop := ∃ g, h.2 64 = .inl (6, .inl g) ∧ ∀ i, i < k → g i = nI (S i)
section QLF
variable {A : qA} {t n f : Nat} {R : Nat → Nat}
theorem m_l104 (hn : n ≤ 6) {S : Nat → Nat} {k v : Nat} (hk : k < n) (hS : ∀ i, i < k → S i < 2 ^ 6) (hv : v < 2 ^ 6) (v1 v2 v3 : Int32) : ∀ (p : Nat) (h : mH) (g : Nat → Int32), p ≤ k → qM h A → h.2 64 = .inl (6, .inl g) → (∀ i, i < p → g i = nI (S i)) → (∀ i, p < i → i ≤ k → g i = nI (S (i - 1))) → (∀ i, p ≤ i → i < k → v < S i) → ∃ p' h' g', p' ≤ p ∧ f_X9_laysForm_l104 (some 51) v1 v2 v3 (nI k) (nI v) (nI p) h = some (.inl (nI (k + 1), h')) ∧ qM h' A ∧ qSame (fun z => z = 64) h h' ∧ h'.2 64 = .inl (6, .inl g') ∧ (∀ i, i < p' → g' i = nI (S i)) ∧ g' p' = nI v ∧ (∀ i, p' < i → i ≤ k → g' i = nI (S (i - 1))) ∧ (∀ i, p' ≤ i → i < k → v < S i) ∧ (0 < p' → S (p' - 1) ≤ v) := by
  intro p
  -- it ends here
  have STOP : ∀ (p : Nat) (h : mH) (g : Nat → Int32), p ≤ k → qM h A → h.2 64 = .inl (6, .inl g) → (∀ i, i < p → g i = nI (S i)) → (∀ i, p < i → i ≤ k → g i = nI (S (i - 1))) → (∀ i, p ≤ i → i < k → v < S i) → (0 < p → S (p - 1) ≤ v) → f_X9_laysForm_b104 (some 51) v1 v2 v3 (nI k) (nI v) (nI p) h = (f_X9_laysForm_c145 (some 51) v1 v2 v3 (nI k) (nI v) (nI p) h).map (fun r => (Sum.inr r)) → ∃ p' h' g', p' ≤ p ∧ f_X9_laysForm_l104 (some 51) v1 v2 v3 (nI k) (nI v) (nI p) h = some (.inl (nI (k + 1), h')) ∧ qM h' A ∧ qSame (fun z => z = 64) h h' ∧ h'.2 64 = .inl (6, .inl g') ∧ (∀ i, i < p' → g' i = nI (S i)) ∧ g' p' = nI v ∧ (∀ i, p' < i → i ≤ k → g' i = nI (S (i - 1))) ∧ (∀ i, p' ≤ i → i < k → v < S i) ∧ (0 < p' → S (p' - 1) ≤ v) := by
    intro p h g hp m e lo up gt le B
    obtain ⟨h2, p2, m2, e2, s2⟩ := m_stW m qMf64 e (i := p) (by omega) (nI v)
    refine ⟨p, h2, _, Nat.le_refl p, ?_, m2, s2, e2, fun i hi => by rw [qUpn (by omega)]; exact lo i hi, qUps, fun i h1 h2 => by rw [qUpn (by omega)]; exact up i h1 h2, gt, le⟩
    unfold f_X9_laysForm_l104
    refine mLoop_inr (x := (nI p, h)) ?_
    show f_X9_laysForm_b104 (some 51) v1 v2 v3 (nI k) (nI v) (nI p) h = _
    rw [B]
    unfold f_X9_laysForm_c145
    rw [m.g63.2.1, qbind, p2, qbind, nI_1]; rfl
  induction p with
  | zero =>
    intro h g hp m e lo up gt
    refine STOP 0 h g hp m e lo up gt (fun z => absurd z (by decide)) ?_
    unfold f_X9_laysForm_b104
    rw [if_pos (by decide)]
  | succ p ih =>
    intro h g hp m e lo up gt
    have sp := hS p (by omega)
    have B : f_X9_laysForm_b104 (some 51) v1 v2 v3 (nI k) (nI v) (nI (p + 1)) h = if S p ≤ v then (f_X9_laysForm_c145 (some 51) v1 v2 v3 (nI k) (nI v) (nI (p + 1)) h).map (fun r => (Sum.inr r)) else (mSI h (some 64) (nI (p + 1)) (nI (S p))).bind fun h8 => some (Sum.inl (nI p, h8)) := by
      unfold f_X9_laysForm_b104
      rw [if_neg (by rw [qI_zero, qle (by omega) (by decide)]; omega), m.g63.2.1, qbind, qI_m1 (by omega), Nat.add_sub_cancel, m.atW e (by decide) (by decide) (by omega), qbind, lo p (by omega), qbind, qbind, qI_dn]
      by_cases z : S p ≤ v
      · rw [if_pos (by rw [qle (by omega) (by omega)]; exact z), if_pos z]
      · rw [if_neg (by rw [qle (by omega) (by omega)]; exact z), if_neg z, m.atW e (by decide) (by decide) (by omega), qbind, lo p (by omega)]
    by_cases z : S p ≤ v
    · rw [if_pos z] at B
      exact STOP (p + 1) h g hp m e lo up gt (fun _ => by rw [Nat.add_sub_cancel]; exact z) B
    · rw [if_neg z] at B
      obtain ⟨h8, p8, m8, e8, s8⟩ := m_stW m qMf64 e (i := p + 1) (by omega) (nI (S p))
      obtain ⟨p', h', g', a1, a2, a3, a4, a5⟩ := ih h8 _ (by omega) m8 e8 (fun i hi => by rw [qUpn (by omega)]; exact lo i (by omega)) (fun i h1 h2 => by
        by_cases y : i = p + 1
        · rw [y, qUps, Nat.add_sub_cancel]
        · rw [qUpn y]; exact up i (by omega) h2) (fun i h1 h2 => by
        by_cases y : i = p
        · rw [y]; omega
        · exact gt i (by omega) h2)
      refine ⟨p', h', g', by omega, ?_, a3, s8.trans a4, a5⟩
      rw [← a2]
      unfold f_X9_laysForm_l104
      refine mLoop_inl (x := (nI (p + 1), h)) ?_
      show f_X9_laysForm_b104 (some 51) v1 v2 v3 (nI k) (nI v) (nI (p + 1)) h = _
      rw [B, p8, qbind]
/-- the word of a row: columns below k laid -/
theorem m_l38 {h : mH} (m : qM h A) (hn : n ≤ 6) {pl r : Nat → Nat} (iv : qInv n pl r) (pp : qPlc h n pl) {x : Nat} (hx : x < 2 ^ n) (v1 v2 : Int32) (kk : Nat) : f_X9_laysForm_l38 (some 51) v1 v2 (nI n) (nI kk) (nI x) 0 0 h = f_X9_laysForm_l104 (some 51) v1 v2 (nI n) (nI kk) (nI (if qIm n r x ^^^ (2 ^ n - 1) ≤ qIm n r x then qIm n r x ^^^ (2 ^ n - 1) else qIm n r x)) (nI kk) h := by
  have p6 : 2 ^ n ≤ 2 ^ 6 := Nat.pow_le_pow_right (by decide) hn
  obtain ⟨f63, e63, u63⟩ := pp
  have W : ∀ k, qW n (fun p => x.testBit (r p) && decide (r p < k)) < 2 ^ n := fun k => qW_lt n _
  have LOOP : ∀ d k, k + d = n → f_X9_laysForm_l38 (some 51) v1 v2 (nI n) (nI kk) (nI x) (nI (qW n (fun p => x.testBit (r p) && decide (r p < k)))) (nI k) h = f_X9_laysForm_l104 (some 51) v1 v2 (nI n) (nI kk) (nI (if qIm n r x ^^^ (2 ^ n - 1) ≤ qIm n r x then qIm n r x ^^^ (2 ^ n - 1) else qIm n r x)) (nI kk) h := by
    intro d
    induction d with
    | zero =>
      intro k hk
      have kn : k = n := by omega
      subst kn
      have full : qW k (fun p => x.testBit (r p) && decide (r p < k)) = qIm k r x := by
        unfold qIm
        exact qW_congr fun p hp => by rw [decide_eq_true (iv.2 p hp).1, Bool.and_true]
      rw [full]
      have il : qIm k r x < 2 ^ k := qW_lt k _
      have ic : qIm k r x ^^^ (2 ^ k - 1) < 2 ^ k := Nat.xor_lt_two_pow il (by omega)
      have E : f_X9_laysForm_b38 (some 51) v1 v2 (nI k) (nI kk) (nI x) (nI (qIm k r x)) (nI k) h = (f_X9_laysForm_l104 (some 51) v1 v2 (nI k) (nI kk) (nI (if qIm k r x ^^^ (2 ^ k - 1) ≤ qIm k r x then qIm k r x ^^^ (2 ^ k - 1) else qIm k r x)) (nI kk) h).map (fun r => (Sum.inr r)) := by
        unfold f_X9_laysForm_b38
        rw [if_pos (Int32.le_iff_toInt_le.mpr (Int.le_refl _)), qI_mask (by omega), qI_xor]
        by_cases z : qIm k r x ^^^ (2 ^ k - 1) ≤ qIm k r x
        · rw [if_pos (by rw [qle (by omega) (by omega)]; exact z), if_pos z]
        · rw [if_neg (by rw [qle (by omega) (by omega)]; exact z), if_neg z]
      unfold f_X9_laysForm_l38
      rw [mLoop_eq]
      show (f_X9_laysForm_b38 (some 51) v1 v2 (nI k) (nI kk) (nI x) (nI (qIm k r x)) (nI k) h).bind _ = _
      rw [E]
      cases f_X9_laysForm_l104 (some 51) v1 v2 (nI k) (nI kk) (nI (if qIm k r x ^^^ (2 ^ k - 1) ≤ qIm k r x then qIm k r x ^^^ (2 ^ k - 1) else qIm k r x)) (nI kk) h <;> rfl
    | succ d ih =>
      intro k hk
      rw [← ih (k + 1) (by omega)]
      unfold f_X9_laysForm_l38
      refine mLoop_inl (x := (nI (qW n (fun p => x.testBit (r p) && decide (r p < k))), nI k)) ?_
      show f_X9_laysForm_b38 (some 51) v1 v2 (nI n) (nI kk) (nI x) (nI (qW n (fun p => x.testBit (r p) && decide (r p < k)))) (nI k) h = _
      unfold f_X9_laysForm_b38
      obtain ⟨q1, q2⟩ := iv.1 k (by omega)
      rw [if_neg (by rw [qle (by omega) (by omega)]; omega), m_has (by omega) (by omega), qbind, nI_1]
      have step : qW n (fun p => x.testBit (r p) && decide (r p < k + 1)) = qW n (fun p => x.testBit (r p) && decide (r p < k)) ||| (if x.testBit k then 2 ^ pl k else 0) := by
        apply Nat.eq_of_testBit_eq; intro p
        rw [Nat.testBit_or, qW_bit, qW_bit]
        by_cases z : p < n
        · rw [decide_eq_true z, Bool.true_and, Bool.true_and]
          obtain ⟨w1, w2⟩ := iv.2 p z
          by_cases y : r p = k
          · rw [y, decide_eq_true (by omega), decide_eq_false (by omega), Bool.and_true, Bool.and_false, Bool.false_or]
            cases x.testBit k
            · rw [if_neg (by decide), Nat.zero_testBit]
            · rw [if_pos rfl, ← y, w2, Nat.testBit_two_pow_self]
          · have nb : (if x.testBit k then 2 ^ pl k else 0).testBit p = false := by
              cases x.testBit k
              · rw [if_neg (by decide), Nat.zero_testBit]
              · rw [if_pos rfl, Nat.testBit_two_pow, decide_eq_false]
                intro h; exact y (by rw [← h, q2])
            rw [nb, Bool.or_false]
            congr 1
            rw [decide_eq_decide]; omega
        · rw [decide_eq_false z, Bool.false_and, Bool.false_and, Bool.false_or]
          cases x.testBit k
          · rw [if_neg (by decide), Nat.zero_testBit]
          · rw [if_pos rfl, Nat.testBit_two_pow, decide_eq_false (by omega)]
      cases hb : x.testBit k
      · rw [hb, if_neg (by decide), Nat.or_zero] at step
        rw [qif0, step]
      · rw [hb, if_pos rfl] at step
        rw [qif1, m.g63.1, qbind, m.atW e63 (by decide) (by decide) (by omega), qbind, u63 k (by omega), qI_pow (by omega), qI_or, step]
  have z0 : qW n (fun p => x.testBit (r p) && decide (r p < 0)) = 0 := qW_false n _ fun i => by rw [decide_eq_false (Nat.not_lt_zero _), Bool.and_false]
  have := LOOP n 0 (Nat.zero_add n)
  rw [z0] at this
  exact this
end QLF
