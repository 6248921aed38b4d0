/-! PURE: switched -/
theorem qc_set (n : Nat) (p : Nat → Bool) (k : Nat) : qc n (fun i => p i || decide (k = i)) = qc n p + (if k < n ∧ p k = false then 1 else 0) := by
  induction n with
  | zero => rw [if_neg (by omega)]; rfl
  | succ n ih =>
    show qc n (fun i => p i || decide (k = i)) + (p n || decide (k = n)).toNat = qc n p + (p n).toNat + _
    rw [ih]
    by_cases h1 : k = n
    · subst h1
      rw [if_neg (by omega), decide_eq_true rfl, Bool.or_true]
      cases h2 : p k
      · rw [if_pos ⟨by omega, rfl⟩]; rfl
      · rw [if_neg (by simp)]; rfl
    · rw [decide_eq_false h1, Bool.or_false]
      by_cases h2 : k < n ∧ p k = false
      · rw [if_pos h2, if_pos ⟨by omega, h2.2⟩]; omega
      · rw [if_neg h2, if_neg (fun z => h2 ⟨by omega, z.2⟩)]; omega
theorem qp_or {x k : Nat} (hk : k < 32) : qp (x ||| 2 ^ k) = qp x + (if x.testBit k = false then 1 else 0) := by
  unfold qp
  rw [qc_eq (q := fun i => x.testBit i || decide (k = i)) (fun i _ => by rw [Nat.testBit_or, Nat.testBit_two_pow]), qc_set]
  by_cases h1 : x.testBit k = false
  · rw [if_pos ⟨hk, h1⟩, if_pos h1]
  · rw [if_neg (fun z => h1 z.2), if_neg h1]
def qF4 (a b c d : Nat) : Nat := ((2 ^ a ||| 2 ^ b) ||| 2 ^ c) ||| 2 ^ d
theorem qF4_bit (a b c d i : Nat) : (qF4 a b c d).testBit i = (decide (a = i) || decide (b = i) || decide (c = i) || decide (d = i)) := by
  unfold qF4
  rw [Nat.testBit_or, Nat.testBit_or, Nat.testBit_or, Nat.testBit_two_pow, Nat.testBit_two_pow, Nat.testBit_two_pow, Nat.testBit_two_pow]
theorem qF4_p {a b c d : Nat} (ha : a < 32) (hb : b < 32) (hc : c < 32) (hd : d < 32) : qp (qF4 a b c d) = 4 ↔ (a ≠ b ∧ a ≠ c ∧ a ≠ d ∧ b ≠ c ∧ b ≠ d ∧ c ≠ d) := by
  unfold qF4
  have h1 : qp (2 ^ a) = 1 := by
    have := qp_or (x := 0) ha
    rw [Nat.zero_or, Nat.zero_testBit] at this
    rw [this]; rfl
  rw [qp_or hd, qp_or hc, qp_or hb, h1, Nat.testBit_or, Nat.testBit_or, Nat.testBit_or, Nat.testBit_two_pow, Nat.testBit_two_pow, Nat.testBit_two_pow, Nat.testBit_two_pow, Nat.testBit_two_pow, Nat.testBit_two_pow]
  by_cases h2 : decide (a = b) = false <;> by_cases h3 : (decide (a = c) || decide (b = c)) = false <;> by_cases h4 : ((decide (a = d) || decide (b = d)) || decide (c = d)) = false
  all_goals (first | rw [if_pos h2] | rw [if_neg h2])
  all_goals (first | rw [if_pos h3] | rw [if_neg h3])
  all_goals (first | rw [if_pos h4] | rw [if_neg h4])
  all_goals simp only [Bool.or_eq_false_iff, decide_eq_false_iff_not] at h2 h3 h4
  all_goals omega
theorem qF4_lt {a b c d n : Nat} (ha : a < n) (hb : b < n) (hc : c < n) (hd : d < n) : qF4 a b c d < 2 ^ n := by
  have P : ∀ {k}, k < n → 2 ^ k < 2 ^ n := fun h => Nat.pow_lt_pow_right (by decide) h
  exact Nat.or_lt_two_pow (Nat.or_lt_two_pow (Nat.or_lt_two_pow (P ha) (P hb)) (P hc)) (P hd)
theorem qF4_eq {a b c d x y : Nat} : x &&& qF4 a b c d = y &&& qF4 a b c d ↔ (x.testBit a = y.testBit a ∧ x.testBit b = y.testBit b ∧ x.testBit c = y.testBit c ∧ x.testBit d = y.testBit d) := by
  constructor
  · intro h
    have E : ∀ i, (qF4 a b c d).testBit i = true → x.testBit i = y.testBit i := by
      intro i hi
      have := congrArg (fun z => z.testBit i) h
      simpa only [Nat.testBit_and, hi, Bool.and_true] using this
    exact ⟨E a (by rw [qF4_bit]; simp), E b (by rw [qF4_bit]; simp), E c (by rw [qF4_bit]; simp), E d (by rw [qF4_bit]; simp)⟩
  · rintro ⟨h1, h2, h3, h4⟩
    apply Nat.eq_of_testBit_eq
    intro i
    rw [Nat.testBit_and, Nat.testBit_and]
    cases hi : (qF4 a b c d).testBit i
    · rw [Bool.and_false, Bool.and_false]
    · rw [qF4_bit] at hi
      rw [Bool.and_true, Bool.and_true]
      simp only [Bool.or_eq_true, decide_eq_true_eq] at hi
      rcases hi with ((hi | hi) | hi) | hi <;> rw [← hi] <;> assumption
theorem qF4_neg {a b c d x y : Nat} : x &&& qF4 a b c d = (y &&& qF4 a b c d) ^^^ qF4 a b c d ↔ (x.testBit a = !y.testBit a ∧ x.testBit b = !y.testBit b ∧ x.testBit c = !y.testBit c ∧ x.testBit d = !y.testBit d) := by
  have e : (y &&& qF4 a b c d) ^^^ qF4 a b c d = (y ^^^ qF4 a b c d) &&& qF4 a b c d := by
    apply Nat.eq_of_testBit_eq
    intro i
    rw [Nat.testBit_and, Nat.testBit_xor, Nat.testBit_xor, Nat.testBit_and]
    cases y.testBit i <;> cases (qF4 a b c d).testBit i <;> rfl
  rw [e, qF4_eq, Nat.testBit_xor, Nat.testBit_xor, Nat.testBit_xor, Nat.testBit_xor, (show (qF4 a b c d).testBit a = true by rw [qF4_bit]; simp), (show (qF4 a b c d).testBit b = true by rw [qF4_bit]; simp), (show (qF4 a b c d).testBit c = true by rw [qF4_bit]; simp), (show (qF4 a b c d).testBit d = true by rw [qF4_bit]; simp), Bool.xor_true, Bool.xor_true, Bool.xor_true, Bool.xor_true]
/-- the columns that go with column e in the four rows, or against it -/
def qSb (T : qT) (a b c d e q : Nat) : Bool :=
  ((T.2.1 a ^^^ T.2.1 b).testBit q == (T.2.1 a ^^^ T.2.1 b).testBit e) && ((T.2.1 a ^^^ T.2.1 c).testBit q == (T.2.1 a ^^^ T.2.1 c).testBit e) && ((T.2.1 a ^^^ T.2.1 d).testBit q == (T.2.1 a ^^^ T.2.1 d).testBit e)
def qSs (T : qT) (a b c d e : Nat) : Nat := qW T.1 (qSb T a b c d e)
def qSR (T : qT) (a b c d e : Nat) : Nat → Nat := fun i => if i = a ∨ i = b ∨ i = c ∨ i = d then T.2.1 i ^^^ qSs T a b c d e else T.2.1 i
def qAlk (w e : Nat) : Nat := if w.testBit e then w else w ^^^ (2 ^ 32 - 1)
theorem qAlk_bit {w e q : Nat} (hq : q < 32) : (qAlk w e).testBit q = (w.testBit q == w.testBit e) := by
  unfold qAlk
  cases h1 : w.testBit e
  · rw [if_neg (by decide), Nat.testBit_xor, Nat.testBit_two_pow_sub_one, decide_eq_true hq]
    cases w.testBit q <;> rfl
  · rw [if_pos rfl]
    cases w.testBit q <;> rfl
theorem x_alike {w e : Nat} (hw : w < 2 ^ 31) (he : e < 32) : f_X8_alikeAt (nI w) (nI e) = some (nI (qAlk w e)) := by
  unfold f_X8_alikeAt qAlk
  rw [x_inSet hw he, qbind]
  cases h1 : w.testBit e
  · rw [qif0, if_neg (by decide), show (-1 : Int32) = nI (2 ^ 32 - 1) from rfl, qI_xor]
  · rw [qif1, if_pos rfl]
theorem qSs_x {T : qT} (hn : T.1 ≤ 28) (a b c d e : Nat) : (((2 ^ T.1 - 1) &&& qAlk (T.2.1 a ^^^ T.2.1 b) e) &&& qAlk (T.2.1 a ^^^ T.2.1 c) e) &&& qAlk (T.2.1 a ^^^ T.2.1 d) e = qSs T a b c d e := by
  apply qW_ext
  · rw [Nat.and_assoc, Nat.and_assoc, Nat.and_comm]
    exact Nat.and_lt_two_pow _ (qMk_lt T.1)
  · intro q hq
    rw [Nat.testBit_and, Nat.testBit_and, Nat.testBit_and, Nat.testBit_two_pow_sub_one, decide_eq_true hq, qAlk_bit (by omega), qAlk_bit (by omega), qAlk_bit (by omega), Bool.true_and]
    rfl
theorem qSR_w {T : qT} (w : qWT T) (a b c d e : Nat) : qWT (qNew T.1 (qSR T a b c d e)) := by
  refine qNew_w w.1 fun i hi => ?_
  unfold qSR
  by_cases h1 : i = a ∨ i = b ∨ i = c ∨ i = d
  · rw [if_pos h1]; exact Nat.xor_lt_two_pow (w.2.1 i hi) (qW_lt _ _)
  · rw [if_neg h1]; exact w.2.1 i hi
/-- the size of a sum, as both say it -/
def qAb (n w : Nat) : Int32 := if 0 ≤ nI n - nI (2 * qp w) then nI n - nI (2 * qp w) else -(nI n - nI (2 * qp w))
def qW4 (T : qT) (a b c d : Nat) : Nat := ((T.2.1 a ^^^ T.2.1 b) ^^^ T.2.1 c) ^^^ T.2.1 d
theorem x_abs (n w : Nat) : f_J9_abs_0f7a4 (nI n - nI (2 * qp w)) = some (qAb n w) := by
  unfold f_J9_abs_0f7a4 qAb
  by_cases h : 0 ≤ nI n - nI (2 * qp w)
  · rw [if_pos h, if_pos h]
  · rw [if_neg h, if_neg h]
theorem m_size {w : Nat} (hw : w < 2 ^ 31) (n : Nat) : f_X9_sizeOf (nI w) (nI n) = some (qAb n w) := by
  unfold f_X9_sizeOf qAb
  have := m_sumOf (a := w) (b := 0) (by rw [Nat.xor_zero]; exact hw) (nI n)
  rw [Nat.xor_zero] at this
  rw [show f_X9_sumOf (nI w) 0 (nI n) = some (nI n - nI (2 * qp w)) from this, qbind]
  by_cases h : 0 ≤ nI n - nI (2 * qp w)
  · rw [if_pos h, if_pos h]
  · rw [if_neg h, if_neg h]
theorem qW4_lt {T : qT} (w : qWT T) {a b c d : Nat} (ha : a < T.1) (hb : b < T.1) (hc : c < T.1) (hd : d < T.1) : qW4 T a b c d < 2 ^ 28 := q31 w.1 (Nat.xor_lt_two_pow (Nat.xor_lt_two_pow (Nat.xor_lt_two_pow (w.2.1 a ha) (w.2.1 b hb)) (w.2.1 c hc)) (w.2.1 d hd))
section QSX
variable {h : mH} {t : Nat} {T : qT} {a b c d e : Nat}
theorem x_switch0 (q : qXt h t T) (w : qWT T) (ha : a < T.1) (hb : b < T.1) (hc : c < T.1) (hd : d < T.1) (hz : ¬ qAb T.1 (qW4 T a b c d) = nI T.1) : f_X7_switchRows (some (3 + 4 * t)) (nI a) (nI b) (nI c) (nI d) (nI e) h = some (0, h) := by
  obtain ⟨bk, bs, bc, ra, rb, fr, fa, fb, hT, hs⟩ := q
  have hn := w.1
  have hw := qW4_lt w ha hb hc hd
  unfold f_X7_switchRows
  rw [hT.is, qbind, hT.rows, qbind, hT.row (i := a) (by omega), qbind, qbind, hT.row (i := b) (by omega), qbind, qbind, hT.row (i := c) (by omega), qbind, qbind, hT.row (i := d) (by omega), qbind, hT.size, qbind, hs.1 a ha, hs.1 b hb, hs.1 c hc, hs.1 d hd, qI_xor, qI_xor, qI_xor, show ((T.2.1 a ^^^ T.2.1 b) ^^^ T.2.1 c) ^^^ T.2.1 d = qW4 T a b c d from rfl, x_signSum (by omega), qbind, x_abs, qbind, qbind, if_neg hz]
theorem x_switch1 (q : qXt h t T) (w : qWT T) (ha : a < T.1) (hb : b < T.1) (hc : c < T.1) (hd : d < T.1) (he : e < T.1) (hz : qAb T.1 (qW4 T a b c d) = nI T.1) (hq : a ≠ b ∧ a ≠ c ∧ a ≠ d ∧ b ≠ c ∧ b ≠ d ∧ c ≠ d) : ∃ h', f_X7_switchRows (some (3 + 4 * t)) (nI a) (nI b) (nI c) (nI d) (nI e) h = some (1, h') ∧ qXt h' t (qNew T.1 (qSR T a b c d e)) ∧ qSame (qIs4 t) h h' := by
  obtain ⟨bk, bs, bc, ra, rb, fr, fa, fb, hT, hs⟩ := q
  obtain ⟨q1, q2, q3, q4, q5, q6⟩ := hq
  have hn := w.1
  have hw := qW4_lt w ha hb hc hd
  have X : ∀ {i}, i < T.1 → T.2.1 a ^^^ T.2.1 i < 2 ^ 31 := fun {i} hi => by have := q31 hn (Nat.xor_lt_two_pow (w.2.1 a ha) (w.2.1 i hi)); omega
  obtain ⟨h1, p1, t1, s1⟩ := hT.stRow (i := a) (by omega) (nI (T.2.1 a ^^^ qSs T a b c d e))
  obtain ⟨h2, p2, t2, s2⟩ := t1.stRow (i := b) (by omega) (nI (T.2.1 b ^^^ qSs T a b c d e))
  obtain ⟨h3, p3, t3, s3⟩ := t2.stRow (i := c) (by omega) (nI (T.2.1 c ^^^ qSs T a b c d e))
  obtain ⟨h4, p4, t4, s4⟩ := t3.stRow (i := d) (by omega) (nI (T.2.1 d ^^^ qSs T a b c d e))
  obtain ⟨h5, p5, b5, s5⟩ := x_beginTrail t4
  refine ⟨h5, ?_, b5.fin hn fun i hi => ?_, (((s1.trans s2).trans s3).trans s4).trans s5⟩
  · unfold f_X7_switchRows
    rw [hT.is, qbind, hT.rows, qbind, hT.row (i := a) (by omega), qbind, qbind, hT.row (i := b) (by omega), qbind, qbind, hT.row (i := c) (by omega), qbind, qbind, hT.row (i := d) (by omega), qbind, hT.size, qbind, hs.1 a ha, hs.1 b hb, hs.1 c hc, hs.1 d hd, qI_xor, qI_xor, qI_xor, show ((T.2.1 a ^^^ T.2.1 b) ^^^ T.2.1 c) ^^^ T.2.1 d = qW4 T a b c d from rfl, x_signSum (by omega), qbind, x_abs, qbind, qbind, if_pos hz, x_mask hT hn, qbind]
    rw [qbind, hT.row (i := a) (by omega), qbind, qbind, hT.row (i := b) (by omega), qbind, hs.1 a ha, hs.1 b hb, qI_xor, x_alike (X hb) (by omega), qbind]
    rw [qbind, hT.row (i := a) (by omega), qbind, qbind, hT.row (i := c) (by omega), qbind, hs.1 a ha, hs.1 c hc, qI_xor, x_alike (X hc) (by omega), qbind]
    rw [qbind, hT.row (i := a) (by omega), qbind, qbind, hT.row (i := d) (by omega), qbind, hs.1 a ha, hs.1 d hd, qI_xor, x_alike (X hd) (by omega), qbind]
    rw [qI_and, qI_and, qI_and, qSs_x hn, qbind, hT.row (i := a) (by omega), qbind, hs.1 a ha, qI_xor, p1, qbind]
    rw [t1.rows, qbind, t1.row (i := b) (by omega), qbind, qUpn (by omega), hs.1 b hb, qI_xor, p2, qbind]
    rw [t2.rows, qbind, t2.row (i := c) (by omega), qbind, qUpn (by omega), qUpn (by omega), hs.1 c hc, qI_xor, p3, qbind]
    rw [t3.rows, qbind, t3.row (i := d) (by omega), qbind, qUpn (by omega), qUpn (by omega), qUpn (by omega), hs.1 d hd, qI_xor, p4, qbind, p5, qbind]
  · unfold qSR
    by_cases e4 : i = d
    · rw [e4, qUps, if_pos (by omega)]
    · rw [qUpn e4]
      by_cases e3 : i = c
      · rw [e3, qUps, if_pos (by omega)]
      · rw [qUpn e3]
        by_cases e2 : i = b
        · rw [e2, qUps, if_pos (by omega)]
        · rw [qUpn e2]
          by_cases e1 : i = a
          · rw [e1, qUps, if_pos (by omega)]
          · rw [qUpn e1, if_neg (by omega)]; exact hs.1 i hi
end QSX
section QSM
variable {h : mH} {A : qA} {t a b c d e : Nat}
theorem m_switch2 (m : qM h A) (w : qWA A) (h6 : t < 6) (ha : a < (A.1 t).1) (hb : b < (A.1 t).1) (hc : c < (A.1 t).1) (hd : d < (A.1 t).1) : ∃ r, f_X9_switched_l199 (some 51) (nI t) (nI (qF4 a b c d)) (nI (A.1 t).1) (nI (qSs (A.1 t) a b c d e)) 0 h = some r ∧ r.1 = 1 ∧ qM r.2 (qSetT A t (qNew (A.1 t).1 (qSR (A.1 t) a b c d e))) ∧ qSame qC5 h r.2 := by
  have wt := w.1 t h6
  have hn := wt.1
  have hF := q31 hn (qF4_lt ha hb hc hd)
  obtain ⟨x0, y0, fo, fr, ff, fg, fw, mb, hm⟩ := m.b
  obtain ⟨c1, c2, c3, c4, c5, c6⟩ := hm t h6
  unfold f_X9_switched_l199
  refine mLoop_inv (b := fun x : Int32 × mH => f_X9_switched_b199 (some 51) (nI t) (nI (qF4 a b c d)) (nI (A.1 t).1) (nI (qSs (A.1 t) a b c d e)) x.1 x.2) (fun k (s : Int32 × mH) => s.1 = nI k ∧ qSame qC5 h s.2 ∧ ∃ fr', qMb s.2 (nI A.2.1.1) x0 y0 fo fr' ff fg fw ∧ qOut 28 t fr fr' ∧ (∀ i, i < k → fr' (28 * t + i) = nI (qSR (A.1 t) a b c d e i)) ∧ ∀ i, k ≤ i → fr' (28 * t + i) = fr (28 * t + i)) (A.1 t).1 (fun r : Int32 × mH => r.1 = 1 ∧ qM r.2 (qSetT A t (qNew (A.1 t).1 (qSR (A.1 t) a b c d e))) ∧ qSame qC5 h r.2) (s0 := (nI 0, h)) ⟨rfl, qSame.rf, fr, mb, qOut.rf, fun i hi => absurd hi (Nat.not_lt_zero i), fun _ _ => rfl⟩ ?_ ?_
  · rintro k ⟨ik, hk⟩ hkn ⟨rfl, sk, fr1, mk', o1, o2, o3⟩
    have mk : qMb hk (nI A.2.1.1) x0 y0 fo fr1 ff fg fw := mk'
    show ∃ s', f_X9_switched_b199 (some 51) (nI t) (nI (qF4 a b c d)) (nI (A.1 t).1) (nI (qSs (A.1 t) a b c d e)) (nI k) hk = some (.inl s') ∧ _
    unfold f_X9_switched_b199
    rw [if_neg (by rw [qle (by omega) (by omega)]; omega), m_has (by omega) (by omega), qbind]
    have hb4 := qF4_bit a b c d k
    cases hB : (qF4 a b c d).testBit k
    · rw [qif0]
      refine ⟨(nI (k + 1), hk), by rw [nI_1], rfl, sk, fr1, mk, o1, fun i hi => ?_, fun i hi => o3 i (by omega)⟩
      by_cases hik : i = k
      · rw [hB] at hb4
        have hb5 : ¬ (k = a ∨ k = b ∨ k = c ∨ k = d) := by
          rintro (z | z | z | z) <;> simp [z] at hb4
        rw [hik, o3 k (Nat.le_refl k), c2 k hkn]
        unfold qSR
        rw [if_neg hb5]
      · exact o2 i (by omega)
    · rw [qif1]
      obtain ⟨h2, p2, m2, s2⟩ := mk.st53 (i := 28 * t + k) (by omega) (nI ((A.1 t).2.1 k ^^^ qSs (A.1 t) a b c d e))
      refine ⟨(nI (k + 1), h2), ?_, rfl, sk.trans s2, _, m2, o1.up (by omega) (by omega) _, fun i hi => ?_, fun i hi => ?_⟩
      · rw [mk.rows, qbind, qL28, qI_mul, qI_add, mk.row (by omega), qbind, o3 k (Nat.le_refl k), c2 k hkn, qI_xor, p2, qbind, nI_1]
      · by_cases hik : i = k
        · rw [hB] at hb4
          have hb5 : k = a ∨ k = b ∨ k = c ∨ k = d := by
            have hb6 := hb4.symm
            simp only [Bool.or_eq_true, decide_eq_true_eq] at hb6
            omega
          rw [hik, qUps]
          unfold qSR
          rw [if_pos hb5]
        · rw [qUpn (by omega)]; exact o2 i (by omega)
      · rw [qUpn (by omega)]; exact o3 i (by omega)
  · rintro ⟨ik, hk⟩ ⟨rfl, sk, fr1, mk', o1, o2, o3⟩
    have mk : qMb hk (nI A.2.1.1) x0 y0 fo fr1 ff fg fw := mk'
    obtain ⟨h2, p2, s2, ff2, fg2, fw2, m2, o⟩ := m_trailsAnew mk h6
    refine ⟨(1, h2), ?_, rfl, m.upd (sk.trans s2) m2 (qMset w hm (o.new hn c1 o2) qOut.rf o1 o.1 o.2.1 o.2.2.1) rfl, sk.trans s2⟩
    show f_X9_switched_b199 (some 51) (nI t) (nI (qF4 a b c d)) (nI (A.1 t).1) (nI (qSs (A.1 t) a b c d e)) (nI (A.1 t).1) hk = _
    unfold f_X9_switched_b199
    rw [if_pos (by rw [qle (by omega) (by omega)]; omega), p2, qbind]
theorem qSb_iff {T : qT} (ha : a < T.1) (hb : b < T.1) (hc : c < T.1) (hd : d < T.1) (q : Nat) : (qCol T q &&& qF4 a b c d = qCol T e &&& qF4 a b c d ∨ qCol T q &&& qF4 a b c d = (qCol T e &&& qF4 a b c d) ^^^ qF4 a b c d) ↔ qSb T a b c d e q = true := by
  rw [qF4_eq, qF4_neg, qCol_bit ha, qCol_bit hb, qCol_bit hc, qCol_bit hd, qCol_bit ha, qCol_bit hb, qCol_bit hc, qCol_bit hd]
  unfold qSb
  rw [Nat.testBit_xor, Nat.testBit_xor, Nat.testBit_xor, Nat.testBit_xor, Nat.testBit_xor, Nat.testBit_xor]
  cases (T.2.1 a).testBit q <;> cases (T.2.1 b).testBit q <;> cases (T.2.1 c).testBit q <;> cases (T.2.1 d).testBit q <;> cases (T.2.1 a).testBit e <;> cases (T.2.1 b).testBit e <;> cases (T.2.1 c).testBit e <;> cases (T.2.1 d).testBit e <;> decide
theorem m_switch1 (m : qM h A) (w : qWA A) (h6 : t < 6) (ha : a < (A.1 t).1) (hb : b < (A.1 t).1) (hc : c < (A.1 t).1) (hd : d < (A.1 t).1) (he : e < (A.1 t).1) : ∃ r, f_X9_switched_l145 (some 51) (nI t) (nI (qF4 a b c d)) (nI (A.1 t).1) (nI (qCol (A.1 t) e &&& qF4 a b c d)) 0 0 h = some r ∧ r.1 = 1 ∧ qM r.2 (qSetT A t (qNew (A.1 t).1 (qSR (A.1 t) a b c d e))) ∧ qSame qC5 h r.2 := by
  have wt := w.1 t h6
  have hn := wt.1
  have hF := qF4_lt ha hb hc hd
  have hF2 := q31 hn hF
  obtain ⟨x0, y0, fo, fr, ff, fg, fw, mb, hm⟩ := m.b
  unfold f_X9_switched_l145
  refine mLoop_inv (b := fun x : Int32 × Int32 => f_X9_switched_b145 (some 51) (nI t) (nI (qF4 a b c d)) (nI (A.1 t).1) (nI (qCol (A.1 t) e &&& qF4 a b c d)) x.1 x.2 h) (fun k (s : Int32 × Int32) => s = (nI (qW k (qSb (A.1 t) a b c d e)), nI k)) (A.1 t).1 (fun r : Int32 × mH => r.1 = 1 ∧ qM r.2 (qSetT A t (qNew (A.1 t).1 (qSR (A.1 t) a b c d e))) ∧ qSame qC5 h r.2) (s0 := (0, 0)) rfl ?_ ?_
  · rintro k s hkn rfl
    refine ⟨_, ?_, rfl⟩
    show f_X9_switched_b145 (some 51) (nI t) (nI (qF4 a b c d)) (nI (A.1 t).1) (nI (qCol (A.1 t) e &&& qF4 a b c d)) (nI (qW k (qSb (A.1 t) a b c d e))) (nI k) h = _
    have l0 : ∀ z, qCol (A.1 t) z < 2 ^ 28 := fun z => q31 hn (qCol_lt _ z)
    have l1 : ∀ z, qCol (A.1 t) z &&& qF4 a b c d < 2 ^ 28 := fun z => Nat.and_lt_two_pow _ hF2
    have l2 : (qCol (A.1 t) e &&& qF4 a b c d) ^^^ qF4 a b c d < 2 ^ 28 := Nat.xor_lt_two_pow (l1 e) hF2
    have l3 := l1 k
    have l4 := l1 e
    unfold f_X9_switched_b145 f_X9_switched_c181
    rw [if_neg (by rw [qle (by omega) (by omega)]; omega), m_columnOf mb (hm t h6) h6 wt (by omega), qbind, qI_and, qI_xor, ← qW_or]
    have iff := qSb_iff (e := e) ha hb hc hd k
    by_cases z1 : qCol (A.1 t) k &&& qF4 a b c d = qCol (A.1 t) e &&& qF4 a b c d
    · rw [if_pos (by rw [z1]), iff.mp (Or.inl z1), qI_pow (by omega), qI_or, show true.toNat = 1 from rfl, Nat.one_mul, nI_1]
    · rw [if_neg (by rw [qeq (by omega) (by omega)]; exact z1)]
      by_cases z2 : qCol (A.1 t) k &&& qF4 a b c d = (qCol (A.1 t) e &&& qF4 a b c d) ^^^ qF4 a b c d
      · rw [if_pos (by rw [z2]), iff.mp (Or.inr z2), qI_pow (by omega), qI_or, show true.toNat = 1 from rfl, Nat.one_mul, nI_1]
      · have z3 : qSb (A.1 t) a b c d e k = false := by
          cases hz : qSb (A.1 t) a b c d e k
          · rfl
          · rcases iff.mpr hz with z | z
            · exact absurd z z1
            · exact absurd z z2
        rw [if_neg (by rw [qeq (by omega) (by omega)]; exact z2), z3, show false.toNat = 0 from rfl, Nat.zero_mul, Nat.or_zero, nI_1]
  · rintro s rfl
    obtain ⟨r, p, e1⟩ := m_switch2 (e := e) m w h6 ha hb hc hd
    refine ⟨r, ?_, e1⟩
    show f_X9_switched_b145 (some 51) (nI t) (nI (qF4 a b c d)) (nI (A.1 t).1) (nI (qCol (A.1 t) e &&& qF4 a b c d)) (nI (qW (A.1 t).1 (qSb (A.1 t) a b c d e))) (nI (A.1 t).1) h = _
    unfold f_X9_switched_b145
    rw [if_pos (by rw [qle (by omega) (by omega)]; omega), show qW (A.1 t).1 (qSb (A.1 t) a b c d e) = qSs (A.1 t) a b c d e from rfl, p]
    rfl
end QSM
theorem op_switched {h : mH} {A : qA} (I : qI h A) (x i j k l e : Int32) : qStep (f_X8_switched (some 1) x i j k l e) (f_X9_switched (some 51) x i j k l e) h := by
  have L := qTb2 I x
  have I0 := I
  obtain ⟨q, m, w⟩ := I
  obtain ⟨x0, y0, fo, fr, ff, fg, fw, mb, hm⟩ := m.b
  rcases L with ⟨l1, l2⟩ | ⟨t, hx, l1, l2⟩
  · refine qStep.none (r := 0) I0 ?_ ?_
    · unfold f_X8_switched; rw [q.is, qbind, l1, qbind, if_pos rfl]
    · have : f_X9_isLine (some 51) x i h = some 0 := by
        unfold f_X9_isLine
        rw [mb.is, qbind, l2, qbind, if_pos rfl]
      unfold f_X9_switched; rw [mb.is, qbind, this, qbind, if_pos rfl]
  · have h6 := hx.1
    have wt := w.1 t h6
    have hn := wt.1
    have Li := qLn3 I0 hx i
    have Lj := qLn3 I0 hx j
    have Lk := qLn3 I0 hx k
    have Ll := qLn3 I0 hx l
    have Le := qLn3 I0 hx e
    -- not all lines: both say 0
    have bad : (f_X7_has (some (3 + 4 * t)) i h = some 0 ∧ f_X9_isLine (some 51) x i h = some 0) ∨ (f_X7_has (some (3 + 4 * t)) j h = some 0 ∧ f_X9_isLine (some 51) x j h = some 0) ∨ (f_X7_has (some (3 + 4 * t)) k h = some 0 ∧ f_X9_isLine (some 51) x k h = some 0) ∨ (f_X7_has (some (3 + 4 * t)) l h = some 0 ∧ f_X9_isLine (some 51) x l h = some 0) ∨ (f_X7_has (some (3 + 4 * t)) e h = some 0 ∧ f_X9_isLine (some 51) x e h = some 0) → qStep (f_X8_switched (some 1) x i j k l e) (f_X9_switched (some 51) x i j k l e) h := by
      intro hbad
      have P : ∀ {z}, ((f_X7_has (some (3 + 4 * t)) z h = some 0 ∧ f_X9_isLine (some 51) x z h = some 0) ∨ ∃ k, k < (A.1 t).1 ∧ z = nI k ∧ f_X7_has (some (3 + 4 * t)) z h = some 1 ∧ f_X9_isLine (some 51) x z h = some 1) → ∃ b : Bool, f_X7_has (some (3 + 4 * t)) z h = some (qB2I b) ∧ f_X9_isLine (some 51) x z h = some (qB2I b) := by
        rintro z (⟨z1, z2⟩ | ⟨_, _, _, z1, z2⟩)
        · exact ⟨false, z1, z2⟩
        · exact ⟨true, z1, z2⟩
      obtain ⟨bi, i1, i2⟩ := P Li
      obtain ⟨bj, j1, j2⟩ := P Lj
      obtain ⟨bk, k1, k2⟩ := P Lk
      obtain ⟨bl, l3, l4⟩ := P Ll
      obtain ⟨be, e1, e2⟩ := P Le
      have N : ∀ {b : Bool}, some (qB2I b) = some (0 : Int32) → b = false := by
        intro b hb
        cases b
        · rfl
        · exact absurd (Option.some.inj hb) (by decide)
      have all : bi = false ∨ bj = false ∨ bk = false ∨ bl = false ∨ be = false := by
        rcases hbad with z | z | z | z | z
        · exact Or.inl (N (i1.symm.trans z.1))
        · exact Or.inr (Or.inl (N (j1.symm.trans z.1)))
        · exact Or.inr (Or.inr (Or.inl (N (k1.symm.trans z.1))))
        · exact Or.inr (Or.inr (Or.inr (Or.inl (N (l3.symm.trans z.1)))))
        · exact Or.inr (Or.inr (Or.inr (Or.inr (N (e1.symm.trans z.1)))))
      refine qStep.none (r := 0) I0 ?_ ?_
      · unfold f_X8_switched
        rw [q.is, qbind, l1, qbind, if_neg qne, e1, qbind]
        cases be
        · rw [qif0]
        · rw [qif1, i1, qbind]
          cases bi
          · rw [qif0]
          · rw [qif1, j1, qbind]
            cases bj
            · rw [qif0]
            · rw [qif1, k1, qbind]
              cases bk
              · rw [qif0]
              · rw [qif1, l3, qbind]
                cases bl
                · rw [qif0]
                · simp at all
      · unfold f_X9_switched
        rw [mb.is, qbind, i2, qbind]
        cases bi
        · rw [qif0]
        · rw [qif1, j2, qbind]
          cases bj
          · rw [qif0]
          · rw [qif1, k2, qbind]
            cases bk
            · rw [qif0]
            · rw [qif1, l4, qbind]
              cases bl
              · rw [qif0]
              · rw [qif1, e2, qbind]
                cases be
                · rw [qif0]
                · simp at all
    rcases Li with z | ⟨a, ha, rfl, i1, i2⟩
    · exact bad (Or.inl z)
    rcases Lj with z | ⟨b, hb, rfl, j1, j2⟩
    · exact bad (Or.inr (Or.inl z))
    rcases Lk with z | ⟨c, hc, rfl, k1, k2⟩
    · exact bad (Or.inr (Or.inr (Or.inl z)))
    rcases Ll with z | ⟨d, hd, rfl, l3, l4⟩
    · exact bad (Or.inr (Or.inr (Or.inr (Or.inl z))))
    rcases Le with z | ⟨g, hg, rfl, e1, e2⟩
    · exact bad (Or.inr (Or.inr (Or.inr (Or.inr z))))
    have hF := q31 hn (qF4_lt ha hb hc hd)
    have hw4 := qW4_lt wt ha hb hc hd
    have hx2 : x = nI t := hx.2.1
    -- the model, as far as the two tests
    have M : ∀ {h' : mH}, qM h' A → f_X9_switched (some 51) x (nI a) (nI b) (nI c) (nI d) (nI g) h' = if nI (qp (qF4 a b c d)) = 4 then (if qAb (A.1 t).1 (qW4 (A.1 t) a b c d) = nI (A.1 t).1 then f_X9_switched_l145 (some 51) (nI t) (nI (qF4 a b c d)) (nI (A.1 t).1) (nI (qCol (A.1 t) g &&& qF4 a b c d)) 0 0 h' else some (0, h')) else some (0, h') := by
      intro h' m'
      obtain ⟨x2, y2, fo2, fr2, ff2, fg2, fw2, mb2, hm2⟩ := m'.b
      have ln : ∀ {z}, z < (A.1 t).1 → f_X9_isLine (some 51) x (nI z) h' = some (qB2I true) := by
        intro z hz
        have := m_line mb2 hm2 w hx (k := z) (by omega)
        rw [decide_eq_true hz] at this
        exact this
      unfold f_X9_switched
      rw [mb2.is, qbind, ln ha, qbind, qif1, ln hb, qbind, qif1, ln hc, qbind, qif1, ln hd, qbind, qif1, ln hg, qbind, qif1, mb2.orders, qbind, hx2, mb2.order h6, qbind, (hm2 t h6).1, qI_pow (by omega), qI_pow (by omega), qI_pow (by omega), qI_pow (by omega), qI_or, qI_or, qI_or, show ((2 ^ a ||| 2 ^ b) ||| 2 ^ c) ||| 2 ^ d = qF4 a b c d from rfl, qX_bitsOf (by omega), qbind]
      rw [m_rowOf mb2 (hm2 t h6) h6 wt ha, qbind, m_rowOf mb2 (hm2 t h6) h6 wt hb, qbind, m_rowOf mb2 (hm2 t h6) h6 wt hc, qbind, m_rowOf mb2 (hm2 t h6) h6 wt hd, qbind, qI_xor, qI_xor, qI_xor, show (((A.1 t).2.1 a ^^^ (A.1 t).2.1 b) ^^^ (A.1 t).2.1 c) ^^^ (A.1 t).2.1 d = qW4 (A.1 t) a b c d from rfl, m_size (by omega), qbind, m_columnOf mb2 (hm2 t h6) h6 wt (by omega), qbind, qI_and]
    have h4 : nI (qp (qF4 a b c d)) = 4 ↔ (a ≠ b ∧ a ≠ c ∧ a ≠ d ∧ b ≠ c ∧ b ≠ d ∧ c ≠ d) := by
      rw [← qF4_p (by omega) (by omega) (by omega) (by omega), show (4 : Int32) = nI 4 from rfl, qeq (by have := qp_le (qF4 a b c d); omega) (by decide)]
    have E : ∀ {u v : Nat}, u < (A.1 t).1 → v < (A.1 t).1 → (nI u = nI v ↔ u = v) := fun hu hv => qeq (by omega) (by omega)
    by_cases hq : a ≠ b ∧ a ≠ c ∧ a ≠ d ∧ b ≠ c ∧ b ≠ d ∧ c ≠ d
    · have q1 : ¬ nI a = nI b := fun z => hq.1 ((E ha hb).mp z)
      have q2 : ¬ nI a = nI c := fun z => hq.2.1 ((E ha hc).mp z)
      have q3 : ¬ nI a = nI d := fun z => hq.2.2.1 ((E ha hd).mp z)
      have q4 : ¬ nI b = nI c := fun z => hq.2.2.2.1 ((E hb hc).mp z)
      have q5 : ¬ nI b = nI d := fun z => hq.2.2.2.2.1 ((E hb hd).mp z)
      have q6 : ¬ nI c = nI d := fun z => hq.2.2.2.2.2 ((E hc hd).mp z)
      by_cases hz : qAb (A.1 t).1 (qW4 (A.1 t) a b c d) = nI (A.1 t).1
      · obtain ⟨h1, p1, t1, s1⟩ := x_switch1 (q.2.2.2.1 t h6) wt ha hb hc hd hg hz hq
        have s1' := s1.mono (qIs4.cx h6)
        have m1 := m.same s1'
        obtain ⟨⟨r2, h2⟩, p2, r2e, m2, s2⟩ := m_switch1 m1 w h6 ha hb hc hd hg
        have r2e' : r2 = 1 := r2e
        have f1 : f_X8_switched (some 1) x (nI a) (nI b) (nI c) (nI d) (nI g) h = some (1, h1) := by
          unfold f_X8_switched
          rw [q.is, qbind, l1, qbind, if_neg qne, e1, qbind, if_neg q10, i1, qbind, if_neg q10, j1, qbind, if_neg q10, k1, qbind, if_neg q10, l3, qbind, if_neg q10, if_neg q1, if_neg q2, if_neg q3, if_neg q4, if_neg q5, if_neg q6, p1, qbind, if_pos (Or.inr rfl)]
        have f2 : f_X9_switched (some 51) x (nI a) (nI b) (nI c) (nI d) (nI g) h1 = some (1, h2) := by
          rw [M m1, if_pos (h4.mpr hq), if_pos hz, p2, r2e']
        exact qStep.mk f1 (q.tab h6 s1 t1) s1' f2 m2 (s2.mono qC5.cm) (w.tab (qSR_w wt a b c d g))
      · refine qStep.none (r := 0) I0 ?_ ?_
        · unfold f_X8_switched
          rw [q.is, qbind, l1, qbind, if_neg qne, e1, qbind, if_neg q10, i1, qbind, if_neg q10, j1, qbind, if_neg q10, k1, qbind, if_neg q10, l3, qbind, if_neg q10, if_neg q1, if_neg q2, if_neg q3, if_neg q4, if_neg q5, if_neg q6, x_switch0 (q.2.2.2.1 t h6) wt ha hb hc hd hz, qbind, if_pos (Or.inl rfl)]
        · rw [M m, if_pos (h4.mpr hq), if_neg hz]
    · refine qStep.none (r := 0) I0 ?_ ?_
      · unfold f_X8_switched
        rw [q.is, qbind, l1, qbind, if_neg qne, e1, qbind, if_neg q10, i1, qbind, if_neg q10, j1, qbind, if_neg q10, k1, qbind, if_neg q10, l3, qbind, if_neg q10]
        by_cases q1 : nI a = nI b
        · rw [if_pos q1]
        rw [if_neg q1]
        by_cases q2 : nI a = nI c
        · rw [if_pos q2]
        rw [if_neg q2]
        by_cases q3 : nI a = nI d
        · rw [if_pos q3]
        rw [if_neg q3]
        by_cases q4 : nI b = nI c
        · rw [if_pos q4]
        rw [if_neg q4]
        by_cases q5 : nI b = nI d
        · rw [if_pos q5]
        rw [if_neg q5]
        by_cases q6 : nI c = nI d
        · rw [if_pos q6]
        exact absurd ⟨fun z => q1 (by rw [z]), fun z => q2 (by rw [z]), fun z => q3 (by rw [z]), fun z => q4 (by rw [z]), fun z => q5 (by rw [z]), fun z => q6 (by rw [z])⟩ hq
      · rw [M m, if_neg (fun z => hq (h4.mp z))]
