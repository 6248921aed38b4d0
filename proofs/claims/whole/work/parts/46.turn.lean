/-! PURE: turn -/
theorem qXd (a j b k : Nat) : (a / 2 ^ j ^^^ b / 2 ^ k) &&& 1 = (a.testBit j ^^ b.testBit k).toNat := by
  rw [Nat.and_one_is_mod]
  have z := @Nat.xor_mod_two_eq_one (a / 2 ^ j) (b / 2 ^ k)
  have y := qPar (a / 2 ^ j ^^^ b / 2 ^ k)
  rw [qI_tb, qI_tb] at z
  generalize (a / 2 ^ j ^^^ b / 2 ^ k) % 2 = d at z y ⊢
  cases h1 : a.testBit j <;> cases h2 : b.testBit k <;> rw [h1, h2] at z <;> simp at z ⊢ <;> omega
theorem qFl_bit (d : Bool) (j q : Nat) : (d.toNat * 2 ^ j).testBit q = (d && decide (j = q)) := by
  cases d
  · rw [show false.toNat = 0 from rfl, Nat.zero_mul, Nat.zero_testBit]; rfl
  · rw [show true.toNat = 1 from rfl, Nat.one_mul, Nat.testBit_two_pow]; simp
theorem qFl_lt (d : Bool) {j n : Nat} (hj : j < n) : d.toNat * 2 ^ j < 2 ^ n := by
  have h1 : 2 ^ j < 2 ^ n := Nat.pow_lt_pow_right (by decide) hj
  cases d
  · rw [show false.toNat = 0 from rfl, Nat.zero_mul]; exact Nat.two_pow_pos n
  · rw [show true.toNat = 1 from rfl, Nat.one_mul]; exact h1
theorem qFl {n j : Nat} {p : Nat → Bool} (d : Bool) (hj : j < n) : qW n p ^^^ (d.toNat * 2 ^ j) = qW n (fun q => p q ^^ (d && decide (j = q))) := by
  apply qW_ext
  · exact Nat.xor_lt_two_pow (qW_lt n p) (qFl_lt d hj)
  · intro i hi
    rw [Nat.testBit_xor, qW_bit, qFl_bit]
    simp [hi]
/-- rows in the midst of turning: the sides before k turned, and j of side k -/
def qTp (T : qT) (k j p : Nat) : Nat := qW T.1 (fun q => if (p < k ∧ q < k) ∨ (p = k ∧ q < j) ∨ (q = k ∧ p < j) then (T.2.1 q).testBit p else (T.2.1 p).testBit q)
section QTP
variable {T : qT} {k j p : Nat}
theorem qTp_k (hj : j < k) (hk : k < T.1) : qTp T k j k ^^^ (((T.2.1 k).testBit j ^^ (T.2.1 j).testBit k).toNat * 2 ^ j) = qTp T k (j + 1) k := by
  unfold qTp
  rw [qFl _ (by omega)]
  apply qW_congr
  intro q hq
  show ((if (k < k ∧ q < k) ∨ (k = k ∧ q < j) ∨ (q = k ∧ k < j) then (T.2.1 q).testBit k else (T.2.1 k).testBit q) ^^ (((T.2.1 k).testBit j ^^ (T.2.1 j).testBit k) && decide (j = q))) = (if (k < k ∧ q < k) ∨ (k = k ∧ q < j + 1) ∨ (q = k ∧ k < j + 1) then (T.2.1 q).testBit k else (T.2.1 k).testBit q)
  by_cases h1 : j = q
  · subst h1
    rw [if_neg (by omega), if_pos (by omega), decide_eq_true rfl]
    cases (T.2.1 k).testBit j <;> cases (T.2.1 j).testBit k <;> rfl
  · rw [decide_eq_false h1, Bool.and_false, Bool.xor_false]
    by_cases hc : q < j
    · rw [if_pos (by omega), if_pos (by omega)]
    · rw [if_neg (by omega), if_neg (by omega)]
theorem qTp_j (hj : j < k) (hk : k < T.1) : qTp T k j j ^^^ (((T.2.1 k).testBit j ^^ (T.2.1 j).testBit k).toNat * 2 ^ k) = qTp T k (j + 1) j := by
  unfold qTp
  rw [qFl _ hk]
  apply qW_congr
  intro q hq
  show ((if (j < k ∧ q < k) ∨ (j = k ∧ q < j) ∨ (q = k ∧ j < j) then (T.2.1 q).testBit j else (T.2.1 j).testBit q) ^^ (((T.2.1 k).testBit j ^^ (T.2.1 j).testBit k) && decide (k = q))) = (if (j < k ∧ q < k) ∨ (j = k ∧ q < j + 1) ∨ (q = k ∧ j < j + 1) then (T.2.1 q).testBit j else (T.2.1 j).testBit q)
  by_cases h1 : k = q
  · subst h1
    rw [if_neg (by omega), if_pos (by omega), decide_eq_true rfl]
    cases (T.2.1 k).testBit j <;> cases (T.2.1 j).testBit k <;> rfl
  · rw [decide_eq_false h1, Bool.and_false, Bool.xor_false]
    by_cases hc : q < k
    · rw [if_pos (by omega), if_pos (by omega)]
    · rw [if_neg (by omega), if_neg (by omega)]
theorem qTp_o (h1 : p ≠ k) (h2 : p ≠ j) : qTp T k (j + 1) p = qTp T k j p := by
  unfold qTp
  apply qW_congr
  intro q hq
  show (if (p < k ∧ q < k) ∨ (p = k ∧ q < j + 1) ∨ (q = k ∧ p < j + 1) then (T.2.1 q).testBit p else (T.2.1 p).testBit q) = (if (p < k ∧ q < k) ∨ (p = k ∧ q < j) ∨ (q = k ∧ p < j) then (T.2.1 q).testBit p else (T.2.1 p).testBit q)
  by_cases hc : (p < k ∧ q < k) ∨ (p = k ∧ q < j) ∨ (q = k ∧ p < j)
  · rw [if_pos hc, if_pos (by omega)]
  · rw [if_neg hc, if_neg (by omega)]
theorem qTp_next : qTp T k k p = qTp T (k + 1) 0 p := by
  unfold qTp
  apply qW_congr
  intro q hq
  show (if (p < k ∧ q < k) ∨ (p = k ∧ q < k) ∨ (q = k ∧ p < k) then (T.2.1 q).testBit p else (T.2.1 p).testBit q) = (if (p < k + 1 ∧ q < k + 1) ∨ (p = k + 1 ∧ q < 0) ∨ (q = k + 1 ∧ p < 0) then (T.2.1 q).testBit p else (T.2.1 p).testBit q)
  by_cases hpq : p = q
  · rw [hpq]
    by_cases hc : (q < k ∧ q < k) ∨ (q = k ∧ q < k) ∨ (q = k ∧ q < k)
    · rw [if_pos hc, if_pos (by omega)]
    · rw [if_neg hc]
      by_cases hd : (q < k + 1 ∧ q < k + 1) ∨ (q = k + 1 ∧ q < 0) ∨ (q = k + 1 ∧ q < 0)
      · rw [if_pos hd]
      · rw [if_neg hd]
  · by_cases hc : (p < k ∧ q < k) ∨ (p = k ∧ q < k) ∨ (q = k ∧ p < k)
    · rw [if_pos hc, if_pos (by omega)]
    · rw [if_neg hc, if_neg (by omega)]
theorem qTp_0 (w : qWT T) (hp : p < T.1) : qTp T 0 0 p = T.2.1 p := by
  refine (qW_ext (w.2.1 p hp) fun q hq => ?_).symm
  rw [if_neg (by omega)]
theorem qTp_n (hp : p < T.1) : qTp T T.1 0 p = qCol T p := by
  unfold qTp qCol
  apply qW_congr
  intro q hq
  rw [if_pos (by omega)]
theorem qTp_lt : qTp T k j p < 2 ^ T.1 := qW_lt _ _
theorem qTp_bk (hj : j < k) (hk : k < T.1) : (qTp T k j k).testBit j = (T.2.1 k).testBit j := by
  unfold qTp
  rw [qW_bit, if_neg (by omega), decide_eq_true (by omega), Bool.true_and]
theorem qTp_bj (hj : j < k) (hk : k < T.1) : (qTp T k j j).testBit k = (T.2.1 j).testBit k := by
  unfold qTp
  rw [qW_bit, if_neg (by omega), decide_eq_true hk, Bool.true_and]
end QTP
def qTu (T : qT) : qT := (T.1, qCol T, T.2.2.2.1, T.2.2.1, !T.2.2.2.2)
theorem qTu_w {T : qT} (w : qWT T) : qWT (qTu T) := ⟨w.1, fun i _ => qCol_lt T i, w.2.2.2, w.2.2.1⟩
theorem x_transpose {h : mH} {t : Nat} {T : qT} (q : qXt h t T) (w : qWT T) : ∃ h', f_X7_transpose (some (3 + 4 * t)) h = some h' ∧ qXt h' t (qTu T) ∧ qSame (qIs4 t) h h' := by
  obtain ⟨bk, bs, bc, ra, rb, fr, fa, fb, hT, hs⟩ := q
  have hn := w.1
  unfold f_X7_transpose f_X7_transpose_l2
  rw [hT.is, qbind]
  refine mLoop_inv (b := fun x : Int32 × mH => f_X7_transpose_b2 (some (3 + 4 * t)) x.1 x.2) (fun k (s : Int32 × mH) => s.1 = nI k ∧ qSame (qIs4 t) h s.2 ∧ ∃ frk, qTX s.2 t (nI T.1) (qB2I T.2.2.2.2) bk bs bc ra rb frk fa fb ∧ ∀ p, p < T.1 → frk p = nI (qTp T k 0 p)) T.1 (fun h' => qXt h' t (qTu T) ∧ qSame (qIs4 t) h h') (s0 := (nI 0, h)) ⟨rfl, qSame.rf, fr, hT, fun p hp => by rw [qTp_0 w hp]; exact hs.1 p hp⟩ ?_ ?_
  · rintro k ⟨ik, hk⟩ hkn ⟨rfl, sk, frk, tk, a1⟩
    show ∃ s', f_X7_transpose_b2 (some (3 + 4 * t)) (nI k) hk = some (.inl s') ∧ _
    unfold f_X7_transpose_b2
    rw [tk.size, qbind, if_neg (by rw [qle (by omega) (by omega)]; omega)]
    unfold f_X7_transpose_l12
    have R := mLoop_inv (b := fun x : Int32 × mH => f_X7_transpose_b12 (some (3 + 4 * t)) (nI k) x.1 x.2) (fun j (s : Int32 × mH) => s.1 = nI j ∧ qSame (qIs4 t) h s.2 ∧ ∃ frk, qTX s.2 t (nI T.1) (qB2I T.2.2.2.2) bk bs bc ra rb frk fa fb ∧ ∀ p, p < T.1 → frk p = nI (qTp T k j p)) k (fun r => ∃ s' : Int32 × mH, r = .inl s' ∧ s'.1 = nI (k + 1) ∧ qSame (qIs4 t) h s'.2 ∧ ∃ frk, qTX s'.2 t (nI T.1) (qB2I T.2.2.2.2) bk bs bc ra rb frk fa fb ∧ ∀ p, p < T.1 → frk p = nI (qTp T (k + 1) 0 p)) (s0 := (nI 0, hk)) ⟨rfl, sk, frk, tk, a1⟩ ?_ ?_
    · obtain ⟨r, e1, s', rfl, e2⟩ := R
      exact ⟨s', e1, e2⟩
    · rintro j ⟨ij, hj⟩ hjk ⟨rfl, sj, frj, tj, b1⟩
      have l1 := q31 hn (qTp_lt (T := T) (k := k) (j := j) (p := k))
      have l2 := q31 hn (qTp_lt (T := T) (k := k) (j := j) (p := j))
      have ed : (nI (qTp T k j k) >>> (nI j &&& 31) ^^^ nI (qTp T k j j) >>> (nI k &&& 31)) &&& 1 = nI ((T.2.1 k).testBit j ^^ (T.2.1 j).testBit k).toNat := by
        rw [qI_shr (by omega) (by omega), qI_shr (by omega) (by omega), qI_xor, qI_one, qI_and, qXd, qTp_bk hjk hkn, qTp_bj hjk hkn]
      obtain ⟨h2, p2, t2, s2⟩ := tj.stRow (i := k) (by omega) (nI (qTp T k (j + 1) k))
      obtain ⟨h3, p3, t3, s3⟩ := t2.stRow (i := j) (by omega) (nI (qTp T k (j + 1) j))
      refine ⟨(nI (j + 1), h3), ?_, rfl, (sj.trans s2).trans s3, _, t3, fun p hp => ?_⟩
      · show f_X7_transpose_b12 (some (3 + 4 * t)) (nI k) (nI j) hj = _
        have tj' : qTX hj t (nI T.1) (qB2I T.2.2.2.2) bk bs bc ra rb frj fa fb := tj
        unfold f_X7_transpose_b12
        rw [if_neg (by rw [qle (by omega) (by omega)]; omega), tj'.rows, qbind, tj'.row (i := k) (by omega), qbind, qbind, tj'.row (i := j) (by omega), qbind, qbind, tj'.row (i := k) (by omega), qbind, b1 k hkn, b1 j (by omega), ed, qI_shl _ (by omega), qI_xor, qTp_k hjk hkn, p2, qbind, t2.rows, qbind, t2.row (i := j) (by omega), qbind, qUpn (by omega), b1 j (by omega), qI_shl _ (by omega), qI_xor, qTp_j hjk hkn, p3, qbind, nI_1]
      · by_cases hpj : p = j
        · rw [hpj, qUps]
        · rw [qUpn hpj]
          by_cases hpk : p = k
          · rw [hpk, qUps]
          · rw [qUpn hpk, qTp_o hpk hpj]; exact b1 p hp
    · rintro ⟨ij, hj⟩ ⟨rfl, sj, frj, tj, b1⟩
      refine ⟨.inl (nI (k + 1), hj), ?_, _, rfl, rfl, sj, frj, tj, fun p hp => by rw [← qTp_next]; exact b1 p hp⟩
      show f_X7_transpose_b12 (some (3 + 4 * t)) (nI k) (nI k) hj = _
      unfold f_X7_transpose_b12
      rw [if_pos (by rw [qle (by omega) (by omega)]; omega), nI_1]
  · rintro ⟨ik, hk⟩ ⟨rfl, sk, frk, tk', a1⟩
    have tk : qTX hk t (nI T.1) (qB2I T.2.2.2.2) bk bs bc ra rb frk fa fb := tk'
    obtain ⟨z1, z2, z3, z4, z5, z6, z7, z8, z9⟩ := tk.neq
    have p2 := qPF (v := va_rf (some rb)) (j := 2) tk.le.1 tk.2.2.1 (Nat.le_of_ble_eq_true rfl)
    have p3 := qPF (h := mPut hk (3 + 4 * t) (.inr (6, List.set [.int (nI T.1), .ref (4 + 4 * t), .ref ra, .ref rb, .int (qB2I T.2.2.2.2), .int bk, .int bs, .int bc] 2 (va_rf (some rb))))) (v := va_rf (some ra)) (j := 3) tk.le.1 (qPutS _) (Nat.le_of_ble_eq_true rfl)
    generalize hh5 : mPut (mPut hk (3 + 4 * t) (.inr (6, List.set [.int (nI T.1), .ref (4 + 4 * t), .ref ra, .ref rb, .int (qB2I T.2.2.2.2), .int bk, .int bs, .int bc] 2 (va_rf (some rb))))) (3 + 4 * t) (.inr (6, List.set (List.set [.int (nI T.1), .ref (4 + 4 * t), .ref ra, .ref rb, .int (qB2I T.2.2.2.2), .int bk, .int bs, .int bc] 2 (va_rf (some rb))) 3 (va_rf (some ra)))) = h5 at p3
    have t5 : qTX h5 t (nI T.1) (qB2I T.2.2.2.2) bk bs bc rb ra frk fb fa := by
      rw [← hh5]
      refine ⟨tk.1, tk.2.1, (qPutS _).trans rfl, ?_, ?_, ?_, ?_⟩
      · rw [qPutN _ (by omega), qPutN _ (by omega)]; exact tk.2.2.2.1
      · rw [qPutN _ z3, qPutN _ z3]; exact tk.2.2.2.2.2.1
      · rw [qPutN _ z1, qPutN _ z1]; exact tk.2.2.2.2.1
      · have := tk.2.2.2.2.2.2
        omega
    have s5 : qSame (qIs4 t) hk h5 := by
      rw [← hh5]
      exact (qSame.rf.put ⟨by omega, by omega⟩ _).put ⟨by omega, by omega⟩ _
    have e : ∃ h7, f_X7_transpose_b2 (some (3 + 4 * t)) (nI T.1) hk = some (.inr h7) ∧ qTX h7 t (nI T.1) (qB2I (!T.2.2.2.2)) 0 bs bc rb ra frk fb fa ∧ qSame (qIs4 t) hk h7 := by
      unfold f_X7_transpose_b2
      rw [tk.size, qbind, if_pos (by rw [qle (by omega) (by omega)]; omega), tk.tra, qbind, tk.trb, qbind, p2, qbind, p3, qbind, t5.turned, qbind]
      cases hb : T.2.2.2.2
      · obtain ⟨h6, p6, t6, s6⟩ := t5.put (j := 4) (v := .int 1) (tn' := 1) (by decide) rfl
        obtain ⟨h7, p7, t7, s7⟩ := t6.put (j := 5) (v := .int 0) (bk' := 0) (by decide) rfl
        rw [qif0]
        unfold f_X7_transpose_c104
        rw [if_neg (by decide), p6, qbind, p7, qbind]
        exact ⟨h7, rfl, t7, (s5.trans s6).trans s7⟩
      · obtain ⟨h6, p6, t6, s6⟩ := t5.put (j := 4) (v := .int 0) (tn' := 0) (by decide) rfl
        obtain ⟨h7, p7, t7, s7⟩ := t6.put (j := 5) (v := .int 0) (bk' := 0) (by decide) rfl
        rw [qif1]
        unfold f_X7_transpose_c104
        rw [if_neg (by decide), p6, qbind, p7, qbind]
        exact ⟨h7, rfl, t7, (s5.trans s6).trans s7⟩
    obtain ⟨h7, e1, t7, s7⟩ := e
    exact ⟨h7, e1, ⟨0, bs, bc, rb, ra, frk, fb, fa, t7, fun p hp => by rw [a1 p hp, qTp_n (T := T) hp]; rfl, hs.2.2.1, hs.2.1, Or.inl rfl⟩, sk.trans s7⟩
section QTM
variable {h : mH} {A : qA} {t : Nat}
theorem m_turn1 (m : qM h A) (w : qWA A) (h6 : t < 6) {f : Nat → Int32} (h58 : h.2 58 = .inl (28, .inl f)) (hf : ∀ i, i < (A.1 t).1 → f i = nI (qCol (A.1 t) i)) : ∃ r, f_X9_turn_l42 (some 51) (nI t) 0 h = some r ∧ r.1 = 1 ∧ qM r.2 (qSetT A t (qTu (A.1 t))) ∧ qSame qC5 h r.2 := by
  have hn := (w.1 t h6).1
  obtain ⟨x0, y0, fo, fr, ff, fg, fw, mb, hm⟩ := m.b
  obtain ⟨c1, c2, c3, c4, c5, c6⟩ := hm t h6
  unfold f_X9_turn_l42
  refine mLoop_inv (b := fun x : Int32 × mH => f_X9_turn_b42 (some 51) (nI t) x.1 x.2) (fun k (s : Int32 × mH) => s.1 = nI k ∧ qSame qC5 h s.2 ∧ ∃ fr' ff' fg', qMb s.2 (nI A.2.1.1) x0 y0 fo fr' ff' fg' fw ∧ qOut 28 t fr fr' ∧ qOut 56 t ff ff' ∧ qOut 56 t fg fg' ∧ (∀ i, i < k → fr' (28 * t + i) = f i) ∧ ∀ i, i < 28 → (i < k → (ff' (28 * (2 * t) + i) = ff (28 * (2 * t + 1) + i) ∧ ff' (28 * (2 * t + 1) + i) = ff (28 * (2 * t) + i)) ∧ fg' (28 * (2 * t) + i) = fg (28 * (2 * t + 1) + i) ∧ fg' (28 * (2 * t + 1) + i) = fg (28 * (2 * t) + i)) ∧ (k ≤ i → (ff' (28 * (2 * t) + i) = ff (28 * (2 * t) + i) ∧ ff' (28 * (2 * t + 1) + i) = ff (28 * (2 * t + 1) + i)) ∧ fg' (28 * (2 * t) + i) = fg (28 * (2 * t) + i) ∧ fg' (28 * (2 * t + 1) + i) = fg (28 * (2 * t + 1) + i))) (A.1 t).1 (fun r : Int32 × mH => r.1 = 1 ∧ qM r.2 (qSetT A t (qTu (A.1 t))) ∧ qSame qC5 h r.2) (s0 := (nI 0, h)) ⟨rfl, qSame.rf, fr, ff, fg, mb, qOut.rf, qOut.rf, qOut.rf, fun i hi => absurd hi (Nat.not_lt_zero i), fun i hi => ⟨fun z => absurd z (Nat.not_lt_zero i), fun _ => ⟨⟨rfl, rfl⟩, rfl, rfl⟩⟩⟩ ?_ ?_
  · rintro k ⟨ik, hk⟩ hkn ⟨rfl, sk, fr1, ff1, fg1, mk', o1, o2, o3, o4, o5⟩
    have mk : qMb hk (nI A.2.1.1) x0 y0 fo fr1 ff1 fg1 fw := mk'
    have e58 : hk.2 58 = .inl (28, .inl f) := (sk.2 58 (by unfold qC5; decide)).trans h58
    have g58 : mGR hk (some 51) 8 8 = some (some 58) := qGR (mk.le (by decide)) mk.2.1 rfl
    obtain ⟨h2, p2, m2, s2⟩ := mk.st53 (i := 28 * t + k) (by omega) (f k)
    obtain ⟨h3, p3, m3, s3⟩ := m_sw54 m2 (i := 28 * (2 * t) + k) (k := 28 * (2 * t + 1) + k) (by omega) (by omega)
    obtain ⟨h4, p4, m4, s4⟩ := m_sw55 m3 (i := 28 * (2 * t) + k) (k := 28 * (2 * t + 1) + k) (by omega) (by omega)
    have a1 : ∀ {h fr ff fg} (q : qMb h (nI A.2.1.1) x0 y0 fo fr ff fg fw), f_X9_trailAt (some 51) (nI t) 1 (nI k) h = some (nI (28 * (2 * t) + k)) := fun q => m_trailAt q true k
    have a2 : ∀ {h fr ff fg} (q : qMb h (nI A.2.1.1) x0 y0 fo fr ff fg fw), f_X9_trailAt (some 51) (nI t) 0 (nI k) h = some (nI (28 * (2 * t + 1) + k)) := fun q => m_trailAt q false k
    refine ⟨(nI (k + 1), h4), ?_, rfl, ((sk.trans s2).trans s3).trans s4, _, _, _, m4, o1.up (by omega) (by omega) _, o2.sw (by omega) (by omega), o3.sw (by omega) (by omega), fun i hi => ?_, fun i hi => ⟨fun z => ?_, fun z => ?_⟩⟩
    · show f_X9_turn_b42 (some 51) (nI t) (nI k) hk = _
      unfold f_X9_turn_b42
      rw [mk.orders, qbind, mk.order h6, qbind, c1, if_neg (by rw [qle (by omega) (by omega)]; omega), mk.rows, qbind, g58, qbind, qAI (mk.le (by decide)) e58 (by decide) (by omega), qbind, qL28, qI_mul, qI_add, p2, qbind, m2.from, qbind, a1 m2, qbind, a2 m2, qbind, p3, qbind, m3.signed, qbind, a1 m3, qbind, a2 m3, qbind, p4, qbind, nI_1]
    · by_cases hik : i = k
      · rw [hik, qUps]
      · rw [qUpn (by omega)]; exact o4 i (by omega)
    · by_cases hik : i = k
      · have := ((o5 k (by omega)).2 (Nat.le_refl k))
        rw [hik]
        unfold qSw
        rw [if_pos rfl, if_neg (by omega), if_pos rfl, if_pos rfl, if_neg (by omega), if_pos rfl]
        exact ⟨⟨this.1.2, this.1.1⟩, this.2.2, this.2.1⟩
      · rw [qSw_out (by omega) (by omega), qSw_out (by omega) (by omega), qSw_out (by omega) (by omega), qSw_out (by omega) (by omega)]
        exact (o5 i hi).1 (by omega)
    · rw [qSw_out (by omega) (by omega), qSw_out (by omega) (by omega), qSw_out (by omega) (by omega), qSw_out (by omega) (by omega)]
      exact (o5 i hi).2 (by omega)
  · rintro ⟨ik, hk⟩ ⟨rfl, sk, fr1, ff1, fg1, mk', o1, o2, o3, o4, o5⟩
    have mk : qMb hk (nI A.2.1.1) x0 y0 fo fr1 ff1 fg1 fw := mk'
    obtain ⟨h2, p2, m2, s2⟩ := m_sw56 mk (i := 2 * t) (k := 2 * t + 1) (by omega) (by omega)
    refine ⟨(1, h2), ?_, rfl, m.upd (sk.trans s2) m2 (qMset w hm ⟨c1, fun i hi => (o4 i hi).trans (hf i hi), fun i hi => ?_, fun i hi => ?_, ?_, ?_⟩ qOut.rf o1 o2 o3 (qOut.rf.sw (by omega) (by omega))) rfl, sk.trans s2⟩
    · show f_X9_turn_b42 (some 51) (nI t) (nI (A.1 t).1) hk = _
      unfold f_X9_turn_b42
      rw [mk.orders, qbind, mk.order h6, qbind, c1, if_pos (by rw [qle (by omega) (by omega)]; omega), mk.was, qbind, qL2, qI_mul, qI_one, qI_add, p2, qbind]
    · have hi' : i < (A.1 t).1 := hi
      have := (o5 i (by omega)).1 hi'
      rw [this.1.1, this.2.1]
      exact c4 i hi'
    · have hi' : i < (A.1 t).1 := hi
      have := (o5 i (by omega)).1 hi'
      rw [this.1.2, this.2.2]
      exact c3 i hi'
    · intro z0
      have z1 : 0 < (A.1 t).1 := z0
      unfold qSw
      rw [if_pos rfl, c6 z1]
      show _ = qB2I (!(!(A.1 t).2.2.2.2))
      rw [Bool.not_not]
    · intro z0
      have z1 : 0 < (A.1 t).1 := z0
      unfold qSw
      rw [if_neg (by omega), if_pos rfl, c5 z1]
      rfl
theorem m_turn (m : qM h A) (w : qWA A) (h6 : t < 6) : ∃ r, f_X9_turn_l12 (some 51) (nI t) 0 h = some r ∧ r.1 = 1 ∧ qM r.2 (qSetT A t (qTu (A.1 t))) ∧ qSame qCM h r.2 := by
  have wt := w.1 t h6
  have hn := wt.1
  obtain ⟨f, hf⟩ := m.2.2.2.2.2.1
  unfold f_X9_turn_l12
  refine mLoop_inv (b := fun x : Int32 × mH => f_X9_turn_b12 (some 51) (nI t) x.1 x.2) (fun k (s : Int32 × mH) => s.1 = nI k ∧ qM s.2 A ∧ qSame (fun k => k = 58) h s.2 ∧ ∃ f, s.2.2 58 = .inl (28, .inl f) ∧ ∀ i, i < k → f i = nI (qCol (A.1 t) i)) (A.1 t).1 (fun r : Int32 × mH => r.1 = 1 ∧ qM r.2 (qSetT A t (qTu (A.1 t))) ∧ qSame qCM h r.2) (s0 := (nI 0, h)) ⟨rfl, m, qSame.rf, f, hf, fun i hi => absurd hi (Nat.not_lt_zero i)⟩ ?_ ?_
  · rintro k ⟨ik, hk⟩ hkn ⟨rfl, mk, sk, fk, e1, e2⟩
    obtain ⟨x0, y0, fo, fr, ff, fg, fw, mb, hm⟩ := qM.b (h := hk) mk
    obtain ⟨h2, p2, m2, e3, s2⟩ := m_stW mk qMf58 e1 (i := k) (by omega) (nI (qCol (A.1 t) k))
    refine ⟨(nI (k + 1), h2), ?_, rfl, m2, sk.trans s2, _, e3, fun i hi => ?_⟩
    · show f_X9_turn_b12 (some 51) (nI t) (nI k) hk = _
      unfold f_X9_turn_b12
      rw [mb.orders, qbind, mb.order h6, qbind, (hm t h6).1, if_neg (by rw [qle (by omega) (by omega)]; omega), qM.made (h := hk) mk, qbind, m_columnOf mb (hm t h6) h6 wt (by omega), qbind, p2, qbind, nI_1]
    · by_cases hik : i = k
      · rw [hik, qUps]
      · rw [qUpn hik]; exact e2 i (by omega)
  · rintro ⟨ik, hk⟩ ⟨rfl, mk, sk, fk, e1, e2⟩
    obtain ⟨x0, y0, fo, fr, ff, fg, fw, mb, hm⟩ := qM.b (h := hk) mk
    obtain ⟨r, p2, r1, m2, s2⟩ := m_turn1 (h := hk) mk w h6 e1 e2
    refine ⟨r, ?_, r1, m2, (sk.mono fun k z => by unfold qCM; omega).trans (s2.mono qC5.cm)⟩
    show f_X9_turn_b12 (some 51) (nI t) (nI (A.1 t).1) hk = _
    unfold f_X9_turn_b12
    rw [mb.orders, qbind, mb.order h6, qbind, (hm t h6).1, if_pos (by rw [qle (by omega) (by omega)]; omega), p2]
    rfl
end QTM
theorem op_turn {h : mH} {A : qA} (I : qI h A) (x : Int32) : qStep (f_X8_turn (some 1) x) (f_X9_turn (some 51) x) h := by
  have L := qTb2 I x
  have I0 := I
  obtain ⟨q, m, w⟩ := I
  obtain ⟨x0, y0, fo, fr, ff, fg, fw, mb, hm⟩ := m.b
  rcases L with ⟨l1, l2⟩ | ⟨t, hx, l1, l2⟩
  · refine qStep.none (r := 0) I0 ?_ ?_
    · unfold f_X8_turn; rw [q.is, qbind, l1, qbind, if_pos rfl]
    · unfold f_X9_turn; rw [mb.is, qbind, l2, qbind, if_pos rfl]
  · have h6 := hx.1
    have wt := w.1 t h6
    obtain ⟨h1, p1, t1, s1⟩ := x_transpose (q.2.2.2.1 t h6) wt
    have s1' := s1.mono (qIs4.cx h6)
    have m1 := m.same s1'
    obtain ⟨x2, y2, fo2, fr2, ff2, fg2, fw2, mb2, hm2⟩ := m1.b
    obtain ⟨⟨r2, h2⟩, p2, r2e, m2, s2⟩ := m_turn m1 w h6
    have r2e' : r2 = 1 := r2e
    have e1 : f_X8_turn (some 1) x h = some (1, h1) := by
      unfold f_X8_turn; rw [q.is, qbind, l1, qbind, if_neg qne, p1, qbind]
    have e2 : f_X9_turn (some 51) x h1 = some (1, h2) := by
      unfold f_X9_turn; rw [mb2.is, qbind, m_tab_yes mb2 hm2 w hx, qbind, if_neg q10, hx.2.1, p2, r2e']
    exact qStep.mk (A' := qSetT A t (qTu (A.1 t))) e1 (q.tab h6 s1 t1) s1' e2 m2 s2 (w.tab (qTu_w wt))
