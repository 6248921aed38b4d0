/-! PURE: twice -/
def qCf (q i j : Nat) : Int32 := if i = j then 0 else if i = 0 then 1 else if j = 0 then 1 else if (qSqs q).testBit (qDf q (i - 1) (j - 1)) then 1 else -1
theorem qCf_3 (q i j : Nat) : qCf q i j = 0 ∨ qCf q i j = 1 ∨ qCf q i j = -1 := by
  unfold qCf
  by_cases h1 : i = j
  · rw [if_pos h1]; exact Or.inl rfl
  rw [if_neg h1]
  by_cases h2 : i = 0
  · rw [if_pos h2]; exact Or.inr (Or.inl rfl)
  rw [if_neg h2]
  by_cases h3 : j = 0
  · rw [if_pos h3]; exact Or.inr (Or.inl rfl)
  rw [if_neg h3]
  cases (qSqs q).testBit (qDf q (i - 1) (j - 1))
  · exact Or.inr (Or.inr rfl)
  · exact Or.inr (Or.inl rfl)
theorem x_conference {q i j : Nat} (hq : q ∈ qF) (q28 : q < 28) (hi : i ≤ q) (hj : j ≤ q) : f_X8_conference (nI q) (nI (qSqs q)) (nI i) (nI j) = some (qCf q i j) := by
  obtain ⟨c1, c2, c3⟩ := qFs hq
  unfold f_X8_conference qCf
  by_cases h1 : i = j
  · rw [if_pos (by rw [h1]), if_pos h1]
  rw [if_neg (by rw [qeq (by omega) (by omega)]; exact h1), if_neg h1]
  by_cases h2 : i = 0
  · rw [if_pos (by rw [h2]; rfl), if_pos h2]
  rw [if_neg (by rw [qI_zero, qeq (by omega) (by decide)]; exact h2), if_neg h2]
  by_cases h3 : j = 0
  · rw [if_pos (by rw [h3]; rfl), if_pos h3]
  rw [if_neg (by rw [qI_zero, qeq (by omega) (by decide)]; exact h3), if_neg h3]
  obtain ⟨e1, e2, e3, e4, -⟩ := qFa hq (a := i - 1) (b := j - 1) (by omega) (by omega)
  rw [qI_m1 (by omega), qI_m1 (by omega), e1, qbind, x_inSet (by omega) (by omega), qbind]
  cases (qSqs q).testBit (qDf q (i - 1) (j - 1)) <;> rfl
theorem m_square {q i j : Nat} (hq : q ∈ qF) (q28 : q < 28) (hi : i ≤ q) (hj : j ≤ q) : f_X9_square (nI q) (nI i) (nI j) = some (qCf q i j) := by
  obtain ⟨c1, c2, c3⟩ := qFs hq
  unfold f_X9_square qCf
  by_cases h1 : i = j
  · rw [if_pos (by rw [h1]), if_pos h1]
  rw [if_neg (by rw [qeq (by omega) (by omega)]; exact h1), if_neg h1]
  by_cases h2 : i = 0
  · rw [if_pos (by rw [h2]; rfl), if_pos h2]
  rw [if_neg (by rw [qI_zero, qeq (by omega) (by decide)]; exact h2), if_neg h2]
  by_cases h3 : j = 0
  · rw [if_pos (by rw [h3]; rfl), if_pos h3]
  rw [if_neg (by rw [qI_zero, qeq (by omega) (by decide)]; exact h3), if_neg h3]
  obtain ⟨e1, e2, e3, e4, -⟩ := qFa hq (a := i - 1) (b := j - 1) (by omega) (by omega)
  rw [qI_m1 (by omega), qI_m1 (by omega), e2, qbind, m_chi hq e3 (fun z => by have := e4.mp z; omega) q28, qbind]
def qTw (q r c : Nat) : Bool := if r % 2 = 0 then (if c % 2 = 0 then decide (qCf q (r / 2) (c / 2) < 0) else decide (qCf q (r / 2) (c / 2) ≤ 0)) else (if c % 2 = 0 then decide (qCf q (r / 2) (c / 2) ≤ 0) else decide (0 ≤ qCf q (r / 2) (c / 2)))
theorem qTw_at (q i j : Nat) : qTw q (2 * i) (2 * j) = decide (qCf q i j < 0) ∧ qTw q (2 * i) (2 * j + 1) = decide (qCf q i j ≤ 0) ∧ qTw q (2 * i + 1) (2 * j) = decide (qCf q i j ≤ 0) ∧ qTw q (2 * i + 1) (2 * j + 1) = decide (0 ≤ qCf q i j) := by
  unfold qTw
  refine ⟨?_, ?_, ?_, ?_⟩
  · rw [if_pos (by omega), if_pos (by omega), show 2 * i / 2 = i by omega, show 2 * j / 2 = j by omega]
  · rw [if_pos (by omega), if_neg (by omega), show 2 * i / 2 = i by omega, show (2 * j + 1) / 2 = j by omega]
  · rw [if_neg (by omega), if_pos (by omega), show (2 * i + 1) / 2 = i by omega, show 2 * j / 2 = j by omega]
  · rw [if_neg (by omega), if_neg (by omega), show (2 * i + 1) / 2 = i by omega, show (2 * j + 1) / 2 = j by omega]
theorem qW_or2 (n : Nat) (p : Nat → Bool) : qW n p ||| ((p n).toNat + 2 * (p (n + 1)).toNat) * 2 ^ n = qW (n + 2) p := by
  rw [← qW_or (n + 1), ← qW_or n, Nat.or_assoc]
  congr 1
  cases p n <;> cases p (n + 1)
  · simp
  · simp [Nat.pow_succ]; omega
  · simp
  · have h := Nat.two_pow_add_eq_or_of_lt (i := n + 1) (b := 2 ^ n) (Nat.pow_lt_pow_right (by decide) (by omega)) 1
    show (1 + 2 * 1) * 2 ^ n = 1 * 2 ^ n ||| 1 * 2 ^ (n + 1)
    rw [Nat.mul_one] at h
    rw [Nat.one_mul, Nat.one_mul, Nat.or_comm, ← h, Nat.pow_succ]
    omega
def qG2 (P : Nat → Nat → Bool) (N i j r : Nat) : Nat := if r < 2 * i then qW N (P r) else if r < 2 * i + 2 then qW (2 * j) (P r) else 0
theorem qG2_0 (P : Nat → Nat → Bool) (N : Nat) : qG2 P N 0 0 = fun _ => 0 := by
  funext r
  unfold qG2
  rw [if_neg (by omega)]
  by_cases h : r < 2 * 0 + 2
  · rw [if_pos h]; rfl
  · rw [if_neg h]
theorem qG2_next (P : Nat → Nat → Bool) (q i : Nat) : qG2 P (2 * q + 2) i (q + 1) = qG2 P (2 * q + 2) (i + 1) 0 := by
  funext r
  unfold qG2
  by_cases h1 : r < 2 * i
  · rw [if_pos h1, if_pos (by omega)]
  · rw [if_neg h1]
    by_cases h2 : r < 2 * i + 2
    · rw [if_pos h2, if_pos (by omega)]; rfl
    · rw [if_neg h2, if_neg (by omega)]
      by_cases h3 : r < 2 * (i + 1) + 2
      · rw [if_pos h3]; rfl
      · rw [if_neg h3]
theorem qG2_at (P : Nat → Nat → Bool) (N i j : Nat) : qG2 P N i j (2 * i) = qW (2 * j) (P (2 * i)) ∧ qG2 P N i j (2 * i + 1) = qW (2 * j) (P (2 * i + 1)) := by
  unfold qG2
  exact ⟨by rw [if_neg (by omega), if_pos (by omega)], by rw [if_neg (by omega), if_pos (by omega)]⟩
theorem qG2_step (P : Nat → Nat → Bool) (N i j : Nat) {g : Nat → Nat} (h0 : g (2 * i) = qW (2 * j + 2) (P (2 * i))) (h1 : g (2 * i + 1) = qW (2 * j + 2) (P (2 * i + 1))) (h2 : ∀ r, r ≠ 2 * i → r ≠ 2 * i + 1 → g r = qG2 P N i j r) : g = qG2 P N i (j + 1) := by
  funext r
  by_cases c0 : r = 2 * i
  · rw [c0, h0, (qG2_at P N i (j + 1)).1]; rfl
  by_cases c1 : r = 2 * i + 1
  · rw [c1, h1, (qG2_at P N i (j + 1)).2]; rfl
  rw [h2 r c0 c1]
  unfold qG2
  by_cases h1 : r < 2 * i
  · rw [if_pos h1, if_pos h1]
  · rw [if_neg h1, if_neg h1, if_neg (by omega), if_neg (by omega)]
theorem qG2_end (P : Nat → Nat → Bool) {q r : Nat} (hr : r < 2 * q + 2) : qG2 P (2 * q + 2) (q + 1) 0 r = qW (2 * q + 2) (P r) := by
  unfold qG2
  rw [if_pos (by omega)]
theorem x_small20 {h : mH} {t n : Nat} {g : Nat → Nat} (b : qBw h t n g) {i j : Nat} (hi : 2 * i + 1 < 28) (hj : 2 * j < 32) {s : Int32} {u0 u1 : Nat} (hs0 : s &&& 3 = nI u0) (hs1 : s >>> ((2 : Int32) &&& 31) = nI u1) : ∃ h', f_X8_laySmallBlock_c20 (some (3 + 4 * t)) (nI i) (nI j) s h = some h' ∧ qBw h' t n (va_up (va_up g (2 * i) (g (2 * i) ||| u0 * 2 ^ (2 * j))) (2 * i + 1) (g (2 * i + 1) ||| u1 * 2 ^ (2 * j))) ∧ qSame (qIs4 t) h h' := by
  obtain ⟨e1, e2, h2, e3, b2, s2⟩ := b.or (i := 2 * i) (by omega) (u0 * 2 ^ (2 * j))
  obtain ⟨f1, f2, h3, f3, b3, s3⟩ := b2.or (i := 2 * i + 1) (by omega) (u1 * 2 ^ (2 * j))
  rw [qVn (by omega)] at f2 f3 b3
  refine ⟨h3, ?_, b3, s2.trans s3⟩
  unfold f_X8_laySmallBlock_c20
  rw [e1, qbind, qL2, qI_mul, qI_mul, e2, qbind, hs0, qI_shl _ hj, qI_or, e3, qbind, f1, qbind, nI_1, f2, qbind, show s >>> (nI 2 &&& 31) = nI u1 from hs1, qI_shl _ hj, qI_or, f3, qbind]
theorem x_small {h : mH} {t n : Nat} {g : Nat → Nat} (b : qBw h t n g) {i j : Nat} (hi : 2 * i + 1 < 28) (hj : 2 * j < 32) {v : Int32} (hv : v = 0 ∨ v = 1 ∨ v = -1) : ∃ h', f_X8_laySmallBlock (some (3 + 4 * t)) (nI i) (nI j) v h = some h' ∧ qBw h' t n (va_up (va_up g (2 * i) (g (2 * i) ||| ((decide (v < 0)).toNat + 2 * (decide (v ≤ 0)).toNat) * 2 ^ (2 * j))) (2 * i + 1) (g (2 * i + 1) ||| ((decide (v ≤ 0)).toNat + 2 * (decide (0 ≤ v)).toNat) * 2 ^ (2 * j))) ∧ qSame (qIs4 t) h h' := by
  unfold f_X8_laySmallBlock
  rcases hv with rfl | rfl | rfl
  · exact x_small20 b hi hj (s := 14) (u0 := 2) (u1 := 3) (by decide) (by decide)
  · exact x_small20 b hi hj (s := 8) (u0 := 0) (u1 := 2) (by decide) (by decide)
  · exact x_small20 b hi hj (s := 7) (u0 := 3) (u1 := 1) (by decide) (by decide)
theorem x_twice {h : mH} {t q : Nat} {T0 : qT} (q0 : qXt h t T0) (hq : q ∈ qF) (q3 : 3 ≤ q) (q13 : q ≤ 13) : ∃ h1 h', f_X7_begin (some (3 + 4 * t)) (2 * nI q + 2) h = some h1 ∧ f_X8_twice_l61 (nI q) (nI t) (some (3 + 4 * t)) (nI (qSqs q)) 0 h1 = some (nI t, h') ∧ qXt h' t (qNew (2 * q + 2) (fun i => qW (2 * q + 2) (qTw q i))) ∧ qSame (qIs4 t) h h' := by
  obtain ⟨h1, fr1, p1, b1, z1, s1⟩ := x_begin q0 (2 * q + 2)
  refine ⟨h1, ?_⟩
  have R := mLoop_inv (b := fun x : Int32 × mH => f_X8_twice_b61 (nI q) (nI t) (some (3 + 4 * t)) (nI (qSqs q)) x.1 x.2) (fun k (s : Int32 × mH) => s.1 = nI k ∧ qSame (qIs4 t) h s.2 ∧ qBw s.2 t (2 * q + 2) (qG2 (qTw q) (2 * q + 2) k 0)) (q + 1) (fun r : Int32 × mH => r.1 = nI t ∧ qXt r.2 t (qNew (2 * q + 2) (fun i => qW (2 * q + 2) (qTw q i))) ∧ qSame (qIs4 t) h r.2) (s0 := (0, h1)) ⟨rfl, s1, fr1, b1, fun i hi => by rw [qG2_0]; exact z1 i hi⟩ ?_ ?_
  · obtain ⟨⟨r1, r2⟩, e1, e2, e3⟩ := R
    have e2' : r1 = nI t := e2
    rw [e2'] at e1
    exact ⟨r2, by rw [qL2, qI_mul, qI_add]; exact p1, e1, e3⟩
  · rintro k ⟨ik, hk⟩ hkn ⟨rfl, sk, b2'⟩
    have b2 : qBw hk t (2 * q + 2) (qG2 (qTw q) (2 * q + 2) k 0) := b2'
    show ∃ s', f_X8_twice_b61 (nI q) (nI t) (some (3 + 4 * t)) (nI (qSqs q)) (nI k) hk = some (.inl s') ∧ _
    unfold f_X8_twice_b61
    rw [if_neg (by rw [qlt (by omega) (by omega)]; omega)]
    unfold f_X8_twice_l70
    have R := mLoop_inv (b := fun x : Int32 × mH => f_X8_twice_b70 (nI q) (nI t) (some (3 + 4 * t)) (nI (qSqs q)) (nI k) x.1 x.2) (fun j (s : Int32 × mH) => s.1 = nI j ∧ qSame (qIs4 t) h s.2 ∧ qBw s.2 t (2 * q + 2) (qG2 (qTw q) (2 * q + 2) k j)) (q + 1) (fun r => ∃ s' : Int32 × mH, r = .inl s' ∧ s'.1 = nI (k + 1) ∧ qSame (qIs4 t) h s'.2 ∧ qBw s'.2 t (2 * q + 2) (qG2 (qTw q) (2 * q + 2) (k + 1) 0)) (s0 := (0, hk)) ⟨rfl, sk, b2⟩ ?_ ?_
    · obtain ⟨r, e1, s', rfl, e2⟩ := R
      exact ⟨s', e1, e2⟩
    · rintro j ⟨ij, h4⟩ hj ⟨rfl, s4', b4'⟩
      have s4 : qSame (qIs4 t) h h4 := s4'
      have b4 : qBw h4 t (2 * q + 2) (qG2 (qTw q) (2 * q + 2) k j) := b4'
      obtain ⟨h5, p5, b5, s5⟩ := x_small b4 (i := k) (j := j) (by omega) (by omega) (qCf_3 q k j)
      obtain ⟨w1, w2, w3, w4⟩ := qTw_at q k j
      obtain ⟨g1, g2⟩ := qG2_at (qTw q) (2 * q + 2) k j
      have b6 : qBw h5 t (2 * q + 2) (qG2 (qTw q) (2 * q + 2) k (j + 1)) := by
        refine Eq.subst (motive := fun g => qBw h5 t (2 * q + 2) g) (qG2_step (qTw q) (2 * q + 2) k j ?_ ?_ ?_) b5
        · rw [qVn (by omega), qVs, g1, ← w1, ← w2, qW_or2]
        · rw [qVs, g2, ← w3, ← w4, qW_or2]
        · intro r r1 r2
          rw [qVn r2, qVn r1]
      refine ⟨(nI (j + 1), h5), ?_, rfl, s4.trans s5, b6⟩
      show f_X8_twice_b70 (nI q) (nI t) (some (3 + 4 * t)) (nI (qSqs q)) (nI k) (nI j) h4 = _
      unfold f_X8_twice_b70
      rw [if_neg (by rw [qlt (by omega) (by omega)]; omega), x_conference hq (by omega) (by omega) (by omega), qbind, p5, qbind, nI_1]
    · rintro ⟨ij, h4⟩ ⟨rfl, s4, b4'⟩
      have b4 : qBw h4 t (2 * q + 2) (qG2 (qTw q) (2 * q + 2) k (q + 1)) := b4'
      rw [qG2_next] at b4
      refine ⟨.inl (nI (k + 1), h4), ?_, _, rfl, rfl, s4, b4⟩
      show f_X8_twice_b70 (nI q) (nI t) (some (3 + 4 * t)) (nI (qSqs q)) (nI k) (nI (q + 1)) h4 = _
      unfold f_X8_twice_b70
      rw [if_pos (by rw [qlt (by omega) (by omega)]; omega), nI_1]
  · rintro ⟨ik, hk⟩ ⟨rfl, sk, b2'⟩
    obtain ⟨fr, b2, e2⟩ : qBw hk t (2 * q + 2) (qG2 (qTw q) (2 * q + 2) (q + 1) 0) := b2'
    refine ⟨(nI t, hk), ?_, rfl, b2.fin (by omega) (fun i hi => ?_), sk⟩
    · show f_X8_twice_b61 (nI q) (nI t) (some (3 + 4 * t)) (nI (qSqs q)) (nI (q + 1)) hk = _
      unfold f_X8_twice_b61
      rw [if_pos (by rw [qlt (by omega) (by omega)]; omega)]
    · rw [e2 i (by omega), qG2_end _ hi]
theorem m_twice {h : mH} {A : qA} (m : qM h A) (w : qWA A) {t q : Nat} (hf : qFr A t) (hq : q ∈ qF) (q3 : 3 ≤ q) (q13 : q ≤ 13) (d : qMd h (fun _ => 0)) : ∃ r, f_X9_twice_l35 (some 51) (nI q) 0 h = some r ∧ r.1 = nI t ∧ qM r.2 (qSetT A t (qNew (2 * q + 2) (fun i => qW (2 * q + 2) (qTw q i)))) ∧ qSame qCM h r.2 := by
  unfold f_X9_twice_l35
  refine mLoop_inv (b := fun x : Int32 × mH => f_X9_twice_b35 (some 51) (nI q) x.1 x.2) (fun k (s : Int32 × mH) => s.1 = nI k ∧ qM s.2 A ∧ qSame (fun k => k = 58) h s.2 ∧ qMd s.2 (qG2 (qTw q) (2 * q + 2) k 0)) (q + 1) (fun r : Int32 × mH => r.1 = nI t ∧ qM r.2 (qSetT A t (qNew (2 * q + 2) (fun i => qW (2 * q + 2) (qTw q i)))) ∧ qSame qCM h r.2) (s0 := (0, h)) ⟨rfl, m, qSame.rf, by rw [qG2_0]; exact d⟩ ?_ ?_
  · rintro k ⟨ik, hk⟩ hkn ⟨rfl, mk, sk, d2⟩
    show ∃ s', f_X9_twice_b35 (some 51) (nI q) (nI k) hk = some (.inl s') ∧ _
    unfold f_X9_twice_b35
    rw [if_neg (by rw [qlt (by omega) (by omega)]; omega)]
    unfold f_X9_twice_l42
    have R := mLoop_inv (b := fun x : Int32 × mH => f_X9_twice_b42 (some 51) (nI q) (nI k) x.1 x.2) (fun j (s : Int32 × mH) => s.1 = nI j ∧ qM s.2 A ∧ qSame (fun k => k = 58) h s.2 ∧ qMd s.2 (qG2 (qTw q) (2 * q + 2) k j)) (q + 1) (fun r => ∃ s' : Int32 × mH, r = .inl s' ∧ s'.1 = nI (k + 1) ∧ qM s'.2 A ∧ qSame (fun k => k = 58) h s'.2 ∧ qMd s'.2 (qG2 (qTw q) (2 * q + 2) (k + 1) 0)) (s0 := (0, hk)) ⟨rfl, mk, sk, d2⟩ ?_ ?_
    · obtain ⟨r, e1, s', rfl, e2⟩ := R
      exact ⟨s', e1, e2⟩
    · rintro j ⟨ij, h4⟩ hj ⟨rfl, m4', s4', d4'⟩
      have m4 : qM h4 A := m4'
      have s4 : qSame (fun k => k = 58) h h4 := s4'
      have d4 : qMd h4 (qG2 (qTw q) (2 * q + 2) k j) := d4'
      obtain ⟨w1, w2, w3, w4⟩ := qTw_at q k j
      obtain ⟨g1, g2⟩ := qG2_at (qTw q) (2 * q + 2) k j
      obtain ⟨h5, p5, m5, d5, s5⟩ := m_lays m4 d4 (i := 2 * k) (j := 2 * j) (by omega) (by omega) (qTw q (2 * k) (2 * j))
      obtain ⟨h6, p6, m6, d6, s6⟩ := m_lays m5 d5 (i := 2 * k) (j := 2 * j + 1) (by omega) (by omega) (qTw q (2 * k) (2 * j + 1))
      obtain ⟨h7, p7, m7, d7, s7⟩ := m_lays m6 d6 (i := 2 * k + 1) (j := 2 * j) (by omega) (by omega) (qTw q (2 * k + 1) (2 * j))
      obtain ⟨h8, p8, m8, d8, s8⟩ := m_lays m7 d7 (i := 2 * k + 1) (j := 2 * j + 1) (by omega) (by omega) (qTw q (2 * k + 1) (2 * j + 1))
      have d9 : qMd h8 (qG2 (qTw q) (2 * q + 2) k (j + 1)) := by
        refine Eq.subst (motive := fun g => qMd h8 g) (qG2_step (qTw q) (2 * q + 2) k j ?_ ?_ ?_) d8
        · rw [qVn (by omega), qVn (by omega), qVs, qVs, g1, qW_or, qW_or]
        · rw [qVs, qVs, qVn (by omega), qVn (by omega), g2, qW_or, qW_or]
        · intro r r1 r2
          rw [qVn r2, qVn r2, qVn r1, qVn r1]
      refine ⟨(nI (j + 1), h8), ?_, rfl, m8, (((s4.trans s5).trans s6).trans s7).trans s8, d9⟩
      show f_X9_twice_b42 (some 51) (nI q) (nI k) (nI j) h4 = _
      rw [w1] at p5
      rw [w2] at p6
      rw [w3] at p7
      rw [w4] at p8
      have i1 : (2 : Int32) * nI k = nI (2 * k) := by rw [qL2, qI_mul]
      have i2 : (2 : Int32) * nI j = nI (2 * j) := by rw [qL2, qI_mul]
      unfold f_X9_twice_b42 f_X9_twice_c72 f_X9_twice_c94 f_X9_twice_c116 f_X9_twice_c140
      rw [if_neg (by rw [qlt (by omega) (by omega)]; omega), m_square hq (by omega) (by omega) (by omega), qbind, i1, i2, nI_1, nI_1, nI_1]
      rcases qCf_3 q k j with e | e | e
      · rw [e] at p5 p6 p7 p8 ⊢
        rw [if_pos (by decide), show f_X9_lays (some 51) (nI (2 * k)) (nI (2 * j)) 0 h4 = some h5 from p5, qbind, if_neg (by decide), show f_X9_lays (some 51) (nI (2 * k)) (nI (2 * j + 1)) 1 h5 = some h6 from p6, qbind, if_neg (by decide), show f_X9_lays (some 51) (nI (2 * k + 1)) (nI (2 * j)) 1 h6 = some h7 from p7, qbind, if_neg (by decide), show f_X9_lays (some 51) (nI (2 * k + 1)) (nI (2 * j + 1)) 1 h7 = some h8 from p8, qbind]
      · rw [e] at p5 p6 p7 p8 ⊢
        rw [if_pos (by decide), show f_X9_lays (some 51) (nI (2 * k)) (nI (2 * j)) 0 h4 = some h5 from p5, qbind, if_pos (by decide), show f_X9_lays (some 51) (nI (2 * k)) (nI (2 * j + 1)) 0 h5 = some h6 from p6, qbind, if_pos (by decide), show f_X9_lays (some 51) (nI (2 * k + 1)) (nI (2 * j)) 0 h6 = some h7 from p7, qbind, if_neg (by decide), show f_X9_lays (some 51) (nI (2 * k + 1)) (nI (2 * j + 1)) 1 h7 = some h8 from p8, qbind]
      · rw [e] at p5 p6 p7 p8 ⊢
        rw [if_neg (by decide), show f_X9_lays (some 51) (nI (2 * k)) (nI (2 * j)) 1 h4 = some h5 from p5, qbind, if_neg (by decide), show f_X9_lays (some 51) (nI (2 * k)) (nI (2 * j + 1)) 1 h5 = some h6 from p6, qbind, if_neg (by decide), show f_X9_lays (some 51) (nI (2 * k + 1)) (nI (2 * j)) 1 h6 = some h7 from p7, qbind, if_pos (by decide), show f_X9_lays (some 51) (nI (2 * k + 1)) (nI (2 * j + 1)) 0 h7 = some h8 from p8, qbind]
    · rintro ⟨ij, h4⟩ ⟨rfl, m4, s4, d4'⟩
      have d4 : qMd h4 (qG2 (qTw q) (2 * q + 2) k (q + 1)) := d4'
      rw [qG2_next] at d4
      refine ⟨.inl (nI (k + 1), h4), ?_, _, rfl, rfl, m4, s4, d4⟩
      show f_X9_twice_b42 (some 51) (nI q) (nI k) (nI (q + 1)) h4 = _
      unfold f_X9_twice_b42
      rw [if_pos (by rw [qlt (by omega) (by omega)]; omega), nI_1]
  · rintro ⟨ik, hk⟩ ⟨rfl, mk', sk', d2'⟩
    have mk : qM hk A := mk'
    have sk : qSame (fun k => k = 58) h hk := sk'
    obtain ⟨f, f1, f2⟩ : qMd hk (qG2 (qTw q) (2 * q + 2) (q + 1) 0) := d2'
    obtain ⟨h4, p4, m4, s4⟩ := m_comes mk w f1 (n := 2 * q + 2) (by omega) (R := fun i => qW (2 * q + 2) (qTw q i)) (fun i hi => by rw [f2 i (by omega), qG2_end _ hi]) hf
    refine ⟨(nI t, h4), ?_, rfl, m4, (sk.mono fun k z => by unfold qCM; omega).trans (s4.mono qC5.cm)⟩
    show f_X9_twice_b35 (some 51) (nI q) (nI (q + 1)) hk = _
    unfold f_X9_twice_b35
    rw [if_pos (by rw [qlt (by omega) (by omega)]; omega), qL2, qI_mul, qI_add, p4, qbind]
theorem op_twice {h : mH} {A : qA} (I : qI h A) (x : Int32) : qStep (f_X8_twice (some 1) x) (f_X9_twice (some 51) x) h := by
  have I0 := I
  obtain ⟨q, m, w⟩ := I
  rcases qFd x with ⟨a1, a2⟩ | ⟨k, hk, k3, k28, rfl, a1, a2, p3, p28⟩
  · refine qStep.none (r := -1) I0 ?_ ?_
    · unfold f_X8_twice
      rcases qFr_or A with hf | ⟨t, hf⟩
      · rw [q.is, qbind, x_empty_no q w hf, qbind, if_pos rfl]
      · rw [q.is, qbind, x_empty_yes q w hf, qbind, if_neg (qnm1 hf.1), a1, qbind, if_pos rfl]
    · unfold f_X9_twice; rw [m.is, qbind, a2, qbind, if_pos rfl]
  · have n0 : ¬ nI (qP k) = 0 := by rw [qI_zero, qeq (by omega) (by decide)]; omega
    have e28 : ((2 : Int32) * nI k + 2 ≤ 28) ↔ k ≤ 13 := by
      rw [qL2, qI_mul, qI_add, qL28, qle (by omega) (by decide)]; omega
    have e13 : ((13 : Int32) < nI k) ↔ ¬ k ≤ 13 := by
      rw [show (13 : Int32) = nI 13 from rfl, qlt (by decide) (by omega)]; omega
    by_cases h4 : mRem (nI k) 4 = 1
    · by_cases k13 : k ≤ 13
      · rcases qFr_or A with hf | ⟨t, hf⟩
        · refine qStep.none (r := -1) I0 ?_ ?_
          · unfold f_X8_twice; rw [q.is, qbind, x_empty_no q w hf, qbind, if_pos rfl]
          · unfold f_X9_twice; rw [m.is, qbind, a1, qbind, if_neg q10, if_pos h4, if_neg (fun z => e13.mp z k13), m_full_no m w hf, qbind, if_neg q10]
        · have h6 := hf.1
          obtain ⟨h1', h2', p1, p2, t2, s2⟩ := x_twice (q.2.2.2.1 t h6) hk k3 k13
          obtain ⟨c1, c2, c3⟩ := qFs hk
          have e1 : f_X8_twice (some 1) (nI k) h = some (nI t, h2') := by
            unfold f_X8_twice; rw [q.is, qbind, x_empty_yes q w hf, qbind, if_neg (qnm1 hf.1), a2, qbind, if_neg n0, if_pos h4, if_pos (e28.mpr k13), q.shelf, qbind, q.at h6, qbind, p1, qbind, c1, qbind, p2]
          have s2' := s2.mono (qIs4.cx h6)
          have m1 := m.same s2'
          obtain ⟨h3, p3, m3, s3, g, g1, g2⟩ := m_clears m1
          obtain ⟨⟨r4, h4'⟩, p4, r4e, m4, s4⟩ := m_twice m3 w hf hk k3 k13 ⟨g, g1, g2⟩
          have r4e' : r4 = nI t := r4e
          have e2 : f_X9_twice (some 51) (nI k) h2' = some (nI t, h4') := by
            unfold f_X9_twice
            rw [m1.is, qbind, a1, qbind, if_neg q10, if_pos h4, if_neg (fun z => e13.mp z k13), m_full_yes m1 w hf, qbind, if_pos rfl, p3, qbind, p4, r4e']
          exact qStep.mk e1 (q.tab h6 s2 t2) s2' e2 m4 ((s3.mono fun k z => by unfold qCM; omega).trans s4) (w.tab (qNew_w (by omega) fun i _ => qW_lt _ _))
      · refine qStep.none (r := -1) I0 ?_ ?_
        · unfold f_X8_twice
          rcases qFr_or A with hf | ⟨t, hf⟩
          · rw [q.is, qbind, x_empty_no q w hf, qbind, if_pos rfl]
          · rw [q.is, qbind, x_empty_yes q w hf, qbind, if_neg (qnm1 hf.1), a2, qbind, if_neg n0, if_pos h4, if_neg (fun z => k13 (e28.mp z))]
        · unfold f_X9_twice; rw [m.is, qbind, a1, qbind, if_neg q10, if_pos h4, if_pos (e13.mpr k13)]
    · refine qStep.none (r := -1) I0 ?_ ?_
      · unfold f_X8_twice
        rcases qFr_or A with hf | ⟨t, hf⟩
        · rw [q.is, qbind, x_empty_no q w hf, qbind, if_pos rfl]
        · rw [q.is, qbind, x_empty_yes q w hf, qbind, if_neg (qnm1 hf.1), a2, qbind, if_neg n0, if_neg h4]
      · unfold f_X9_twice; rw [m.is, qbind, a1, qbind, if_neg q10, if_neg h4]
