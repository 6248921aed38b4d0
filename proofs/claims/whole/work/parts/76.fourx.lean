/-! PURE: fours, the class's side -/
theorem qX.put47 {h : mH} {A : qA} (q : qX h A) (n : Int32) : qX (mPut h 47 (.inr (4, [.ref 48, .ref 49, .int n, .ref 50]))) A := by
  obtain ⟨a1, a2, ⟨f3, a3, a3'⟩, a4, ⟨g, a5, a5'⟩, ⟨g2, a6, a6'⟩, q7⟩ := q
  refine ⟨a1, (qPutN _ (by decide)).trans a2, ⟨f3, (qPutN _ (by decide)).trans a3, a3'⟩, fun t ht => (a4 t ht).same rfl fun k h1 h2 => qPutN _ (by omega), ⟨g, (qPutN _ (by decide)).trans a5, a5'⟩, ⟨g2, (qPutN _ (by decide)).trans a6, a6'⟩, ?_⟩
  obtain ⟨a1, a2, a3, a4, ⟨n1, c, d, r, s, a5⟩, a6, a7, a8, a9, ⟨n', c', r', b1⟩, b2, b3, b4, b5, b6, b7, b8, b9, ⟨n'', c1⟩, c2, c3, c4⟩ := q7
  exact ⟨a1.same (qPutN _ (by decide)), (qPutN _ (by decide)).trans a2, a3.same (qPutN _ (by decide)), a4.same (qPutN _ (by decide)), ⟨n1, c, d, r, s, (qPutN _ (by decide)).trans a5⟩, a6.same (qPutN _ (by decide)), a7.same (qPutN _ (by decide)), a8.same (qPutN _ (by decide)), a9.same (qPutN _ (by decide)), ⟨n', c', r', (qPutN _ (by decide)).trans b1⟩, b2.same (qPutN _ (by decide)), b3.same (qPutN _ (by decide)), b4.same (qPutN _ (by decide)), (qPutN _ (by decide)).trans b5, b6.same (qPutN _ (by decide)), b7.same (qPutN _ (by decide)), (qPutN _ (by decide)).trans b8, b9.same (qPutN _ (by decide)), ⟨n, qPutS _⟩, c2.same (qPutN _ (by decide)), c3.same (qPutN _ (by decide)), c4.same (qPutN _ (by decide))⟩
/-- the rows laid: so many, which, with their shifts -/
def qLd (h : mH) (m c : Nat) : Prop := h.2 47 = .inr (4, [.ref 48, .ref 49, .int (nI c), .ref 50]) ∧ (∃ f, h.2 48 = .inl (8, .inl f) ∧ ∀ i, i < c → f i = nI (qEw m i)) ∧ (∃ f, h.2 49 = .inl (8, .inl f) ∧ ∀ i, i < c → f i = qSh m i)
def qC47 (k : Nat) : Prop := 47 ≤ k ∧ k ≤ 49
theorem qXf48 : qXf 48 8 := by unfold qXf; decide
theorem qXf49 : qXf 49 8 := by unfold qXf; decide
theorem qXf50 : qXf 50 4 := by unfold qXf; decide
theorem x_layQ {h : mH} {A : qA} {m : Nat} (q : qX h A) (hm : m ∈ qOm) : ∃ h', f_X5_layRows (some 47) (nI m) h = some h' ∧ qX h' A ∧ qLd h' m (qEr m) ∧ qSame qC47 h h' := by
  obtain ⟨k1, k2, k3, k4, k5, k6, k7⟩ := qKf6 m hm
  have hle : ∀ {h' : mH}, qX h' A → ∀ a, a ≤ 72 → a ≤ h'.1 := fun q' a ha => by rw [q'.1]; exact ha
  obtain ⟨n0, e47⟩ : ∃ n : Int32, h.2 47 = .inr (4, [.ref 48, .ref 49, .int n, .ref 50]) := by
    obtain ⟨a1, a2, ⟨f3, a3, a3'⟩, a4, ⟨g, a5, a5'⟩, ⟨g2, a6, a6'⟩, q7⟩ := q
    obtain ⟨a1, a2, a3, a4, ⟨n1, c, d, r, s, a5⟩, a6, a7, a8, a9, ⟨n', c', r', b1⟩, b2, b3, b4, b5, b6, b7, b8, b9, z, c2, c3, c4⟩ := q7
    exact z
  obtain ⟨⟨f48, e48⟩, ⟨f49, e49⟩⟩ : qArr h 48 8 ∧ qArr h 49 8 := by
    obtain ⟨a1, a2, ⟨f3, a3, a3'⟩, a4, ⟨g, a5, a5'⟩, ⟨g2, a6, a6'⟩, q7⟩ := q
    obtain ⟨a1, a2, a3, a4, ⟨n1, c, d, r, s, a5⟩, a6, a7, a8, a9, ⟨n', c', r', b1⟩, b2, b3, b4, b5, b6, b7, b8, b9, z, c2, c3, c4⟩ := q7
    exact ⟨c2, c3⟩
  unfold f_X5_layRows
  rw [qIs (hle q _ (by decide)) e47, qbind, qPF (hle q _ (by decide)) e47 (Nat.le_of_ble_eq_true rfl), qbind]
  unfold f_X5_layRows_l7
  refine mLoop_inv (b := fun x : Int32 × mH => f_X5_layRows_b7 (some 47) (nI m) x.1 x.2) (fun k (s : Int32 × mH) => s.1 = nI (2 * k) ∧ qX s.2 A ∧ qLd s.2 m (qCn m (2 * k)) ∧ qSame qC47 h s.2) (2 ^ (m - 1)) (fun h' => qX h' A ∧ qLd h' m (qEr m) ∧ qSame qC47 h h') (s0 := (0, mPut h 47 (.inr (4, [.ref 48, .ref 49, .int 0, .ref 50])))) ⟨rfl, q.put47 0, ⟨by rw [Nat.mul_zero, k2]; exact qPutS _, ⟨f48, (qPutN _ (by decide)).trans e48, fun i hi => by rw [Nat.mul_zero, k2] at hi; omega⟩, ⟨f49, (qPutN _ (by decide)).trans e49, fun i hi => by rw [Nat.mul_zero, k2] at hi; omega⟩⟩, qSame.rf.put ⟨by decide, by decide⟩ _⟩ ?_ ?_
  · rintro k ⟨ik, h1⟩ hk ⟨rfl, q1', ⟨l1', ⟨f1, l2', l3⟩, ⟨f2, l4', l5⟩⟩, s1'⟩
    have q1 : qX h1 A := q1'
    have l1 : h1.2 47 = .inr (4, [.ref 48, .ref 49, .int (nI (qCn m (2 * k))), .ref 50]) := l1'
    have l2 : h1.2 48 = .inl (8, .inl f1) := l2'
    have l4 : h1.2 49 = .inl (8, .inl f2) := l4'
    have s1 : qSame qC47 h h1 := s1'
    have hw : 2 * k < 2 ^ m := by omega
    have h27 : 2 ^ m ≤ 2 ^ 7 := Nat.pow_le_pow_right (by decide) k6
    obtain ⟨n1, n2, n3⟩ := qKf5 m hm (2 * k) hw
    have n4 := n3 (by omega)
    have n5 : qCn m (2 * (k + 1)) = qCn m (2 * k + 1) := by
      by_cases hz : 2 * k + 1 < 2 ^ m
      · obtain ⟨o1, o2, -⟩ := qKf5 m hm (2 * k + 1) hz
        rw [show 2 * (k + 1) = 2 * k + 1 + 1 by omega, o1, decide_eq_false (fun z => by have := (o2 z).2.2; omega)]
        rfl
      · omega
    have hmir : f_X5_isMirrored (nI (2 * k)) (nI m) = some (qB2I (decide (2 * k ∈ qEl m))) := by
      unfold f_X5_isMirrored f_X5_isMirrored_l2
      exact mLoop_some.mpr ⟨9, qKf2 m hm (2 * k) hw (by omega)⟩
    show ∃ s', f_X5_layRows_b7 (some 47) (nI m) (nI (2 * k)) h1 = some (.inl s') ∧ _
    unfold f_X5_layRows_b7
    rw [qI_pow (by omega), if_neg (by rw [qle (by omega) (by omega)]; omega), qGI (hle q1 _ (by decide)) l1 rfl, qbind, if_neg (by rw [show (8 : Int32) = nI 8 from rfl, qle (by decide) (by omega)]; omega), hmir, qbind, qL2, qI_add]
    by_cases hin : 2 * k ∈ qEl m
    · obtain ⟨u1, u2, -⟩ := n2 hin
      rw [decide_eq_true hin, qif1]
      obtain ⟨h2, p2, q2, e2, s2⟩ := x_stW q1 qXf48 l2 (i := qCn m (2 * k)) (by omega) (nI (2 * k))
      have e47b : h2.2 47 = .inr (4, [.ref 48, .ref 49, .int (nI (qCn m (2 * k))), .ref 50]) := (s2.2 47 (by decide)).trans l1
      have e49b : h2.2 49 = .inl (8, .inl f2) := (s2.2 49 (by decide)).trans l4
      have hsh : f_X5_allShifts (nI (2 * k)) (nI m) = some (qSh m (qCn m (2 * k))) := by
        have := qKf1 m hm (qCn m (2 * k)) u2
        rw [u1] at this
        unfold f_X5_allShifts f_X5_allShifts_l4
        exact mLoop_some.mpr ⟨6, this⟩
      obtain ⟨h3, p3, q3, e3, s3⟩ := x_stW q2 qXf49 e49b (i := qCn m (2 * k)) (by omega) (qSh m (qCn m (2 * k)))
      have e47c : h3.2 47 = .inr (4, [.ref 48, .ref 49, .int (nI (qCn m (2 * k))), .ref 50]) := (s3.2 47 (by decide)).trans e47b
      have e48c : h3.2 48 = _ := (s3.2 48 (by decide)).trans e2
      rw [qGR (hle q1 _ (by decide)) l1 rfl, qbind, qbind, p2, qbind, qGR (hle q2 _ (by decide)) e47b rfl, qbind, qGI (hle q2 _ (by decide)) e47b rfl, qbind, hsh, qbind, p3, qbind, qGI (hle q3 _ (by decide)) e47c rfl, qbind, nI_1, qPF (hle q3 _ (by decide)) e47c (Nat.le_of_ble_eq_true rfl), qbind]
      have n6 : qCn m (2 * (k + 1)) = qCn m (2 * k) + 1 := by rw [n5, n1, decide_eq_true hin]; rfl
      refine ⟨_, rfl, by rw [show 2 * (k + 1) = 2 * k + 2 by omega], q3.put47 _, ⟨by rw [n6]; exact qPutS _, ⟨_, (qPutN _ (by decide)).trans e48c, fun i hi => ?_⟩, ⟨_, (qPutN _ (by decide)).trans e3, fun i hi => ?_⟩⟩, ((s1.trans (s2.mono fun k z => by unfold qC47; omega)).trans (s3.mono fun k z => by unfold qC47; omega)).put ⟨by decide, by decide⟩ _⟩
      · rw [n6] at hi
        by_cases hic : i = qCn m (2 * k)
        · rw [hic, qUps, u1]
        · rw [qUpn hic]; exact l3 i (by omega)
      · rw [n6] at hi
        by_cases hic : i = qCn m (2 * k)
        · rw [hic, qUps]
        · rw [qUpn hic]; exact l5 i (by omega)
    · rw [decide_eq_false hin, qif0]
      have n6 : qCn m (2 * (k + 1)) = qCn m (2 * k) := by rw [n5, n1, decide_eq_false hin]; rfl
      exact ⟨_, rfl, by rw [show 2 * (k + 1) = 2 * k + 2 by omega], q1, ⟨by rw [n6]; exact l1, ⟨f1, l2, fun i hi => l3 i (by rw [n6] at hi; exact hi)⟩, ⟨f2, l4, fun i hi => l5 i (by rw [n6] at hi; exact hi)⟩⟩, s1⟩
  · rintro ⟨ik, h1⟩ ⟨rfl, q1, l1, s1⟩
    rw [k7, k1] at l1
    refine ⟨h1, ?_, q1, l1, s1⟩
    have h27 : 2 ^ m ≤ 2 ^ 7 := Nat.pow_le_pow_right (by decide) k6
    show f_X5_layRows_b7 (some 47) (nI m) (nI (2 * 2 ^ (m - 1))) h1 = _
    unfold f_X5_layRows_b7
    rw [qI_pow (by omega), if_pos (by rw [qle (by omega) (by omega)]; omega)]
