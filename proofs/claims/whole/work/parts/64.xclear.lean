/-! PURE: the class clears below a pivot -/
theorem qX.cells {h : mH} {A : qA} (q : qX h A) : mGR h (some 45) 1 0 = some (some 46) ∧ mIs h (some 45) 1 = some () := by
  have e := q.2.2.2.2.2.2.2.2.2.2.2.2.2.2.2.2.2.2.2.2.2.2.1
  exact ⟨qGR (by rw [q.1]; decide) e rfl, qIs (by rw [q.1]; decide) e⟩
theorem x_clearBelow {h : mH} {A : qA} {n k : Nat} {p : Int64} {M : qMx} (q : qX h A) (lx : qLx h 46 n n M) (hp : p ≠ 0) (hn : n ≤ 12) (hk : k < n) : ∃ h', f_X1_clearBelow (some 45) (nI n) (nI k) p h = some h' ∧ qX h' A ∧ qLx h' 46 n n (qCl k p M) ∧ qSame (fun z => z = 46) h h' := by
  unfold f_X1_clearBelow
  rw [q.cells.2, qbind, if_neg (fun z => hp ((lg_cmp_eq p 0).mp z))]
  unfold f_X1_clearBelow_l12
  refine mLoop_inv (b := fun x : Int32 × mH => f_X1_clearBelow_b12 (some 45) (nI n) (nI k) p x.1 x.2) (fun d (s : Int32 × mH) => s.1 = nI (k + 1 + d) ∧ qX s.2 A ∧ qLx s.2 46 n n (qClp k p M (k + 1 + d) (k + 1)) ∧ qSame (fun z => z = 46) h s.2) (n - (k + 1)) (fun h' => qX h' A ∧ qLx h' 46 n n (qCl k p M) ∧ qSame (fun z => z = 46) h h') (s0 := (nI k + 1, h)) ⟨by rw [nI_1], q, by rw [Nat.add_zero, qClp_0]; exact lx, qSame.rf⟩ ?_ ?_
  · rintro d ⟨ik, h1⟩ hd ⟨rfl, q1, l1, s1⟩
    show ∃ s', f_X1_clearBelow_b12 (some 45) (nI n) (nI k) p (nI (k + 1 + d)) h1 = some (.inl s') ∧ _
    unfold f_X1_clearBelow_b12
    rw [if_neg (by rw [qle (by omega) (by omega)]; omega)]
    unfold f_X1_clearBelow_l23
    have R := mLoop_inv (b := fun x : Int32 × mH => f_X1_clearBelow_b23 (some 45) (nI n) (nI k) p (nI (k + 1 + d)) x.1 x.2) (fun e (s : Int32 × mH) => s.1 = nI (k + 1 + e) ∧ qX s.2 A ∧ qLx s.2 46 n n (qClp k p M (k + 1 + d) (k + 1 + e)) ∧ qSame (fun z => z = 46) h s.2) (n - (k + 1)) (fun r => ∃ s' : Int32 × mH, r = .inl s' ∧ s'.1 = nI (k + 1 + (d + 1)) ∧ qX s'.2 A ∧ qLx s'.2 46 n n (qClp k p M (k + 1 + (d + 1)) (k + 1)) ∧ qSame (fun z => z = 46) h s'.2) (s0 := (nI k + 1, h1)) ⟨by rw [nI_1], q1, l1, s1⟩ ?_ ?_
    · obtain ⟨r, e1, s', rfl, e2⟩ := R
      exact ⟨s', e1, e2⟩
    · rintro e ⟨ij, h2⟩ he ⟨rfl, q2', l2', s2⟩
      have q2 : qX h2 A := q2'
      have l2 : qLx h2 46 n n (qClp k p M (k + 1 + d) (k + 1 + e)) := l2'
      have ha : 46 ≤ h2.1 := by rw [q2.1]; decide
      obtain ⟨a1, a2, a3, a4⟩ := qClp_at (p := p) (M := M) (show k < k + 1 + d by omega) (show k < k + 1 + e by omega)
      obtain ⟨f, p3, l3⟩ := l2.put ha (by decide) hn (Nat.le_refl n) (i := k + 1 + d) (j := k + 1 + e) (by omega) (by omega) ((M (k + 1 + d) (k + 1 + e) * M k k - M (k + 1 + d) k * M k (k + 1 + e)) / p)
      rw [qClp_step (by omega) (by omega)] at l3
      refine ⟨(nI (k + 1 + (e + 1)), _), ?_, rfl, q2.putL f, l3, s2.put rfl _⟩
      show f_X1_clearBelow_b23 (some 45) (nI n) (nI k) p (nI (k + 1 + d)) (nI (k + 1 + e)) h2 = _
      unfold f_X1_clearBelow_b23
      rw [if_neg (by rw [qle (by omega) (by omega)]; omega), q2.cells.1, qbind, qI_mul, qI_mul, qI_add, qI_add, qI_add, qI_add, l2.at ha hn (Nat.le_refl n) (by omega) (by omega), qbind, qbind, l2.at ha hn (Nat.le_refl n) hk hk, qbind, qbind, l2.at ha hn (Nat.le_refl n) (by omega) hk, qbind, qbind, l2.at ha hn (Nat.le_refl n) hk (by omega), qbind, qbind, if_neg hp, a1, a2, a3, a4, p3, qbind, nI_1]
      rfl
    · rintro ⟨ij, h2⟩ ⟨rfl, q2, l2, s2⟩
      refine ⟨.inl (nI (k + 1 + (d + 1)), h2), ?_, _, rfl, rfl, q2, l2.cong (fun i j hi hj => ?_), s2⟩
      · show f_X1_clearBelow_b23 (some 45) (nI n) (nI k) p (nI (k + 1 + d)) (nI (k + 1 + (n - (k + 1)))) h2 = _
        unfold f_X1_clearBelow_b23
        rw [if_pos (by rw [qle (by omega) (by omega)]; omega), nI_1]
        rfl
      · rw [show k + 1 + (n - (k + 1)) = n by omega]
        exact qClp_next i j hj
  · rintro ⟨ik, h1⟩ ⟨rfl, q1, l1, s1⟩
    refine ⟨h1, ?_, q1, l1.cong (fun i j hi hj => ?_), s1⟩
    · show f_X1_clearBelow_b12 (some 45) (nI n) (nI k) p (nI (k + 1 + (n - (k + 1)))) h1 = _
      unfold f_X1_clearBelow_b12
      rw [if_pos (by rw [qle (by omega) (by omega)]; omega)]
    · rw [show k + 1 + (n - (k + 1)) = n by omega]
      exact qClp_end i j hi
