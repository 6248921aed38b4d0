/-! PURE: the determinant, the model's way -/
theorem qM.cells {h : mH} {A : qA} (m : qM h A) : mGR h (some 51) 8 18 = some (some 66) := by
  obtain ⟨x0, y0, fo, fr, ff, fg, fw, mb, hm⟩ := m.b
  exact qGR (mb.le (by decide)) mb.2.1 rfl
theorem q12 (i j : Nat) : (12 : Int32) * nI i + nI j = nI (i * 12 + j) := by
  rw [show (12 : Int32) = nI 12 from rfl, qI_mul, qI_add, Nat.mul_comm]
theorem m_swapCells {h : mH} {A : qA} {n k r : Nat} {M : qMx} (m : qM h A) (lx : qLx h 66 12 n M) (hn : n ≤ 12) (hk : k < n) (hr : r < n) (hkr : k ≠ r) : ∃ h', f_X9_comesUp_l46 (some 51) (nI n) (nI k) (nI r) 0 h = some (-1, h') ∧ qM h' A ∧ qLx h' 66 12 n (qMxS M k r) ∧ qSame (fun z => z = 66) h h' := by
  unfold f_X9_comesUp_l46
  have R := mLoop_inv (b := fun x : Int32 × mH => f_X9_comesUp_b46 (some 51) (nI n) (nI k) (nI r) x.1 x.2) (fun d (s : Int32 × mH) => s.1 = nI d ∧ qM s.2 A ∧ qLx s.2 66 12 n (qMxP M k r d) ∧ qSame (fun z => z = 66) h s.2) n (fun x => ∃ h', x = (-1, h') ∧ qM h' A ∧ qLx h' 66 12 n (qMxS M k r) ∧ qSame (fun z => z = 66) h h') (s0 := (0, h)) ⟨rfl, m, by rw [qMxP_0]; exact lx, qSame.rf⟩ ?_ ?_
  · obtain ⟨x, e, h', rfl, z⟩ := R
    exact ⟨h', e, z⟩
  · rintro d ⟨ij, h2⟩ hd ⟨rfl, m2', l2', s2⟩
    have m2 : qM h2 A := m2'
    have l2 : qLx h2 66 12 n (qMxP M k r d) := l2'
    have ha : 66 ≤ h2.1 := by rw [m2.1]; decide
    have b1 : qMxP M k r d r d = M r d := by unfold qMxP; rw [if_neg (by omega)]
    have b2 : qMxP M k r d k d = M k d := by unfold qMxP; rw [if_neg (by omega)]
    obtain ⟨f, p3, l3⟩ := l2.put ha (by decide) (Nat.le_refl 12) hn hk hd (M r d)
    have m3 := m2.putL f
    obtain ⟨g, p4, l4⟩ := l3.put (by rw [m3.1]; decide) (by decide) (Nat.le_refl 12) hn hr hd (M k d)
    rw [qMxP_step M hkr d] at l4
    refine ⟨(nI (d + 1), _), ?_, rfl, m3.putL g, l4, (s2.put rfl _).put rfl _⟩
    show f_X9_comesUp_b46 (some 51) (nI n) (nI k) (nI r) (nI d) h2 = _
    unfold f_X9_comesUp_b46
    rw [if_neg (by rw [qle (by omega) (by omega)]; omega), m2.cells, qbind, q12, q12, l2.at ha (Nat.le_refl 12) hn hk hd, qbind, qbind, qbind, l2.at ha (Nat.le_refl 12) hn hr hd, qbind, b1, b2, p3, qbind, m3.cells, qbind, p4, qbind, nI_1]
    rfl
  · rintro ⟨ij, h2⟩ ⟨rfl, m2, l2, s2⟩
    refine ⟨(-1, h2), ?_, h2, rfl, m2, l2.cong (fun i j hi hj => by unfold qMxP; rw [if_pos hj]), s2⟩
    show f_X9_comesUp_b46 (some 51) (nI n) (nI k) (nI r) (nI n) h2 = _
    unfold f_X9_comesUp_b46
    rw [if_pos (by rw [qle (by omega) (by omega)]; omega)]
theorem m_comesUp {h : mH} {A : qA} {n k : Nat} {M : qMx} (m : qM h A) (lx : qLx h 66 12 n M) (hn : n ≤ 12) (hk : k < n) : ∃ h', f_X9_comesUp (some 51) (nI n) (nI k) h = some (if qPvR M n k = n then 0 else if qPvR M n k = k then 1 else -1, h') ∧ qM h' A ∧ (qPvR M n k ≠ n → qLx h' 66 12 n (qUp M n k)) ∧ qSame (fun z => z = 66) h h' := by
  obtain ⟨a1, a2, a3⟩ := qPv_ok M k (n - k) k
  have hle : qPvR M n k ≤ n := by unfold qPvR; omega
  have key : ∀ d r, r + d = n → mLoop (fun x : Int32 => f_X9_comesUp_b2 (some 51) (nI n) (nI k) x h) (nI r) = f_X9_comesUp_c29 (some 51) (nI n) (nI k) (nI (qPv M k d r)) h := by
    intro d
    induction d with
    | zero =>
      intro r hr
      rw [mLoop_eq]
      show (f_X9_comesUp_b2 (some 51) (nI n) (nI k) (nI r) h).bind _ = f_X9_comesUp_c29 (some 51) (nI n) (nI k) (nI r) h
      unfold f_X9_comesUp_b2
      rw [if_pos (by rw [qle (by omega) (by omega)]; omega)]
      cases f_X9_comesUp_c29 (some 51) (nI n) (nI k) (nI r) h <;> rfl
    | succ d ih =>
      intro r hr
      have e : f_X9_comesUp_b2 (some 51) (nI n) (nI k) (nI r) h = if M r k = 0 then some (.inl (nI (r + 1))) else (f_X9_comesUp_c29 (some 51) (nI n) (nI k) (nI r) h).map (fun r => (Sum.inr r)) := by
        unfold f_X9_comesUp_b2
        rw [if_neg (by rw [qle (by omega) (by omega)]; omega), m.cells, qbind, q12, lx.at (by rw [m.1]; decide) (Nat.le_refl 12) hn (by omega) hk, qbind, nI_1]
        by_cases c : M r k = 0
        · rw [if_pos ((lg_cmp_eq _ _).mpr c), if_pos c]
        · rw [if_neg (fun z => c ((lg_cmp_eq _ _).mp z)), if_neg c]
      rw [qPv_s]
      by_cases c : M r k = 0
      · rw [if_pos c] at e
        rw [if_pos c, mLoop_inl (b := fun x : Int32 => f_X9_comesUp_b2 (some 51) (nI n) (nI k) x h) e]
        exact ih (r + 1) (by omega)
      · rw [if_neg c] at e
        rw [if_neg c, mLoop_eq]
        show (f_X9_comesUp_b2 (some 51) (nI n) (nI k) (nI r) h).bind _ = _
        rw [e]
        cases f_X9_comesUp_c29 (some 51) (nI n) (nI k) (nI r) h <;> rfl
  unfold f_X9_comesUp
  rw [m.is, qbind]
  unfold f_X9_comesUp_l2
  rw [key (n - k) k (by omega)]
  show ∃ h', f_X9_comesUp_c29 (some 51) (nI n) (nI k) (nI (qPvR M n k)) h = _ ∧ _
  unfold f_X9_comesUp_c29 qUp
  by_cases c : qPvR M n k = n
  · refine ⟨h, ?_, m, fun z => absurd c z, qSame.rf⟩
    rw [if_pos (by rw [c]), if_pos c]
  · rw [if_neg (by rw [qeq (by omega) (by omega)]; exact c), if_neg c]
    by_cases c2 : qPvR M n k = k
    · refine ⟨h, ?_, m, fun _ => ?_, qSame.rf⟩
      · rw [if_pos (by rw [c2]), if_pos c2]
      · rw [if_pos c2]; exact lx
    · obtain ⟨h1, p1, m1, l1, s1⟩ := m_swapCells m lx hn hk (show qPvR M n k < n by omega) (Ne.symm c2)
      refine ⟨h1, ?_, m1, fun _ => ?_, s1⟩
      · rw [if_neg (by rw [qeq (by omega) (by omega)]; exact c2), if_neg c2]; exact p1
      · rw [if_neg c2]; exact l1
theorem m_clear {h : mH} {A : qA} {n k : Nat} {p : Int64} {M : qMx} (m : qM h A) (lx : qLx h 66 12 n M) (hp : p ≠ 0) (hn : n ≤ 12) (hk : k < n) (s : Int32) : ∃ h', f_X9_determinant_l129 (some 51) (nI n) p s (nI k) (nI k + 1) h = some (.inl (M k k, s, nI (k + 1), h')) ∧ qM h' A ∧ qLx h' 66 12 n (qCl k p M) ∧ qSame (fun z => z = 66) h h' := by
  unfold f_X9_determinant_l129
  have R := mLoop_inv (b := fun x : Int32 × mH => f_X9_determinant_b129 (some 51) (nI n) p s (nI k) x.1 x.2) (fun d (s : Int32 × mH) => s.1 = nI (k + 1 + d) ∧ qM s.2 A ∧ qLx s.2 66 12 n (qClp k p M (k + 1 + d) (k + 1)) ∧ qSame (fun z => z = 66) h s.2) (n - (k + 1)) (fun r => ∃ h', r = .inl (M k k, s, nI (k + 1), h') ∧ qM h' A ∧ qLx h' 66 12 n (qCl k p M) ∧ qSame (fun z => z = 66) h h') (s0 := (nI k + 1, h)) ⟨by rw [nI_1], m, by rw [Nat.add_zero, qClp_0]; exact lx, qSame.rf⟩ ?_ ?_
  · obtain ⟨r, e, h', rfl, z⟩ := R
    exact ⟨h', e, z⟩
  · rintro d ⟨ik, h1⟩ hd ⟨rfl, q1, l1, s1⟩
    show ∃ s', f_X9_determinant_b129 (some 51) (nI n) p s (nI k) (nI (k + 1 + d)) h1 = some (.inl s') ∧ _
    unfold f_X9_determinant_b129
    rw [if_neg (by rw [qle (by omega) (by omega)]; omega)]
    unfold f_X9_determinant_l141
    have R := mLoop_inv (b := fun x : Int32 × mH => f_X9_determinant_b141 (some 51) (nI n) p s (nI k) (nI (k + 1 + d)) x.1 x.2) (fun e (s : Int32 × mH) => s.1 = nI (k + 1 + e) ∧ qM s.2 A ∧ qLx s.2 66 12 n (qClp k p M (k + 1 + d) (k + 1 + e)) ∧ qSame (fun z => z = 66) h s.2) (n - (k + 1)) (fun r => ∃ s' : Int32 × mH, r = .inl s' ∧ s'.1 = nI (k + 1 + (d + 1)) ∧ qM s'.2 A ∧ qLx s'.2 66 12 n (qClp k p M (k + 1 + (d + 1)) (k + 1)) ∧ qSame (fun z => z = 66) h s'.2) (s0 := (nI k + 1, h1)) ⟨by rw [nI_1], q1, l1, s1⟩ ?_ ?_
    · obtain ⟨r, e1, s', rfl, e2⟩ := R
      exact ⟨s', e1, e2⟩
    · rintro e ⟨ij, h2⟩ he ⟨rfl, q2', l2', s2⟩
      have q2 : qM h2 A := q2'
      have l2 : qLx h2 66 12 n (qClp k p M (k + 1 + d) (k + 1 + e)) := l2'
      have ha : 66 ≤ h2.1 := by rw [q2.1]; decide
      obtain ⟨a1, a2, a3, a4⟩ := qClp_at (p := p) (M := M) (show k < k + 1 + d by omega) (show k < k + 1 + e by omega)
      obtain ⟨f, p3, l3⟩ := l2.put ha (by decide) (Nat.le_refl 12) hn (i := k + 1 + d) (j := k + 1 + e) (by omega) (by omega) ((M (k + 1 + d) (k + 1 + e) * M k k - M (k + 1 + d) k * M k (k + 1 + e)) / p)
      rw [qClp_step (by omega) (by omega)] at l3
      refine ⟨(nI (k + 1 + (e + 1)), _), ?_, rfl, q2.putL f, l3, s2.put rfl _⟩
      show f_X9_determinant_b141 (some 51) (nI n) p s (nI k) (nI (k + 1 + d)) (nI (k + 1 + e)) h2 = _
      unfold f_X9_determinant_b141
      rw [if_neg (by rw [qle (by omega) (by omega)]; omega), q2.cells, qbind, qbind, q12, q12, q12, q12, l2.at ha (Nat.le_refl 12) hn (by omega) (by omega), qbind, qbind, l2.at ha (Nat.le_refl 12) hn hk hk, qbind, qbind, l2.at ha (Nat.le_refl 12) hn (by omega) hk, qbind, qbind, l2.at ha (Nat.le_refl 12) hn hk (by omega), qbind, if_neg hp, a1, a2, a3, a4, p3, qbind, nI_1]
      rfl
    · rintro ⟨ij, h2⟩ ⟨rfl, q2, l2, s2⟩
      refine ⟨.inl (nI (k + 1 + (d + 1)), h2), ?_, _, rfl, rfl, q2, l2.cong (fun i j hi hj => ?_), s2⟩
      · show f_X9_determinant_b141 (some 51) (nI n) p s (nI k) (nI (k + 1 + d)) (nI (k + 1 + (n - (k + 1)))) h2 = _
        unfold f_X9_determinant_b141
        rw [if_pos (by rw [qle (by omega) (by omega)]; omega), nI_1]
        rfl
      · rw [show k + 1 + (n - (k + 1)) = n by omega]
        exact qClp_next i j hj
  · rintro ⟨ik, h1⟩ ⟨rfl, q1', l1', s1⟩
    have q1 : qM h1 A := q1'
    have l1 : qLx h1 66 12 n (qCl k p M) := by
      refine qLx.cong l1' (fun i j hi hj => ?_)
      rw [show k + 1 + (n - (k + 1)) = n by omega]
      exact qClp_end i j hi
    have e3 : qCl k p M k k = M k k := by unfold qCl; rw [if_neg (by omega)]
    refine ⟨_, ?_, h1, rfl, q1, l1, s1⟩
    show f_X9_determinant_b129 (some 51) (nI n) p s (nI k) (nI (k + 1 + (n - (k + 1)))) h1 = _
    unfold f_X9_determinant_b129
    rw [if_pos (by rw [qle (by omega) (by omega)]; omega), q1.cells, qbind, q12, l1.at (by rw [q1.1]; decide) (Nat.le_refl 12) hn hk hk, qbind, e3, nI_1]
def qSg (b : Bool) : Int32 := if b then -1 else 1
theorem qSg_mul (b c : Bool) : qSg b * qSg c = qSg (b != c) := by cases b <;> cases c <;> decide
theorem qSg_0 (b : Bool) : qSg b ≠ 0 := by cases b <;> decide
theorem qSg_l (b : Bool) (x : Int64) : Int32.toInt64 (qSg b) * x = if b then -x else x := by
  cases b
  · show (1 : Int64) * x = x
    exact Int64.one_mul x
  · show (-1 : Int64) * x = -x
    exact (Int64.neg_eq_neg_one_mul x).symm
theorem m_elim {A : qA} {n : Nat} (hn : n ≤ 12) : ∀ (d k : Nat) (p : Int64) (b : Bool) (M : qMx) (h : mH), qM h A → qLx h 66 12 n M → p ≠ 0 → k + d + 1 = n → ∃ h', f_X9_determinant_l96 (some 51) (nI n) p (qSg b) (nI k) h = some (qDet n (d + 1) k p b M, h') ∧ qM h' A ∧ qSame (fun z => z = 66) h h' := by
  intro d
  induction d with
  | zero =>
    intro k p b M h m lx hp hk
    refine ⟨h, ?_, m, qSame.rf⟩
    unfold f_X9_determinant_l96
    refine mLoop_inr ?_
    show f_X9_determinant_b96 (some 51) (nI n) p (qSg b) (nI k) h = _
    unfold f_X9_determinant_b96
    have e0 : (12 : Int32) * (nI n - 1) + nI n - 1 = nI (k * 12 + k) := by
      rw [qI_one, qI_sub (by omega), show (12 : Int32) = nI 12 from rfl, qI_mul, qI_add, qI_sub (by omega)]
      congr 1
      omega
    rw [nI_1, if_pos (by rw [qle (by omega) (by omega)]; omega), m.cells, qbind, e0, lx.at (by rw [m.1]; decide) (Nat.le_refl 12) hn (by omega) (by omega), qbind, qSg_l]
    have e1 : qPvR M n k = if M k k = 0 then n else k := by
      unfold qPvR
      rw [show n - k = 0 + 1 by omega, qPv_s]
      by_cases c : M k k = 0
      · rw [if_pos c, if_pos c]; show k + 1 = n; omega
      · rw [if_neg c, if_neg c]
    show _ = some (Sum.inr (if qPvR M n k = n then 0 else if (b != decide (qPvR M n k ≠ k)) = true then -(qUp M n k k k) else qUp M n k k k, h))
    by_cases c : M k k = 0
    · rw [e1, if_pos c, if_pos rfl, c]
      cases b <;> rfl
    · unfold qUp
      rw [e1, if_neg c, if_neg (show ¬ k = n by omega), if_pos (show k = k from rfl), decide_eq_false (fun z : k ≠ k => z rfl), Bool.bne_false]
  | succ d ih =>
    intro k p b M h m lx hp hk
    obtain ⟨h1, e1, m1, l1, s1⟩ := m_comesUp m lx hn (show k < n by omega)
    by_cases c : qPvR M n k = n
    · refine ⟨h1, ?_, m1, s1⟩
      unfold f_X9_determinant_l96
      refine mLoop_inr ?_
      show f_X9_determinant_b96 (some 51) (nI n) p (qSg b) (nI k) h = _
      unfold f_X9_determinant_b96
      rw [nI_1, if_neg (by rw [qle (by omega) (by omega)]; omega), e1, qbind, if_pos c]
      show (if qSg b * 0 = 0 then _ else _) = some (Sum.inr (if qPvR M n k = n then 0 else _, h1))
      rw [if_pos (by cases b <;> decide), if_pos c]
    · have e2 : (if qPvR M n k = n then (0 : Int32) else if qPvR M n k = k then 1 else -1) = qSg (decide (qPvR M n k ≠ k)) := by
        rw [if_neg c]
        by_cases c2 : qPvR M n k = k
        · rw [if_pos c2, decide_eq_false (fun z => z c2)]; rfl
        · rw [if_neg c2, decide_eq_true c2]; rfl
      obtain ⟨h2, p2, m2, l2, s2⟩ := m_clear m1 (l1 c) hp hn (show k < n by omega) (qSg (b != decide (qPvR M n k ≠ k)))
      have e4 : f_X9_determinant_b96 (some 51) (nI n) p (qSg b) (nI k) h = some (.inl (qUp M n k k k, qSg (b != decide (qPvR M n k ≠ k)), nI (k + 1), h2)) := by
        unfold f_X9_determinant_b96
        rw [nI_1] at p2 ⊢
        rw [if_neg (by rw [qle (by omega) (by omega)]; omega), e1, qbind, e2]
        show (if qSg b * qSg (decide (qPvR M n k ≠ k)) = 0 then _ else f_X9_determinant_l129 (some 51) (nI n) p (qSg b * qSg (decide (qPvR M n k ≠ k))) (nI k) (nI (k + 1)) h1) = _
        rw [qSg_mul, if_neg (qSg_0 _), p2]
      obtain ⟨h3, p3, m3, s3⟩ := ih (k + 1) (qUp M n k k k) (b != decide (qPvR M n k ≠ k)) (qCl k p (qUp M n k)) h2 m2 l2 (qUp_ne (by omega) c) (by omega)
      refine ⟨h3, ?_, m3, (s1.trans s2).trans s3⟩
      unfold f_X9_determinant_l96 at p3 ⊢
      rw [mLoop_inl (b := fun x : Int64 × Int32 × Int32 × mH => f_X9_determinant_b96 (some 51) (nI n) x.1 x.2.1 x.2.2.1 x.2.2.2) (x := (p, qSg b, nI k, h)) e4, p3]
      show _ = some (if qPvR M n k = n then 0 else _, h3)
      rw [if_neg c]
