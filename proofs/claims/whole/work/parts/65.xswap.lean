/-! PURE: the class's exchange of two rows -/
def qMxS (M : qMx) (k r : Nat) : qMx := fun i j => if i = k then M r j else if i = r then M k j else M i j
def qMxP (M : qMx) (k r d : Nat) : qMx := fun i j => if j < d then qMxS M k r i j else M i j
theorem qMxP_0 (M : qMx) (k r : Nat) : qMxP M k r 0 = M := by
  funext i j
  unfold qMxP
  rw [if_neg (by omega)]
theorem qMxP_step (M : qMx) {k r : Nat} (hkr : k ≠ r) (d : Nat) : qMxU (qMxU (qMxP M k r d) k d (M r d)) r d (M k d) = qMxP M k r (d + 1) := by
  funext i j
  unfold qMxU qMxP qMxS
  by_cases e1 : i = r ∧ j = d
  · rw [if_pos e1, if_pos (by omega), if_neg (by omega), if_pos e1.1, e1.2]
  · rw [if_neg e1]
    by_cases e2 : i = k ∧ j = d
    · rw [if_pos e2, if_pos (by omega), if_pos e2.1, e2.2]
    · rw [if_neg e2]
      by_cases c : j < d
      · rw [if_pos c, if_pos (show j < d + 1 by omega)]
      · rw [if_neg c]
        by_cases c2 : j < d + 1
        · rw [if_pos c2, if_neg (by omega), if_neg (by omega)]
        · rw [if_neg c2]
theorem x_exchangeCells {h : mH} {A : qA} {n k r : Nat} {M : qMx} (q : qX h A) (lx : qLx h 46 n n M) (hn : n ≤ 12) (hk : k < n) (hr : r < n) (hkr : k ≠ r) : ∃ h', f_X1_exchangeCells (some 45) (nI n) (nI k) (nI r) h = some h' ∧ qX h' A ∧ qLx h' 46 n n (qMxS M k r) ∧ qSame (fun z => z = 46) h h' := by
  unfold f_X1_exchangeCells
  rw [q.cells.2, qbind]
  unfold f_X1_exchangeCells_l3
  refine mLoop_inv (b := fun x : Int32 × mH => f_X1_exchangeCells_b3 (some 45) (nI n) (nI k) (nI r) x.1 x.2) (fun d (s : Int32 × mH) => s.1 = nI d ∧ qX s.2 A ∧ qLx s.2 46 n n (qMxP M k r d) ∧ qSame (fun z => z = 46) h s.2) n (fun h' => qX h' A ∧ qLx h' 46 n n (qMxS M k r) ∧ qSame (fun z => z = 46) h h') (s0 := (0, h)) ⟨rfl, q, by rw [qMxP_0]; exact lx, qSame.rf⟩ ?_ ?_
  · rintro d ⟨ij, h2⟩ hd ⟨rfl, q2', l2', s2⟩
    have q2 : qX h2 A := q2'
    have l2 : qLx h2 46 n n (qMxP M k r d) := l2'
    have ha : 46 ≤ h2.1 := by rw [q2.1]; decide
    have b1 : qMxP M k r d r d = M r d := by unfold qMxP; rw [if_neg (by omega)]
    have b2 : qMxP M k r d k d = M k d := by unfold qMxP; rw [if_neg (by omega)]
    obtain ⟨f, p3, l3⟩ := l2.put ha (by decide) hn (Nat.le_refl n) hk hd (M r d)
    have q3 := q2.putL f
    obtain ⟨g, p4, l4⟩ := l3.put (by rw [q3.1]; decide) (by decide) hn (Nat.le_refl n) hr hd (M k d)
    rw [qMxP_step M hkr d] at l4
    refine ⟨(nI (d + 1), _), ?_, rfl, q3.putL g, l4, (s2.put rfl _).put rfl _⟩
    show f_X1_exchangeCells_b3 (some 45) (nI n) (nI k) (nI r) (nI d) h2 = _
    unfold f_X1_exchangeCells_b3
    rw [if_neg (by rw [qle (by omega) (by omega)]; omega), q2.cells.1, qbind, qI_mul, qI_mul, qI_add, qI_add, l2.at ha hn (Nat.le_refl n) hk hd, qbind, qbind, qbind, l2.at ha hn (Nat.le_refl n) hr hd, qbind, b1, b2, p3, qbind, q3.cells.1, qbind, p4, qbind, nI_1]
    rfl
  · rintro ⟨ij, h2⟩ ⟨rfl, q2, l2, s2⟩
    refine ⟨h2, ?_, q2, l2.cong (fun i j hi hj => by unfold qMxP; rw [if_pos hj]), s2⟩
    show f_X1_exchangeCells_b3 (some 45) (nI n) (nI k) (nI r) (nI n) h2 = _
    unfold f_X1_exchangeCells_b3
    rw [if_pos (by rw [qle (by omega) (by omega)]; omega)]
