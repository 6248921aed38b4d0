/-! PURE: the determinant, the class's way -/
def qPv (M : qMx) (k : Nat) : Nat → Nat → Nat
  | 0, r => r
  | d + 1, r => if M r k = 0 then qPv M k d (r + 1) else r
theorem qPv_s (M : qMx) (k d r : Nat) : qPv M k (d + 1) r = if M r k = 0 then qPv M k d (r + 1) else r := rfl
theorem qPv_ok (M : qMx) (k : Nat) : ∀ d r, r ≤ qPv M k d r ∧ qPv M k d r ≤ r + d ∧ (qPv M k d r < r + d → M (qPv M k d r) k ≠ 0) := by
  intro d
  induction d with
  | zero => intro r; exact ⟨Nat.le_refl _, Nat.le_refl _, fun z => absurd z (Nat.lt_irrefl _)⟩
  | succ d ih =>
    intro r
    rw [qPv_s]
    by_cases c : M r k = 0
    · rw [if_pos c]
      obtain ⟨a1, a2, a3⟩ := ih (r + 1)
      exact ⟨by omega, by omega, fun z => a3 (by omega)⟩
    · rw [if_neg c]
      exact ⟨Nat.le_refl _, by omega, fun _ => c⟩
def qPvR (M : qMx) (n k : Nat) : Nat := qPv M k (n - k) k
def qUp (M : qMx) (n k : Nat) : qMx := if qPvR M n k = k then M else qMxS M k (qPvR M n k)
theorem qUp_ne {M : qMx} {n k : Nat} (hk : k < n) (h : qPvR M n k ≠ n) : qUp M n k k k ≠ 0 := by
  obtain ⟨a1, a2, a3⟩ := qPv_ok M k (n - k) k
  have b1 : M (qPvR M n k) k ≠ 0 := a3 (by unfold qPvR at h; omega)
  unfold qUp
  by_cases c : qPvR M n k = k
  · rw [if_pos c]; rw [c] at b1; exact b1
  · rw [if_neg c]
    unfold qMxS
    rw [if_pos rfl]; exact b1
def qDet (n : Nat) : Nat → Nat → Int64 → Bool → qMx → Int64
  | 0, _, p, b, _ => if b then -p else p
  | d + 1, k, p, b, M => if qPvR M n k = n then 0 else qDet n d (k + 1) (qUp M n k k k) (b != decide (qPvR M n k ≠ k)) (qCl k p (qUp M n k))
theorem x_pivotRow {h : mH} {A : qA} {n k : Nat} {M : qMx} (q : qX h A) (lx : qLx h 46 n n M) (hn : n ≤ 12) (hk : k < n) : f_X1_pivotRow (some 45) (nI n) (nI k) h = some (if qPvR M n k = n then -1 else nI (qPvR M n k)) := by
  unfold f_X1_pivotRow
  rw [q.cells.2, qbind]
  unfold f_X1_pivotRow_l2
  have key : ∀ d r, r + d = n → mLoop (fun x : Int32 => f_X1_pivotRow_b2 (some 45) (nI n) (nI k) x h) (nI r) = some (if qPv M k d r = n then -1 else nI (qPv M k d r)) := by
    intro d
    induction d with
    | zero =>
      intro r hr
      have hr' : qPv M k 0 r = n := by show r = n; omega
      refine mLoop_inr ?_
      show f_X1_pivotRow_b2 _ _ _ _ _ = _
      unfold f_X1_pivotRow_b2
      rw [if_pos (by rw [qle (by omega) (by omega)]; omega), if_pos hr']
    | succ d ih =>
      intro r hr
      have e : f_X1_pivotRow_b2 (some 45) (nI n) (nI k) (nI r) h = if M r k = 0 then some (.inl (nI (r + 1))) else some (.inr (nI r)) := by
        unfold f_X1_pivotRow_b2
        rw [if_neg (by rw [qle (by omega) (by omega)]; omega), q.cells.1, qbind, qI_mul, qI_add, lx.at (by rw [q.1]; decide) hn (Nat.le_refl n) (by omega) hk, qbind, nI_1]
        by_cases c : M r k = 0
        · rw [if_pos ((lg_cmp_eq _ _).mpr c), if_pos c]
        · rw [if_neg (fun z => c ((lg_cmp_eq _ _).mp z)), if_neg c]
      rw [qPv_s]
      by_cases c : M r k = 0
      · rw [if_pos c] at e
        rw [if_pos c, mLoop_inl (b := fun x : Int32 => f_X1_pivotRow_b2 (some 45) (nI n) (nI k) x h) e]
        exact ih (r + 1) (by omega)
      · rw [if_neg c] at e
        rw [if_neg c, mLoop_inr (b := fun x : Int32 => f_X1_pivotRow_b2 (some 45) (nI n) (nI k) x h) e, if_neg (by omega)]
  exact key (n - k) k (by omega)
theorem x_elim {A : qA} {n : Nat} (hn : n ≤ 12) : ∀ (d k : Nat) (p : Int64) (b : Bool) (M : qMx) (h : mH), qX h A → qLx h 46 n n M → p ≠ 0 → k + d = n → ∃ h', f_X1_value_l82 (some 45) (nI n) p (qB2I b) (nI k) h = some (qDet n d k p b M, h') ∧ qX h' A ∧ qSame (fun z => z = 46) h h' := by
  intro d
  induction d with
  | zero =>
    intro k p b M h q lx hp hk
    refine ⟨h, ?_, q, qSame.rf⟩
    unfold f_X1_value_l82
    refine mLoop_inr ?_
    show f_X1_value_b82 (some 45) (nI n) p (qB2I b) (nI k) h = _
    unfold f_X1_value_b82
    rw [if_pos (by rw [qle (by omega) (by omega)]; omega)]
    cases b
    · rw [qif0]; rfl
    · rw [qif1]; rfl
  | succ d ih =>
    intro k p b M h q lx hp hk
    have e1 := x_pivotRow q lx hn (show k < n by omega)
    have hpc : ¬ lg_cmp p 0 = 0 := fun z => hp ((lg_cmp_eq p 0).mp z)
    by_cases c : qPvR M n k = n
    · refine ⟨h, ?_, q, qSame.rf⟩
      unfold f_X1_value_l82
      refine mLoop_inr ?_
      show f_X1_value_b82 (some 45) (nI n) p (qB2I b) (nI k) h = _
      unfold f_X1_value_b82
      rw [if_neg (by rw [qle (by omega) (by omega)]; omega), e1, qbind, if_pos c, if_pos rfl]
      show _ = some (Sum.inr (if qPvR M n k = n then 0 else _, h))
      rw [if_pos c]
    · obtain ⟨a1, a2, a3⟩ := qPv_ok M k (n - k) k
      have hr : qPvR M n k < n := by unfold qPvR at c ⊢; omega
      have E : ∃ h1, f_X1_value_b82 (some 45) (nI n) p (qB2I b) (nI k) h = f_X1_value_c139 (some 45) (nI n) p (qB2I (b != decide (qPvR M n k ≠ k))) (nI k) h1 ∧ qX h1 A ∧ qLx h1 46 n n (qUp M n k) ∧ qSame (fun z => z = 46) h h1 := by
        by_cases c2 : qPvR M n k = k
        · refine ⟨h, ?_, q, ?_, qSame.rf⟩
          · unfold f_X1_value_b82
            rw [if_neg (by rw [qle (by omega) (by omega)]; omega), e1, qbind, if_neg c, if_neg (qnm2 (by omega)), if_neg hpc, if_pos (by rw [c2]), decide_eq_false (fun z => z c2), Bool.bne_false]
          · unfold qUp
            rw [if_pos c2]; exact lx
        · obtain ⟨h1, p1, q1, l1, s1⟩ := x_exchangeCells q lx hn (show k < n by omega) hr (Ne.symm c2)
          refine ⟨h1, ?_, q1, ?_, s1⟩
          · unfold f_X1_value_b82
            rw [if_neg (by rw [qle (by omega) (by omega)]; omega), e1, qbind, if_neg c, if_neg (qnm2 (by omega)), if_neg hpc, if_neg (by rw [qeq (by omega) (by omega)]; exact c2), p1, qbind, decide_eq_true c2, Bool.bne_true]
            cases b
            · rw [qif0]; rfl
            · rw [qif1]; rfl
          · unfold qUp
            rw [if_neg c2]; exact l1
      obtain ⟨h1, e2, q1, l1, s1⟩ := E
      obtain ⟨h2, p2, q2, l2, s2⟩ := x_clearBelow q1 l1 hp hn (show k < n by omega)
      have e3 : qCl k p (qUp M n k) k k = qUp M n k k k := by unfold qCl; rw [if_neg (by omega)]
      have e4 : f_X1_value_b82 (some 45) (nI n) p (qB2I b) (nI k) h = some (.inl (qUp M n k k k, qB2I (b != decide (qPvR M n k ≠ k)), nI (k + 1), h2)) := by
        rw [e2]
        unfold f_X1_value_c139
        rw [p2, qbind, q2.cells.1, qbind, qI_mul, qI_add, l2.at (by rw [q2.1]; decide) hn (Nat.le_refl n) (by omega) (by omega), qbind, e3, nI_1]
      obtain ⟨h3, p3, q3, s3⟩ := ih (k + 1) (qUp M n k k k) (b != decide (qPvR M n k ≠ k)) (qCl k p (qUp M n k)) h2 q2 l2 (qUp_ne (by omega) c) (by omega)
      refine ⟨h3, ?_, q3, (s1.trans s2).trans s3⟩
      unfold f_X1_value_l82 at p3 ⊢
      rw [mLoop_inl (b := fun x : Int64 × Int32 × Int32 × mH => f_X1_value_b82 (some 45) (nI n) x.1 x.2.1 x.2.2.1 x.2.2.2) (x := (p, qB2I b, nI k, h)) e4, p3]
      show _ = some (if qPvR M n k = n then 0 else _, h3)
      rw [if_neg c]
def qOf (T : qT) : qMx := fun i j => if (T.2.1 i).testBit j then -1 else 1
theorem qone : (1 : Int64) ≠ 0 := by decide
theorem x_value {h : mH} {A : qA} {t : Nat} (q : qX h A) (w : qWA A) (h6 : t < 6) (h0 : 0 < (A.1 t).1) (hn : (A.1 t).1 ≤ 12) : ∃ h', f_X1_value (some 45) (some (3 + 4 * t)) h = some (qDet (A.1 t).1 (A.1 t).1 0 1 false (qOf (A.1 t)), h') ∧ qX h' A ∧ qSame (fun z => z = 46) h h' := by
  have wt := w.1 t h6
  generalize hnn : (A.1 t).1 = n at h0 hn
  obtain ⟨bk, bs, bc, ra, rb, fr', fa, fb, hT, hs⟩ := q.2.2.2.1 t h6
  unfold f_X1_value
  rw [q.cells.2, qbind, hT.size, qbind, hnn, if_neg (by rw [qI_one, qlt (by omega) (by decide)]; omega), if_pos (by rw [show (12 : Int32) = nI 12 from rfl, qle (by omega) (by decide)]; exact hn)]
  unfold f_X1_value_l20
  obtain ⟨f0, ef0⟩ := q.2.2.2.2.2.2.2.2.2.2.2.2.2.2.2.2.2.2.2.2.2.2.2.1
  have R := mLoop_inv (b := fun x : Int32 × mH => f_X1_value_b20 (some 45) (some (3 + 4 * t)) (nI n) x.1 x.2) (fun i (s : Int32 × mH) => s.1 = nI i ∧ qX s.2 A ∧ qSame (fun z => z = 46) h s.2 ∧ ∃ M, qLx s.2 46 n n M ∧ ∀ i' j, i' < i → j < n → M i' j = qOf (A.1 t) i' j) n (fun r => ∃ h', r = (qDet n n 0 1 false (qOf (A.1 t)), h') ∧ qX h' A ∧ qSame (fun z => z = 46) h h') (s0 := (0, h)) ⟨rfl, q, qSame.rf, fun i j => f0 (i * n + j), ⟨f0, ef0, fun _ _ _ _ => rfl⟩, fun i' j hi _ => absurd hi (Nat.not_lt_zero _)⟩ ?_ ?_
  · obtain ⟨r, e, h', rfl, x⟩ := R
    exact ⟨h', e, x⟩
  · rintro i ⟨ii, h1⟩ hi ⟨rfl, q1, s1, M, l1, m1⟩
    show ∃ s', f_X1_value_b20 (some 45) (some (3 + 4 * t)) (nI n) (nI i) h1 = some (.inl s') ∧ _
    unfold f_X1_value_b20
    rw [if_neg (by rw [qle (by omega) (by omega)]; omega)]
    unfold f_X1_value_l28
    have R := mLoop_inv (b := fun x : Int32 × mH => f_X1_value_b28 (some 45) (some (3 + 4 * t)) (nI n) (nI i) x.1 x.2) (fun e (s : Int32 × mH) => s.1 = nI e ∧ qX s.2 A ∧ qSame (fun z => z = 46) h s.2 ∧ ∃ M, qLx s.2 46 n n M ∧ (∀ i' j, i' < i → j < n → M i' j = qOf (A.1 t) i' j) ∧ ∀ j, j < e → M i j = qOf (A.1 t) i j) n (fun r => ∃ s' : Int32 × mH, r = .inl s' ∧ s'.1 = nI (i + 1) ∧ qX s'.2 A ∧ qSame (fun z => z = 46) h s'.2 ∧ ∃ M, qLx s'.2 46 n n M ∧ ∀ i' j, i' < i + 1 → j < n → M i' j = qOf (A.1 t) i' j) (s0 := (0, h1)) ⟨rfl, q1, s1, M, l1, m1, fun j hj => absurd hj (Nat.not_lt_zero j)⟩ ?_ ?_
    · obtain ⟨r, e1, s', rfl, e2⟩ := R
      exact ⟨s', e1, e2⟩
    · rintro e ⟨ij, h2⟩ he ⟨rfl, q2', s2, M2, l2', m2, m3⟩
      have q2 : qX h2 A := q2'
      have l2 : qLx h2 46 n n M2 := l2'
      have ha : 46 ≤ h2.1 := by rw [q2.1]; decide
      obtain ⟨bk, bs, bc, ra, rb, fr', fa, fb, hT2, hs2⟩ := q2.2.2.2.1 t h6
      have hrr := q31 wt.1 (wt.2.1 i (by omega))
      have hmin := x_isMinus hT2 (i := i) (j := e) (r := (A.1 t).2.1 i) (by omega) (by omega) (hs2.1 i (by omega)) (by omega)
      obtain ⟨f, p3, l3⟩ := l2.put ha (by decide) hn (Nat.le_refl n) hi he (qOf (A.1 t) i e)
      refine ⟨(nI (e + 1), _), ?_, rfl, q2.putL f, s2.put rfl _, _, l3, fun i' j hi' hj => ?_, fun j hj => ?_⟩
      · show f_X1_value_b28 (some 45) (some (3 + 4 * t)) (nI n) (nI i) (nI e) h2 = _
        unfold f_X1_value_b28
        rw [if_neg (by rw [qle (by omega) (by omega)]; omega), q2.cells.1, qbind, hmin, qbind, qI_mul, qI_add]
        unfold f_X1_value_c61
        unfold qOf at p3
        cases hb : ((A.1 t).2.1 i).testBit e
        · rw [hb, if_neg (by decide)] at p3
          rw [qif0, p3, qbind, nI_1]; rfl
        · rw [hb, if_pos rfl] at p3
          rw [qif1, p3, qbind, nI_1]; rfl
      · unfold qMxU
        rw [if_neg (by omega)]
        exact m2 i' j hi' hj
      · unfold qMxU
        by_cases hje : j = e
        · rw [if_pos ⟨rfl, hje⟩, hje]
        · rw [if_neg (by omega)]
          exact m3 j (by omega)
    · rintro ⟨ij, h2⟩ ⟨rfl, q2, s2, M2, l2, m2, m3⟩
      refine ⟨.inl (nI (i + 1), h2), ?_, _, rfl, rfl, q2, s2, M2, l2, fun i' j hi' hj => ?_⟩
      · show f_X1_value_b28 (some 45) (some (3 + 4 * t)) (nI n) (nI i) (nI n) h2 = _
        unfold f_X1_value_b28
        rw [if_pos (by rw [qle (by omega) (by omega)]; omega), nI_1]
      · by_cases hii : i' = i
        · rw [hii]; exact m3 j hj
        · exact m2 i' j (by omega) hj
  · rintro ⟨ii, h1⟩ ⟨rfl, q1, s1, M, l1, m1⟩
    obtain ⟨h2, p2, q2, s2⟩ := x_elim hn n 0 1 false (qOf (A.1 t)) h1 q1 (l1.cong m1) qone (by omega)
    refine ⟨_, ?_, h2, rfl, q2, s1.trans s2⟩
    show f_X1_value_b20 (some 45) (some (3 + 4 * t)) (nI n) (nI n) h1 = _
    unfold f_X1_value_b20
    rw [if_pos (by rw [qle (by omega) (by omega)]; omega)]
    show (f_X1_value_l82 (some 45) (nI n) 1 (qB2I false) (nI 0) h1).map _ = _
    rw [p2]
    rfl
