/-! PURE: determinant -/
def qStepL (fx fm : mH → Option (Int64 × mH)) (h : mH) : Prop := ∃ r h1 h2 A', fx h = some (r, h1) ∧ fm h1 = some (r, h2) ∧ qI h2 A' ∧ qSame (fun k => 0 < k) h h2 ∧ qSame (fun k => 0 < k) h h1
theorem qStepL.mk {fx fm : mH → Option (Int64 × mH)} {h h1 h2 : mH} {A' : qA} {r : Int64} (e1 : fx h = some (r, h1)) (x1 : qX h1 A') (s1 : qSame qCX h h1) (e2 : fm h1 = some (r, h2)) (m2 : qM h2 A') (s2 : qSame qCM h1 h2) (w : qWA A') : qStepL fx fm h :=
  ⟨r, h1, h2, A', e1, e2, ⟨x1.same s2, m2, w⟩, (s1.mono fun k z => z.1).trans (s2.mono fun k z => Nat.lt_of_lt_of_le (by decide : 0 < 50) (Nat.le_of_lt z)), s1.mono fun k z => z.1⟩
theorem qStepL.none {fx fm : mH → Option (Int64 × mH)} {h : mH} {A : qA} {r : Int64} (I : qI h A) (e1 : fx h = some (r, h)) (e2 : fm h = some (r, h)) : qStepL fx fm h := ⟨r, h, h, A, e1, e2, I, qSame.rf, qSame.rf⟩
theorem m_det {h : mH} {A : qA} {t : Nat} (m : qM h A) (w : qWA A) (h6 : t < 6) (h0 : 0 < (A.1 t).1) (hn : (A.1 t).1 ≤ 12) : ∃ h', f_X9_determinant_l32 (some 51) (nI t) (nI (A.1 t).1) 0 h = some (qDet (A.1 t).1 (A.1 t).1 0 1 false (qOf (A.1 t)), h') ∧ qM h' A ∧ qSame (fun z => z = 66) h h' := by
  have wt := w.1 t h6
  generalize hnn : (A.1 t).1 = n at h0 hn
  unfold f_X9_determinant_l32
  obtain ⟨f0, ef0⟩ : qArL' h 66 144 := m.2.2.2.2.2.2.2.2.2.2.2.2.2.1
  have R := mLoop_inv (b := fun x : Int32 × mH => f_X9_determinant_b32 (some 51) (nI t) (nI n) x.1 x.2) (fun i (s : Int32 × mH) => s.1 = nI i ∧ qM s.2 A ∧ qSame (fun z => z = 66) h s.2 ∧ ∃ M, qLx s.2 66 12 n M ∧ ∀ i' j, i' < i → j < n → M i' j = qOf (A.1 t) i' j) n (fun r => ∃ h', r = (qDet n n 0 1 false (qOf (A.1 t)), h') ∧ qM h' A ∧ qSame (fun z => z = 66) h h') (s0 := (0, h)) ⟨rfl, m, qSame.rf, fun i j => f0 (i * 12 + j), ⟨f0, ef0, fun _ _ _ _ => rfl⟩, fun i' j hi _ => absurd hi (Nat.not_lt_zero _)⟩ ?_ ?_
  · obtain ⟨r, e, h', rfl, x⟩ := R
    exact ⟨h', e, x⟩
  · rintro i ⟨ii, h1⟩ hi ⟨rfl, q1, s1, M, l1, m1⟩
    show ∃ s', f_X9_determinant_b32 (some 51) (nI t) (nI n) (nI i) h1 = some (.inl s') ∧ _
    unfold f_X9_determinant_b32
    rw [if_neg (by rw [qle (by omega) (by omega)]; omega)]
    unfold f_X9_determinant_l40
    have R := mLoop_inv (b := fun x : Int32 × mH => f_X9_determinant_b40 (some 51) (nI t) (nI n) (nI i) x.1 x.2) (fun e (s : Int32 × mH) => s.1 = nI e ∧ qM s.2 A ∧ qSame (fun z => z = 66) h s.2 ∧ ∃ M, qLx s.2 66 12 n M ∧ (∀ i' j, i' < i → j < n → M i' j = qOf (A.1 t) i' j) ∧ ∀ j, j < e → M i j = qOf (A.1 t) i j) n (fun r => ∃ s' : Int32 × mH, r = .inl s' ∧ s'.1 = nI (i + 1) ∧ qM s'.2 A ∧ qSame (fun z => z = 66) h s'.2 ∧ ∃ M, qLx s'.2 66 12 n M ∧ ∀ i' j, i' < i + 1 → j < n → M i' j = qOf (A.1 t) i' j) (s0 := (0, h1)) ⟨rfl, q1, s1, M, l1, m1, fun j hj => absurd hj (Nat.not_lt_zero j)⟩ ?_ ?_
    · obtain ⟨r, e1, s', rfl, e2⟩ := R
      exact ⟨s', e1, e2⟩
    · rintro e ⟨ij, h2⟩ he ⟨rfl, q2', s2, M2, l2', m2, m3⟩
      have q2 : qM h2 A := q2'
      have l2 : qLx h2 66 12 n M2 := l2'
      have ha : 66 ≤ h2.1 := by rw [q2.1]; decide
      obtain ⟨x0, y0, fo, fr, ff, fg, fw, mb, hm⟩ := q2.b
      have hmin := m_isMinus mb (hm t h6) h6 wt (i := i) (j := e) (by omega) (by omega)
      obtain ⟨f, p3, l3⟩ := l2.put ha (by decide) (Nat.le_refl 12) hn hi he (qOf (A.1 t) i e)
      refine ⟨(nI (e + 1), _), ?_, rfl, q2.putL f, s2.put rfl _, _, l3, fun i' j hi' hj => ?_, fun j hj => ?_⟩
      · show f_X9_determinant_b40 (some 51) (nI t) (nI n) (nI i) (nI e) h2 = _
        unfold f_X9_determinant_b40
        rw [if_neg (by rw [qle (by omega) (by omega)]; omega), q2.cells, qbind, hmin, qbind, q12]
        unfold f_X9_determinant_c75
        unfold qOf at p3
        cases hb : ((A.1 t).2.1 i).testBit e
        · rw [hb, if_neg (by decide)] at p3
          rw [qif0, p3, qbind, nI_1]; rfl
        · rw [hb, if_pos rfl] at p3
          rw [qif1, p3, qbind, nI_1]; rfl
      · unfold qMxU
        rw [if_neg (by omega)]
        exact m2 i' j hi' hj
      · unfold qMxU
        by_cases hje : j = e
        · rw [if_pos ⟨rfl, hje⟩, hje]
        · rw [if_neg (by omega)]
          exact m3 j (by omega)
    · rintro ⟨ij, h2⟩ ⟨rfl, q2, s2, M2, l2, m2, m3⟩
      refine ⟨.inl (nI (i + 1), h2), ?_, _, rfl, rfl, q2, s2, M2, l2, fun i' j hi' hj => ?_⟩
      · show f_X9_determinant_b40 (some 51) (nI t) (nI n) (nI i) (nI n) h2 = _
        unfold f_X9_determinant_b40
        rw [if_pos (by rw [qle (by omega) (by omega)]; omega), nI_1]
      · by_cases hii : i' = i
        · rw [hii]; exact m3 j hj
        · exact m2 i' j (by omega) hj
  · rintro ⟨ii, h1⟩ ⟨rfl, q1, s1, M, l1, m1⟩
    obtain ⟨h2, p2, q2, s2⟩ := m_elim hn (n - 1) 0 1 false (qOf (A.1 t)) h1 q1 (l1.cong m1) qone (by omega)
    refine ⟨_, ?_, h2, rfl, q2, s1.trans s2⟩
    show f_X9_determinant_b32 (some 51) (nI t) (nI n) (nI n) h1 = _
    unfold f_X9_determinant_b32
    rw [if_pos (by rw [qle (by omega) (by omega)]; omega)]
    show (f_X9_determinant_l96 (some 51) (nI n) 1 (qSg false) (nI 0) h1).map _ = _
    rw [p2, show n - 1 + 1 = n by omega]
    rfl
theorem op_determinant {h : mH} {A : qA} (I : qI h A) (x : Int32) : qStepL (f_X8_determinant (some 1) x) (f_X9_determinant (some 51) x) h := by
  have L := qTb2 I x
  have I0 := I
  obtain ⟨q, m, w⟩ := I
  obtain ⟨x0, y0, fo, fr, ff, fg, fw, mb, hm⟩ := m.b
  rcases L with ⟨l1, l2⟩ | ⟨t, hx, l1, l2⟩
  · refine qStepL.none (r := -1000000000) I0 ?_ ?_
    · unfold f_X8_determinant; rw [q.is, qbind, l1, qbind, if_pos rfl]; rfl
    · unfold f_X9_determinant; rw [mb.is, qbind, l2, qbind, if_pos rfl]; rfl
  · obtain ⟨h6, hx2, h0⟩ := hx
    have hn := (w.1 t h6).1
    obtain ⟨bk, bs, bc, ra, rb, fr', fa, fb, hT, hs⟩ := q.2.2.2.1 t h6
    by_cases h12 : (A.1 t).1 ≤ 12
    · obtain ⟨h1, p1, q1, s1⟩ := x_value q w h6 h0 h12
      have s1' : qSame qCX h h1 := s1.mono fun k z => ⟨by omega, by omega⟩
      have m1 := m.same s1'
      obtain ⟨x1, y1, fo1, fr1, ff1, fg1, fw1, mb1, hm1⟩ := m1.b
      obtain ⟨h2, p2, m2, s2⟩ := m_det m1 w h6 h0 h12
      have c12 : nI (A.1 t).1 ≤ (12 : Int32) := by rw [show (12 : Int32) = nI 12 from rfl, qle (by omega) (by decide)]; exact h12
      refine qStepL.mk (h1 := h1) (h2 := h2) (r := qDet (A.1 t).1 (A.1 t).1 0 1 false (qOf (A.1 t))) ?_ q1 s1' ?_ m2 (s2.mono fun k z => by unfold qCM; omega) w
      · unfold f_X8_determinant
        rw [q.is, qbind, l1, qbind, if_neg qne, hT.size, qbind, if_pos c12, show mGR h (some 1) 7 9 = some (some 45) from qGR (by rw [q.1]; decide) q.2.1 rfl, qbind, p1, qbind]
      · unfold f_X9_determinant
        rw [mb1.is, qbind, m_tab_yes mb1 hm1 w ⟨h6, hx2, h0⟩, qbind, if_neg q10, mb1.orders, qbind, hx2, mb1.order h6, qbind, (hm1 t h6).1, if_pos c12, qbind, mb1.order h6, qbind, (hm1 t h6).1, p2]
    · have c12 : ¬ nI (A.1 t).1 ≤ (12 : Int32) := by rw [show (12 : Int32) = nI 12 from rfl, qle (by omega) (by decide)]; exact h12
      refine qStepL.none (r := -1000000000) I0 ?_ ?_
      · unfold f_X8_determinant; rw [q.is, qbind, l1, qbind, if_neg qne, hT.size, qbind, if_neg c12]; rfl
      · unfold f_X9_determinant; rw [mb.is, qbind, l2, qbind, if_neg q10, mb.orders, qbind, hx2, mb.order h6, qbind, (hm t h6).1, if_neg c12]; rfl
