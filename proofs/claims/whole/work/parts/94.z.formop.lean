/-! PURE: form -/
theorem op_form {h : mH} {A : qA} (I : qI h A) (x i : Int32) : qStep (f_X8_form (some 1) x i) (f_X9_form (some 51) x i) h := by
  have L := qTb2 I x
  have I0 := I
  have LN := fun {t : Nat} (hx : qYes A x t) => qLn3 I0 hx i
  obtain ⟨q, m, w⟩ := I
  obtain ⟨x0, y0, fo, fr, ff, fg, fw, mb, hm⟩ := m.b
  rcases L with ⟨l1, l2⟩ | ⟨u, hx, l1, l2⟩
  · refine qStep.none (r := -1) I0 ?_ ?_
    · unfold f_X8_form; rw [q.is, qbind, l1, qbind, if_pos rfl]
    · unfold f_X9_form f_X9_isLine; rw [mb.is, qbind, qbind, l2, qbind, if_pos rfl, qbind, if_pos rfl]
  · have hu := hx.1
    have wt := w.1 u hu
    obtain ⟨bk, bs, bc, ra, rb, fr', fa, fb, hT, hs⟩ := q.2.2.2.1 u hu
    have ord := mb.order hu
    rw [(hm u hu).1] at ord
    rcases LN hx with ⟨n1, n2⟩ | ⟨k, hk, rfl, n1, n2⟩
    · refine qStep.none (r := -1) I0 ?_ ?_
      · unfold f_X8_form; rw [q.is, qbind, l1, qbind, if_neg qne, n1, qbind, if_pos rfl]
      · unfold f_X9_form; rw [mb.is, qbind, n2, qbind, if_pos rfl]
    · have n28 := wt.1
      have XP : f_X8_form (some 1) x (nI k) h = if nI (A.1 u).1 ≤ (6 : Int32) then (f_X3_find (some 38) (some (3 + 4 * u)) h).bind fun x5 => (mGR x5 (some 1) 7 7).bind fun x6 => (mGR x5 x6 2 3).bind fun x7 => (mAI x5 x7 (nI k)).bind fun x8 => some (x8, x5) else some ((-2 : Int32), h) := by
        unfold f_X8_form
        rw [q.is, qbind, l1, qbind, if_neg qne, n1, qbind, if_neg q10, hT.size, qbind, show mGR h (some 1) 7 7 = some (some 38) from qGR (by rw [q.1]; decide) q.2.1 rfl, qbind]
      have MP : ∀ {h'}, qM h' A → f_X9_form (some 51) x (nI k) h' = if nI (A.1 u).1 ≤ (6 : Int32) then (f_X9_laysLeast (some 51) x h').bind fun x4 => (mGR x4 (some 51) 8 17).bind fun x5 => (mAI x4 x5 (nI k)).bind fun x6 => some (x6, x4) else some ((-2 : Int32), h') := by
        intro h' m'
        obtain ⟨x1, y1, fo1, fr1, ff1, fg1, fw1, mb1, hm1⟩ := m'.b
        have ord1 := mb1.order hu
        rw [(hm1 u hu).1] at ord1
        have ln := m_line mb1 hm1 w hx (k := k) (by omega)
        rw [decide_eq_true hk] at ln
        unfold f_X9_form
        rw [mb1.is, qbind, ln, qbind, qif1, mb1.orders, qbind, hx.2.1, ord1, qbind]
      by_cases h6 : (A.1 u).1 ≤ 6
      · rw [if_pos (by rw [qL6, qle (by omega) (by decide)]; exact h6)] at XP
        obtain ⟨h1, g39, Lf, p1, q1, s1, e1, e39, u39, fd⟩ := x_findForm q w hu rfl rfl hx.2.2 h6
        have s1' : qSame qCX h h1 := s1.mono fun z y => by unfold qC39 at y; unfold qCX; omega
        have m1 := m.same s1'
        obtain ⟨h2, g65, M, p2, m2, s2, e65, u65, mm⟩ := m_laysLeast m1 w hu rfl rfl hx.2.2 h6
        have eq := qForm_eq hx.2.2 h6 wt.2.1 fd mm k hk
        have E1 : f_X8_form (some 1) x (nI k) h = some (nI (Lf k), h1) := by
          rw [XP, p1, qbind, show mGR h1 (some 1) 7 7 = some (some 38) from qGR (by rw [q1.1]; decide) q1.2.1 rfl, qbind, e1, qbind, q1.atW e39 (by decide) (by decide) (by omega), qbind, (u39 k hk).1]
        have E2 : f_X9_form (some 51) x (nI k) h1 = some (nI (Lf k), h2) := by
          rw [MP m1, if_pos (by rw [qL6, qle (by omega) (by decide)]; exact h6), hx.2.1, p2, qbind, m2.g63.2.2, qbind, m2.atW e65 (by decide) (by decide) (by omega), qbind, u65 k hk, eq]
        exact qStep.mk E1 q1 s1' E2 m2 (s2.mono fun z y => by unfold qC63 at y; unfold qCM; omega) w
      · refine qStep.none (r := -2) I0 ?_ ?_
        · rw [XP, if_neg (by rw [qL6, qle (by omega) (by decide)]; exact h6)]
        · rw [MP m, if_neg (by rw [qL6, qle (by omega) (by decide)]; exact h6)]
