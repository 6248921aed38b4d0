/-! PURE: image, both sides -/
theorem op_image {h : mH} {A : qA} (I : qI h A) (x y i : Int32) (row : Bool) : qStep (f_X8_image (some 1) x y (qB2I row) i) (f_X9_image (some 51) x y (qB2I row) i) h := by
  have L := qLn2 I x i
  have L' := qTb2 I y
  have I0 := I
  obtain ⟨q, m, w⟩ := I
  obtain ⟨x0, y0, fo, fr, ff, fg, fw, mb, hm⟩ := m.b
  have em : ∃ z, f_X8_tableAt (some 1) y h = some z := by
    rcases L' with ⟨a, -⟩ | ⟨u, -, a, -⟩
    · exact ⟨_, a⟩
    · exact ⟨_, a⟩
  obtain ⟨zz, ez⟩ := em
  rcases L with ⟨l1, l2, -⟩ | ⟨t, hx, l1, -, l3, l4⟩ | ⟨t, k, hx, hk, rfl, l1, -, l3, l4⟩
  · refine qStep.none (r := -1) I0 ?_ ?_
    · unfold f_X8_image; rw [q.is, qbind, l1, qbind, ez, qbind, if_pos rfl]
    · unfold f_X9_image; rw [mb.is, qbind, l2, qbind, if_pos rfl]
  · refine qStep.none (r := -1) I0 ?_ ?_
    · unfold f_X8_image
      rw [q.is, qbind, l1, qbind, ez, qbind, if_neg qne]
      cases zz with
      | none => rw [if_pos rfl]
      | some zz => rw [if_neg qne, l3, qbind, if_pos rfl]
    · unfold f_X9_image; rw [mb.is, qbind, l4, qbind, if_pos rfl]
  · rcases L' with ⟨k1, k2⟩ | ⟨u, hy, k1, k2⟩
    · refine qStep.none (r := -1) I0 ?_ ?_
      · unfold f_X8_image; rw [q.is, qbind, l1, qbind, k1, qbind, if_neg qne, if_pos rfl]
      · unfold f_X9_image; rw [mb.is, qbind, l4, qbind, if_neg q10, k2, qbind, if_pos rfl]
    · obtain ⟨h6, hx2, h0⟩ := hx
      obtain ⟨h6', hy2, h0'⟩ := hy
      have cm := x_canMatch q w h6 h6'
      obtain ⟨h1, p1, m1, s1⟩ := m_canAsk m w h6 h6'
      cases hc : qCm (A.1 t) (A.1 u)
      · rw [hc] at cm p1
        refine qStep.mk (r := -2) (h1 := h) (h2 := h1) (A' := A) ?_ q qSame.rf ?_ m1 (s1.mono fun k z => by unfold qCM; omega) w
        · unfold f_X8_image; rw [q.is, qbind, l1, qbind, k1, qbind, if_neg qne, if_neg qne, l3, qbind, if_neg q10, cm, qbind, qif0]
        · unfold f_X9_image
          rw [mb.is, qbind, l4, qbind, if_neg q10, k2, qbind, if_neg q10, hx2, hy2, p1, qbind]
          show (if qB2I false = 0 then _ else _) = _
          rw [qif0]
      · obtain ⟨c1, c2⟩ := qCm_n hc
        rw [hc] at cm
        obtain ⟨h2, q2, s2, F2⟩ := x_findFirst q w h6 h6' (n := (A.1 t).1) rfl c1.symm rfl rfl h0 c2
        have s2' : qSame qCX h h2 := s2.mono qC33.cx
        have m2 := m.same s2'
        obtain ⟨x2, y2, fo2, fr2, ff2, fg2, fw2, mb2, hm2⟩ := m2.b
        obtain ⟨h3, p3, m3, s3⟩ := m_canAsk m2 w h6 h6'
        rw [hc] at p3
        obtain ⟨f67, e67⟩ : qArr h3 67 12 := by
          obtain ⟨a1, a2, a3, a4, a5, q7⟩ := m3
          obtain ⟨a1, a2, a3, a4, a5, a6, a7, a8, a9, b1, b2, b3, b4, b5⟩ := q7
          exact b1
        obtain ⟨h4, m4, s4, -, F4⟩ := m_finds (fx := 0) m3 w h6 h6' (n := (A.1 t).1) rfl c1.symm rfl rfl c2 (Nat.zero_le _) (c := fun _ => 0) e67 (fun e he => absurd he (Nat.not_lt_zero e))
        rw [Nat.sub_zero] at F4
        have sm : qSame qCM h2 h4 := (s3.mono fun k z => by unfold qCM; omega).trans (s4.mono qC67.cm)
        have lm : f_X9_isLine (some 51) x (nI k) h2 = some 1 := by
          rw [m_line mb2 hm2 w ⟨h6, hx2, h0⟩ (by have := (w.1 t h6).1; omega), decide_eq_true hk]; rfl
        have g33 : ∀ {h'}, qX h' A → mGR h' (some 1) 7 6 = some (some 33) := fun q' => qGR (by rw [q'.1]; decide) q'.2.1 rfl
        rcases F2 with ⟨r, f1, f2, W⟩ | ⟨f1, f2⟩
        · rcases F4 with ⟨g1, g2⟩ | ⟨r', g1, -, g3, V⟩
          · exact absurd ⟨fun k hk => absurd hk (Nat.not_lt_zero k), r, f1⟩ g2
          · have er : r' = r := by rw [f1] at g3; exact (Option.some.inj g3).symm
            subst er
            obtain ⟨r0, rN⟩ := qFnd_below f1
            have agr : qAg (A.1 t).1 (A.1 t).2.1 (A.1 u).2.1 r' (A.1 t).1 = true := by
              have := qFnd_ok (ok := qOkm (A.1 t).1 (A.1 t).2.1 (A.1 u).2.1) (fun h => qOkm_congr _ _ _ h) f1 ((A.1 t).1 - 1) (Nat.zero_le _) (by omega)
              unfold qOkm at this
              rw [Bool.and_eq_true, show (A.1 t).1 - 1 + 1 = (A.1 t).1 by omega] at this
              exact this.2
            have PX : f_X8_image (some 1) x y (qB2I row) (nI k) h = if qB2I row = 0 then (f_X4_columnImage (some 33) (nI k) h2).bind fun x8 => some (x8, h2) else (mGR h2 (some 33) 3 5).bind fun x10 => (mAI h2 x10 (nI k)).bind fun x11 => some (x11, h2) := by
              unfold f_X8_image
              rw [q.is, qbind, l1, qbind, k1, qbind, if_neg qne, if_neg qne, l3, qbind, if_neg q10, cm, qbind, qif1, g33 q, qbind, f2, qbind]
              show (if (1 : Int32) = 0 then _ else _) = _
              rw [if_neg q10]
              show (if qB2I row = 0 then (mGR h2 (some 1) 7 6).bind _ else (mGR h2 (some 1) 7 6).bind _) = _
              rw [g33 q2]
              rfl
            have PM : f_X9_image (some 51) x y (qB2I row) (nI k) h2 = if qB2I row = 0 then (mGR h4 (some 51) 8 1).bind fun x5 => (mAI h4 x5 (nI t)).bind fun x6 => (f_X9_laysColumns (some 51) x6 h4).bind fun x7 => (mGR x7 (some 51) 8 20).bind fun x8 => (mAI x7 x8 (nI k)).bind fun x9 => some (x9, x7) else (mGR h4 (some 51) 8 19).bind fun x10 => (mAI h4 x10 (nI k)).bind fun x11 => some (x11, h4) := by
              unfold f_X9_image
              rw [mb2.is, qbind, lm, qbind, if_neg q10, m_tab_yes mb2 hm2 w ⟨h6', hy2, h0'⟩, qbind, if_neg q10, hx2, hy2, p3, qbind]
              show (if qB2I true = 0 then _ else _) = _
              rw [qif1, show f_X9_finds (some 51) (nI t) (nI u) 0 h3 = some (1, h4) from g1, qbind]
              show (if (1 : Int32) = 0 then _ else _) = _
              rw [if_neg q10]
            cases row
            · -- a column
              rw [qif0] at PX PM
              have ex : ∀ j, ∃ o, j < (A.1 t).1 → o < (A.1 t).1 ∧ qHT (A.1 t).1 (A.1 t).2.1 (A.1 u).2.1 r' (A.1 t).1 j o = true ∧ qc o (fun o => qHT (A.1 t).1 (A.1 t).2.1 (A.1 u).2.1 r' (A.1 t).1 j o) = qc j (fun o => qHH (A.1 t).1 (A.1 t).2.1 r' (A.1 t).1 j o) := by
                intro j
                by_cases hj : j < (A.1 t).1
                · obtain ⟨o, ho⟩ := qCol_ex agr hj
                  exact ⟨o, fun _ => ho⟩
                · exact ⟨0, fun z => absurd z hj⟩
              obtain ⟨z, hz⟩ := Classical.axiomOfChoice ex
              obtain ⟨z1, z2, z3⟩ := hz k hk
              have cx := x_columnImage q2 w h6 h6' (n := (A.1 t).1) rfl c1.symm rfl rfl h0 c2 (by have := rN 0 (Nat.le_refl _) (by omega); omega) W hk z1 z2 z3
              obtain ⟨h5, p5, m5, s5, f68, e68, u68⟩ := m_laysColumns m4 h0 c2 V hz
              obtain ⟨x4, y4, fo4, fr4, ff4, fg4, fw4, mb4, hm4⟩ := m4.b
              refine qStep.mk (r := nI (qCi (A.1 t).1 (A.1 t).2.1 (A.1 u).2.1 r' k (z k))) (h1 := h2) (h2 := h5) ?_ q2 s2' ?_ m5 (sm.trans (s5.mono fun k z => by unfold qCM; omega)) w
              · rw [PX, cx, qbind]
              · rw [PM, mb4.orders, qbind, mb4.order h6, qbind, (hm4 t h6).1, p5, qbind, m5.g67.2.1, qbind, m5.atW e68 (by decide) (by decide) (by omega), qbind, u68 k hk]
            · -- a row
              rw [qif1] at PX PM
              obtain ⟨a1, a2, f34, f35, f36, f37, mh, e34, -⟩ := W
              obtain ⟨k67, k69, k70, v, ev, -⟩ := V
              refine qStep.mk (r := nI (r' k)) (h1 := h2) (h2 := h4) ?_ q2 s2' ?_ m4 sm w
              · rw [PX, (mh.g q2).2.2.2.2.2.2.1, qbind, q2.atW mh.2.1 (by decide) (by decide) (by omega), qbind, e34 k hk]
              · rw [PM, m4.g67.1, qbind, m4.atW v.1 (by decide) (by decide) (by omega), qbind, ev k hk]
        · rcases F4 with ⟨g1, g2⟩ | ⟨r', g1, -, g3, -⟩
          · refine qStep.mk (r := -2) (h1 := h2) (h2 := h4) ?_ q2 s2' ?_ m4 sm w
            · unfold f_X8_image
              rw [q.is, qbind, l1, qbind, k1, qbind, if_neg qne, if_neg qne, l3, qbind, if_neg q10, cm, qbind, qif1, g33 q, qbind, f2, qbind, if_pos rfl]
            · unfold f_X9_image
              rw [mb2.is, qbind, lm, qbind, if_neg q10, m_tab_yes mb2 hm2 w ⟨h6', hy2, h0'⟩, qbind, if_neg q10, hx2, hy2, p3, qbind]
              show (if qB2I true = 0 then _ else _) = _
              rw [qif1, show f_X9_finds (some 51) (nI t) (nI u) 0 h3 = some (0, h4) from g1, qbind, if_pos rfl]
          · rw [f1] at g3; cases g3
