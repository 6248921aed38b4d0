/-! PURE: four, the model's side -/
theorem qBl_lt : ∀ k, k < 16 → [0, 1, 2, 3, 1, 0, 3, 2, 2, 3, 0, 1, 3, 2, 1, 0].getD k 0 < 4 := by decide
theorem qBt_lt : ∀ k, k < 16 → [0, 0, 0, 0, 1, 0, 1, 0, 1, 0, 0, 1, 1, 1, 0, 0].getD k 0 < 2 := by decide
theorem qMf61 : qMf 61 4 := by unfold qMf; decide
theorem m_laysFour {h : mH} {A : qA} {wd : Nat → Nat} {n : Nat} (m : qM h A) (h1 : 1 ≤ n) (hn : n ≤ 7) (hw : ∀ k, k < 4 → wd k < 2 ^ n) {f4 : Nat → Int32} (e61 : h.2 61 = .inl (4, .inl f4)) (f4e : ∀ k, k < 4 → f4 k = nI (wd k)) : ∃ h', f_X9_laysFour (some 51) (nI n) h = some h' ∧ qM h' A ∧ qSame (fun k => k = 58) h h' ∧ qMd h' (qGr (qFP wd n) (4 * n) (4 * n) 0) := by
  obtain ⟨hc, pc, mc, sc, gc, gc1, gc2⟩ := m_clears m
  have e61' : hc.2 61 = .inl (4, .inl f4) := (sc.2 61 (by decide)).trans e61
  unfold f_X9_laysFour
  rw [m.is, qbind, pc, qbind]
  unfold f_X9_laysFour_l6
  have e4n : (4 : Int32) * nI n = nI (4 * n) := by rw [show (4 : Int32) = nI 4 from rfl, qI_mul]
  refine m_grid (h := hc) (A := A) (bi := fun i => fun x : Int32 × mH => f_X9_laysFour_b15 (some 51) (nI n) (nI i) x.1 x.2) (qGr (qFP wd n) (4 * n)) (4 * n) (4 * n) (fun h' : mH => qM h' A ∧ qSame (fun k => k = 58) h h' ∧ qMd h' (qGr (qFP wd n) (4 * n) (4 * n) 0)) (fun i _ => qGr_next _ _ i) ?_ ?_ ?_ mc (by rw [qGr_0]; exact ⟨gc, gc1, gc2⟩) ?_
  · intro i h' hi m'
    show f_X9_laysFour_b6 (some 51) (nI n) (nI i) h' = _
    unfold f_X9_laysFour_b6
    rw [e4n, if_neg (by rw [qle (by omega) (by omega)]; omega)]
    rfl
  · intro i j h' hi hj m' s' d'
    obtain ⟨x0, y0, fo, fr, ff, fg, fw, mb, hm⟩ := m'.b
    obtain ⟨h2, p2, m2, d2, s2⟩ := m_lays m' d' (i := i) (j := j) (by omega) (by omega) (qFP wd n i j)
    rw [qGr_step] at d2
    refine ⟨h2, ?_, m2, d2, s2⟩
    show f_X9_laysFour_b15 (some 51) (nI n) (nI i) (nI j) h' = _
    have hz : ¬ nI n = 0 := by rw [qI_zero, qeq (by omega) (by decide)]; omega
    have hdi : i / n < 4 := Nat.div_lt_of_lt_mul (by rw [Nat.mul_comm]; exact hi)
    have hdj : j / n < 4 := Nat.div_lt_of_lt_mul (by rw [Nat.mul_comm]; exact hj)
    have hmi : i % n < n := Nat.mod_lt _ (by omega)
    have hmj : j % n < n := Nat.mod_lt _ (by omega)
    have hmm : (j % n + n - i % n) % n < n := Nat.mod_lt _ (by omega)
    have E61 : h'.2 61 = .inl (4, .inl f4) := (s'.2 61 (by decide)).trans e61'
    obtain ⟨f9, E59, T9⟩ := m'.2.2.2.2.2.2.1
    obtain ⟨f0, E60, T0⟩ := m'.2.2.2.2.2.2.2.1
    have g61 : mGR h' (some 51) 8 11 = some (some 61) := qGR (mb.le (by decide)) mb.2.1 rfl
    have g59 : mGR h' (some 51) 8 9 = some (some 59) := qGR (mb.le (by decide)) mb.2.1 rfl
    have g60 : mGR h' (some 51) 8 10 = some (some 60) := qGR (mb.le (by decide)) mb.2.1 rfl
    have t9 : f9 (4 * (i / n) + j / n) = nI (qBl (i / n) (j / n)) := T9 _ (by show 4 * (i / n) + j / n < 16; omega)
    have t0 : f0 (4 * (i / n) + j / n) = nI (qBt (i / n) (j / n)) := T0 _ (by show 4 * (i / n) + j / n < 16; omega)
    have lb : qBl (i / n) (j / n) < 4 := qBl_lt _ (by omega)
    have lt : qBt (i / n) (j / n) < 2 := qBt_lt _ (by omega)
    have lw := q31 (by omega : n ≤ 28) (hw _ lb)
    unfold f_X9_laysFour_b15
    rw [e4n, if_neg (by rw [qle (by omega) (by omega)]; omega), if_neg hz, if_neg hz, g61, qbind, g59, qbind, qI_div (by omega) (by omega) (by omega), qI_div (by omega) (by omega) (by omega), show (4 : Int32) = nI 4 from rfl, qI_mul, qI_add, m'.atW E59 (by decide) (by decide) (by omega), qbind, t9, m'.atW E61 (by decide) (by decide) lb, qbind, f4e _ lb, if_neg hz, if_neg hz, if_neg hz, qI_rem (by omega) (by omega) (by omega), qI_rem (by omega) (by omega) (by omega), qI_sa (by omega), qI_rem (by omega) (by omega) (by omega), m_has (by omega) (by omega), qbind, g60, qbind, m'.atW E60 (by decide) (by decide) (by omega), qbind, t0]
    unfold f_X9_laysFour_c78 f_X9_laysFour_c86
    unfold qFP at p2
    have i1 : nI (qBt (i / n) (j / n)) = 1 ↔ qBt (i / n) (j / n) = 1 := by rw [qI_one, qeq (by omega) (by decide)]
    by_cases hb : qBt (i / n) (j / n) = 1
    · rw [if_pos (i1.mpr hb)]
      rw [decide_eq_true hb] at p2
      cases hc2 : (wd (qBl (i / n) (j / n))).testBit ((j % n + n - i % n) % n) <;> rw [hc2] at p2
      · rw [if_neg (by decide), show f_X9_lays (some 51) (nI i) (nI j) 1 h' = some h2 from p2, qbind, nI_1]
      · rw [if_pos (show qB2I true = 1 from rfl), show f_X9_lays (some 51) (nI i) (nI j) 0 h' = some h2 from p2, qbind, nI_1]
    · rw [if_neg (fun z => hb (i1.mp z))]
      rw [decide_eq_false hb] at p2
      cases hc2 : (wd (qBl (i / n) (j / n))).testBit ((j % n + n - i % n) % n) <;> rw [hc2] at p2
      · rw [if_pos (show qB2I false = 0 from rfl), show f_X9_lays (some 51) (nI i) (nI j) 0 h' = some h2 from p2, qbind, nI_1]
      · rw [if_neg (by decide), show f_X9_lays (some 51) (nI i) (nI j) 1 h' = some h2 from p2, qbind, nI_1]
  · intro i h' hi
    show f_X9_laysFour_b15 (some 51) (nI n) (nI i) (nI (4 * n)) h' = _
    unfold f_X9_laysFour_b15
    rw [e4n, if_pos (by rw [qle (by omega) (by omega)]; omega), nI_1]
  · intro h' m' s' d'
    refine ⟨h', ?_, m', sc.trans s', d'⟩
    show f_X9_laysFour_b6 (some 51) (nI n) (nI (4 * n)) h' = _
    unfold f_X9_laysFour_b6
    rw [e4n, if_pos (by rw [qle (by omega) (by omega)]; omega)]
/-- a word of n signs, asked of both -/
theorem qWd2 {n : Nat} (hn : n ≤ 28) (y : Int32) : (f_X8_isWord y (nI n) = some 0 ∧ f_X9_isRow y (nI n) = some 0) ∨ ∃ a, a < 2 ^ n ∧ y = nI a ∧ f_X8_isWord y (nI n) = some 1 ∧ f_X9_isRow y (nI n) = some 1 := by
  rcases qarg y with hy | ⟨a, ha, rfl⟩
  · exact Or.inl ⟨x_isWord_neg hy _, m_isRow_neg hy _⟩
  · have e1 := x_isWord ha hn
    have e2 := m_isRow ha hn
    by_cases h3 : a < 2 ^ n
    · rw [decide_eq_true h3] at e1 e2
      exact Or.inr ⟨a, h3, rfl, e1, e2⟩
    · rw [decide_eq_false h3] at e1 e2
      exact Or.inl ⟨e1, e2⟩
theorem op_four {h : mH} {A : qA} (I : qI h A) (x y0 y1 y2 y3 : Int32) : qStep (f_X8_four (some 1) x y0 y1 y2 y3) (f_X9_four (some 51) x y0 y1 y2 y3) h := by
  have I0 := I
  obtain ⟨q, m, w⟩ := I
  have hx : (x < 1 ∨ ¬ x ≤ 7) ∧ f_X9_in x 1 7 = some 0 ∨ ∃ n, 1 ≤ n ∧ n ≤ 7 ∧ x = nI n ∧ f_X9_in x 1 7 = some 1 := by
    rcases qarg x with hx | ⟨n, hn, rfl⟩
    · have : x < 1 := Int32.lt_trans hx (by decide)
      refine Or.inl ⟨Or.inl this, ?_⟩
      rw [m_in, decide_eq_false (fun z => z.1 this)]; rfl
    · by_cases h1 : n < 1
      · have : nI n < 1 := by rw [qI_one, qlt (by omega) (by decide)]; exact h1
        refine Or.inl ⟨Or.inl this, ?_⟩
        rw [m_in, decide_eq_false (fun z => z.1 this)]; rfl
      · by_cases h2 : n ≤ 7
        · refine Or.inr ⟨n, by omega, h2, rfl, ?_⟩
          rw [m_in, decide_eq_true ⟨by rw [qI_one, qlt (by omega) (by decide)]; exact h1, by rw [show (7 : Int32) = nI 7 from rfl, qlt (by decide) (by omega)]; omega⟩]; rfl
        · refine Or.inl ⟨Or.inr (by rw [show (7 : Int32) = nI 7 from rfl, qle hn (by decide)]; exact h2), ?_⟩
          rw [m_in, decide_eq_false (fun z => z.2 (by rw [show (7 : Int32) = nI 7 from rfl, qlt (by decide) hn]; omega))]; rfl
  rcases hx with ⟨hx, i1⟩ | ⟨n, h1, h2, rfl, i1⟩
  · refine qStep.none (r := -1) I0 ?_ ?_
    · unfold f_X8_four
      rcases qFr_or A with hf | ⟨t, hf⟩
      · rw [q.is, qbind, x_empty_no q w hf, qbind, if_pos rfl]
      · rw [q.is, qbind, x_empty_yes q w hf, qbind, if_neg (qnm1 hf.1)]
        by_cases h3 : x < 1
        · rw [if_pos h3]
        · rw [if_neg h3, if_neg (by rcases hx with z | z; exact absurd z h3; exact z)]
    · unfold f_X9_four; rw [m.is, qbind, i1, qbind, if_pos rfl]
  · have z1 : ¬ nI n < 1 := by rw [qI_one, qlt (by omega) (by decide)]; omega
    have z2 : nI n ≤ 7 := by rw [show (7 : Int32) = nI 7 from rfl, qle (by omega) (by decide)]; exact h2
    have B : ∀ y, ∃ b : Bool, f_X8_isWord y (nI n) = some (qB2I b) ∧ f_X9_isRow y (nI n) = some (qB2I b) ∧ (b = true → ∃ a, a < 2 ^ n ∧ y = nI a) := by
      intro y
      rcases qWd2 (by omega : n ≤ 28) y with ⟨e1, e2⟩ | ⟨a, ha, e0, e1, e2⟩
      · exact ⟨false, e1, e2, fun z => absurd z (by decide)⟩
      · exact ⟨true, e1, e2, fun _ => ⟨a, ha, e0⟩⟩
    obtain ⟨b0, u0, v0, w0⟩ := B y0
    obtain ⟨b1, u1, v1, w1⟩ := B y1
    obtain ⟨b2, u2, v2, w2⟩ := B y2
    obtain ⟨b3, u3, v3, w3⟩ := B y3
    by_cases hall : b0 = true ∧ b1 = true ∧ b2 = true ∧ b3 = true
    · obtain ⟨rfl, rfl, rfl, rfl⟩ := hall
      obtain ⟨a0, k0, rfl⟩ := w0 rfl
      obtain ⟨a1, k1, rfl⟩ := w1 rfl
      obtain ⟨a2, k2, rfl⟩ := w2 rfl
      obtain ⟨a3, k3, rfl⟩ := w3 rfl
      rcases qFr_or A with hf | ⟨t, hf⟩
      · refine qStep.none (r := -1) I0 ?_ ?_
        · unfold f_X8_four; rw [q.is, qbind, x_empty_no q w hf, qbind, if_pos rfl]
        · unfold f_X9_four; rw [m.is, qbind, i1, qbind, if_neg q10, v0, qbind, qif1, v1, qbind, qif1, v2, qbind, qif1, v3, qbind, qif1, m_full_no m w hf, qbind, if_neg q10]
      · have h6 := hf.1
        have hw : ∀ k, k < 4 → (fun k => if k = 0 then a0 else if k = 1 then a1 else if k = 2 then a2 else a3) k < 2 ^ n := by
          intro k hk
          have : k = 0 ∨ k = 1 ∨ k = 2 ∨ k = 3 := by omega
          rcases this with rfl | rfl | rfl | rfl
          · exact k0
          · exact k1
          · exact k2
          · exact k3
        generalize hwd : (fun k => if k = 0 then a0 else if k = 1 then a1 else if k = 2 then a2 else a3 : Nat → Nat) = wd at hw
        have d0 : wd 0 = a0 := by rw [← hwd]; rfl
        have d1 : wd 1 = a1 := by rw [← hwd]; rfl
        have d2 : wd 2 = a2 := by rw [← hwd]; rfl
        have d3 : wd 3 = a3 := by rw [← hwd]; rfl
        obtain ⟨h1', h2', p1, p2, t2, s2⟩ := x_four (q.2.2.2.1 t h6) h1 h2 hw
        rw [d0, d1, d2, d3] at p2
        have e1 : f_X8_four (some 1) (nI n) (nI a0) (nI a1) (nI a2) (nI a3) h = some (nI t, h2') := by
          unfold f_X8_four; rw [q.is, qbind, x_empty_yes q w hf, qbind, if_neg (qnm1 hf.1), if_neg z1, if_pos z2, u0, qbind, qif1, u1, qbind, qif1, u2, qbind, qif1, u3, qbind, qif1, q.shelf, qbind, q.at h6, qbind, p1, qbind, p2]
        have s2' := s2.mono (qIs4.cx h6)
        have m1 := m.same s2'
        have G61 : ∀ {h'}, qM h' A → mGR h' (some 51) 8 11 = some (some 61) := fun m' => by
          obtain ⟨x0, y0, fo, fr, ff, fg, fw, mb, hm⟩ := m'.b
          exact qGR (mb.le (by decide)) mb.2.1 rfl
        obtain ⟨f0, e0⟩ := m1.2.2.2.2.2.2.2.2.1
        obtain ⟨ha, pa, ma, ea, sa⟩ := m_stW m1 qMf61 e0 (i := 0) (by decide) (nI a0)
        obtain ⟨hb, pb, mb', eb, sb⟩ := m_stW ma qMf61 ea (i := 1) (by decide) (nI a1)
        obtain ⟨hc, pc, mc, ec, sc⟩ := m_stW mb' qMf61 eb (i := 2) (by decide) (nI a2)
        obtain ⟨hd, pd, md, ed, sd⟩ := m_stW mc qMf61 ec (i := 3) (by decide) (nI a3)
        obtain ⟨h3, p3, m3, s3, dd⟩ := m_laysFour md h1 h2 hw ed (fun k hk => by
          have : k = 0 ∨ k = 1 ∨ k = 2 ∨ k = 3 := by omega
          rcases this with rfl | rfl | rfl | rfl
          · rw [qUpn (by decide), qUpn (by decide), qUpn (by decide), qUps, d0]
          · rw [qUpn (by decide), qUpn (by decide), qUps, d1]
          · rw [qUpn (by decide), qUps, d2]
          · rw [qUps, d3])
        obtain ⟨f5, f51, f52⟩ := dd
        obtain ⟨h4, p4, m4, s4⟩ := m_comes m3 w f51 (n := 4 * n) (by omega) (R := fun r => qW (4 * n) (qFP wd n r)) (fun i hi => by rw [f52 i (by omega), qGr_end _ hi]) hf
        have pa' : mSI h2' (some 61) 0 (nI a0) = some ha := pa
        have pb' : mSI ha (some 61) 1 (nI a1) = some hb := pb
        have pc' : mSI hb (some 61) 2 (nI a2) = some hc := pc
        have pd' : mSI hc (some 61) 3 (nI a3) = some hd := pd
        have e2 : f_X9_four (some 51) (nI n) (nI a0) (nI a1) (nI a2) (nI a3) h2' = some (nI t, h4) := by
          unfold f_X9_four
          rw [m1.is, qbind, i1, qbind, if_neg q10, v0, qbind, qif1, v1, qbind, qif1, v2, qbind, qif1, v3, qbind, qif1, m_full_yes m1 w hf, qbind, if_pos rfl, G61 m1, qbind, pa', qbind, G61 ma, qbind, pb', qbind, G61 mb', qbind, pc', qbind, G61 mc, qbind, pd', qbind, p3, qbind, show (4 : Int32) = nI 4 from rfl, qI_mul, p4, qbind]
        have c61 : ∀ {h h' : mH}, qSame (fun k => k = 61) h h' → qSame qCM h h' := fun s => s.mono fun k z => by unfold qCM; omega
        exact qStep.mk e1 (q.tab h6 s2 t2) s2' e2 m4 ((((((c61 sa).trans (c61 sb)).trans (c61 sc)).trans (c61 sd)).trans (s3.mono fun k z => by unfold qCM; omega)).trans (s4.mono qC5.cm)) (w.tab (qNew_w (by omega) fun i _ => qW_lt _ _))
    · refine qStep.none (r := -1) I0 ?_ ?_
      · unfold f_X8_four
        rcases qFr_or A with hf | ⟨t, hf⟩
        · rw [q.is, qbind, x_empty_no q w hf, qbind, if_pos rfl]
        · rw [q.is, qbind, x_empty_yes q w hf, qbind, if_neg (qnm1 hf.1), if_neg z1, if_pos z2, u0, qbind]
          cases b0
          · rw [qif0]
          · rw [qif1, u1, qbind]
            cases b1
            · rw [qif0]
            · rw [qif1, u2, qbind]
              cases b2
              · rw [qif0]
              · rw [qif1, u3, qbind]
                cases b3
                · rw [qif0]
                · exact absurd ⟨rfl, rfl, rfl, rfl⟩ hall
      · unfold f_X9_four
        rw [m.is, qbind, i1, qbind, if_neg q10, v0, qbind]
        cases b0
        · rw [qif0]
        · rw [qif1, v1, qbind]
          cases b1
          · rw [qif0]
          · rw [qif1, v2, qbind]
            cases b2
            · rw [qif0]
            · rw [qif1, v3, qbind]
              cases b3
              · rw [qif0]
              · exact absurd ⟨rfl, rfl, rfl, rfl⟩ hall
