/-! PURE: counted loops as folds -/
def qFo {S : Type} (g : Nat → S → S) : Nat → S → S
  | 0, s => s
  | n + 1, s => g n (qFo g n s)
theorem qLoop2 {S R : Type} {b : S × Int32 → Option ((S × Int32) ⊕ R)} (g : Nat → S → S) (n : Nat) (s0 : S) (e : S → R) (hs : ∀ k s, k < n → b (s, nI k) = some (.inl (g k s, nI (k + 1)))) (he : ∀ s, b (s, nI n) = some (.inr (e s))) : mLoop b (s0, nI 0) = some (e (qFo g n s0)) :=
  mLoop_ends (fun k => (qFo g k s0, nI k)) n _ (fun k hk => hs k _ hk) (he _)
/-- which of the two: a table, as both sides ask for it -/
theorem qTb2 {h : mH} {A : qA} (I : qI h A) (x : Int32) :
    (f_X8_tableAt (some 1) x h = some none ∧ f_X9_isTable (some 51) x h = some 0) ∨ ∃ t, qYes A x t ∧ f_X8_tableAt (some 1) x h = some (some (3 + 4 * t)) ∧ f_X9_isTable (some 51) x h = some 1 := by
  obtain ⟨q, m, w⟩ := I
  obtain ⟨x0, y0, fo, fr, ff, fg, fw, mb, hm⟩ := m.b
  rcases qNoYes A x with hx | ⟨t, hx⟩
  · exact Or.inl ⟨x_tab_no q w hx, m_tab_no mb hm hx⟩
  · exact Or.inr ⟨t, hx, x_tab_yes q w hx, m_tab_yes mb hm w hx⟩
theorem op_sum {h : mH} {A : qA} (I : qI h A) (x : Int32) : ∃ r, f_X8_sum (some 1) x h = some r ∧ f_X9_sum (some 51) x h = some r := by
  have L := qTb2 I x
  obtain ⟨q, m, w⟩ := I
  obtain ⟨x0, y0, fo, fr, ff, fg, fw, mb, hm⟩ := m.b
  unfold f_X8_sum f_X9_sum
  rw [q.is, qbind, mb.is, qbind]
  rcases L with ⟨l1, l2⟩ | ⟨t, hx, l1, l2⟩
  · exact ⟨-1000, by rw [l1, qbind, if_pos rfl], by rw [l2, qbind, if_pos rfl]⟩
  · obtain ⟨bk, bs, bc, ra, rb, fr', fa, fb, hT, hs⟩ := q.2.2.2.1 t hx.1
    have wt := w.1 t hx.1
    have h6 := hx.1
    have hn := wt.1
    rw [l1, qbind, if_neg qne, l2, qbind, if_neg q10, hx.2.1]
    refine ⟨qFo (fun k s => s + (nI (A.1 t).1 - nI (2 * qp ((A.1 t).2.1 k)))) (A.1 t).1 0, ?_, ?_⟩
    · unfold f_X8_sum_l19
      refine qLoop2 _ (A.1 t).1 0 id (fun k s hk => ?_) (fun s => ?_)
      · show f_X8_sum_b19 _ _ _ _ = _
        unfold f_X8_sum_b19
        have hr := q31 hn (wt.2.1 k hk)
        rw [hT.size, qbind, if_neg (by rw [qle (by omega) (by omega)]; omega), hT.rows, qbind, hT.row (by omega), qbind, qbind, hs.1 k hk, x_signSum (by omega), qbind, nI_1]
      · show f_X8_sum_b19 _ _ _ _ = _
        unfold f_X8_sum_b19
        rw [hT.size, qbind, if_pos (by rw [qle (by omega) (by omega)]; omega)]; rfl
    · unfold f_X9_sum_l16
      refine qLoop2 _ (A.1 t).1 0 id (fun k s hk => ?_) (fun s => ?_)
      · show f_X9_sum_b16 _ _ _ _ _ = _
        unfold f_X9_sum_b16
        have hr := q31 hn (wt.2.1 k hk)
        rw [mb.orders, qbind, mb.order h6, qbind, (hm t h6).1, if_neg (by rw [qle (by omega) (by omega)]; omega), m_rowOf mb (hm t h6) h6 wt hk, qbind, qbind, mb.order h6, qbind, (hm t h6).1, qI_zero, m_sumOf (by rw [Nat.xor_zero]; omega), qbind, nI_1, Nat.xor_zero]
      · show f_X9_sum_b16 _ _ _ _ _ = _
        unfold f_X9_sum_b16
        rw [mb.orders, qbind, mb.order h6, qbind, (hm t h6).1, if_pos (by rw [qle (by omega) (by omega)]; omega)]; rfl
/-- the spectrum at a row -/
def qSp (A : qA) (t i : Nat) : Int32 := qFo (fun k s => s + (if ((A.1 t).2.1 i).testBit k then -(A.2.2 k) else A.2.2 k)) (A.1 t).1 0
theorem x_rowSpectrum {h : mH} {A : qA} (q : qX h A) (w : qWA A) {t : Nat} (h6 : t < 6) {i : Nat} (hi : i < (A.1 t).1) : f_X8_rowSpectrum (some 1) (some (3 + 4 * t)) (nI i) h = some (qSp A t i) := by
  obtain ⟨bk, bs, bc, ra, rb, fr', fa, fb, hT, hs⟩ := q.2.2.2.1 t h6
  obtain ⟨g, g1, g2⟩ := q.2.2.2.2.2.1
  have wt := w.1 t h6
  have hn := wt.1
  have hr := q31 hn (wt.2.1 i hi)
  unfold f_X8_rowSpectrum f_X8_rowSpectrum_l5
  rw [q.is, qbind]
  have hnum : mGR h (some 1) 7 3 = some (some 28) := qGR (by rw [q.1]; decide) q.2.1 rfl
  refine qLoop2 (fun k s => s + (if ((A.1 t).2.1 i).testBit k then -(A.2.2 k) else A.2.2 k)) (A.1 t).1 0 id (fun k s hk => ?_) (fun s => ?_)
  · show f_X8_rowSpectrum_b5 _ _ _ _ _ _ = _
    unfold f_X8_rowSpectrum_b5 f_X8_rowSpectrum_c43
    rw [hT.size, qbind, if_neg (by rw [qle (by omega) (by omega)]; omega), x_isMinus hT (by omega) (by omega) (hs.1 i hi) (by omega), qbind, nI_1]
    cases ((A.1 t).2.1 i).testBit k
    · rw [qif0, hnum, qbind, qAI (by rw [q.1]; decide) g1 (by decide) (by omega), qbind, g2 k (by omega)]; rfl
    · rw [qif1, hnum, qbind, qAI (by rw [q.1]; decide) g1 (by decide) (by omega), qbind, g2 k (by omega)]; rfl
  · show f_X8_rowSpectrum_b5 _ _ _ _ _ _ = _
    unfold f_X8_rowSpectrum_b5
    rw [hT.size, qbind, if_pos (by rw [qle (by omega) (by omega)]; omega)]; rfl
theorem m_spectrumAt {h : mH} {A : qA} (m : qM h A) (w : qWA A) {t : Nat} (h6 : t < 6) {i : Nat} (hi : i < (A.1 t).1) : f_X9_spectrumAt (some 51) (nI t) (nI i) h = some (qSp A t i) := by
  obtain ⟨x0, y0, fo, fr, ff, fg, fw, mb, hm⟩ := m.b
  obtain ⟨g, g1, g2⟩ := m.2.2.2.2.1
  have wt := w.1 t h6
  have hn := wt.1
  unfold f_X9_spectrumAt f_X9_spectrumAt_l5
  rw [mb.is, qbind]
  have hnum : mGR h (some 51) 8 23 = some (some 71) := qGR (mb.le (by decide)) mb.2.1 rfl
  refine qLoop2 (fun k s => s + (if ((A.1 t).2.1 i).testBit k then -(A.2.2 k) else A.2.2 k)) (A.1 t).1 0 id (fun k s hk => ?_) (fun s => ?_)
  · show f_X9_spectrumAt_b5 _ _ _ _ _ _ = _
    unfold f_X9_spectrumAt_b5 f_X9_spectrumAt_c46
    rw [mb.orders, qbind, mb.order h6, qbind, (hm t h6).1, if_neg (by rw [qle (by omega) (by omega)]; omega), m_isMinus mb (hm t h6) h6 wt hi (by omega), qbind, nI_1]
    cases ((A.1 t).2.1 i).testBit k
    · rw [qif0, hnum, qbind, qAI (mb.le (by decide)) g1 (by decide) (by omega), qbind, g2 k (by omega)]; rfl
    · rw [qif1, hnum, qbind, qAI (mb.le (by decide)) g1 (by decide) (by omega), qbind, g2 k (by omega)]; rfl
  · show f_X9_spectrumAt_b5 _ _ _ _ _ _ = _
    unfold f_X9_spectrumAt_b5
    rw [mb.orders, qbind, mb.order h6, qbind, (hm t h6).1, if_pos (by rw [qle (by omega) (by omega)]; omega)]; rfl
theorem op_spectrum {h : mH} {A : qA} (I : qI h A) (x i : Int32) (back : Bool) : ∃ r, f_X8_spectrum (some 1) x i (qB2I back) h = some r ∧ f_X9_spectrum (some 51) x i (qB2I back) h = some r := by
  have L := qLn2 I x i
  obtain ⟨q, m, w⟩ := I
  obtain ⟨x0, y0, fo, fr, ff, fg, fw, mb, hm⟩ := m.b
  unfold f_X8_spectrum f_X9_spectrum
  rw [q.is, qbind, mb.is, qbind]
  rcases L with ⟨l1, l2, -⟩ | ⟨t, hx, l1, -, l3, l4⟩ | ⟨t, k, hx, hk, rfl, l1, -, l3, l4⟩
  · exact ⟨-1000000000, by rw [l1, qbind, if_pos rfl]; rfl, by rw [l2, qbind, if_pos rfl]⟩
  · exact ⟨-1000000000, by rw [l1, qbind, if_neg qne, l3, qbind, if_pos rfl]; rfl, by rw [l4, qbind, if_pos rfl]⟩
  · obtain ⟨bk, bs, bc, ra, rb, fr', fa, fb, hT, hs⟩ := q.2.2.2.1 t hx.1
    have wt := w.1 t hx.1
    have h6 := hx.1
    have hn := wt.1
    rw [l1, qbind, if_neg qne, l3, qbind, if_neg q10, l4, qbind, if_neg q10, hx.2.1]
    cases back
    · exact ⟨qSp A t k, by rw [qif0, x_rowSpectrum q w h6 hk, qbind], by rw [qif0, m_spectrumAt m w h6 hk, qbind]⟩
    · refine ⟨qFo (fun r s => s + (if ((A.1 t).2.1 r).testBit k then -(qSp A t r) else qSp A t r)) (A.1 t).1 0, ?_, ?_⟩
      · rw [qif1]
        unfold f_X8_spectrum_l43
        refine qLoop2 _ (A.1 t).1 0 id (fun r s hr => ?_) (fun s => ?_)
        · show f_X8_spectrum_b43 _ _ _ _ _ _ = _
          unfold f_X8_spectrum_b43 f_X8_spectrum_c84
          have hr2 := q31 hn (wt.2.1 r hr)
          rw [hT.size, qbind, if_neg (by rw [qle (by omega) (by omega)]; omega), x_rowSpectrum q w h6 hr, qbind, x_isMinus hT (by omega) (by omega) (hs.1 r hr) (by omega), qbind, nI_1]
          cases ((A.1 t).2.1 r).testBit k
          · rw [qif0]; rfl
          · rw [qif1]; rfl
        · show f_X8_spectrum_b43 _ _ _ _ _ _ = _
          unfold f_X8_spectrum_b43
          rw [hT.size, qbind, if_pos (by rw [qle (by omega) (by omega)]; omega)]; rfl
      · rw [qif1]
        unfold f_X9_spectrum_l30
        refine qLoop2 _ (A.1 t).1 0 id (fun r s hr => ?_) (fun s => ?_)
        · show f_X9_spectrum_b30 _ _ _ _ _ _ = _
          unfold f_X9_spectrum_b30 f_X9_spectrum_c72
          rw [mb.orders, qbind, mb.order h6, qbind, (hm t h6).1, if_neg (by rw [qle (by omega) (by omega)]; omega), m_isMinus mb (hm t h6) h6 wt hr (by omega), qbind, nI_1]
          cases ((A.1 t).2.1 r).testBit k
          · rw [qif0, m_spectrumAt m w h6 hr, qbind]; rfl
          · rw [qif1, m_spectrumAt m w h6 hr, qbind]; rfl
        · show f_X9_spectrum_b30 _ _ _ _ _ _ = _
          unfold f_X9_spectrum_b30
          rw [mb.orders, qbind, mb.order h6, qbind, (hm t h6).1, if_pos (by rw [qle (by omega) (by omega)]; omega)]; rfl
