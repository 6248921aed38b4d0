/-! PURE: take, copy -/
theorem qLeast (P : Nat → Prop) (n : Nat) : (∀ i, i < n → P i) ∨ ∃ k, k < n ∧ ¬ P k ∧ ∀ i, i < k → P i := by
  induction n with
  | zero => exact Or.inl fun i hi => absurd hi (Nat.not_lt_zero i)
  | succ n ih =>
    rcases ih with h1 | ⟨k, hk, h1, h2⟩
    · by_cases h0 : P n
      · refine Or.inl fun i hi => ?_
        by_cases hin : i = n
        · rw [hin]; exact h0
        · exact h1 i (by omega)
      · exact Or.inr ⟨n, by omega, h0, h1⟩
    · exact Or.inr ⟨k, by omega, h1, h2⟩
theorem x_layRows {h : mH} {t : Nat} {T : qT} (q : qXt h t T) {a : Nat} {f : Nat → Int32} (ha : h.2 a = .inl (28, .inl f)) (ha1 : a ≤ 72) (ha2 : ¬ qIs4 t a) {n : Nat} {R : Nat → Nat} (hn : n ≤ 28) (hR : ∀ i, i < n → f i = nI (R i)) : ∃ h', f_X7_layRows (some (3 + 4 * t)) (some a) (nI n) h = some h' ∧ qXt h' t (qNew n R) ∧ qSame (qIs4 t) h h' := by
  obtain ⟨h1, fr1, p1, b1, z1, s1⟩ := x_begin q n
  obtain ⟨bk, bs, bc, ra, rb, fr, fa, fb, hT, hs⟩ := q
  unfold f_X7_layRows
  rw [hT.is, qbind, p1, qbind]
  unfold f_X7_layRows_l7
  refine mLoop_inv (b := fun x : Int32 × mH => f_X7_layRows_b7 (some (3 + 4 * t)) (some a) (nI n) x.1 x.2) (fun k (s : Int32 × mH) => s.1 = nI k ∧ qSame (qIs4 t) h s.2 ∧ ∃ fr', qBg s.2 t n fr' ∧ ∀ i, i < k → fr' i = nI (R i)) n (fun h' => qXt h' t (qNew n R) ∧ qSame (qIs4 t) h h') (s0 := (nI 0, h1)) ⟨rfl, s1, fr1, b1, fun i hi => absurd hi (Nat.not_lt_zero i)⟩ ?_ ?_
  · rintro k ⟨ik, hk⟩ hkn ⟨rfl, sk, fr2, b2, o2⟩
    obtain ⟨h3, p3, b3, s3⟩ := qBg.st (h := hk) b2 (i := k) (by omega) (nI (R k))
    have e : hk.2 a = .inl (28, .inl f) := (sk.2 a ha2).trans ha
    have l : a ≤ hk.1 := by rw [show hk.1 = h.1 from sk.1, hT.2.1]; exact ha1
    refine ⟨(nI (k + 1), h3), ?_, rfl, sk.trans s3, _, b3, fun i hi => ?_⟩
    · show f_X7_layRows_b7 (some (3 + 4 * t)) (some a) (nI n) (nI k) hk = _
      unfold f_X7_layRows_b7
      rw [if_neg (by rw [qle (by omega) (by omega)]; omega), qLn l e, qbind, if_neg (by rw [qle (by omega) (by omega)]; omega), qBg.rows (h := hk) b2, qbind, qAI l e (by decide) (by omega), qbind, hR k hkn, p3, qbind, nI_1]
    · by_cases hik : i = k
      · rw [hik, qUps]
      · rw [qUpn hik]; exact o2 i (by omega)
  · rintro ⟨ik, hk⟩ ⟨rfl, sk, fr2, b2, o2⟩
    refine ⟨hk, ?_, b2.fin hn o2, sk⟩
    show f_X7_layRows_b7 (some (3 + 4 * t)) (some a) (nI n) (nI n) hk = _
    unfold f_X7_layRows_b7
    rw [if_pos (by rw [qle (by omega) (by omega)]; omega)]
section QTK
variable {h : mH} {A : qA}
theorem x_fits (q : qX h A) (w : qWA A) {n : Nat} (hn : n ≤ A.2.1.1) (hf : ∀ i, i < n → A.2.1.2 i < 2 ^ A.2.1.1) {r : Int32} (he : f_X8_toldFits_b2 (some 1) (nI A.2.1.1) (nI n) h = some (.inr r)) : f_X8_toldFits (some 1) (nI A.2.1.1) h = some r := by
  obtain ⟨f, f1, f2⟩ := q.2.2.2.2.1
  have hc := w.2.1
  unfold f_X8_toldFits f_X8_toldFits_l2
  rw [q.is, qbind]
  have R := mLoop_inv (b := fun x : Int32 => f_X8_toldFits_b2 (some 1) (nI A.2.1.1) x h) (fun k (s : Int32) => s = nI k) n (fun z => z = r) (s0 := nI 0) rfl ?_ ?_
  · obtain ⟨z, h1, rfl⟩ := R
    exact h1
  · rintro k s hk rfl
    refine ⟨nI (k + 1), ?_, rfl⟩
    have h28 := w.2.2 k (by omega)
    show f_X8_toldFits_b2 (some 1) (nI A.2.1.1) (nI k) h = _
    unfold f_X8_toldFits_b2
    rw [q.told, qbind, if_neg (by rw [qle (by omega) (by omega)]; omega), q.toldA, qbind, qAI (by rw [q.1]; decide) f1 (by decide) (by omega), qbind, f2 k (by omega), x_isWord (by omega) hc, qbind, decide_eq_true (hf k hk), qif1, nI_1]
  · rintro s rfl
    exact ⟨r, he, rfl⟩
theorem m_fits (m : qM h A) (w : qWA A) {n : Nat} (hn : n ≤ A.2.1.1) (hf : ∀ i, i < n → A.2.1.2 i < 2 ^ A.2.1.1) {r : Int32} (he : f_X9_areTold_b2 (some 51) (nI A.2.1.1) (nI n) h = some (.inr r)) : f_X9_areTold (some 51) (nI A.2.1.1) h = some r := by
  obtain ⟨f, f1, f2⟩ := m.2.2.2.1
  obtain ⟨x0, y0, fo, fr, ff, fg, fw, mb, hm⟩ := m.b
  have hc := w.2.1
  unfold f_X9_areTold f_X9_areTold_l2
  rw [mb.is, qbind]
  have R := mLoop_inv (b := fun x : Int32 => f_X9_areTold_b2 (some 51) (nI A.2.1.1) x h) (fun k (s : Int32) => s = nI k) n (fun z => z = r) (s0 := nI 0) rfl ?_ ?_
  · obtain ⟨z, h1, rfl⟩ := R
    exact h1
  · rintro k s hk rfl
    refine ⟨nI (k + 1), ?_, rfl⟩
    have h28 := w.2.2 k (by omega)
    show f_X9_areTold_b2 (some 51) (nI A.2.1.1) (nI k) h = _
    unfold f_X9_areTold_b2
    rw [mb.told, qbind, if_neg (by rw [qle (by omega) (by omega)]; omega), mb.toldA, qbind, qAI (mb.le (by decide)) f1 (by decide) (by omega), qbind, f2 k (by omega), qI_shr (by omega) (by omega), Nat.div_eq_of_lt (hf k hk), if_pos (show nI 0 = 0 from rfl), nI_1]
  · rintro s rfl
    exact ⟨r, he, rfl⟩
theorem fits2 (I : qI h A) : (f_X8_toldFits (some 1) (nI A.2.1.1) h = some 0 ∧ f_X9_areTold (some 51) (nI A.2.1.1) h = some 0) ∨ ((∀ i, i < A.2.1.1 → A.2.1.2 i < 2 ^ A.2.1.1) ∧ f_X8_toldFits (some 1) (nI A.2.1.1) h = some 1 ∧ ∀ {h'}, qM h' A → f_X9_areTold (some 51) (nI A.2.1.1) h' = some 1) := by
  obtain ⟨q, m, w⟩ := I
  obtain ⟨f, f1, f2⟩ := q.2.2.2.2.1
  obtain ⟨g, g1, g2⟩ := m.2.2.2.1
  obtain ⟨x0, y0, fo, fr, ff, fg, fw, mb, hm⟩ := m.b
  have hc := w.2.1
  rcases qLeast (fun i => A.2.1.2 i < 2 ^ A.2.1.1) A.2.1.1 with h1 | ⟨k, hk, h1, h2⟩
  · refine Or.inr ⟨h1, x_fits q w (Nat.le_refl _) h1 ?_, fun {h'} m' => m_fits m' w (Nat.le_refl _) h1 ?_⟩
    · unfold f_X8_toldFits_b2
      rw [q.told, qbind, if_pos (by rw [qle (by omega) (by omega)]; omega)]
    · obtain ⟨x0, y0, fo, fr, ff, fg, fw, mb', hm⟩ := m'.b
      unfold f_X9_areTold_b2
      rw [mb'.told, qbind, if_pos (by rw [qle (by omega) (by omega)]; omega)]
  · have h28 := w.2.2 k hk
    refine Or.inl ⟨x_fits q w (n := k) (by omega) h2 ?_, m_fits m w (n := k) (by omega) h2 ?_⟩
    · unfold f_X8_toldFits_b2
      rw [q.told, qbind, if_neg (by rw [qle (by omega) (by omega)]; omega), q.toldA, qbind, qAI (by rw [q.1]; decide) f1 (by decide) (by omega), qbind, f2 k (by omega), x_isWord (by omega) hc, qbind, decide_eq_false h1, qif0]
    · have hd : 0 < A.2.1.2 k / 2 ^ A.2.1.1 := Nat.div_pos (Nat.le_of_not_lt h1) (Nat.two_pow_pos _)
      have hd2 : A.2.1.2 k / 2 ^ A.2.1.1 ≤ A.2.1.2 k := Nat.div_le_self _ _
      unfold f_X9_areTold_b2
      rw [mb.told, qbind, if_neg (by rw [qle (by omega) (by omega)]; omega), mb.toldA, qbind, qAI (mb.le (by decide)) g1 (by decide) (by omega), qbind, g2 k (by omega), qI_shr (by omega) (by omega), if_neg (by rw [qI_zero, qeq (by omega) (by omega)]; omega)]
/-- nothing told -/
def qTo0 (A : qA) : qA := (A.1, (0, A.2.1.2), A.2.2)
theorem x_take (q : qX h A) (w : qWA A) {t : Nat} (hf : qFr A t) : ∃ h1 h2, f_X7_layRows (some (3 + 4 * t)) (some 27) (nI A.2.1.1) h = some h1 ∧ mPF h1 (some 1) 7 2 (.int 0) = some h2 ∧ qX h2 (qSetT (qTo0 A) t (qNew A.2.1.1 A.2.1.2)) ∧ qSame qCX h h2 := by
  obtain ⟨f, f1, f2⟩ := q.2.2.2.2.1
  have h6 := hf.1
  obtain ⟨h1, p1, t1, s1⟩ := x_layRows (q.2.2.2.1 t h6) f1 (by decide) (by unfold qIs4; omega) w.2.1 f2
  have q1 := q.tab h6 s1 t1
  have o1 : h1.2 1 = _ := q1.2.1
  refine ⟨h1, _, p1, qPF (by rw [q1.1]; decide) o1 (Nat.le_of_ble_eq_true rfl), q1.upd1 (qSame.rf.put (Or.inl rfl) _) rfl (qPutS _) ?_ ?_, (s1.mono (qIs4.cx h6)).put ⟨by decide, by decide⟩ _⟩
  · obtain ⟨g, g1, g2⟩ := q1.2.2.2.2.1
    exact ⟨g, (qPutN _ (by decide)).trans g1, fun i hi => absurd hi (Nat.not_lt_zero i)⟩
  · obtain ⟨g, g1, g2⟩ := q1.2.2.2.2.2.1
    exact ⟨g, (qPutN _ (by decide)).trans g1, g2⟩
theorem m_take (m : qM h A) (w : qWA A) {t : Nat} (hf : qFr A t) : ∃ r, f_X9_take_l33 (some 51) 0 h = some r ∧ r.1 = nI t ∧ qM r.2 (qSetT (qTo0 A) t (qNew A.2.1.1 A.2.1.2)) ∧ qSame qCM h r.2 := by
  obtain ⟨f, hf0⟩ := m.2.2.2.2.2.1
  have hc := w.2.1
  unfold f_X9_take_l33
  refine mLoop_inv (b := fun x : Int32 × mH => f_X9_take_b33 (some 51) x.1 x.2) (fun k (s : Int32 × mH) => s.1 = nI k ∧ qM s.2 A ∧ qSame (fun k => k = 58) h s.2 ∧ ∃ f, s.2.2 58 = .inl (28, .inl f) ∧ ∀ i, i < k → f i = nI (A.2.1.2 i)) A.2.1.1 (fun r : Int32 × mH => r.1 = nI t ∧ qM r.2 (qSetT (qTo0 A) t (qNew A.2.1.1 A.2.1.2)) ∧ qSame qCM h r.2) (s0 := (nI 0, h)) ⟨rfl, m, qSame.rf, f, hf0, fun i hi => absurd hi (Nat.not_lt_zero i)⟩ ?_ ?_
  · rintro k ⟨ik, hk⟩ hkn ⟨rfl, mk, sk, fk, e1, e2⟩
    obtain ⟨x0, y0, fo, fr, ff, fg, fw, mb, hm⟩ := qM.b (h := hk) mk
    obtain ⟨g, g1, g2⟩ := id mk.2.2.2.1
    obtain ⟨h2, p2, m2, e3, s2⟩ := m_stW (h := hk) mk qMf58 e1 (i := k) (by omega) (nI (A.2.1.2 k))
    refine ⟨(nI (k + 1), h2), ?_, rfl, m2, sk.trans s2, _, e3, fun i hi => ?_⟩
    · show f_X9_take_b33 (some 51) (nI k) hk = _
      unfold f_X9_take_b33
      rw [mb.told, qbind, if_neg (by rw [qle (by omega) (by omega)]; omega), qM.made (h := hk) mk, qbind, mb.toldA, qbind, qAI (mb.le (by decide)) g1 (by decide) (by omega), qbind, g2 k hkn, p2, qbind, nI_1]
    · by_cases hik : i = k
      · rw [hik, qUps]
      · rw [qUpn hik]; exact e2 i (by omega)
  · rintro ⟨ik, hk⟩ ⟨rfl, mk', sk, fk, e1', e2⟩
    have mk : qM hk A := mk'
    have e1 : hk.2 58 = .inl (28, .inl fk) := e1'
    obtain ⟨x0, y0, fo, fr, ff, fg, fw, mb, hm⟩ := mk.b
    have p2 := qPF (v := .int 0) (j := 7) (mb.le (by decide)) mb.2.1 (Nat.le_of_ble_eq_true rfl)
    generalize hh : mPut hk 51 _ = h3 at p2
    have s3 : qSame (fun k => k = 51 ∨ k = 57 ∨ k = 71) hk h3 := by rw [← hh]; exact qSame.rf.put (Or.inl rfl) _
    have m3 : qM h3 (qTo0 A) := by
      refine mk.upd1 s3 rfl ⟨x0, y0, by rw [← hh]; exact qPutS _⟩ ?_ ?_
      · obtain ⟨g, g1, g2⟩ := mk.2.2.2.1
        exact ⟨g, by rw [← hh, qPutN _ (by decide)]; exact g1, fun i hi => absurd hi (Nat.not_lt_zero i)⟩
      · obtain ⟨g, g1, g2⟩ := mk.2.2.2.2.1
        exact ⟨g, by rw [← hh, qPutN _ (by decide)]; exact g1, g2⟩
    have w3 : qWA (qTo0 A) := ⟨w.1, by show 0 ≤ 28; decide, fun i hi => absurd hi (Nat.not_lt_zero i)⟩
    obtain ⟨h4, p4, m4, s4⟩ := m_comes m3 w3 ((s3.2 58 (by decide)).trans e1) hc e2 (t := t) hf
    refine ⟨(nI t, h4), ?_, rfl, m4, ((sk.mono fun k z => by unfold qCM; omega).trans (s3.mono fun k z => by unfold qCM; omega)).trans (s4.mono qC5.cm)⟩
    show f_X9_take_b33 (some 51) (nI A.2.1.1) hk = _
    unfold f_X9_take_b33
    rw [mb.told, qbind, if_pos (by rw [qle (by omega) (by omega)]; omega), qbind, p2, qbind, p4, qbind]
end QTK
theorem op_take {h : mH} {A : qA} (I : qI h A) : qStep (f_X8_take (some 1)) (f_X9_take (some 51)) h := by
  have F := fits2 I
  have I0 := I
  obtain ⟨q, m, w⟩ := I
  obtain ⟨x0, y0, fo, fr, ff, fg, fw, mb, hm⟩ := m.b
  have hc := w.2.1
  have z0 : nI A.2.1.1 = 0 ↔ A.2.1.1 = 0 := by rw [qI_zero, qeq (by omega) (by decide)]
  rcases qFr_or A with hf | ⟨t, hf⟩
  · refine qStep.none (r := -1) I0 ?_ ?_
    · unfold f_X8_take; rw [q.is, qbind, x_empty_no q w hf, qbind, if_pos rfl]
    · unfold f_X9_take
      rw [mb.is, qbind, mb.told, qbind]
      by_cases hz : A.2.1.1 = 0
      · rw [if_pos (z0.mpr hz)]
      · rw [if_neg (fun y => hz (z0.mp y)), m_full_no m w hf, qbind, if_neg q10]
  · by_cases hz : A.2.1.1 = 0
    · refine qStep.none (r := -1) I0 ?_ ?_
      · unfold f_X8_take; rw [q.is, qbind, x_empty_yes q w hf, qbind, if_neg (qnm1 hf.1), q.told, qbind, if_pos (z0.mpr hz)]
      · unfold f_X9_take; rw [mb.is, qbind, mb.told, qbind, if_pos (z0.mpr hz)]
    · have hz' : ¬ nI A.2.1.1 = 0 := fun y => hz (z0.mp y)
      rcases F with ⟨g1, g2⟩ | ⟨g0, g1, g2⟩
      · refine qStep.none (r := -1) I0 ?_ ?_
        · unfold f_X8_take; rw [q.is, qbind, x_empty_yes q w hf, qbind, if_neg (qnm1 hf.1), q.told, qbind, if_neg hz', qbind, g1, qbind, if_pos rfl]
        · unfold f_X9_take; rw [mb.is, qbind, mb.told, qbind, if_neg hz', m_full_yes m w hf, qbind, if_pos rfl, qbind, g2, qbind, if_pos rfl]
      · obtain ⟨h1, h2, p1, p2, x2, s2⟩ := x_take q w hf
        have e1 : f_X8_take (some 1) h = some (nI t, h2) := by
          unfold f_X8_take; rw [q.is, qbind, x_empty_yes q w hf, qbind, if_neg (qnm1 hf.1), q.told, qbind, if_neg hz', qbind, g1, qbind, if_neg q10, q.shelf, qbind, q.at hf.1, qbind, q.toldA, qbind, qbind, p1, qbind, p2, qbind]
        have m1 := m.same s2
        obtain ⟨x2', y2, fo2, fr2, ff2, fg2, fw2, mb2, hm2⟩ := m1.b
        obtain ⟨h3, p3, m3, s3, -⟩ := m_clears m1
        obtain ⟨⟨r4, h4⟩, p4, r4e, m4, s4⟩ := m_take m3 w hf
        have r4e' : r4 = nI t := r4e
        have e2 : f_X9_take (some 51) h2 = some (nI t, h4) := by
          unfold f_X9_take; rw [mb2.is, qbind, mb2.told, qbind, if_neg hz', m_full_yes m1 w hf, qbind, if_pos rfl, qbind, g2 m1, qbind, if_neg q10, p3, qbind, p4, r4e']
        exact qStep.mk e1 x2 s2 e2 m4 ((s3.mono fun k z => by unfold qCM; omega).trans s4) (qWA.tab (A := qTo0 A) ⟨w.1, by show 0 ≤ 28; decide, fun i hi => absurd hi (Nat.not_lt_zero i)⟩ (qNew_w hc g0))
theorem m_copy {h : mH} {A : qA} (m : qM h A) (w : qWA A) {t u : Nat} (hf : qFr A t) (hu : u < 6) : ∃ r, f_X9_copy_l19 (some 51) (nI u) 0 h = some r ∧ r.1 = nI t ∧ qM r.2 (qSetT A t (qNew (A.1 u).1 (A.1 u).2.1)) ∧ qSame qCM h r.2 := by
  obtain ⟨f, hf0⟩ := m.2.2.2.2.2.1
  obtain ⟨x0, y0, fo, fr, ff, fg, fw, mb, hm⟩ := m.b
  have hn := (w.1 u hu).1
  unfold f_X9_copy_l19
  refine mLoop_inv (b := fun x : Int32 × mH => f_X9_copy_b19 (some 51) (nI u) x.1 x.2) (fun k (s : Int32 × mH) => s.1 = nI k ∧ qM s.2 A ∧ qSame (fun k => k = 58) h s.2 ∧ ∃ f, s.2.2 58 = .inl (28, .inl f) ∧ ∀ i, i < k → f i = fr (28 * u + i)) 28 (fun r : Int32 × mH => r.1 = nI t ∧ qM r.2 (qSetT A t (qNew (A.1 u).1 (A.1 u).2.1)) ∧ qSame qCM h r.2) (s0 := (nI 0, h)) ⟨rfl, m, qSame.rf, f, hf0, fun i hi => absurd hi (Nat.not_lt_zero i)⟩ ?_ ?_
  · rintro k ⟨ik, hk⟩ hkn ⟨rfl, mk', sk, fk, e1, e2⟩
    have mk : qM hk A := mk'
    have c53 : hk.2 53 = .inl (168, .inl fr) := (sk.2 53 (by decide)).trans mb.2.2.2.1
    have g53 : mGR hk (some 51) 8 2 = some (some 53) := by
      obtain ⟨x0, y0, fo, fr, ff, fg, fw, mb', hm⟩ := mk.b
      exact mb'.rows
    obtain ⟨h2, p2, m2, e3, s2⟩ := m_stW mk qMf58 e1 (i := k) (by omega) (fr (28 * u + k))
    refine ⟨(nI (k + 1), h2), ?_, rfl, m2, sk.trans s2, _, e3, fun i hi => ?_⟩
    · show f_X9_copy_b19 (some 51) (nI u) (nI k) hk = _
      unfold f_X9_copy_b19 f_X9_rowOf
      rw [if_neg (by rw [qL28, qle (by omega) (by omega)]; omega), mk.made, qbind, mk.is, qbind, g53, qbind, qL28, qI_mul, qI_add, mk.atW c53 (by decide) (by decide) (by omega), qbind, qbind, p2, qbind, nI_1]
    · by_cases hik : i = k
      · rw [hik, qUps]
      · rw [qUpn hik]; exact e2 i (by omega)
  · rintro ⟨ik, hk⟩ ⟨rfl, mk', sk, fk, e1', e2⟩
    have mk : qM hk A := mk'
    have e1 : hk.2 58 = .inl (28, .inl fk) := e1'
    obtain ⟨x1, y1, fo1, fr1, ff1, fg1, fw1, mb1, hm1⟩ := mk.b
    obtain ⟨h4, p4, m4, s4⟩ := m_comes mk w e1 hn (R := (A.1 u).2.1) (fun i hi => (e2 i (by omega)).trans ((hm u hu).2.1 i hi)) hf
    refine ⟨(nI t, h4), ?_, rfl, m4, (sk.mono fun k z => by unfold qCM; omega).trans (s4.mono qC5.cm)⟩
    show f_X9_copy_b19 (some 51) (nI u) (nI 28) hk = _
    unfold f_X9_copy_b19
    rw [if_pos (by decide), mb1.orders, qbind, mb1.order hu, qbind, (hm1 u hu).1, p4, qbind]
theorem op_copy {h : mH} {A : qA} (I : qI h A) (x : Int32) : qStep (f_X8_copy (some 1) x) (f_X9_copy (some 51) x) h := by
  have L := qTb2 I x
  have I0 := I
  obtain ⟨q, m, w⟩ := I
  obtain ⟨x0, y0, fo, fr, ff, fg, fw, mb, hm⟩ := m.b
  have em : ∃ z, f_X8_emptyPlace (some 1) h = some z := by
    rcases qFr_or A with hf | ⟨t, hf⟩
    · exact ⟨_, x_empty_no q w hf⟩
    · exact ⟨_, x_empty_yes q w hf⟩
  rcases L with ⟨l1, l2⟩ | ⟨u, hx, l1, l2⟩
  · obtain ⟨z, ez⟩ := em
    refine qStep.none (r := -1) I0 ?_ ?_
    · unfold f_X8_copy; rw [q.is, qbind, l1, qbind, ez, qbind, if_pos rfl]
    · unfold f_X9_copy; rw [mb.is, qbind, l2, qbind, if_pos rfl]
  · rcases qFr_or A with hf | ⟨t, hf⟩
    · refine qStep.none (r := -1) I0 ?_ ?_
      · unfold f_X8_copy; rw [q.is, qbind, l1, qbind, x_empty_no q w hf, qbind, if_neg qne, if_pos rfl]
      · unfold f_X9_copy; rw [mb.is, qbind, l2, qbind, if_neg q10, m_full_no m w hf, qbind, if_neg q10]
    · have hu := hx.1
      have h6 := hf.1
      have wt := w.1 u hu
      have hut : u ≠ t := fun z => by have := hx.2.2; rw [z, hf.2.1] at this; omega
      obtain ⟨bk, bs, bc, ra, rb, fr', fa, fb, hT, hs⟩ := q.2.2.2.1 u hu
      obtain ⟨h1, p1, t1, s1⟩ := x_layRows (q.2.2.2.1 t h6) hT.2.2.2.1 (by omega) (by unfold qIs4; omega) wt.1 hs.1
      have e1 : f_X8_copy (some 1) x h = some (nI t, h1) := by
        unfold f_X8_copy; rw [q.is, qbind, l1, qbind, x_empty_yes q w hf, qbind, if_neg qne, if_neg (qnm1 h6), q.shelf, qbind, q.at h6, qbind, hT.rows, qbind, hT.size, qbind, p1, qbind]
      have s1' := s1.mono (qIs4.cx h6)
      have m1 := m.same s1'
      obtain ⟨x2', y2, fo2, fr2, ff2, fg2, fw2, mb2, hm2⟩ := m1.b
      obtain ⟨⟨r4, h4⟩, p4, r4e, m4, s4⟩ := m_copy m1 w hf hu
      have r4e' : r4 = nI t := r4e
      have e2 : f_X9_copy (some 51) x h1 = some (nI t, h4) := by
        unfold f_X9_copy; rw [mb2.is, qbind, m_tab_yes mb2 hm2 w hx, qbind, if_neg q10, m_full_yes m1 w hf, qbind, if_pos rfl, hx.2.1, p4, r4e']
      exact qStep.mk e1 (q.tab h6 s1 t1) s1' e2 m4 s4 (w.tab (qNew_w wt.1 wt.2.1))
