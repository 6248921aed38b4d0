/-! PURE: residues -/
/-- a table of the class that is being made: the words g -/
def qBw (h : mH) (t n : Nat) (g : Nat → Nat) : Prop := ∃ fr, qBg h t n fr ∧ ∀ i, i < 28 → fr i = nI (g i)
theorem qBw.or {h : mH} {t n : Nat} {g : Nat → Nat} (b : qBw h t n g) {i : Nat} (hi : i < 28) (v : Nat) : mGR h (some (3 + 4 * t)) 6 1 = some (some (4 + 4 * t)) ∧ mAI h (some (4 + 4 * t)) (nI i) = some (nI (g i)) ∧ ∃ h', mSI h (some (4 + 4 * t)) (nI i) (nI (g i ||| v)) = some h' ∧ qBw h' t n (va_up g i (g i ||| v)) ∧ qSame (qIs4 t) h h' := by
  obtain ⟨fr, b1, e1⟩ := b
  obtain ⟨h', p, b2, s⟩ := b1.st hi (nI (g i ||| v))
  refine ⟨b1.rows, by rw [b1.row hi, e1 i hi], h', p, ⟨_, b2, fun z hz => ?_⟩, s⟩
  by_cases hzi : z = i
  · rw [hzi, qUps, qVs]
  · rw [qUpn hzi, qVn hzi]; exact e1 z hz
theorem x_setMinus {h : mH} {t n : Nat} {g : Nat → Nat} (b : qBw h t n g) {i j : Nat} (hi : i < 28) (hj : j < 32) : ∃ h', f_X7_setMinus (some (3 + 4 * t)) (nI i) (nI j) h = some h' ∧ qBw h' t n (va_up g i (g i ||| 2 ^ j)) ∧ qSame (qIs4 t) h h' := by
  obtain ⟨e1, e2, h', e3, b', s⟩ := b.or hi (2 ^ j)
  refine ⟨h', ?_, b', s⟩
  have is : mIs h (some (3 + 4 * t)) 6 = some () := by
    obtain ⟨fr, ⟨bs, bc, ra, rb, fa, fb, hT, e⟩, -⟩ := b
    exact hT.is
  unfold f_X7_setMinus
  rw [is, qbind, e1, qbind, e2, qbind, qI_pow hj, qI_or, e3, qbind]
theorem qVi {α : Type} {g : Nat → α} {i : Nat} : va_up g i (g i) = g := by
  funext z
  by_cases h : z = i
  · rw [h, qVs]
  · rw [qVn h]
theorem qGr_skip (P : Nat → Nat → Bool) (N i j : Nat) (h : P i j = false) : qGr P N i j = qGr P N i (j + 1) := by
  rw [← qGr_step, h]
  show _ = va_up (qGr P N i j) i (qGr P N i j i ||| 0 * 2 ^ j)
  rw [Nat.zero_mul, Nat.or_zero, qVi]
theorem qGr_set (P : Nat → Nat → Bool) (N i j : Nat) (h : P i j = true) : va_up (qGr P N i j) i (qGr P N i j i ||| 2 ^ j) = qGr P N i (j + 1) := by
  rw [← qGr_step, h]
  show _ = va_up (qGr P N i j) i (qGr P N i j i ||| 1 * 2 ^ j)
  rw [Nat.one_mul]
theorem qW_false (n : Nat) (p : Nat → Bool) (h : ∀ i, p i = false) : qW n p = 0 := by
  induction n with
  | zero => rfl
  | succ n ih => show qW n p + (p n).toNat * 2 ^ n = 0; rw [ih, h n]; simp
def qRs (q i j : Nat) : Bool := if i = 0 then false else if j = 0 then true else if j = i then false else !(qSqs q).testBit (qDf q (j - 1) (i - 1))
theorem qRs_1 (q N : Nat) : qGr (qRs q) N 1 0 = fun _ => 0 := by
  funext r
  unfold qGr
  by_cases h : r < 1
  · rw [if_pos h, show r = 0 by omega]
    exact qW_false _ _ fun i => rfl
  · rw [if_neg h]
    by_cases h2 : r = 1
    · rw [if_pos h2]; rfl
    · rw [if_neg h2]
theorem qI_m1 {a : Nat} (h : 1 ≤ a) : nI a - 1 = nI (a - 1) := by rw [qI_one, qI_sub h]
theorem x_residues {h : mH} {t q : Nat} {T0 : qT} (q0 : qXt h t T0) (hq : q ∈ qF) (q3 : 3 ≤ q) (q28 : q < 28) : ∃ h1 h', f_X7_begin (some (3 + 4 * t)) (nI q + 1) h = some h1 ∧ f_X8_residues_l49 (nI q) (nI t) (some (3 + 4 * t)) (nI (qSqs q)) 1 h1 = some (nI t, h') ∧ qXt h' t (qNew (q + 1) (fun i => qW (q + 1) (qRs q i))) ∧ qSame (qIs4 t) h h' := by
  obtain ⟨h1, fr1, p1, b1, z1, s1⟩ := x_begin q0 (q + 1)
  obtain ⟨c1, c2, c3⟩ := qFs hq
  refine ⟨h1, ?_⟩
  have R := mLoop_inv (b := fun x : Int32 × mH => f_X8_residues_b49 (nI q) (nI t) (some (3 + 4 * t)) (nI (qSqs q)) x.1 x.2) (fun k (s : Int32 × mH) => s.1 = nI (1 + k) ∧ qSame (qIs4 t) h s.2 ∧ qBw s.2 t (q + 1) (qGr (qRs q) (q + 1) (1 + k) 0)) q (fun r : Int32 × mH => r.1 = nI t ∧ qXt r.2 t (qNew (q + 1) (fun i => qW (q + 1) (qRs q i))) ∧ qSame (qIs4 t) h r.2) (s0 := (1, h1)) ⟨rfl, s1, fr1, b1, fun i hi => by rw [Nat.add_zero, qRs_1]; exact z1 i hi⟩ ?_ ?_
  · obtain ⟨⟨r1, r2⟩, e1, e2, e3⟩ := R
    have e2' : r1 = nI t := e2
    rw [e2'] at e1
    exact ⟨r2, by rw [nI_1]; exact p1, e1, e3⟩
  · rintro k ⟨ik, hk⟩ hkn ⟨rfl, sk, b2'⟩
    have b2 : qBw hk t (q + 1) (qGr (qRs q) (q + 1) (1 + k) 0) := b2'
    obtain ⟨h3, p3, b3, s3⟩ := x_setMinus b2 (i := 1 + k) (j := 0) (by omega) (by decide)
    rw [qGr_set (qRs q) (q + 1) (1 + k) 0 (by unfold qRs; rw [if_neg (by omega), if_pos rfl])] at b3
    show ∃ s', f_X8_residues_b49 (nI q) (nI t) (some (3 + 4 * t)) (nI (qSqs q)) (nI (1 + k)) hk = some (.inl s') ∧ _
    unfold f_X8_residues_b49
    rw [if_neg (by rw [qlt (by omega) (by omega)]; omega), show f_X7_setMinus (some (3 + 4 * t)) (nI (1 + k)) 0 hk = some h3 from p3, qbind]
    unfold f_X8_residues_l65
    have R := mLoop_inv (b := fun x : Int32 × mH => f_X8_residues_b65 (nI q) (nI t) (some (3 + 4 * t)) (nI (qSqs q)) (nI (1 + k)) x.1 x.2) (fun j (s : Int32 × mH) => s.1 = nI (1 + j) ∧ qSame (qIs4 t) h s.2 ∧ qBw s.2 t (q + 1) (qGr (qRs q) (q + 1) (1 + k) (1 + j))) q (fun r => ∃ s' : Int32 × mH, r = .inl s' ∧ s'.1 = nI (1 + (k + 1)) ∧ qSame (qIs4 t) h s'.2 ∧ qBw s'.2 t (q + 1) (qGr (qRs q) (q + 1) (1 + (k + 1)) 0)) (s0 := (1, h3)) ⟨rfl, (show qSame (qIs4 t) h hk from sk).trans s3, b3⟩ ?_ ?_
    · obtain ⟨r, e1, s', rfl, e2⟩ := R
      exact ⟨s', e1, e2⟩
    · rintro j ⟨ij, h4⟩ hj ⟨rfl, s4', b4'⟩
      have s4 : qSame (qIs4 t) h h4 := s4'
      have b4 : qBw h4 t (q + 1) (qGr (qRs q) (q + 1) (1 + k) (1 + j)) := b4'
      show ∃ s', f_X8_residues_b65 (nI q) (nI t) (some (3 + 4 * t)) (nI (qSqs q)) (nI (1 + k)) (nI (1 + j)) h4 = some (.inl s') ∧ _
      unfold f_X8_residues_b65
      rw [if_neg (by rw [qlt (by omega) (by omega)]; omega)]
      by_cases hjk : 1 + j = 1 + k
      · rw [if_pos (by rw [hjk]), nI_1]
        refine ⟨_, rfl, rfl, s4, ?_⟩
        rw [qGr_skip _ _ _ _ (by unfold qRs; rw [if_neg (by omega), if_neg (by omega), if_pos hjk])] at b4
        exact b4
      · obtain ⟨d1, d2, d3, d4, -⟩ := qFa hq (a := 1 + j - 1) (b := 1 + k - 1) (by omega) (by omega)
        rw [if_neg (by rw [qeq (by omega) (by omega)]; exact hjk), qI_m1 (by omega), qI_m1 (by omega), d1, qbind, x_inSet (by omega) (by omega), qbind, nI_1]
        have e5 : qRs q (1 + k) (1 + j) = !(qSqs q).testBit (qDf q (1 + j - 1) (1 + k - 1)) := by unfold qRs; rw [if_neg (by omega), if_neg (by omega), if_neg hjk]
        cases hb : (qSqs q).testBit (qDf q (1 + j - 1) (1 + k - 1))
        · rw [hb] at e5
          obtain ⟨h5, p5, b5, s5⟩ := x_setMinus b4 (i := 1 + k) (j := 1 + j) (by omega) (by omega)
          rw [qGr_set _ _ _ _ e5] at b5
          rw [qif0, p5, qbind]
          exact ⟨_, rfl, rfl, s4.trans s5, b5⟩
        · rw [hb] at e5
          rw [qif1]
          rw [qGr_skip _ _ _ _ e5] at b4
          exact ⟨_, rfl, rfl, s4, b4⟩
    · rintro ⟨ij, h4⟩ ⟨rfl, s4, b4'⟩
      have b4 : qBw h4 t (q + 1) (qGr (qRs q) (q + 1) (1 + k) (1 + q)) := b4'
      rw [Nat.add_comm 1 q, qGr_next] at b4
      refine ⟨.inl (nI (1 + (k + 1)), h4), ?_, _, rfl, rfl, s4, b4⟩
      show f_X8_residues_b65 (nI q) (nI t) (some (3 + 4 * t)) (nI (qSqs q)) (nI (1 + k)) (nI (1 + q)) h4 = _
      unfold f_X8_residues_b65
      rw [if_pos (by rw [qlt (by omega) (by omega)]; omega), nI_1]
      rfl
  · rintro ⟨ik, hk⟩ ⟨rfl, sk, b2'⟩
    obtain ⟨fr, b2, e2⟩ : qBw hk t (q + 1) (qGr (qRs q) (q + 1) (1 + q) 0) := b2'
    refine ⟨(nI t, hk), ?_, rfl, b2.fin (by omega) (fun i hi => ?_), sk⟩
    · show f_X8_residues_b49 (nI q) (nI t) (some (3 + 4 * t)) (nI (qSqs q)) (nI (1 + q)) hk = _
      unfold f_X8_residues_b49
      rw [if_pos (by rw [qlt (by omega) (by omega)]; omega)]
    · rw [e2 i (by omega), Nat.add_comm 1 q, qGr_end _ hi]
theorem m_chi {q a : Nat} (hq : q ∈ qF) (ha : a < q) (h0 : a ≠ 0) (q28 : q < 28) : f_X9_chi (nI q) (nI a) = some (if (qSqs q).testBit a then 1 else -1) := by
  obtain ⟨c1, c2, c3⟩ := qFs hq
  unfold f_X9_chi
  rw [if_neg (by rw [qI_zero, qeq (by omega) (by decide)]; exact h0), c3 a ha, qbind]
  cases (qSqs q).testBit a <;> rfl
theorem m_residues {h : mH} {A : qA} (m : qM h A) (w : qWA A) {t q : Nat} (hf : qFr A t) (hq : q ∈ qF) (q3 : 3 ≤ q) (q28 : q < 28) (d : qMd h (fun _ => 0)) : ∃ r, f_X9_residues_l29 (some 51) (nI q) 1 h = some r ∧ r.1 = nI t ∧ qM r.2 (qSetT A t (qNew (q + 1) (fun i => qW (q + 1) (qRs q i)))) ∧ qSame qCM h r.2 := by
  unfold f_X9_residues_l29
  refine mLoop_inv (b := fun x : Int32 × mH => f_X9_residues_b29 (some 51) (nI q) x.1 x.2) (fun k (s : Int32 × mH) => s.1 = nI (1 + k) ∧ qM s.2 A ∧ qSame (fun k => k = 58) h s.2 ∧ qMd s.2 (qGr (qRs q) (q + 1) (1 + k) 0)) q (fun r : Int32 × mH => r.1 = nI t ∧ qM r.2 (qSetT A t (qNew (q + 1) (fun i => qW (q + 1) (qRs q i)))) ∧ qSame qCM h r.2) (s0 := (1, h)) ⟨rfl, m, qSame.rf, by rw [Nat.add_zero, qRs_1]; exact d⟩ ?_ ?_
  · rintro k ⟨ik, hk⟩ hkn ⟨rfl, mk', sk, d2'⟩
    have mk : qM hk A := mk'
    have d2 : qMd hk (qGr (qRs q) (q + 1) (1 + k) 0) := d2'
    obtain ⟨h3, p3, m3, d3, s3⟩ := m_lays mk d2 (i := 1 + k) (j := 0) (by omega) (by decide) true
    rw [show true = qRs q (1 + k) 0 by unfold qRs; rw [if_neg (by omega), if_pos rfl], qGr_step] at d3
    show ∃ s', f_X9_residues_b29 (some 51) (nI q) (nI (1 + k)) hk = some (.inl s') ∧ _
    unfold f_X9_residues_b29
    rw [if_neg (by rw [qlt (by omega) (by omega)]; omega), show f_X9_lays (some 51) (nI (1 + k)) 0 1 hk = some h3 from p3, qbind]
    unfold f_X9_residues_l43
    have R := mLoop_inv (b := fun x : Int32 × mH => f_X9_residues_b43 (some 51) (nI q) (nI (1 + k)) x.1 x.2) (fun j (s : Int32 × mH) => s.1 = nI (1 + j) ∧ qM s.2 A ∧ qSame (fun k => k = 58) h s.2 ∧ qMd s.2 (qGr (qRs q) (q + 1) (1 + k) (1 + j))) q (fun r => ∃ s' : Int32 × mH, r = .inl s' ∧ s'.1 = nI (1 + (k + 1)) ∧ qM s'.2 A ∧ qSame (fun k => k = 58) h s'.2 ∧ qMd s'.2 (qGr (qRs q) (q + 1) (1 + (k + 1)) 0)) (s0 := (1, h3)) ⟨rfl, m3, (show qSame (fun k => k = 58) h hk from sk).trans s3, d3⟩ ?_ ?_
    · obtain ⟨r, e1, s', rfl, e2⟩ := R
      exact ⟨s', e1, e2⟩
    · rintro j ⟨ij, h4⟩ hj ⟨rfl, m4', s4', d4'⟩
      have m4 : qM h4 A := m4'
      have s4 : qSame (fun k => k = 58) h h4 := s4'
      have d4 : qMd h4 (qGr (qRs q) (q + 1) (1 + k) (1 + j)) := d4'
      show ∃ s', f_X9_residues_b43 (some 51) (nI q) (nI (1 + k)) (nI (1 + j)) h4 = some (.inl s') ∧ _
      unfold f_X9_residues_b43
      rw [if_neg (by rw [qlt (by omega) (by omega)]; omega)]
      by_cases hjk : 1 + j = 1 + k
      · rw [if_pos (by rw [hjk]), nI_1]
        refine ⟨_, rfl, rfl, m4, s4, ?_⟩
        rw [qGr_skip _ _ _ _ (by unfold qRs; rw [if_neg (by omega), if_neg (by omega), if_pos hjk])] at d4
        exact d4
      · obtain ⟨e1, e2, e3, e4, -⟩ := qFa hq (a := 1 + j - 1) (b := 1 + k - 1) (by omega) (by omega)
        have e5 : qRs q (1 + k) (1 + j) = !(qSqs q).testBit (qDf q (1 + j - 1) (1 + k - 1)) := by unfold qRs; rw [if_neg (by omega), if_neg (by omega), if_neg hjk]
        obtain ⟨h5, p5, m5, d5, s5⟩ := m_lays m4 d4 (i := 1 + k) (j := 1 + j) (by omega) (by omega) (qRs q (1 + k) (1 + j))
        rw [qGr_step] at d5
        rw [if_neg (by rw [qeq (by omega) (by omega)]; exact hjk), qI_m1 (by omega), qI_m1 (by omega), e2, qbind, m_chi hq e3 (fun z => by have := e4.mp z; omega) q28, qbind]
        unfold f_X9_residues_c79
        refine ⟨(nI (1 + (j + 1)), h5), ?_, rfl, m5, s4.trans s5, d5⟩
        cases hb : (qSqs q).testBit (qDf q (1 + j - 1) (1 + k - 1))
        · rw [hb] at e5
          rw [e5] at p5
          rw [if_neg (by decide), show f_X9_lays (some 51) (nI (1 + k)) (nI (1 + j)) 1 h4 = some h5 from p5, qbind, nI_1]
          rfl
        · rw [hb] at e5
          rw [e5] at p5
          rw [if_pos rfl, if_pos (by decide), show f_X9_lays (some 51) (nI (1 + k)) (nI (1 + j)) 0 h4 = some h5 from p5, qbind, nI_1]
          rfl
    · rintro ⟨ij, h4⟩ ⟨rfl, m4, s4, d4'⟩
      have d4 : qMd h4 (qGr (qRs q) (q + 1) (1 + k) (1 + q)) := d4'
      rw [Nat.add_comm 1 q, qGr_next] at d4
      refine ⟨.inl (nI (1 + (k + 1)), h4), ?_, _, rfl, rfl, m4, s4, d4⟩
      show f_X9_residues_b43 (some 51) (nI q) (nI (1 + k)) (nI (1 + q)) h4 = _
      unfold f_X9_residues_b43
      rw [if_pos (by rw [qlt (by omega) (by omega)]; omega), nI_1]
      rfl
  · rintro ⟨ik, hk⟩ ⟨rfl, mk', sk', d2'⟩
    have mk : qM hk A := mk'
    have sk : qSame (fun k => k = 58) h hk := sk'
    obtain ⟨f, f1, f2⟩ : qMd hk (qGr (qRs q) (q + 1) (1 + q) 0) := d2'
    obtain ⟨h4, p4, m4, s4⟩ := m_comes mk w f1 (n := q + 1) (by omega) (R := fun i => qW (q + 1) (qRs q i)) (fun i hi => by rw [f2 i (by omega), Nat.add_comm 1 q, qGr_end _ hi]) hf
    refine ⟨(nI t, h4), ?_, rfl, m4, (sk.mono fun k z => by unfold qCM; omega).trans (s4.mono qC5.cm)⟩
    show f_X9_residues_b29 (some 51) (nI q) (nI (1 + q)) hk = _
    unfold f_X9_residues_b29
    rw [if_pos (by rw [qlt (by omega) (by omega)]; omega), nI_1, p4, qbind]
theorem op_residues {h : mH} {A : qA} (I : qI h A) (x : Int32) : qStep (f_X8_residues (some 1) x) (f_X9_residues (some 51) x) h := by
  have I0 := I
  obtain ⟨q, m, w⟩ := I
  rcases qFd x with ⟨a1, a2⟩ | ⟨k, hk, k3, k28, rfl, a1, a2, p3, p28⟩
  · refine qStep.none (r := -1) I0 ?_ ?_
    · unfold f_X8_residues
      rcases qFr_or A with hf | ⟨t, hf⟩
      · rw [q.is, qbind, x_empty_no q w hf, qbind, if_pos rfl]
      · rw [q.is, qbind, x_empty_yes q w hf, qbind, if_neg (qnm1 hf.1), a1, qbind, if_pos rfl]
    · unfold f_X9_residues; rw [m.is, qbind, a2, qbind, if_pos rfl]
  · have n0 : ¬ nI (qP k) = 0 := by rw [qI_zero, qeq (by omega) (by decide)]; omega
    by_cases h4 : mRem (nI k) 4 = 3
    · rcases qFr_or A with hf | ⟨t, hf⟩
      · refine qStep.none (r := -1) I0 ?_ ?_
        · unfold f_X8_residues; rw [q.is, qbind, x_empty_no q w hf, qbind, if_pos rfl]
        · unfold f_X9_residues; rw [m.is, qbind, a1, qbind, if_neg q10, if_pos h4, m_full_no m w hf, qbind, if_neg q10]
      · have h6 := hf.1
        obtain ⟨h1', h2', p1, p2, t2, s2⟩ := x_residues (q.2.2.2.1 t h6) hk k3 k28
        obtain ⟨c1, c2, c3⟩ := qFs hk
        have e1 : f_X8_residues (some 1) (nI k) h = some (nI t, h2') := by
          unfold f_X8_residues; rw [q.is, qbind, x_empty_yes q w hf, qbind, if_neg (qnm1 hf.1), a2, qbind, if_neg n0, if_pos h4, q.shelf, qbind, q.at h6, qbind, p1, qbind, c1, qbind, p2]
        have s2' := s2.mono (qIs4.cx h6)
        have m1 := m.same s2'
        obtain ⟨h3, p3, m3, s3, g, g1, g2⟩ := m_clears m1
        obtain ⟨⟨r4, h4'⟩, p4, r4e, m4, s4⟩ := m_residues m3 w hf hk k3 k28 ⟨g, g1, g2⟩
        have r4e' : r4 = nI t := r4e
        have e2 : f_X9_residues (some 51) (nI k) h2' = some (nI t, h4') := by
          unfold f_X9_residues
          rw [m1.is, qbind, a1, qbind, if_neg q10, if_pos h4, m_full_yes m1 w hf, qbind, if_pos rfl, p3, qbind, p4, r4e']
        exact qStep.mk e1 (q.tab h6 s2 t2) s2' e2 m4 ((s3.mono fun k z => by unfold qCM; omega).trans s4) (w.tab (qNew_w (by omega) fun i _ => qW_lt _ _))
    · refine qStep.none (r := -1) I0 ?_ ?_
      · unfold f_X8_residues
        rcases qFr_or A with hf | ⟨t, hf⟩
        · rw [q.is, qbind, x_empty_no q w hf, qbind, if_pos rfl]
        · rw [q.is, qbind, x_empty_yes q w hf, qbind, if_neg (qnm1 hf.1), a2, qbind, if_neg n0, if_neg h4]
      · unfold f_X9_residues; rw [m.is, qbind, a1, qbind, if_neg q10, if_neg h4]
