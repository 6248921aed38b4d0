/-! PURE: count -/
def qFl1 (A : qA) (t : Nat) : Bool := decide (0 < (A.1 t).1)
def qPp (A : qA) (t : Nat) : Bool := decide (0 < (A.1 t).1 ∧ (qB2 (A.1 t) (A.1 t).1).1 = 0)
section QCT
variable {h : mH} {A : qA}
theorem x_filled (q : qX h A) (w : qWA A) : f_X8_filledPlaces (some 1) h = some (nI (qW 6 (qFl1 A))) := by
  unfold f_X8_filledPlaces f_X8_filledPlaces_l4
  rw [q.is, qbind]
  have R := mLoop_inv (b := fun x : Int32 × Int32 => f_X8_filledPlaces_b4 (some 1) x.1 x.2 h) (fun k (s : Int32 × Int32) => s = (nI (qW k (qFl1 A)), nI k)) 6 (fun r => r = nI (qW 6 (qFl1 A))) (s0 := (0, 0)) rfl ?_ ?_
  · obtain ⟨r, e, rfl⟩ := R
    exact e
  · rintro k s hk rfl
    refine ⟨_, ?_, rfl⟩
    obtain ⟨bk, bs, bc, ra, rb, fr, fa, fb, hT, hs⟩ := q.2.2.2.1 k hk
    have hn := (w.1 k hk).1
    show f_X8_filledPlaces_b4 (some 1) (nI (qW k (qFl1 A))) (nI k) h = _
    unfold f_X8_filledPlaces_b4
    rw [if_neg (by rw [qL6, qle (by omega) (by omega)]; omega), q.shelf, qbind, q.at hk, qbind, hT.size, qbind, qI_pow (by omega), qI_or, nI_1, ← qW_or]
    by_cases h0 : 0 < (A.1 k).1
    · rw [if_neg (by rw [qI_zero, qle (by omega) (by decide)]; omega), show qFl1 A k = true from decide_eq_true h0, show true.toNat = 1 from rfl, Nat.one_mul]
    · rw [if_pos (by rw [qI_zero, qle (by omega) (by decide)]; omega), show qFl1 A k = false from decide_eq_false h0, show false.toNat = 0 from rfl, Nat.zero_mul, Nat.or_zero]
  · rintro s rfl
    refine ⟨_, ?_, rfl⟩
    show f_X8_filledPlaces_b4 (some 1) (nI (qW 6 (qFl1 A))) (nI 6) h = _
    unfold f_X8_filledPlaces_b4
    rw [if_pos (by decide)]
theorem x_perpPlaces (q : qX h A) (w : qWA A) : f_X8_perpendicularPlaces (some 1) h = some (nI (qW 6 (qPp A))) := by
  unfold f_X8_perpendicularPlaces f_X8_perpendicularPlaces_l4
  rw [q.is, qbind]
  have R := mLoop_inv (b := fun x : Int32 × Int32 => f_X8_perpendicularPlaces_b4 (some 1) x.1 x.2 h) (fun k (s : Int32 × Int32) => s = (nI (qW k (qPp A)), nI k)) 6 (fun r => r = nI (qW 6 (qPp A))) (s0 := (0, 0)) rfl ?_ ?_
  · obtain ⟨r, e, rfl⟩ := R
    exact e
  · rintro k s hk rfl
    refine ⟨_, ?_, rfl⟩
    have e1 := x_firstSlant (q.2.2.2.1 k hk) (w.1 k hk)
    obtain ⟨bk, bs, bc, ra, rb, fr, fa, fb, hT, hs⟩ := q.2.2.2.1 k hk
    have hn := (w.1 k hk).1
    show f_X8_perpendicularPlaces_b4 (some 1) (nI (qW k (qPp A))) (nI k) h = _
    unfold f_X8_perpendicularPlaces_b4
    rw [if_neg (by rw [qL6, qle (by omega) (by omega)]; omega), q.shelf, qbind, q.at hk, qbind, hT.size, qbind, qI_pow (by omega), qI_or, nI_1, ← qW_or]
    by_cases h0 : 0 < (A.1 k).1
    · rw [if_neg (by rw [qI_zero, qle (by omega) (by decide)]; omega), qbind, q.at hk, qbind, e1, qbind]
      by_cases hz : (qB2 (A.1 k) (A.1 k).1).1 = 0
      · rw [if_pos ((qB2_iff hn).mpr hz), show qPp A k = true from decide_eq_true ⟨h0, hz⟩, show true.toNat = 1 from rfl, Nat.one_mul]
      · rw [if_neg (fun z => hz ((qB2_iff hn).mp z)), show qPp A k = false from decide_eq_false (fun z => hz z.2), show false.toNat = 0 from rfl, Nat.zero_mul, Nat.or_zero]
    · rw [if_pos (by rw [qI_zero, qle (by omega) (by decide)]; omega), show qPp A k = false from decide_eq_false (fun z => h0 z.1), show false.toNat = 0 from rfl, Nat.zero_mul, Nat.or_zero]
  · rintro s rfl
    refine ⟨_, ?_, rfl⟩
    show f_X8_perpendicularPlaces_b4 (some 1) (nI (qW 6 (qPp A))) (nI 6) h = _
    unfold f_X8_perpendicularPlaces_b4
    rw [if_pos (by decide)]
def qCt (A : qA) (v : Int32) : Int32 := if v = 0 then nI (qc 6 (qFl1 A)) else if v = 1 then nI (qW 6 (qFl1 A)) else if v = 2 then nI A.2.1.1 else if v = 3 then nI (qW 6 (qPp A)) else -1
theorem m_count (m : qM h A) (w : qWA A) (v : Int32) : ∃ r, f_X9_count_l10 (some 51) v 0 0 0 0 h = some r ∧ r.1 = qCt A v ∧ qM r.2 A ∧ qSame (fun k => k = 51) h r.2 := by
  unfold f_X9_count_l10
  refine mLoop_inv (b := fun x : Int32 × Int32 × Int32 × Int32 × mH => f_X9_count_b10 (some 51) v x.1 x.2.1 x.2.2.1 x.2.2.2.1 x.2.2.2.2) (fun k (s : Int32 × Int32 × Int32 × Int32 × mH) => s.1 = nI (qc k (qFl1 A)) ∧ s.2.1 = nI (qW k (qFl1 A)) ∧ s.2.2.1 = nI (qW k (qPp A)) ∧ s.2.2.2.1 = nI k ∧ qM s.2.2.2.2 A ∧ qSame (fun k => k = 51) h s.2.2.2.2) 6 (fun r : Int32 × mH => r.1 = qCt A v ∧ qM r.2 A ∧ qSame (fun k => k = 51) h r.2) (s0 := (0, 0, 0, 0, h)) ⟨rfl, rfl, rfl, rfl, m, qSame.rf⟩ ?_ ?_
  · rintro k ⟨c1, c2, c3, c4, hk⟩ hk6 ⟨rfl, rfl, rfl, rfl, mk', sk⟩
    have mk : qM hk A := mk'
    obtain ⟨x0, y0, fo, fr, ff, fg, fw, mb, hm⟩ := mk.b
    have wt := w.1 k hk6
    have hn := wt.1
    show ∃ s', f_X9_count_b10 (some 51) v (nI (qc k (qFl1 A))) (nI (qW k (qFl1 A))) (nI (qW k (qPp A))) (nI k) hk = some (.inl s') ∧ _
    unfold f_X9_count_b10
    have cS : qc (k + 1) (qFl1 A) = qc k (qFl1 A) + (qFl1 A k).toNat := rfl
    rw [if_neg (by rw [qL6, qle (by omega) (by omega)]; omega), mb.orders, qbind, mb.order hk6, qbind, (hm k hk6).1, qI_pow (by omega), qI_or, qI_or, nI_1, nI_1]
    by_cases h0 : 0 < (A.1 k).1
    · rw [if_neg (by rw [qI_zero, qeq (by omega) (by decide)]; omega)]
      obtain ⟨h2, p2, m2, s2⟩ := m_laysBad mb (hm k hk6) hk6 wt
      have b2 := qB2_le (A.1 k) (A.1 k).1 hn hn
      have f1 : qFl1 A k = true := decide_eq_true h0
      unfold f_X9_isPerpendicular
      rw [mb.is, qbind, p2, qbind, m2.g12, qbind]
      by_cases hz : (qB2 (A.1 k) (A.1 k).1).1 = 0
      · have f2 : qPp A k = true := decide_eq_true ⟨h0, hz⟩
        rw [if_pos (by rw [hz]; rfl), qbind, if_neg q10]
        refine ⟨_, rfl, ?_, ?_, ?_, rfl, mk.pf s2 m2, sk.trans s2⟩
        · rw [cS, f1]; rfl
        · show nI (qW k (qFl1 A) ||| 2 ^ k) = nI (qW (k + 1) (qFl1 A))
          rw [← qW_or, f1, show true.toNat = 1 from rfl, Nat.one_mul]
        · show nI (qW k (qPp A) ||| 2 ^ k) = nI (qW (k + 1) (qPp A))
          rw [← qW_or, f2, show true.toNat = 1 from rfl, Nat.one_mul]
      · have f2 : qPp A k = false := decide_eq_false fun z => hz z.2
        rw [if_neg (by rw [qI_zero, qeq (by omega) (by decide)]; exact hz), qbind, if_pos rfl]
        refine ⟨_, rfl, ?_, ?_, ?_, rfl, mk.pf s2 m2, sk.trans s2⟩
        · rw [cS, f1]; rfl
        · show nI (qW k (qFl1 A) ||| 2 ^ k) = nI (qW (k + 1) (qFl1 A))
          rw [← qW_or, f1, show true.toNat = 1 from rfl, Nat.one_mul]
        · show nI (qW k (qPp A)) = nI (qW (k + 1) (qPp A))
          rw [← qW_or, f2, show false.toNat = 0 from rfl, Nat.zero_mul, Nat.or_zero]
    · have f1 : qFl1 A k = false := decide_eq_false h0
      have f2 : qPp A k = false := decide_eq_false fun z => h0 z.1
      rw [if_pos (by rw [qI_zero, qeq (by omega) (by decide)]; omega)]
      refine ⟨_, rfl, ?_, ?_, ?_, rfl, mk, sk⟩
      · rw [cS, f1]; rfl
      · show nI (qW k (qFl1 A)) = nI (qW (k + 1) (qFl1 A))
        rw [← qW_or, f1, show false.toNat = 0 from rfl, Nat.zero_mul, Nat.or_zero]
      · show nI (qW k (qPp A)) = nI (qW (k + 1) (qPp A))
        rw [← qW_or, f2, show false.toNat = 0 from rfl, Nat.zero_mul, Nat.or_zero]
  · rintro ⟨c1, c2, c3, c4, hk⟩ ⟨rfl, rfl, rfl, rfl, mk', sk⟩
    have mk : qM hk A := mk'
    obtain ⟨x0, y0, fo, fr, ff, fg, fw, mb, hm⟩ := mk.b
    refine ⟨(qCt A v, hk), ?_, rfl, mk, sk⟩
    show f_X9_count_b10 (some 51) v (nI (qc 6 (qFl1 A))) (nI (qW 6 (qFl1 A))) (nI (qW 6 (qPp A))) (nI 6) hk = _
    unfold f_X9_count_b10 qCt
    rw [if_pos (by decide)]
    by_cases v0 : v = 0
    · rw [if_pos v0, if_pos v0]
    rw [if_neg v0, if_neg v0]
    by_cases v1 : v = 1
    · rw [if_pos v1, if_pos v1]
    rw [if_neg v1, if_neg v1]
    by_cases v2 : v = 2
    · rw [if_pos v2, if_pos v2, mb.told, qbind]
    rw [if_neg v2, if_neg v2]
    by_cases v3 : v = 3
    · rw [if_pos v3, if_pos v3]
    rw [if_neg v3, if_neg v3]
theorem op_count (I : qI h A) (v : Int32) : qStepM (f_X8_count (some 1) v) (f_X9_count (some 51) v) h := by
  obtain ⟨q, m, w⟩ := I
  obtain ⟨⟨r, h2⟩, p2, re, m2, s2⟩ := m_count m w v
  have re' : r = qCt A v := re
  have l6 : qW 6 (qFl1 A) < 2 ^ 6 := qW_lt _ _
  refine ⟨qCt A v, h2, A, ?_, ?_, ⟨q.same (s2.mono fun k z => by unfold qCM; omega), m2, w⟩, s2.mono fun k z => by omega⟩
  · unfold f_X8_count qCt
    rw [q.is, qbind]
    by_cases v0 : v = 0
    · rw [if_pos v0, if_pos v0, x_filled q w, qbind, qJ_bitCount (by omega), qbind, qp_lt l6 (by decide), qc_eq (q := qFl1 A) (fun i hi => by rw [qW_bit, decide_eq_true hi, Bool.true_and])]
    rw [if_neg v0, if_neg v0]
    by_cases v1 : v = 1
    · rw [if_pos v1, if_pos v1, x_filled q w, qbind]
    rw [if_neg v1, if_neg v1]
    by_cases v2 : v = 2
    · rw [if_pos v2, if_pos v2, q.told, qbind]
    rw [if_neg v2, if_neg v2]
    by_cases v3 : v = 3
    · rw [if_pos v3, if_pos v3, x_perpPlaces q w, qbind]
    rw [if_neg v3, if_neg v3]
  · unfold f_X9_count
    rw [m.is, qbind, p2, re']
end QCT
