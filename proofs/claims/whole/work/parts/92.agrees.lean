/-! PURE: agrees, isUsed -/
theorem qMf67 : qMf 67 12 := by unfold qMf; decide
theorem qMf68 : qMf 68 12 := by unfold qMf; decide
theorem qMf69 : qMf 69 156 := by unfold qMf; decide
theorem qMf70 : qMf 70 156 := by unfold qMf; decide
def qVh (h : mH) (f67 f69 f70 : Nat → Int32) : Prop := h.2 67 = .inl (12, .inl f67) ∧ h.2 69 = .inl (156, .inl f69) ∧ h.2 70 = .inl (156, .inl f70)
def qHv (n : Nat) (R S c : Nat → Nat) (f69 f70 : Nat → Int32) (k : Nat) : Prop := ∀ j, j < n → f69 (12 * k + j) = nI (qHd n R c k j) ∧ f70 (12 * k + j) = nI (qHe S c k j)
section QAGM
variable {h : mH} {A : qA} {t u n : Nat} {R S c : Nat → Nat} {f67 f69 f70 : Nat → Int32}
theorem qM.g67 (m : qM h A) : mGR h (some 51) 8 19 = some (some 67) ∧ mGR h (some 51) 8 20 = some (some 68) ∧ mGR h (some 51) 8 21 = some (some 69) ∧ mGR h (some 51) 8 22 = some (some 70) := by
  obtain ⟨x0, y0, fo, fr, ff, fg, fw, mb, hm⟩ := m.b
  exact ⟨qGR (mb.le (by decide)) mb.2.1 rfl, qGR (mb.le (by decide)) mb.2.1 rfl, qGR (mb.le (by decide)) mb.2.1 rfl, qGR (mb.le (by decide)) mb.2.1 rfl⟩
theorem m_st67 (m : qM h A) (v : qVh h f67 f69 f70) {i : Nat} (hi : i < 12) (x : Int32) : ∃ h', mSI h (some 67) (nI i) x = some h' ∧ qM h' A ∧ qVh h' (upd f67 i x) f69 f70 ∧ qSame (fun k => k = 67) h h' := by
  obtain ⟨h', p, m', e, s⟩ := m_stW m qMf67 v.1 hi x
  exact ⟨h', p, m', ⟨e, (s.2 _ (by decide)).trans v.2.1, (s.2 _ (by decide)).trans v.2.2⟩, s⟩
theorem m_st69 (m : qM h A) (v : qVh h f67 f69 f70) {i : Nat} (hi : i < 156) (x : Int32) : ∃ h', mSI h (some 69) (nI i) x = some h' ∧ qM h' A ∧ qVh h' f67 (upd f69 i x) f70 ∧ qSame (fun k => 69 ≤ k ∧ k ≤ 70) h h' := by
  obtain ⟨h', p, m', e, s⟩ := m_stW m qMf69 v.2.1 hi x
  exact ⟨h', p, m', ⟨(s.2 _ (by decide)).trans v.1, e, (s.2 _ (by decide)).trans v.2.2⟩, s.mono fun k z => by omega⟩
theorem m_st70 (m : qM h A) (v : qVh h f67 f69 f70) {i : Nat} (hi : i < 156) (x : Int32) : ∃ h', mSI h (some 70) (nI i) x = some h' ∧ qM h' A ∧ qVh h' f67 f69 (upd f70 i x) ∧ qSame (fun k => 69 ≤ k ∧ k ≤ 70) h h' := by
  obtain ⟨h', p, m', e, s⟩ := m_stW m qMf70 v.2.2 hi x
  exact ⟨h', p, m', ⟨(s.2 _ (by decide)).trans v.1, (s.2 _ (by decide)).trans v.2.1, e⟩, s.mono fun k z => by omega⟩
theorem q12b (i j : Nat) : (12 : Int32) * nI i + nI j = nI (12 * i + j) := by
  rw [show (12 : Int32) = nI 12 from rfl, qI_mul, qI_add]
theorem m_isUsed (m : qM h A) (v : qVh h f67 f69 f70) {k : Nat} (hk : k < 12) (hc : ∀ e, e ≤ k → f67 e = nI (c e) ∧ c e < 24) : f_X9_isUsed (some 51) (nI k) h = some (qB2I (!qFrs c k)) := by
  unfold f_X9_isUsed f_X9_isUsed_l2
  rw [m.is, qbind]
  have B : ∀ e, e < k → f_X9_isUsed_b2 (some 51) (nI k) (nI e) h = if c e / 2 = c k / 2 then some (.inr 1) else some (.inl (nI (e + 1))) := by
    intro e he
    obtain ⟨a1, a2⟩ := hc e (by omega)
    obtain ⟨b1, b2⟩ := hc k (Nat.le_refl k)
    unfold f_X9_isUsed_b2
    rw [if_neg (by rw [qle (by omega) (by omega)]; omega), m.g67.1, qbind, m.atW v.1 (by decide) (by decide) (by omega), qbind, qbind, m.atW v.1 (by decide) (by decide) (by omega), qbind, a1, b1, show nI (c e) / 2 = nI (c e / 2) from qI_div (d := 2) (by omega) (by decide) (by decide), show nI (c k) / 2 = nI (c k / 2) from qI_div (d := 2) (by omega) (by decide) (by decide), nI_1]
    by_cases z : c e / 2 = c k / 2
    · rw [if_pos (by rw [z]), if_pos z]
    · rw [if_neg (by rw [qeq (by omega) (by omega)]; exact z), if_neg z]
  unfold qFrs
  rcases qLeast (fun e => c e / 2 ≠ c k / 2) k with hall | ⟨e0, he0, hno, hbef⟩
  · rw [decide_eq_true hall]
    refine mLoop_ends (fun j => nI j) k 0 (fun e he => ?_) ?_
    · show f_X9_isUsed_b2 (some 51) (nI k) (nI e) h = _
      rw [B e he, if_neg (hall e he)]
    · show f_X9_isUsed_b2 (some 51) (nI k) (nI k) h = _
      unfold f_X9_isUsed_b2
      rw [if_pos (by rw [qle (by omega) (by omega)]; omega)]
  · rw [decide_eq_false (fun z => hno (z e0 he0))]
    refine mLoop_ends (fun j => nI j) e0 1 (fun e he => ?_) ?_
    · show f_X9_isUsed_b2 (some 51) (nI k) (nI e) h = _
      rw [B e (by omega), if_neg (hbef e he)]
    · show f_X9_isUsed_b2 (some 51) (nI k) (nI e0) h = _
      rw [B e0 he0, if_pos (Classical.byContradiction hno)]
/-- the model counts columns that have had alike, on both sides -/
theorem m_counts (m : qM h A) (v : qVh h f67 f69 f70) (hn : n ≤ 12) {k : Nat} (hk : k < n) (L : qHv n R S c f69 f70 (k + 1)) : f_X9_agrees_l149 (some 51) (nI k) (nI n) 0 h = some (qB2I (qAg n R S c (k + 1)), h) := by
  have k12 : 2 ^ (k + 1) ≤ 2 ^ 12 := Nat.pow_le_pow_right (by decide) (by omega)
  have e1 : nI k + 1 = nI (k + 1) := nI_1 k
  have H : ∀ j, j < n → qHd n R c (k + 1) j < 2 ^ (k + 1) ∧ qPn (qHd n R c (k + 1) j) (k + 1) = qNd (qXb n R c) (k + 1) j := fun j _ => qHd_ok n R c (k + 1) j
  have H' : ∀ j, j < n → qHe S c (k + 1) j < 2 ^ (k + 1) ∧ qPn (qHe S c (k + 1) j) (k + 1) = qNd (qYb S c) (k + 1) j := fun j _ => qHe_ok S c (k + 1) j
  have N1 : ∀ j, j < n → qNd (qXb n R c) (k + 1) j < 2 ^ 12 := fun j _ => by
    have h0 : qXb n R c 0 j = false := by unfold qXb; rw [Bool.xor_self]
    have a := qNd_lt (qXb n R c) j h0 k
    have b : 2 ^ k ≤ 2 ^ 12 := Nat.pow_le_pow_right (by decide) (by omega)
    omega
  have N2 : ∀ j, j < n → qNd (qYb S c) (k + 1) j < 2 ^ 12 := fun j _ => by
    have h0 : qYb S c 0 j = false := by unfold qYb; rw [Bool.xor_self]
    have a := qNd_lt (qYb S c) j h0 k
    have b : 2 ^ k ≤ 2 ^ 12 := Nat.pow_le_pow_right (by decide) (by omega)
    omega
  -- one column
  have COL : ∀ j, j < n → f_X9_agrees_b149 (some 51) (nI k) (nI n) (nI j) h = if qc n (fun o => qHH n R c (k + 1) j o) = qc n (fun o => qHT n R S c (k + 1) j o) then some (.inl (nI (j + 1))) else some (.inr (0, h)) := by
    intro j hj
    obtain ⟨L1, L2⟩ := L j hj
    unfold f_X9_agrees_b149
    rw [if_neg (by rw [qle (by omega) (by omega)]; omega), m.g67.2.2.1, qbind, e1, q12b, m.atW v.2.1 (by decide) (by decide) (by omega), qbind, L1, m_plain (H j hj).1 (by omega), qbind, (H j hj).2]
    unfold f_X9_agrees_l184
    have RR := mLoop_inv (b := fun x : Int32 × Int32 => f_X9_agrees_b184 (some 51) (nI k) (nI n) (nI j) (nI (qNd (qXb n R c) (k + 1) j)) x.1 x.2 h) (fun o (s : Int32 × Int32) => s = (nI (qc o (fun o => qHH n R c (k + 1) j o)) - nI (qc o (fun o => qHT n R S c (k + 1) j o)), nI o)) n (fun r => r = if qc n (fun o => qHH n R c (k + 1) j o) = qc n (fun o => qHT n R S c (k + 1) j o) then .inl (nI (j + 1)) else .inr (0, h)) (s0 := (0, 0)) (by show _ = (nI 0 - nI 0, nI 0); rfl) ?_ ?_
    · obtain ⟨r, e, rfl⟩ := RR
      rw [e]
      by_cases z : qc n (fun o => qHH n R c (k + 1) j o) = qc n (fun o => qHT n R S c (k + 1) j o)
      · rw [if_pos z, if_pos z]
      · rw [if_neg z, if_neg z]
    · rintro o s ho rfl
      refine ⟨_, ?_, rfl⟩
      obtain ⟨O1, O2⟩ := L o ho
      show f_X9_agrees_b184 (some 51) (nI k) (nI n) (nI j) (nI (qNd (qXb n R c) (k + 1) j)) (nI (qc o (fun o => qHH n R c (k + 1) j o)) - nI (qc o (fun o => qHT n R S c (k + 1) j o))) (nI o) h = some (.inl (nI (qc o (fun o => qHH n R c (k + 1) j o) + (qHH n R c (k + 1) j o).toNat) - nI (qc o (fun o => qHT n R S c (k + 1) j o) + (qHT n R S c (k + 1) j o).toNat), nI (o + 1)))
      generalize qc o (fun o => qHH n R c (k + 1) j o) = a
      generalize qc o (fun o => qHT n R S c (k + 1) j o) = b
      have C : ∀ x : Int32, f_X9_agrees_c219 (some 51) (nI k) (nI n) (nI j) (nI (qNd (qXb n R c) (k + 1) j)) x (nI o) h = some (.inl (if qHT n R S c (k + 1) j o = true then x + (-1) else x, nI (o + 1))) := by
        intro x
        unfold f_X9_agrees_c219
        rw [m.g67.2.2.2, qbind, e1, q12b, m.atW v.2.2 (by decide) (by decide) (by omega), qbind, O2, m_plain (H' o ho).1 (by omega), qbind, (H' o ho).2, nI_1]
        have iff := qNd_HT n R S c j o (k + 1)
        by_cases z : qNd (qYb S c) (k + 1) o = qNd (qXb n R c) (k + 1) j
        · rw [if_pos (by rw [z]), if_pos (iff.mp z)]
        · rw [if_neg (by rw [qeq (by have := N2 o ho; omega) (by have := N1 j hj; omega)]; exact z), if_neg (fun y => z (iff.mpr y))]
      unfold f_X9_agrees_b184
      rw [if_neg (by rw [qle (by omega) (by omega)]; omega), m.g67.2.2.1, qbind, e1, q12b, m.atW v.2.1 (by decide) (by decide) (by omega), qbind, O1, m_plain (H o ho).1 (by omega), qbind, (H o ho).2, C, C]
      have iff := qNd_HH n R c j o (k + 1)
      have ar1 : nI a - nI b + 1 = nI (a + 1) - nI b := by rw [← nI_1, Int32.sub_eq_add_neg, Int32.sub_eq_add_neg, Int32.add_assoc, Int32.add_comm (-(nI b)), ← Int32.add_assoc]
      have ar2 : ∀ x : Int32, x - nI b + (-1) = x - nI (b + 1) := by
        intro x
        rw [← nI_1, Int32.sub_eq_add_neg, Int32.sub_eq_add_neg, Int32.add_assoc, Int32.neg_add, Int32.sub_eq_add_neg]
      by_cases z : qNd (qXb n R c) (k + 1) o = qNd (qXb n R c) (k + 1) j
      · rw [if_pos (by rw [z]), iff.mp z]
        cases qHT n R S c (k + 1) j o
        · rw [if_neg (by decide), ar1]; rfl
        · rw [if_pos rfl, ar1, ar2]; rfl
      · have hf : qHH n R c (k + 1) j o = false := by
          cases hz : qHH n R c (k + 1) j o
          · rfl
          · exact absurd (iff.mpr hz) z
        rw [if_neg (by rw [qeq (by have := N1 o ho; omega) (by have := N1 j hj; omega)]; exact z), hf]
        cases qHT n R S c (k + 1) j o
        · rw [if_neg (by decide)]; rfl
        · rw [if_pos rfl, ar2]; rfl
    · rintro s rfl
      refine ⟨_, ?_, rfl⟩
      have c1 := qc_le n (fun o => qHH n R c (k + 1) j o)
      have c2 := qc_le n (fun o => qHT n R S c (k + 1) j o)
      show f_X9_agrees_b184 (some 51) (nI k) (nI n) (nI j) (nI (qNd (qXb n R c) (k + 1) j)) (nI (qc n (fun o => qHH n R c (k + 1) j o)) - nI (qc n (fun o => qHT n R S c (k + 1) j o))) (nI n) h = _
      unfold f_X9_agrees_b184
      rw [if_pos (by rw [qle (by omega) (by omega)]; omega), nI_1]
      by_cases z : qc n (fun o => qHH n R c (k + 1) j o) = qc n (fun o => qHT n R S c (k + 1) j o)
      · rw [if_pos (by rw [z, Int32.sub_self]), if_pos z]
      · rw [if_neg (fun y => z (by rw [Int32.sub_eq_iff_eq_add, Int32.zero_add, qeq (by omega) (by omega)] at y; exact y)), if_neg z]
  unfold f_X9_agrees_l149
  rcases qLeast (fun j => qc n (fun o => qHH n R c (k + 1) j o) = qc n (fun o => qHT n R S c (k + 1) j o)) n with hall | ⟨j0, hj0, hno, hbef⟩
  · rw [show qAg n R S c (k + 1) = true from decide_eq_true hall]
    refine mLoop_ends (fun j => nI j) n (1, h) (fun e he => ?_) ?_
    · show f_X9_agrees_b149 (some 51) (nI k) (nI n) (nI e) h = _
      rw [COL e he, if_pos (hall e he)]
    · show f_X9_agrees_b149 (some 51) (nI k) (nI n) (nI n) h = _
      unfold f_X9_agrees_b149
      rw [if_pos (by rw [qle (by omega) (by omega)]; omega)]
  · rw [show qAg n R S c (k + 1) = false from decide_eq_false (fun z => hno (z j0 hj0))]
    refine mLoop_ends (fun j => nI j) j0 (0, h) (fun e he => ?_) ?_
    · show f_X9_agrees_b149 (some 51) (nI k) (nI n) (nI e) h = _
      rw [COL e (by omega), if_pos (hbef e he)]
    · show f_X9_agrees_b149 (some 51) (nI k) (nI n) (nI j0) h = _
      rw [COL j0 hj0, if_neg hno]
theorem m_agrees (m : qM h A) (w : qWA A) (h6 : t < 6) (h6' : u < 6) (ht : (A.1 t).1 = n) (hu : (A.1 u).1 = n) (hR : (A.1 t).2.1 = R) (hS : (A.1 u).2.1 = S) (hn : n ≤ 12) (v : qVh h f67 f69 f70) {k : Nat} (hk : k < n) (e67 : f67 k = nI (c k)) (hck : c k < 2 * n) (L : qHv n R S c f69 f70 k) : ∃ h' g69 g70, f_X9_agrees (some 51) (nI t) (nI u) (nI k) h = some (qB2I (qAg n R S c (k + 1)), h') ∧ qM h' A ∧ qVh h' f67 g69 g70 ∧ qSame (fun k => 69 ≤ k ∧ k ≤ 70) h h' ∧ (∀ p, p < 12 * (k + 1) → g69 p = f69 p ∧ g70 p = f70 p) ∧ qHv n R S c g69 g70 (k + 1) := by
  have wt := w.1 t h6
  have wu := w.1 u h6'
  have k12 : 2 ^ (k + 1) ≤ 2 ^ 12 := Nat.pow_le_pow_right (by decide) (by omega)
  have e1 : nI k + 1 = nI (k + 1) := nI_1 k
  unfold f_X9_agrees
  obtain ⟨x0, y0, fo, fr, ff, fg, fw, mb, hm⟩ := m.b
  rw [m.is, qbind, mb.orders, qbind, mb.order h6, qbind, (hm t h6).1, ht]
  unfold f_X9_agrees_l11
  have RR := mLoop_inv (b := fun x : Int32 × mH => f_X9_agrees_b11 (some 51) (nI t) (nI u) (nI k) (nI n) x.1 x.2) (fun j (s : Int32 × mH) => s.1 = nI j ∧ ∃ g69 g70, qM s.2 A ∧ qVh s.2 f67 g69 g70 ∧ qSame (fun k => 69 ≤ k ∧ k ≤ 70) h s.2 ∧ (∀ p, p < 12 * (k + 1) → g69 p = f69 p ∧ g70 p = f70 p) ∧ ∀ j', j' < j → g69 (12 * (k + 1) + j') = nI (qHd n R c (k + 1) j') ∧ g70 (12 * (k + 1) + j') = nI (qHe S c (k + 1) j')) n (fun r => ∃ h', r = (qB2I (qAg n R S c (k + 1)), h') ∧ ∃ g69 g70, qM h' A ∧ qVh h' f67 g69 g70 ∧ qSame (fun k => 69 ≤ k ∧ k ≤ 70) h h' ∧ (∀ p, p < 12 * (k + 1) → g69 p = f69 p ∧ g70 p = f70 p) ∧ qHv n R S c g69 g70 (k + 1)) (s0 := (0, h)) ⟨rfl, f69, f70, m, v, qSame.rf, fun _ _ => ⟨rfl, rfl⟩, fun j' h => absurd h (Nat.not_lt_zero j')⟩ ?_ ?_
  · obtain ⟨r, e, h', rfl, g69, g70, z1, z2, z3, z4, z5⟩ := RR
    exact ⟨h', g69, g70, e, z1, z2, z3, z4, z5⟩
  · rintro j ⟨ij, h1⟩ hj ⟨rfl, g69, g70, m1', v1', s1', k1, l1⟩
    have m1 : qM h1 A := m1'
    have v1 : qVh h1 f67 g69 g70 := v1'
    have s1 : qSame (fun k => 69 ≤ k ∧ k ≤ 70) h h1 := s1'
    obtain ⟨x1, y1, fo1, fr1, ff1, fg1, fw1, mb1, hm1⟩ := m1.b
    obtain ⟨L1, L2⟩ := L j hj
    have b1 := (qHd_ok n R c k j).1
    have b2 := (qHe_ok S c k j).1
    obtain ⟨h2, p2, m2, v2, s2⟩ := m_st69 m1 v1 (i := 12 * (k + 1) + j) (by omega) (nI (qHd n R c (k + 1) j))
    obtain ⟨h3, p3, m3, v3, s3⟩ := m_st70 m2 v2 (i := 12 * (k + 1) + j) (by omega) (nI (qHe S c (k + 1) j))
    refine ⟨(nI (j + 1), h3), ?_, rfl, _, _, m3, v3, (s1.trans s2).trans s3, fun p hp => ?_, fun j' hj' => ?_⟩
    · show f_X9_agrees_b11 (some 51) (nI t) (nI u) (nI k) (nI n) (nI j) h1 = _
      have mi := m_isMinus mb1 (hm1 t h6) h6 wt (i := k) (j := j) (by omega) (by omega)
      have mj := m_isMinus mb1 (hm1 u h6') h6' wu (i := c k / 2) (j := j) (by omega) (by omega)
      rw [hR] at mi
      rw [hS] at mj
      have X1 : (12 : Int32) * (nI k + 1) + nI j = nI (12 * (k + 1) + j) := by rw [e1, q12b]
      have C76 : ∀ (b b' : Bool), b = (qXw n R c k).testBit j → b' = (S (c k / 2)).testBit j → f_X9_agrees_c76 (some 51) (nI t) (nI u) (nI k) (nI n) (nI j) (qB2I b) (qB2I b') h1 = some (.inl (nI (j + 1), h3)) := by
        intro b b' hb hb'
        have E1 : (2 : Int32) * nI (qHd n R c k j) + qB2I b = nI (qHd n R c (k + 1) j) := by
          show _ = nI (2 * qHd n R c k j + ((qXw n R c k).testBit j).toNat)
          rw [← hb, qL2, qI_mul, ← qI_add]
          cases b <;> rfl
        have E2 : (2 : Int32) * nI (qHe S c k j) + qB2I b' = nI (qHe S c (k + 1) j) := by
          show _ = nI (2 * qHe S c k j + ((S (c k / 2)).testBit j).toNat)
          rw [← hb', qL2, qI_mul, ← qI_add]
          cases b' <;> rfl
        unfold f_X9_agrees_c76
        rw [m1.g67.2.2.1, qbind, qbind, q12b, m1.atW v1.2.1 (by decide) (by decide) (by omega), qbind, (k1 _ (by omega)).1, L1, E1, X1, p2, qbind, m2.g67.2.2.2, qbind, qbind, m2.atW v2.2.2 (by decide) (by decide) (by omega), qbind, (k1 _ (by omega)).2, L2, E2, p3, qbind, nI_1]
      have C51 : ∀ b : Bool, b = (qXw n R c k).testBit j → f_X9_agrees_c51 (some 51) (nI t) (nI u) (nI k) (nI n) (nI j) (qB2I b) h1 = some (.inl (nI (j + 1), h3)) := by
        intro b hb
        unfold f_X9_agrees_c51
        rw [m1.g67.1, qbind, m1.atW v1.1 (by decide) (by decide) (by omega), qbind, e67, show nI (c k) / 2 = nI (c k / 2) from qI_div (d := 2) (by omega) (by decide) (by decide), mj, qbind]
        cases hs : (S (c k / 2)).testBit j
        · rw [qif0]; exact C76 b false hb hs.symm
        · rw [qif1]; exact C76 b true hb hs.symm
      have hbit := qXw_bit n R c k hj
      unfold f_X9_agrees_b11
      rw [if_neg (by rw [qle (by omega) (by omega)]; omega), mi, qbind, m1.g67.1, qbind, m1.atW v1.1 (by decide) (by decide) (by omega), qbind, e67, show mRem (nI (c k)) 2 = nI (c k % 2) from qI_rem (d := 2) (by omega) (by decide) (by decide)]
      unfold f_X9_agrees_c43
      by_cases z : c k % 2 = 1
      · rw [if_pos (by rw [z]; rfl)]
        rw [decide_eq_true z] at hbit
        cases hr : (R k).testBit j
        · rw [hr] at hbit
          rw [if_neg (by decide)]
          exact C51 true (by rw [hbit]; rfl)
        · rw [hr] at hbit
          rw [if_pos (by decide)]
          exact C51 false (by rw [hbit]; rfl)
      · rw [if_neg (by rw [show (1 : Int32) = nI 1 from rfl, qeq (by omega) (by decide)]; exact z)]
        rw [decide_eq_false z] at hbit
        cases hr : (R k).testBit j
        · rw [hr] at hbit
          rw [if_pos (by decide)]
          exact C51 false (by rw [hbit]; rfl)
        · rw [hr] at hbit
          rw [if_neg (by decide)]
          exact C51 true (by rw [hbit]; rfl)
    · rw [qUpn (by omega), qUpn (by omega)]; exact k1 p hp
    · by_cases z : j' = j
      · subst z; rw [qUps, qUps]; exact ⟨rfl, rfl⟩
      · rw [qUpn (by omega), qUpn (by omega)]; exact l1 j' (by omega)
  · rintro ⟨ij, h1⟩ ⟨rfl, g69, g70, m1', v1', s1, k1, l1⟩
    have m1 : qM h1 A := m1'
    have v1 : qVh h1 f67 g69 g70 := v1'
    refine ⟨_, ?_, h1, rfl, g69, g70, m1, v1, s1, k1, l1⟩
    show f_X9_agrees_b11 (some 51) (nI t) (nI u) (nI k) (nI n) (nI n) h1 = _
    unfold f_X9_agrees_b11
    rw [if_pos (by rw [qle (by omega) (by omega)]; omega), m_counts m1 v1 hn hk l1]
    rfl
end QAGM
