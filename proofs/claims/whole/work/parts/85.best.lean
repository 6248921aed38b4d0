/-! PURE: best, both sides -/
/-- a call whose class's side writes and whose model's side only reads -/
def qStepX (fx : mH → Option (Int32 × mH)) (fm : mH → Option Int32) (h : mH) : Prop := ∃ r h1 A', fx h = some (r, h1) ∧ fm h1 = some r ∧ qI h1 A' ∧ qSame (fun k => 0 < k) h h1
theorem qm1lt {x : Nat} (h : x < 2 ^ 31) : (-1 : Int32) < nI x := Int32.lt_of_lt_of_le (by decide) (Int32.not_lt.mp (qpos h))
theorem qAll_le {T : qT} (w : qWT T) {s : Nat} (hs : s < 2 ^ T.1) : qAll T s ≤ 28 * 28 := by
  have : ∀ k, k ≤ T.1 → qSum k (fun i => qSz T.1 (T.2.1 i ^^^ s)) ≤ k * 28 := by
    intro k
    induction k with
    | zero => intro _; exact Nat.le_refl 0
    | succ k ih =>
      intro hk
      have h1 := ih (by omega)
      have hn := w.1
      have h2 := qp_len (Nat.xor_lt_two_pow (w.2.1 k (by omega)) hs) (show T.1 ≤ 32 by omega)
      have h3 : qSz T.1 (T.2.1 k ^^^ s) ≤ 28 := by
        unfold qSz
        by_cases c : 2 * qp (T.2.1 k ^^^ s) ≤ T.1
        · rw [if_pos c]; omega
        · rw [if_neg c]; omega
      show qSum k _ + qSz T.1 (T.2.1 k ^^^ s) ≤ (k + 1) * 28
      omega
  have h1 := this T.1 (Nat.le_refl _)
  have h2 : T.1 * 28 ≤ 28 * 28 := Nat.mul_le_mul_right _ w.1
  exact Nat.le_trans h1 h2
theorem m_best {h : mH} {A : qA} {t : Nat} (m : qM h A) (w : qWA A) (h6 : t < 6) (h0 : 0 < (A.1 t).1) (h16 : (A.1 t).1 ≤ 16) (v : Int32) : ∃ mm c, qBest (A.1 t) mm c ∧ f_X9_best_l41 (some 51) (nI t) v 0 (-1) 0 h = some (if v = 0 then nI mm else nI c) := by
  have wt := w.1 t h6
  obtain ⟨x0, y0, fo, fr, ff, fg, fw, mb, hm⟩ := m.b
  have hmt := hm t h6
  generalize hTT : A.1 t = T at *
  have p16 : 2 ^ T.1 ≤ 2 ^ 16 := Nat.pow_le_pow_right (by decide) h16
  have ppos := Nat.two_pow_pos T.1
  -- one turn
  have B : ∀ (s : Nat) (b c : Int32), s < 2 ^ T.1 → f_X9_best_b41 (some 51) (nI t) v b c (nI s) h = some (if c < nI (qAll T s) then .inl (nI s, nI (qAll T s), nI (s + 1)) else .inl (b, c, nI (s + 1))) := by
    intro s b c hs
    have hs28 : s < 2 ^ 28 := Nat.lt_of_lt_of_le hs (Nat.pow_le_pow_right (by decide) (by omega))
    unfold f_X9_best_b41
    rw [mb.orders, qbind, mb.order h6, qbind, hmt.1, qI_pow (by omega), if_neg (by rw [qle (by omega) (by omega)]; omega)]
    unfold f_X9_best_l60
    have R := qLoopAcc (b := fun x : Int32 × Int32 => f_X9_best_b60 (some 51) (nI t) v b c (nI s) x.1 x.2 h) (fun i => qSz T.1 (T.2.1 i ^^^ s)) 0 T.1 0 (fun r => if c < r then .inl (nI s, r, nI (s + 1)) else .inl (b, c, nI (s + 1))) ?_ ?_
    · rw [Nat.zero_add] at R
      exact R
    · intro i acc hi
      rw [Nat.zero_add]
      have hw : T.2.1 i ^^^ s < 2 ^ 28 := Nat.xor_lt_two_pow (q31 wt.1 (wt.2.1 i hi)) hs28
      show f_X9_best_b60 (some 51) (nI t) v b c (nI s) (nI acc) (nI i) h = _
      unfold f_X9_best_b60
      rw [mb.orders, qbind, mb.order h6, qbind, hmt.1, if_neg (by rw [qle (by omega) (by omega)]; omega), m_rowOf mb hmt h6 wt hi, qbind, qbind, mb.order h6, qbind, hmt.1, qI_xor, m_size (by omega), qbind, qAb_sz (by omega), qI_add, nI_1]
    · intro acc
      rw [Nat.zero_add]
      show f_X9_best_b60 (some 51) (nI t) v b c (nI s) (nI acc) (nI T.1) h = _
      unfold f_X9_best_b60
      rw [mb.orders, qbind, mb.order h6, qbind, hmt.1, if_pos (by rw [qle (by omega) (by omega)]; omega), nI_1]
      by_cases hc : c < nI acc
      · rw [if_pos hc, if_pos hc]
      · rw [if_neg hc, if_neg hc]
  unfold f_X9_best_l41
  have e0 : f_X9_best_b41 (some 51) (nI t) v 0 (-1) 0 h = some (.inl (nI 0, nI (qAll T 0), nI 1)) := by
    have := B 0 0 (-1) (by omega)
    rw [if_pos (qm1lt (by have := qAll_le wt (s := 0) (by omega); omega))] at this
    exact this
  have R := mLoop_inv (b := fun x : Int32 × Int32 × Int32 => f_X9_best_b41 (some 51) (nI t) v x.1 x.2.1 x.2.2 h) (fun k s => ∃ mm c, qFst T (k + 1) mm c ∧ s = (nI c, nI mm, nI (k + 1))) (2 ^ T.1 - 1) (fun r => ∃ mm c, qBest T mm c ∧ r = if v = 0 then nI mm else nI c) (s0 := (nI 0, nI (qAll T 0), nI 1)) ⟨_, _, qFst_1 T, rfl⟩ ?_ ?_
  · obtain ⟨r, e, mm, c, b, rfl⟩ := R
    refine ⟨mm, c, b, ?_⟩
    rw [mLoop_inl (b := fun x : Int32 × Int32 × Int32 => f_X9_best_b41 (some 51) (nI t) v x.1 x.2.1 x.2.2 h) (x := (0, -1, 0)) e0]
    exact e
  · rintro k s hk ⟨mm, c, v1, rfl⟩
    have hq := qAll_le wt (s := k + 1) (by omega)
    have hmm : mm ≤ 28 * 28 := by
      obtain ⟨z1, z2, -⟩ := v1
      have := qAll_le wt (s := c) (by omega)
      omega
    have E := B (k + 1) (nI c) (nI mm) (by omega)
    show ∃ s', f_X9_best_b41 (some 51) (nI t) v (nI c) (nI mm) (nI (k + 1)) h = some (.inl s') ∧ _
    rw [E]
    by_cases hc : mm < qAll T (k + 1)
    · rw [if_pos (by rw [qlt (by omega) (by omega)]; exact hc)]
      exact ⟨_, rfl, _, _, qFst_up v1 hc, rfl⟩
    · rw [if_neg (by rw [qlt (by omega) (by omega)]; exact hc)]
      exact ⟨_, rfl, _, _, qFst_keep v1 hc, rfl⟩
  · rintro s ⟨mm, c, v1, rfl⟩
    rw [show 2 ^ T.1 - 1 + 1 = 2 ^ T.1 by omega] at v1
    refine ⟨_, ?_, mm, c, v1, rfl⟩
    show f_X9_best_b41 (some 51) (nI t) v (nI c) (nI mm) (nI (2 ^ T.1 - 1 + 1)) h = _
    unfold f_X9_best_b41
    rw [mb.orders, qbind, mb.order h6, qbind, hmt.1, qI_pow (by omega), if_pos (by rw [qle (by omega) (by omega)]; omega)]
    by_cases hv : v = 0
    · rw [if_pos hv, if_pos hv]
    · rw [if_neg hv, if_neg hv]
theorem op_best {h : mH} {A : qA} (I : qI h A) (x v : Int32) : qStepX (f_X8_best (some 1) x v) (f_X9_best (some 51) x v) h := by
  have L := qTb2 I x
  have I0 := I
  obtain ⟨q, m, w⟩ := I
  obtain ⟨x0, y0, fo, fr, ff, fg, fw, mb, hm⟩ := m.b
  rcases L with ⟨l1, l2⟩ | ⟨t, hx, l1, l2⟩
  · refine ⟨-1, h, A, ?_, ?_, I0, qSame.rf⟩
    · unfold f_X8_best; rw [q.is, qbind, l1, qbind, if_pos rfl]
    · unfold f_X9_best; rw [mb.is, qbind, l2, qbind, if_pos rfl]
  · obtain ⟨h6, hx2, h0⟩ := hx
    have wt := w.1 t h6
    have hn := wt.1
    obtain ⟨bk, bs, bc, ra, rb, fr', fa, fb, hT, hs⟩ := q.2.2.2.1 t h6
    by_cases hv1 : v < 0
    · refine ⟨-1, h, A, ?_, ?_, I0, qSame.rf⟩
      · unfold f_X8_best; rw [q.is, qbind, l1, qbind, if_neg qne, if_pos hv1]
      · unfold f_X9_best; rw [mb.is, qbind, l2, qbind, if_neg q10, m_in_neg hv1, qbind, if_pos rfl]
    · by_cases hv2 : v ≤ 1
      · have hin : f_X9_in v 0 1 = some 1 := by rw [m_in, decide_eq_true ⟨hv1, Int32.not_lt.mpr hv2⟩]; rfl
        by_cases h16 : (A.1 t).1 ≤ 16
        · have c16 : nI (A.1 t).1 ≤ (16 : Int32) := by rw [show (16 : Int32) = nI 16 from rfl, qle (by omega) (by decide)]; exact h16
          have X : ∃ h1 mm c, qX h1 A ∧ qSame qCX h h1 ∧ qBest (A.1 t) mm c ∧ f_X8_best (some 1) x v h = some (if v = 0 then nI mm else nI c, h1) := by
            by_cases hb : bk = 0
            · obtain ⟨h1, mm, c, p1, q1, s1, b1, g6, g7⟩ := x_climb q w h6 h0 h16
              refine ⟨h1, mm, c, q1, s1, b1, ?_⟩
              unfold f_X8_best f_X8_best_c48
              rw [q.is, qbind, l1, qbind, if_neg qne, if_neg hv1, if_pos hv2, hT.size, qbind, if_pos c16, hT.known, qbind, if_pos hb, show mGR h (some 1) 7 8 = some (some 42) from qGR (by rw [q.1]; decide) q.2.1 rfl, qbind, p1, qbind]
              by_cases hv : v = 0
              · rw [if_pos hv, if_pos hv, g6, qbind]
              · rw [if_neg hv, if_neg hv, g7, qbind]
            · rcases hs.2.2.2 with z | ⟨z1, z2⟩
              · exact absurd z hb
              · obtain ⟨mm, c, r1, r2, r3⟩ := z2 h0
                refine ⟨h, mm, c, q, qSame.rf, r3, ?_⟩
                unfold f_X8_best f_X8_best_c48
                rw [q.is, qbind, l1, qbind, if_neg qne, if_neg hv1, if_pos hv2, hT.size, qbind, if_pos c16, hT.known, qbind, if_neg hb]
                by_cases hv : v = 0
                · rw [if_pos hv, if_pos hv, hT.bsum, qbind, r1]
                · rw [if_neg hv, if_neg hv, hT.bcol, qbind, r2]
          obtain ⟨h1, mm, c, q1, s1, b1, e1⟩ := X
          have m1 := m.same s1
          obtain ⟨x1, y1, fo1, fr1, ff1, fg1, fw1, mb1, hm1⟩ := m1.b
          obtain ⟨mm', c', b2, e2⟩ := m_best m1 w h6 h0 h16 v
          obtain ⟨rfl, rfl⟩ := qBest_uniq b1 b2
          refine ⟨_, h1, A, e1, ?_, ⟨q1, m1, w⟩, s1.mono fun k z => z.1⟩
          unfold f_X9_best
          rw [mb1.is, qbind, m_tab_yes mb1 hm1 w ⟨h6, hx2, h0⟩, qbind, if_neg q10, hin, qbind, if_neg q10, mb1.orders, qbind, hx2, mb1.order h6, qbind, (hm1 t h6).1, if_pos c16, e2]
        · have c16 : ¬ nI (A.1 t).1 ≤ (16 : Int32) := by rw [show (16 : Int32) = nI 16 from rfl, qle (by omega) (by decide)]; exact h16
          refine ⟨-2, h, A, ?_, ?_, I0, qSame.rf⟩
          · unfold f_X8_best; rw [q.is, qbind, l1, qbind, if_neg qne, if_neg hv1, if_pos hv2, hT.size, qbind, if_neg c16]
          · unfold f_X9_best; rw [mb.is, qbind, l2, qbind, if_neg q10, hin, qbind, if_neg q10, mb.orders, qbind, hx2, mb.order h6, qbind, (hm t h6).1, if_neg c16]
      · refine ⟨-1, h, A, ?_, ?_, I0, qSame.rf⟩
        · unfold f_X8_best; rw [q.is, qbind, l1, qbind, if_neg qne, if_neg hv1, if_neg hv2]
        · unfold f_X9_best; rw [mb.is, qbind, l2, qbind, if_neg q10, m_in, qbind, decide_eq_false (fun z => hv2 (Int32.not_lt.mp z.2)), qif0]
