/-! PURE: best -/
theorem qPl_step {T : qT} (w : qWT T) {s j : Nat} (hs : s < 2 ^ T.1) (hj : j < T.1) (f i : Nat) : (s.testBit j = false → qPl T s f i + 2 * qMl T j f i = qPl T (s ^^^ 2 ^ j) f i + qLl T.1 f i) ∧ (s.testBit j = true → qPl T s f i + qLl T.1 f i = qPl T (s ^^^ 2 ^ j) f i + 2 * qMl T j f i) := by
  have hn := w.1
  unfold qPl qMl qLl
  by_cases c : f + i < T.1
  · rw [if_pos c, if_pos c, if_pos c, if_pos c]
    have hj2 : 2 ^ j < 2 ^ T.1 := Nat.pow_lt_pow_right (by decide) hj
    have b1 := qp_len (Nat.xor_lt_two_pow (w.2.1 (f + i) c) hs) (show T.1 ≤ 32 by omega)
    have b2 := qp_len (Nat.xor_lt_two_pow (w.2.1 (f + i) c) (Nat.xor_lt_two_pow hs hj2)) (show T.1 ≤ 32 by omega)
    have fl := qp_flip (T.2.1 (f + i) ^^^ s) (j := j) (by omega)
    rw [Nat.xor_assoc, Nat.testBit_xor] at fl
    constructor
    · intro z
      rw [z, Bool.xor_false] at fl
      cases hb : (T.2.1 (f + i)).testBit j <;> rw [hb] at fl <;> simp at fl ⊢ <;> omega
    · intro z
      rw [z, Bool.xor_true] at fl
      cases hb : (T.2.1 (f + i)).testBit j <;> rw [hb] at fl <;> simp at fl ⊢ <;> omega
  · rw [if_neg c, if_neg c, if_neg c, if_neg c]
    exact ⟨fun _ => rfl, fun _ => rfl⟩
theorem qX.sum42 {h : mH} {A : qA} (q : qX h A) : mGR h (some 42) 5 0 = some (some 43) ∧ mGR h (some 42) 5 1 = some (some 44) ∧ mIs h (some 42) 5 = some () := by
  have e : h.2 42 = .inr (5, [.ref 43, .ref 44]) := by
    obtain ⟨a1, a2, ⟨f3, a3, a3'⟩, a4, ⟨g, a5, a5'⟩, ⟨g2, a6, a6'⟩, q7⟩ := q
    obtain ⟨a1, a2, a3, a4, ⟨n1, c, d, r, s, a5⟩, a6, a7, a8, a9, ⟨n', c', r', b1⟩, b2, b3, b4, b5, b6, b7, b8, b9, ⟨n'', c1⟩, c2, c3, c4⟩ := q7
    exact b5
  exact ⟨qGR (by rw [q.1]; decide) e rfl, qGR (by rw [q.1]; decide) e rfl, qIs (by rw [q.1]; decide) e⟩
theorem x_sides {T : qT} (w : qWT T) (h16 : T.1 ≤ 16) {s : Nat} (hs : s < 2 ^ T.1) : ∃ x y, f_X6_greaterSides (lN (qD 8 (qPl T s 0))) (lN (qD 8 (qAl T 0))) = some (nI x) ∧ f_X6_greaterSides (lN (qD 8 (qPl T s 8))) (lN (qD 8 (qAl T 8))) = some (nI y) ∧ nI x + nI y = nI (qVl T s) ∧ qVl T s ≤ 256 := by
  have L : ∀ f i, qPl T s f i ≤ qAl T f i ∧ qAl T f i ≤ 16 := by
    intro f i
    unfold qPl qAl
    by_cases c : f + i < T.1
    · rw [if_pos c, if_pos c]; omega
    · rw [if_neg c, if_neg c]; omega
  refine ⟨_, _, x_greater (p := qPl T s 0) (a := qAl T 0) fun i _ => L 0 i, x_greater (p := qPl T s 8) (a := qAl T 8) fun i _ => L 8 i, ?_, ?_⟩
  · rw [qI_add, qVl_split w h16 hs]
  · unfold qVl
    have : ∀ k, k ≤ T.1 → qSum k (fun i => max (T.1 - qp (T.2.1 i ^^^ s)) (qp (T.2.1 i ^^^ s))) ≤ k * 16 := by
      intro k
      induction k with
      | zero => intro _; exact Nat.le_refl 0
      | succ k ih =>
        intro hk
        have h1 := ih (by omega)
        have h2 := qp_len (Nat.xor_lt_two_pow (w.2.1 k (by omega)) hs) (show T.1 ≤ 32 by omega)
        show qSum k _ + max (T.1 - qp (T.2.1 k ^^^ s)) (qp (T.2.1 k ^^^ s)) ≤ (k + 1) * 16
        omega
    have := this T.1 (Nat.le_refl _)
    omega
theorem x_climb {h : mH} {A : qA} {t : Nat} (q : qX h A) (w : qWA A) (h6 : t < 6) (h0 : 0 < (A.1 t).1) (h16 : (A.1 t).1 ≤ 16) : ∃ h' m c, f_X6_climb (some 42) (some (3 + 4 * t)) h = some h' ∧ qX h' A ∧ qSame qCX h h' ∧ qBest (A.1 t) m c ∧ mGI h' (some (3 + 4 * t)) 6 6 = some (nI m) ∧ mGI h' (some (3 + 4 * t)) 6 7 = some (nI c) := by
  have wt := w.1 t h6
  obtain ⟨bk0, bs0, bc0, ra0, rb0, fr0, fa0, fb0, hT0, hs0⟩ := q.2.2.2.1 t h6
  obtain ⟨h1, p1, q1, e1, s1⟩ := x_steps q w h6 h16 (a := 43) (f := 0) (Or.inl ⟨rfl, rfl⟩)
  obtain ⟨h2, p2, q2, e2, s2⟩ := x_steps q1 w h6 h16 (a := 44) (f := 8) (Or.inr ⟨rfl, rfl⟩)
  obtain ⟨g44, e44, u44⟩ := e2
  obtain ⟨g43, e43', u43⟩ := e1
  have e43 : h2.2 43 = .inl (16, .inr (.inl g43)) := (s2.2 43 (by decide)).trans e43'
  obtain ⟨bk, bs, bc, ra, rb, fr, fa, fb, hT, hs⟩ := q2.2.2.2.1 t h6
  have hle : ∀ a, a ≤ 72 → a ≤ h2.1 := fun a ha => by rw [q2.1]; exact ha
  generalize hTT : A.1 t = T at *
  have hn : T.1 ≤ 28 := by omega
  have hA0 : (nI T.1).toInt64 * lN (qD 8 (qLl T.1 0)) = lN (qD 8 (qAl T 0)) := by
    rw [nI_l (by omega), lN_mul, qD_mul]
    congr 1
    refine qD_eq 8 fun i _ => ?_
    unfold qLl qAl
    by_cases c : 0 + i < T.1
    · rw [if_pos c, if_pos c, Nat.mul_one]
    · rw [if_neg c, if_neg c, Nat.mul_zero]
  have hA8 : (nI T.1).toInt64 * lN (qD 8 (qLl T.1 8)) = lN (qD 8 (qAl T 8)) := by
    rw [nI_l (by omega), lN_mul, qD_mul]
    congr 1
    refine qD_eq 8 fun i _ => ?_
    unfold qLl qAl
    by_cases c : 8 + i < T.1
    · rw [if_pos c, if_pos c, Nat.mul_one]
    · rw [if_neg c, if_neg c, Nat.mul_zero]
  obtain ⟨l1, l2, l3⟩ := x_lanes T.1 (by omega)
  have pow : 2 ^ T.1 = 2 ^ (T.1 - 1) * 2 := by rw [← Nat.pow_succ]; congr 1; omega
  have p15 : 2 ^ (T.1 - 1) ≤ 2 ^ 15 := Nat.pow_le_pow_right (by decide) (by omega)
  have ppos := Nat.two_pow_pos (T.1 - 1)
  obtain ⟨x0, y0, gx, gy, gs, -⟩ := x_sides wt h16 (s := 0) (by omega)
  have key := mLoop_inv (b := fun x : Int64 × Int64 × Int32 × Int32 × Int32 × Int32 => f_X6_climb_b84 (some 42) (some (3 + 4 * t)) (nI T.1) (lN (qD 8 (qAl T 0))) (lN (qD 8 (qAl T 8))) x.1 x.2.1 x.2.2.1 x.2.2.2.1 x.2.2.2.2.1 x.2.2.2.2.2 h2) (fun k s => ∃ m c, qVis T k m c ∧ s = (lN (qD 8 (qPl T (qGy k) 0)), lN (qD 8 (qPl T (qGy k) 8)), nI m, nI c, nI (qGy k), nI (k + 1))) (2 ^ (T.1 - 1) - 1) (fun h' => ∃ m c, qX h' A ∧ qSame (qIs4 t) h2 h' ∧ qBest T m c ∧ mGI h' (some (3 + 4 * t)) 6 6 = some (nI m) ∧ mGI h' (some (3 + 4 * t)) 6 7 = some (nI c)) (s0 := (lN (qD 8 (qPl T 0 0)), lN (qD 8 (qPl T 0 8)), nI (qVl T 0), 0, 0, 1)) ⟨qVl T 0, 0, qVis_0 T, rfl⟩ ?_ ?_
  · obtain ⟨h', e3, m, c, q3, s3, b3, g6, g7⟩ := key
    refine ⟨h', m, c, ?_, q3, ((s1.mono fun k z => ⟨by omega, by omega⟩).trans (s2.mono fun k z => ⟨by omega, by omega⟩)).trans (s3.mono (qIs4.cx h6)), b3, g6, g7⟩
    unfold f_X6_climb
    rw [q.sum42.2.2, qbind, hT0.size, qbind, q.sum42.1, qbind, show f_X6_laySteps (some (3 + 4 * t)) 0 (some 43) h = some h1 from p1, qbind, q1.sum42.2.1, qbind, show f_X6_laySteps (some (3 + 4 * t)) 8 (some 44) h1 = some h2 from p2, qbind, l1, qbind, show f_X6_lanes (nI T.1 - 8) = some (lN (qD 8 (qLl T.1 8))) from l3, qbind, show f_X6_plusCounts (some (3 + 4 * t)) 0 h2 = some (lN (qD 8 (qPl T 0 0))) from x_plus hT wt hs.1 h16 (f := 0) (Or.inl rfl), qbind, show f_X6_plusCounts (some (3 + 4 * t)) 8 h2 = some (lN (qD 8 (qPl T 0 8))) from x_plus hT wt hs.1 h16 (f := 8) (Or.inr rfl), qbind, hA0, hA8, gx, qbind, gy, qbind, gs]
    exact e3
  · rintro k s hk ⟨m, c, v, rfl⟩
    obtain ⟨z1, z2, z3, z4⟩ := qTz_ok (s := k + 1) (by omega) (by omega)
    rw [show k + 1 - 1 = k by omega] at z2
    generalize hj : qTz (k + 1) = j at z1 z2 z3 z4
    have hjn : j < T.1 - 1 := by
      have h1 : 2 ^ j ≤ k + 1 := by have := Nat.mod_le (k + 1) (2 ^ (j + 1)); omega
      by_cases c : j < T.1 - 1
      · exact c
      · have := Nat.pow_le_pow_right (show 0 < 2 by decide) (show T.1 - 1 ≤ j by omega); omega
    have hg : qGy k < 2 ^ (T.1 - 1) := qGy_lt (by omega)
    have hg1 : qGy (k + 1) < 2 ^ (T.1 - 1) := qGy_lt (by omega)
    obtain ⟨vm, vc⟩ : m ≤ 256 ∧ c < 2 ^ (T.1 - 1) := by
      obtain ⟨⟨k', k1, k2⟩, v2, -⟩ := v
      have hc : c < 2 ^ (T.1 - 1) := by rw [← k2]; exact qGy_lt (by omega)
      obtain ⟨-, -, -, -, -, b⟩ := x_sides wt h16 (s := c) (by omega)
      exact ⟨by omega, hc⟩
    obtain ⟨xx, yy, sx, sy, ss, sb⟩ := x_sides wt h16 (s := qGy (k + 1)) (by omega)
    have bit : (qGy (k + 1)).testBit j = !(qGy k).testBit j := by rw [z2, Nat.testBit_xor, Nat.testBit_two_pow, decide_eq_true rfl, Bool.xor_true]
    -- the comparison
    have CMP : ∃ s', f_X6_climb_c172 (some 42) (some (3 + 4 * t)) (nI T.1) (lN (qD 8 (qAl T 0))) (lN (qD 8 (qAl T 8))) (lN (qD 8 (qPl T (qGy (k + 1)) 0))) (nI m) (nI c) (nI (qGy (k + 1))) (nI (k + 1)) (lN (qD 8 (qPl T (qGy k) 8))) (if (qGy (k + 1)).testBit j then g44 j else -(g44 j)) h2 = some (.inl s') ∧ ∃ m c, qVis T (k + 1) m c ∧ s' = (lN (qD 8 (qPl T (qGy (k + 1)) 0)), lN (qD 8 (qPl T (qGy (k + 1)) 8)), nI m, nI c, nI (qGy (k + 1)), nI (k + 1 + 1)) := by
      have hi : lN (qD 8 (qPl T (qGy k) 8)) + (if (qGy (k + 1)).testBit j then g44 j else -(g44 j)) = lN (qD 8 (qPl T (qGy (k + 1)) 8)) := by
        rw [u44 j (by omega), bit]
        cases hb : (qGy k).testBit j
        · rw [Bool.not_false, if_pos rfl]
          refine qL_as ?_
          rw [qD_add, qD_add, z2]
          exact qD_eq 8 fun i _ => (qPl_step wt (show qGy k < 2 ^ T.1 by omega) (show j < T.1 by omega) 8 i).1 hb
        · rw [Bool.not_true, if_neg (by decide)]
          refine qL_ns ?_
          rw [qD_add, qD_add, z2]
          exact qD_eq 8 fun i _ => (qPl_step wt (show qGy k < 2 ^ T.1 by omega) (show j < T.1 by omega) 8 i).2 hb
      unfold f_X6_climb_c172
      rw [hi, sx, qbind, sy, qbind, ss, nI_1]
      by_cases c1 : m < qVl T (qGy (k + 1))
      · rw [if_pos (by rw [qlt (by omega) (by omega)]; exact c1)]
        unfold f_X6_climb_c212
        rw [nI_1]
        exact ⟨_, rfl, _, _, qVis_up v (Or.inl c1), rfl⟩
      · rw [if_neg (by rw [qlt (by omega) (by omega)]; exact c1)]
        by_cases c2 : qVl T (qGy (k + 1)) = m
        · rw [if_pos (by rw [c2])]
          by_cases c3 : c ≤ qGy (k + 1)
          · rw [if_pos (by rw [qle (by omega) (by omega)]; exact c3)]
            exact ⟨_, rfl, _, _, qVis_keep v c1 (fun _ => c3), rfl⟩
          · rw [if_neg (by rw [qle (by omega) (by omega)]; exact c3)]
            unfold f_X6_climb_c212
            rw [nI_1]
            exact ⟨_, rfl, _, _, qVis_up v (Or.inr ⟨c2, c3⟩), rfl⟩
        · rw [if_neg (by rw [qeq (by omega) (by omega)]; exact c2)]
          exact ⟨_, rfl, _, _, qVis_keep v c1 (fun z => absurd z c2), rfl⟩
    have lo : lN (qD 8 (qPl T (qGy k) 0)) + (if (qGy (k + 1)).testBit j then g43 j else -(g43 j)) = lN (qD 8 (qPl T (qGy (k + 1)) 0)) := by
      rw [u43 j (by omega), bit]
      cases hb : (qGy k).testBit j
      · rw [Bool.not_false, if_pos rfl]
        refine qL_as ?_
        rw [qD_add, qD_add, z2]
        exact qD_eq 8 fun i _ => (qPl_step wt (show qGy k < 2 ^ T.1 by omega) (show j < T.1 by omega) 0 i).1 hb
      · rw [Bool.not_true, if_neg (by decide)]
        refine qL_ns ?_
        rw [qD_add, qD_add, z2]
        exact qD_eq 8 fun i _ => (qPl_step wt (show qGy k < 2 ^ T.1 by omega) (show j < T.1 by omega) 0 i).2 hb
    have a43 : mAL h2 (some 43) (nI j) = some (g43 j) := qAL (hle _ (by decide)) e43 (by decide) (by omega)
    have a44 : mAL h2 (some 44) (nI j) = some (g44 j) := qAL (hle _ (by decide)) e44 (by decide) (by omega)
    obtain ⟨s', cmp, res⟩ := CMP
    refine ⟨s', ?_, res⟩
    show f_X6_climb_b84 (some 42) (some (3 + 4 * t)) (nI T.1) (lN (qD 8 (qAl T 0))) (lN (qD 8 (qAl T 8))) (lN (qD 8 (qPl T (qGy k) 0))) (lN (qD 8 (qPl T (qGy k) 8))) (nI m) (nI c) (nI (qGy k)) (nI (k + 1)) h2 = some (.inl s')
    unfold f_X6_climb_b84 f_X6_climb_c144
    rw [qI_m1 (by omega), qI_pow (by omega), if_neg (by rw [qle (by omega) (by omega)]; omega), z1, qbind, qI_pow (by omega), qI_xor, ← z2, x_inSet (by omega) (by omega), qbind, q2.sum42.1, q2.sum42.2.1]
    cases hb : (qGy (k + 1)).testBit j
    · rw [hb, if_neg (by decide)] at lo cmp
      rw [qif0, qbind, a43, qbind, qif0, qbind, a44, qbind, lo]
      exact cmp
    · rw [hb, if_pos rfl] at lo cmp
      rw [qif1, qbind, a43, qbind, qif1, qbind, a44, qbind, lo]
      exact cmp
  · rintro s ⟨m, c, v, rfl⟩
    have vb := qVis_best wt h0 (by omega) v
    have hm2 : T.1 * T.1 ≤ 2 * m := by
      obtain ⟨⟨k', k1, k2⟩, v2, -⟩ := v
      have hc : c < 2 ^ (T.1 - 1) := by rw [← k2]; exact qGy_lt (by omega)
      have := qAll_V wt (s := c) (by omega)
      omega
    obtain ⟨h3, p3, t3, s3⟩ := hT.put (j := 6) (v := .int (nI (2 * m - T.1 * T.1))) (bs' := nI (2 * m - T.1 * T.1)) (by decide) rfl
    obtain ⟨h4, p4, t4, s4⟩ := t3.put (j := 7) (v := .int (nI c)) (bc' := nI c) (by decide) rfl
    obtain ⟨h5, p5, t5, s5⟩ := t4.put (j := 5) (v := .int 1) (bk' := 1) (by decide) rfl
    have sA : qSame (qIs4 t) h2 h5 := (s3.trans s4).trans s5
    have q5 : qX h5 A := by
      have := q2.tab h6 sA (T := T) ⟨1, nI (2 * m - T.1 * T.1), nI c, ra, rb, fr, fa, fb, t5, hs.1, hs.2.1, hs.2.2.1, Or.inr ⟨rfl, fun _ => ⟨_, _, rfl, rfl, vb⟩⟩⟩
      have e : qSetT A t T = A := by
        unfold qSetT
        rw [← hTT, qVi]
      rw [e] at this
      exact this
    refine ⟨h5, ?_, 2 * m - T.1 * T.1, c, q5, sA, vb, t5.bsum, t5.bcol⟩
    show f_X6_climb_b84 (some 42) (some (3 + 4 * t)) (nI T.1) (lN (qD 8 (qAl T 0))) (lN (qD 8 (qAl T 8))) _ _ (nI m) (nI c) _ (nI (2 ^ (T.1 - 1) - 1 + 1)) h2 = _
    unfold f_X6_climb_b84
    rw [qI_m1 (by omega), qI_pow (by omega), if_pos (by rw [qle (by omega) (by omega)]; omega), show (2 : Int32) * nI m - nI T.1 * nI T.1 = nI (2 * m - T.1 * T.1) by rw [qL2, qI_mul, qI_mul, qI_sub hm2], p3, qbind, p4, qbind, p5, qbind]
