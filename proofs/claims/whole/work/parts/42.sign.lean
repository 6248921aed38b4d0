/-! PURE: a line is signed -/
theorem qx1 (a : Nat) : (a ^^^ 1) / 2 = a / 2 ∧ (a ^^^ 1) % 2 = 1 - a % 2 := by
  constructor
  · have h1 := @Nat.shiftRight_xor_distrib 1 a 1
    rw [Nat.shiftRight_eq_div_pow, Nat.shiftRight_eq_div_pow] at h1
    have h2 : a / 2 ^ 1 ^^^ 1 >>> 1 = a / 2 := by
      show a / 2 ^^^ 0 = a / 2
      rw [Nat.xor_zero]
    rw [h2] at h1
    exact h1
  · have hz := @Nat.xor_mod_two_eq_one a 1
    have := qPar a
    omega
def qSign (T : qT) (row : Bool) (i : Nat) : qT :=
  if row then (T.1, va_up T.2.1 i (T.2.1 i ^^^ qMk T.1), va_up T.2.2.1 i (T.2.2.1 i ^^^ 1), T.2.2.2.1, T.2.2.2.2)
  else (T.1, fun k => T.2.1 k ^^^ 2 ^ i, T.2.2.1, va_up T.2.2.2.1 i (T.2.2.2.1 i ^^^ 1), T.2.2.2.2)
theorem qx56 {a : Nat} (h : a < 56) : a ^^^ 1 < 56 := by have := qx1 a; omega
theorem qMk_lt (n : Nat) : qMk n < 2 ^ n := by unfold qMk; have := Nat.two_pow_pos n; omega
theorem qSign_w {T : qT} (w : qWT T) (row : Bool) {i : Nat} (hi : i < T.1) : qWT (qSign T row i) := by
  obtain ⟨w1, w2, w3, w4⟩ := w
  cases row
  · refine ⟨w1, fun k hk => ?_, w3, fun k hk => ?_⟩
    · exact Nat.xor_lt_two_pow (w2 k hk) (Nat.pow_lt_pow_right (by decide) hi)
    · show va_up T.2.2.2.1 i (T.2.2.2.1 i ^^^ 1) k < 56
      by_cases hki : k = i
      · rw [hki, qVs]; exact qx56 (w4 i hi)
      · rw [qVn hki]; exact w4 k hk
  · refine ⟨w1, fun k hk => ?_, fun k hk => ?_, w4⟩
    · show va_up T.2.1 i (T.2.1 i ^^^ qMk T.1) k < 2 ^ T.1
      by_cases hki : k = i
      · rw [hki, qVs]; exact Nat.xor_lt_two_pow (w2 i hi) (qMk_lt _)
      · rw [qVn hki]; exact w2 k hk
    · show va_up T.2.2.1 i (T.2.2.1 i ^^^ 1) k < 56
      by_cases hki : k = i
      · rw [hki, qVs]; exact qx56 (w3 i hi)
      · rw [qVn hki]; exact w3 k hk
theorem qSign_n (T : qT) (row : Bool) (i : Nat) : (qSign T row i).1 = T.1 := by cases row <;> rfl
theorem x_signLine {h : mH} {t : Nat} {T : qT} (q : qXt h t T) (w : qWT T) (row : Bool) {i : Nat} (hi : i < T.1) : ∃ h', f_X7_signLine (some (3 + 4 * t)) (qB2I row) (nI i) h = some h' ∧ qXt h' t (qSign T row i) ∧ qSame (qIs4 t) h h' := by
  obtain ⟨bk, bs, bc, ra, rb, fr, fa, fb, hT, hs⟩ := q
  have hn := w.1
  unfold f_X7_signLine
  obtain ⟨h1, p1, t1, s1⟩ := hT.put (j := 5) (v := .int 0) (bk' := 0) (by decide) rfl
  rw [hT.is, qbind, p1, qbind]
  cases row
  · rw [qif0]
    unfold f_X7_signLine_l35
    refine mLoop_inv (fun k (s : Int32 × mH) => s.1 = nI k ∧ qSame (qIs4 t) h s.2 ∧ ∃ frk, qTX s.2 t (nI T.1) (qB2I T.2.2.2.2) 0 bs bc ra rb frk fa fb ∧ (∀ j, j < k → frk j = nI (T.2.1 j ^^^ 2 ^ i)) ∧ ∀ j, k ≤ j → frk j = fr j) T.1 _ ⟨rfl, s1, fr, t1, fun j hj => absurd hj (Nat.not_lt_zero j), fun _ _ => rfl⟩ ?_ ?_
    · rintro k ⟨ik, hk⟩ hkn ⟨rfl, sk, frk, tk, a1, a2⟩
      obtain ⟨h2, p2, t2, s2⟩ := tk.stRow (i := k) (by omega) (nI (T.2.1 k ^^^ 2 ^ i))
      refine ⟨(nI (k + 1), h2), ?_, rfl, sk.trans s2, _, t2, fun j hj => ?_, fun j hj => ?_⟩
      · show f_X7_signLine_b35 _ _ _ _ = _
        unfold f_X7_signLine_b35
        rw [tk.size, qbind, if_neg (by rw [qle (by omega) (by omega)]; omega), tk.rows, qbind, tk.row (by omega), qbind, a2 k (Nat.le_refl k), hs.1 k hkn, qI_pow (by omega), qI_xor, p2, qbind, nI_1]
      · by_cases hjk : j = k
        · rw [hjk, qUps]
        · rw [qUpn hjk]; exact a1 j (by omega)
      · rw [qUpn (by omega)]; exact a2 j (by omega)
    · rintro ⟨ik, hk⟩ ⟨rfl, sk, frk, tk, a1, a2⟩
      obtain ⟨h2, p2, t2, s2⟩ := tk.stB (i := i) (by omega) (nI (T.2.2.2.1 i ^^^ 1))
      refine ⟨h2, ?_, ⟨0, bs, bc, ra, rb, frk, fa, _, t2, a1, hs.2.1, fun j hj => ?_, Or.inl rfl⟩, sk.trans s2⟩
      · show f_X7_signLine_b35 _ _ _ _ = _
        unfold f_X7_signLine_b35
        rw [tk.size, qbind, if_pos (by rw [qle (by omega) (by omega)]; omega), tk.trb, qbind, tk.mb (by omega), qbind, hs.2.2.1 i hi, qI_one, qI_xor, p2, qbind]
      · show upd fb i _ j = nI (va_up T.2.2.2.1 i (T.2.2.2.1 i ^^^ 1) j)
        by_cases hji : j = i
        · rw [hji, qUps, qVs]
        · rw [qUpn hji, qVn hji]; exact hs.2.2.1 j hj
  · rw [qif1]
    obtain ⟨h2, p2, t2, s2⟩ := t1.stRow (i := i) (by omega) (nI (T.2.1 i ^^^ qMk T.1))
    obtain ⟨h3, p3, t3, s3⟩ := t2.stA (i := i) (by omega) (nI (T.2.2.1 i ^^^ 1))
    refine ⟨h3, ?_, ⟨0, bs, bc, ra, rb, _, _, fb, t3, fun j hj => ?_, fun j hj => ?_, hs.2.2.1, Or.inl rfl⟩, (s1.trans s2).trans s3⟩
    · rw [t1.rows, qbind, t1.row (by omega), qbind, x_mask t1 hn, qbind, hs.1 i hi, qI_xor, show 2 ^ T.1 - 1 = qMk T.1 from rfl, p2, qbind, t2.tra, qbind, t2.ma (by omega), qbind, hs.2.1 i hi, qI_one, qI_xor, p3, qbind]
    · show upd fr i _ j = nI (va_up T.2.1 i (T.2.1 i ^^^ qMk T.1) j)
      by_cases hji : j = i
      · rw [hji, qUps, qVs]
      · rw [qUpn hji, qVn hji]; exact hs.1 j hj
    · show upd fa i _ j = nI (va_up T.2.2.1 i (T.2.2.1 i ^^^ 1) j)
      by_cases hji : j = i
      · rw [hji, qUps, qVs]
      · rw [qUpn hji, qVn hji]; exact hs.2.1 j hj
section QSG
variable {h : mH} {A : qA} {t : Nat} {c x y : Int32} {fo fr ff fg fw : Nat → Int32}
theorem m_trailAt (mb : qMb h c x y fo fr ff fg fw) (row : Bool) (k : Nat) : f_X9_trailAt (some 51) (nI t) (qB2I row) (nI k) h = some (nI (28 * (2 * t + (!row).toNat) + k)) := by
  unfold f_X9_trailAt f_X9_trailAt_c14
  rw [mb.is, qbind, qL28, qL2]
  cases row
  · rw [qif0, qI_mul, qI_one, qI_add, qI_mul, qI_add]; rfl
  · rw [qif1, qI_mul, qI_zero, qI_add, qI_mul, qI_add]; rfl
/-- what the model's tables are after a line is signed -/
theorem m_signs_end (mb : qMb h c x y fo fr ff fg fw) (w : qWA A) (h6 : t < 6) (row : Bool) {i : Nat} (hi : i < (A.1 t).1) {fr0 : Nat → Int32} (hm : ∀ u, u < 6 → qMt fo fr0 ff fg fw u (A.1 u)) (a1 : ∀ j, j < (A.1 t).1 → fr (28 * t + j) = nI ((qSign (A.1 t) row i).2.1 j)) (a2 : ∀ p, (∀ j, j < 28 → p ≠ 28 * t + j) → fr p = fr0 p) :
    ∃ h', f_X9_signs_c69 (some 51) (nI t) (qB2I row) (nI i) h = some h' ∧ qSame qC5 h h' ∧ ∃ fg', qMb h' c x y fo fr ff fg' fw ∧ ∀ u, u < 6 → qMt fo fr ff fg' fw u ((qSetT A t (qSign (A.1 t) row i)).1 u) := by
  have hn := (w.1 t h6).1
  have hlt : 28 * (2 * t + (!row).toNat) + i < 336 := by cases row <;> simp <;> omega
  obtain ⟨c1, c2, c3, c4, c5, c6⟩ := hm t h6
  have hg : ∃ mk : Nat, fg (28 * (2 * t + (!row).toNat) + i) = nI (mk % 2) ∧ mk = (if row then (A.1 t).2.2.1 i else (A.1 t).2.2.2.1 i) := by
    cases row
    · exact ⟨_, (c4 i hi).2, rfl⟩
    · exact ⟨_, (c3 i hi).2, rfl⟩
  obtain ⟨mk, g1, g2⟩ := hg
  obtain ⟨h', p, tb, s⟩ := mb.st55 hlt (nI ((mk ^^^ 1) % 2))
  refine ⟨h', ?_, s, _, tb, fun u hu => ?_⟩
  · unfold f_X9_signs_c69
    rw [mb.signed, qbind, m_trailAt mb row i, qbind, mb.signedI hlt, qbind, g1, qI_one, qI_xor]
    have : mk % 2 ^^^ 1 = (mk ^^^ 1) % 2 := by rw [(qx1 mk).2]; rcases qPar mk with z | z <;> rw [z] <;> rfl
    rw [this, p, qbind]
  · by_cases hut : u = t
    · subst hut
      show qMt _ _ _ _ _ u (va_up A.1 u (qSign (A.1 u) row i) u)
      rw [qVs]
      cases row
      · refine ⟨c1, a1, fun j hj => ⟨(c3 j hj).1, ?_⟩, fun j hj => ?_, c5, c6⟩
        · rw [qUpn (by simp; have : j < (A.1 u).1 := hj; omega)]; exact (c3 j hj).2
        · show ff _ = nI (va_up (A.1 u).2.2.2.1 i ((A.1 u).2.2.2.1 i ^^^ 1) j / 2) ∧ _ = nI (va_up (A.1 u).2.2.2.1 i ((A.1 u).2.2.2.1 i ^^^ 1) j % 2)
          have hj' : j < (A.1 u).1 := hj
          by_cases hji : j = i
          · subst hji
            rw [qVs, (qx1 _).1]
            refine ⟨(c4 j hj').1, ?_⟩
            have e : 28 * (2 * u + 1) + j = 28 * (2 * u + (!false).toNat) + j := rfl
            rw [e, qUps, g2]; rfl
          · rw [qVn hji]
            exact ⟨(c4 j hj').1, (qUpn (by simp; omega)).trans (c4 j hj').2⟩
      · refine ⟨c1, a1, fun j hj => ?_, fun j hj => ⟨(c4 j hj).1, ?_⟩, c5, c6⟩
        · show ff _ = nI (va_up (A.1 u).2.2.1 i ((A.1 u).2.2.1 i ^^^ 1) j / 2) ∧ _ = nI (va_up (A.1 u).2.2.1 i ((A.1 u).2.2.1 i ^^^ 1) j % 2)
          have hj' : j < (A.1 u).1 := hj
          by_cases hji : j = i
          · subst hji
            rw [qVs, (qx1 _).1]
            refine ⟨(c3 j hj').1, ?_⟩
            have e : 28 * (2 * u) + j = 28 * (2 * u + (!true).toNat) + j := rfl
            rw [e, qUps, g2]; rfl
          · rw [qVn hji]
            exact ⟨(c3 j hj').1, (qUpn (by simp; omega)).trans (c3 j hj').2⟩
        · rw [qUpn (by simp; have : j < (A.1 u).1 := hj; omega)]; exact (c4 j hj).2
    · show qMt _ _ _ _ _ u (va_up A.1 t (qSign (A.1 t) row i) u)
      rw [qVn hut]
      refine (hm u hu).keep (w.1 u hu).1 rfl (fun j hj => a2 _ fun j' hj' => by omega) (fun j hj => ⟨rfl, qUpn ?_⟩) ⟨rfl, rfl⟩
      cases row <;> simp <;> omega
theorem m_signs (mb : qMb h c x y fo fr ff fg fw) (w : qWA A) (h6 : t < 6) (row : Bool) {i : Nat} (hi : i < (A.1 t).1) (hm : ∀ u, u < 6 → qMt fo fr ff fg fw u (A.1 u)) :
    ∃ h', f_X9_signs (some 51) (nI t) (qB2I row) (nI i) h = some h' ∧ qSame qC5 h h' ∧ ∃ fr' fg', qMb h' c x y fo fr' ff fg' fw ∧ ∀ u, u < 6 → qMt fo fr' ff fg' fw u ((qSetT A t (qSign (A.1 t) row i)).1 u) := by
  have wt := w.1 t h6
  have hn := wt.1
  obtain ⟨c1, c2, c3, c4, c5, c6⟩ := hm t h6
  unfold f_X9_signs
  rw [mb.is, qbind]
  cases row
  · rw [qif0]
    unfold f_X9_signs_l34
    have R := mLoop_inv (b := fun x : Int32 × mH => f_X9_signs_b34 (some 51) (nI t) (qB2I false) (nI i) x.1 x.2) (fun k (s : Int32 × mH) => s.1 = nI k ∧ qSame qC5 h s.2 ∧ ∃ frk, qMb s.2 c x y fo frk ff fg fw ∧ (∀ j, j < k → frk (28 * t + j) = nI ((A.1 t).2.1 j ^^^ 2 ^ i)) ∧ ∀ p, (∀ j, j < k → p ≠ 28 * t + j) → frk p = fr p) (A.1 t).1 (fun h' => qSame qC5 h h' ∧ ∃ fr' fg', qMb h' c x y fo fr' ff fg' fw ∧ ∀ u, u < 6 → qMt fo fr' ff fg' fw u ((qSetT A t (qSign (A.1 t) false i)).1 u)) (s0 := (nI 0, h)) ⟨rfl, qSame.rf, fr, mb, fun j hj => absurd hj (Nat.not_lt_zero j), fun _ _ => rfl⟩ ?_ ?_
    · exact R
    · rintro k ⟨ik, hk⟩ hkn ⟨rfl, sk, frk, tk, a1, a2⟩
      obtain ⟨h2, p2, t2, s2⟩ := tk.st53 (i := 28 * t + k) (by omega) (nI ((A.1 t).2.1 k ^^^ 2 ^ i))
      refine ⟨(nI (k + 1), h2), ?_, rfl, sk.trans s2, _, t2, fun j hj => ?_, fun p hp => ?_⟩
      · show f_X9_signs_b34 _ _ _ _ _ _ = _
        unfold f_X9_signs_b34
        rw [tk.orders, qbind, tk.order h6, qbind, c1, if_neg (by rw [qle (by omega) (by omega)]; omega), tk.rows, qbind, qL28, qI_mul, qI_add, tk.row (by omega), qbind, a2 _ (fun j hj => by omega), c2 k hkn, qI_pow (by omega), qI_xor, p2, qbind, nI_1]
      · by_cases hjk : j = k
        · rw [hjk, qUps]
        · rw [qUpn (by omega)]; exact a1 j (by omega)
      · rw [qUpn (hp k (by omega))]; exact a2 p fun j hj => hp j (by omega)
    · rintro ⟨ik, hk⟩ ⟨rfl, sk, frk, tk, a1, a2⟩
      obtain ⟨h2, p2, s2, fg', tb, hm'⟩ := m_signs_end (fr0 := fr) tk w h6 false hi hm a1 (fun p hp => a2 p fun j hj => hp j (by omega))
      refine ⟨h2, ?_, sk.trans s2, _, _, tb, hm'⟩
      show f_X9_signs_b34 _ _ _ _ _ _ = _
      unfold f_X9_signs_b34
      rw [tk.orders, qbind, tk.order h6, qbind, c1, if_pos (by rw [qle (by omega) (by omega)]; omega), p2]
      rfl
  · rw [qif1]
    obtain ⟨h1, p1, t1, s1⟩ := mb.st53 (i := 28 * t + i) (by omega) (nI ((A.1 t).2.1 i ^^^ qMk (A.1 t).1))
    obtain ⟨h2, p2, s2, fg', tb, hm'⟩ := m_signs_end (fr0 := fr) t1 w h6 true hi hm (fun j hj => by
      show upd fr _ _ _ = nI (va_up (A.1 t).2.1 i ((A.1 t).2.1 i ^^^ qMk (A.1 t).1) j)
      by_cases hji : j = i
      · rw [hji, qUps, qVs]
      · rw [qUpn (by omega), qVn hji]; exact c2 j hj) (fun p hp => qUpn (hp i (by omega)))
    refine ⟨h2, ?_, s1.trans s2, _, _, tb, hm'⟩
    rw [mb.rows, qbind, qL28, qI_mul, qI_add, mb.row (by omega), qbind, mb.orders, qbind, mb.order h6, qbind, c1, c2 i hi, qI_mask (by omega), qI_xor, show 2 ^ (A.1 t).1 - 1 = qMk (A.1 t).1 from rfl, p1, qbind, p2]
end QSG
theorem op_sign {h : mH} {A : qA} (I : qI h A) (x i : Int32) (row : Bool) : qStep (f_X8_sign (some 1) x (qB2I row) i) (f_X9_sign (some 51) x (qB2I row) i) h := by
  have L := qLn2 I x i
  have I0 := I
  obtain ⟨q, m, w⟩ := I
  obtain ⟨x0, y0, fo, fr, ff, fg, fw, mb, hm⟩ := m.b
  rcases L with ⟨l1, l2, -⟩ | ⟨t, hx, l1, -, l3, l4⟩ | ⟨t, k, hx, hk, rfl, l1, -, l3, l4⟩
  · refine qStep.none (r := 0) I0 ?_ ?_
    · unfold f_X8_sign; rw [q.is, qbind, l1, qbind, if_pos rfl]
    · unfold f_X9_sign; rw [mb.is, qbind, l2, qbind, if_pos rfl]
  · refine qStep.none (r := 0) I0 ?_ ?_
    · unfold f_X8_sign; rw [q.is, qbind, l1, qbind, if_neg qne, l3, qbind, if_pos rfl]
    · unfold f_X9_sign; rw [mb.is, qbind, l4, qbind, if_pos rfl]
  · have h6 := hx.1
    have wt := w.1 t h6
    obtain ⟨h1, p1, t1, s1⟩ := x_signLine (q.2.2.2.1 t h6) wt row hk
    have e1 : f_X8_sign (some 1) x (qB2I row) (nI k) h = some (1, h1) := by
      unfold f_X8_sign; rw [q.is, qbind, l1, qbind, if_neg qne, l3, qbind, if_neg q10, p1, qbind]
    have s1' := s1.mono (qIs4.cx h6)
    have m1 := m.same s1'
    obtain ⟨x2, y2, fo2, fr2, ff2, fg2, fw2, mb2, hm2⟩ := m1.b
    obtain ⟨h2, p2, s2, fr3, fg3, tb, hm3⟩ := m_signs mb2 w h6 row hk hm2
    have l5 := m_line mb2 hm2 w hx (k := k) (by have := wt.1; omega)
    rw [decide_eq_true hk] at l5
    have e2 : f_X9_sign (some 51) x (qB2I row) (nI k) h1 = some (1, h2) := by
      unfold f_X9_sign; rw [mb2.is, qbind, l5, qbind, qif1, hx.2.1, p2, qbind]
    exact qStep.mk (A' := qSetT A t (qSign (A.1 t) row k)) e1 (q.tab h6 s1 t1) s1' e2 (m1.upd s2 tb hm3 rfl) (s2.mono qC5.cm) (w.tab (qSign_w wt row hk))
