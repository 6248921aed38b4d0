/-! PURE: bordered -/
def qRo (w n s : Nat) : Nat := qW n (fun q => w.testBit ((q + n - s) % n))
theorem qRo_x {w n s : Nat} (hw : w < 2 ^ n) (hs : s < n) : (w * 2 ^ s ||| w / 2 ^ (n - s)) &&& (2 ^ n - 1) = qRo w n s := by
  refine qW_ext (Nat.and_lt_two_pow _ (qMk_lt n)) fun q hq => ?_
  rw [Nat.testBit_and, Nat.testBit_or, Nat.testBit_mul_two_pow, Nat.testBit_div_two_pow, Nat.testBit_two_pow_sub_one, decide_eq_true hq, Bool.and_true]
  by_cases h1 : s ≤ q
  · rw [decide_eq_true h1, Bool.true_and, Nat.testBit_lt_two_pow (x := w) (i := q + (n - s)) (Nat.lt_of_lt_of_le hw (Nat.pow_le_pow_right (by decide) (by omega))), Bool.or_false, show q + n - s = (q - s) + n by omega, Nat.add_mod_right, Nat.mod_eq_of_lt (by omega)]
  · rw [decide_eq_false h1, Bool.false_and, Bool.false_or, Nat.mod_eq_of_lt (by omega), show q + n - s = q + (n - s) by omega]
theorem x_shifted {w n s : Nat} (hw : w < 2 ^ n) (hs : s < n) (hn : n ≤ 28) : f_X8_shiftedRound (nI w) (nI n) (nI s) = some (nI (qRo w n s)) := by
  have := q31 hn hw
  unfold f_X8_shiftedRound
  rw [qI_shl _ (by omega), qI_sub (by omega), qI_ushr (by omega) (by omega), qI_or, qI_mask (by omega), qI_and, qRo_x hw hs]
theorem qI_sa {a b c : Nat} (h : b ≤ a + c) : nI a - nI b + nI c = nI (a + c - b) := by
  rw [Int32.sub_eq_add_neg, Int32.add_assoc, Int32.add_comm (-(nI b)), ← Int32.add_assoc, ← Int32.sub_eq_add_neg, qI_add, qI_sub h]
theorem qTwo_or (a b : Nat) (j : Nat) : a * 2 ||| b * 2 ^ (j + 1) = (a ||| b * 2 ^ j) * 2 := by
  apply Nat.eq_of_testBit_eq
  intro i
  have e : ∀ x : Nat, x * 2 = x * 2 ^ 1 := fun x => by rw [Nat.pow_one]
  rw [e a, e (a ||| b * 2 ^ j), Nat.testBit_or, Nat.testBit_mul_two_pow, Nat.testBit_mul_two_pow, Nat.testBit_mul_two_pow, Nat.testBit_or, Nat.testBit_mul_two_pow]
  by_cases h1 : 1 ≤ i
  · by_cases h2 : j + 1 ≤ i
    · rw [decide_eq_true h1, decide_eq_true h2, decide_eq_true (show j ≤ i - 1 by omega), show i - (j + 1) = i - 1 - j by omega]; simp
    · rw [decide_eq_true h1, decide_eq_false h2, decide_eq_false (show ¬ j ≤ i - 1 by omega)]; simp
  · rw [decide_eq_false h1, decide_eq_false (by omega)]; simp
def qBP (w n i q : Nat) : Bool := w.testBit ((q + n - i) % n)
def qBR (w n r : Nat) : Nat := if r = 0 then 0 else qRo w n (r - 1) * 2
def qBG (w n i j : Nat) : Nat → Nat := fun r => if r = 0 then 0 else qGr (qBP w n) n i j (r - 1) * 2
theorem qBG_step (w n i j : Nat) : va_up (qBG w n i j) (i + 1) (qBG w n i j (i + 1) ||| (qBP w n i j).toNat * 2 ^ (j + 1)) = qBG w n i (j + 1) := by
  funext r
  by_cases h : r = i + 1
  · rw [h, qVs]
    unfold qBG
    rw [if_neg (by omega), if_neg (by omega), qTwo_or, show i + 1 - 1 = i by omega, ← qGr_step, qVs]
  · rw [qVn h]
    unfold qBG
    by_cases h0 : r = 0
    · rw [if_pos h0, if_pos h0]
    · rw [if_neg h0, if_neg h0, ← qGr_step, qVn (by omega)]
theorem qBG_0 (w n : Nat) : qBG w n 0 0 = fun _ => 0 := by
  funext r
  unfold qBG
  rw [qGr_0]
  by_cases h0 : r = 0
  · rw [if_pos h0]
  · rw [if_neg h0]; exact Nat.zero_mul 2
theorem qBG_end (w n : Nat) {r : Nat} (hr : r < n + 1) : qBG w n n 0 r = qBR w n r := by
  unfold qBG qBR
  by_cases h0 : r = 0
  · rw [if_pos h0, if_pos h0]
  · rw [if_neg h0, if_neg h0, qGr_end _ (by omega)]
    rfl
theorem qBR_lt (w n r : Nat) : qBR w n r < 2 ^ (n + 1) := by
  unfold qBR
  by_cases h0 : r = 0
  · rw [if_pos h0]; exact Nat.two_pow_pos _
  · rw [if_neg h0, Nat.pow_succ]
    exact Nat.mul_lt_mul_of_pos_right (qW_lt _ _) (by decide)
theorem x_bordered {h : mH} {t n w : Nat} {T0 : qT} (q0 : qXt h t T0) (h1 : 1 ≤ n) (hn : n ≤ 27) (hw : w < 2 ^ n) : ∃ h1 h', f_X7_begin (some (3 + 4 * t)) (nI n + 1) h = some h1 ∧ f_X8_bordered_l50 (nI n) (nI w) (nI t) (some (3 + 4 * t)) 0 h1 = some (nI t, h') ∧ qXt h' t (qNew (n + 1) (qBR w n)) ∧ qSame (qIs4 t) h h' := by
  obtain ⟨h1, fr1, p1, b1, z1, s1⟩ := x_begin q0 (n + 1)
  refine ⟨h1, ?_⟩
  have R := mLoop_inv (b := fun x : Int32 × mH => f_X8_bordered_b50 (nI n) (nI w) (nI t) (some (3 + 4 * t)) x.1 x.2) (fun k (s : Int32 × mH) => s.1 = nI k ∧ qSame (qIs4 t) h s.2 ∧ ∃ fr', qBg s.2 t (n + 1) fr' ∧ ∀ i, i < k + 1 → fr' i = nI (qBR w n i)) n (fun r : Int32 × mH => r.1 = nI t ∧ qXt r.2 t (qNew (n + 1) (qBR w n)) ∧ qSame (qIs4 t) h r.2) (s0 := (0, h1)) ⟨rfl, s1, fr1, b1, fun i hi => by rw [show i = 0 by omega, z1 0 (by decide)]; rfl⟩ ?_ ?_
  · obtain ⟨⟨r1, r2⟩, e1, e2, e3⟩ := R
    have e2' : r1 = nI t := e2
    rw [e2'] at e1
    exact ⟨r2, by rw [qI_one, qI_add]; exact p1, e1, e3⟩
  · rintro k ⟨ik, hk⟩ hkn ⟨rfl, sk, fr2, b2', o2⟩
    have b2 : qBg hk t (n + 1) fr2 := b2'
    obtain ⟨h3, p3, b3, s3⟩ := b2.st (i := k + 1) (by omega) (nI (qBR w n (k + 1)))
    have e5 : nI (qRo w n k) <<< ((1 : Int32) &&& 31) = nI (qBR w n (k + 1)) := by
      rw [qI_one, qI_shl _ (by decide), Nat.pow_one]
      unfold qBR
      rw [if_neg (by omega), show k + 1 - 1 = k by omega]
    refine ⟨(nI (k + 1), h3), ?_, rfl, sk.trans s3, _, b3, fun i hi => ?_⟩
    · show f_X8_bordered_b50 (nI n) (nI w) (nI t) (some (3 + 4 * t)) (nI k) hk = _
      unfold f_X8_bordered_b50
      rw [if_neg (by rw [qle (by omega) (by omega)]; omega), b2.rows, qbind, x_shifted hw hkn (by omega), qbind, e5, nI_1, p3, qbind]
    · by_cases hik : i = k + 1
      · rw [hik, qUps]
      · rw [qUpn hik]; exact o2 i (by omega)
  · rintro ⟨ik, hk⟩ ⟨rfl, sk, fr2, b2, o2⟩
    refine ⟨(nI t, hk), ?_, rfl, b2.fin (by omega) o2, sk⟩
    show f_X8_bordered_b50 (nI n) (nI w) (nI t) (some (3 + 4 * t)) (nI n) hk = _
    unfold f_X8_bordered_b50
    rw [if_pos (by rw [qle (by omega) (by omega)]; omega)]
theorem m_bordered {h : mH} {A : qA} (m : qM h A) (w : qWA A) {t n a : Nat} (hf : qFr A t) (h1 : 1 ≤ n) (hn : n ≤ 27) (ha : a < 2 ^ n) (d : qMd h (fun _ => 0)) : ∃ r, f_X9_bordered_l33 (some 51) (nI n) (nI a) 0 h = some r ∧ r.1 = nI t ∧ qM r.2 (qSetT A t (qNew (n + 1) (qBR a n))) ∧ qSame qCM h r.2 := by
  have ha2 := q31 (by omega : n ≤ 28) ha
  unfold f_X9_bordered_l33
  refine m_grid (bi := fun i => fun x : Int32 × mH => f_X9_bordered_b41 (some 51) (nI n) (nI a) (nI i) x.1 x.2) (qBG a n) n n (fun r : Int32 × mH => r.1 = nI t ∧ qM r.2 (qSetT A t (qNew (n + 1) (qBR a n))) ∧ qSame qCM h r.2) (fun i _ => by unfold qBG; rw [qGr_next]) ?_ ?_ ?_ m (by rw [qBG_0]; exact d) ?_
  · intro i h' hi m'
    show f_X9_bordered_b33 (some 51) (nI n) (nI a) (nI i) h' = _
    unfold f_X9_bordered_b33
    rw [if_neg (by rw [qle (by omega) (by omega)]; omega)]
    rfl
  · intro i j h' hi hj m' _ d'
    obtain ⟨h2, p2, m2, d2, s2⟩ := m_lays m' d' (i := i + 1) (j := j + 1) (by omega) (by omega) (qBP a n i j)
    rw [qBG_step] at d2
    refine ⟨h2, ?_, m2, d2, s2⟩
    show f_X9_bordered_b41 (some 51) (nI n) (nI a) (nI i) (nI j) h' = _
    have hz : ¬ nI n = 0 := by rw [qI_zero, qeq (by omega) (by decide)]; omega
    have hm : (j + n - i) % n < n := Nat.mod_lt _ (by omega)
    unfold f_X9_bordered_b41
    rw [if_neg (by rw [qle (by omega) (by omega)]; omega), if_neg hz, qI_sa (by omega), qI_rem (by omega) (by omega) (by omega), m_has (by omega) (by omega), qbind, nI_1, nI_1]
    unfold qBP at p2
    rw [p2, qbind]
  · intro i h' hi
    show f_X9_bordered_b41 (some 51) (nI n) (nI a) (nI i) (nI n) h' = _
    unfold f_X9_bordered_b41
    rw [if_pos (by rw [qle (by omega) (by omega)]; omega), nI_1]
  · intro h' m' s' d'
    obtain ⟨f, f1, f2⟩ := d'
    obtain ⟨h4, p4, m4, s4⟩ := m_comes m' w f1 (n := n + 1) (by omega) (R := qBR a n) (fun i hi => by rw [f2 i (by omega), qBG_end a n hi]) hf
    refine ⟨(nI t, h4), ?_, rfl, m4, (s'.mono fun k z => by unfold qCM; omega).trans (s4.mono qC5.cm)⟩
    show f_X9_bordered_b33 (some 51) (nI n) (nI a) (nI n) h' = _
    unfold f_X9_bordered_b33
    rw [if_pos (by rw [qle (by omega) (by omega)]; omega), nI_1, p4, qbind]
theorem op_bordered {h : mH} {A : qA} (I : qI h A) (x y : Int32) : qStep (f_X8_bordered (some 1) x y) (f_X9_bordered (some 51) x y) h := by
  have I0 := I
  obtain ⟨q, m, w⟩ := I
  obtain ⟨x0, y0, fo, fr, ff, fg, fw, mb, hm⟩ := m.b
  -- the order asked for
  have hx : (x < 1 ∨ 28 ≤ x) ∧ f_X9_in x 1 27 = some 0 ∨ ∃ n, 1 ≤ n ∧ n ≤ 27 ∧ x = nI n ∧ f_X9_in x 1 27 = some 1 := by
    rcases qarg x with hx | ⟨n, hn, rfl⟩
    · have : x < 1 := Int32.lt_trans hx (by decide)
      refine Or.inl ⟨Or.inl this, ?_⟩
      rw [m_in, decide_eq_false (fun z => z.1 this)]; rfl
    · by_cases h1 : n < 1
      · have : nI n < 1 := by rw [qI_one, qlt (by omega) (by decide)]; exact h1
        refine Or.inl ⟨Or.inl this, ?_⟩
        rw [m_in, decide_eq_false (fun z => z.1 this)]; rfl
      · by_cases h2 : n ≤ 27
        · refine Or.inr ⟨n, by omega, h2, rfl, ?_⟩
          rw [m_in, decide_eq_true ⟨by rw [qI_one, qlt (by omega) (by decide)]; exact h1, by rw [show (27 : Int32) = nI 27 from rfl, qlt (by decide) (by omega)]; omega⟩]; rfl
        · refine Or.inl ⟨Or.inr (by rw [qL28, qle (by decide) hn]; omega), ?_⟩
          rw [m_in, decide_eq_false (fun z => z.2 (by rw [show (27 : Int32) = nI 27 from rfl, qlt (by decide) hn]; omega))]; rfl
  rcases hx with ⟨hx, i1⟩ | ⟨n, h1, h2, rfl, i1⟩
  · refine qStep.none (r := -1) I0 ?_ ?_
    · unfold f_X8_bordered
      rcases qFr_or A with hf | ⟨t, hf⟩
      · rw [q.is, qbind, x_empty_no q w hf, qbind, if_pos rfl]
      · rw [q.is, qbind, x_empty_yes q w hf, qbind, if_neg (qnm1 hf.1)]
        by_cases h3 : x < 1
        · rw [if_pos h3]
        · rw [if_neg h3, if_pos (by rcases hx with z | z; exact absurd z h3; exact z)]
    · unfold f_X9_bordered; rw [mb.is, qbind, i1, qbind, if_pos rfl]
  · have z1 : ¬ nI n < 1 := by rw [qI_one, qlt (by omega) (by decide)]; omega
    have z2 : ¬ (28 : Int32) ≤ nI n := by rw [qL28, qle (by decide) (by omega)]; omega
    have hy : (f_X8_isWord y (nI n) = some 0 ∧ f_X9_isRow y (nI n) = some 0) ∨ ∃ a, a < 2 ^ n ∧ y = nI a ∧ f_X8_isWord y (nI n) = some 1 ∧ f_X9_isRow y (nI n) = some 1 := by
      rcases qarg y with hy | ⟨a, ha, rfl⟩
      · exact Or.inl ⟨x_isWord_neg hy _, m_isRow_neg hy _⟩
      · have e1 := x_isWord ha (n := n) (by omega)
        have e2 := m_isRow ha (n := n) (by omega)
        by_cases h3 : a < 2 ^ n
        · rw [decide_eq_true h3] at e1 e2
          exact Or.inr ⟨a, h3, rfl, e1, e2⟩
        · rw [decide_eq_false h3] at e1 e2
          exact Or.inl ⟨e1, e2⟩
    rcases qFr_or A with hf | ⟨t, hf⟩
    · refine qStep.none (r := -1) I0 ?_ ?_
      · unfold f_X8_bordered; rw [q.is, qbind, x_empty_no q w hf, qbind, if_pos rfl]
      · unfold f_X9_bordered
        rw [mb.is, qbind, i1, qbind, if_neg q10]
        rcases hy with ⟨y1, y2⟩ | ⟨a, ha, rfl, y1, y2⟩
        · rw [y2, qbind, if_pos rfl]
        · rw [y2, qbind, if_neg q10, m_full_no m w hf, qbind, if_neg q10]
    · rcases hy with ⟨y1, y2⟩ | ⟨a, ha, rfl, y1, y2⟩
      · refine qStep.none (r := -1) I0 ?_ ?_
        · unfold f_X8_bordered; rw [q.is, qbind, x_empty_yes q w hf, qbind, if_neg (qnm1 hf.1), if_neg z1, if_neg z2, y1, qbind, if_pos rfl]
        · unfold f_X9_bordered; rw [mb.is, qbind, i1, qbind, if_neg q10, y2, qbind, if_pos rfl]
      · have h6 := hf.1
        obtain ⟨h1', h2', p1, p2, t2, s2⟩ := x_bordered (q.2.2.2.1 t h6) h1 h2 ha
        have e1 : f_X8_bordered (some 1) (nI n) (nI a) h = some (nI t, h2') := by
          unfold f_X8_bordered; rw [q.is, qbind, x_empty_yes q w hf, qbind, if_neg (qnm1 hf.1), if_neg z1, if_neg z2, y1, qbind, if_neg q10, q.shelf, qbind, q.at h6, qbind, p1, qbind, p2]
        have s2' := s2.mono (qIs4.cx h6)
        have m1 := m.same s2'
        obtain ⟨h3, p3, m3, s3, g, g1, g2⟩ := m_clears m1
        obtain ⟨⟨r4, h4⟩, p4, r4e, m4, s4⟩ := m_bordered m3 w hf h1 h2 ha ⟨g, g1, g2⟩
        have r4e' : r4 = nI t := r4e
        have e2 : f_X9_bordered (some 51) (nI n) (nI a) h2' = some (nI t, h4) := by
          unfold f_X9_bordered
          rw [m1.is, qbind, i1, qbind, if_neg q10, y2, qbind, if_neg q10, m_full_yes m1 w hf, qbind, if_pos rfl, p3, qbind, p4, r4e']
        exact qStep.mk e1 (q.tab h6 s2 t2) s2' e2 m4 ((s3.mono fun k z => by unfold qCM; omega).trans s4) (w.tab (qNew_w (by omega) fun i _ => qBR_lt a n i))
