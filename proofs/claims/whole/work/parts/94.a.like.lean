/-! PURE: like -/
def qCm (T U : qT) : Bool := decide (T.1 = U.1) && (decide (T.1 ≤ 12) && (decide (T.1 ≤ 6) || (decide ((qB2 T T.1).1 = 0) && decide ((qB2 U U.1).1 = 0))))
theorem qFnd_ok {ok : (Nat → Nat) → Nat → Bool} {N : Nat} (hok : ∀ {c c' : Nat → Nat} {k : Nat}, (∀ e, e ≤ k → c' e = c e) → ok c' k = ok c k) : ∀ {d k : Nat} {c r : Nat → Nat}, qFnd ok N d k c = some r → ∀ e, k ≤ e → e < k + d → ok r e = true := by
  intro d
  induction d with
  | zero => intro k c r _ e h1 h2; omega
  | succ d ih =>
    intro k c r h e h1 h2
    obtain ⟨u, a1, a2, a3, a4⟩ := qScan_some.mp h
    by_cases hk : ok (va_up c k u) k = true
    · rw [if_pos hk] at a3
      by_cases z : e = k
      · subst z
        rw [← hk]
        exact hok fun e' he' => (qFnd_below a3).1 e' (by omega)
      · exact ih a3 e (by omega) (by omega)
    · rw [if_neg hk] at a3; cases a3
def qO33 (n : Int32) (r s : Option Nat) (c d : Int32) : mC := .inr (3, [.int n, va_rf r, va_rf s, .int c, .int d, .ref 34, .ref 35, .ref 36, .ref 37])
section QLK
variable {h : mH} {A : qA} {t u : Nat}
theorem x_canMatch (q : qX h A) (w : qWA A) (h6 : t < 6) (h6' : u < 6) : f_X8_canMatch (some (3 + 4 * t)) (some (3 + 4 * u)) h = some (qB2I (qCm (A.1 t) (A.1 u))) := by
  have wt := w.1 t h6
  have wu := w.1 u h6'
  have hn := wt.1
  have hn' := wu.1
  obtain ⟨bk, bs, bc, ra, rb, fr, fa, fb, hT, hs⟩ := q.2.2.2.1 t h6
  obtain ⟨bk', bs', bc', ra', rb', fr', fa', fb', hT', hs'⟩ := q.2.2.2.1 u h6'
  have s1 := x_firstSlant (q.2.2.2.1 t h6) wt
  have s2 := x_firstSlant (q.2.2.2.1 u h6') wu
  unfold f_X8_canMatch qCm
  rw [hT.size, qbind, hT'.size, qbind]
  by_cases c1 : (A.1 t).1 = (A.1 u).1
  · rw [if_pos (by rw [c1]), qbind, decide_eq_true c1, Bool.true_and]
    by_cases c2 : (A.1 t).1 ≤ 12
    · rw [if_pos (by rw [show (12 : Int32) = nI 12 from rfl, qle (by omega) (by decide)]; exact c2), qbind, decide_eq_true c2, Bool.true_and]
      by_cases c3 : (A.1 t).1 ≤ 6
      · rw [if_pos (by rw [qL6, qle (by omega) (by decide)]; exact c3), decide_eq_true c3]; rfl
      · rw [if_neg (by rw [qL6, qle (by omega) (by decide)]; exact c3), decide_eq_false c3, Bool.false_or, s1, qbind]
        by_cases c4 : (qB2 (A.1 t) (A.1 t).1).1 = 0
        · rw [if_pos ((qB2_iff hn).mpr c4), s2, qbind, decide_eq_true c4, Bool.true_and]
          by_cases c5 : (qB2 (A.1 u) (A.1 u).1).1 = 0
          · rw [if_pos ((qB2_iff hn').mpr c5), decide_eq_true c5]; rfl
          · rw [if_neg (fun z => c5 ((qB2_iff hn').mp z)), decide_eq_false c5]; rfl
        · rw [if_neg (fun z => c4 ((qB2_iff hn).mp z)), decide_eq_false c4]; rfl
    · rw [if_neg (by rw [show (12 : Int32) = nI 12 from rfl, qle (by omega) (by decide)]; exact c2), decide_eq_false c2]; rfl
  · rw [if_neg (by rw [qeq (by omega) (by omega)]; exact c1), decide_eq_false c1]; rfl
theorem m_isPerp (m : qM h A) (w : qWA A) (h6 : t < 6) : ∃ h', f_X9_isPerpendicular (some 51) (nI t) h = some (qB2I (decide ((qB2 (A.1 t) (A.1 t).1).1 = 0)), h') ∧ qM h' A ∧ qSame (fun k => k = 51) h h' := by
  have wt := w.1 t h6
  have hn := wt.1
  obtain ⟨x0, y0, fo, fr, ff, fg, fw, mb, hm⟩ := m.b
  obtain ⟨h1, p1, mb1, s1⟩ := m_laysBad mb (hm t h6) h6 wt
  have hle := qB2_le (A.1 t) (A.1 t).1 hn hn
  refine ⟨h1, ?_, m.pf s1 mb1, s1⟩
  unfold f_X9_isPerpendicular
  rw [mb.is, qbind, p1, qbind, mb1.g12, qbind]
  by_cases c : (qB2 (A.1 t) (A.1 t).1).1 = 0
  · rw [if_pos (by rw [c]; rfl), decide_eq_true c]; rfl
  · rw [if_neg (by rw [qI_zero, qeq (by omega) (by decide)]; exact c), decide_eq_false c]; rfl
theorem m_canAsk (m : qM h A) (w : qWA A) (h6 : t < 6) (h6' : u < 6) : ∃ h', f_X9_canAsk (some 51) (nI t) (nI u) h = some (qB2I (qCm (A.1 t) (A.1 u)), h') ∧ qM h' A ∧ qSame (fun k => k = 51) h h' := by
  have hn := (w.1 t h6).1
  have hn' := (w.1 u h6').1
  obtain ⟨x0, y0, fo, fr, ff, fg, fw, mb, hm⟩ := m.b
  unfold f_X9_canAsk qCm
  rw [mb.is, qbind, mb.orders, qbind, mb.order h6, qbind, qbind, mb.order h6', qbind, (hm t h6).1, (hm u h6').1]
  by_cases c1 : (A.1 t).1 = (A.1 u).1
  · rw [if_pos (by rw [c1]), decide_eq_true c1, Bool.true_and]
    by_cases c2 : (A.1 t).1 ≤ 12
    · rw [if_pos (by rw [show (12 : Int32) = nI 12 from rfl, qle (by omega) (by decide)]; exact c2), decide_eq_true c2, Bool.true_and]
      by_cases c3 : (A.1 t).1 ≤ 6
      · rw [if_pos (by rw [qL6, qle (by omega) (by decide)]; exact c3), decide_eq_true c3]
        exact ⟨h, rfl, m, qSame.rf⟩
      · rw [if_neg (by rw [qL6, qle (by omega) (by decide)]; exact c3), decide_eq_false c3, Bool.false_or]
        obtain ⟨h1, p1, m1, s1⟩ := m_isPerp m w h6
        rw [p1, qbind]
        by_cases c4 : (qB2 (A.1 t) (A.1 t).1).1 = 0
        · obtain ⟨h2, p2, m2, s2⟩ := m_isPerp m1 w h6'
          rw [decide_eq_true c4, Bool.true_and]
          show ∃ h', (if qB2I true = 0 then _ else _) = _ ∧ _
          rw [qif1, p2, qbind]
          refine ⟨h2, ?_, m2, s1.trans s2⟩
          show (if qB2I (decide ((qB2 (A.1 u) (A.1 u).1).1 = 0)) = 0 then some ((0 : Int32), h2) else some (1, h2)) = _
          cases decide ((qB2 (A.1 u) (A.1 u).1).1 = 0) <;> rfl
        · rw [decide_eq_false c4]
          exact ⟨h1, rfl, m1, s1⟩
    · rw [if_neg (by rw [show (12 : Int32) = nI 12 from rfl, qle (by omega) (by decide)]; exact c2), decide_eq_false c2]
      exact ⟨h, rfl, m, qSame.rf⟩
  · rw [if_neg (by rw [qeq (by omega) (by omega)]; exact c1), decide_eq_false c1]
    exact ⟨h, rfl, m, qSame.rf⟩
theorem qCm_n {T U : qT} (h : qCm T U = true) : T.1 = U.1 ∧ T.1 ≤ 12 := by
  unfold qCm at h
  rw [Bool.and_eq_true, Bool.and_eq_true, decide_eq_true_eq, decide_eq_true_eq] at h
  exact ⟨h.1, h.2.1⟩
theorem qW_true (n : Nat) : qW n (fun _ => true) = 2 ^ n - 1 := by
  symm
  refine qW_ext (by have := Nat.two_pow_pos n; omega) fun i hi => ?_
  rw [Nat.testBit_two_pow_sub_one, decide_eq_true hi]
theorem x_lay (q : qX h A) (w : qWA A) (h6 : t < 6) (h6' : u < 6) {n : Nat} (ht : (A.1 t).1 = n) (hu : (A.1 u).1 = n) (h0 : 0 < n) (hn : n ≤ 12) (R S : Nat → Nat) : ∃ h', f_X4_lay (some 33) (some (3 + 4 * t)) (some (3 + 4 * u)) h = some h' ∧ qX h' A ∧ qSame qC33 h h' ∧ ∀ c, qWk h' t u n R S c 0 := by
  obtain ⟨n0, c0, d0, r0, s0, e33⟩ : ∃ (n c d : Int32) (r s : Option Nat), h.2 33 = .inr (3, [.int n, va_rf r, va_rf s, .int c, .int d, .ref 34, .ref 35, .ref 36, .ref 37]) := by
    obtain ⟨a1, a2, ⟨f3, a3, a3'⟩, a4, ⟨g, a5, a5'⟩, ⟨g2, a6, a6'⟩, q7⟩ := q
    exact q7.2.2.2.2.1
  obtain ⟨⟨f34, e34⟩, ⟨f35, e35⟩, ⟨f36, e36⟩, ⟨f37, e37⟩⟩ : qArr h 34 12 ∧ qArr h 35 156 ∧ qArr h 36 156 ∧ qArr h 37 13 := by
    obtain ⟨a1, a2, ⟨f3, a3, a3'⟩, a4, ⟨g, a5, a5'⟩, ⟨g2, a6, a6'⟩, q7⟩ := q
    exact ⟨q7.2.2.2.2.2.1, q7.2.2.2.2.2.2.1, q7.2.2.2.2.2.2.2.1, q7.2.2.2.2.2.2.2.2.1⟩
  have hle : ∀ {h' : mH}, qX h' A → 33 ≤ h'.1 := fun q' => by rw [q'.1]; decide
  have T : ∀ {h' : mH}, qX h' A → ∀ {z : Nat}, z < 6 → (A.1 z).1 = n → mGI h' (some (3 + 4 * z)) 6 0 = some (nI n) ∧ mGR h' (some (3 + 4 * z)) 6 1 = some (some (4 + 4 * z)) ∧ f_X7_mask (some (3 + 4 * z)) h' = some (nI (2 ^ n - 1)) := by
    intro h' q' z hz hzn
    obtain ⟨bk, bs, bc, ra, rb, fr, fa, fb, hT, hs⟩ := q'.2.2.2.1 z hz
    rw [hzn] at hT
    exact ⟨hT.size, hT.rows, x_mask hT (by omega)⟩
  have p1 : mPF h (some 33) 3 0 (.int (nI n)) = some (mPut h 33 (qO33 (nI n) r0 s0 c0 d0)) := qPF (hle q) e33 (Nat.le_of_ble_eq_true rfl)
  have q1 : qX (mPut h 33 (qO33 (nI n) r0 s0 c0 d0)) A := q.put33 _ _ _ _ _
  have p2 : mPF (mPut h 33 (qO33 (nI n) r0 s0 c0 d0)) (some 33) 3 1 (va_rf (some (4 + 4 * t))) = some (mPut h 33 (qO33 (nI n) (some (4 + 4 * t)) s0 c0 d0)) := by
    rw [qPF (hle q1) (qPutS _) (Nat.le_of_ble_eq_true rfl), qPutP]
    rfl
  have q2 : qX (mPut h 33 (qO33 (nI n) (some (4 + 4 * t)) s0 c0 d0)) A := q.put33 _ _ _ _ _
  have p3 : mPF (mPut h 33 (qO33 (nI n) (some (4 + 4 * t)) s0 c0 d0)) (some 33) 3 2 (va_rf (some (4 + 4 * u))) = some (mPut h 33 (qO33 (nI n) (some (4 + 4 * t)) (some (4 + 4 * u)) c0 d0)) := by
    rw [qPF (hle q2) (qPutS _) (Nat.le_of_ble_eq_true rfl), qPutP]
    rfl
  have q3 : qX (mPut h 33 (qO33 (nI n) (some (4 + 4 * t)) (some (4 + 4 * u)) c0 d0)) A := q.put33 _ _ _ _ _
  have m3 : qMhx (mPut h 33 (qO33 (nI n) (some (4 + 4 * t)) (some (4 + 4 * u)) c0 d0)) t u n c0 d0 f34 f35 f36 f37 := ⟨qPutS _, (qPutN _ (by decide)).trans e34, (qPutN _ (by decide)).trans e35, (qPutN _ (by decide)).trans e36, (qPutN _ (by decide)).trans e37⟩
  have s3 : qSame qC33 h (mPut h 33 (qO33 (nI n) (some (4 + 4 * t)) (some (4 + 4 * u)) c0 d0)) := qSame.rf.put ⟨by decide, by decide⟩ _
  obtain ⟨h4, p4, q4, m4, s4⟩ := x_st35 q3 m3 (i := 0) (by decide) (nI (2 ^ n - 1))
  obtain ⟨h5, p5, q5, m5, s5⟩ := x_st36 q4 m4 (i := 0) (by decide) (nI (2 ^ n - 1))
  obtain ⟨h6a, p6, q6, m6, s6⟩ := x_st37 q5 m5 (i := 0) (by decide) 1
  refine ⟨h6a, ?_, q6, ((s3.trans s4).trans s5).trans s6, fun c => ⟨c0, d0, _, _, _, _, m6, fun e he => absurd he (Nat.not_lt_zero e), fun z => by omega, fun k' hk' => ?_⟩⟩
  · unfold f_X4_lay
    rw [qIs (hle q) e33, qbind, (T q h6 ht).1, qbind, p1, qbind, (T q1 h6 ht).2.1, qbind, p2, qbind, (T q2 h6' hu).2.1, qbind, p3, qbind, (m3.g q3).2.2.2.2.2.2.2.1, qbind, (T q3 h6 ht).2.2, qbind, show mSI (mPut h 33 (qO33 (nI n) (some (4 + 4 * t)) (some (4 + 4 * u)) c0 d0)) (some 35) 0 (nI (2 ^ n - 1)) = some h4 from p4, qbind, (m4.g q4).2.2.2.2.2.2.2.2.1, qbind, (T q4 h6' hu).2.2, qbind, show mSI h4 (some 36) 0 (nI (2 ^ n - 1)) = some h5 from p5, qbind, (m5.g q5).2.2.2.2.2.2.2.2.2, qbind, show mSI h5 (some 37) 0 1 = some h6a from p6, qbind]
  · have hk0 : k' = 0 := by omega
    subst hk0
    have hq : qp (2 ^ n - 1) = n := by
      rw [← qW_true, qp_qW n (by omega)]
      have : ∀ m, qc m (fun _ => true) = m := by
        intro m
        induction m with
        | zero => rfl
        | succ m ih => show qc m _ + 1 = m + 1; rw [ih]
      exact this n
    refine ⟨1, fun _ => 0, qUps, fun i hi => ?_, fun j hj => ⟨0, by decide, rfl⟩, ?_⟩
    · have hi0 : i = 0 := by omega
      subst hi0
      refine ⟨h0, ?_, ?_⟩
      · show upd f35 0 (nI (2 ^ n - 1)) 0 = nI (qW n (fun _ => true))
        rw [qUps, qW_true]
      · show upd f36 0 (nI (2 ^ n - 1)) 0 = nI (qW n (fun _ => true))
        rw [qUps, qW_true]
    · show 0 + qp (qW n (fun _ => true)) = n
      rw [qW_true, hq, Nat.zero_add]
theorem x_findFirst (q : qX h A) (w : qWA A) (h6 : t < 6) (h6' : u < 6) {n : Nat} {R S : Nat → Nat} (ht : (A.1 t).1 = n) (hu : (A.1 u).1 = n) (hR : (A.1 t).2.1 = R) (hS : (A.1 u).2.1 = S) (h0 : 0 < n) (hn : n ≤ 12) : ∃ h', qX h' A ∧ qSame qC33 h h' ∧ ((∃ r, qFnd (qOkm n R S) (2 * n) n 0 (fun _ => 0) = some r ∧ f_X4_findFirst (some 33) (some (3 + 4 * t)) (some (3 + 4 * u)) h = some (1, h') ∧ qWk h' t u n R S r n) ∨ (qFnd (qOkm n R S) (2 * n) n 0 (fun _ => 0) = none ∧ f_X4_findFirst (some 33) (some (3 + 4 * t)) (some (3 + 4 * u)) h = some (0, h'))) := by
  have is : mIs h (some 33) 3 = some () := by
    obtain ⟨a1, a2, ⟨f3, a3, a3'⟩, a4, ⟨g, a5, a5'⟩, ⟨g2, a6, a6'⟩, q7⟩ := q
    obtain ⟨n0, c0, d0, r0, s0, e33⟩ := q7.2.2.2.2.1
    exact qIs (by rw [a1]; decide) e33
  obtain ⟨h1, p1, q1, s1, W1⟩ := x_lay q w h6 h6' ht hu h0 hn R S
  obtain ⟨h2, q2, s2, R2⟩ := x_seek w h6 h6' ht hu hR hS hn n 20 0 0 (fun _ => 0) h1 (by omega) (by omega) q1 (W1 _) (qAg_0 n R S _) ⟨by decide, fun i _ => by
    constructor
    · intro z
      rw [Nat.zero_testBit] at z
      cases z
    · rintro ⟨e, he, -⟩
      exact absurd he (Nat.not_lt_zero e)⟩
  rw [qPrune] at R2
  refine ⟨h2, q2, s1.trans s2, ?_⟩
  unfold f_X4_findFirst
  rw [is, qbind, p1, qbind]
  rcases R2 with ⟨r, r1, r2, r3⟩ | ⟨r1, r2, r3⟩
  · left
    refine ⟨r, r1, ?_, r3⟩
    rw [show f_X4_seek 20 (some 33) 0 0 h1 = some (1, h2) from r2, qbind, if_pos (Or.inr rfl)]
  · right
    refine ⟨r1, ?_⟩
    rw [show f_X4_seek 20 (some 33) 0 0 h1 = some (0, h2) from r2, qbind, if_pos (Or.inl rfl)]
theorem qC33.cx : ∀ k, qC33 k → qCX k := fun k z => by unfold qC33 at z; unfold qCX; omega
theorem qC67.cm : ∀ k, qC67 k → qCM k := fun k z => by unfold qC67 at z; unfold qCM; omega
theorem op_like (I : qI h A) (x y : Int32) : qStep (f_X8_like (some 1) x y) (f_X9_like (some 51) x y) h := by
  have L := qTb2 I x
  have L' := qTb2 I y
  have I0 := I
  obtain ⟨q, m, w⟩ := I
  obtain ⟨x0, y0, fo, fr, ff, fg, fw, mb, hm⟩ := m.b
  rcases L with ⟨l1, l2⟩ | ⟨t, hx, l1, l2⟩
  · have em : ∃ z, f_X8_tableAt (some 1) y h = some z := by
      rcases L' with ⟨a, -⟩ | ⟨u, -, a, -⟩
      · exact ⟨_, a⟩
      · exact ⟨_, a⟩
    obtain ⟨z, ez⟩ := em
    refine qStep.none (r := -1) I0 ?_ ?_
    · unfold f_X8_like; rw [q.is, qbind, l1, qbind, ez, qbind, if_pos rfl]
    · unfold f_X9_like; rw [mb.is, qbind, l2, qbind, if_pos rfl]
  · rcases L' with ⟨k1, k2⟩ | ⟨u, hy, k1, k2⟩
    · refine qStep.none (r := -1) I0 ?_ ?_
      · unfold f_X8_like; rw [q.is, qbind, l1, qbind, k1, qbind, if_neg qne, if_pos rfl]
      · unfold f_X9_like; rw [mb.is, qbind, l2, qbind, if_neg q10, k2, qbind, if_pos rfl]
    · obtain ⟨h6, hx2, h0⟩ := hx
      obtain ⟨h6', hy2, h0'⟩ := hy
      have cm := x_canMatch q w h6 h6'
      obtain ⟨h1, p1, m1, s1⟩ := m_canAsk m w h6 h6'
      cases hc : qCm (A.1 t) (A.1 u)
      · rw [hc] at cm p1
        refine qStep.mk (r := -2) (h1 := h) (h2 := h1) (A' := A) ?_ q qSame.rf ?_ m1 (s1.mono fun k z => by unfold qCM; omega) w
        · unfold f_X8_like; rw [q.is, qbind, l1, qbind, k1, qbind, if_neg qne, if_neg qne, cm, qbind, qif0]
        · unfold f_X9_like
          rw [mb.is, qbind, l2, qbind, if_neg q10, k2, qbind, if_neg q10, hx2, hy2, p1, qbind]
          show (if qB2I false = 0 then _ else _) = _
          rw [qif0]
      · obtain ⟨c1, c2⟩ := qCm_n hc
        rw [hc] at cm
        obtain ⟨h2, q2, s2, F2⟩ := x_findFirst q w h6 h6' (n := (A.1 t).1) rfl c1.symm rfl rfl h0 c2
        have s2' : qSame qCX h h2 := s2.mono qC33.cx
        have m2 := m.same s2'
        obtain ⟨x2, y2, fo2, fr2, ff2, fg2, fw2, mb2, hm2⟩ := m2.b
        obtain ⟨h3, p3, m3, s3⟩ := m_canAsk m2 w h6 h6'
        rw [hc] at p3
        obtain ⟨f67, e67⟩ : qArr h3 67 12 := by
          obtain ⟨a1, a2, a3, a4, a5, q7⟩ := m3
          obtain ⟨a1, a2, a3, a4, a5, a6, a7, a8, a9, b1, b2, b3, b4, b5⟩ := q7
          exact b1
        obtain ⟨h4, m4, s4, -, F4⟩ := m_finds (fx := 0) m3 w h6 h6' (n := (A.1 t).1) rfl c1.symm rfl rfl c2 (Nat.zero_le _) (c := fun _ => 0) e67 (fun e he => absurd he (Nat.not_lt_zero e))
        rw [Nat.sub_zero] at F4
        have sm : qSame qCM h2 h4 := (s3.mono fun k z => by unfold qCM; omega).trans (s4.mono qC67.cm)
        have X9 : ∀ b : Int32, f_X9_finds (some 51) (nI t) (nI u) 0 h3 = some (b, h4) → f_X9_like (some 51) x y h2 = some (if b = 0 then 0 else 1, h4) := by
          intro b hb
          unfold f_X9_like
          rw [mb2.is, qbind, m_tab_yes mb2 hm2 w ⟨h6, hx2, h0⟩, qbind, if_neg q10, m_tab_yes mb2 hm2 w ⟨h6', hy2, h0'⟩, qbind, if_neg q10, hx2, hy2, p3, qbind]
          show (if qB2I true = 0 then _ else _) = _
          rw [qif1, hb, qbind]
          by_cases z : b = 0
          · rw [if_pos z, if_pos z]
          · rw [if_neg z, if_neg z]
        have X8 : ∀ b : Int32, f_X4_findFirst (some 33) (some (3 + 4 * t)) (some (3 + 4 * u)) h = some (b, h2) → f_X8_like (some 1) x y h = some (if b = 0 then 0 else 1, h2) := by
          intro b hb
          unfold f_X8_like
          rw [q.is, qbind, l1, qbind, k1, qbind, if_neg qne, if_neg qne, cm, qbind, qif1, show mGR h (some 1) 7 6 = some (some 33) from qGR (by rw [q.1]; decide) q.2.1 rfl, qbind, hb, qbind]
          by_cases z : b = 0
          · rw [if_pos z, if_pos z]
          · rw [if_neg z, if_neg z]
        rcases F2 with ⟨r, f1, f2, -⟩ | ⟨f1, f2⟩
        · rcases F4 with ⟨g1, g2⟩ | ⟨r', g1, -, -, -⟩
          · exact absurd ⟨fun k hk => absurd hk (Nat.not_lt_zero k), r, f1⟩ g2
          · exact qStep.mk (X8 1 f2) q2 s2' (X9 1 g1) m4 sm w
        · rcases F4 with ⟨g1, g2⟩ | ⟨r', g1, -, g3, -⟩
          · exact qStep.mk (X8 0 f2) q2 s2' (X9 0 g1) m4 sm w
          · rw [f1] at g3; cases g3
end QLK
