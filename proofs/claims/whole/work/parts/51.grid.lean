/-! PURE: the model lays a table sign by sign; doubled -/
def qGr (P : Nat → Nat → Bool) (N i j : Nat) : Nat → Nat := fun r => if r < i then qW N (P r) else if r = i then qW j (P i) else 0
theorem qGr_0 (P : Nat → Nat → Bool) (N : Nat) : qGr P N 0 0 = fun _ => 0 := by
  funext r
  unfold qGr
  rw [if_neg (by omega)]
  by_cases h : r = 0
  · rw [if_pos h]; rfl
  · rw [if_neg h]
theorem qGr_next (P : Nat → Nat → Bool) (N i : Nat) : qGr P N i N = qGr P N (i + 1) 0 := by
  funext r
  unfold qGr
  by_cases h1 : r < i
  · rw [if_pos h1, if_pos (by omega)]
  · rw [if_neg h1]
    by_cases h2 : r = i
    · rw [if_pos h2, if_pos (by omega), h2]
    · rw [if_neg h2, if_neg (by omega)]
      by_cases h3 : r = i + 1
      · rw [if_pos h3]; rfl
      · rw [if_neg h3]
theorem qGr_step (P : Nat → Nat → Bool) (N i j : Nat) : va_up (qGr P N i j) i (qGr P N i j i ||| (P i j).toNat * 2 ^ j) = qGr P N i (j + 1) := by
  funext r
  by_cases h : r = i
  · rw [h, qVs]
    unfold qGr
    rw [if_neg (by omega), if_pos rfl, if_neg (by omega), if_pos rfl, qW_or]
  · rw [qVn h]
    unfold qGr
    rw [if_neg h, if_neg h]
theorem qGr_end (P : Nat → Nat → Bool) {N r : Nat} (hr : r < N) : qGr P N N 0 r = qW N (P r) := by
  unfold qGr
  rw [if_pos hr]
section QGD
variable {h : mH} {A : qA} {R : Type}
/-- two loops that lay a table, state by state -/
theorem m_grid {bo : Int32 × mH → Option ((Int32 × mH) ⊕ R)} {bi : Nat → Int32 × mH → Option ((Int32 × mH) ⊕ ((Int32 × mH) ⊕ R))} (G : Nat → Nat → Nat → Nat) (N M : Nat) (Q : R → Prop) (hG : ∀ i, i < N → G i M = G (i + 1) 0)
    (ho : ∀ i h', i < N → qM h' A → bo (nI i, h') = mLoop (bi i) (nI 0, h'))
    (hi : ∀ i j h', i < N → j < M → qM h' A → qSame (fun k => k = 58) h h' → qMd h' (G i j) → ∃ h2, bi i (nI j, h') = some (.inl (nI (j + 1), h2)) ∧ qM h2 A ∧ qMd h2 (G i (j + 1)) ∧ qSame (fun k => k = 58) h' h2)
    (he : ∀ i h', i < N → bi i (nI M, h') = some (.inr (.inl (nI (i + 1), h'))))
    (m : qM h A) (d : qMd h (G 0 0))
    (hx : ∀ h', qM h' A → qSame (fun k => k = 58) h h' → qMd h' (G N 0) → ∃ r, bo (nI N, h') = some (.inr r) ∧ Q r) : ∃ r, mLoop bo (nI 0, h) = some r ∧ Q r := by
  refine mLoop_inv (fun k (s : Int32 × mH) => s.1 = nI k ∧ qM s.2 A ∧ qSame (fun k => k = 58) h s.2 ∧ qMd s.2 (G k 0)) N Q (s0 := (nI 0, h)) ⟨rfl, m, qSame.rf, d⟩ ?_ ?_
  · rintro k ⟨ik, hk⟩ hkn ⟨rfl, mk, sk, dk⟩
    have e1 : bo (nI k, hk) = mLoop (bi k) (nI 0, hk) := ho k hk hkn mk
    have e2 := mLoop_inv (b := bi k) (fun j (s : Int32 × mH) => s.1 = nI j ∧ qM s.2 A ∧ qSame (fun k => k = 58) h s.2 ∧ qMd s.2 (G k j)) M (fun r => ∃ s' : Int32 × mH, r = .inl s' ∧ s'.1 = nI (k + 1) ∧ qM s'.2 A ∧ qSame (fun k => k = 58) h s'.2 ∧ qMd s'.2 (G (k + 1) 0)) (s0 := (nI 0, hk)) ⟨rfl, mk, sk, dk⟩ ?_ ?_
    · obtain ⟨r, e3, s', rfl, e4⟩ := e2
      exact ⟨s', e1.trans e3, e4⟩
    · rintro j ⟨ij, hj⟩ hjm ⟨rfl, mj, sj, dj⟩
      obtain ⟨h2, f1, f2, f3, f4⟩ := hi k j hj hkn hjm mj sj dj
      exact ⟨_, f1, rfl, f2, sj.trans f4, f3⟩
    · rintro ⟨ij, hj⟩ ⟨rfl, mj, sj, dj⟩
      exact ⟨_, he k hj hkn, _, rfl, rfl, mj, sj, by rw [← hG k hkn]; exact dj⟩
  · rintro ⟨ik, hk⟩ ⟨rfl, mk, sk, dk⟩
    exact hx hk mk sk dk
end QGD
/-- two words side by side -/
theorem qCat {n m a b : Nat} (ha : a < 2 ^ n) (hb : b < 2 ^ m) : a ||| b * 2 ^ n = qW (n + m) (fun j => if j < n then a.testBit j else b.testBit (j - n)) := by
  have h1 : a < 2 ^ (n + m) := Nat.lt_of_lt_of_le ha (Nat.pow_le_pow_right (by decide) (by omega))
  have h2 : b * 2 ^ n < 2 ^ (n + m) := by
    rw [Nat.pow_add, Nat.mul_comm (2 ^ n)]
    exact Nat.mul_lt_mul_of_pos_right hb (Nat.two_pow_pos n)
  refine qW_ext (Nat.or_lt_two_pow h1 h2) fun j hj => ?_
  rw [Nat.testBit_or, Nat.testBit_mul_two_pow]
  by_cases hjn : j < n
  · rw [if_pos hjn, decide_eq_false (by omega), Bool.false_and, Bool.or_false]
  · rw [if_neg hjn, decide_eq_true (by omega), Bool.true_and, Nat.testBit_lt_two_pow (Nat.lt_of_lt_of_le ha (Nat.pow_le_pow_right (by decide) (by omega))), Bool.false_or]
/-- doubled: the sign at i, j -/
def qDb (T : qT) (i j : Nat) : Bool := (T.2.1 (i % T.1)).testBit (j % T.1) ^^ (decide (T.1 ≤ i) && decide (T.1 ≤ j))
theorem qDb_1 {T : qT} (w : qWT T) {i : Nat} (hi : i < T.1) : T.2.1 i ||| T.2.1 i * 2 ^ T.1 = qW (T.1 + T.1) (qDb T i) := by
  rw [qCat (w.2.1 i hi) (w.2.1 i hi)]
  apply qW_congr
  intro j hj
  unfold qDb
  rw [Nat.mod_eq_of_lt hi, decide_eq_false (show ¬ T.1 ≤ i by omega), Bool.false_and, Bool.xor_false]
  by_cases hjn : j < T.1
  · rw [if_pos hjn, Nat.mod_eq_of_lt hjn]
  · rw [if_neg hjn, Nat.mod_eq_sub_mod (by omega), Nat.mod_eq_of_lt (by omega)]
theorem qDb_2 {T : qT} (w : qWT T) {i : Nat} (hi : i < T.1) : T.2.1 i ||| (T.2.1 i ^^^ (2 ^ T.1 - 1)) * 2 ^ T.1 = qW (T.1 + T.1) (qDb T (T.1 + i)) := by
  rw [qCat (b := T.2.1 i ^^^ (2 ^ T.1 - 1)) (w.2.1 i hi) (Nat.xor_lt_two_pow (w.2.1 i hi) (qMk_lt T.1))]
  apply qW_congr
  intro j hj
  unfold qDb
  rw [Nat.add_mod_left, Nat.mod_eq_of_lt hi, decide_eq_true (show T.1 ≤ T.1 + i by omega), Bool.true_and]
  by_cases hjn : j < T.1
  · rw [if_pos hjn, Nat.mod_eq_of_lt hjn, decide_eq_false (by omega), Bool.xor_false]
  · rw [if_neg hjn, Nat.mod_eq_sub_mod (by omega), Nat.mod_eq_of_lt (by omega), decide_eq_true (by omega), Nat.testBit_xor, Nat.testBit_two_pow_sub_one, decide_eq_true (by omega)]
theorem x_doubled {h : mH} {t u : Nat} {T T0 : qT} (q0 : qXt h t T0) (q : qXt h u T) (w : qWT T) (hut : u ≠ t) (hn : T.1 + T.1 ≤ 28) : ∃ h1 h', f_X7_begin (some (3 + 4 * t)) (2 * nI T.1) h = some h1 ∧ f_X8_doubled_l59 (some (3 + 4 * u)) (nI t) (nI T.1) (some (3 + 4 * t)) 0 h1 = some (nI t, h') ∧ qXt h' t (qNew (T.1 + T.1) (fun i => qW (T.1 + T.1) (qDb T i))) ∧ qSame (qIs4 t) h h' := by
  obtain ⟨h1, fr1, p1, b1, z1, s1⟩ := x_begin q0 (2 * T.1)
  rw [show 2 * T.1 = T.1 + T.1 by omega] at b1
  refine ⟨h1, ?_⟩
  have R := mLoop_inv (b := fun x : Int32 × mH => f_X8_doubled_b59 (some (3 + 4 * u)) (nI t) (nI T.1) (some (3 + 4 * t)) x.1 x.2) (fun k (s : Int32 × mH) => s.1 = nI k ∧ qSame (qIs4 t) h s.2 ∧ ∃ fr', qBg s.2 t (T.1 + T.1) fr' ∧ ∀ i, i < k → fr' i = nI (qW (T.1 + T.1) (qDb T i)) ∧ fr' (T.1 + i) = nI (qW (T.1 + T.1) (qDb T (T.1 + i)))) T.1 (fun r : Int32 × mH => r.1 = nI t ∧ qXt r.2 t (qNew (T.1 + T.1) (fun i => qW (T.1 + T.1) (qDb T i))) ∧ qSame (qIs4 t) h r.2) (s0 := (0, h1)) ⟨rfl, s1, fr1, b1, fun i hi => absurd hi (Nat.not_lt_zero i)⟩ ?_ ?_
  · obtain ⟨⟨r1, r2⟩, e1, e2, e3⟩ := R
    have e2' : r1 = nI t := e2
    rw [e2'] at e1
    exact ⟨r2, by rw [qL2, qI_mul]; exact p1, e1, e3⟩
  · rintro k ⟨ik, hk⟩ hkn ⟨rfl, sk, fr2, b2', o2⟩
    have b2 : qBg hk t (T.1 + T.1) fr2 := b2'
    have qu : ∀ {h'}, qSame (qIs4 t) h h' → qXt h' u T := fun s => q.same s.1 fun z hz1 hz2 => s.2 z (by unfold qIs4; omega)
    obtain ⟨bk, bs, bc, ra, rb, fr, fa, fb, hT, hs⟩ := qu (h' := hk) sk
    have hr := q31 w.1 (w.2.1 k hkn)
    obtain ⟨h3, p3, b3, s3⟩ := b2.st (i := k) (by omega) (nI (qW (T.1 + T.1) (qDb T k)))
    obtain ⟨bk', bs', bc', ra', rb', fr', fa', fb', hT', hs'⟩ := qu ((show qSame (qIs4 t) h hk from sk).trans s3)
    obtain ⟨h4, p4, b4, s4⟩ := b3.st (i := T.1 + k) (by omega) (nI (qW (T.1 + T.1) (qDb T (T.1 + k))))
    refine ⟨(nI (k + 1), h4), ?_, rfl, (sk.trans s3).trans s4, _, b4, fun i hi => ?_⟩
    · show f_X8_doubled_b59 (some (3 + 4 * u)) (nI t) (nI T.1) (some (3 + 4 * t)) (nI k) hk = _
      unfold f_X8_doubled_b59
      rw [if_neg (by rw [qle (by omega) (by omega)]; omega), hT.rows, qbind, hT.row (i := k) (by omega), qbind, b2.rows, qbind, hs.1 k hkn, qI_shl _ (by omega), qI_or, qDb_1 w hkn, p3, qbind, b3.rows, qbind, x_mask hT' w.1, qbind, qI_xor, qI_shl _ (by omega), qI_or, qDb_2 w hkn, qI_add, p4, qbind, nI_1]
    · by_cases hik : i = k
      · rw [hik, qUpn (by omega), qUps, qUps]; exact ⟨rfl, rfl⟩
      · rw [qUpn (by omega), qUpn (by omega), qUpn (by omega), qUpn (by omega)]; exact o2 i (by omega)
  · rintro ⟨ik, hk⟩ ⟨rfl, sk, fr2, b2, o2⟩
    refine ⟨(nI t, hk), ?_, rfl, b2.fin hn fun i hi => ?_, sk⟩
    · show f_X8_doubled_b59 (some (3 + 4 * u)) (nI t) (nI T.1) (some (3 + 4 * t)) (nI T.1) hk = _
      unfold f_X8_doubled_b59
      rw [if_pos (by rw [qle (by omega) (by omega)]; omega)]
    · by_cases hin : i < T.1
      · exact (o2 i hin).1
      · have := (o2 (i - T.1) (by omega)).2
        rw [show T.1 + (i - T.1) = i by omega] at this
        exact this
theorem m_doubled {h : mH} {A : qA} (m : qM h A) (w : qWA A) {t u : Nat} (hf : qFr A t) (hu : u < 6) (h0 : 0 < (A.1 u).1) (hn : (A.1 u).1 + (A.1 u).1 ≤ 28) (d : qMd h (fun _ => 0)) : ∃ r, f_X9_doubled_l43 (some 51) (nI u) (nI (A.1 u).1) 0 h = some r ∧ r.1 = nI t ∧ qM r.2 (qSetT A t (qNew ((A.1 u).1 + (A.1 u).1) (fun i => qW ((A.1 u).1 + (A.1 u).1) (qDb (A.1 u) i)))) ∧ qSame qCM h r.2 := by
  have wt := w.1 u hu
  unfold f_X9_doubled_l43
  have e2n : (2 : Int32) * nI (A.1 u).1 = nI ((A.1 u).1 + (A.1 u).1) := by rw [qL2, qI_mul, show 2 * (A.1 u).1 = (A.1 u).1 + (A.1 u).1 by omega]
  refine m_grid (bi := fun i => fun x : Int32 × mH => f_X9_doubled_b53 (some 51) (nI u) (nI (A.1 u).1) (nI i) x.1 x.2) (qGr (qDb (A.1 u)) ((A.1 u).1 + (A.1 u).1)) ((A.1 u).1 + (A.1 u).1) ((A.1 u).1 + (A.1 u).1) (fun r : Int32 × mH => r.1 = nI t ∧ qM r.2 (qSetT A t (qNew ((A.1 u).1 + (A.1 u).1) (fun i => qW ((A.1 u).1 + (A.1 u).1) (qDb (A.1 u) i)))) ∧ qSame qCM h r.2) (fun i _ => qGr_next _ _ i) ?_ ?_ ?_ m (by rw [qGr_0]; exact d) ?_
  · intro i h' hi m'
    show f_X9_doubled_b43 (some 51) (nI u) (nI (A.1 u).1) (nI i) h' = _
    unfold f_X9_doubled_b43
    rw [e2n, if_neg (by rw [qle (by omega) (by omega)]; omega)]
    rfl
  · intro i j h' hi hj m' _ d'
    obtain ⟨x0, y0, fo, fr, ff, fg, fw, mb, hm⟩ := m'.b
    obtain ⟨h2, p2, m2, d2, s2⟩ := m_lays m' d' (i := i) (j := j) (by omega) (by omega) (qDb (A.1 u) i j)
    rw [qGr_step] at d2
    refine ⟨h2, ?_, m2, d2, s2⟩
    show f_X9_doubled_b53 (some 51) (nI u) (nI (A.1 u).1) (nI i) (nI j) h' = _
    have hz : ¬ nI (A.1 u).1 = 0 := by rw [qI_zero, qeq (by omega) (by decide)]; omega
    have hmi : i % (A.1 u).1 < (A.1 u).1 := Nat.mod_lt _ h0
    have hmj : j % (A.1 u).1 < (A.1 u).1 := Nat.mod_lt _ h0
    unfold f_X9_doubled_b53 f_X9_doubled_c92 f_X9_doubled_c93 f_X9_doubled_c101
    rw [e2n, if_neg (by rw [qle (by omega) (by omega)]; omega), if_neg hz, if_neg hz, qI_rem (by omega) h0 (by omega), qI_rem (by omega) h0 (by omega), m_isMinus mb (hm u hu) hu wt hmi (by omega), qbind]
    have key : ∀ (b : Bool) (s : Bool), (b ^^ s) = qDb (A.1 u) i j → (if qB2I b = qB2I s then (f_X9_lays (some 51) (nI i) (nI j) 0 h').bind fun x1 => some (Sum.inl (nI j + 1, x1)) else (f_X9_lays (some 51) (nI i) (nI j) 1 h').bind fun x1 => some (Sum.inl (nI j + 1, x1))) = some ((.inl (nI (j + 1), h2) : (Int32 × mH) ⊕ ((Int32 × mH) ⊕ (Int32 × mH)))) := by
      intro b s hbs
      rw [← hbs] at p2
      cases b <;> cases s
      · rw [if_pos rfl, show f_X9_lays (some 51) (nI i) (nI j) 0 h' = some h2 from p2, qbind, nI_1]
      · rw [if_neg (by decide), show f_X9_lays (some 51) (nI i) (nI j) 1 h' = some h2 from p2, qbind, nI_1]
      · rw [if_neg (by decide), show f_X9_lays (some 51) (nI i) (nI j) 1 h' = some h2 from p2, qbind, nI_1]
      · rw [if_pos rfl, show f_X9_lays (some 51) (nI i) (nI j) 0 h' = some h2 from p2, qbind, nI_1]
    by_cases hi2 : i < (A.1 u).1
    · rw [if_pos (by rw [qlt (by omega) (by omega)]; exact hi2)]
      exact key _ false (by unfold qDb; rw [decide_eq_false (show ¬ (A.1 u).1 ≤ i by omega), Bool.false_and])
    · rw [if_neg (by rw [qlt (by omega) (by omega)]; exact hi2)]
      by_cases hj2 : j < (A.1 u).1
      · rw [if_pos (by rw [qlt (by omega) (by omega)]; exact hj2)]
        exact key _ false (by unfold qDb; rw [decide_eq_false (show ¬ (A.1 u).1 ≤ j by omega), Bool.and_false])
      · rw [if_neg (by rw [qlt (by omega) (by omega)]; exact hj2)]
        exact key _ true (by unfold qDb; rw [decide_eq_true (show (A.1 u).1 ≤ i by omega), decide_eq_true (show (A.1 u).1 ≤ j by omega), Bool.and_true])
  · intro i h' hi
    show f_X9_doubled_b53 (some 51) (nI u) (nI (A.1 u).1) (nI i) (nI ((A.1 u).1 + (A.1 u).1)) h' = _
    unfold f_X9_doubled_b53
    rw [e2n, if_pos (by rw [qle (by omega) (by omega)]; omega), nI_1]
  · intro h' m' s' d'
    obtain ⟨f, f1, f2⟩ := d'
    obtain ⟨h4, p4, m4, s4⟩ := m_comes m' w f1 hn (R := fun i => qW ((A.1 u).1 + (A.1 u).1) (qDb (A.1 u) i)) (fun i hi => by rw [f2 i (by omega), qGr_end _ hi]) hf
    refine ⟨(nI t, h4), ?_, rfl, m4, (s'.mono fun k z => by unfold qCM; omega).trans (s4.mono qC5.cm)⟩
    show f_X9_doubled_b43 (some 51) (nI u) (nI (A.1 u).1) (nI ((A.1 u).1 + (A.1 u).1)) h' = _
    unfold f_X9_doubled_b43
    rw [e2n, if_pos (by rw [qle (by omega) (by omega)]; omega), p4, qbind]
theorem op_doubled {h : mH} {A : qA} (I : qI h A) (x : Int32) : qStep (f_X8_doubled (some 1) x) (f_X9_doubled (some 51) x) h := by
  have L := qTb2 I x
  have I0 := I
  obtain ⟨q, m, w⟩ := I
  obtain ⟨x0, y0, fo, fr, ff, fg, fw, mb, hm⟩ := m.b
  have em : ∃ z, f_X8_emptyPlace (some 1) h = some z := by
    rcases qFr_or A with hf | ⟨t, hf⟩
    · exact ⟨_, x_empty_no q w hf⟩
    · exact ⟨_, x_empty_yes q w hf⟩
  rcases L with ⟨l1, l2⟩ | ⟨u, hx, l1, l2⟩
  · obtain ⟨z, ez⟩ := em
    refine qStep.none (r := -1) I0 ?_ ?_
    · unfold f_X8_doubled; rw [q.is, qbind, l1, qbind, ez, qbind, if_pos rfl]
    · unfold f_X9_doubled; rw [mb.is, qbind, l2, qbind, if_pos rfl]
  · have hu := hx.1
    have wt := w.1 u hu
    have hn := wt.1
    have h0 := hx.2.2
    have hx2 : x = nI u := hx.2.1
    obtain ⟨bk, bs, bc, ra, rb, fr', fa, fb, hT, hs⟩ := q.2.2.2.1 u hu
    have e2n : (2 : Int32) * nI (A.1 u).1 = nI ((A.1 u).1 + (A.1 u).1) := by rw [qL2, qI_mul, show 2 * (A.1 u).1 = (A.1 u).1 + (A.1 u).1 by omega]
    rcases qFr_or A with hf | ⟨t, hf⟩
    · refine qStep.none (r := -1) I0 ?_ ?_
      · unfold f_X8_doubled; rw [q.is, qbind, l1, qbind, x_empty_no q w hf, qbind, if_neg qne, if_pos rfl]
      · unfold f_X9_doubled
        rw [mb.is, qbind, l2, qbind, if_neg q10, mb.orders, qbind, hx2, mb.order hu, qbind, (hm u hu).1, e2n]
        by_cases hb : 28 < (A.1 u).1 + (A.1 u).1
        · rw [if_pos (by rw [qL28, qlt (by omega) (by omega)]; exact hb)]
        · rw [if_neg (by rw [qL28, qlt (by omega) (by omega)]; exact hb), m_full_no m w hf, qbind, if_neg q10]
    · by_cases hb : 28 < (A.1 u).1 + (A.1 u).1
      · refine qStep.none (r := -1) I0 ?_ ?_
        · unfold f_X8_doubled; rw [q.is, qbind, l1, qbind, x_empty_yes q w hf, qbind, if_neg qne, if_neg (qnm1 hf.1), hT.size, qbind, e2n, if_neg (by rw [qL28, qle (by omega) (by omega)]; omega)]
        · unfold f_X9_doubled
          rw [mb.is, qbind, l2, qbind, if_neg q10, mb.orders, qbind, hx2, mb.order hu, qbind, (hm u hu).1, e2n, if_pos (by rw [qL28, qlt (by omega) (by omega)]; exact hb)]
      · have h6 := hf.1
        have hut : u ≠ t := fun z => by rw [z, hf.2.1] at h0; omega
        obtain ⟨h1, h2, p1, p2, t2, s2⟩ := x_doubled (q.2.2.2.1 t h6) (q.2.2.2.1 u hu) wt hut (by omega)
        have e1 : f_X8_doubled (some 1) x h = some (nI t, h2) := by
          unfold f_X8_doubled; rw [q.is, qbind, l1, qbind, x_empty_yes q w hf, qbind, if_neg qne, if_neg (qnm1 h6), hT.size, qbind, if_pos (by rw [e2n, qL28, qle (by omega) (by omega)]; omega), qbind, q.shelf, qbind, q.at h6, qbind, p1, qbind, p2]
        have s2' := s2.mono (qIs4.cx h6)
        have m1 := m.same s2'
        obtain ⟨x2', y2, fo2, fr2, ff2, fg2, fw2, mb2, hm2⟩ := m1.b
        obtain ⟨h3, p3, m3, s3, g, g1, g2⟩ := m_clears m1
        obtain ⟨⟨r4, h4⟩, p4, r4e, m4, s4⟩ := m_doubled m3 w hf hu h0 (by omega) ⟨g, g1, g2⟩
        have r4e' : r4 = nI t := r4e
        have e2 : f_X9_doubled (some 51) x h2 = some (nI t, h4) := by
          unfold f_X9_doubled
          rw [mb2.is, qbind, m_tab_yes mb2 hm2 w hx, qbind, if_neg q10, mb2.orders, qbind, hx2, mb2.order hu, qbind, (hm2 u hu).1, if_neg (by rw [e2n, qL28, qlt (by omega) (by omega)]; exact hb), m_full_yes m1 w hf, qbind, if_pos rfl, qbind, mb2.order hu, qbind, (hm2 u hu).1, p3, qbind, p4, r4e']
        exact qStep.mk e1 (q.tab h6 s2 t2) s2' e2 m4 ((s3.mono fun k z => by unfold qCM; omega).trans s4) (w.tab (qNew_w (by omega) fun i _ => qW_lt _ _))
