/-! PURE: form, what the class finds -/
theorem qX.put38 {h : mH} {A : qA} (q : qX h A) (n c : Int32) (r : Option Nat) : qX (mPut h 38 (.inr (2, [.int n, va_rf r, .int c, .ref 39, .ref 40, .ref 41]))) A := by
  obtain ⟨a1, a2, ⟨f3, a3, a3'⟩, a4, ⟨g, a5, a5'⟩, ⟨g2, a6, a6'⟩, q7⟩ := q
  refine ⟨a1, (qPutN _ (by decide)).trans a2, ⟨f3, (qPutN _ (by decide)).trans a3, a3'⟩, fun t ht => (a4 t ht).same rfl fun k h1 h2 => qPutN _ (by omega), ⟨g, (qPutN _ (by decide)).trans a5, a5'⟩, ⟨g2, (qPutN _ (by decide)).trans a6, a6'⟩, ?_⟩
  obtain ⟨a1, a2, a3, a4, ⟨n1, c', d', r', s', a5⟩, a6, a7, a8, a9, ⟨n', c'', r'', b1⟩, b2, b3, b4, b5, b6, b7, b8, b9, ⟨n'', c1⟩, c2, c3, c4⟩ := q7
  exact ⟨a1.same (qPutN _ (by decide)), (qPutN _ (by decide)).trans a2, a3.same (qPutN _ (by decide)), a4.same (qPutN _ (by decide)), ⟨n1, c', d', r', s', (qPutN _ (by decide)).trans a5⟩, a6.same (qPutN _ (by decide)), a7.same (qPutN _ (by decide)), a8.same (qPutN _ (by decide)), a9.same (qPutN _ (by decide)), ⟨n, c, r, qPutS _⟩, b2.same (qPutN _ (by decide)), b3.same (qPutN _ (by decide)), b4.same (qPutN _ (by decide)), (qPutN _ (by decide)).trans b5, b6.same (qPutN _ (by decide)), b7.same (qPutN _ (by decide)), (qPutN _ (by decide)).trans b8, b9.same (qPutN _ (by decide)), ⟨n'', (qPutN _ (by decide)).trans c1⟩, c2.same (qPutN _ (by decide)), c3.same (qPutN _ (by decide)), c4.same (qPutN _ (by decide))⟩
/-- the class's form -/
def qFdx (n : Nat) (R L : Nat → Nat) : Prop := L 0 = 0 ∧ (∃ f, f < n ∧ qClf n R f (2 ^ f) 1 [2 ^ n - 1] (2 * n) L) ∧ ∀ f, f < n → ∀ e, qClf n R f (2 ^ f) 1 [2 ^ n - 1] (2 * n) e → qLxN 1 n L e
def qC39 (k : Nat) : Prop := 38 ≤ k ∧ k ≤ 41
theorem qBk_1 {n : Nat} (h0 : 0 < n) (hn : n ≤ 6) : qBk n [2 ^ n - 1] := by
  have p1 : 2 ^ 1 ≤ 2 ^ n := Nat.pow_le_pow_right (by decide) h0
  refine ⟨fun B hB => ?_, List.pairwise_singleton _ _, ?_⟩
  · rw [List.mem_singleton] at hB; omega
  · show qp (2 ^ n - 1) + 0 = n
    have := qp_compl (w := 0) (n := n) (Nat.two_pow_pos n) (by omega)
    rw [Nat.zero_xor, qp_0] at this
    exact this
theorem qc_bit {n f : Nat} (hf : f < n) : qc n (fun i => !(2 ^ f).testBit i) = n - 1 := by
  have e1 := qc_not n (fun j => (2 ^ f).testBit j)
  have e3 := qc_set n (fun _ => false) f
  rw [if_pos ⟨hf, rfl⟩, qc_zero.mpr (fun _ _ => rfl)] at e3
  have e4 : qc n (fun j => (2 ^ f).testBit j) = qc n (fun j => false || decide (f = j)) := qc_eq fun j _ => by rw [Nat.testBit_two_pow, Bool.false_or]
  have e1' : qc n (fun j => !(2 ^ f).testBit j) + qc n (fun j => (2 ^ f).testBit j) = n := e1
  omega
section QFX
variable {A : qA} {t n : Nat} {R : Nat → Nat} {bs : Int32} {f39 f40 f41 : Nat → Int32} {h : mH}
theorem x_fill39 (q : qX h A) (m : qFm h t n bs f39 f40 f41) : ∃ h' g39, f_J7_fill_53178 (some 39) 64 h = some h' ∧ qX h' A ∧ qFm h' t n bs g39 f40 f41 ∧ qSame (fun z => z = 39) h h' ∧ ∀ p, p < 6 → g39 p = nI 64 := by
  unfold f_J7_fill_53178
  rw [qLn (by rw [q.1]; decide) m.2.1, qbind]
  unfold f_J7_fill_53178_l5
  have R := mLoop_inv (b := fun x : Int32 × mH => f_J7_fill_53178_b5 (some 39) 64 (nI 6) x.1 x.2) (fun k (s : Int32 × mH) => s.1 = nI k ∧ qX s.2 A ∧ qSame (fun z => z = 39) h s.2 ∧ ∃ g39, qFm s.2 t n bs g39 f40 f41 ∧ ∀ p, p < k → g39 p = nI 64) 6 (fun h' => qX h' A ∧ qSame (fun z => z = 39) h h' ∧ ∃ g39, qFm h' t n bs g39 f40 f41 ∧ ∀ p, p < 6 → g39 p = nI 64) (s0 := (nI 0, h)) ⟨rfl, q, qSame.rf, f39, m, fun p h1 => absurd h1 (Nat.not_lt_zero p)⟩ ?_ ?_
  · obtain ⟨h', e, q', s', g39, m', a⟩ := R
    exact ⟨h', g39, e, q', m', s', a⟩
  · rintro k ⟨a, hk⟩ hkn ⟨rfl, qk', sk, g, mk', a1⟩
    have qk : qX hk A := qk'
    have mk : qFm hk t n bs g f40 f41 := mk'
    obtain ⟨h2, p2, q2, m2, s2⟩ := mk.st39 qk (i := k) (by omega) (nI 64)
    refine ⟨(nI (k + 1), h2), ?_, rfl, q2, sk.trans s2, _, m2, fun p hp => ?_⟩
    · show f_J7_fill_53178_b5 (some 39) 64 (nI 6) (nI k) hk = _
      unfold f_J7_fill_53178_b5
      rw [if_neg (by rw [qle (by omega) (by omega)]; omega), show (64 : Int32) = nI 64 from rfl, p2, qbind, nI_1]
    · by_cases z : p = k
      · rw [z, qUps]
      · rw [qUpn z]; exact a1 p (by omega)
  · rintro ⟨a, hk⟩ ⟨rfl, qk, sk, g, mk, a1⟩
    refine ⟨hk, ?_, qk, sk, g, mk, a1⟩
    show f_J7_fill_53178_b5 (some 39) 64 (nI 6) (nI 6) hk = _
    unfold f_J7_fill_53178_b5
    rw [if_pos (by rw [qle (by omega) (by omega)]; omega)]
theorem x_findForm (q : qX h A) (w : qWA A) (h6 : t < 6) (ht : (A.1 t).1 = n) (hR : (A.1 t).2.1 = R) (h0 : 0 < n) (hn : n ≤ 6) : ∃ h' g39 L, f_X3_find (some 38) (some (3 + 4 * t)) h = some h' ∧ qX h' A ∧ qSame qC39 h h' ∧ mGR h' (some 38) 2 3 = some (some 39) ∧ h'.2 39 = .inl (6, .inl g39) ∧ (∀ i, i < n → g39 i = nI (L i) ∧ L i ≤ 64) ∧ qFdx n R L := by
  have p6 : 2 ^ n ≤ 2 ^ 6 := Nat.pow_le_pow_right (by decide) hn
  have kk := qBk_1 h0 hn
  obtain ⟨n0, c0, r0, e38⟩ : ∃ (n c : Int32) (r : Option Nat), h.2 38 = .inr (2, [.int n, va_rf r, .int c, .ref 39, .ref 40, .ref 41]) := q.2.2.2.2.2.2.2.2.2.2.2.2.2.2.2.1
  obtain ⟨f39, e39⟩ : qArr h 39 6 := q.2.2.2.2.2.2.2.2.2.2.2.2.2.2.2.2.1
  obtain ⟨f40, e40⟩ : qArr h 40 42 := q.2.2.2.2.2.2.2.2.2.2.2.2.2.2.2.2.2.1
  obtain ⟨f41, e41⟩ : qArr h 41 7 := q.2.2.2.2.2.2.2.2.2.2.2.2.2.2.2.2.2.2.1
  have hle : 38 ≤ h.1 := by rw [q.1]; decide
  have is38 : mIs h (some 38) 2 = some () := qIs hle e38
  have tab : ∀ {h'}, qX h' A → mGI h' (some (3 + 4 * t)) 6 0 = some (nI n) ∧ mGR h' (some (3 + 4 * t)) 6 1 = some (some (4 + 4 * t)) ∧ f_X7_mask (some (3 + 4 * t)) h' = some (nI (2 ^ n - 1)) := by
    intro h' q'
    obtain ⟨bk, bs, bc, ra, rb, fr, fa, fb, hT, hs⟩ := q'.2.2.2.1 t h6
    rw [ht] at hT
    exact ⟨hT.size, hT.rows, x_mask hT (by omega)⟩
  have P1 : mPF h (some 38) 2 0 (.int (nI n)) = some (mPut h 38 (.inr (2, [.int (nI n), va_rf r0, .int c0, .ref 39, .ref 40, .ref 41]))) := qPF hle e38 (Nat.le_of_ble_eq_true rfl)
  have q1 := q.put38 (nI n) c0 r0
  have E1 : (mPut h 38 (.inr (2, [.int (nI n), va_rf r0, .int c0, .ref 39, .ref 40, .ref 41]))).2 38 = _ := qPutS _
  have sA : qSame qC39 h (mPut h 38 (.inr (2, [.int (nI n), va_rf r0, .int c0, .ref 39, .ref 40, .ref 41]))) := qSame.rf.put ⟨by decide, by decide⟩ _
  generalize hh1 : mPut h 38 (.inr (2, [.int (nI n), va_rf r0, .int c0, .ref 39, .ref 40, .ref 41])) = h1 at P1 q1 E1 sA
  have P2 : mPF h1 (some 38) 2 1 (va_rf (some (4 + 4 * t))) = some (mPut h1 38 (.inr (2, [.int (nI n), va_rf (some (4 + 4 * t)), .int c0, .ref 39, .ref 40, .ref 41]))) := qPF (by rw [q1.1]; decide) E1 (Nat.le_of_ble_eq_true rfl)
  have q2 := q1.put38 (nI n) c0 (some (4 + 4 * t))
  have sB : qSame qC39 h (mPut h1 38 (.inr (2, [.int (nI n), va_rf (some (4 + 4 * t)), .int c0, .ref 39, .ref 40, .ref 41]))) := sA.put ⟨by decide, by decide⟩ _
  have m2 : qFm (mPut h1 38 (.inr (2, [.int (nI n), va_rf (some (4 + 4 * t)), .int c0, .ref 39, .ref 40, .ref 41]))) t n c0 f39 f40 f41 := by
    refine ⟨qPutS _, ?_, ?_, ?_⟩ <;> rw [qPutN _ (by decide), ← hh1, qPutN _ (by decide)]
    · exact e39
    · exact e40
    · exact e41
  generalize hh2 : mPut h1 38 (.inr (2, [.int (nI n), va_rf (some (4 + 4 * t)), .int c0, .ref 39, .ref 40, .ref 41])) = h2 at P2 q2 sB m2
  obtain ⟨h3, g3, p3, q3, m3, s3, a3⟩ := x_fill39 q2 m2
  obtain ⟨h4, p4, q4, m4, s4⟩ := m3.st39 q3 (i := 0) (by decide) (nI 0)
  obtain ⟨h5, p5, q5, m5, s5⟩ := m4.st40 q4 (i := 6) (by decide) (nI (2 ^ n - 1))
  obtain ⟨h7, p7, q7, m7, s7⟩ := m5.st41 q5 (i := 1) (by decide) (nI 1)
  have s27 : qSame qC39 h h7 := (((sB.trans (s3.mono fun z y => by unfold qC39; omega)).trans (s4.mono fun z y => by unfold qC39; omega)).trans (s5.mono fun z y => by unfold qC39; omega)).trans (s7.mono fun z y => by unfold qC39; omega)
  have OPEN : f_X3_find (some 38) (some (3 + 4 * t)) h = f_X3_find_l52 (some 38) 0 h7 := by
    unfold f_X3_find
    rw [is38, qbind, (tab q).1, qbind, P1, qbind, (tab q1).2.1, qbind, P2, qbind, (m2.o q2).2.2.2.2.1, qbind, p3, qbind, (m3.o q3).2.2.2.2.1, qbind]
    show ((mSI h3 (some 39) (nI 0) (nI 0)).bind _) = _
    rw [p4, qbind, (m4.o q4).2.2.2.2.2.1, qbind, (tab q4).2.2, qbind]
    show ((mSI h4 (some 40) (nI 6) (nI (2 ^ n - 1))).bind _) = _
    rw [p5, qbind, (m5.o q5).2.2.2.2.2.2, qbind]
    show ((mSI h5 (some 41) (nI 1) (nI 1)).bind _) = _
    rw [p7, qbind]
  rw [OPEN]
  unfold f_X3_find_l52
  have LOOP := mLoop_inv (b := fun x : Int32 × mH => f_X3_find_b52 (some 38) x.1 x.2) (fun k (s : Int32 × mH) => s.1 = nI k ∧ qX s.2 A ∧ qSame qC39 h s.2 ∧ ∃ bs g39 g40 g41 L, qFm s.2 t n bs g39 g40 g41 ∧ (g41 1 = nI 1 ∧ g40 6 = nI (2 ^ n - 1)) ∧ (∀ i, i < n → g39 i = nI (L i) ∧ L i ≤ 64) ∧ L 0 = 0 ∧ (k = 0 → ∀ i, 1 ≤ i → i < n → L i = 64) ∧ (0 < k → ∃ f, f < n ∧ qClf n R f (2 ^ f) 1 [2 ^ n - 1] (2 * n) L) ∧ ∀ f, f < k → ∀ e, qClf n R f (2 ^ f) 1 [2 ^ n - 1] (2 * n) e → qLxN 1 n L e) n (fun h' => qX h' A ∧ qSame qC39 h h' ∧ ∃ bs g39 g40 g41 L, qFm h' t n bs g39 g40 g41 ∧ (∀ i, i < n → g39 i = nI (L i) ∧ L i ≤ 64) ∧ qFdx n R L) (s0 := (nI 0, h7)) ⟨rfl, q7, s27, c0, _, _, _, fun i => if i = 0 then 0 else 64, m7, ⟨qUps, qUps⟩, fun i hi => ?_, rfl, fun _ i h1 _ => if_neg (by omega), fun z => absurd z (by decide), fun f hf => absurd hf (Nat.not_lt_zero f)⟩ ?_ ?_
  · obtain ⟨h', e, a1, a2, bs, g39, g40, g41, L, a3, a4, a5⟩ := LOOP
    exact ⟨h', g39, L, e, a1, a2, (a3.o a1).2.2.2.2.1, a3.2.1, a4, a5⟩
  · by_cases z : i = 0
    · rw [z, qUps]; exact ⟨rfl, by decide⟩
    · rw [qUpn z]; dsimp only; rw [if_neg z]; exact ⟨a3 i (by omega), by decide⟩
  · rintro k ⟨a, hk⟩ hkn ⟨rfl, qk', sk, bs, g39, g40, g41, L, mk', ⟨b1, b2⟩, u, l0, lz, lf, la⟩
    have qk : qX hk A := qk'
    have mk : qFm hk t n bs g39 g40 g41 := mk'
    have ok := mk.o qk
    have ra := x_rowAt qk h6 (i := k) (by omega) (by omega)
    rw [hR] at ra
    have PB : mPF hk (some 38) 2 2 (.int (nI (R k))) = some (mPut hk 38 (.inr (2, [.int (nI n), va_rf (some (4 + 4 * t)), .int (nI (R k)), .ref 39, .ref 40, .ref 41]))) := qPF (by rw [qk.1]; decide) mk.1 (Nat.le_of_ble_eq_true rfl)
    have qb := qk.put38 (nI n) (nI (R k)) (some (4 + 4 * t))
    have mb : qFm (mPut hk 38 (.inr (2, [.int (nI n), va_rf (some (4 + 4 * t)), .int (nI (R k)), .ref 39, .ref 40, .ref 41]))) t n (nI (R k)) g39 g40 g41 := ⟨qPutS _, (qPutN _ (by decide)).trans mk.2.1, (qPutN _ (by decide)).trans mk.2.2.1, (qPutN _ (by decide)).trans mk.2.2.2⟩
    have sb : qSame qC39 h (mPut hk 38 (.inr (2, [.int (nI n), va_rf (some (4 + 4 * t)), .int (nI (R k)), .ref 39, .ref 40, .ref 41]))) := qSame.put (h' := hk) sk ⟨by decide, by decide⟩ _
    generalize mPut hk 38 (.inr (2, [.int (nI n), va_rf (some (4 + 4 * t)), .int (nI (R k)), .ref 39, .ref 40, .ref 41])) = hb at PB qb mb sb
    obtain ⟨h', j39, j40, j41, L', p', q', m', s', k40, k41, u', J⟩ := x_lower (f := k) w h6 ht hR hn hkn (n - 1) 20 1 (2 ^ k) [2 ^ n - 1] hb g39 g40 g41 L (by omega) (by omega) (Nat.pow_lt_pow_right (by decide) hkn) (qc_bit hkn) kk qb mb u ⟨b1, b2, trivial⟩
    obtain ⟨J1, J2, J3, J4⟩ := J
    refine ⟨(nI (k + 1), h'), ?_, rfl, q', sb.trans (s'.mono fun z y => by unfold qC38 at y; unfold qC39; omega), nI (R k), j39, j40, j41, L', m', ⟨by rw [k41 1 (by decide)]; exact b1, by rw [k40 6 (by decide)]; exact b2⟩, u', by rw [J1 0 (by decide)]; exact l0, fun z => absurd z (by omega), fun _ => ?_, fun f hf e he => ?_⟩
    · show f_X3_find_b52 (some 38) (nI k) hk = _
      unfold f_X3_find_b52
      rw [ok.2.1, qbind, if_neg (by rw [qle (by omega) (by omega)]; omega), ok.2.2.1, qbind, ra, qbind, PB, qbind, qI_pow (by omega)]
      show ((f_X3_lower 20 (some 38) (nI 1) (nI (2 ^ k)) hb).bind _) = _
      rw [p', qbind, nI_1]
    · rcases J4 with J4 | J4
      · by_cases z : k = 0
        · -- the first: something lesser than 64 came
          obtain ⟨e, e1, e2⟩ := qCl_ex (R := R) (f := k) (U := 2 ^ k) (d := 1) kk hn (qc_bit hkn)
          by_cases y : 1 < n
          · exfalso
            have := (J3 e e1).le y
            rw [J4 1 (Nat.le_refl 1) y, lz z 1 (Nat.le_refl 1) y] at this
            have := e2 1
            omega
          · obtain ⟨sg, ep, r, p, b, v, inj, lt⟩ := e1
            exact ⟨k, hkn, sg, ep, r, p, b, fun a a1 a2 => absurd a1 (by omega), fun a c a1 a2 => absurd a1 (by omega), fun h => absurd h y⟩
        · obtain ⟨f, f1, sg, ep, r, p, b, v, inj, lt⟩ := lf (by omega)
          exact ⟨f, f1, sg, ep, r, p, b, fun a a1 a2 => by rw [J4 a a1 a2]; exact v a a1 a2, inj, lt⟩
      · exact ⟨k, hkn, J4⟩
    · by_cases z : f = k
      · subst z; exact J3 e he
      · exact J2.tr (la f (by omega) e he)
  · rintro ⟨a, hk⟩ ⟨rfl, qk', sk, bs, g39, g40, g41, L, mk', b, u, l0, lz, lf, la⟩
    have qk : qX hk A := qk'
    have mk : qFm hk t n bs g39 g40 g41 := mk'
    refine ⟨hk, ?_, qk, sk, bs, g39, g40, g41, L, mk, u, l0, lf h0, la⟩
    show f_X3_find_b52 (some 38) (nI n) hk = _
    unfold f_X3_find_b52
    rw [(mk.o qk).2.1, qbind, if_pos (by rw [qle (by omega) (by omega)]; omega)]
end QFX
