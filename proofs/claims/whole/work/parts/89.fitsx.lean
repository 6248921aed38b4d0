/-! PURE: fits, the class's side -/
def qMhx (h : mH) (t u n : Nat) (x0 y0 : Int32) (f34 f35 f36 f37 : Nat → Int32) : Prop := h.2 33 = .inr (3, [.int (nI n), .ref (4 + 4 * t), .ref (4 + 4 * u), .int x0, .int y0, .ref 34, .ref 35, .ref 36, .ref 37]) ∧ h.2 34 = .inl (12, .inl f34) ∧ h.2 35 = .inl (156, .inl f35) ∧ h.2 36 = .inl (156, .inl f36) ∧ h.2 37 = .inl (13, .inl f37)
def qC33 (k : Nat) : Prop := 33 ≤ k ∧ k ≤ 37
theorem qX.put33 {h : mH} {A : qA} (q : qX h A) (n c d : Int32) (r s : Option Nat) : qX (mPut h 33 (.inr (3, [.int n, va_rf r, va_rf s, .int c, .int d, .ref 34, .ref 35, .ref 36, .ref 37]))) A := by
  obtain ⟨a1, a2, ⟨f3, a3, a3'⟩, a4, ⟨g, a5, a5'⟩, ⟨g2, a6, a6'⟩, q7⟩ := q
  refine ⟨a1, (qPutN _ (by decide)).trans a2, ⟨f3, (qPutN _ (by decide)).trans a3, a3'⟩, fun t ht => (a4 t ht).same rfl fun k h1 h2 => qPutN _ (by omega), ⟨g, (qPutN _ (by decide)).trans a5, a5'⟩, ⟨g2, (qPutN _ (by decide)).trans a6, a6'⟩, ?_⟩
  obtain ⟨a1, a2, a3, a4, ⟨n1, c', d', r', s', a5⟩, a6, a7, a8, a9, ⟨n', c'', r'', b1⟩, b2, b3, b4, b5, b6, b7, b8, b9, ⟨n'', c1⟩, c2, c3, c4⟩ := q7
  exact ⟨a1.same (qPutN _ (by decide)), (qPutN _ (by decide)).trans a2, a3.same (qPutN _ (by decide)), a4.same (qPutN _ (by decide)), ⟨n, c, d, r, s, qPutS _⟩, a6.same (qPutN _ (by decide)), a7.same (qPutN _ (by decide)), a8.same (qPutN _ (by decide)), a9.same (qPutN _ (by decide)), ⟨n', c'', r'', (qPutN _ (by decide)).trans b1⟩, b2.same (qPutN _ (by decide)), b3.same (qPutN _ (by decide)), b4.same (qPutN _ (by decide)), (qPutN _ (by decide)).trans b5, b6.same (qPutN _ (by decide)), b7.same (qPutN _ (by decide)), (qPutN _ (by decide)).trans b8, b9.same (qPutN _ (by decide)), ⟨n'', (qPutN _ (by decide)).trans c1⟩, c2.same (qPutN _ (by decide)), c3.same (qPutN _ (by decide)), c4.same (qPutN _ (by decide))⟩
theorem qXf34 : qXf 34 12 := by unfold qXf; decide
theorem qXf35 : qXf 35 156 := by unfold qXf; decide
theorem qXf36 : qXf 36 156 := by unfold qXf; decide
theorem qXf37 : qXf 37 13 := by unfold qXf; decide
section QFX
variable {h : mH} {A : qA} {t u n : Nat} {x0 y0 : Int32} {f34 f35 f36 f37 : Nat → Int32}
theorem qMhx.g (m : qMhx h t u n x0 y0 f34 f35 f36 f37) (q : qX h A) : mIs h (some 33) 3 = some () ∧ mGI h (some 33) 3 0 = some (nI n) ∧ mGR h (some 33) 3 1 = some (some (4 + 4 * t)) ∧ mGR h (some 33) 3 2 = some (some (4 + 4 * u)) ∧ mGI h (some 33) 3 3 = some x0 ∧ mGI h (some 33) 3 4 = some y0 ∧ mGR h (some 33) 3 5 = some (some 34) ∧ mGR h (some 33) 3 6 = some (some 35) ∧ mGR h (some 33) 3 7 = some (some 36) ∧ mGR h (some 33) 3 8 = some (some 37) := by
  have hle : 33 ≤ h.1 := by rw [q.1]; decide
  exact ⟨qIs hle m.1, qGI hle m.1 rfl, qGR hle m.1 rfl, qGR hle m.1 rfl, qGI hle m.1 rfl, qGI hle m.1 rfl, qGR hle m.1 rfl, qGR hle m.1 rfl, qGR hle m.1 rfl, qGR hle m.1 rfl⟩
theorem x_st34 (q : qX h A) (m : qMhx h t u n x0 y0 f34 f35 f36 f37) {i : Nat} (hi : i < 12) (v : Int32) : ∃ h', mSI h (some 34) (nI i) v = some h' ∧ qX h' A ∧ qMhx h' t u n x0 y0 (upd f34 i v) f35 f36 f37 ∧ qSame qC33 h h' := by
  obtain ⟨h', p, q', e, s⟩ := x_stW q qXf34 m.2.1 hi v
  exact ⟨h', p, q', ⟨(s.2 _ (by decide)).trans m.1, e, (s.2 _ (by decide)).trans m.2.2.1, (s.2 _ (by decide)).trans m.2.2.2.1, (s.2 _ (by decide)).trans m.2.2.2.2⟩, s.mono fun k z => by unfold qC33; omega⟩
theorem x_st35 (q : qX h A) (m : qMhx h t u n x0 y0 f34 f35 f36 f37) {i : Nat} (hi : i < 156) (v : Int32) : ∃ h', mSI h (some 35) (nI i) v = some h' ∧ qX h' A ∧ qMhx h' t u n x0 y0 f34 (upd f35 i v) f36 f37 ∧ qSame qC33 h h' := by
  obtain ⟨h', p, q', e, s⟩ := x_stW q qXf35 m.2.2.1 hi v
  exact ⟨h', p, q', ⟨(s.2 _ (by decide)).trans m.1, (s.2 _ (by decide)).trans m.2.1, e, (s.2 _ (by decide)).trans m.2.2.2.1, (s.2 _ (by decide)).trans m.2.2.2.2⟩, s.mono fun k z => by unfold qC33; omega⟩
theorem x_st36 (q : qX h A) (m : qMhx h t u n x0 y0 f34 f35 f36 f37) {i : Nat} (hi : i < 156) (v : Int32) : ∃ h', mSI h (some 36) (nI i) v = some h' ∧ qX h' A ∧ qMhx h' t u n x0 y0 f34 f35 (upd f36 i v) f37 ∧ qSame qC33 h h' := by
  obtain ⟨h', p, q', e, s⟩ := x_stW q qXf36 m.2.2.2.1 hi v
  exact ⟨h', p, q', ⟨(s.2 _ (by decide)).trans m.1, (s.2 _ (by decide)).trans m.2.1, (s.2 _ (by decide)).trans m.2.2.1, e, (s.2 _ (by decide)).trans m.2.2.2.2⟩, s.mono fun k z => by unfold qC33; omega⟩
theorem x_st37 (q : qX h A) (m : qMhx h t u n x0 y0 f34 f35 f36 f37) {i : Nat} (hi : i < 13) (v : Int32) : ∃ h', mSI h (some 37) (nI i) v = some h' ∧ qX h' A ∧ qMhx h' t u n x0 y0 f34 f35 f36 (upd f37 i v) ∧ qSame qC33 h h' := by
  obtain ⟨h', p, q', e, s⟩ := x_stW q qXf37 m.2.2.2.2 hi v
  exact ⟨h', p, q', ⟨(s.2 _ (by decide)).trans m.1, (s.2 _ (by decide)).trans m.2.1, (s.2 _ (by decide)).trans m.2.2.1, (s.2 _ (by decide)).trans m.2.2.2.1, e⟩, s.mono fun k z => by unfold qC33; omega⟩
/-- a part is added, if it isn't empty -/
theorem x_addPart {R S c r : Nat → Nat} {k mm r0 tot : Nat} {b : Bool} {cov : Nat → Prop} (q : qX h A) (m : qMhx h t u n x0 y0 f34 f35 f36 f37) (hn : n ≤ 12) (hk : k < n) (a : qAcc n R S c k mm r f35 f36 cov tot) (ht : tot + qp (qPt n R c k r0 b) ≤ n) : ∃ h' mm' r' g35 g36, f_X4_addClass (some 33) (nI (12 * (k + 1) + mm)) (nI (qPt n R c k r0 b)) (nI (qPu n R S c k r0 b)) h = some (nI (12 * (k + 1) + mm'), h') ∧ qX h' A ∧ qMhx h' t u n x0 y0 f34 g35 g36 f37 ∧ qSame qC33 h h' ∧ (∀ p, p < 12 * (k + 1) → g35 p = f35 p ∧ g36 p = f36 p) ∧ qAcc n R S c k mm' r' g35 g36 (fun j => cov j ∨ (qHH n R c k r0 j = true ∧ qXb n R c k j = b)) (tot + qp (qPt n R c k r0 b)) := by
  obtain ⟨g1, g2, g3, g4, g5, g6, g7, g8, g9, g10⟩ := m.g q
  have hlt : qPt n R c k r0 b < 2 ^ n := qW_lt n _
  have h12 : 2 ^ n ≤ 2 ^ 12 := Nat.pow_le_pow_right (by decide) hn
  unfold f_X4_addClass
  by_cases h0 : qPt n R c k r0 b = 0
  · refine ⟨h, mm, r, f35, f36, ?_, q, m, qSame.rf, fun _ _ => ⟨rfl, rfl⟩, a.skip n R S h0⟩
    rw [g1, qbind, if_pos (by rw [h0]; rfl)]
  · have hml := a.m_le n R S hn
    have hp1 : 1 ≤ qp (qPt n R c k r0 b) := by
      have hq : qp (qPt n R c k r0 b) = qc 32 (fun i => (qPt n R c k r0 b).testBit i) := rfl
      by_cases z : qp (qPt n R c k r0 b) = 0
      · exfalso
        apply h0
        rw [hq] at z
        have zz := qc_zero.mp z
        apply Nat.eq_of_testBit_eq
        intro i
        rw [Nat.zero_testBit]
        by_cases hi : i < 32
        · exact zz i hi
        · exact Nat.testBit_lt_two_pow (Nat.lt_of_lt_of_le hlt (Nat.pow_le_pow_right (by decide) (by omega)))
      · omega
    obtain ⟨h1, p1, q1, m1, s1⟩ := x_st35 q m (i := 12 * (k + 1) + mm) (by omega) (nI (qPt n R c k r0 b))
    obtain ⟨h2, p2, q2, m2, s2⟩ := x_st36 q1 m1 (i := 12 * (k + 1) + mm) (by omega) (nI (qPu n R S c k r0 b))
    obtain ⟨j1, j2, j3, j4, j5, j6, j7, j8, j9, j10⟩ := m1.g q1
    obtain ⟨r', a'⟩ := a.add n R S hn h0
    refine ⟨h2, mm + 1, r', _, _, ?_, q2, m2, s1.trans s2, fun p hp => ⟨qUpn (by omega), qUpn (by omega)⟩, a'⟩
    rw [g1, qbind, if_neg (by rw [qI_zero, qeq (by omega) (by decide)]; exact h0), g8, qbind, qLn (by rw [q.1]; decide) m.2.2.1, qbind, if_pos (by rw [qlt (by omega) (by decide)]; omega), qbind, p1, qbind, j9, qbind, p2, qbind, qI_one, qI_add]
    rfl
theorem qAcc.cov {R S c r : Nat → Nat} {k mm tot : Nat} {cov cov' : Nat → Prop} (a : qAcc n R S c k mm r f35 f36 cov tot) (hc : ∀ j, cov' j → cov j) : qAcc n R S c k mm r f35 f36 cov' tot := ⟨a.1, fun j hj z => a.2.1 j hj (hc j z), a.2.2⟩
end QFX
/-- the class's search at depth k -/
def qWk (h : mH) (t u n : Nat) (R S c : Nat → Nat) (k : Nat) : Prop := ∃ x0 y0 f34 f35 f36 f37, qMhx h t u n x0 y0 f34 f35 f36 f37 ∧ (∀ e, e < k → f34 e = nI (c e)) ∧ (1 ≤ k → x0 = nI (qXw n R c 0) ∧ y0 = nI (S (c 0 / 2))) ∧ ∀ k', k' ≤ k → qLv n R S c f35 f36 f37 k'
section QFY
variable {h : mH} {A : qA} {t u n : Nat} {R S c : Nat → Nat}
/-- the loop over the classes -/
theorem x_fitsL (q : qX h A) (hn : n ≤ 12) {k cd : Nat} (hk : k < n) (hcd : c k = cd) (hcd2 : cd < 2 * n) (hA : qAg n R S c k = true) {x0 y0 : Int32} {f34 f35 f36 f37 : Nat → Int32} (m : qMhx h t u n x0 y0 f34 f35 f36 f37) (hc : ∀ e, e < k → f34 e = nI (c e)) (hx : x0 = nI (qXw n R c 0) ∧ y0 = nI (S (c 0 / 2))) (hl : ∀ k', k' ≤ k → qLv n R S c f35 f36 f37 k') : ∃ h', f_X4_fits_c60 (some 33) (nI k) (nI cd) (nI (qXw n R c k)) (nI (S (c k / 2))) h = some (qB2I (qAg n R S c (k + 1)), h') ∧ qX h' A ∧ qSame qC33 h h' ∧ (∀ c', (∀ e, e < k → c' e = c e) → (1 ≤ k → c' 0 = c 0) → qWk h' t u n R S c' k) ∧ (qAg n R S c (k + 1) = true → qWk h' t u n R S c (k + 1)) := by
  obtain ⟨g1, g2, g3, g4, g5, g6, g7, g8, g9, g10⟩ := m.g q
  obtain ⟨cc, r, l1, l2, l3, l4⟩ := hl k (Nat.le_refl k)
  have hcc : cc ≤ n := qLv.le (f35 := f35) (f36 := f36) (f37 := f37) n R hn (fun i hi => (l2 i hi).1) l4
  have step := qAg_step n R S hA (fun i hi => (l2 i hi).1) l3
  have h12 : 2 ^ n ≤ 2 ^ 12 := Nat.pow_le_pow_right (by decide) hn
  have P12 : ∀ p : Nat → Bool, qW n p < 2 ^ 12 := fun p => Nat.lt_of_lt_of_le (qW_lt n p) h12
  -- what holds at the i-th class
  let J : Nat → Int32 × Int32 × mH → Prop := fun i s => ∃ mm r' g35 g36, s.1 = nI (12 * (k + 1) + mm) ∧ s.2.1 = nI (12 * k + i) ∧ qX s.2.2 A ∧ qMhx s.2.2 t u n x0 y0 f34 g35 g36 f37 ∧ qSame qC33 h s.2.2 ∧ (∀ p, p < 12 * (k + 1) → g35 p = f35 p ∧ g36 p = f36 p) ∧ qAcc n R S c k mm r' g35 g36 (fun j => ∃ i0, i0 < i ∧ qHH n R c k (r i0) j = true) (qSum i (fun i => qp (qW n (qHH n R c k (r i)))))
  have tot_le : ∀ i, i ≤ cc → qSum i (fun i => qp (qW n (qHH n R c k (r i)))) ≤ n := by
    intro i hi
    have := qSum_tail i (cc - i) (fun i => qp (qW n (qHH n R c k (r i))))
    rw [show i + (cc - i) = cc by omega, l4] at this
    omega
  have J0 : J 0 (nI (k * 12 + 12), nI (k * 12), h) := ⟨0, r, f35, f36, by show nI _ = nI _; congr 1; omega, by show nI _ = nI _; congr 1; omega, q, m, qSame.rf, fun _ _ => ⟨rfl, rfl⟩, fun i hi => absurd hi (Nat.not_lt_zero i), fun j _ ⟨i0, hi0, _⟩ => absurd hi0 (Nat.not_lt_zero i0), rfl⟩
  have wk : ∀ (h' : mH) (g34 g35 g36 g37 : Nat → Int32), qMhx h' t u n x0 y0 g34 g35 g36 g37 → (∀ e, e < k → g34 e = f34 e) → (∀ p, p < 12 * (k + 1) → g35 p = f35 p ∧ g36 p = f36 p) → (∀ p, p < k + 1 → g37 p = f37 p) → ∀ c', (∀ e, e < k → c' e = c e) → (1 ≤ k → c' 0 = c 0) → qWk h' t u n R S c' k := by
    intro h' g34 g35 g36 g37 m' e34 e35 e37 c' hc' hc0
    refine ⟨x0, y0, g34, g35, g36, g37, m', fun e he => by rw [e34 e he, hc e he, hc' e he], fun h1 => ?_, fun k' hk' => ?_⟩
    · rw [hx.1, hx.2]
      unfold qXw
      rw [hc0 h1]
      exact ⟨rfl, rfl⟩
    · exact ((hl k' hk').same n R S hn (fun p hp => (e35 p (by omega)).1) (fun p hp => (e35 p (by omega)).2) (e37 k' (by omega))).congr n R S fun e he => hc' e (by omega)
  have TURN : ∀ i s, i < cc → J i s → (qp (qPt n R c k (r i) true) = qp (qPu n R S c k (r i) true) → ∃ s', f_X4_fits_b106 (some 33) (nI k) (nI cd) (nI (qXw n R c k ^^^ qXw n R c 0)) (nI (S (c k / 2) ^^^ S (c 0 / 2))) (nI (k * 12)) (nI (k * 12 + cc)) s.1 s.2.1 s.2.2 = some (.inl s') ∧ J (i + 1) s') ∧ (¬ qp (qPt n R c k (r i) true) = qp (qPu n R S c k (r i) true) → f_X4_fits_b106 (some 33) (nI k) (nI cd) (nI (qXw n R c k ^^^ qXw n R c 0)) (nI (S (c k / 2) ^^^ S (c 0 / 2))) (nI (k * 12)) (nI (k * 12 + cc)) s.1 s.2.1 s.2.2 = some (.inr (0, s.2.2))) := by
    rintro i ⟨sa, sb, h1⟩ hi ⟨mm, r', g35, g36, e1, e2, q1', m1', s1', k1, a1⟩
    have e1' : sa = nI (12 * (k + 1) + mm) := e1
    have e2' : sb = nI (12 * k + i) := e2
    subst e1' e2'
    have q1 : qX h1 A := q1'
    have m1 : qMhx h1 t u n x0 y0 f34 g35 g36 f37 := m1'
    have s1 : qSame qC33 h h1 := s1'
    obtain ⟨j1, j2, j3, j4, j5, j6, j7, j8, j9, j10⟩ := m1.g q1
    obtain ⟨li1, li2, li3⟩ := l2 i hi
    have v5 : g35 (12 * k + i) = nI (qW n (qHH n R c k (r i))) := by rw [(k1 _ (by omega)).1]; exact li2
    have v6 : g36 (12 * k + i) = nI (qW n (qHT n R S c k (r i))) := by rw [(k1 _ (by omega)).2]; exact li3
    have a35 : ∀ {h'} {g35' g36'}, qX h' A → qMhx h' t u n x0 y0 f34 g35' g36' f37 → mAI h' (some 35) (nI (12 * k + i)) = some (g35' (12 * k + i)) ∧ mAI h' (some 36) (nI (12 * k + i)) = some (g36' (12 * k + i)) := fun q' m' => ⟨q'.atW m'.2.2.1 (by decide) (by decide) (by omega), q'.atW m'.2.2.2.1 (by decide) (by decide) (by omega)⟩
    have bp : qPt n R c k (r i) true < 2 ^ 12 := P12 _
    have bu : qPu n R S c k (r i) true < 2 ^ 12 := P12 _
    have w1 := qp_le (qPt n R c k (r i) true)
    have w2 := qp_le (qPu n R S c k (r i) true)
    have PRE : ∀ X, f_X4_fits_b106 (some 33) (nI k) (nI cd) (nI (qXw n R c k ^^^ qXw n R c 0)) (nI (S (c k / 2) ^^^ S (c 0 / 2))) (nI (k * 12)) (nI (k * 12 + cc)) (nI (12 * (k + 1) + mm)) (nI (12 * k + i)) h1 = X ↔ (if nI (qp (qPt n R c k (r i) true)) = nI (qp (qPu n R S c k (r i) true)) then (f_X4_addClass (some 33) (nI (12 * (k + 1) + mm)) (nI (qPt n R c k (r i) true)) (nI (qPu n R S c k (r i) true)) h1).bind fun x11 => (mGR x11.2 (some 33) 3 6).bind fun x12 => (mAI x11.2 x12 (nI (12 * k + i))).bind fun x13 => (mGR x11.2 (some 33) 3 7).bind fun x14 => (mAI x11.2 x14 (nI (12 * k + i))).bind fun x15 => (f_X4_addClass (some 33) x11.1 (x13 &&& (nI (qXw n R c k ^^^ qXw n R c 0) ^^^ (-1))) (x15 &&& (nI (S (c k / 2) ^^^ S (c 0 / 2)) ^^^ (-1))) x11.2).bind fun x16 => some (Sum.inl (x16.1, nI (12 * k + i) + 1, x16.2)) else some (Sum.inr (0, h1))) = X := by
      intro X
      unfold f_X4_fits_b106
      rw [if_neg (by rw [qle (by omega) (by omega)]; omega), j8, qbind, (a35 q1 m1).1, qbind, j9, qbind, (a35 q1 m1).2, qbind, v5, v6, qI_and, qI_and, qPt_t, qPu_t, qJ_bitCount (by omega), qbind, qJ_bitCount (by omega), qbind]
    constructor
    · intro hp
      have hsum := tot_le (i + 1) (by omega)
      have hsum' : qSum i (fun i => qp (qW n (qHH n R c k (r i)))) + qp (qW n (qHH n R c k (r i))) ≤ n := hsum
      have hpt := qPt_sum n R (by omega) c k (r i)
      obtain ⟨h2, mm2, r2, g35b, g36b, p2, q2, m2, s2, k2, a2⟩ := x_addPart q1 m1 hn hk a1 (r0 := r i) (b := true) (by omega)
      obtain ⟨h3, mm3, r3, g35c, g36c, p3, q3, m3, s3, k3, a3⟩ := x_addPart q2 m2 hn hk a2 (r0 := r i) (b := false) (by omega)
      obtain ⟨o1, o2, o3, o4, o5, o6, o7, o8, o9, o10⟩ := m2.g q2
      have v5b : g35b (12 * k + i) = nI (qW n (qHH n R c k (r i))) := by rw [(k2 _ (by omega)).1]; exact v5
      have v6b : g36b (12 * k + i) = nI (qW n (qHT n R S c k (r i))) := by rw [(k2 _ (by omega)).2]; exact v6
      refine ⟨(nI (12 * (k + 1) + mm3), nI (12 * k + (i + 1)), h3), ?_, mm3, r3, g35c, g36c, rfl, rfl, q3, m3, (s1.trans s2).trans s3, fun p hp => ⟨((k3 p hp).1.trans (k2 p hp).1).trans (k1 p hp).1, ((k3 p hp).2.trans (k2 p hp).2).trans (k1 p hp).2⟩, ?_⟩
      · refine (PRE _).mpr ?_
        rw [if_pos (by rw [hp]), p2, qbind, o8, qbind, (a35 q2 m2).1, qbind, o9, qbind, (a35 q2 m2).2, qbind, v5b, v6b, qI_andn, qI_andn, qPt_f, qPu_f, p3, qbind, nI_1]
        rfl
      · have e3 : qSum (i + 1) (fun i => qp (qW n (qHH n R c k (r i)))) = qSum i (fun i => qp (qW n (qHH n R c k (r i)))) + qp (qPt n R c k (r i) true) + qp (qPt n R c k (r i) false) := by
          show qSum i _ + qp (qW n (qHH n R c k (r i))) = _
          omega
        rw [e3]
        refine a3.cov fun j hj => ?_
        obtain ⟨i0, hi0, hh⟩ := hj
        by_cases z : i0 = i
        · subst z
          cases hb : qXb n R c k j
          · exact Or.inr ⟨hh, rfl⟩
          · exact Or.inl (Or.inr ⟨hh, rfl⟩)
        · exact Or.inl (Or.inl ⟨i0, by omega, hh⟩)
    · intro hp
      refine (PRE _).mpr ?_
      rw [if_neg (by rw [qeq (by omega) (by omega)]; exact hp)]
  have eqc : ∀ i, (qp (qPt n R c k (r i) true) = qp (qPu n R S c k (r i) true)) ↔ qc n (fun o => qHH n R c k (r i) o && qXb n R c k o) = qc n (fun o => qHT n R S c k (r i) o && qYb S c k o) := by
    intro i
    unfold qPt qPu
    rw [qp_qW n (by omega), qp_qW n (by omega)]
    have a1 : qc n (fun o => qHH n R c k (r i) o && (qXb n R c k o == true)) = qc n (fun o => qHH n R c k (r i) o && qXb n R c k o) := qc_eq fun o _ => by cases qXb n R c k o <;> rfl
    have a2 : qc n (fun o => qHT n R S c k (r i) o && (qYb S c k o == true)) = qc n (fun o => qHT n R S c k (r i) o && qYb S c k o) := qc_eq fun o _ => by cases qYb S c k o <;> rfl
    rw [a1, a2]
  unfold f_X4_fits_c60
  rw [g5, qbind, g6, qbind, g10, qbind, q.atW m.2.2.2.2 (by decide) (by decide) (by omega), qbind, l1, hx.1, hx.2, qI_xor, qI_xor, show nI k * 12 = nI (k * 12) from qI_mul k 12, qI_add, show nI (k * 12) + 12 = nI (k * 12 + 12) from qI_add _ 12]
  unfold f_X4_fits_l106
  rcases qLeast (fun i => qp (qPt n R c k (r i) true) = qp (qPu n R S c k (r i) true)) cc with hall | ⟨i0, hi0, hno, hbef⟩
  · have hag : qAg n R S c (k + 1) = true := step.mpr fun i hi => (eqc i).mp (hall i hi)
    rw [hag]
    have RR := mLoop_inv (b := fun x : Int32 × Int32 × mH => f_X4_fits_b106 (some 33) (nI k) (nI cd) (nI (qXw n R c k ^^^ qXw n R c 0)) (nI (S (c k / 2) ^^^ S (c 0 / 2))) (nI (k * 12)) (nI (k * 12 + cc)) x.1 x.2.1 x.2.2) J cc (fun r => ∃ h', r = (1, h') ∧ qX h' A ∧ qSame qC33 h h' ∧ (∀ c', (∀ e, e < k → c' e = c e) → (1 ≤ k → c' 0 = c 0) → qWk h' t u n R S c' k) ∧ qWk h' t u n R S c (k + 1)) J0 (fun i s hi hj => (TURN i s hi hj).1 (hall i hi)) ?_
    · obtain ⟨r1, e1, h', rfl, z1, z2, z3, z4⟩ := RR
      exact ⟨h', e1, z1, z2, z3, fun _ => z4⟩
    · rintro ⟨sa, sb, h1⟩ ⟨mm, r', g35, g36, e1, e2, q1', m1', s1', k1, a1⟩
      have e1' : sa = nI (12 * (k + 1) + mm) := e1
      have e2' : sb = nI (12 * k + cc) := e2
      subst e1' e2'
      have q1 : qX h1 A := q1'
      have m1 : qMhx h1 t u n x0 y0 f34 g35 g36 f37 := m1'
      have s1 : qSame qC33 h h1 := s1'
      obtain ⟨j1, j2, j3, j4, j5, j6, j7, j8, j9, j10⟩ := m1.g q1
      obtain ⟨h2, p2, q2, m2, s2⟩ := x_st37 q1 m1 (i := k + 1) (by omega) (nI mm)
      obtain ⟨h3, p3, q3, m3, s3⟩ := x_st34 q2 m2 (i := k) (by omega) (nI cd)
      obtain ⟨o1, o2, o3, o4, o5, o6, o7, o8, o9, o10⟩ := m2.g q2
      have hmm := a1.m_le n R S hn
      refine ⟨_, ?_, h3, rfl, q3, (s1.trans s2).trans s3, ?_, ?_⟩
      · show f_X4_fits_b106 (some 33) (nI k) (nI cd) (nI (qXw n R c k ^^^ qXw n R c 0)) (nI (S (c k / 2) ^^^ S (c 0 / 2))) (nI (k * 12)) (nI (k * 12 + cc)) (nI (12 * (k + 1) + mm)) (nI (12 * k + cc)) h1 = _
        unfold f_X4_fits_b106
        rw [if_pos (by rw [qle (by omega) (by omega)]; omega), j10, qbind, nI_1, qI_sub (by omega), show nI (12 * (k + 1) + mm - k * 12) - 12 = nI (12 * (k + 1) + mm - k * 12 - 12) from qI_sub (a := 12 * (k + 1) + mm - k * 12) (b := 12) (by omega), show 12 * (k + 1) + mm - k * 12 - 12 = mm by omega, p2, qbind, o7, qbind, p3, qbind]
      · exact wk h3 _ _ _ _ m3 (fun e he => qUpn (by omega)) k1 (fun p hp => qUpn (by omega))
      · obtain ⟨b1, b2, b3⟩ := a1
        refine ⟨x0, y0, _, _, _, _, m3, fun e he => ?_, fun _ => hx, fun k' hk' => ?_⟩
        · by_cases z : e = k
          · rw [z, qUps, hcd]
          · rw [qUpn z]; exact hc e (by omega)
        · by_cases z : k' = k + 1
          · subst z
            refine ⟨mm, r', qUps, b1, fun j hj => ?_, by rw [b3]; exact l4⟩
            obtain ⟨i, i1, i2⟩ := l3 j hj
            exact b2 j hj ⟨i, i1, i2⟩
          · exact (hl k' (by omega)).same n R S hn (fun p hp => (k1 p (by omega)).1) (fun p hp => (k1 p (by omega)).2) (qUpn (by omega))
  · have hag : qAg n R S c (k + 1) = false := by
      cases hz : qAg n R S c (k + 1)
      · rfl
      · exact absurd ((eqc i0).mpr (step.mp hz i0 hi0)) hno
    rw [hag]
    have RR := mLoop_inv (b := fun x : Int32 × Int32 × mH => f_X4_fits_b106 (some 33) (nI k) (nI cd) (nI (qXw n R c k ^^^ qXw n R c 0)) (nI (S (c k / 2) ^^^ S (c 0 / 2))) (nI (k * 12)) (nI (k * 12 + cc)) x.1 x.2.1 x.2.2) J i0 (fun r => ∃ h', r = (0, h') ∧ qX h' A ∧ qSame qC33 h h' ∧ (∀ c', (∀ e, e < k → c' e = c e) → (1 ≤ k → c' 0 = c 0) → qWk h' t u n R S c' k)) J0 (fun i s hi hj => (TURN i s (by omega) hj).1 (hbef i hi)) ?_
    · obtain ⟨r1, e1, h', rfl, z1, z2, z3⟩ := RR
      exact ⟨h', e1, z1, z2, z3, fun z => by cases z⟩
    · rintro s hj
      have E := (TURN i0 s hi0 hj).2 hno
      obtain ⟨mm, r', g35, g36, e1, e2, q1, m1, s1, k1, a1⟩ := hj
      exact ⟨_, E, s.2.2, rfl, q1, s1, wk s.2.2 _ _ _ _ m1 (fun _ _ => rfl) k1 (fun _ _ => rfl)⟩
end QFY
