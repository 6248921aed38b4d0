/-! PURE: what the class works in, written; lines laid out on both sides -/
def qXf (a n : Nat) : Prop := (a, n) ∈ [(29, 28), (31, 12), (32, 1600), (34, 12), (35, 156), (36, 156), (37, 13), (39, 6), (40, 42), (41, 7), (48, 8), (49, 8), (50, 4)]
theorem qXs.put {h : mH} (q : qXs h) {a n : Nat} (ha : qXf a n) (f : Nat → Int32) : qXs (mPut h a (.inl (n, .inl f))) := by
  simp only [qXf, List.mem_cons, Prod.mk.injEq, List.not_mem_nil, or_false] at ha
  obtain ⟨a1, a2, a3, a4, ⟨n1, c, d, r, s, a5⟩, a6, a7, a8, a9, ⟨n', c', r', b1⟩, b2, b3, b4, b5, b6, b7, b8, b9, ⟨n'', c1⟩, c2, c3, c4⟩ := q
  have E : ∀ k m, qArr h k m → (k = a → m = n) → qArr (mPut h a (.inl (n, .inl f))) k m := by
    intro k m z hz
    by_cases hk : k = a
    · rw [hz hk, hk]; exact ⟨f, qPutS _⟩
    · exact z.same (qPutN _ hk)
  exact ⟨E _ _ a1 (by omega), (qPutN _ (by omega)).trans a2, E _ _ a3 (by omega), E _ _ a4 (by omega), ⟨n1, c, d, r, s, (qPutN _ (by omega)).trans a5⟩, E _ _ a6 (by omega), E _ _ a7 (by omega), E _ _ a8 (by omega), E _ _ a9 (by omega), ⟨n', c', r', (qPutN _ (by omega)).trans b1⟩, E _ _ b2 (by omega), E _ _ b3 (by omega), E _ _ b4 (by omega), (qPutN _ (by omega)).trans b5, b6.same (qPutN _ (by omega)), b7.same (qPutN _ (by omega)), (qPutN _ (by omega)).trans b8, b9.same (qPutN _ (by omega)), ⟨n'', (qPutN _ (by omega)).trans c1⟩, E _ _ c2 (by omega), E _ _ c3 (by omega), E _ _ c4 (by omega)⟩
section QXW
variable {h : mH} {A : qA}
theorem x_stW (q : qX h A) {a n : Nat} (hf : qXf a n) {f : Nat → Int32} (ha : h.2 a = .inl (n, .inl f)) {i : Nat} (hi : i < n) (v : Int32) : ∃ h', mSI h (some a) (nI i) v = some h' ∧ qX h' A ∧ h'.2 a = .inl (n, .inl (upd f i v)) ∧ qSame (fun k => k = a) h h' := by
  have hf' := hf
  simp only [qXf, List.mem_cons, Prod.mk.injEq, List.not_mem_nil, or_false] at hf'
  obtain ⟨a1, a2, ⟨f3, a3, a3'⟩, a4, ⟨g, a5, a5'⟩, ⟨g2, a6, a6'⟩, a7⟩ := q
  refine ⟨mPut h a (.inl (n, .inl (upd f i v))), qSI (by omega) (by rw [a1]; omega) ha (by omega) hi, ⟨a1, (qPutN _ (by omega)).trans a2, ⟨f3, (qPutN _ (by omega)).trans a3, a3'⟩, fun t ht => (a4 t ht).same rfl fun k h1 h2 => qPutN _ (by omega), ⟨g, (qPutN _ (by omega)).trans a5, a5'⟩, ⟨g2, (qPutN _ (by omega)).trans a6, a6'⟩, a7.put hf _⟩, qPutS _, qSame.put (S := fun k => k = a) qSame.rf rfl _⟩
theorem qX.atW (q : qX h A) {a n : Nat} {f : Nat → Int32} (ha : h.2 a = .inl (n, .inl f)) (h1 : a ≤ 72) (h2 : n < 2 ^ 31) {i : Nat} (hi : i < n) : mAI h (some a) (nI i) = some (f i) := qAI (by rw [q.1]; exact h1) ha h2 hi
theorem qX.lines (q : qX h A) : mGR h (some 1) 7 4 = some (some 29) := qGR (by rw [q.1]; decide) q.2.1 rfl
theorem qXf29 : qXf 29 28 := by unfold qXf; decide
theorem x_copyLines (q : qX h A) (w : qWA A) {t : Nat} (h6 : t < 6) (row : Bool) : ∃ h', f_X7_copyLines (some (3 + 4 * t)) (qB2I row) (some 29) h = some h' ∧ qX h' A ∧ qSame (fun k => k = 29) h h' ∧ ∃ f, h'.2 29 = .inl (28, .inl f) ∧ ∀ i, i < (A.1 t).1 → f i = nI (qLine (A.1 t) row i) := by
  have wt := w.1 t h6
  have hn := wt.1
  obtain ⟨f, hf⟩ := q.2.2.2.2.2.2.1
  obtain ⟨bk, bs, bc, ra, rb, fr, fa, fb, hT, hs⟩ := q.2.2.2.1 t h6
  unfold f_X7_copyLines f_X7_copyLines_l2
  rw [hT.is, qbind]
  refine mLoop_inv (b := fun x : Int32 × mH => f_X7_copyLines_b2 (some (3 + 4 * t)) (qB2I row) (some 29) x.1 x.2) (fun k (s : Int32 × mH) => s.1 = nI k ∧ qX s.2 A ∧ qSame (fun k => k = 29) h s.2 ∧ ∃ f, s.2.2 29 = .inl (28, .inl f) ∧ ∀ i, i < k → f i = nI (qLine (A.1 t) row i)) (A.1 t).1 (fun h' => qX h' A ∧ qSame (fun k => k = 29) h h' ∧ ∃ f, h'.2 29 = .inl (28, .inl f) ∧ ∀ i, i < (A.1 t).1 → f i = nI (qLine (A.1 t) row i)) (s0 := (nI 0, h)) ⟨rfl, q, qSame.rf, f, hf, fun i hi => absurd hi (Nat.not_lt_zero i)⟩ ?_ ?_
  · rintro k ⟨ik, hk⟩ hkn ⟨rfl, qk', sk, fk, e1', e2⟩
    have qk : qX hk A := qk'
    have e1 : hk.2 29 = .inl (28, .inl fk) := e1'
    obtain ⟨bk, bs, bc, ra, rb, fr, fa, fb, hTk, hsk⟩ := qk.2.2.2.1 t h6
    obtain ⟨h2, p2, q2, e3, s2⟩ := x_stW qk qXf29 e1 (i := k) (by omega) (nI (qLine (A.1 t) row k))
    refine ⟨(nI (k + 1), h2), ?_, rfl, q2, sk.trans s2, _, e3, fun i hi => ?_⟩
    · show f_X7_copyLines_b2 (some (3 + 4 * t)) (qB2I row) (some 29) (nI k) hk = _
      unfold f_X7_copyLines_b2
      rw [hTk.size, qbind, if_neg (by rw [qle (by omega) (by omega)]; omega), qLn (by rw [qk.1]; decide) e1, qbind, if_neg (by rw [qle (by omega) (by omega)]; omega), x_line hTk wt hsk.1 row hkn, qbind, p2, qbind, nI_1]
    · by_cases hik : i = k
      · rw [hik, qUps]
      · rw [qUpn hik]; exact e2 i (by omega)
  · rintro ⟨ik, hk⟩ ⟨rfl, qk', sk, fk, e1, e2⟩
    have qk : qX hk A := qk'
    obtain ⟨bk, bs, bc, ra, rb, fr, fa, fb, hTk, hsk⟩ := qk.2.2.2.1 t h6
    refine ⟨hk, ?_, qk, sk, fk, e1, e2⟩
    show f_X7_copyLines_b2 (some (3 + 4 * t)) (qB2I row) (some 29) (nI (A.1 t).1) hk = _
    unfold f_X7_copyLines_b2
    rw [hTk.size, qbind, if_pos (by rw [qle (by omega) (by omega)]; omega)]
theorem qMf62 : qMf 62 28 := by unfold qMf; decide
theorem m_laysLines (m : qM h A) (w : qWA A) {t : Nat} (h6 : t < 6) (row : Bool) : ∃ h', f_X9_laysLines (some 51) (nI t) (qB2I row) h = some h' ∧ qM h' A ∧ qSame (fun k => k = 62) h h' ∧ ∃ f, h'.2 62 = .inl (28, .inl f) ∧ ∀ i, i < (A.1 t).1 → f i = nI (qLine (A.1 t) row i) := by
  have wt := w.1 t h6
  have hn := wt.1
  obtain ⟨f, hf⟩ := m.2.2.2.2.2.2.2.2.2.1
  unfold f_X9_laysLines f_X9_laysLines_l2
  rw [m.is, qbind]
  refine mLoop_inv (b := fun x : Int32 × mH => f_X9_laysLines_b2 (some 51) (nI t) (qB2I row) x.1 x.2) (fun k (s : Int32 × mH) => s.1 = nI k ∧ qM s.2 A ∧ qSame (fun k => k = 62) h s.2 ∧ ∃ f, s.2.2 62 = .inl (28, .inl f) ∧ ∀ i, i < k → f i = nI (qLine (A.1 t) row i)) (A.1 t).1 (fun h' => qM h' A ∧ qSame (fun k => k = 62) h h' ∧ ∃ f, h'.2 62 = .inl (28, .inl f) ∧ ∀ i, i < (A.1 t).1 → f i = nI (qLine (A.1 t) row i)) (s0 := (nI 0, h)) ⟨rfl, m, qSame.rf, f, hf, fun i hi => absurd hi (Nat.not_lt_zero i)⟩ ?_ ?_
  · rintro k ⟨ik, hk⟩ hkn ⟨rfl, mk', sk, fk, e1', e2⟩
    have mk : qM hk A := mk'
    have e1 : hk.2 62 = .inl (28, .inl fk) := e1'
    obtain ⟨x0, y0, fo, fr, ff, fg, fw, mb, hm⟩ := mk.b
    have g62 : mGR hk (some 51) 8 14 = some (some 62) := qGR (mb.le (by decide)) mb.2.1 rfl
    obtain ⟨h2, p2, m2, e3, s2⟩ := m_stW mk qMf62 e1 (i := k) (by omega) (nI (qLine (A.1 t) row k))
    refine ⟨(nI (k + 1), h2), ?_, rfl, m2, sk.trans s2, _, e3, fun i hi => ?_⟩
    · show f_X9_laysLines_b2 (some 51) (nI t) (qB2I row) (nI k) hk = _
      unfold f_X9_laysLines_b2
      rw [mb.orders, qbind, mb.order h6, qbind, (hm t h6).1, if_neg (by rw [qle (by omega) (by omega)]; omega), g62, qbind, m_lineOf mb (hm t h6) h6 wt row hkn, qbind, p2, qbind, nI_1]
    · by_cases hik : i = k
      · rw [hik, qUps]
      · rw [qUpn hik]; exact e2 i (by omega)
  · rintro ⟨ik, hk⟩ ⟨rfl, mk', sk, fk, e1, e2⟩
    have mk : qM hk A := mk'
    obtain ⟨x0, y0, fo, fr, ff, fg, fw, mb, hm⟩ := mk.b
    refine ⟨hk, ?_, mk, sk, fk, e1, e2⟩
    show f_X9_laysLines_b2 (some 51) (nI t) (qB2I row) (nI (A.1 t).1) hk = _
    unfold f_X9_laysLines_b2
    rw [mb.orders, qbind, mb.order h6, qbind, (hm t h6).1, if_pos (by rw [qle (by omega) (by omega)]; omega)]
end QXW
