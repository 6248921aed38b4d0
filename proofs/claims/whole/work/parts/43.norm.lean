/-! PURE: normed -/
def qN1 (T : qT) : Nat → qT × Nat
  | 0 => (T, 0)
  | k + 1 => if ((qN1 T k).1.2.1 0).testBit k then (qSign (qN1 T k).1 false k, (qN1 T k).2 + 1) else qN1 T k
def qN2 (S : qT × Nat) : Nat → qT × Nat
  | 0 => S
  | k + 1 => if ((qN2 S k).1.2.1 k).testBit 0 then (qSign (qN2 S k).1 true k, (qN2 S k).2 + 1) else qN2 S k
theorem qN1_w {T : qT} (w : qWT T) : ∀ k, k ≤ T.1 → (qN1 T k).1.1 = T.1 ∧ qWT (qN1 T k).1 ∧ (qN1 T k).2 ≤ k := by
  intro k
  induction k with
  | zero => intro _; exact ⟨rfl, w, Nat.le_refl 0⟩
  | succ k ih =>
    intro hk
    obtain ⟨i1, i2, i3⟩ := ih (by omega)
    unfold qN1
    split
    · exact ⟨(qSign_n _ _ _).trans i1, qSign_w i2 false (by omega), by show (qN1 T k).2 + 1 ≤ k + 1; omega⟩
    · exact ⟨i1, i2, by omega⟩
theorem qN2_w {S : qT × Nat} (w : qWT S.1) : ∀ k, k ≤ S.1.1 → (qN2 S k).1.1 = S.1.1 ∧ qWT (qN2 S k).1 ∧ (qN2 S k).2 ≤ S.2 + k := by
  intro k
  induction k with
  | zero => intro _; exact ⟨rfl, w, Nat.le_refl _⟩
  | succ k ih =>
    intro hk
    obtain ⟨i1, i2, i3⟩ := ih (by omega)
    unfold qN2
    split
    · exact ⟨(qSign_n _ _ _).trans i1, qSign_w i2 true (by omega), by show (qN2 S k).2 + 1 ≤ S.2 + (k + 1); omega⟩
    · exact ⟨i1, i2, by omega⟩
def qNorm (T : qT) : qT × Nat := qN2 (qN1 T T.1) T.1
theorem qNorm_w {T : qT} (w : qWT T) : (qNorm T).1.1 = T.1 ∧ qWT (qNorm T).1 ∧ (qNorm T).2 ≤ 2 * T.1 := by
  obtain ⟨a1, a2, a3⟩ := qN1_w w T.1 (Nat.le_refl _)
  obtain ⟨b1, b2, b3⟩ := qN2_w (S := qN1 T T.1) a2 T.1 (by omega)
  exact ⟨b1.trans a1, b2, by unfold qNorm; omega⟩
theorem x_norm {h : mH} {t : Nat} {T : qT} (q : qXt h t T) (w : qWT T) (h0 : 0 < T.1) : ∃ r, f_X8_norm_l17 (some (3 + 4 * t)) 0 0 h = some r ∧ r.1 = nI (qNorm T).2 ∧ qXt r.2 t (qNorm T).1 ∧ qSame (qIs4 t) h r.2 := by
  have hn := w.1
  unfold f_X8_norm_l17
  refine mLoop_inv (b := fun x : Int32 × Int32 × mH => f_X8_norm_b17 (some (3 + 4 * t)) x.1 x.2.1 x.2.2) (fun k (s : Int32 × Int32 × mH) => s.1 = nI (qN1 T k).2 ∧ s.2.1 = nI k ∧ qXt s.2.2 t (qN1 T k).1 ∧ qSame (qIs4 t) h s.2.2) T.1 (fun r : Int32 × mH => r.1 = nI (qNorm T).2 ∧ qXt r.2 t (qNorm T).1 ∧ qSame (qIs4 t) h r.2) (s0 := (0, 0, h)) ⟨rfl, rfl, q, qSame.rf⟩ ?_ ?_
  · rintro k ⟨ck, ik, hk⟩ hkn ⟨rfl, rfl, xk, sk⟩
    obtain ⟨w1, w2, w3⟩ := qN1_w w k (by omega)
    obtain ⟨bk, bs, bc, ra, rb, fr, fa, fb, hT, hs⟩ := id xk
    have hr := q31 w2.1 (w2.2.1 0 (by omega))
    show ∃ s', f_X8_norm_b17 (some (3 + 4 * t)) (nI (qN1 T k).2) (nI k) hk = some (.inl s') ∧ _
    unfold f_X8_norm_b17
    have em : f_X7_isMinus (some (3 + 4 * t)) 0 (nI k) hk = _ := x_isMinus (i := 0) hT (by decide) (by omega) (hs.1 0 (by omega)) (by omega)
    rw [hT.size, qbind, w1, if_neg (by rw [qle (by omega) (by omega)]; omega), em, qbind, nI_1]
    cases hb : ((qN1 T k).1.2.1 0).testBit k
    · rw [qif0]
      refine ⟨_, rfl, ?_⟩
      rw [show qN1 T (k + 1) = qN1 T k by show (if _ then _ else _) = _; rw [hb]; rfl]
      exact ⟨rfl, rfl, xk, sk⟩
    · rw [qif1]
      obtain ⟨h2, p2, t2, s2⟩ := x_signLine xk w2 false (i := k) (by omega)
      have p2' : f_X7_signLine (some (3 + 4 * t)) 0 (nI k) hk = some h2 := p2
      rw [p2', qbind, nI_1]
      refine ⟨_, rfl, ?_⟩
      rw [show qN1 T (k + 1) = (qSign (qN1 T k).1 false k, (qN1 T k).2 + 1) by show (if _ then _ else _) = _; rw [hb]; rfl]
      exact ⟨rfl, rfl, t2, sk.trans s2⟩
  · rintro ⟨ck, ik, hk⟩ ⟨rfl, rfl, xk, sk⟩
    obtain ⟨w1, w2, w3⟩ := qN1_w w T.1 (Nat.le_refl _)
    obtain ⟨bk, bs, bc, ra, rb, fr, fa, fb, hT, hs⟩ := id xk
    have inner : ∃ r, f_X8_norm_l55 (some (3 + 4 * t)) (nI (qN1 T T.1).2) 0 hk = some r ∧ r.1 = nI (qNorm T).2 ∧ qXt r.2 t (qNorm T).1 ∧ qSame (qIs4 t) h r.2 := by
      unfold f_X8_norm_l55
      refine mLoop_inv (b := fun x : Int32 × Int32 × mH => f_X8_norm_b55 (some (3 + 4 * t)) x.1 x.2.1 x.2.2) (fun k (s : Int32 × Int32 × mH) => s.1 = nI (qN2 (qN1 T T.1) k).2 ∧ s.2.1 = nI k ∧ qXt s.2.2 t (qN2 (qN1 T T.1) k).1 ∧ qSame (qIs4 t) h s.2.2) T.1 (fun r : Int32 × mH => r.1 = nI (qNorm T).2 ∧ qXt r.2 t (qNorm T).1 ∧ qSame (qIs4 t) h r.2) (s0 := (nI (qN1 T T.1).2, 0, hk)) ⟨rfl, rfl, xk, sk⟩ ?_ ?_
      · rintro k ⟨ck, ik, hj⟩ hkn ⟨rfl, rfl, xj, sj⟩
        obtain ⟨v1, v2, v3⟩ := qN2_w (S := qN1 T T.1) w2 k (by omega)
        obtain ⟨bk, bs, bc, ra, rb, fr, fa, fb, hT, hs⟩ := id xj
        have hr := q31 v2.1 (v2.2.1 k (by omega))
        show ∃ s', f_X8_norm_b55 (some (3 + 4 * t)) (nI (qN2 (qN1 T T.1) k).2) (nI k) hj = some (.inl s') ∧ _
        unfold f_X8_norm_b55
        have em : f_X7_isMinus (some (3 + 4 * t)) (nI k) 0 hj = _ := x_isMinus (j := 0) hT (by omega) (by decide) (hs.1 k (by omega)) (by omega)
        rw [hT.size, qbind, v1, w1, if_neg (by rw [qle (by omega) (by omega)]; omega), em, qbind, nI_1]
        cases hb : ((qN2 (qN1 T T.1) k).1.2.1 k).testBit 0
        · rw [qif0]
          refine ⟨_, rfl, ?_⟩
          rw [show qN2 (qN1 T T.1) (k + 1) = qN2 (qN1 T T.1) k by show (if _ then _ else _) = _; rw [hb]; rfl]
          exact ⟨rfl, rfl, xj, sj⟩
        · rw [qif1]
          obtain ⟨h2, p2, t2, s2⟩ := x_signLine xj v2 true (i := k) (by omega)
          have p2' : f_X7_signLine (some (3 + 4 * t)) 1 (nI k) hj = some h2 := p2
          rw [p2', qbind, nI_1]
          refine ⟨_, rfl, ?_⟩
          rw [show qN2 (qN1 T T.1) (k + 1) = (qSign (qN2 (qN1 T T.1) k).1 true k, (qN2 (qN1 T T.1) k).2 + 1) by show (if _ then _ else _) = _; rw [hb]; rfl]
          exact ⟨rfl, rfl, t2, sj.trans s2⟩
      · rintro ⟨ck, ik, hj⟩ ⟨rfl, rfl, xj, sj⟩
        obtain ⟨v1, v2, v3⟩ := qN2_w (S := qN1 T T.1) w2 T.1 (by omega)
        obtain ⟨bk, bs, bc, ra, rb, fr, fa, fb, hT, hs⟩ := id xj
        refine ⟨(nI (qNorm T).2, hj), ?_, rfl, xj, sj⟩
        show f_X8_norm_b55 (some (3 + 4 * t)) (nI (qN2 (qN1 T T.1) T.1).2) (nI T.1) hj = _
        unfold f_X8_norm_b55
        rw [hT.size, qbind, v1, w1, if_pos (by rw [qle (by omega) (by omega)]; omega)]
        rfl
    obtain ⟨r, p, a1⟩ := inner
    refine ⟨r, ?_, a1⟩
    show f_X8_norm_b17 (some (3 + 4 * t)) (nI (qN1 T T.1).2) (nI T.1) hk = _
    unfold f_X8_norm_b17
    rw [hT.size, qbind, w1, if_pos (by rw [qle (by omega) (by omega)]; omega), p]
    rfl
theorem qSet2 (A : qA) (t : Nat) (T T' : qT) : qSetT (qSetT A t T) t T' = qSetT A t T' := by
  unfold qSetT
  congr 1
  funext u
  by_cases hu : u = t <;> simp [va_up, hu]
theorem qSetS (A : qA) (t : Nat) (T : qT) : (qSetT A t T).1 t = T := qVs
theorem qSetI (A : qA) (t : Nat) : qSetT A t (A.1 t) = A := by
  unfold qSetT
  rw [show A = (A.1, A.2) from rfl]
  congr 1
  funext u
  by_cases hu : u = t <;> simp [va_up, hu]
section QNM
variable {h : mH} {A : qA} {t : Nat} {c x y : Int32} {fo fr ff fg fw : Nat → Int32}
/-- the model's tables hold A, with table t set to T -/
def qMh (h h' : mH) (A : qA) (t : Nat) (T : qT) (c x y : Int32) (fo ff fw : Nat → Int32) : Prop := qSame qC5 h h' ∧ ∃ fr' fg', qMb h' c x y fo fr' ff fg' fw ∧ ∀ u, u < 6 → qMt fo fr' ff fg' fw u ((qSetT A t T).1 u)
theorem qMh.sign {h' : mH} {T : qT} (q : qMh h h' A t T c x y fo ff fw) (w : qWA A) (wt : qWT T) (h6 : t < 6) (row : Bool) {i : Nat} (hi : i < T.1) : ∃ h2, f_X9_signs (some 51) (nI t) (qB2I row) (nI i) h' = some h2 ∧ qMh h h2 A t (qSign T row i) c x y fo ff fw := by
  obtain ⟨s, fr', fg', mb, hm⟩ := q
  obtain ⟨h2, p2, s2, fr2, fg2, mb2, hm2⟩ := m_signs (A := qSetT A t T) mb (w.tab wt) h6 row (i := i) (by rw [qSetS]; exact hi) hm
  rw [qSetS, qSet2] at hm2
  exact ⟨h2, p2, s.trans s2, fr2, fg2, mb2, hm2⟩
theorem m_norm (mb : qMb h c x y fo fr ff fg fw) (w : qWA A) (h6 : t < 6) (h0 : 0 < (A.1 t).1) (hm : ∀ u, u < 6 → qMt fo fr ff fg fw u (A.1 u)) : ∃ r, f_X9_norm_l14 (some 51) (nI t) 0 0 h = some r ∧ r.1 = nI (qNorm (A.1 t)).2 ∧ qMh h r.2 A t (qNorm (A.1 t)).1 c x y fo ff fw := by
  have wt := w.1 t h6
  have hn := wt.1
  generalize hTe : A.1 t = T at wt hn h0 ⊢
  have hfo : fo t = nI T.1 := by rw [← hTe]; exact (hm t h6).1
  have st0 : qMh h h A t T c x y fo ff fw := ⟨qSame.rf, fr, fg, mb, by rw [← hTe, qSetI]; exact hm⟩
  unfold f_X9_norm_l14
  refine mLoop_inv (b := fun x : Int32 × Int32 × mH => f_X9_norm_b14 (some 51) (nI t) x.1 x.2.1 x.2.2) (fun k (s : Int32 × Int32 × mH) => s.1 = nI (qN1 T k).2 ∧ s.2.1 = nI k ∧ qMh h s.2.2 A t (qN1 T k).1 c x y fo ff fw) T.1 (fun r : Int32 × mH => r.1 = nI (qNorm T).2 ∧ qMh h r.2 A t (qNorm T).1 c x y fo ff fw) (s0 := (0, 0, h)) ⟨rfl, rfl, st0⟩ ?_ ?_
  · rintro k ⟨ck, ik, hk⟩ hkn ⟨rfl, rfl, xk⟩
    obtain ⟨w1, w2, w3⟩ := qN1_w wt k (by omega)
    obtain ⟨sk, frk, fgk, mk, hmk⟩ := id xk
    have hmt := hmk t h6
    rw [qSetS] at hmt
    show ∃ s', f_X9_norm_b14 (some 51) (nI t) (nI (qN1 T k).2) (nI k) hk = some (.inl s') ∧ _
    unfold f_X9_norm_b14
    have em : f_X9_isMinus (some 51) (nI t) 0 (nI k) hk = _ := m_isMinus (i := 0) mk hmt h6 w2 (by omega) (by omega)
    rw [mk.orders, qbind, mk.order h6, qbind, hfo, if_neg (by rw [qle (by omega) (by omega)]; omega), em, qbind, nI_1]
    cases hb : ((qN1 T k).1.2.1 0).testBit k
    · rw [qif0]
      refine ⟨_, rfl, ?_⟩
      rw [show qN1 T (k + 1) = qN1 T k by show (if _ then _ else _) = _; rw [hb]; rfl]
      exact ⟨rfl, rfl, xk⟩
    · rw [qif1]
      obtain ⟨h2, p2, t2⟩ := xk.sign w w2 h6 false (i := k) (by omega)
      have p2' : f_X9_signs (some 51) (nI t) 0 (nI k) hk = some h2 := p2
      rw [p2', qbind, nI_1]
      refine ⟨_, rfl, ?_⟩
      rw [show qN1 T (k + 1) = (qSign (qN1 T k).1 false k, (qN1 T k).2 + 1) by show (if _ then _ else _) = _; rw [hb]; rfl]
      exact ⟨rfl, rfl, t2⟩
  · rintro ⟨ck, ik, hk⟩ ⟨rfl, rfl, xk⟩
    obtain ⟨w1, w2, w3⟩ := qN1_w wt T.1 (Nat.le_refl _)
    obtain ⟨sk, frk, fgk, mk, hmk⟩ := id xk
    have inner : ∃ r, f_X9_norm_l55 (some 51) (nI t) (nI (qN1 T T.1).2) 0 hk = some r ∧ r.1 = nI (qNorm T).2 ∧ qMh h r.2 A t (qNorm T).1 c x y fo ff fw := by
      unfold f_X9_norm_l55
      refine mLoop_inv (b := fun x : Int32 × Int32 × mH => f_X9_norm_b55 (some 51) (nI t) x.1 x.2.1 x.2.2) (fun k (s : Int32 × Int32 × mH) => s.1 = nI (qN2 (qN1 T T.1) k).2 ∧ s.2.1 = nI k ∧ qMh h s.2.2 A t (qN2 (qN1 T T.1) k).1 c x y fo ff fw) T.1 (fun r : Int32 × mH => r.1 = nI (qNorm T).2 ∧ qMh h r.2 A t (qNorm T).1 c x y fo ff fw) (s0 := (nI (qN1 T T.1).2, 0, hk)) ⟨rfl, rfl, xk⟩ ?_ ?_
      · rintro k ⟨ck, ik, hj⟩ hkn ⟨rfl, rfl, xj⟩
        obtain ⟨v1, v2, v3⟩ := qN2_w (S := qN1 T T.1) w2 k (by omega)
        obtain ⟨sj, frj, fgj, mj, hmj⟩ := id xj
        have hmt := hmj t h6
        rw [qSetS] at hmt
        show ∃ s', f_X9_norm_b55 (some 51) (nI t) (nI (qN2 (qN1 T T.1) k).2) (nI k) hj = some (.inl s') ∧ _
        unfold f_X9_norm_b55
        have em : f_X9_isMinus (some 51) (nI t) (nI k) 0 hj = _ := m_isMinus (j := 0) mj hmt h6 v2 (by omega) (by decide)
        rw [mj.orders, qbind, mj.order h6, qbind, hfo, if_neg (by rw [qle (by omega) (by omega)]; omega), em, qbind, nI_1]
        cases hb : ((qN2 (qN1 T T.1) k).1.2.1 k).testBit 0
        · rw [qif0]
          refine ⟨_, rfl, ?_⟩
          rw [show qN2 (qN1 T T.1) (k + 1) = qN2 (qN1 T T.1) k by show (if _ then _ else _) = _; rw [hb]; rfl]
          exact ⟨rfl, rfl, xj⟩
        · rw [qif1]
          obtain ⟨h2, p2, t2⟩ := xj.sign w v2 h6 true (i := k) (by omega)
          have p2' : f_X9_signs (some 51) (nI t) 1 (nI k) hj = some h2 := p2
          rw [p2', qbind, nI_1]
          refine ⟨_, rfl, ?_⟩
          rw [show qN2 (qN1 T T.1) (k + 1) = (qSign (qN2 (qN1 T T.1) k).1 true k, (qN2 (qN1 T T.1) k).2 + 1) by show (if _ then _ else _) = _; rw [hb]; rfl]
          exact ⟨rfl, rfl, t2⟩
      · rintro ⟨ck, ik, hj⟩ ⟨rfl, rfl, xj⟩
        obtain ⟨sj, frj, fgj, mj, hmj⟩ := id xj
        refine ⟨(nI (qNorm T).2, hj), ?_, rfl, xj⟩
        show f_X9_norm_b55 (some 51) (nI t) (nI (qN2 (qN1 T T.1) T.1).2) (nI T.1) hj = _
        unfold f_X9_norm_b55
        rw [mj.orders, qbind, mj.order h6, qbind, hfo, if_pos (by rw [qle (by omega) (by omega)]; omega)]
        rfl
    obtain ⟨r, p, a1⟩ := inner
    refine ⟨r, ?_, a1⟩
    show f_X9_norm_b14 (some 51) (nI t) (nI (qN1 T T.1).2) (nI T.1) hk = _
    unfold f_X9_norm_b14
    rw [mk.orders, qbind, mk.order h6, qbind, hfo, if_pos (by rw [qle (by omega) (by omega)]; omega), p]
    rfl
end QNM
theorem op_norm {h : mH} {A : qA} (I : qI h A) (x : Int32) : qStep (f_X8_norm (some 1) x) (f_X9_norm (some 51) x) h := by
  have L := qTb2 I x
  have I0 := I
  obtain ⟨q, m, w⟩ := I
  obtain ⟨x0, y0, fo, fr, ff, fg, fw, mb, hm⟩ := m.b
  rcases L with ⟨l1, l2⟩ | ⟨t, hx, l1, l2⟩
  · refine qStep.none (r := -1) I0 ?_ ?_
    · unfold f_X8_norm; rw [q.is, qbind, l1, qbind, if_pos rfl]
    · unfold f_X9_norm; rw [mb.is, qbind, l2, qbind, if_pos rfl]
  · have h6 := hx.1
    have wt := w.1 t h6
    obtain ⟨⟨r1, h1⟩, p1, r1e, t1, s1⟩ := x_norm (q.2.2.2.1 t h6) wt hx.2.2
    have s1' := s1.mono (qIs4.cx h6)
    have m1 := m.same s1'
    obtain ⟨x2, y2, fo2, fr2, ff2, fg2, fw2, mb2, hm2⟩ := m1.b
    obtain ⟨⟨r2, h2⟩, p2, r2e, s2, fr3, fg3, tb, hm3⟩ := m_norm mb2 w h6 hx.2.2 hm2
    have e1 : f_X8_norm (some 1) x h = some (nI (qNorm (A.1 t)).2, h1) := by
      unfold f_X8_norm; rw [q.is, qbind, l1, qbind, if_neg qne, p1, ← r1e]
    have e2 : f_X9_norm (some 51) x h1 = some (nI (qNorm (A.1 t)).2, h2) := by
      unfold f_X9_norm; rw [mb2.is, qbind, m_tab_yes mb2 hm2 w hx, qbind, if_neg q10, hx.2.1, p2, ← r2e]
    exact qStep.mk (A' := qSetT A t (qNorm (A.1 t)).1) e1 (q.tab h6 s1 t1) s1' e2 (m1.upd s2 tb hm3 rfl) (s2.mono qC5.cm) (w.tab (qNorm_w wt).2.1)
