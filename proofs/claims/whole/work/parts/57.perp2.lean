/-! PURE: perpendicular, the class's side -/
section QPX2
variable {h : mH} {t : Nat} {T : qT}
theorem x_countSlant (q : qXt h t T) (wt : qWT T) : f_X7_countSlantPairs (some (3 + 4 * t)) h = some (nI (qB2 T T.1).1) := by
  obtain ⟨bk, bs, bc, ra, rb, fr, fa, fb, hT, hs⟩ := q
  have hn := wt.1
  unfold f_X7_countSlantPairs f_X7_countSlantPairs_l4
  rw [hT.is, qbind]
  have R := mLoop_inv (b := fun x : Int32 × Int32 => f_X7_countSlantPairs_b4 (some (3 + 4 * t)) x.1 x.2 h) (fun i (s : Int32 × Int32) => s = (nI (qB2 T i).1, nI i)) T.1 (fun r => r = nI (qB2 T T.1).1) (s0 := (0, 0)) rfl ?_ ?_
  · obtain ⟨r, e, rfl⟩ := R
    exact e
  · rintro i s hin rfl
    show ∃ s', f_X7_countSlantPairs_b4 (some (3 + 4 * t)) (nI (qB2 T i).1) (nI i) h = some (.inl s') ∧ _
    unfold f_X7_countSlantPairs_b4
    rw [hT.size, qbind, if_neg (by rw [qle (by omega) (by omega)]; omega)]
    unfold f_X7_countSlantPairs_l16
    have R2 := mLoop_inv (b := fun x : Int32 × Int32 => f_X7_countSlantPairs_b16 (some (3 + 4 * t)) (nI i) x.1 x.2 h) (fun d (s : Int32 × Int32) => s = (nI (qB1 T i d (qB2 T i)).1, nI (i + 1 + d))) (T.1 - (i + 1)) (fun r => r = .inl (nI (qB2 T (i + 1)).1, nI (i + 1))) (s0 := (nI (qB2 T i).1, nI i + 1)) (by rw [nI_1]; rfl) ?_ ?_
    · obtain ⟨r, e, rfl⟩ := R2
      exact ⟨_, e, rfl⟩
    · rintro d s hd rfl
      refine ⟨_, ?_, rfl⟩
      have hr := q31 hn (Nat.xor_lt_two_pow (wt.2.1 i (by omega)) (wt.2.1 (i + 1 + d) (by omega)))
      show f_X7_countSlantPairs_b16 (some (3 + 4 * t)) (nI i) (nI (qB1 T i d (qB2 T i)).1) (nI (i + 1 + d)) h = _
      unfold f_X7_countSlantPairs_b16
      rw [hT.size, qbind, if_neg (by rw [qle (by omega) (by omega)]; omega), hT.rows, qbind, hT.row (by omega), qbind, qbind, hT.row (by omega), qbind, qbind, hs.1 i hin, hs.1 (i + 1 + d) (by omega), qI_xor, x_signSum (by omega), qbind, nI_1, nI_1]
      have eS : qB1 T i (d + 1) (qB2 T i) = if qBd T i (i + 1 + d) then ((qB1 T i d (qB2 T i)).1 + 1, if (qB1 T i d (qB2 T i)).1 = 0 then nI (28 * i + (i + 1 + d)) else (qB1 T i d (qB2 T i)).2) else qB1 T i d (qB2 T i) := rfl
      by_cases hb : nI T.1 - nI (2 * qp (T.2.1 i ^^^ T.2.1 (i + 1 + d))) = 0
      · rw [if_pos hb, eS, if_neg (by unfold qBd; rw [decide_eq_false (fun z => z hb)]; decide)]
        rfl
      · rw [if_neg hb, eS, if_pos (show qBd T i (i + 1 + d) = true by unfold qBd; exact decide_eq_true hb)]
        rfl
    · rintro s rfl
      refine ⟨_, ?_, rfl⟩
      show f_X7_countSlantPairs_b16 (some (3 + 4 * t)) (nI i) (nI (qB1 T i (T.1 - (i + 1)) (qB2 T i)).1) (nI (i + 1 + (T.1 - (i + 1)))) h = _
      unfold f_X7_countSlantPairs_b16
      rw [hT.size, qbind, if_pos (by rw [qle (by omega) (by omega)]; omega), nI_1]
      rfl
  · rintro s rfl
    refine ⟨_, ?_, rfl⟩
    show f_X7_countSlantPairs_b4 (some (3 + 4 * t)) (nI (qB2 T T.1).1) (nI T.1) h = _
    unfold f_X7_countSlantPairs_b4
    rw [hT.size, qbind, if_pos (by rw [qle (by omega) (by omega)]; omega)]
theorem qB1_first (T : qT) (i : Nat) : ∀ d, (∀ e, e < d → qBd T i (i + 1 + e) = false) → qB1 T i d (0, -2) = (0, -2) := by
  intro d
  induction d with
  | zero => intro _; rfl
  | succ d ih =>
    intro hd
    unfold qB1
    rw [hd d (by omega), if_neg (by decide)]
    exact ih fun e he => hd e (by omega)
theorem x_firstSlant (q : qXt h t T) (wt : qWT T) : f_X7_firstSlantPair (some (3 + 4 * t)) h = some (qB2 T T.1).2 := by
  obtain ⟨bk, bs, bc, ra, rb, fr, fa, fb, hT, hs⟩ := q
  have hn := wt.1
  -- one row: through to d, then what the step there says
  have inner : ∀ i d, i < T.1 → i + 1 + d ≤ T.1 → (∀ e, e < d → qBd T i (i + 1 + e) = false) → ∀ {r}, f_X7_firstSlantPair_b14 (some (3 + 4 * t)) (nI i) (nI (i + 1 + d)) h = some (.inr r) → f_X7_firstSlantPair_l14 (some (3 + 4 * t)) (nI i) (nI i + 1) h = some r := by
    intro i d hin hid hb r hr
    unfold f_X7_firstSlantPair_l14
    have R := mLoop_inv (b := fun x : Int32 => f_X7_firstSlantPair_b14 (some (3 + 4 * t)) (nI i) x h) (fun e (s : Int32) => s = nI (i + 1 + e)) d (fun z => z = r) (s0 := nI i + 1) (by rw [nI_1]) ?_ ?_
    · obtain ⟨z, e, rfl⟩ := R
      exact e
    · rintro e s he rfl
      refine ⟨_, ?_, rfl⟩
      have hr := q31 hn (Nat.xor_lt_two_pow (wt.2.1 i (by omega)) (wt.2.1 (i + 1 + e) (by omega)))
      have hz : nI T.1 - nI (2 * qp (T.2.1 i ^^^ T.2.1 (i + 1 + e))) = 0 := by
        have := hb e he
        unfold qBd at this
        exact Classical.not_not.mp (of_decide_eq_false this)
      show f_X7_firstSlantPair_b14 (some (3 + 4 * t)) (nI i) (nI (i + 1 + e)) h = _
      unfold f_X7_firstSlantPair_b14
      rw [hT.size, qbind, if_neg (by rw [qle (by omega) (by omega)]; omega), hT.rows, qbind, hT.row (by omega), qbind, qbind, hT.row (by omega), qbind, qbind, hs.1 i hin, hs.1 (i + 1 + e) (by omega), qI_xor, x_signSum (by omega), qbind, if_pos hz, nI_1]
      rfl
    · rintro s rfl
      exact ⟨r, hr, rfl⟩
  have outer : ∀ n, n ≤ T.1 → (∀ i, i < n → (qB2 T (i + 1)).1 = 0) → ∀ {r}, f_X7_firstSlantPair_b2 (some (3 + 4 * t)) (nI n) h = some (.inr r) → f_X7_firstSlantPair (some (3 + 4 * t)) h = some r := by
    intro n hnn h0 r hr
    unfold f_X7_firstSlantPair f_X7_firstSlantPair_l2
    rw [hT.is, qbind]
    have R := mLoop_inv (b := fun x : Int32 => f_X7_firstSlantPair_b2 (some (3 + 4 * t)) x h) (fun i (s : Int32) => s = nI i) n (fun z => z = r) (s0 := 0) rfl ?_ ?_
    · obtain ⟨z, e, rfl⟩ := R
      exact e
    · rintro i s hi rfl
      refine ⟨nI (i + 1), ?_, rfl⟩
      show f_X7_firstSlantPair_b2 (some (3 + 4 * t)) (nI i) h = _
      unfold f_X7_firstSlantPair_b2
      rw [hT.size, qbind, if_neg (by rw [qle (by omega) (by omega)]; omega)]
      have hz0 : (qB1 T i (T.1 - (i + 1)) (qB2 T i)).1 = 0 := h0 i hi
      have hle := (qB1_le T i (qB2 T i) (T.1 - (i + 1))).1
      have hz1 : qB2 T i = (0, -2) := qB2_zero T i (by omega)
      have hall : ∀ e, e < T.1 - (i + 1) → qBd T i (i + 1 + e) = false := by
        rcases qLeast (fun e => qBd T i (i + 1 + e) = false) (T.1 - (i + 1)) with z | ⟨e, he, z1, z2⟩
        · exact z
        · exfalso
          have f1 := qB1_first T i e z2
          have f2 : 0 < (qB1 T i (e + 1) (qB2 T i)).1 := by
            show 0 < (if qBd T i (i + 1 + e) then ((qB1 T i e (qB2 T i)).1 + 1, if (qB1 T i e (qB2 T i)).1 = 0 then nI (28 * i + (i + 1 + e)) else (qB1 T i e (qB2 T i)).2) else qB1 T i e (qB2 T i) : Nat × Int32).1
            rw [if_pos (by simpa using z1)]
            exact Nat.succ_pos _
          have f3 := (qB1_add T i (qB2 T i) (e + 1) (T.1 - (i + 1) - (e + 1)) f2).2
          rw [show e + 1 + (T.1 - (i + 1) - (e + 1)) = T.1 - (i + 1) by omega] at f3
          omega
      refine inner i (T.1 - (i + 1)) (by omega) (by omega) hall ?_
      unfold f_X7_firstSlantPair_b14
      rw [hT.size, qbind, if_pos (by rw [qle (by omega) (by omega)]; omega), nI_1]
    · rintro s rfl
      exact ⟨r, hr, rfl⟩
  rcases qLeast (fun i => (qB2 T (i + 1)).1 = 0) T.1 with z | ⟨k, hk, z1, z2⟩
  · have hz : (qB2 T T.1).1 = 0 := by
      by_cases h0 : T.1 = 0
      · rw [h0]; rfl
      · have := z (T.1 - 1) (by omega)
        rw [show T.1 - 1 + 1 = T.1 by omega] at this
        exact this
    rw [qB2_zero T T.1 hz]
    refine outer T.1 (Nat.le_refl _) z ?_
    unfold f_X7_firstSlantPair_b2
    rw [hT.size, qbind, if_pos (by rw [qle (by omega) (by omega)]; omega)]
  · have hk0 : (qB2 T k).1 = 0 := by
      by_cases h0 : k = 0
      · rw [h0]; rfl
      · have := z2 (k - 1) (by omega)
        rw [show k - 1 + 1 = k by omega] at this
        exact this
    have hk1 : qB2 T k = (0, -2) := qB2_zero T k hk0
    have hlast := (qB2_add T (k + 1) (T.1 - (k + 1)) (Nat.pos_of_ne_zero z1)).1
    rw [show k + 1 + (T.1 - (k + 1)) = T.1 by omega] at hlast
    rcases qLeast (fun e => qBd T k (k + 1 + e) = false) (T.1 - (k + 1)) with y | ⟨e, he, y1, y2⟩
    · exfalso
      apply z1
      show (qB1 T k (T.1 - (k + 1)) (qB2 T k)).1 = 0
      rw [hk1, qB1_first T k _ y]
    · have f1 := qB1_first T k e y2
      have yb : qBd T k (k + 1 + e) = true := by simpa using y1
      have f2 : qB1 T k (e + 1) (qB2 T k) = (1, nI (28 * k + (k + 1 + e))) := by
        show (if qBd T k (k + 1 + e) then ((qB1 T k e (qB2 T k)).1 + 1, if (qB1 T k e (qB2 T k)).1 = 0 then nI (28 * k + (k + 1 + e)) else (qB1 T k e (qB2 T k)).2) else qB1 T k e (qB2 T k) : Nat × Int32) = _
        rw [if_pos yb, hk1, f1]
        rfl
      have f3 := (qB1_add T k (qB2 T k) (e + 1) (T.1 - (k + 1) - (e + 1)) (by rw [f2]; exact Nat.zero_lt_succ 0)).1
      rw [show e + 1 + (T.1 - (k + 1) - (e + 1)) = T.1 - (k + 1) by omega, f2] at f3
      have f4 : (qB2 T T.1).2 = nI (28 * k + (k + 1 + e)) := hlast.trans f3
      rw [f4]
      refine outer k (by omega) z2 ?_
      have hr := q31 hn (Nat.xor_lt_two_pow (wt.2.1 k (by omega)) (wt.2.1 (k + 1 + e) (by omega)))
      have hz : ¬ nI T.1 - nI (2 * qp (T.2.1 k ^^^ T.2.1 (k + 1 + e))) = 0 := by
        unfold qBd at yb
        exact of_decide_eq_true yb
      have l14 := inner k e hk (by omega) y2 (r := .inr (nI (28 * k + (k + 1 + e)))) (by
        unfold f_X7_firstSlantPair_b14
        rw [hT.size, qbind, if_neg (by rw [qle (by omega) (by omega)]; omega), hT.rows, qbind, hT.row (by omega), qbind, qbind, hT.row (by omega), qbind, qbind, hs.1 k hk, hs.1 (k + 1 + e) (by omega), qI_xor, x_signSum (by omega), qbind, if_neg hz, qL28, qI_mul, qI_add])
      unfold f_X7_firstSlantPair_b2
      rw [hT.size, qbind, if_neg (by rw [qle (by omega) (by omega)]; omega), l14]
end QPX2
def qBp (s : Nat × Int32) : Prop := s.1 = 0 ∨ ¬ s.2 < 0
theorem qB1_P (T : qT) {i : Nat} (hi : i < 28) {s : Nat × Int32} (hs : qBp s) : ∀ d, d ≤ 28 → qBp (qB1 T i d s) := by
  intro d
  induction d with
  | zero => intro _; exact hs
  | succ d ih =>
    intro hd
    unfold qB1
    split
    · refine Or.inr ?_
      show ¬ (if (qB1 T i d s).1 = 0 then nI (28 * i + (i + 1 + d)) else (qB1 T i d s).2) < 0
      by_cases h0 : (qB1 T i d s).1 = 0
      · rw [if_pos h0]; exact qpos (by omega)
      · rw [if_neg h0]
        rcases ih (by omega) with z | z
        · exact absurd z h0
        · exact z
    · exact ih (by omega)
theorem qB2_P (T : qT) (hn : T.1 ≤ 28) : ∀ i, i ≤ 28 → qBp (qB2 T i) := by
  intro i
  induction i with
  | zero => intro _; exact Or.inl rfl
  | succ i ih =>
    intro hi
    exact qB1_P T (by omega) (ih (by omega)) _ (by omega)
theorem qB2_iff {T : qT} (hn : T.1 ≤ 28) : (qB2 T T.1).2 = -2 ↔ (qB2 T T.1).1 = 0 := by
  constructor
  · intro h
    rcases qB2_P T hn T.1 hn with z | z
    · exact z
    · rw [h] at z; exact absurd (by decide) z
  · intro h
    rw [qB2_zero T T.1 h]
theorem qM.pf {h h' : mH} {A : qA} (m : qM h A) (s : qSame (fun k => k = 51) h h') {x y : Int32} {fo fr ff fg fw : Nat → Int32} (mb : qMb h' (nI A.2.1.1) x y fo fr ff fg fw) : qM h' A := by
  refine m.upd1 (s.mono fun k z => Or.inl z) rfl ⟨x, y, mb.2.1⟩ ?_ ?_
  · obtain ⟨g, g1, g2⟩ := m.2.2.2.1
    exact ⟨g, (s.2 57 (by decide)).trans g1, g2⟩
  · obtain ⟨g, g1, g2⟩ := m.2.2.2.2.1
    exact ⟨g, (s.2 71 (by decide)).trans g1, g2⟩
theorem op_perpendicular {h : mH} {A : qA} (I : qI h A) (x v : Int32) : qStepM (f_X8_perpendicular (some 1) x v) (f_X9_perpendicular (some 51) x v) h := by
  have L := qTb2 I x
  have I0 := I
  obtain ⟨q, m, w⟩ := I
  obtain ⟨x0, y0, fo, fr, ff, fg, fw, mb, hm⟩ := m.b
  rcases L with ⟨l1, l2⟩ | ⟨t, hx, l1, l2⟩
  · refine ⟨-1, h, A, ?_, ?_, I0, qSame.rf⟩
    · unfold f_X8_perpendicular; rw [q.is, qbind, l1, qbind, if_pos rfl]
    · unfold f_X9_perpendicular; rw [mb.is, qbind, l2, qbind, if_pos rfl]
  · have h6 := hx.1
    have wt := w.1 t h6
    have hn := wt.1
    have hx2 : x = nI t := hx.2.1
    have e1 := x_firstSlant (q.2.2.2.1 t h6) wt
    have e2 := x_countSlant (q.2.2.2.1 t h6) wt
    have b2 := qB2_le (A.1 t) (A.1 t).1 hn hn
    obtain ⟨h2, p2, m2, s2⟩ := m_laysBad mb (hm t h6) h6 wt
    have s2' : qSame qCM h h2 := s2.mono fun k z => by unfold qCM; omega
    have I2 : qI h2 A := ⟨q.same s2', m.pf s2 m2, w⟩
    have s3 : qSame (fun k => 0 < k) h h2 := s2.mono fun k z => by omega
    by_cases v0 : v = 0
    · subst v0
      refine ⟨if (qB2 (A.1 t) (A.1 t).1).1 = 0 then 1 else 0, h2, A, ?_, ?_, I2, s3⟩
      · unfold f_X8_perpendicular
        rw [q.is, qbind, l1, qbind, if_neg qne, if_pos rfl, e1, qbind]
        by_cases hz : (qB2 (A.1 t) (A.1 t).1).1 = 0
        · rw [if_pos ((qB2_iff hn).mpr hz), if_pos hz]
        · rw [if_neg (fun z => hz ((qB2_iff hn).mp z)), if_neg hz]
      · unfold f_X9_perpendicular
        rw [mb.is, qbind, l2, qbind, if_neg q10, show f_X9_in 0 0 2 = some 1 from rfl, qbind, if_neg q10, hx2, p2, qbind, if_pos rfl, m2.g12, qbind]
        by_cases hz : (qB2 (A.1 t) (A.1 t).1).1 = 0
        · rw [if_pos (by rw [hz]; rfl), if_pos hz]
        · rw [if_neg (by rw [qI_zero, qeq (by omega) (by decide)]; exact hz), if_neg hz]
    · by_cases v1 : v = 1
      · subst v1
        refine ⟨(qB2 (A.1 t) (A.1 t).1).2, h2, A, ?_, ?_, I2, s3⟩
        · unfold f_X8_perpendicular
          rw [q.is, qbind, l1, qbind, if_neg qne, if_neg q10, if_pos rfl, e1, qbind]
        · unfold f_X9_perpendicular
          rw [mb.is, qbind, l2, qbind, if_neg q10, show f_X9_in 1 0 2 = some 1 from rfl, qbind, if_neg q10, hx2, p2, qbind, if_neg q10, if_pos rfl, m2.g13, qbind]
      · by_cases v2 : v = 2
        · subst v2
          refine ⟨nI (qB2 (A.1 t) (A.1 t).1).1, h2, A, ?_, ?_, I2, s3⟩
          · unfold f_X8_perpendicular
            rw [q.is, qbind, l1, qbind, if_neg qne, if_neg v0, if_neg v1, if_pos rfl, e2, qbind]
          · unfold f_X9_perpendicular
            rw [mb.is, qbind, l2, qbind, if_neg q10, show f_X9_in 2 0 2 = some 1 from rfl, qbind, if_neg q10, hx2, p2, qbind, if_neg v0, if_neg v1, m2.g12, qbind]
        · refine ⟨-1, h, A, ?_, ?_, I0, qSame.rf⟩
          · unfold f_X8_perpendicular
            rw [q.is, qbind, l1, qbind, if_neg qne, if_neg v0, if_neg v1, if_neg v2]
          · have : f_X9_in v 0 2 = some 0 := by
              rcases qarg v with hv | ⟨k, hk, rfl⟩
              · exact m_in_neg hv _
              · rw [show (2 : Int32) = nI 2 from rfl, m_in_k hk (by decide), decide_eq_false]
                · rfl
                · intro hk2
                  have : k = 0 ∨ k = 1 ∨ k = 2 := by omega
                  rcases this with rfl | rfl | rfl
                  · exact v0 rfl
                  · exact v1 rfl
                  · exact v2 rfl
            unfold f_X9_perpendicular
            rw [mb.is, qbind, l2, qbind, if_neg q10, this, qbind, if_pos rfl]
