/-! PURE: perpendicular -/
/-- a call whose one side only reads -/
def qStepM (fx : mH → Option Int32) (fm : mH → Option (Int32 × mH)) (h : mH) : Prop := ∃ r h2 A', fx h = some r ∧ fm h = some (r, h2) ∧ qI h2 A' ∧ qSame (fun k => 0 < k) h h2
def qBd (T : qT) (i j : Nat) : Bool := decide (¬ nI T.1 - nI (2 * qp (T.2.1 i ^^^ T.2.1 j)) = 0)
def qB1 (T : qT) (i : Nat) : Nat → Nat × Int32 → Nat × Int32
  | 0, s => s
  | d + 1, s => if qBd T i (i + 1 + d) then ((qB1 T i d s).1 + 1, if (qB1 T i d s).1 = 0 then nI (28 * i + (i + 1 + d)) else (qB1 T i d s).2) else qB1 T i d s
def qB2 (T : qT) : Nat → Nat × Int32
  | 0 => (0, -2)
  | i + 1 => qB1 T i (T.1 - (i + 1)) (qB2 T i)
theorem qB1_le (T : qT) (i : Nat) (s : Nat × Int32) : ∀ d, s.1 ≤ (qB1 T i d s).1 ∧ (qB1 T i d s).1 ≤ s.1 + d := by
  intro d
  induction d with
  | zero => exact ⟨Nat.le_refl _, Nat.le_refl _⟩
  | succ d ih =>
    unfold qB1
    split
    · show s.1 ≤ (qB1 T i d s).1 + 1 ∧ (qB1 T i d s).1 + 1 ≤ s.1 + (d + 1); omega
    · omega
theorem qB1_keep (T : qT) (i : Nat) {s : Nat × Int32} (hs : 0 < s.1) : ∀ d, (qB1 T i d s).2 = s.2 := by
  intro d
  induction d with
  | zero => rfl
  | succ d ih =>
    have := (qB1_le T i s d).1
    unfold qB1
    split
    · show (if (qB1 T i d s).1 = 0 then _ else (qB1 T i d s).2) = s.2
      rw [if_neg (by omega)]; exact ih
    · exact ih
theorem qB1_add (T : qT) (i : Nat) (s : Nat × Int32) (d e : Nat) (hd : 0 < (qB1 T i d s).1) : (qB1 T i (d + e) s).2 = (qB1 T i d s).2 ∧ 0 < (qB1 T i (d + e) s).1 := by
  induction e with
  | zero => exact ⟨rfl, hd⟩
  | succ e ih =>
    show (if qBd T i (i + 1 + (d + e)) then ((qB1 T i (d + e) s).1 + 1, if (qB1 T i (d + e) s).1 = 0 then nI (28 * i + (i + 1 + (d + e))) else (qB1 T i (d + e) s).2) else qB1 T i (d + e) s : Nat × Int32).2 = _ ∧ 0 < (if qBd T i (i + 1 + (d + e)) then ((qB1 T i (d + e) s).1 + 1, if (qB1 T i (d + e) s).1 = 0 then nI (28 * i + (i + 1 + (d + e))) else (qB1 T i (d + e) s).2) else qB1 T i (d + e) s : Nat × Int32).1
    split
    · refine ⟨?_, Nat.succ_pos _⟩
      show (if (qB1 T i (d + e) s).1 = 0 then _ else (qB1 T i (d + e) s).2) = _
      rw [if_neg (by omega)]; exact ih.1
    · exact ih
theorem qB2_le (T : qT) : ∀ i, i ≤ 28 → T.1 ≤ 28 → (qB2 T i).1 ≤ 28 * i := by
  intro i
  induction i with
  | zero => intro _ _; exact Nat.le_refl 0
  | succ i ih =>
    intro h1 h2
    have a := ih (by omega) h2
    have b := (qB1_le T i (qB2 T i) (T.1 - (i + 1))).2
    show (qB1 T i (T.1 - (i + 1)) (qB2 T i)).1 ≤ _
    omega
theorem qB2_add (T : qT) (i e : Nat) (hi : 0 < (qB2 T i).1) : (qB2 T (i + e)).2 = (qB2 T i).2 ∧ 0 < (qB2 T (i + e)).1 := by
  induction e with
  | zero => exact ⟨rfl, hi⟩
  | succ e ih =>
    show (qB1 T (i + e) (T.1 - (i + e + 1)) (qB2 T (i + e))).2 = _ ∧ 0 < (qB1 T (i + e) (T.1 - (i + e + 1)) (qB2 T (i + e))).1
    have := (qB1_le T (i + e) (qB2 T (i + e)) (T.1 - (i + e + 1))).1
    exact ⟨(qB1_keep T (i + e) ih.2 _).trans ih.1, by omega⟩
theorem qB1_zero (T : qT) (i : Nat) {s : Nat × Int32} (hs : s = (0, -2)) : ∀ d, (qB1 T i d s).1 = 0 → qB1 T i d s = (0, -2) := by
  intro d
  induction d with
  | zero => intro _; exact hs
  | succ d ih =>
    intro h0
    unfold qB1 at h0 ⊢
    split at h0
    · exact absurd h0 (Nat.succ_ne_zero _)
    · rename_i hb
      rw [if_neg hb]
      exact ih h0
theorem qB2_zero (T : qT) : ∀ i, (qB2 T i).1 = 0 → qB2 T i = (0, -2) := by
  intro i
  induction i with
  | zero => intro _; rfl
  | succ i ih =>
    intro h0
    have h1 : (qB1 T i (T.1 - (i + 1)) (qB2 T i)).1 = 0 := h0
    have := (qB1_le T i (qB2 T i) (T.1 - (i + 1))).1
    exact qB1_zero T i (ih (by omega)) _ h1
section QPM
variable {h : mH} {t : Nat} {T : qT} {c x y : Int32} {fo fr ff fg fw : Nat → Int32}
theorem qMb.p12 (q : qMb h c x y fo fr ff fg fw) (v : Int32) : ∃ h', mPF h (some 51) 8 12 (.int v) = some h' ∧ qMb h' c v y fo fr ff fg fw ∧ qSame (fun k => k = 51) h h' := by
  refine ⟨_, qPF (q.le (by decide)) q.2.1 (Nat.le_of_ble_eq_true rfl), ⟨q.1, qPutS _, ?_, ?_, ?_, ?_, ?_⟩, qSame.put (S := fun k => k = 51) qSame.rf rfl _⟩
  · rw [qPutN _ (by decide)]; exact q.2.2.1
  · rw [qPutN _ (by decide)]; exact q.2.2.2.1
  · rw [qPutN _ (by decide)]; exact q.2.2.2.2.1
  · rw [qPutN _ (by decide)]; exact q.2.2.2.2.2.1
  · rw [qPutN _ (by decide)]; exact q.2.2.2.2.2.2
theorem qMb.p13 (q : qMb h c x y fo fr ff fg fw) (v : Int32) : ∃ h', mPF h (some 51) 8 13 (.int v) = some h' ∧ qMb h' c x v fo fr ff fg fw ∧ qSame (fun k => k = 51) h h' := by
  refine ⟨_, qPF (q.le (by decide)) q.2.1 (Nat.le_of_ble_eq_true rfl), ⟨q.1, qPutS _, ?_, ?_, ?_, ?_, ?_⟩, qSame.put (S := fun k => k = 51) qSame.rf rfl _⟩
  · rw [qPutN _ (by decide)]; exact q.2.2.1
  · rw [qPutN _ (by decide)]; exact q.2.2.2.1
  · rw [qPutN _ (by decide)]; exact q.2.2.2.2.1
  · rw [qPutN _ (by decide)]; exact q.2.2.2.2.2.1
  · rw [qPutN _ (by decide)]; exact q.2.2.2.2.2.2
theorem qMb.g12 (q : qMb h c x y fo fr ff fg fw) : mGI h (some 51) 8 12 = some x := qGI (q.le (by decide)) q.2.1 rfl
theorem qMb.g13 (q : qMb h c x y fo fr ff fg fw) : mGI h (some 51) 8 13 = some y := qGI (q.le (by decide)) q.2.1 rfl
theorem m_laysBad (mb : qMb h c x y fo fr ff fg fw) (hm : qMt fo fr ff fg fw t T) (h6 : t < 6) (wt : qWT T) : ∃ h', f_X9_laysBad (some 51) (nI t) h = some h' ∧ qMb h' c (nI (qB2 T T.1).1) (qB2 T T.1).2 fo fr ff fg fw ∧ qSame (fun k => k = 51) h h' := by
  have hn := wt.1
  obtain ⟨h1, p1, m1, s1⟩ := mb.p12 0
  obtain ⟨h2, p2, m2, s2⟩ := m1.p13 (-2)
  unfold f_X9_laysBad
  rw [mb.is, qbind, p1, qbind, p2, qbind]
  unfold f_X9_laysBad_l13
  refine mLoop_inv (b := fun x : Int32 × mH => f_X9_laysBad_b13 (some 51) (nI t) x.1 x.2) (fun i (s : Int32 × mH) => s.1 = nI i ∧ qSame (fun k => k = 51) h s.2 ∧ qMb s.2 c (nI (qB2 T i).1) (qB2 T i).2 fo fr ff fg fw) T.1 (fun h' => qMb h' c (nI (qB2 T T.1).1) (qB2 T T.1).2 fo fr ff fg fw ∧ qSame (fun k => k = 51) h h') (s0 := (nI 0, h2)) ⟨rfl, s1.trans s2, m2⟩ ?_ ?_
  · rintro i ⟨ik, hk⟩ hin ⟨rfl, sk, mk'⟩
    have mk : qMb hk c (nI (qB2 T i).1) (qB2 T i).2 fo fr ff fg fw := mk'
    have b2 := qB2_le T i (by omega) hn
    show ∃ s', f_X9_laysBad_b13 (some 51) (nI t) (nI i) hk = some (.inl s') ∧ _
    unfold f_X9_laysBad_b13
    rw [mk.orders, qbind, mk.order h6, qbind, hm.1, if_neg (by rw [qle (by omega) (by omega)]; omega)]
    unfold f_X9_laysBad_l27
    have R := mLoop_inv (b := fun x : Int32 × mH => f_X9_laysBad_b27 (some 51) (nI t) (nI i) x.1 x.2) (fun d (s : Int32 × mH) => s.1 = nI (i + 1 + d) ∧ qSame (fun k => k = 51) h s.2 ∧ qMb s.2 c (nI (qB1 T i d (qB2 T i)).1) (qB1 T i d (qB2 T i)).2 fo fr ff fg fw) (T.1 - (i + 1)) (fun r => ∃ s' : Int32 × mH, r = .inl s' ∧ s'.1 = nI (i + 1) ∧ qSame (fun k => k = 51) h s'.2 ∧ qMb s'.2 c (nI (qB2 T (i + 1)).1) (qB2 T (i + 1)).2 fo fr ff fg fw) (s0 := (nI i + 1, hk)) ⟨by rw [nI_1], sk, mk⟩ ?_ ?_
    · obtain ⟨r, e1, s', rfl, e2⟩ := R
      exact ⟨s', e1, e2⟩
    · rintro d ⟨ij, hj⟩ hd ⟨rfl, sj, mj'⟩
      have mj : qMb hj c (nI (qB1 T i d (qB2 T i)).1) (qB1 T i d (qB2 T i)).2 fo fr ff fg fw := mj'
      have b1 := (qB1_le T i (qB2 T i) d).2
      have hr := q31 hn (Nat.xor_lt_two_pow (wt.2.1 i (by omega)) (wt.2.1 (i + 1 + d) (by omega)))
      show ∃ s', f_X9_laysBad_b27 (some 51) (nI t) (nI i) (nI (i + 1 + d)) hj = some (.inl s') ∧ _
      unfold f_X9_laysBad_b27
      rw [mj.orders, qbind, mj.order h6, qbind, hm.1, if_neg (by rw [qle (by omega) (by omega)]; omega), m_rowOf mj hm h6 wt (by omega), qbind, m_rowOf mj hm h6 wt (by omega), qbind, qbind, mj.order h6, qbind, hm.1, m_sumOf (by omega), qbind, nI_1]
      have eS : qB1 T i (d + 1) (qB2 T i) = if qBd T i (i + 1 + d) then ((qB1 T i d (qB2 T i)).1 + 1, if (qB1 T i d (qB2 T i)).1 = 0 then nI (28 * i + (i + 1 + d)) else (qB1 T i d (qB2 T i)).2) else qB1 T i d (qB2 T i) := rfl
      by_cases hb : nI T.1 - nI (2 * qp (T.2.1 i ^^^ T.2.1 (i + 1 + d))) = 0
      · rw [if_pos hb]
        refine ⟨_, rfl, rfl, sj, ?_⟩
        rw [eS, if_neg (by unfold qBd; rw [decide_eq_false (fun z => z hb)]; decide)]
        exact mj
      · rw [if_neg hb, mj.g12, qbind]
        rw [if_pos (show qBd T i (i + 1 + d) = true by unfold qBd; exact decide_eq_true hb)] at eS
        by_cases h0 : (qB1 T i d (qB2 T i)).1 = 0
        · obtain ⟨h4, p4, m4, s4⟩ := mj.p13 (nI (28 * i + (i + 1 + d)))
          obtain ⟨h5, p5, m5, s5⟩ := m4.p12 (nI ((qB1 T i d (qB2 T i)).1 + 1))
          rw [if_pos h0] at eS
          refine ⟨(nI (i + 1 + d + 1), h5), ?_, rfl, (sj.trans s4).trans s5, by rw [eS]; exact m5⟩
          rw [if_pos (by rw [h0]; rfl), qL28, qI_mul, qI_add, p4, qbind]
          unfold f_X9_laysBad_c81
          rw [m4.g12, qbind, nI_1, p5, qbind, nI_1]
        · obtain ⟨h5, p5, m5, s5⟩ := mj.p12 (nI ((qB1 T i d (qB2 T i)).1 + 1))
          rw [if_neg h0] at eS
          refine ⟨(nI (i + 1 + d + 1), h5), ?_, rfl, sj.trans s5, by rw [eS]; exact m5⟩
          rw [if_neg (by rw [qI_zero, qeq (by omega) (by decide)]; exact h0)]
          unfold f_X9_laysBad_c81
          rw [mj.g12, qbind, nI_1, p5, qbind, nI_1]
    · rintro ⟨ij, hj⟩ ⟨rfl, sj, mj'⟩
      have mj : qMb hj c (nI (qB1 T i (T.1 - (i + 1)) (qB2 T i)).1) (qB1 T i (T.1 - (i + 1)) (qB2 T i)).2 fo fr ff fg fw := mj'
      refine ⟨.inl (nI (i + 1), hj), ?_, _, rfl, rfl, sj, mj⟩
      show f_X9_laysBad_b27 (some 51) (nI t) (nI i) (nI (i + 1 + (T.1 - (i + 1)))) hj = _
      unfold f_X9_laysBad_b27
      rw [mj.orders, qbind, mj.order h6, qbind, hm.1, if_pos (by rw [qle (by omega) (by omega)]; omega), nI_1]
  · rintro ⟨ik, hk⟩ ⟨rfl, sk, mk'⟩
    have mk : qMb hk c (nI (qB2 T T.1).1) (qB2 T T.1).2 fo fr ff fg fw := mk'
    refine ⟨hk, ?_, mk, sk⟩
    show f_X9_laysBad_b13 (some 51) (nI t) (nI T.1) hk = _
    unfold f_X9_laysBad_b13
    rw [mk.orders, qbind, mk.order h6, qbind, hm.1, if_pos (by rw [qle (by omega) (by omega)]; omega)]
end QPM
