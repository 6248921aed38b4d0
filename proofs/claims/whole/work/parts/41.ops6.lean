/-! PURE: tell, drop, signal -/
def qTell (A : qA) (k : Nat) : qA := (A.1, (A.2.1.1 + 1, va_up A.2.1.2 A.2.1.1 k), A.2.2)
theorem qX.upd1 {h h' : mH} {A A' : qA} (q : qX h A) (e : qSame (fun k => k = 1 ∨ k = 27 ∨ k = 28) h h') (hA : A'.1 = A.1) (o : qXo h' (nI A'.2.1.1)) (o2 : ∃ f : Nat → Int32, h'.2 27 = .inl (28, .inl f) ∧ ∀ i, i < A'.2.1.1 → f i = nI (A'.2.1.2 i)) (o3 : ∃ f : Nat → Int32, h'.2 28 = .inl (28, .inl f) ∧ ∀ i, i < 28 → f i = A'.2.2 i) : qX h' A' := by
  obtain ⟨a1, a2, ⟨f, a3, a3'⟩, a4, -, -, a7⟩ := q
  refine ⟨e.1.trans a1, o, ⟨f, (e.2 _ (by decide)).trans a3, a3'⟩, fun t ht => ?_, o2, o3, a7.same fun k h1 _ => e.2 k (by omega)⟩
  rw [hA]
  exact (a4 t ht).same e.1 fun k h1 h2 => e.2 k (by omega)
theorem qM.upd1 {h h' : mH} {A A' : qA} (q : qM h A) (e : qSame (fun k => k = 51 ∨ k = 57 ∨ k = 71) h h') (hA : A'.1 = A.1) (o : qMo h' (nI A'.2.1.1)) (o2 : ∃ f : Nat → Int32, h'.2 57 = .inl (28, .inl f) ∧ ∀ i, i < A'.2.1.1 → f i = nI (A'.2.1.2 i)) (o3 : ∃ f : Nat → Int32, h'.2 71 = .inl (28, .inl f) ∧ ∀ i, i < 28 → f i = A'.2.2 i) : qM h' A' := by
  obtain ⟨a1, -, ⟨fo, fr, ff, fg, fw, ⟨m1, m2, m3, m4, m5⟩, a4⟩, -, -, a7⟩ := q
  refine ⟨e.1.trans a1, o, ⟨fo, fr, ff, fg, fw, ⟨(e.2 _ (by decide)).trans m1, (e.2 _ (by decide)).trans m2, (e.2 _ (by decide)).trans m3, (e.2 _ (by decide)).trans m4, (e.2 _ (by decide)).trans m5⟩, fun t ht => by rw [hA]; exact a4 t ht⟩, o2, o3, a7.same fun k h1 h2 => e.2 k (by omega)⟩
theorem qUps {f : Nat → Int32} {k : Nat} {v : Int32} : upd f k v k = v := by simp [upd]
theorem qUpn {f : Nat → Int32} {k j : Nat} {v : Int32} (hj : j ≠ k) : upd f k v j = f j := by simp [upd, hj]
theorem qVs {α : Type} {f : Nat → α} {k : Nat} {v : α} : va_up f k v k = v := by simp [va_up]
theorem qVn {α : Type} {f : Nat → α} {k j : Nat} {v : α} (hj : j ≠ k) : va_up f k v j = f j := by simp [va_up, hj]
theorem x_tell {h : mH} {A : qA} (q : qX h A) (hc : A.2.1.1 < 28) {k : Nat} (hk : k < 2 ^ 28) : ∃ h1, f_X8_tell (some 1) (nI k) h = some (nI (A.2.1.1 + 1), h1) ∧ qX h1 (qTell A k) ∧ qSame qCX h h1 := by
  obtain ⟨f, f1, f2⟩ := q.2.2.2.2.1
  have hle : ∀ a, a ≤ 72 → a ≤ h.1 := fun a ha => by rw [q.1]; exact ha
  unfold f_X8_tell
  have s1 := qSI (x := nI k) (h := h) (a := 27) (by decide) (hle _ (by decide)) f1 (by decide) hc
  rw [q.is, qbind, q.told, qbind, if_neg (by rw [qL28, qle (by decide) (by omega)]; omega), if_neg (qpos (by omega)), if_pos (by rw [show (268435456 : Int32) = nI 268435456 from rfl, qlt (by omega) (by decide)]; omega), q.toldA, qbind, qbind, s1, qbind]
  have o1 : (mPut h 27 (.inl (28, .inl (upd f A.2.1.1 (nI k))))).2 1 = _ := (qPutN (h := h) _ (by decide)).trans q.2.1
  rw [qGI (by exact hle 1 (by decide)) o1 rfl, qbind, qI_one, qI_add, qPF (by exact hle 1 (by decide)) o1 (Nat.le_of_ble_eq_true rfl), qbind, qGI (by exact hle 1 (by decide)) (qPutS _) rfl, qbind]
  refine ⟨_, rfl, q.upd1 ((qSame.rf.put (Or.inr (Or.inl rfl)) _).put (Or.inl rfl) _) rfl (qPutS _) ⟨upd f A.2.1.1 (nI k), ?_, fun i hi => ?_⟩ ?_, (qSame.rf.put ⟨by decide, by decide⟩ _).put ⟨by decide, by decide⟩ _⟩
  · rw [qPutN _ (by decide)]; exact qPutS _
  · show upd f A.2.1.1 (nI k) i = nI (va_up A.2.1.2 A.2.1.1 k i)
    by_cases hic : i = A.2.1.1
    · rw [hic, qUps, qVs]
    · rw [qUpn hic, qVn hic]
      have : i < A.2.1.1 + 1 := hi
      exact f2 i (by omega)
  · obtain ⟨g, g1, g2⟩ := q.2.2.2.2.2.1
    exact ⟨g, by rw [qPutN _ (by decide), qPutN _ (by decide)]; exact g1, g2⟩
theorem m_tell {h : mH} {A : qA} (q : qM h A) (hc : A.2.1.1 < 28) {k : Nat} (hk : k < 2 ^ 28) : ∃ h1, f_X9_tell (some 51) (nI k) h = some (nI (A.2.1.1 + 1), h1) ∧ qM h1 (qTell A k) ∧ qSame qCM h h1 := by
  obtain ⟨x0, y0, fo, fr, ff, fg, fw, mb, hm⟩ := q.b
  obtain ⟨f, f1, f2⟩ := q.2.2.2.1
  unfold f_X9_tell
  have s1 := qSI (x := nI k) (h := h) (a := 57) (by decide) (mb.le (by decide)) f1 (by decide) hc
  rw [mb.is, qbind, mb.told, qbind, if_neg (by rw [qL28, qeq (by omega) (by decide)]; omega), show (268435455 : Int32) = nI 268435455 from rfl, m_in_k (by omega) (by decide), qbind, decide_eq_true (by omega), qif1, mb.toldA, qbind, qbind, s1, qbind]
  have o1 : (mPut h 57 (.inl (28, .inl (upd f A.2.1.1 (nI k))))).2 51 = _ := (qPutN (h := h) _ (by decide)).trans mb.2.1
  rw [qGI (by exact mb.le (by decide)) o1 rfl, qbind, qI_one, qI_add, qPF (by exact mb.le (by decide)) o1 (Nat.le_of_ble_eq_true rfl), qbind, qGI (by exact mb.le (by decide)) (qPutS _) rfl, qbind]
  refine ⟨_, rfl, q.upd1 ((qSame.rf.put (Or.inr (Or.inl rfl)) _).put (Or.inl rfl) _) rfl ⟨x0, y0, qPutS _⟩ ⟨upd f A.2.1.1 (nI k), ?_, fun i hi => ?_⟩ ?_, (qSame.rf.put (by unfold qCM; decide) _).put (by unfold qCM; decide) _⟩
  · rw [qPutN _ (by decide)]; exact qPutS _
  · show upd f A.2.1.1 (nI k) i = nI (va_up A.2.1.2 A.2.1.1 k i)
    by_cases hic : i = A.2.1.1
    · rw [hic, qUps, qVs]
    · rw [qUpn hic, qVn hic]
      have : i < A.2.1.1 + 1 := hi
      exact f2 i (by omega)
  · obtain ⟨g, g1, g2⟩ := q.2.2.2.2.1
    exact ⟨g, by rw [qPutN _ (by decide), qPutN _ (by decide)]; exact g1, g2⟩
theorem op_tell {h : mH} {A : qA} (I : qI h A) (x : Int32) : qStep (f_X8_tell (some 1) x) (f_X9_tell (some 51) x) h := by
  have I0 := I
  obtain ⟨q, m, w⟩ := I
  obtain ⟨x0, y0, fo, fr, ff, fg, fw, mb, hm⟩ := m.b
  have hc := w.2.1
  by_cases h28 : A.2.1.1 = 28
  · refine qStep.none (r := -1) I0 ?_ ?_
    · unfold f_X8_tell
      rw [q.is, qbind, q.told, qbind, if_pos (by rw [qL28, h28, qle (by decide) (by decide)]; decide)]
    · unfold f_X9_tell
      rw [mb.is, qbind, mb.told, qbind, if_pos (by rw [h28]; rfl)]
  · have n1 : ¬ (28 : Int32) ≤ nI A.2.1.1 := by rw [qL28, qle (by decide) (by omega)]; omega
    have n2 : ¬ nI A.2.1.1 = (28 : Int32) := by rw [qL28, qeq (by omega) (by decide)]; exact h28
    rcases qarg x with hx | ⟨k, hk, rfl⟩
    · refine qStep.none (r := -1) I0 ?_ ?_
      · unfold f_X8_tell
        rw [q.is, qbind, q.told, qbind, if_neg n1, if_pos hx]
      · unfold f_X9_tell
        rw [mb.is, qbind, mb.told, qbind, if_neg n2, m_in_neg hx, qbind, if_pos rfl]
    · by_cases hk2 : k < 2 ^ 28
      · obtain ⟨h1, e1, x1, s1⟩ := x_tell q (by omega) hk2
        obtain ⟨h2, e2, m2, s2⟩ := m_tell (m.same s1) (by omega) hk2
        refine qStep.mk e1 x1 s1 e2 m2 s2 ⟨w.1, by show A.2.1.1 + 1 ≤ 28; omega, fun i hi => ?_⟩
        show va_up A.2.1.2 A.2.1.1 k i < 2 ^ 28
        by_cases hic : i = A.2.1.1
        · rw [hic, qVs]; exact hk2
        · rw [qVn hic]
          have : i < A.2.1.1 + 1 := hi
          exact w.2.2 i (by omega)
      · refine qStep.none (r := -1) I0 ?_ ?_
        · unfold f_X8_tell
          rw [q.is, qbind, q.told, qbind, if_neg n1, if_neg (qpos hk), if_neg (by rw [show (268435456 : Int32) = nI 268435456 from rfl, qlt hk (by decide)]; omega)]
        · unfold f_X9_tell
          rw [mb.is, qbind, mb.told, qbind, if_neg n2, show (268435455 : Int32) = nI 268435455 from rfl, m_in_k hk (by decide), qbind, decide_eq_false (by omega), qif0]
theorem op_signal {h : mH} {A : qA} (I : qI h A) (i v : Int32) : qStep (f_X8_signal (some 1) i v) (f_X9_signal (some 51) i v) h := by
  have I0 := I
  obtain ⟨q, m, w⟩ := I
  obtain ⟨x0, y0, fo, fr, ff, fg, fw, mb, hm⟩ := m.b
  rcases qarg i with hi | ⟨k, hk, rfl⟩
  · refine qStep.none (r := -1000) I0 ?_ ?_
    · unfold f_X8_signal
      rw [q.is, qbind, if_pos hi]
    · unfold f_X9_signal
      rw [mb.is, qbind, m_in_neg hi, qbind, if_pos rfl]
  · by_cases h28 : k < 28
    · have n1 : ¬ (28 : Int32) ≤ nI k := by rw [qL28, qle (by decide) (by omega)]; omega
      by_cases hv : v < -999
      · refine qStep.none (r := -1000) I0 ?_ ?_
        · unfold f_X8_signal
          rw [q.is, qbind, if_neg (qpos hk), if_neg n1, if_pos hv]
        · unfold f_X9_signal
          rw [mb.is, qbind, show (27 : Int32) = nI 27 from rfl, m_in_k hk (by decide), qbind, decide_eq_true (by omega), qif1, m_in, qbind, decide_eq_false (fun z => z.1 hv), qif0]
      · by_cases hv2 : v ≤ 999
        · obtain ⟨g, g1, g2⟩ := q.2.2.2.2.2.1
          have hle : ∀ a, a ≤ 72 → a ≤ h.1 := fun a ha => by rw [q.1]; exact ha
          have hnum : mGR h (some 1) 7 3 = some (some 28) := qGR (hle 1 (by decide)) q.2.1 rfl
          have e1 : f_X8_signal (some 1) (nI k) v h = some (g k, mPut h 28 (.inl (28, .inl (upd g k v)))) := by
            unfold f_X8_signal
            rw [q.is, qbind, if_neg (qpos hk), if_neg n1, if_neg hv, if_pos hv2, hnum, qbind, qAI (hle _ (by decide)) g1 (by decide) h28, qbind, qbind, qSI (by decide) (hle _ (by decide)) g1 (by decide) h28, qbind]
          have s1 : qSame qCX h (mPut h 28 (.inl (28, .inl (upd g k v)))) := qSame.rf.put ⟨by decide, by decide⟩ _
          have x1 : qX (mPut h 28 (.inl (28, .inl (upd g k v)))) (A.1, A.2.1, va_up A.2.2 k v) := by
            refine q.upd1 (qSame.rf.put (Or.inr (Or.inr rfl)) _) rfl ((qPutN _ (by decide)).trans q.2.1) ?_ ⟨_, qPutS _, fun j hj => ?_⟩
            · obtain ⟨f, f1, f2⟩ := q.2.2.2.2.1
              exact ⟨f, (qPutN _ (by decide)).trans f1, f2⟩
            · show upd g k v j = va_up A.2.2 k v j
              by_cases hjk : j = k
              · rw [hjk, qUps, qVs]
              · rw [qUpn hjk, qVn hjk]; exact g2 j hj
          have m1 := m.same s1
          obtain ⟨x2, y2, fo2, fr2, ff2, fg2, fw2, mb2, hm2⟩ := m1.b
          obtain ⟨g', g1', g2'⟩ := m1.2.2.2.2.1
          have hnum2 : mGR (mPut h 28 (.inl (28, .inl (upd g k v)))) (some 51) 8 23 = some (some 71) := qGR (mb2.le (by decide)) mb2.2.1 rfl
          have e2 : f_X9_signal (some 51) (nI k) v (mPut h 28 (.inl (28, .inl (upd g k v)))) = some (g k, mPut (mPut h 28 (.inl (28, .inl (upd g k v)))) 71 (.inl (28, .inl (upd g' k v)))) := by
            unfold f_X9_signal
            rw [mb2.is, qbind, show (27 : Int32) = nI 27 from rfl, m_in_k hk (by decide), qbind, decide_eq_true (by omega), qif1, m_in, qbind, decide_eq_true ⟨hv, by rw [Int32.not_lt]; exact hv2⟩, qif1, hnum2, qbind, qAI (mb2.le (by decide)) g1' (by decide) h28, qbind, qbind, qSI (by decide) (mb2.le (by decide)) g1' (by decide) h28, qbind, g2' k h28, g2 k h28]
          refine qStep.mk (A' := (A.1, A.2.1, va_up A.2.2 k v)) e1 x1 s1 e2 ?_ (qSame.rf.put (by unfold qCM; decide) _) w
          refine m1.upd1 (qSame.rf.put (Or.inr (Or.inr rfl)) _) rfl ⟨x2, y2, (qPutN _ (by decide)).trans mb2.2.1⟩ ?_ ⟨_, qPutS _, fun j hj => ?_⟩
          · obtain ⟨f, f1, f2⟩ := m1.2.2.2.1
            exact ⟨f, (qPutN _ (by decide)).trans f1, f2⟩
          · show upd g' k v j = va_up A.2.2 k v j
            by_cases hjk : j = k
            · rw [hjk, qUps, qVs]
            · rw [qUpn hjk, qVn hjk]; exact g2' j hj
        · refine qStep.none (r := -1000) I0 ?_ ?_
          · unfold f_X8_signal
            rw [q.is, qbind, if_neg (qpos hk), if_neg n1, if_neg hv, if_neg hv2]
          · unfold f_X9_signal
            rw [mb.is, qbind, show (27 : Int32) = nI 27 from rfl, m_in_k hk (by decide), qbind, decide_eq_true (by omega), qif1, m_in, qbind, decide_eq_false (fun z => hv2 (Int32.not_lt.mp z.2)), qif0]
    · refine qStep.none (r := -1000) I0 ?_ ?_
      · unfold f_X8_signal
        rw [q.is, qbind, if_neg (qpos hk), if_pos (by rw [qL28, qle (by decide) hk]; omega)]
      · unfold f_X9_signal
        rw [mb.is, qbind, show (27 : Int32) = nI 27 from rfl, m_in_k hk (by decide), qbind, decide_eq_false (by omega), qif0]
/-- an empty table -/
def qT0 (T : qT) : qT := (0, T.2)
theorem op_drop {h : mH} {A : qA} (I : qI h A) (x : Int32) : qStep (f_X8_drop (some 1) x) (f_X9_drop (some 51) x) h := by
  have L := qTb2 I x
  have I0 := I
  obtain ⟨q, m, w⟩ := I
  obtain ⟨x0, y0, fo, fr, ff, fg, fw, mb, hm⟩ := m.b
  rcases L with ⟨l1, l2⟩ | ⟨t, hx, l1, l2⟩
  · refine qStep.none (r := 0) I0 ?_ ?_
    · unfold f_X8_drop
      rw [q.is, qbind, l1, qbind, if_pos rfl]
    · unfold f_X9_drop
      rw [mb.is, qbind, l2, qbind, if_pos rfl]
  · obtain ⟨bk, bs, bc, ra, rb, fr', fa, fb, hT, hs⟩ := q.2.2.2.1 t hx.1
    have h6 := hx.1
    obtain ⟨h1, p1, t1, s1⟩ := hT.put (j := 0) (v := .int 0) (n' := 0) (by decide) rfl
    have e1 : f_X8_drop (some 1) x h = some (1, h1) := by
      unfold f_X8_drop
      rw [q.is, qbind, l1, qbind, if_neg qne, p1, qbind]
    have s1' := s1.mono (qIs4.cx h6)
    have m1 := m.same s1'
    obtain ⟨x2, y2, fo2, fr2, ff2, fg2, fw2, mb2, hm2⟩ := m1.b
    obtain ⟨h2, p2, t2, s2⟩ := mb2.st52 h6 0
    have e2 : f_X9_drop (some 51) x h1 = some (1, h2) := by
      unfold f_X9_drop
      rw [mb2.is, qbind, m_tab_yes mb2 hm2 w hx, qbind, if_neg q10, mb2.orders, qbind, hx.2.1, p2, qbind]
    refine qStep.mk (A' := qSetT A t (qT0 (A.1 t))) e1 ?_ s1' e2 ?_ (s2.mono qC5.cm) (w.tab ⟨by show 0 ≤ 28; decide, fun i hi => absurd hi (Nat.not_lt_zero i), fun i hi => absurd hi (Nat.not_lt_zero i), fun i hi => absurd hi (Nat.not_lt_zero i)⟩)
    · refine q.tab h6 s1 ⟨bk, bs, bc, ra, rb, fr', fa, fb, t1, fun i hi => absurd hi (Nat.not_lt_zero i), fun i hi => absurd hi (Nat.not_lt_zero i), fun i hi => absurd hi (Nat.not_lt_zero i), ?_⟩
      rcases hs.2.2.2 with z | z
      · exact Or.inl z
      · exact Or.inr ⟨z.1, fun y => absurd y (Nat.not_lt_zero 0)⟩
    · refine m1.upd s2 t2 (fun u hu => ?_) rfl
      by_cases hut : u = t
      · subst hut
        show qMt _ _ _ _ _ u (va_up A.1 u (qT0 (A.1 u)) u)
        rw [qVs]
        exact ⟨qUps, fun i hi => absurd hi (Nat.not_lt_zero i), fun i hi => absurd hi (Nat.not_lt_zero i), fun i hi => absurd hi (Nat.not_lt_zero i), fun z => absurd z (Nat.not_lt_zero 0), fun z => absurd z (Nat.not_lt_zero 0)⟩
      · show qMt _ _ _ _ _ u (va_up A.1 t (qT0 (A.1 t)) u)
        rw [qVn hut]
        exact (hm2 u hu).keep (w.1 u hu).1 (qUpn hut) (fun _ _ => rfl) (fun _ _ => ⟨rfl, rfl⟩) ⟨rfl, rfl⟩
