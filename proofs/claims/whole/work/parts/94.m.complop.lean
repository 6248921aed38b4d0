/-! PURE: completed -/
section QCO
variable {h : mH} {A : qA} {n : Nat}
theorem x_fitsN (q : qX h A) (w : qWA A) (hn : n ≤ 28) : f_X8_toldFits (some 1) (nI n) h = some (qB2I (decide (∀ i, i < A.2.1.1 → A.2.1.2 i < 2 ^ n))) := by
  obtain ⟨f, f1, f2⟩ := q.2.2.2.2.1
  have hc := w.2.1
  have B : ∀ k, k < A.2.1.1 → f_X8_toldFits_b2 (some 1) (nI n) (nI k) h = if qB2I (decide (A.2.1.2 k < 2 ^ n)) = 0 then some (.inr 0) else some (.inl (nI (k + 1))) := by
    intro k hk
    have h28 := w.2.2 k hk
    unfold f_X8_toldFits_b2
    rw [q.told, qbind, if_neg (by rw [qle (by omega) (by omega)]; omega), q.toldA, qbind, qAI (by rw [q.1]; decide) f1 (by decide) (by omega), qbind, f2 k hk, x_isWord (by omega) hn, qbind, nI_1]
  have L : ∀ j r, (∀ i, i < j → i < A.2.1.1 ∧ A.2.1.2 i < 2 ^ n) → f_X8_toldFits_b2 (some 1) (nI n) (nI j) h = some (.inr r) → f_X8_toldFits (some 1) (nI n) h = some r := by
    intro j r hall he
    unfold f_X8_toldFits f_X8_toldFits_l2
    rw [q.is, qbind]
    have R := mLoop_inv (b := fun x : Int32 => f_X8_toldFits_b2 (some 1) (nI n) x h) (fun k (s : Int32) => s = nI k) j (fun z => z = r) (s0 := nI 0) rfl ?_ ?_
    · obtain ⟨z, h1, rfl⟩ := R
      exact h1
    · rintro i s hi rfl
      refine ⟨nI (i + 1), ?_, rfl⟩
      show f_X8_toldFits_b2 (some 1) (nI n) (nI i) h = _
      rw [B i (hall i hi).1, decide_eq_true (hall i hi).2, qif1]
    · rintro s rfl
      exact ⟨r, he, rfl⟩
  rcases qLeast (fun i => A.2.1.2 i < 2 ^ n) A.2.1.1 with h1 | ⟨j, hj, h1, h2⟩
  · rw [decide_eq_true h1]
    refine L A.2.1.1 _ (fun i hi => ⟨hi, h1 i hi⟩) ?_
    unfold f_X8_toldFits_b2
    rw [q.told, qbind, if_pos (by rw [qle (by omega) (by omega)]; omega)]; rfl
  · rw [decide_eq_false (fun z => h1 (z j hj))]
    refine L j _ (fun i hi => ⟨by omega, h2 i hi⟩) ?_
    rw [B j hj, decide_eq_false h1, qif0]; rfl
theorem m_fitsN (m : qM h A) (w : qWA A) (hn : n ≤ 28) : f_X9_areTold (some 51) (nI n) h = some (qB2I (decide (∀ i, i < A.2.1.1 → A.2.1.2 i < 2 ^ n))) := by
  obtain ⟨f, f1, f2⟩ := m.2.2.2.1
  obtain ⟨x0, y0, fo, fr, ff, fg, fw, mb, hm⟩ := m.b
  have hc := w.2.1
  have B : ∀ k, k < A.2.1.1 → f_X9_areTold_b2 (some 51) (nI n) (nI k) h = if A.2.1.2 k < 2 ^ n then some (.inl (nI (k + 1))) else some (.inr 0) := by
    intro k hk
    have h28 := w.2.2 k hk
    unfold f_X9_areTold_b2
    rw [mb.told, qbind, if_neg (by rw [qle (by omega) (by omega)]; omega), mb.toldA, qbind, qAI (mb.le (by decide)) f1 (by decide) (by omega), qbind, f2 k hk, qI_shr (by omega) (by omega), nI_1]
    by_cases z : A.2.1.2 k < 2 ^ n
    · rw [Nat.div_eq_of_lt z, if_pos (show nI 0 = 0 from rfl), if_pos z]
    · have hd : 0 < A.2.1.2 k / 2 ^ n := Nat.div_pos (Nat.le_of_not_lt z) (Nat.two_pow_pos _)
      have hd2 : A.2.1.2 k / 2 ^ n ≤ A.2.1.2 k := Nat.div_le_self _ _
      rw [if_neg (by rw [qI_zero, qeq (by omega) (by omega)]; omega), if_neg z]
  have L : ∀ j r, (∀ i, i < j → i < A.2.1.1 ∧ A.2.1.2 i < 2 ^ n) → f_X9_areTold_b2 (some 51) (nI n) (nI j) h = some (.inr r) → f_X9_areTold (some 51) (nI n) h = some r := by
    intro j r hall he
    unfold f_X9_areTold f_X9_areTold_l2
    rw [mb.is, qbind]
    have R := mLoop_inv (b := fun x : Int32 => f_X9_areTold_b2 (some 51) (nI n) x h) (fun k (s : Int32) => s = nI k) j (fun z => z = r) (s0 := nI 0) rfl ?_ ?_
    · obtain ⟨z, h1, rfl⟩ := R
      exact h1
    · rintro i s hi rfl
      refine ⟨nI (i + 1), ?_, rfl⟩
      show f_X9_areTold_b2 (some 51) (nI n) (nI i) h = _
      rw [B i (hall i hi).1, if_pos (hall i hi).2]
    · rintro s rfl
      exact ⟨r, he, rfl⟩
  rcases qLeast (fun i => A.2.1.2 i < 2 ^ n) A.2.1.1 with h1 | ⟨j, hj, h1, h2⟩
  · rw [decide_eq_true h1]
    refine L A.2.1.1 _ (fun i hi => ⟨hi, h1 i hi⟩) ?_
    unfold f_X9_areTold_b2
    rw [mb.told, qbind, if_pos (by rw [qle (by omega) (by omega)]; omega)]; rfl
  · rw [decide_eq_false (fun z => h1 (z j hj))]
    refine L j _ (fun i hi => ⟨by omega, h2 i hi⟩) ?_
    rw [B j hj, if_neg h1]; rfl
theorem m_completes (m : qM h A) (hn : n ≤ 12) (hn0 : 0 < n) (hk : A.2.1.1 ≤ n) (hf : ∀ i, i < A.2.1.1 → A.2.1.2 i < 2 ^ n) {f : Nat → Int32} (e58 : h.2 58 = .inl (28, .inl f)) (u : ∀ i, i < A.2.1.1 → f i = nI (A.2.1.2 i)) : ∃ h' f', qM h' A ∧ qSame (fun z => z = 58) h h' ∧ h'.2 58 = .inl (28, .inl f') ∧ ((∃ r, qFnd (qOkc n A.2.1.1) (2 ^ n) (n - A.2.1.1) A.2.1.1 A.2.1.2 = some r ∧ f_X9_completes (some 51) (nI n) h = some (1, h') ∧ ∀ e, e < n → f' e = nI (r e)) ∨ (qFnd (qOkc n A.2.1.1) (2 ^ n) (n - A.2.1.1) A.2.1.1 A.2.1.2 = none ∧ f_X9_completes (some 51) (nI n) h = some (0, h'))) := by
  have p12 : 2 ^ n ≤ 2 ^ 12 := Nat.pow_le_pow_right (by decide) hn
  obtain ⟨x0, y0, fo, fr, ff, fg, fw, mb, hm⟩ := m.b
  by_cases z : A.2.1.1 = n
  · refine ⟨h, f, m, qSame.rf, e58, Or.inl ⟨A.2.1.2, by rw [show n - A.2.1.1 = 0 by omega]; rfl, ?_, fun e he => u e (by omega)⟩⟩
    unfold f_X9_completes
    rw [mb.is, qbind, mb.told, qbind, if_pos (by rw [z])]
  · obtain ⟨h3, p3, m3, e3, s3⟩ := m_stW m qMf58 e58 (i := A.2.1.1) (by omega) (-1)
    have OPEN : f_X9_completes (some 51) (nI n) h = f_X9_completes_l19 (some 51) (nI n) (nI A.2.1.1) h3 := by
      unfold f_X9_completes
      rw [mb.is, qbind, mb.told, qbind, if_neg (by rw [qeq (by omega) (by omega)]; exact z), m.made, qbind, p3, qbind]
    have L := m_lvl (A := A) hn (n - A.2.1.1 - 1) A.2.1.1 A.2.1.2 (by omega) (Nat.le_refl _) hf (2 ^ n) 0 h3 _ (by omega) (Or.inl (Nat.le_refl _)) m3 e3 (fun e he => by rw [qUpn (by omega)]; exact u e he) (by rw [qUps]; rfl)
    have same : qFnd (qOkc n A.2.1.1) (2 ^ n) (n - A.2.1.1) A.2.1.1 A.2.1.2 = qScan (qGc n A.2.1.1 (n - A.2.1.1 - 1) A.2.1.1 A.2.1.2) (2 ^ n) 0 := by
      rw [show n - A.2.1.1 = (n - A.2.1.1 - 1) + 1 by omega]; rfl
    rw [same, OPEN]
    unfold qLvc at L
    rcases L with ⟨r, h', f', i1, i2, i3, i4, i5, i6⟩ | ⟨h', f', i1, i2, i3, i4, i5, i6⟩
    · exact ⟨h', f', i3, s3.trans i4, i5, Or.inl ⟨r, i1, i2, i6⟩⟩
    · refine ⟨h', f', i3, s3.trans i4, i5, Or.inr ⟨i1, ?_⟩⟩
      rw [i2]
      obtain ⟨x1, y1, fo1, fr1, ff1, fg1, fw1, mb1, hm1⟩ := i3.b
      unfold f_X9_completes_l19
      refine mLoop_inr ?_
      show f_X9_completes_b19 (some 51) (nI n) (nI A.2.1.1 + -1) h' = _
      unfold f_X9_completes_b19
      have D : ∀ a, a < 13 → nI a + -1 < nI a := by decide +kernel
      rw [mb1.told, qbind, if_pos (D _ (by omega))]
def qMF (A : qA) (n t : Nat) (R : Nat → Nat) (h : mH) (r : Int32 × mH) : Prop := qSame qCM h r.2 ∧ ((qPf n A.2.1.2 A.2.1.1 ∧ (∃ rr, qFnd (qOkc n A.2.1.1) (2 ^ n) (n - A.2.1.1) A.2.1.1 A.2.1.2 = some rr) ∧ r.1 = nI t ∧ qM r.2 (qSetT (qTo0 A) t (qNew n R))) ∨ (¬ (qPf n A.2.1.2 A.2.1.1 ∧ (∃ rr, qFnd (qOkc n A.2.1.1) (2 ^ n) (n - A.2.1.1) A.2.1.1 A.2.1.2 = some rr)) ∧ r.1 = -1 ∧ qM r.2 A))
theorem m_completed (m : qM h A) (w : qWA A) (hn : n ≤ 12) (hn0 : 0 < n) (hk : A.2.1.1 ≤ n) (hf : ∀ i, i < A.2.1.1 → A.2.1.2 i < 2 ^ n) {f : Nat → Int32} (e58 : h.2 58 = .inl (28, .inl f)) {t : Nat} (hfr : qFr A t) (R : Nat → Nat) (hR : ∀ rr, qFnd (qOkc n A.2.1.1) (2 ^ n) (n - A.2.1.1) A.2.1.1 A.2.1.2 = some rr → ∀ i, i < n → rr i = R i) : ∃ r, f_X9_completed_l58 (some 51) (nI n) 0 h = some r ∧ qMF A n t R h r := by
  have p12 : 2 ^ n ≤ 2 ^ 12 := Nat.pow_le_pow_right (by decide) hn
  obtain ⟨g57, e57, u57⟩ := m.2.2.2.1
  have c58 : ∀ k, k = 58 → qCM k := fun k z => by unfold qCM; omega
  unfold f_X9_completed_l58
  have B : ∀ k hk, k < A.2.1.1 → qM hk A → qSame (fun z => z = 58) h hk → (∃ g, hk.2 58 = .inl (28, .inl g) ∧ ∀ i, i < k → g i = nI (A.2.1.2 i)) → ∃ h7, qM h7 A ∧ qSame (fun z => z = 58) h h7 ∧ (∃ g, h7.2 58 = .inl (28, .inl g) ∧ ∀ i, i < k + 1 → g i = nI (A.2.1.2 i)) ∧ f_X9_completed_b58 (some 51) (nI n) (nI k) hk = if qB2I (decide (∀ i, i < k → qPe n (A.2.1.2 i) (A.2.1.2 k) = true)) = 0 then some (.inr (-1, h7)) else some (.inl (nI (k + 1), h7)) := by
    intro k hk hkn mk sk ⟨g, eg, lg⟩
    obtain ⟨x0, y0, fo, fr, ff, fg, fw, mb, hm⟩ := mk.b
    obtain ⟨h7, p7, m7, e7, s7⟩ := m_stW mk qMf58 eg (i := k) (by omega) (nI (A.2.1.2 k))
    have lg7 : ∀ i, i < k + 1 → upd g k (nI (A.2.1.2 k)) i = nI (A.2.1.2 i) := fun i hi => by
      by_cases z : i = k
      · rw [z, qUps]
      · rw [qUpn z]; exact lg i (by omega)
    refine ⟨h7, m7, sk.trans s7, ⟨_, e7, lg7⟩, ?_⟩
    have P := m_isMadeFit m7 e7 (c := A.2.1.2) (k := k) (n := n) (by omega) (by omega) (fun i hi => ⟨lg7 i (by omega), by have := hf i (by omega); omega⟩)
    unfold f_X9_completed_b58
    rw [mb.told, qbind, if_neg (by rw [qle (by omega) (by omega)]; omega), mk.made, qbind, mb.toldA, qbind, mk.atW ((sk.2 57 (by decide)).trans e57) (by decide) (by decide) (by omega), qbind, u57 k hkn, p7, qbind, P, qbind, nI_1]
  rcases qLeast (fun b => ∀ a, a < b → qPe n (A.2.1.2 a) (A.2.1.2 b) = true) A.2.1.1 with good | ⟨j, hj, bad, before⟩
  · have pf : qPf n A.2.1.2 A.2.1.1 := ⟨hf, good⟩
    refine mLoop_inv (b := fun x : Int32 × mH => f_X9_completed_b58 (some 51) (nI n) x.1 x.2) (fun k (s : Int32 × mH) => s.1 = nI k ∧ qM s.2 A ∧ qSame (fun z => z = 58) h s.2 ∧ ∃ g, s.2.2 58 = .inl (28, .inl g) ∧ ∀ i, i < k → g i = nI (A.2.1.2 i)) A.2.1.1 (fun r => qMF A n t R h r) (s0 := (nI 0, h)) ⟨rfl, m, qSame.rf, f, e58, fun i hi => absurd hi (Nat.not_lt_zero i)⟩ ?_ ?_
    · rintro k ⟨a, hk⟩ hkn ⟨rfl, mk, sk, lg⟩
      obtain ⟨h7, m7, s7, l7, E⟩ := B k hk hkn mk sk lg
      refine ⟨(nI (k + 1), h7), ?_, rfl, m7, s7, l7⟩
      show f_X9_completed_b58 (some 51) (nI n) (nI k) hk = _
      rw [E, decide_eq_true (good k hkn), qif1]
    · rintro ⟨a, h0⟩ ⟨rfl, mk', sk, g, eg', lg⟩
      have mk : qM h0 A := mk'
      have eg : h0.2 58 = .inl (28, .inl g) := eg'
      obtain ⟨x0, y0, fo, fr, ff, fg, fw, mb, hm⟩ := mk.b
      obtain ⟨h2, f2, m2, s2, e2, RR⟩ := m_completes mk hn hn0 hk hf eg lg
      have ss : qSame qCM h h2 := (sk.mono c58).trans (s2.mono c58)
      rcases RR with ⟨rr, r1, r2, r3⟩ | ⟨r1, r2⟩
      · obtain ⟨x0, y0, fo, fr, ff, fg, fw, mb2, hm2⟩ := m2.b
        have p2 := qPF (v := .int 0) (j := 7) (mb2.le (by decide)) mb2.2.1 (Nat.le_of_ble_eq_true rfl)
        generalize hh : mPut h2 51 _ = h3 at p2
        have s3 : qSame (fun k => k = 51 ∨ k = 57 ∨ k = 71) h2 h3 := by rw [← hh]; exact qSame.rf.put (Or.inl rfl) _
        have m3 : qM h3 (qTo0 A) := by
          refine m2.upd1 s3 rfl ⟨x0, y0, by rw [← hh]; exact qPutS _⟩ ?_ ?_
          · obtain ⟨g, g1, g2⟩ := m2.2.2.2.1
            exact ⟨g, by rw [← hh, qPutN _ (by decide)]; exact g1, fun i hi => absurd hi (Nat.not_lt_zero i)⟩
          · obtain ⟨g, g1, g2⟩ := m2.2.2.2.2.1
            exact ⟨g, by rw [← hh, qPutN _ (by decide)]; exact g1, g2⟩
        have w3 : qWA (qTo0 A) := ⟨w.1, by show 0 ≤ 28; decide, fun i hi => absurd hi (Nat.not_lt_zero i)⟩
        obtain ⟨h4, p4, m4, s4⟩ := m_comes m3 w3 ((s3.2 58 (by decide)).trans e2) (n := n) (R := R) (by omega) (fun i hi => by rw [r3 i hi, hR rr r1 i hi]) (t := t) hfr
        refine ⟨(nI t, h4), ?_, ?_, Or.inl ⟨pf, ⟨rr, r1⟩, rfl, m4⟩⟩
        · show f_X9_completed_b58 (some 51) (nI n) (nI A.2.1.1) h0 = _
          unfold f_X9_completed_b58
          rw [mb.told, qbind, if_pos (by rw [qle (by omega) (by omega)]; omega), r2, qbind, if_neg q10, p2, qbind, p4, qbind]
        · exact (ss.trans (s3.mono fun k z => by unfold qCM; omega)).trans (s4.mono qC5.cm)
      · refine ⟨(-1, h2), ?_, ss, Or.inr ⟨fun z => (by obtain ⟨-, rr, y⟩ := z; rw [r1] at y; cases y), rfl, m2⟩⟩
        show f_X9_completed_b58 (some 51) (nI n) (nI A.2.1.1) h0 = _
        unfold f_X9_completed_b58
        rw [mb.told, qbind, if_pos (by rw [qle (by omega) (by omega)]; omega), r2, qbind, if_pos rfl]
  · refine mLoop_inv (b := fun x : Int32 × mH => f_X9_completed_b58 (some 51) (nI n) x.1 x.2) (fun k (s : Int32 × mH) => s.1 = nI k ∧ qM s.2 A ∧ qSame (fun z => z = 58) h s.2 ∧ ∃ g, s.2.2 58 = .inl (28, .inl g) ∧ ∀ i, i < k → g i = nI (A.2.1.2 i)) j (fun r => qMF A n t R h r) (s0 := (nI 0, h)) ⟨rfl, m, qSame.rf, f, e58, fun i hi => absurd hi (Nat.not_lt_zero i)⟩ ?_ ?_
    · rintro k ⟨a, hk⟩ hkn ⟨rfl, mk, sk, lg⟩
      obtain ⟨h7, m7, s7, l7, E⟩ := B k hk (by omega) mk sk lg
      refine ⟨(nI (k + 1), h7), ?_, rfl, m7, s7, l7⟩
      show f_X9_completed_b58 (some 51) (nI n) (nI k) hk = _
      rw [E, decide_eq_true (before k hkn), qif1]
    · rintro ⟨a, hk⟩ ⟨rfl, mk, sk, lg⟩
      obtain ⟨h7, m7, s7, l7, E⟩ := B j hk hj mk sk lg
      refine ⟨(-1, h7), ?_, s7.mono c58, Or.inr ⟨fun z => bad (z.1.2 j hj), rfl, m7⟩⟩
      show f_X9_completed_b58 (some 51) (nI n) (nI j) hk = _
      rw [E, decide_eq_false bad, qif0]
theorem x_laid (q : qX h A) {t : Nat} (hf : qFr A t) {f31 : Nat → Int32} (e31 : h.2 31 = .inl (12, .inl f31)) (hn : n ≤ 12) {R : Nat → Nat} (hR : ∀ i, i < n → f31 i = nI (R i)) : ∃ h1 h2, f_X7_layRows (some (3 + 4 * t)) (some 31) (nI n) h = some h1 ∧ mPF h1 (some 1) 7 2 (.int 0) = some h2 ∧ qX h2 (qSetT (qTo0 A) t (qNew n R)) ∧ qSame qCX h h2 := by
  have h6 := hf.1
  obtain ⟨h1, p1, t1, s1⟩ := x_layRowsL (q.2.2.2.1 t h6) e31 (by decide) (by decide) (by unfold qIs4; omega) hn hR
  have q1 := q.tab h6 s1 t1
  have o1 : h1.2 1 = _ := q1.2.1
  refine ⟨h1, _, p1, qPF (by rw [q1.1]; decide) o1 (Nat.le_of_ble_eq_true rfl), q1.upd1 (qSame.rf.put (Or.inl rfl) _) rfl (qPutS _) ?_ ?_, (s1.mono (qIs4.cx h6)).put ⟨by decide, by decide⟩ _⟩
  · obtain ⟨g, g1, g2⟩ := q1.2.2.2.2.1
    exact ⟨g, (qPutN _ (by decide)).trans g1, fun i hi => absurd hi (Nat.not_lt_zero i)⟩
  · obtain ⟨g, g1, g2⟩ := q1.2.2.2.2.2.1
    exact ⟨g, (qPutN _ (by decide)).trans g1, g2⟩
end QCO
theorem qIf5 {α : Type} {x : Int32} (hx : x = 1 ∨ x = 2 ∨ x = 4 ∨ x = 8 ∨ x = 12) (a b : α) : (if x = (1:Int32) then a else if x = (2:Int32) then a else if x = (4:Int32) then a else if x = (8:Int32) then a else if x = (12:Int32) then a else b) = a := by
  by_cases h1 : x = 1
  · rw [if_pos h1]
  · rw [if_neg h1]
    by_cases h2 : x = 2
    · rw [if_pos h2]
    · rw [if_neg h2]
      by_cases h4 : x = 4
      · rw [if_pos h4]
      · rw [if_neg h4]
        by_cases h8 : x = 8
        · rw [if_pos h8]
        · rw [if_neg h8, if_pos ((((hx.resolve_left h1).resolve_left h2).resolve_left h4).resolve_left h8)]
theorem qIf5n {α : Type} {x : Int32} (hx : ¬ (x = 1 ∨ x = 2 ∨ x = 4 ∨ x = 8 ∨ x = 12)) (a b : α) : (if x = (1:Int32) then a else if x = (2:Int32) then a else if x = (4:Int32) then a else if x = (8:Int32) then a else if x = (12:Int32) then a else b) = b := by
  rw [if_neg fun z => hx (Or.inl z), if_neg fun z => hx (Or.inr (Or.inl z)), if_neg fun z => hx (Or.inr (Or.inr (Or.inl z))), if_neg fun z => hx (Or.inr (Or.inr (Or.inr (Or.inl z)))), if_neg fun z => hx (Or.inr (Or.inr (Or.inr (Or.inr z))))]
theorem qOn_ex {x : Int32} (hx : x = 1 ∨ x = 2 ∨ x = 4 ∨ x = 8 ∨ x = 12) : ∃ n, n ∈ qOn ∧ x = nI n := by
  rcases hx with z | z | z | z | z
  · exact ⟨1, by decide, z⟩
  · exact ⟨2, by decide, z⟩
  · exact ⟨4, by decide, z⟩
  · exact ⟨8, by decide, z⟩
  · exact ⟨12, by decide, z⟩
theorem op_completed {h : mH} {A : qA} (I : qI h A) (x : Int32) : qStep (f_X8_completed (some 1) x) (f_X9_completed (some 51) x) h := by
  have I0 := I
  obtain ⟨q, m, w⟩ := I
  obtain ⟨x0, y0, fo, fr, ff, fg, fw, mb, hm⟩ := m.b
  have hc := w.2.1
  by_cases hx : x = 1 ∨ x = 2 ∨ x = 4 ∨ x = 8 ∨ x = 12
  · obtain ⟨n, hn, rfl⟩ := qOn_ex hx
    obtain ⟨-, hn0, hn12⟩ := qHad_0 n hn
    have FX := x_fitsN (n := n) q w (by omega)
    have FM : ∀ {h'}, qM h' A → f_X9_areTold (some 51) (nI n) h' = some (qB2I (decide (∀ i, i < A.2.1.1 → A.2.1.2 i < 2 ^ n))) := fun m' => m_fitsN (n := n) m' w (by omega)
    have MP : ∀ {h'}, qM h' A → f_X9_completed (some 51) (nI n) h' = if nI n < nI A.2.1.1 then some ((-1 : Int32), h') else if qB2I (decide (∀ i, i < A.2.1.1 → A.2.1.2 i < 2 ^ n)) = 0 then some ((-1 : Int32), h') else (f_X9_isFull (some 51) h').bind fun x3 => if x3 = 0 then (f_X9_clearsMade (some 51) h').bind fun x4 => f_X9_completed_l58 (some 51) (nI n) (0 : Int32) x4 else some ((-1 : Int32), h') := by
      intro h' m'
      obtain ⟨x1, y1, fo1, fr1, ff1, fg1, fw1, mb1, hm1⟩ := m'.b
      unfold f_X9_completed
      rw [mb1.is, qbind, qIf5 hx]
      unfold f_X9_completed_c27
      rw [mb1.told, qbind, FM m', qbind]
    rcases qFr_or A with hf | ⟨t, hf⟩
    · refine qStep.none (r := -1) I0 ?_ ?_
      · unfold f_X8_completed; rw [q.is, qbind, x_empty_no q w hf, qbind, if_pos rfl]
      · rw [MP m, m_full_no m w hf, qbind, if_neg q10]
        by_cases z : nI n < nI A.2.1.1
        · rw [if_pos z]
        · rw [if_neg z]
          cases hd : decide (∀ i, i < A.2.1.1 → A.2.1.2 i < 2 ^ n)
          · rw [qif0]
          · rw [qif1]
    · have XP : f_X8_completed (some 1) (nI n) h = if nI n < nI A.2.1.1 then some ((-1 : Int32), h) else if qB2I (decide (∀ i, i < A.2.1.1 → A.2.1.2 i < 2 ^ n)) = 0 then some ((-1 : Int32), h) else (f_X0_find (some 30) (some 27) (nI A.2.1.1) (nI n) h).bind fun x6 => if x6.1 = 0 then some ((-1 : Int32), x6.2) else (mGR x6.2 (some 1) 7 0).bind fun x7 => (mAR x6.2 x7 (nI t)).bind fun x8 => (mGR x6.2 (some 1) 7 5).bind fun x9 => (mGR x6.2 x9 0 0).bind fun x10 => (f_X7_layRows x8 x10 (nI n) x6.2).bind fun x11 => (mPF x11 (some 1) 7 2 (.int (0 : Int32))).bind fun h12 => some (nI t, h12) := by
        unfold f_X8_completed
        rw [q.is, qbind, x_empty_yes q w hf, qbind, if_neg (qnm1 hf.1), qIf5 hx]
        unfold f_X8_completed_c39
        rw [q.told, qbind, FX, qbind, show mGR h (some 1) 7 5 = some (some 30) from qGR (by rw [q.1]; decide) q.2.1 rfl, qbind, q.toldA, qbind, qbind]
      by_cases hk : n < A.2.1.1
      · refine qStep.none (r := -1) I0 ?_ ?_
        · rw [XP, if_pos (by rw [qlt (by omega) (by omega)]; exact hk)]
        · rw [MP m, if_pos (by rw [qlt (by omega) (by omega)]; exact hk)]
      · rw [if_neg (by rw [qlt (by omega) (by omega)]; exact hk)] at XP
        by_cases hd : ∀ i, i < A.2.1.1 → A.2.1.2 i < 2 ^ n
        · rw [decide_eq_true hd, qif1] at XP
          obtain ⟨⟨b, h1⟩, p1, R1⟩ := x_find hn q w (by omega) hd
          rw [p1, qbind] at XP
          have c31 : ∀ k, qC31 k → qCX k := fun k z => by unfold qC31 at z; unfold qCX; omega
          have E0 : (b = 0) → f_X8_completed (some 1) (nI n) h = some (-1, h1) := fun z => by rw [XP]; dsimp only; rw [if_pos z]
          have C := qCmp hn (show A.2.1.1 ≤ n by omega) hd
          -- the model after the class
          have M : ∀ {h2} (s : qSame qCX h h2) (R : Nat → Nat), (∀ rr, qFnd (qOkc n A.2.1.1) (2 ^ n) (n - A.2.1.1) A.2.1.1 A.2.1.2 = some rr → ∀ i, i < n → rr i = R i) → ∃ r, f_X9_completed (some 51) (nI n) h2 = some r ∧ qMF A n t R h2 r := by
            intro h2 s R hR
            have m1 := m.same s
            obtain ⟨h3, p3, m3, s3, f3, e3, -⟩ := m_clears m1
            obtain ⟨r, r1, r2, r3⟩ := m_completed m3 w hn12 hn0 (by omega) hd e3 hf R hR
            refine ⟨r, ?_, (s3.mono fun k z => by unfold qCM; omega).trans r2, r3⟩
            rw [MP m1, if_neg (by rw [qlt (by omega) (by omega)]; exact hk), decide_eq_true hd, qif1, m_full_yes m1 w hf, qbind, if_pos rfl, p3, qbind, r1]
          rcases R1 with ⟨pf, g31, b1, b2, b3, b4⟩ | ⟨npf, b0, b1, b2⟩
          · have q1 : qX h1 A := b1
            rcases b4 with ⟨b0, rr', r1, r2⟩ | ⟨b0, r1⟩
            · have b0' : b = 1 := b0
              rcases C with ⟨rm, rc, c1, c2, c3⟩ | ⟨c1, c2⟩
              · rw [c2] at r1
                have : rc = rr' := Option.some.inj r1
                subst this
                obtain ⟨h2, h3, p2, p3, q3, s3⟩ := x_laid q1 hf (n := n) (R := rc) b3 hn12 r2
                have E : f_X8_completed (some 1) (nI n) h = some (nI t, h3) := by
                  rw [XP]
                  dsimp only
                  rw [b0', if_neg q10, q1.shelf, qbind, q1.at hf.1, qbind, show mGR h1 (some 1) 7 5 = some (some 30) from qGR (by rw [q1.1]; decide) q1.2.1 rfl, qbind, q1.c30.2.1, qbind, p2, qbind, p3, qbind]
                have s13 : qSame qCX h h3 := (b2.mono c31).trans s3
                obtain ⟨⟨v, h4⟩, e4, s4, M4⟩ := M s13 rc (fun rr z => by rw [c1] at z; rw [← Option.some.inj z]; exact c3)
                rcases M4 with ⟨-, -, v4, m4⟩ | ⟨n4, -, -⟩
                · have v4' : v = nI t := v4
                  rw [v4'] at e4
                  refine qStep.mk E q3 s13 e4 m4 s4 (qWA.tab (A := qTo0 A) ⟨w.1, by show 0 ≤ 28; decide, fun i hi => absurd hi (Nat.not_lt_zero i)⟩ (qNew_w (by omega) fun i hi => ?_))
                  rw [← c3 i hi]
                  obtain ⟨rb, rN⟩ := qFnd_below c1
                  by_cases y : i < A.2.1.1
                  · rw [rb i y]; exact hd i y
                  · exact rN i (by omega) (by omega)
                · exact absurd ⟨pf, rm, c1⟩ n4
              · rw [c2] at r1; cases r1
            · rcases C with ⟨rm, rc, c1, c2, c3⟩ | ⟨c1, c2⟩
              · rw [c2] at r1; cases r1
              · have s13 : qSame qCX h h1 := b2.mono c31
                obtain ⟨⟨v, h4⟩, e4, s4, M4⟩ := M s13 A.2.1.2 (fun rr z => by rw [c1] at z; cases z)
                rcases M4 with ⟨-, ⟨rr, y⟩, -, -⟩ | ⟨-, v4, m4⟩
                · rw [c1] at y; cases y
                · have v4' : v = -1 := v4
                  rw [v4'] at e4
                  exact qStep.mk (E0 b0) q1 s13 e4 m4 s4 w
          · have q1 : qX h1 A := b1
            have s13 : qSame qCX h h1 := b2.mono c31
            obtain ⟨R, hR⟩ : ∃ R : Nat → Nat, ∀ rr, qFnd (qOkc n A.2.1.1) (2 ^ n) (n - A.2.1.1) A.2.1.1 A.2.1.2 = some rr → ∀ i, i < n → rr i = R i := by
              cases hq : qFnd (qOkc n A.2.1.1) (2 ^ n) (n - A.2.1.1) A.2.1.1 A.2.1.2 with
              | none => exact ⟨A.2.1.2, fun rr z => by cases z⟩
              | some r => exact ⟨r, fun rr z i _ => by rw [← Option.some.inj z]⟩
            obtain ⟨⟨v, h4⟩, e4, s4, M4⟩ := M s13 R hR
            rcases M4 with ⟨pf, -, -, -⟩ | ⟨-, v4, m4⟩
            · exact absurd pf npf
            · have v4' : v = -1 := v4
              rw [v4'] at e4
              exact qStep.mk (E0 b0) q1 s13 e4 m4 s4 w
        · rw [decide_eq_false hd, qif0] at XP
          refine qStep.none (r := -1) I0 XP ?_
          rw [MP m, if_neg (by rw [qlt (by omega) (by omega)]; exact hk), decide_eq_false hd, qif0]
  · have em : ∃ z, f_X8_emptyPlace (some 1) h = some z := by
      rcases qFr_or A with hf | ⟨t, hf⟩
      · exact ⟨_, x_empty_no q w hf⟩
      · exact ⟨_, x_empty_yes q w hf⟩
    obtain ⟨z, ez⟩ := em
    refine qStep.none (r := -1) I0 ?_ ?_
    · unfold f_X8_completed
      rw [q.is, qbind, ez, qbind, qIf5n hx]
      by_cases y : z = -1
      · rw [if_pos y]
      · rw [if_neg y]
    · unfold f_X9_completed
      rw [mb.is, qbind, qIf5n hx]
