/-! PURE: completed, the model's search -/
theorem qScan_sk {α : Type} {g : Nat → Option α} {mm : Nat} : ∀ {e tt : Nat}, (∀ s, tt ≤ s → s < tt + e → g s = none) → qScan g (e + mm) tt = qScan g mm (tt + e) := by
  intro e
  induction e with
  | zero => intro tt _; rw [Nat.zero_add, Nat.add_zero]
  | succ e ih =>
    intro tt h
    rw [show e + 1 + mm = (e + mm) + 1 by omega, qScan_n (h tt (Nat.le_refl tt) (by omega)), ih fun s h1 h2 => h s (by omega) (by omega), show tt + 1 + e = tt + (e + 1) by omega]
theorem qOkc_fit {n k0 k t : Nat} {c : Nat → Nat} (h : k ≤ k0 ∨ c (k - 1) < t) : qOkc n k0 (va_up c k t) k = decide (∀ i, i < k → qPe n (c i) t = true) := by
  unfold qOkc
  rw [qVs]
  have e1 : (decide (k ≤ k0) || decide (va_up c k t (k - 1) < t)) = true := by
    rw [Bool.or_eq_true, decide_eq_true_eq, decide_eq_true_eq]
    by_cases z : k ≤ k0
    · exact Or.inl z
    · right; rw [qVn (by omega)]; exact h.resolve_left z
  rw [e1, Bool.true_and, decide_eq_decide]
  constructor <;> intro z i hi <;> have := z i hi
  · rw [qVn (by omega)] at this; exact this
  · rw [qVn (by omega)]; exact this
def qGc (n k0 d k : Nat) (c : Nat → Nat) (t : Nat) : Option (Nat → Nat) := if qOkc n k0 (va_up c k t) k then qFnd (qOkc n k0) (2 ^ n) d (k + 1) (va_up c k t) else none
section QMC
variable {A : qA} {n : Nat}
theorem m_isMadeFit {h : mH} (m : qM h A) {f : Nat → Int32} (e58 : h.2 58 = .inl (28, .inl f)) {c : Nat → Nat} {k : Nat} (hk : k < 28) (hn : n ≤ 28) (u : ∀ i, i ≤ k → f i = nI (c i) ∧ c i < 2 ^ 28) : f_X9_isMadeFit (some 51) (nI k) (nI n) h = some (qB2I (decide (∀ i, i < k → qPe n (c i) (c k) = true))) := by
  obtain ⟨w1, w2⟩ := u k (Nat.le_refl k)
  have B : ∀ j, j < k → f_X9_isMadeFit_b2 (some 51) (nI k) (nI n) (nI j) h = if qPe n (c j) (c k) = true then some (.inl (nI (j + 1))) else some (.inr 0) := by
    intro j hj
    obtain ⟨u1, u2⟩ := u j (by omega)
    have hx : c j ^^^ c k < 2 ^ 28 := Nat.xor_lt_two_pow u2 w2
    unfold f_X9_isMadeFit_b2
    rw [if_neg (by rw [qle (by omega) (by omega)]; omega), m.made, qbind, m.atW e58 (by decide) (by decide) (by omega), qbind, qbind, m.atW e58 (by decide) (by decide) (by omega), qbind, u1, w1, m_sumOf (by omega), qbind, nI_1]
    by_cases z : qPe n (c j) (c k) = true
    · rw [if_pos ((qPe_I hn).mpr z), if_pos z]
    · rw [if_neg (fun y => z ((qPe_I hn).mp y)), if_neg z]
  have L : ∀ j r, (∀ i, i < j → i < k ∧ qPe n (c i) (c k) = true) → f_X9_isMadeFit_b2 (some 51) (nI k) (nI n) (nI j) h = some (.inr r) → f_X9_isMadeFit (some 51) (nI k) (nI n) h = some r := by
    intro j r hall he
    unfold f_X9_isMadeFit f_X9_isMadeFit_l2
    rw [m.is, qbind]
    have R := mLoop_inv (b := fun x : Int32 => f_X9_isMadeFit_b2 (some 51) (nI k) (nI n) x h) (fun k (s : Int32) => s = nI k) j (fun z => z = r) (s0 := nI 0) rfl ?_ ?_
    · obtain ⟨z, h1, rfl⟩ := R
      exact h1
    · rintro i s hi rfl
      refine ⟨nI (i + 1), ?_, rfl⟩
      show f_X9_isMadeFit_b2 (some 51) (nI k) (nI n) (nI i) h = _
      rw [B i (hall i hi).1, if_pos (hall i hi).2]
    · rintro s rfl
      exact ⟨r, he, rfl⟩
  rcases qLeast (fun i => qPe n (c i) (c k) = true) k with h1 | ⟨j, hj, h1, h2⟩
  · rw [decide_eq_true h1]
    refine L k _ (fun i hi => ⟨hi, h1 i hi⟩) ?_
    unfold f_X9_isMadeFit_b2
    rw [if_pos (by rw [qle (by omega) (by omega)]; omega)]; rfl
  · rw [decide_eq_false (fun z => h1 (z j hj))]
    refine L j _ (fun i hi => ⟨by omega, h2 i hi⟩) ?_
    rw [B j hj, if_neg h1]; rfl
/-- the next word that fits -/
theorem m_l37 {c : Nat → Nat} {k : Nat} (hk : k < n) (hn : n ≤ 12) (uc : ∀ i, i < k → c i < 2 ^ n) : ∀ (mm tt : Nat) (h : mH) (f : Nat → Int32), tt + mm = 2 ^ n → qM h A → h.2 58 = .inl (28, .inl f) → (∀ i, i < k → f i = nI (c i)) → f k = nI tt → ∃ t h' f', tt ≤ t ∧ t ≤ 2 ^ n ∧ (∀ s, tt ≤ s → s < t → decide (∀ i, i < k → qPe n (c i) s = true) = false) ∧ (t < 2 ^ n → decide (∀ i, i < k → qPe n (c i) t = true) = true) ∧ f_X9_completes_l37 (some 51) (nI n) (nI k) h = f_X9_completes_c71 (some 51) (nI n) (nI k) h' ∧ qM h' A ∧ qSame (fun z => z = 58) h h' ∧ h'.2 58 = .inl (28, .inl f') ∧ (∀ i, i < k → f' i = nI (c i)) ∧ f' k = nI t := by
  have p12 : 2 ^ n ≤ 2 ^ 12 := Nat.pow_le_pow_right (by decide) hn
  have STOP : ∀ h1, f_X9_completes_b37 (some 51) (nI n) (nI k) h1 = (f_X9_completes_c71 (some 51) (nI n) (nI k) h1).map (fun r => (Sum.inr r)) → f_X9_completes_l37 (some 51) (nI n) (nI k) h1 = f_X9_completes_c71 (some 51) (nI n) (nI k) h1 := by
    intro h1 E
    unfold f_X9_completes_l37
    rw [mLoop_eq]
    show (f_X9_completes_b37 (some 51) (nI n) (nI k) h1).bind _ = _
    rw [E]
    cases f_X9_completes_c71 (some 51) (nI n) (nI k) h1 <;> rfl
  intro mm
  induction mm with
  | zero =>
    intro tt h f ht m e58 u fk
    refine ⟨tt, h, f, Nat.le_refl _, by omega, fun s h1 h2 => absurd h2 (by omega), fun z => absurd z (by omega), STOP h ?_, m, qSame.rf, e58, u, fk⟩
    unfold f_X9_completes_b37
    rw [m.made, qbind, m.atW e58 (by decide) (by decide) (by omega), qbind, fk, qI_pow (by omega), if_pos (by rw [qle (by omega) (by omega)]; omega)]
  | succ mm ih =>
    intro tt h f ht m e58 u fk
    have P := m_isMadeFit m e58 (c := va_up c k tt) (k := k) (n := n) (by omega) (by omega) (fun i hi => by
      by_cases z : i = k
      · rw [z, qVs]; exact ⟨fk, by omega⟩
      · rw [qVn z]; exact ⟨u i (by omega), by have := uc i (by omega); omega⟩)
    have P2 : decide (∀ i, i < k → qPe n (va_up c k tt i) (va_up c k tt k) = true) = decide (∀ i, i < k → qPe n (c i) tt = true) := by
      rw [qVs, decide_eq_decide]
      constructor <;> intro z i hi <;> have := z i hi
      · rw [qVn (by omega)] at this; exact this
      · rw [qVn (by omega)]; exact this
    rw [P2] at P
    have PRE : f_X9_completes_b37 (some 51) (nI n) (nI k) h = if qB2I (decide (∀ i, i < k → qPe n (c i) tt = true)) = 0 then (mSI h (some 58) (nI k) (nI (tt + 1))).bind fun h8 => some (Sum.inl h8) else (f_X9_completes_c71 (some 51) (nI n) (nI k) h).map (fun r => (Sum.inr r)) := by
      unfold f_X9_completes_b37
      rw [m.made, qbind, m.atW e58 (by decide) (by decide) (by omega), qbind, fk, qI_pow (by omega), if_neg (by rw [qle (by omega) (by omega)]; omega), P, qbind, qbind, m.atW e58 (by decide) (by decide) (by omega), qbind, fk, nI_1]
    cases hd : decide (∀ i, i < k → qPe n (c i) tt = true)
    · obtain ⟨h8, p8, m8, e8, s8⟩ := m_stW m qMf58 e58 (i := k) (by omega) (nI (tt + 1))
      obtain ⟨t, h', f', a1, a2, a3, a4, a5, a6, a7, a8, a9, b1⟩ := ih (tt + 1) h8 _ (by omega) m8 e8 (fun i hi => by rw [qUpn (by omega)]; exact u i hi) (by rw [qUps])
      refine ⟨t, h', f', by omega, a2, fun s h1 h2 => ?_, a4, ?_, a6, s8.trans a7, a8, a9, b1⟩
      · by_cases z : s = tt
        · rw [z]; exact hd
        · exact a3 s (by omega) h2
      · rw [← a5]
        unfold f_X9_completes_l37
        refine mLoop_inl ?_
        show f_X9_completes_b37 (some 51) (nI n) (nI k) h = _
        rw [PRE, hd, qif0, p8, qbind]
    · refine ⟨tt, h, f, Nat.le_refl _, by omega, fun s h1 h2 => absurd h2 (by omega), fun _ => hd, STOP h ?_, m, qSame.rf, e58, u, fk⟩
      rw [PRE, hd, qif1]
def qLvc (A : qA) (n d k : Nat) (c : Nat → Nat) (mm tt : Nat) (h : mH) : Prop :=
  (∃ r h' f, qScan (qGc n A.2.1.1 d k c) mm tt = some r ∧ f_X9_completes_l19 (some 51) (nI n) (nI k) h = some (1, h') ∧ qM h' A ∧ qSame (fun z => z = 58) h h' ∧ h'.2 58 = .inl (28, .inl f) ∧ ∀ e, e < n → f e = nI (r e)) ∨
  (∃ h' f, qScan (qGc n A.2.1.1 d k c) mm tt = none ∧ f_X9_completes_l19 (some 51) (nI n) (nI k) h = f_X9_completes_l19 (some 51) (nI n) (nI k + -1) h' ∧ qM h' A ∧ qSame (fun z => z = 58) h h' ∧ h'.2 58 = .inl (28, .inl f) ∧ ∀ e, e < k → f e = nI (c e))
theorem m_lvl (hn : n ≤ 12) : ∀ (d k : Nat) (c : Nat → Nat), k + d + 1 = n → A.2.1.1 ≤ k → (∀ i, i < k → c i < 2 ^ n) → ∀ (mm tt : Nat) (h : mH) (f : Nat → Int32), tt + mm = 2 ^ n → (k ≤ A.2.1.1 ∨ c (k - 1) < tt) → qM h A → h.2 58 = .inl (28, .inl f) → (∀ e, e < k → f e = nI (c e)) → f k = nI tt - 1 → qLvc A n d k c mm tt h := by
  have p12 : 2 ^ n ≤ 2 ^ 12 := Nat.pow_le_pow_right (by decide) hn
  intro d
  induction d with
  | zero =>
    intro k c hk hk0 uc mm tt h f ht hst m e58 u fk
    obtain ⟨x0, y0, fo, fr, ff, fg, fw, mb, hm⟩ := m.b
    obtain ⟨h4, p4, m4, e4, s4⟩ := m_stW m qMf58 e58 (i := k) (by omega) (nI tt)
    obtain ⟨t, h', f', a1, a2, a3, a4, a5, a6, a7, a8, a9, b1⟩ := m_l37 (k := k) (n := n) (by omega) hn uc mm tt h4 _ ht m4 e4 (fun i hi => by rw [qUpn (by omega)]; exact u i hi) (by rw [qUps])
    have PRE : f_X9_completes_b19 (some 51) (nI n) (nI k) h = f_X9_completes_c71 (some 51) (nI n) (nI k) h' := by
      unfold f_X9_completes_b19
      rw [mb.told, qbind, if_neg (by rw [qlt (by omega) (by omega)]; omega), m.made, qbind, m.atW e58 (by decide) (by decide) (by omega), qbind, fk, Int32.sub_add_cancel, p4, qbind, a5]
    have sk : ∀ s, tt ≤ s → s < tt + (t - tt) → qGc n A.2.1.1 0 k c s = none := fun s h1 h2 => by
      unfold qGc
      rw [qOkc_fit (by omega), a3 s h1 (by omega)]; rfl
    have em : mm = (t - tt) + (2 ^ n - t) := by omega
    unfold qLvc
    rw [em, qScan_sk sk, show tt + (t - tt) = t by omega]
    by_cases z : t = 2 ^ n
    · right
      refine ⟨h', f', by rw [show 2 ^ n - t = 0 by omega]; rfl, ?_, a6, s4.trans a7, a8, a9⟩
      unfold f_X9_completes_l19
      refine mLoop_inl (x := (nI k, h)) ?_
      show f_X9_completes_b19 (some 51) (nI n) (nI k) h = _
      rw [PRE]
      unfold f_X9_completes_c71
      rw [a6.made, qbind, a6.atW a8 (by decide) (by decide) (by omega), qbind, b1, qI_pow (by omega), if_pos (by rw [z])]
    · left
      have hok := a4 (by omega)
      refine ⟨va_up c k t, h', f', ?_, ?_, a6, s4.trans a7, a8, fun e he => ?_⟩
      · rw [show 2 ^ n - t = (2 ^ n - t - 1) + 1 by omega]
        refine qScan_y ?_
        unfold qGc
        rw [qOkc_fit (by omega), hok, if_pos rfl]; rfl
      · unfold f_X9_completes_l19
        refine mLoop_inr (x := (nI k, h)) ?_
        show f_X9_completes_b19 (some 51) (nI n) (nI k) h = _
        rw [PRE]
        unfold f_X9_completes_c71
        rw [a6.made, qbind, a6.atW a8 (by decide) (by decide) (by omega), qbind, b1, qI_pow (by omega), if_neg (by rw [qeq (by omega) (by omega)]; exact z), qI_m1 (by omega), if_pos (by rw [show k = n - 1 by omega])]
      · by_cases y : e = k
        · rw [y, qVs]; exact b1
        · rw [qVn y]; exact a9 e (by omega)
  | succ d ihd =>
    intro k c hk hk0 uc mm
    induction mm using Nat.strongRecOn with
    | ind mm ihm =>
    intro tt h f ht hst m e58 u fk
    obtain ⟨x0, y0, fo, fr, ff, fg, fw, mb, hm⟩ := m.b
    obtain ⟨h4, p4, m4, e4, s4⟩ := m_stW m qMf58 e58 (i := k) (by omega) (nI tt)
    obtain ⟨t, h', f', a1, a2, a3, a4, a5, a6, a7, a8, a9, b1⟩ := m_l37 (k := k) (n := n) (by omega) hn uc mm tt h4 _ ht m4 e4 (fun i hi => by rw [qUpn (by omega)]; exact u i hi) (by rw [qUps])
    have PRE : f_X9_completes_b19 (some 51) (nI n) (nI k) h = f_X9_completes_c71 (some 51) (nI n) (nI k) h' := by
      unfold f_X9_completes_b19
      rw [mb.told, qbind, if_neg (by rw [qlt (by omega) (by omega)]; omega), m.made, qbind, m.atW e58 (by decide) (by decide) (by omega), qbind, fk, Int32.sub_add_cancel, p4, qbind, a5]
    have sk : ∀ s, tt ≤ s → s < tt + (t - tt) → qGc n A.2.1.1 (d + 1) k c s = none := fun s h1 h2 => by
      unfold qGc
      rw [qOkc_fit (by omega), a3 s h1 (by omega)]; rfl
    have em : mm = (t - tt) + (2 ^ n - t) := by omega
    unfold qLvc
    rw [em, qScan_sk sk, show tt + (t - tt) = t by omega]
    by_cases z : t = 2 ^ n
    · right
      refine ⟨h', f', by rw [show 2 ^ n - t = 0 by omega]; rfl, ?_, a6, s4.trans a7, a8, a9⟩
      unfold f_X9_completes_l19
      refine mLoop_inl (x := (nI k, h)) ?_
      show f_X9_completes_b19 (some 51) (nI n) (nI k) h = _
      rw [PRE]
      unfold f_X9_completes_c71
      rw [a6.made, qbind, a6.atW a8 (by decide) (by decide) (by omega), qbind, b1, qI_pow (by omega), if_pos (by rw [z])]
    · have hok := a4 (by omega)
      obtain ⟨h6, p6, m6, e6, s6⟩ := m_stW a6 qMf58 a8 (i := k + 1) (by omega) (nI t)
      have E : f_X9_completes_l19 (some 51) (nI n) (nI k) h = f_X9_completes_l19 (some 51) (nI n) (nI (k + 1)) h6 := by
        unfold f_X9_completes_l19
        refine mLoop_inl (x := (nI k, h)) ?_
        show f_X9_completes_b19 (some 51) (nI n) (nI k) h = _
        rw [PRE]
        unfold f_X9_completes_c71
        rw [a6.made, qbind, a6.atW a8 (by decide) (by decide) (by omega), qbind, b1, qI_pow (by omega), if_neg (by rw [qeq (by omega) (by omega)]; exact z), qI_m1 (by omega), if_neg (by rw [qeq (by omega) (by omega)]; omega), qbind, qbind, nI_1, qI_m1 (by omega), Nat.add_sub_cancel, a6.atW a8 (by decide) (by decide) (by omega), qbind, b1, p6, qbind]
      have ss : qSame (fun z => z = 58) h h6 := (s4.trans a7).trans s6
      have I := ihd (k + 1) (va_up c k t) (by omega) (by omega) (fun i hi => by
        by_cases y : i = k
        · rw [y, qVs]; omega
        · rw [qVn y]; exact uc i (by omega)) (2 ^ n - (t + 1)) (t + 1) h6 _ (by omega) (Or.inr (by rw [Nat.add_sub_cancel, qVs]; omega)) m6 e6 (fun e he => by
        rw [qUpn (by omega)]
        by_cases y : e = k
        · rw [y, qVs]; exact b1
        · rw [qVn y]; exact a9 e (by omega)) (by rw [qUps, qI_m1 (by omega), Nat.add_sub_cancel])
      have inner : qScan (qGc n A.2.1.1 d (k + 1) (va_up c k t)) (2 ^ n - (t + 1)) (t + 1) = qGc n A.2.1.1 (d + 1) k c t := by
        unfold qGc
        rw [qOkc_fit (k := k) (by omega), hok, if_pos rfl]
        show _ = qScan (qGc n A.2.1.1 d (k + 1) (va_up c k t)) (2 ^ n) 0
        have hsk : ∀ s, 0 ≤ s → s < 0 + (t + 1) → qGc n A.2.1.1 d (k + 1) (va_up c k t) s = none := by
          intro s _ h2
          unfold qGc
          have : qOkc n A.2.1.1 (va_up (va_up c k t) (k + 1) s) (k + 1) = false := by
            unfold qOkc
            rw [decide_eq_false (show ¬ k + 1 ≤ A.2.1.1 by omega), Bool.false_or, qVs, Nat.add_sub_cancel, qVn (by omega), qVs, decide_eq_false (by omega), Bool.false_and]
          rw [this]; rfl
        have := qScan_sk (mm := 2 ^ n - (t + 1)) hsk
        rw [show t + 1 + (2 ^ n - (t + 1)) = 2 ^ n by omega, Nat.zero_add] at this
        exact this.symm
      unfold qLvc at I
      rw [inner] at I
      rcases I with ⟨r, h2, f2, i1, i2, i3, i4, i5, i6⟩ | ⟨h2, f2, i1, i2, i3, i4, i5, i6⟩
      · left
        refine ⟨r, h2, f2, ?_, E.trans i2, i3, ss.trans i4, i5, i6⟩
        rw [show 2 ^ n - t = (2 ^ n - t - 1) + 1 by omega]
        exact qScan_y i1
      · have fk2 : f2 k = nI (t + 1) - 1 := by rw [i6 k (by omega), qVs, qI_m1 (by omega), Nat.add_sub_cancel]
        have J := ihm (2 ^ n - (t + 1)) (by omega) (t + 1) h2 f2 (by omega) (by omega) i3 i5 (fun e he => by rw [i6 e (by omega), qVn (by omega)]) fk2
        rw [show 2 ^ n - t = (2 ^ n - (t + 1)) + 1 by omega, qScan_n i1]
        have E2 : f_X9_completes_l19 (some 51) (nI n) (nI k) h = f_X9_completes_l19 (some 51) (nI n) (nI k) h2 := by
          have e5 : nI (k + 1) + -1 = nI k := by rw [← nI_1, Int32.add_assoc]; exact Int32.add_zero _
          rw [E, i2, e5]
        rw [E2]
        unfold qLvc at J
        rcases J with ⟨r, h3, f3, j1, j2, j3, j4, j5, j6⟩ | ⟨h3, f3, j1, j2, j3, j4, j5, j6⟩
        · exact Or.inl ⟨r, h3, f3, j1, j2, j3, (ss.trans i4).trans j4, j5, j6⟩
        · exact Or.inr ⟨h3, f3, j1, j2, j3, (ss.trans i4).trans j4, j5, j6⟩
end QMC
