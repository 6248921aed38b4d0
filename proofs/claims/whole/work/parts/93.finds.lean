/-! PURE: the model's search for a witness -/
def qC67 (k : Nat) : Prop := k = 67 ∨ (69 ≤ k ∧ k ≤ 70)
def qVk (h : mH) (n : Nat) (R S c : Nat → Nat) (k : Nat) : Prop := ∃ f67 f69 f70, qVh h f67 f69 f70 ∧ (∀ e, e < k → f67 e = nI (c e)) ∧ ∀ k', k' ≤ k → qHv n R S c f69 f70 k'
theorem qHv.congr {n : Nat} {R S c c' : Nat → Nat} {f69 f70 : Nat → Int32} {k : Nat} (l : qHv n R S c f69 f70 k) (h : ∀ e, e < k → c' e = c e) : qHv n R S c' f69 f70 k := by
  intro j hj
  obtain ⟨a, b⟩ := qHd_congr n R S h j
  rw [a, b]
  exact l j hj
theorem qHv.same {n : Nat} {R S c : Nat → Nat} {f69 f70 g69 g70 : Nat → Int32} {k : Nat} (l : qHv n R S c f69 f70 k) (hn : n ≤ 12) (h : ∀ p, p < 12 * (k + 1) → g69 p = f69 p ∧ g70 p = f70 p) : qHv n R S c g69 g70 k := by
  intro j hj
  obtain ⟨a, b⟩ := h (12 * k + j) (by omega)
  rw [a, b]
  exact l j hj
theorem qScan_n {α : Type} {g : Nat → Option α} {m t : Nat} (h : g t = none) : qScan g (m + 1) t = qScan g m (t + 1) := by
  conv => lhs; unfold qScan
  rw [h]
theorem qScan_y {α : Type} {g : Nat → Option α} {m t : Nat} {r : α} (h : g t = some r) : qScan g (m + 1) t = some r := by
  unfold qScan
  rw [h]
def qLev (A : qA) (t u n fx : Nat) (R S : Nat → Nat) (d k : Nat) (c : Nat → Nat) (mm tt : Nat) (h : mH) : Prop :=
    (∃ r h', qScan (fun t => if qOkm n R S (va_up c k t) k then qFnd (qOkm n R S) (2 * n) d (k + 1) (va_up c k t) else none) mm tt = some r ∧ mLoop (fun x : Int32 × mH => f_X9_finds_b95 (some 51) (nI t) (nI u) (nI fx) (nI n) x.1 x.2) (nI k, h) = mLoop (fun x : Int32 × mH => f_X9_finds_b95 (some 51) (nI t) (nI u) (nI fx) (nI n) x.1 x.2) (nI n, h') ∧ qM h' A ∧ qSame qC67 h h' ∧ qVk h' n R S r n) ∨
    (∃ h', qScan (fun t => if qOkm n R S (va_up c k t) k then qFnd (qOkm n R S) (2 * n) d (k + 1) (va_up c k t) else none) mm tt = none ∧ mLoop (fun x : Int32 × mH => f_X9_finds_b95 (some 51) (nI t) (nI u) (nI fx) (nI n) x.1 x.2) (nI k, h) = mLoop (fun x : Int32 × mH => f_X9_finds_b95 (some 51) (nI t) (nI u) (nI fx) (nI n) x.1 x.2) (nI k + -1, h') ∧ qM h' A ∧ qSame qC67 h h' ∧ qVk h' n R S c k)
section QFN
variable {A : qA} {t u n fx : Nat} {R S : Nat → Nat}
theorem m_level (w : qWA A) (h6 : t < 6) (h6' : u < 6) (ht : (A.1 t).1 = n) (hu : (A.1 u).1 = n) (hR : (A.1 t).2.1 = R) (hS : (A.1 u).2.1 = S) (hn : n ≤ 12) : ∀ (d k : Nat) (c : Nat → Nat) (mm tt : Nat) (h : mH) (f67 f69 f70 : Nat → Int32), k + d + 1 = n → fx ≤ k → tt + mm = 2 * n → qM h A → qVh h f67 f69 f70 → (∀ e, e < k → f67 e = nI (c e) ∧ c e < 2 * n) → f67 k = nI tt - 1 → (∀ k', k' ≤ k → qHv n R S c f69 f70 k') →
    qLev A t u n fx R S d k c mm tt h := by
  intro d
  induction d with
  | zero =>
    intro k c mm
    induction mm with
    | zero =>
      intro tt h f67 f69 f70 hk hfx htt m v e67 ek L
      unfold qLev
      right
      obtain ⟨h1, p1, m1, v1, s1⟩ := m_st67 m v (i := k) (by omega) (nI tt)
      refine ⟨h1, rfl, ?_, m1, s1.mono fun k z => Or.inl z, ⟨_, _, _, v1, fun e he => by rw [qUpn (by omega)]; exact (e67 e he).1, L⟩⟩
      refine mLoop_inl ?_
      show f_X9_finds_b95 (some 51) (nI t) (nI u) (nI fx) (nI n) (nI k) h = _
      unfold f_X9_finds_b95
      rw [if_neg (by rw [qlt (by omega) (by omega)]; omega), if_neg (by rw [qle (by omega) (by omega)]; omega), m.g67.1, qbind, m.atW v.1 (by decide) (by decide) (by omega), qbind, ek, Int32.sub_add_cancel, p1, qbind, m1.g67.1, qbind, m1.atW v1.1 (by decide) (by decide) (by omega), qbind, qUps, if_pos (by rw [qL2, qI_mul, show tt = 2 * n by omega])]
    | succ mm ihm =>
      intro tt h f67 f69 f70 hk hfx htt m v e67 ek L
      obtain ⟨h1, p1, m1, v1, s1⟩ := m_st67 m v (i := k) (by omega) (nI tt)
      have e67b : ∀ e, e ≤ k → upd f67 k (nI tt) e = nI (va_up c k tt e) ∧ va_up c k tt e < 24 := by
        intro e he
        by_cases z : e = k
        · rw [z, qUps, qVs]; exact ⟨rfl, by omega⟩
        · rw [qUpn z, qVn z]; obtain ⟨a, b⟩ := e67 e (by omega); exact ⟨a, by omega⟩
      have us := m_isUsed m1 v1 (k := k) (by omega) e67b
      have PRE : f_X9_finds_b95 (some 51) (nI t) (nI u) (nI fx) (nI n) (nI k) h = (f_X9_isUsed (some 51) (nI k) h1).bind fun x8 => if x8 = 0 then (f_X9_agrees (some 51) (nI t) (nI u) (nI k) h1).bind fun x9 => if x9.1 = 0 then some (Sum.inl (nI k, x9.2)) else if nI n ≤ nI k + 1 then some (Sum.inl (nI k + 1, x9.2)) else (mGR x9.2 (some 51) 8 19).bind fun x10 => (mSI x9.2 x10 (nI k + 1) (-1 : Int32)).bind fun h11 => some (Sum.inl (nI k + 1, h11)) else some (Sum.inl (nI k, h1)) := by
        unfold f_X9_finds_b95
        rw [if_neg (by rw [qlt (by omega) (by omega)]; omega), if_neg (by rw [qle (by omega) (by omega)]; omega), m.g67.1, qbind, m.atW v.1 (by decide) (by decide) (by omega), qbind, ek, Int32.sub_add_cancel, p1, qbind, m1.g67.1, qbind, m1.atW v1.1 (by decide) (by decide) (by omega), qbind, qUps, if_neg (by rw [qL2, qI_mul, qeq (by omega) (by omega)]; omega)]
      have next : nI tt = nI (tt + 1) - 1 := by rw [← nI_1, Int32.add_sub_cancel]
      have below : ∀ e, e < k → va_up c k tt e = c e := fun e he => qVn (by omega)
      rw [us, qbind] at PRE
      -- another code at this level
      have again : ∀ (h2 : mH) (g69 g70 : Nat → Int32), qM h2 A → qVh h2 (upd f67 k (nI tt)) g69 g70 → qSame qC67 h h2 → (∀ k', k' ≤ k → qHv n R S c g69 g70 k') → (if qOkm n R S (va_up c k tt) k then qFnd (qOkm n R S) (2 * n) 0 (k + 1) (va_up c k tt) else none) = none → f_X9_finds_b95 (some 51) (nI t) (nI u) (nI fx) (nI n) (nI k) h = some (.inl (nI k, h2)) → qLev A t u n fx R S 0 k c (mm + 1) tt h := by
        intro h2 g69 g70 m2 v2 s2 L2 hg E
        have I := ihm (tt + 1) h2 (upd f67 k (nI tt)) g69 g70 hk hfx (by omega) m2 v2 (fun e he => by rw [qUpn (by omega)]; exact e67 e he) (by rw [qUps]; exact next) L2
        unfold qLev at I ⊢
        have hg' : (fun t => if qOkm n R S (va_up c k t) k then qFnd (qOkm n R S) (2 * n) 0 (k + 1) (va_up c k t) else none) tt = none := hg
        rw [qScan_n hg']
        rw [mLoop_inl (b := fun x : Int32 × mH => f_X9_finds_b95 (some 51) (nI t) (nI u) (nI fx) (nI n) x.1 x.2) (x := (nI k, h)) E]
        rcases I with ⟨r, h', i1, i2, i3, i4, i5⟩ | ⟨h', i1, i2, i3, i4, i5⟩
        · exact Or.inl ⟨r, h', i1, i2, i3, s2.trans i4, i5⟩
        · exact Or.inr ⟨h', i1, i2, i3, s2.trans i4, i5⟩
      cases hf : qFrs (va_up c k tt) k
      · rw [hf] at PRE
        refine again h1 f69 f70 m1 v1 (s1.mono fun k z => Or.inl z) L (by unfold qOkm; rw [hf]; rfl) ?_
        rw [PRE, Bool.not_false, qif1]
      · rw [hf, Bool.not_true, qif0] at PRE
        obtain ⟨h2, g69, g70, p2, m2, v2, s2, k2, L2⟩ := m_agrees m1 w h6 h6' ht hu hR hS hn v1 (c := va_up c k tt) (k := k) (by omega) (e67b k (Nat.le_refl k)).1 (by rw [qVs]; omega) ((L k (Nat.le_refl k)).congr below)
        rw [p2, qbind] at PRE
        have LL : ∀ k', k' ≤ k → qHv n R S c g69 g70 k' := fun k' hk' => (L k' hk').same hn fun p hp => k2 p (by omega)
        have ss : qSame qC67 h h2 := (s1.mono fun k z => Or.inl z).trans (s2.mono fun k z => Or.inr z)
        cases ha : qAg n R S (va_up c k tt) (k + 1)
        · refine again h2 g69 g70 m2 v2 ss LL (by unfold qOkm; rw [ha, Bool.and_false]; rfl) ?_
          rw [PRE]
          show (if qB2I (qAg n R S (va_up c k tt) (k + 1)) = 0 then _ else _) = _
          rw [ha, qif0]
        · unfold qLev
          left
          refine ⟨va_up c k tt, h2, ?_, ?_, m2, ss, ?_⟩
          · have : qOkm n R S (va_up c k tt) k = true := by unfold qOkm; rw [hf, ha]; rfl
            refine qScan_y ?_
            show (if qOkm n R S (va_up c k tt) k then qFnd (qOkm n R S) (2 * n) 0 (k + 1) (va_up c k tt) else none) = _
            rw [this, if_pos rfl]
            rfl
          · refine mLoop_inl ?_
            show f_X9_finds_b95 (some 51) (nI t) (nI u) (nI fx) (nI n) (nI k) h = _
            rw [PRE]
            show (if qB2I (qAg n R S (va_up c k tt) (k + 1)) = 0 then _ else _) = _
            rw [ha, qif1, nI_1, if_pos (by rw [qle (by omega) (by omega)]; omega), show k + 1 = n by omega]
          · refine ⟨_, g69, g70, v2, fun e he => (e67b e (by omega)).1, fun k' hk' => ?_⟩
            by_cases z : k' = k + 1
            · rw [z]; exact L2
            · exact (LL k' (by omega)).congr fun e he => qVn (by omega)
  | succ d ihd =>
    intro k c mm
    induction mm with
    | zero =>
      intro tt h f67 f69 f70 hk hfx htt m v e67 ek L
      unfold qLev
      right
      obtain ⟨h1, p1, m1, v1, s1⟩ := m_st67 m v (i := k) (by omega) (nI tt)
      refine ⟨h1, rfl, ?_, m1, s1.mono fun k z => Or.inl z, ⟨_, _, _, v1, fun e he => by rw [qUpn (by omega)]; exact (e67 e he).1, L⟩⟩
      refine mLoop_inl ?_
      show f_X9_finds_b95 (some 51) (nI t) (nI u) (nI fx) (nI n) (nI k) h = _
      unfold f_X9_finds_b95
      rw [if_neg (by rw [qlt (by omega) (by omega)]; omega), if_neg (by rw [qle (by omega) (by omega)]; omega), m.g67.1, qbind, m.atW v.1 (by decide) (by decide) (by omega), qbind, ek, Int32.sub_add_cancel, p1, qbind, m1.g67.1, qbind, m1.atW v1.1 (by decide) (by decide) (by omega), qbind, qUps, if_pos (by rw [qL2, qI_mul, show tt = 2 * n by omega])]
    | succ mm ihm =>
      intro tt h f67 f69 f70 hk hfx htt m v e67 ek L
      obtain ⟨h1, p1, m1, v1, s1⟩ := m_st67 m v (i := k) (by omega) (nI tt)
      have e67b : ∀ e, e ≤ k → upd f67 k (nI tt) e = nI (va_up c k tt e) ∧ va_up c k tt e < 24 := by
        intro e he
        by_cases z : e = k
        · rw [z, qUps, qVs]; exact ⟨rfl, by omega⟩
        · rw [qUpn z, qVn z]; obtain ⟨a, b⟩ := e67 e (by omega); exact ⟨a, by omega⟩
      have us := m_isUsed m1 v1 (k := k) (by omega) e67b
      have PRE : f_X9_finds_b95 (some 51) (nI t) (nI u) (nI fx) (nI n) (nI k) h = (f_X9_isUsed (some 51) (nI k) h1).bind fun x8 => if x8 = 0 then (f_X9_agrees (some 51) (nI t) (nI u) (nI k) h1).bind fun x9 => if x9.1 = 0 then some (Sum.inl (nI k, x9.2)) else if nI n ≤ nI k + 1 then some (Sum.inl (nI k + 1, x9.2)) else (mGR x9.2 (some 51) 8 19).bind fun x10 => (mSI x9.2 x10 (nI k + 1) (-1 : Int32)).bind fun h11 => some (Sum.inl (nI k + 1, h11)) else some (Sum.inl (nI k, h1)) := by
        unfold f_X9_finds_b95
        rw [if_neg (by rw [qlt (by omega) (by omega)]; omega), if_neg (by rw [qle (by omega) (by omega)]; omega), m.g67.1, qbind, m.atW v.1 (by decide) (by decide) (by omega), qbind, ek, Int32.sub_add_cancel, p1, qbind, m1.g67.1, qbind, m1.atW v1.1 (by decide) (by decide) (by omega), qbind, qUps, if_neg (by rw [qL2, qI_mul, qeq (by omega) (by omega)]; omega)]
      have next : nI tt = nI (tt + 1) - 1 := by rw [← nI_1, Int32.add_sub_cancel]
      have below : ∀ e, e < k → va_up c k tt e = c e := fun e he => qVn (by omega)
      rw [us, qbind] at PRE
      have again : ∀ (h2 : mH) (f67' g69 g70 : Nat → Int32), qM h2 A → qVh h2 f67' g69 g70 → (∀ e, e ≤ k → f67' e = upd f67 k (nI tt) e) → qSame qC67 h h2 → (∀ k', k' ≤ k → qHv n R S c g69 g70 k') → (if qOkm n R S (va_up c k tt) k then qFnd (qOkm n R S) (2 * n) (d + 1) (k + 1) (va_up c k tt) else none) = none → mLoop (fun x : Int32 × mH => f_X9_finds_b95 (some 51) (nI t) (nI u) (nI fx) (nI n) x.1 x.2) (nI k, h) = mLoop (fun x : Int32 × mH => f_X9_finds_b95 (some 51) (nI t) (nI u) (nI fx) (nI n) x.1 x.2) (nI k, h2) → qLev A t u n fx R S (d + 1) k c (mm + 1) tt h := by
        intro h2 f67' g69 g70 m2 v2 ef s2 L2 hg E
        have I := ihm (tt + 1) h2 f67' g69 g70 hk hfx (by omega) m2 v2 (fun e he => by rw [ef e (by omega), qUpn (by omega)]; exact e67 e he) (by rw [ef k (Nat.le_refl k), qUps]; exact next) L2
        unfold qLev at I ⊢
        have hg' : (fun t => if qOkm n R S (va_up c k t) k then qFnd (qOkm n R S) (2 * n) (d + 1) (k + 1) (va_up c k t) else none) tt = none := hg
        rw [qScan_n hg']
        rw [E]
        rcases I with ⟨r, h', i1, i2, i3, i4, i5⟩ | ⟨h', i1, i2, i3, i4, i5⟩
        · exact Or.inl ⟨r, h', i1, i2, i3, s2.trans i4, i5⟩
        · exact Or.inr ⟨h', i1, i2, i3, s2.trans i4, i5⟩
      cases hf : qFrs (va_up c k tt) k
      · rw [hf] at PRE
        refine again h1 _ f69 f70 m1 v1 (fun _ _ => rfl) (s1.mono fun k z => Or.inl z) L (by unfold qOkm; rw [hf]; rfl) (mLoop_inl (x := (nI k, h)) ?_)
        show f_X9_finds_b95 (some 51) (nI t) (nI u) (nI fx) (nI n) (nI k) h = _
        rw [PRE, Bool.not_false, qif1]
      · rw [hf, Bool.not_true, qif0] at PRE
        obtain ⟨h2, g69, g70, p2, m2, v2, s2, k2, L2⟩ := m_agrees m1 w h6 h6' ht hu hR hS hn v1 (c := va_up c k tt) (k := k) (by omega) (e67b k (Nat.le_refl k)).1 (by rw [qVs]; omega) ((L k (Nat.le_refl k)).congr below)
        rw [p2, qbind] at PRE
        have LL : ∀ k', k' ≤ k → qHv n R S c g69 g70 k' := fun k' hk' => (L k' hk').same hn fun p hp => k2 p (by omega)
        have ss : qSame qC67 h h2 := (s1.mono fun k z => Or.inl z).trans (s2.mono fun k z => Or.inr z)
        cases ha : qAg n R S (va_up c k tt) (k + 1)
        · refine again h2 _ g69 g70 m2 v2 (fun _ _ => rfl) ss LL (by unfold qOkm; rw [ha, Bool.and_false]; rfl) (mLoop_inl (x := (nI k, h)) ?_)
          show f_X9_finds_b95 (some 51) (nI t) (nI u) (nI fx) (nI n) (nI k) h = _
          rw [PRE]
          show (if qB2I (qAg n R S (va_up c k tt) (k + 1)) = 0 then _ else _) = _
          rw [ha, qif0]
        · have hok : qOkm n R S (va_up c k tt) k = true := by unfold qOkm; rw [hf, ha]; rfl
          obtain ⟨h3, p3, m3, v3, s3⟩ := m_st67 m2 v2 (i := k + 1) (by omega) (-1)
          have E : mLoop (fun x : Int32 × mH => f_X9_finds_b95 (some 51) (nI t) (nI u) (nI fx) (nI n) x.1 x.2) (nI k, h) = mLoop (fun x : Int32 × mH => f_X9_finds_b95 (some 51) (nI t) (nI u) (nI fx) (nI n) x.1 x.2) (nI (k + 1), h3) := by
            refine mLoop_inl ?_
            show f_X9_finds_b95 (some 51) (nI t) (nI u) (nI fx) (nI n) (nI k) h = _
            rw [PRE]
            show (if qB2I (qAg n R S (va_up c k tt) (k + 1)) = 0 then _ else _) = _
            rw [ha, qif1, nI_1, if_neg (by rw [qle (by omega) (by omega)]; omega), m2.g67.1, qbind, p3, qbind]
          have ss3 : qSame qC67 h h3 := ss.trans (s3.mono fun k z => Or.inl z)
          have I := ihd (k + 1) (va_up c k tt) (2 * n) 0 h3 _ g69 g70 (by omega) (by omega) (by omega) m3 v3 (fun e he => by rw [qUpn (by omega)]; obtain ⟨a, b⟩ := e67b e (by omega); refine ⟨a, ?_⟩; by_cases z : e = k; (rw [z, qVs]; omega); (rw [qVn z]; exact (e67 e (by omega)).2)) (by rw [qUps]; rfl) (fun k' hk' => by
            by_cases z : k' = k + 1
            · rw [z]; exact L2
            · exact (LL k' (by omega)).congr fun e he => qVn (by omega))
          unfold qLev at I
          rcases I with ⟨r, h', i1, i2, i3, i4, i5⟩ | ⟨h', i1, i2, i3, i4, i5⟩
          · unfold qLev
            left
            refine ⟨r, h', ?_, E.trans i2, i3, ss3.trans i4, i5⟩
            have i1' : qFnd (qOkm n R S) (2 * n) (d + 1) (k + 1) (va_up c k tt) = some r := i1
            refine qScan_y ?_
            show (if qOkm n R S (va_up c k tt) k then qFnd (qOkm n R S) (2 * n) (d + 1) (k + 1) (va_up c k tt) else none) = _
            rw [hok, if_pos rfl, i1']
          · obtain ⟨f67', g69', g70', v4, e4, L4⟩ := i5
            have i1' : qFnd (qOkm n R S) (2 * n) (d + 1) (k + 1) (va_up c k tt) = none := i1
            refine again h' f67' g69' g70' i3 v4 (fun e he => ?_) (ss3.trans i4) (fun k' hk' => (L4 k' (by omega)).congr fun e he => (qVn (by omega)).symm) (by rw [hok, if_pos rfl, i1']) ?_
            · rw [e4 e (by omega), (e67b e he).1]
            · have e5 : nI (k + 1) + -1 = nI k := by rw [← nI_1, Int32.add_assoc]; exact Int32.add_zero _
              rw [E, i2, e5]
/-- the model's search, the first rows being told -/
theorem m_finds {h : mH} (m : qM h A) (w : qWA A) (h6 : t < 6) (h6' : u < 6) (ht : (A.1 t).1 = n) (hu : (A.1 u).1 = n) (hR : (A.1 t).2.1 = R) (hS : (A.1 u).2.1 = S) (hn : n ≤ 12) (hfx : fx ≤ n) {c : Nat → Nat} {f67 : Nat → Int32} (e67 : h.2 67 = .inl (12, .inl f67)) (hc : ∀ e, e < fx → f67 e = nI (c e) ∧ c e < 2 * n) : ∃ h', qM h' A ∧ qSame qC67 h h' ∧ (∃ g67, h'.2 67 = .inl (12, .inl g67) ∧ ∀ e, e < fx → g67 e = nI (c e)) ∧ ((f_X9_finds (some 51) (nI t) (nI u) (nI fx) h = some (0, h') ∧ ¬ ((∀ k, k < fx → qOkm n R S c k = true) ∧ ∃ r, qFnd (qOkm n R S) (2 * n) (n - fx) fx c = some r)) ∨ ∃ r, f_X9_finds (some 51) (nI t) (nI u) (nI fx) h = some (1, h') ∧ (∀ k, k < fx → qOkm n R S c k = true) ∧ qFnd (qOkm n R S) (2 * n) (n - fx) fx c = some r ∧ qVk h' n R S r n) := by
  obtain ⟨x0, y0, fo, fr, ff, fg, fw, mb, hm⟩ := m.b
  obtain ⟨⟨f69, e69⟩, ⟨f70, e70⟩⟩ : qArr h 69 156 ∧ qArr h 70 156 := by
    obtain ⟨a1, ⟨x, y, a2⟩, a3, a4, a5, q7⟩ := m
    obtain ⟨a1, a2, a3, a4, a5, a6, a7, a8, a9, b1, b2, b3, b4, b5⟩ := q7
    exact ⟨b3, b4⟩
  -- the row of nothing
  have Z : ∃ h1 g69 g70, qM h1 A ∧ qVh h1 f67 g69 g70 ∧ qSame qC67 h h1 ∧ qHv n R S c g69 g70 0 ∧ f_X9_finds (some 51) (nI t) (nI u) (nI fx) h = f_X9_finds_l43 (some 51) (nI t) (nI u) (nI fx) (nI n) 0 h1 := by
    unfold f_X9_finds
    rw [m.is, qbind, mb.orders, qbind, mb.order h6, qbind, (hm t h6).1, ht]
    have key : ∀ d j (h1 : mH) (g69 g70 : Nat → Int32), j + d = 12 → qM h1 A → qVh h1 f67 g69 g70 → qSame qC67 h h1 → (∀ j', j' < j → g69 j' = nI 0 ∧ g70 j' = nI 0) → ∃ h2 g69 g70, qM h2 A ∧ qVh h2 f67 g69 g70 ∧ qSame qC67 h h2 ∧ qHv n R S c g69 g70 0 ∧ f_X9_finds_l11 (some 51) (nI t) (nI u) (nI fx) (nI n) (nI j) h1 = f_X9_finds_l43 (some 51) (nI t) (nI u) (nI fx) (nI n) 0 h2 := by
      intro d
      induction d with
      | zero =>
        intro j h1 g69 g70 hj m1 v1 s1 z1
        have hj' : j = 12 := by omega
        subst hj'
        refine ⟨h1, g69, g70, m1, v1, s1, fun j' hj' => ?_, ?_⟩
        · show g69 (12 * 0 + j') = nI 0 ∧ g70 (12 * 0 + j') = nI 0
          rw [Nat.mul_zero, Nat.zero_add]
          exact z1 j' (by omega)
        · unfold f_X9_finds_l11
          rw [mLoop_eq]
          show (f_X9_finds_b11 (some 51) (nI t) (nI u) (nI fx) (nI n) (nI 12) h1).bind _ = _
          unfold f_X9_finds_b11
          rw [if_pos (by decide)]
          cases f_X9_finds_l43 (some 51) (nI t) (nI u) (nI fx) (nI n) 0 h1 <;> rfl
      | succ d ih =>
        intro j h1 g69 g70 hj m1 v1 s1 z1
        obtain ⟨h2, p2, m2, v2, s2⟩ := m_st69 m1 v1 (i := j) (by omega) 0
        obtain ⟨h3, p3, m3, v3, s3⟩ := m_st70 m2 v2 (i := j) (by omega) 0
        have E : f_X9_finds_b11 (some 51) (nI t) (nI u) (nI fx) (nI n) (nI j) h1 = some (.inl (nI (j + 1), h3)) := by
          unfold f_X9_finds_b11
          rw [if_neg (by rw [show (12 : Int32) = nI 12 from rfl, qle (by decide) (by omega)]; omega), m1.g67.2.2.1, qbind, p2, qbind, m2.g67.2.2.2, qbind, p3, qbind, nI_1]
        obtain ⟨h4, k69, k70, b1, b2, b3, b4, b5⟩ := ih (j + 1) h3 _ _ (by omega) m3 v3 ((s1.trans (s2.mono fun k z => Or.inr z)).trans (s3.mono fun k z => Or.inr z)) (fun j' hj' => by
          by_cases z : j' = j
          · rw [z, qUps, qUps]; exact ⟨rfl, rfl⟩
          · rw [qUpn z, qUpn z]; exact z1 j' (by omega))
        refine ⟨h4, k69, k70, b1, b2, b3, b4, ?_⟩
        unfold f_X9_finds_l11 at b5 ⊢
        rw [mLoop_inl (b := fun x : Int32 × mH => f_X9_finds_b11 (some 51) (nI t) (nI u) (nI fx) (nI n) x.1 x.2) (x := (nI j, h1)) E, b5]
    exact key 12 0 h f69 f70 (by omega) m ⟨e67, e69, e70⟩ qSame.rf fun j' hj' => absurd hj' (Nat.not_lt_zero j')
  obtain ⟨h1, g69, g70, m1, v1, s1, L1, E1⟩ := Z
  rw [E1]
  -- the rows that are told
  have key : ∀ d k (h2 : mH) (k69 k70 : Nat → Int32), k + d = fx → qM h2 A → qVh h2 f67 k69 k70 → qSame qC67 h h2 → (∀ k', k' ≤ k → qHv n R S c k69 k70 k') → (∀ k', k' < k → qOkm n R S c k' = true) → ∃ h', qM h' A ∧ qSame qC67 h h' ∧ (∃ g67, h'.2 67 = .inl (12, .inl g67) ∧ ∀ e, e < fx → g67 e = nI (c e)) ∧ ((f_X9_finds_l43 (some 51) (nI t) (nI u) (nI fx) (nI n) (nI k) h2 = some (0, h') ∧ ¬ ((∀ k, k < fx → qOkm n R S c k = true) ∧ ∃ r, qFnd (qOkm n R S) (2 * n) (n - fx) fx c = some r)) ∨ ∃ r, f_X9_finds_l43 (some 51) (nI t) (nI u) (nI fx) (nI n) (nI k) h2 = some (1, h') ∧ (∀ k, k < fx → qOkm n R S c k = true) ∧ qFnd (qOkm n R S) (2 * n) (n - fx) fx c = some r ∧ qVk h' n R S r n) := by
    intro d
    induction d with
    | zero =>
      intro k h2 k69 k70 hk m2 v2 s2 L2 ok2
      have hk' : k = fx := by omega
      subst hk'
      have END1 : ∀ h', f_X9_finds_l95 (some 51) (nI t) (nI u) (nI k) (nI n) (nI n) h' = some (1, h') := by
        intro h'
        unfold f_X9_finds_l95
        refine mLoop_inr ?_
        show f_X9_finds_b95 (some 51) (nI t) (nI u) (nI k) (nI n) (nI n) h' = _
        unfold f_X9_finds_b95 f_X9_finds_c180
        rw [if_neg (by rw [qlt (by omega) (by omega)]; omega), if_pos (by rw [qle (by omega) (by omega)]; omega), if_pos rfl]
        rfl
      by_cases hkn : k = n
      · -- all rows are told
        subst hkn
        refine ⟨h2, m2, s2, ⟨f67, v2.1, fun e he => (hc e he).1⟩, Or.inr ⟨c, ?_, ok2, by rw [Nat.sub_self]; rfl, ⟨f67, k69, k70, v2, fun e he => (hc e he).1, L2⟩⟩⟩
        unfold f_X9_finds_l43
        refine mLoop_inr ?_
        show f_X9_finds_b43 (some 51) (nI t) (nI u) (nI k) (nI k) (nI k) h2 = _
        unfold f_X9_finds_b43
        rw [if_pos (by rw [qle (by omega) (by omega)]; omega), if_pos (by rw [qle (by omega) (by omega)]; omega), END1]
        rfl
      · obtain ⟨h3, p3, m3, v3, s3⟩ := m_st67 m2 v2 (i := k) (by omega) (-1)
        have I := m_level (fx := k) w h6 h6' ht hu hR hS hn (n - k - 1) k c (2 * n) 0 h3 _ k69 k70 (by omega) (Nat.le_refl k) (by omega) m3 v3 (fun e he => by rw [qUpn (by omega)]; exact hc e he) (by rw [qUps]; rfl) L2
        have OPEN : ∀ X, f_X9_finds_l95 (some 51) (nI t) (nI u) (nI k) (nI n) (nI k) h3 = some X → f_X9_finds_l43 (some 51) (nI t) (nI u) (nI k) (nI n) (nI k) h2 = some X := by
          intro X hX
          unfold f_X9_finds_l43
          refine mLoop_inr ?_
          show f_X9_finds_b43 (some 51) (nI t) (nI u) (nI k) (nI n) (nI k) h2 = _
          unfold f_X9_finds_b43
          rw [if_pos (by rw [qle (by omega) (by omega)]; omega), if_neg (by rw [qle (by omega) (by omega)]; omega), m2.g67.1, qbind, p3, qbind, hX]
          rfl
        have hd : n - k = n - k - 1 + 1 := by omega
        have ss3 : qSame qC67 h h3 := s2.trans (s3.mono fun k z => Or.inl z)
        unfold qLev at I
        rcases I with ⟨r, h', i1, i2, i3, i4, i5⟩ | ⟨h', i1, i2, i3, i4, i5⟩
        · have hf : qFnd (qOkm n R S) (2 * n) (n - k) k c = some r := by rw [hd]; exact i1
          refine ⟨h', i3, ss3.trans i4, ?_, Or.inr ⟨r, OPEN _ ?_, ok2, hf, i5⟩⟩
          · obtain ⟨a, b, cc, v, e, -⟩ := i5
            exact ⟨a, v.1, fun z hz => by rw [e z (by omega), (qFnd_below hf).1 z hz]⟩
          · have e1 := END1 h'
            unfold f_X9_finds_l95 at e1 ⊢
            rw [i2]
            exact e1
        · have hf : qFnd (qOkm n R S) (2 * n) (n - k) k c = none := by rw [hd]; exact i1
          refine ⟨h', i3, ss3.trans i4, ?_, Or.inl ⟨OPEN _ ?_, fun z => by obtain ⟨-, r, hr⟩ := z; rw [hf] at hr; cases hr⟩⟩
          · obtain ⟨a, b, cc, v, e, -⟩ := i5
            exact ⟨a, v.1, e⟩
          · unfold f_X9_finds_l95
            rw [i2]
            refine mLoop_inr ?_
            show f_X9_finds_b95 (some 51) (nI t) (nI u) (nI k) (nI n) (nI k + -1) h' = _
            have D : ∀ a, a < 13 → nI a + -1 < nI a ∧ ∀ b, b < 13 → a ≤ b → ¬ nI a + -1 = nI b := by decide +kernel
            obtain ⟨d1, d2⟩ := D k (by omega)
            unfold f_X9_finds_b95 f_X9_finds_c180
            rw [if_pos d1, if_neg (d2 n (by omega) (by omega))]
            rfl
    | succ d ih =>
      intro k h2 k69 k70 hk m2 v2 s2 L2 ok2
      have us := m_isUsed m2 v2 (c := c) (k := k) (by omega) (fun e he => ⟨(hc e (by omega)).1, by have := (hc e (by omega)).2; omega⟩)
      have PRE : f_X9_finds_b43 (some 51) (nI t) (nI u) (nI fx) (nI n) (nI k) h2 = if qB2I (!qFrs c k) = 0 then (f_X9_agrees (some 51) (nI t) (nI u) (nI k) h2).bind fun x6 => if x6.1 = 0 then some (Sum.inr (0, x6.2)) else some (Sum.inl (nI k + 1, x6.2)) else some (Sum.inr (0, h2)) := by
        unfold f_X9_finds_b43
        rw [if_neg (by rw [qle (by omega) (by omega)]; omega), us, qbind]
      cases hf : qFrs c k
      · refine ⟨h2, m2, s2, ⟨f67, v2.1, fun e he => (hc e he).1⟩, Or.inl ⟨?_, fun z => by have := z.1 k (by omega); unfold qOkm at this; rw [hf] at this; cases this⟩⟩
        unfold f_X9_finds_l43
        refine mLoop_inr ?_
        show f_X9_finds_b43 (some 51) (nI t) (nI u) (nI fx) (nI n) (nI k) h2 = _
        rw [PRE, hf, Bool.not_false, qif1]
      · rw [hf, Bool.not_true, qif0] at PRE
        obtain ⟨h3, g69', g70', p3, m3, v3, s3, k3, L3⟩ := m_agrees m2 w h6 h6' ht hu hR hS hn v2 (c := c) (k := k) (by omega) (hc k (by omega)).1 (hc k (by omega)).2 (L2 k (Nat.le_refl k))
        rw [p3, qbind] at PRE
        have ss3 : qSame qC67 h h3 := s2.trans (s3.mono fun k z => Or.inr z)
        cases ha : qAg n R S c (k + 1)
        · refine ⟨h3, m3, ss3, ⟨f67, v3.1, fun e he => (hc e he).1⟩, Or.inl ⟨?_, fun z => by have := z.1 k (by omega); unfold qOkm at this; rw [hf, ha] at this; cases this⟩⟩
          unfold f_X9_finds_l43
          refine mLoop_inr ?_
          show f_X9_finds_b43 (some 51) (nI t) (nI u) (nI fx) (nI n) (nI k) h2 = _
          rw [PRE]
          show (if qB2I (qAg n R S c (k + 1)) = 0 then _ else _) = _
          rw [ha, qif0]
        · have I := ih (k + 1) h3 g69' g70' (by omega) m3 v3 ss3 (fun k' hk' => by
            by_cases z : k' = k + 1
            · rw [z]; exact L3
            · exact (L2 k' (by omega)).same hn fun p hp => k3 p (by omega)) (fun k' hk' => by
            by_cases z : k' = k
            · rw [z]; unfold qOkm; rw [hf, ha]; rfl
            · exact ok2 k' (by omega))
          have E : f_X9_finds_l43 (some 51) (nI t) (nI u) (nI fx) (nI n) (nI k) h2 = f_X9_finds_l43 (some 51) (nI t) (nI u) (nI fx) (nI n) (nI (k + 1)) h3 := by
            unfold f_X9_finds_l43
            refine mLoop_inl ?_
            show f_X9_finds_b43 (some 51) (nI t) (nI u) (nI fx) (nI n) (nI k) h2 = _
            rw [PRE]
            show (if qB2I (qAg n R S c (k + 1)) = 0 then _ else _) = _
            rw [ha, qif1, nI_1]
          rw [E]
          exact I
  exact key fx 0 h1 g69 g70 (by omega) m1 v1 s1 (fun k' hk' => by rw [show k' = 0 by omega]; exact L1) (fun k' hk' => absurd hk' (Nat.not_lt_zero k'))
end QFN
