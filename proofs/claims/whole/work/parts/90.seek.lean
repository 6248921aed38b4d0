/-! PURE: the class's search for a witness -/
theorem qWk.back {h : mH} {t u n : Nat} {R S c c' : Nat → Nat} {k : Nat} (w : qWk h t u n R S c' (k + 1)) (hc : ∀ e, e < k → c' e = c e) : qWk h t u n R S c k := by
  obtain ⟨x0, y0, f34, f35, f36, f37, m, e1, e2, e3⟩ := w
  refine ⟨x0, y0, f34, f35, f36, f37, m, fun e he => by rw [e1 e (by omega), hc e he], fun h1 => ?_, fun k' hk' => (e3 k' (by omega)).congr n R S fun e he => (hc e (by omega)).symm⟩
  obtain ⟨a1, a2⟩ := e2 (by omega)
  rw [a1, a2]
  unfold qXw
  rw [hc 0 (by omega)]
  exact ⟨rfl, rfl⟩
section QSK
variable {h : mH} {A : qA} {t u n : Nat} {R S : Nat → Nat}
theorem x_rowAt (q : qX h A) (h6 : t < 6) {i : Nat} (hi : i < (A.1 t).1) (hn : (A.1 t).1 ≤ 28) : mAI h (some (4 + 4 * t)) (nI i) = some (nI ((A.1 t).2.1 i)) := by
  obtain ⟨bk, bs, bc, ra, rb, fr, fa, fb, hT, hs⟩ := q.2.2.2.1 t h6
  rw [hT.row (by omega), hs.1 i hi]
theorem x_fitsM (q : qX h A) (w : qWA A) (h6 : t < 6) (h6' : u < 6) (ht : (A.1 t).1 = n) (hu : (A.1 u).1 = n) (hR : (A.1 t).2.1 = R) (hS : (A.1 u).2.1 = S) (hn : n ≤ 12) {c : Nat → Nat} {k cd : Nat} (hk : k < n) (hcd : cd < 2 * n) (W : qWk h t u n R S c k) (hA : qAg n R S c k = true) : ∃ h', f_X4_fits (some 33) (nI k) (nI cd) h = some (qB2I (qAg n R S (va_up c k cd) (k + 1)), h') ∧ qX h' A ∧ qSame qC33 h h' ∧ qWk h' t u n R S c k ∧ (qAg n R S (va_up c k cd) (k + 1) = true → qWk h' t u n R S (va_up c k cd) (k + 1)) := by
  obtain ⟨x0, y0, f34, f35, f36, f37, m, e1, e2, e3⟩ := W
  obtain ⟨g1, g2, g3, g4, g5, g6, g7, g8, g9, g10⟩ := m.g q
  have rk := x_rowAt q h6 (i := k) (by omega) (by omega)
  have sk := x_rowAt q h6' (i := cd / 2) (by omega) (by omega)
  rw [hR] at rk
  rw [hS] at sk
  have hc1 : ∀ e, e < k → va_up c k cd e = c e := fun e he => qVn (by omega)
  have hck : va_up c k cd k = cd := qVs
  have hA1 : qAg n R S (va_up c k cd) k = true := by rw [← hA]; exact qAg_congr n R S hc1
  have hRlt := (w.1 t h6).2.1 k (by omega)
  -- the word of the row
  have WD : f_X4_fits (some 33) (nI k) (nI cd) h = f_X4_fits_c32 (some 33) (nI k) (nI cd) (nI (qXw n R (va_up c k cd) k)) h := by
    unfold f_X4_fits
    have ea : nI cd &&& 1 = nI (cd % 2) := by rw [qI_one, qI_and, Nat.and_one_is_mod]
    have ew : qXw n R (va_up c k cd) k = R k ^^^ (if cd % 2 = 1 then 2 ^ n - 1 else 0) := by unfold qXw; rw [hck]
    rw [g1, qbind, g2, qbind, g3, ea, ew]
    by_cases z : cd % 2 = 1
    · rw [if_neg (by rw [qI_zero, qeq (by omega) (by decide)]; omega), qbind, rk, qbind, qI_mask (by omega), qI_xor, if_pos z]
    · rw [if_pos (by rw [qI_zero, qeq (by omega) (by decide)]; omega), qbind, rk, qbind, if_neg z, Nat.xor_zero]
  have esh : nI cd >>> ((1 : Int32) &&& 31) = nI (cd / 2) := by rw [qI_one, qI_shr (by omega) (by decide), Nat.pow_one]
  have hS1 : S (va_up c k cd k / 2) = S (cd / 2) := by rw [hck]
  rw [WD]
  unfold f_X4_fits_c32
  rw [g4, qbind, esh, sk, qbind]
  by_cases hk0 : k = 0
  · rw [if_pos (by rw [hk0]; rfl)]
    have hle : 33 ≤ h.1 := by rw [q.1]; decide
    have p1 := qPF (h := h) (a := 33) (j := 3) (v := .int (nI (qXw n R (va_up c k cd) k))) hle m.1 (Nat.le_of_ble_eq_true rfl)
    rw [p1, qbind]
    have e33 : (mPut h 33 (.inr (3, [.int (nI n), .ref (4 + 4 * t), .ref (4 + 4 * u), .int (nI (qXw n R (va_up c k cd) k)), .int y0, .ref 34, .ref 35, .ref 36, .ref 37]))).2 33 = _ := qPutS _
    have p2 := qPF (h := mPut h 33 (.inr (3, [.int (nI n), .ref (4 + 4 * t), .ref (4 + 4 * u), .int (nI (qXw n R (va_up c k cd) k)), .int y0, .ref 34, .ref 35, .ref 36, .ref 37]))) (a := 33) (j := 4) (v := .int (nI (S (cd / 2)))) hle e33 (Nat.le_of_ble_eq_true rfl)
    show ∃ h', ((mPF (mPut h 33 (.inr (3, [.int (nI n), .ref (4 + 4 * t), .ref (4 + 4 * u), .int (nI (qXw n R (va_up c k cd) k)), .int y0, .ref 34, .ref 35, .ref 36, .ref 37]))) (some 33) 3 4 (.int (nI (S (cd / 2))))).bind fun h4 => f_X4_fits_c60 (some 33) (nI k) (nI cd) (nI (qXw n R (va_up c k cd) k)) (nI (S (cd / 2))) h4) = _ ∧ _
    rw [p2, qbind, qPutP]
    have q2 : qX (mPut h 33 (.inr (3, [.int (nI n), .ref (4 + 4 * t), .ref (4 + 4 * u), .int (nI (qXw n R (va_up c k cd) k)), .int (nI (S (cd / 2))), .ref 34, .ref 35, .ref 36, .ref 37]))) A := q.put33 (nI n) _ _ (some (4 + 4 * t)) (some (4 + 4 * u))
    have m2 : qMhx (mPut h 33 (.inr (3, [.int (nI n), .ref (4 + 4 * t), .ref (4 + 4 * u), .int (nI (qXw n R (va_up c k cd) k)), .int (nI (S (cd / 2))), .ref 34, .ref 35, .ref 36, .ref 37]))) t u n (nI (qXw n R (va_up c k cd) k)) (nI (S (cd / 2))) f34 f35 f36 f37 := ⟨qPutS _, (qPutN _ (by decide)).trans m.2.1, (qPutN _ (by decide)).trans m.2.2.1, (qPutN _ (by decide)).trans m.2.2.2.1, (qPutN _ (by decide)).trans m.2.2.2.2⟩
    have sm : qSame qC33 h (mPut h 33 (.inr (3, [.int (nI n), .ref (4 + 4 * t), .ref (4 + 4 * u), .int (nI (qXw n R (va_up c k cd) k)), .int (nI (S (cd / 2))), .ref 34, .ref 35, .ref 36, .ref 37]))) := qSame.rf.put ⟨by decide, by decide⟩ _
    obtain ⟨h', z1, z2, z3, z4, z5⟩ := x_fitsL q2 hn hk hck hcd hA1 m2 (fun e he => by rw [hc1 e he]; exact e1 e he) ⟨by rw [hk0], by rw [show va_up c k cd 0 = cd by rw [hk0]; exact qVs]⟩ (fun k' hk' => (e3 k' hk').congr n R S fun e he => hc1 e (by omega))
    rw [hS1] at z1
    exact ⟨h', z1, z2, sm.trans z3, z4 c (fun e he => (hc1 e he).symm) (fun h1 => by omega), z5⟩
  · rw [if_neg (by rw [qI_zero, qeq (by omega) (by decide)]; exact hk0)]
    have hx := e2 (by omega)
    have h00 : va_up c k cd 0 = c 0 := hc1 0 (by omega)
    obtain ⟨h', z1, z2, z3, z4, z5⟩ := x_fitsL q hn hk hck hcd hA1 m (fun e he => by rw [hc1 e he]; exact e1 e he) ⟨by rw [hx.1]; unfold qXw; rw [h00], by rw [hx.2, h00]⟩ (fun k' hk' => (e3 k' hk').congr n R S fun e he => hc1 e (by omega))
    rw [hS1] at z1
    exact ⟨h', z1, z2, z3, z4 c (fun e he => (hc1 e he).symm) (fun _ => h00.symm), z5⟩
theorem x_isAgain (q : qX h A) (w : qWA A) (h6' : u < 6) (hu : (A.1 u).1 = n) (hS : (A.1 u).2.1 = S) (hn : n ≤ 12) {i us : Nat} (hi : i < n) (hus : us < 2 ^ 12) : f_X8_isAgain (some (4 + 4 * u)) (nI n) (nI i) (nI us) h = some (qB2I (!decide (∀ j, j < i → ¬ (us.testBit j = false ∧ (S j ^^^ S i = 0 ∨ S j ^^^ S i = 2 ^ n - 1))))) := by
  obtain ⟨bk, bs, bc, ra, rb, fr, fa, fb, hT, hs⟩ := q.2.2.2.1 u h6'
  have hlt : ∀ j, j < n → S j < 2 ^ 12 := fun j hj => by
    have := (w.1 u h6').2.1 j (by omega)
    rw [hS, hu] at this
    exact Nat.lt_of_lt_of_le this (Nat.pow_le_pow_right (by decide) hn)
  have h12 : 2 ^ n ≤ 2 ^ 12 := Nat.pow_le_pow_right (by decide) hn
  have ri : ∀ j, j < n → mAI h (some (4 + 4 * u)) (nI j) = some (nI (S j)) := fun j hj => by
    have := x_rowAt q h6' (i := j) (by omega) (by omega)
    rw [hS] at this
    exact this
  unfold f_X8_isAgain f_X8_isAgain_l10
  rw [qI_mask (by omega)]
  have B : ∀ j, j < i → f_X8_isAgain_b10 (some (4 + 4 * u)) (nI i) (nI us) (nI (2 ^ n - 1)) (nI j) h = if us.testBit j = false ∧ (S j ^^^ S i = 0 ∨ S j ^^^ S i = 2 ^ n - 1) then some (.inr 1) else some (.inl (nI (j + 1))) := by
    intro j hj
    have hx : S j ^^^ S i < 2 ^ 12 := Nat.xor_lt_two_pow (hlt j (by omega)) (hlt i hi)
    unfold f_X8_isAgain_b10
    rw [if_neg (by rw [qle (by omega) (by omega)]; omega), qLn hT.le.2.1 hT.2.2.2.1, qbind, if_neg (by rw [qle (by decide) (by omega)]; omega), ri j (by omega), qbind, ri i hi, qbind, x_inSet (by omega) (by omega), qbind, qI_xor, nI_1]
    cases hb : us.testBit j
    · rw [qif0]
      by_cases z : S j ^^^ S i = 0
      · rw [if_pos (by rw [z]; rfl), if_pos ⟨rfl, Or.inl z⟩]
      · rw [if_neg (by rw [qI_zero, qeq (by omega) (by decide)]; exact z)]
        by_cases y : S j ^^^ S i = 2 ^ n - 1
        · rw [if_pos (by rw [y]), if_pos ⟨rfl, Or.inr y⟩]
        · rw [if_neg (by rw [qeq (by omega) (by omega)]; exact y), if_neg (by rintro ⟨-, x | x⟩; exact z x; exact y x)]
    · rw [qif1, if_neg (by rintro ⟨x, -⟩; cases x)]
  rcases qLeast (fun j => ¬ (us.testBit j = false ∧ (S j ^^^ S i = 0 ∨ S j ^^^ S i = 2 ^ n - 1))) i with hall | ⟨j0, hj0, hno, hbef⟩
  · rw [decide_eq_true hall]
    refine mLoop_ends (fun j => nI j) i 0 (fun j hj => ?_) ?_
    · show f_X8_isAgain_b10 (some (4 + 4 * u)) (nI i) (nI us) (nI (2 ^ n - 1)) (nI j) h = _
      rw [B j hj, if_neg (hall j hj)]
    · show f_X8_isAgain_b10 (some (4 + 4 * u)) (nI i) (nI us) (nI (2 ^ n - 1)) (nI i) h = _
      unfold f_X8_isAgain_b10
      rw [if_pos (by rw [qle (by omega) (by omega)]; omega)]
  · rw [decide_eq_false (fun z => hno (z j0 hj0))]
    refine mLoop_ends (fun j => nI j) j0 1 (fun j hj => ?_) ?_
    · show f_X8_isAgain_b10 (some (4 + 4 * u)) (nI i) (nI us) (nI (2 ^ n - 1)) (nI j) h = _
      rw [B j (by omega), if_neg (hbef j hj)]
    · show f_X8_isAgain_b10 (some (4 + 4 * u)) (nI i) (nI us) (nI (2 ^ n - 1)) (nI j0) h = _
      rw [B j0 hj0, if_pos (Classical.byContradiction hno)]
/-- a set of rows that are used -/
def qUs (n us : Nat) (c : Nat → Nat) (k : Nat) : Prop := us < 2 ^ 12 ∧ ∀ i, i < n → (us.testBit i = true ↔ ∃ e, e < k ∧ c e / 2 = i)
theorem qUs.add {us : Nat} {c : Nat → Nat} {k cd : Nat} (s : qUs n us c k) (hn : n ≤ 12) (hcd : cd < 2 * n) : qUs n (us ||| 2 ^ (cd / 2)) (va_up c k cd) (k + 1) := by
  refine ⟨Nat.or_lt_two_pow s.1 (Nat.pow_lt_pow_right (by decide) (by omega)), fun i hi => ?_⟩
  rw [Nat.testBit_or, Bool.or_eq_true, s.2 i hi, Nat.testBit_two_pow, decide_eq_true_eq]
  constructor
  · rintro (⟨e, e1, e2⟩ | z)
    · exact ⟨e, by omega, by rw [qVn (by omega)]; exact e2⟩
    · exact ⟨k, by omega, by rw [qVs]; exact z⟩
  · rintro ⟨e, e1, e2⟩
    by_cases z : e = k
    · rw [z, qVs] at e2; exact Or.inr e2
    · rw [qVn z] at e2; exact Or.inl ⟨e, by omega, e2⟩
theorem x_seek (w : qWA A) (h6 : t < 6) (h6' : u < 6) (ht : (A.1 t).1 = n) (hu : (A.1 u).1 = n) (hR : (A.1 t).2.1 = R) (hS : (A.1 u).2.1 = S) (hn : n ≤ 12) : ∀ (d nf k us : Nat) (c : Nat → Nat) (h : mH), d < nf → k + d = n → qX h A → qWk h t u n R S c k → qAg n R S c k = true → qUs n us c k → ∃ h', qX h' A ∧ qSame qC33 h h' ∧ ((∃ r, qFnd (qOkp n R S) (2 * n) d k c = some r ∧ f_X4_seek nf (some 33) (nI k) (nI us) h = some (1, h') ∧ qWk h' t u n R S r n) ∨ (qFnd (qOkp n R S) (2 * n) d k c = none ∧ f_X4_seek nf (some 33) (nI k) (nI us) h = some (0, h') ∧ qWk h' t u n R S c k)) := by
  intro d
  induction d with
  | zero =>
    intro nf k us c h hnf hkn q W hA U
    have hk : k = n := by omega
    subst hk
    refine ⟨h, q, qSame.rf, Or.inl ⟨c, rfl, ?_, W⟩⟩
    obtain ⟨nf', rfl⟩ : ∃ nf', nf = nf' + 1 := ⟨nf - 1, by omega⟩
    obtain ⟨x0, y0, f34, f35, f36, f37, m, -⟩ := W
    obtain ⟨g1, g2, -⟩ := m.g q
    show f_X4_seek_r (f_X4_seek nf') (some 33) (nI k) (nI us) h = _
    unfold f_X4_seek_r
    rw [g2, qbind, if_pos (by rw [qle (by omega) (by omega)]; omega)]
  | succ d ih =>
    intro nf k us c h hnf hkn q W hA U
    obtain ⟨nf', rfl⟩ : ∃ nf', nf = nf' + 1 := ⟨nf - 1, by omega⟩
    have gN : ∀ {h'} {c'} {k'}, qX h' A → qWk h' t u n R S c' k' → mGI h' (some 33) 3 0 = some (nI n) ∧ mGR h' (some 33) 3 2 = some (some (4 + 4 * u)) := by
      intro h' c' k' q' W'
      obtain ⟨x0, y0, f34, f35, f36, f37, m, -⟩ := W'
      obtain ⟨g1, g2, g3, g4, -⟩ := m.g q'
      exact ⟨g2, g4⟩
    have e0 : ∀ X, f_X4_seek_l18 (f_X4_seek nf') (some 33) (nI k) (nI us) 0 h = X → f_X4_seek (nf' + 1) (some 33) (nI k) (nI us) h = X := by
      intro X hX
      show f_X4_seek_r (f_X4_seek nf') (some 33) (nI k) (nI us) h = _
      unfold f_X4_seek_r
      rw [(gN q W).1, qbind, if_neg (by rw [qle (by omega) (by omega)]; omega), if_pos (by rw [show (12 : Int32) = nI 12 from rfl, qlt (by omega) (by decide)]; omega), hX]
    -- one code
    have TURN : ∀ (cd : Nat) (h1 : mH), cd < 2 * n → qX h1 A → qSame qC33 h h1 → qWk h1 t u n R S c k → ∃ h2, qX h2 A ∧ qSame qC33 h h2 ∧ (((if qOkp n R S (va_up c k cd) k then qFnd (qOkp n R S) (2 * n) d (k + 1) (va_up c k cd) else none) = none ∧ f_X4_seek_b18 (f_X4_seek nf') (some 33) (nI k) (nI us) (nI cd) h1 = some (.inl (nI (cd + 1), h2)) ∧ qWk h2 t u n R S c k) ∨ ∃ r, (if qOkp n R S (va_up c k cd) k then qFnd (qOkp n R S) (2 * n) d (k + 1) (va_up c k cd) else none) = some r ∧ f_X4_seek_b18 (f_X4_seek nf') (some 33) (nI k) (nI us) (nI cd) h1 = some (.inr (1, h2)) ∧ qWk h2 t u n R S r n) := by
      intro cd h1 hcd q1 s1 W1
      generalize hgg : (if qOkp n R S (va_up c k cd) k then qFnd (qOkp n R S) (2 * n) d (k + 1) (va_up c k cd) else none) = gg
      have esh : nI cd >>> ((1 : Int32) &&& 31) = nI (cd / 2) := by rw [qI_one, qI_shr (by omega) (by decide), Nat.pow_one]
      have e2n : (2 : Int32) * nI n = nI (2 * n) := by rw [qL2, qI_mul]
      have hus := U.1
      obtain ⟨n1, n2⟩ := gN q1 W1
      unfold f_X4_seek_b18
      rw [n1, qbind, e2n, if_neg (by rw [qle (by omega) (by omega)]; omega), esh, x_inSet (by omega) (by omega), qbind, nI_1]
      cases hb : us.testBit (cd / 2)
      · rw [qif0, n2, qbind, qbind, x_isAgain q1 w h6' hu hS hn (by omega) hus, qbind]
        have hag : (!decide (∀ j, j < cd / 2 → ¬ (us.testBit j = false ∧ (S j ^^^ S (cd / 2) = 0 ∨ S j ^^^ S (cd / 2) = 2 ^ n - 1)))) = qAgn n S (va_up c k cd) k := by
          unfold qAgn
          congr 1
          rw [decide_eq_decide, qVs]
          have us0 : ∀ j, j < cd / 2 → (us.testBit j = false ↔ ∀ e, e < k → va_up c k cd e / 2 ≠ j) := by
            intro j hj
            constructor
            · intro z e he hh
              rw [qVn (by omega)] at hh
              have := (U.2 j (by omega)).mpr ⟨e, he, hh⟩
              rw [z] at this; cases this
            · intro z
              cases hz : us.testBit j
              · rfl
              · obtain ⟨e, e1, e2⟩ := (U.2 j (by omega)).mp hz
                exact absurd (by rw [qVn (by omega)]; exact e2) (z e e1)
          constructor <;> intro z j hj hh
          · exact z j hj ⟨(us0 j hj).mpr hh.1, hh.2⟩
          · exact z j hj ⟨(us0 j hj).mp hh.1, hh.2⟩
        rw [hag]
        cases hg : qAgn n S (va_up c k cd) k
        · rw [qif0]
          obtain ⟨h2, p2, q2, s2, W2, W3⟩ := x_fitsM q1 w h6 h6' ht hu hR hS hn (by omega) hcd W1 hA
          rw [p2, qbind]
          have hfr : qFrs (va_up c k cd) k = true := by
            unfold qFrs
            rw [decide_eq_true_eq]
            intro e he hh
            rw [qVs, qVn (by omega)] at hh
            have := (U.2 (cd / 2) (by omega)).mpr ⟨e, he, hh⟩
            rw [hb] at this; cases this
          cases ha : qAg n R S (va_up c k cd) (k + 1)
          · have hok : qOkp n R S (va_up c k cd) k = false := by unfold qOkp qOkm; rw [ha, Bool.and_false, Bool.false_and]
            refine ⟨h2, q2, s1.trans s2, Or.inl ⟨by rw [← hgg, hok]; rfl, ?_, W2⟩⟩
            show (if qB2I false = 0 then _ else _) = _
            rw [qif0]
          · have hok : qOkp n R S (va_up c k cd) k = true := by unfold qOkp qOkm; rw [ha, hfr, hg]; rfl
            obtain ⟨h3, q3, s3, R3⟩ := ih nf' (k + 1) (us ||| 2 ^ (cd / 2)) (va_up c k cd) h2 (by omega) (by omega) q2 (W3 ha) ha (U.add hn hcd)
            refine ⟨h3, q3, (s1.trans s2).trans s3, ?_⟩
            have hg2 : gg = qFnd (qOkp n R S) (2 * n) d (k + 1) (va_up c k cd) := by rw [← hgg, hok, if_pos rfl]
            show (_ ∧ (if qB2I true = 0 then _ else _) = _ ∧ _) ∨ ∃ r, _ ∧ (if qB2I true = 0 then _ else _) = _ ∧ _
            rw [qif1, qI_pow (by omega), qI_or, show nI k + 1 = nI (k + 1) from nI_1 k]
            rcases R3 with ⟨r, r1, r2, r3⟩ | ⟨r1, r2, r3⟩
            · right
              refine ⟨r, hg2.trans r1, ?_, r3⟩
              rw [r2, qbind, if_neg (show ¬ (1 : Int32) = 0 by decide)]
            · left
              refine ⟨hg2.trans r1, ?_, r3.back fun e he => qVn (by omega)⟩
              rw [r2, qbind, if_pos rfl]
        · have hok : qOkp n R S (va_up c k cd) k = false := by unfold qOkp; rw [hg]; simp
          refine ⟨h1, q1, s1, Or.inl ⟨by rw [← hgg, hok]; rfl, ?_, W1⟩⟩
          rw [qif1]
      · have hfr : qFrs (va_up c k cd) k = false := by
          unfold qFrs
          rw [decide_eq_false_iff_not]
          intro z
          obtain ⟨e, e1, e2⟩ := (U.2 (cd / 2) (by omega)).mp hb
          exact z e e1 (by rw [qVs, qVn (by omega)]; exact e2)
        have hok : qOkp n R S (va_up c k cd) k = false := by unfold qOkp qOkm; rw [hfr]; rfl
        refine ⟨h1, q1, s1, Or.inl ⟨by rw [← hgg, hok]; rfl, ?_, W1⟩⟩
        rw [qif1]
    cases hs : qFnd (qOkp n R S) (2 * n) (d + 1) k c with
    | some r =>
      obtain ⟨v, v1, v2, v3, v4⟩ := qScan_some.mp hs
      have RR := mLoop_inv (b := fun x : Int32 × mH => f_X4_seek_b18 (f_X4_seek nf') (some 33) (nI k) (nI us) x.1 x.2) (fun cd (s : Int32 × mH) => s.1 = nI cd ∧ qX s.2 A ∧ qSame qC33 h s.2 ∧ qWk s.2 t u n R S c k) v (fun x => ∃ h', x = (1, h') ∧ qX h' A ∧ qSame qC33 h h' ∧ qWk h' t u n R S r n) (s0 := (0, h)) ⟨rfl, q, qSame.rf, W⟩ ?_ ?_
      · obtain ⟨x, e1, h', rfl, z1, z2, z3⟩ := RR
        exact ⟨h', z1, z2, Or.inl ⟨r, rfl, e0 _ e1, z3⟩⟩
      · rintro cd ⟨icd, h1⟩ hcd ⟨rfl, q1, s1, W1⟩
        obtain ⟨h2, q2, s2, T⟩ := TURN cd h1 (by omega) q1 s1 W1
        rcases T with ⟨t1, t2, t3⟩ | ⟨r', t1, t2, t3⟩
        · exact ⟨_, t2, rfl, q2, s2, t3⟩
        · have := v4 cd (Nat.zero_le _) hcd
          rw [t1] at this; cases this
      · rintro ⟨icd, h1⟩ ⟨rfl, q1, s1, W1⟩
        obtain ⟨h2, q2, s2, T⟩ := TURN v h1 (by omega) q1 s1 W1
        rcases T with ⟨t1, t2, t3⟩ | ⟨r', t1, t2, t3⟩
        · rw [v3] at t1; cases t1
        · rw [v3] at t1
          cases t1
          exact ⟨_, t2, h2, rfl, q2, s2, t3⟩
    | none =>
      have none_all : ∀ v, v < 2 * n → (if qOkp n R S (va_up c k v) k then qFnd (qOkp n R S) (2 * n) d (k + 1) (va_up c k v) else none) = none := by
        intro v
        induction v using Nat.strongRecOn with
        | ind v ihv =>
          intro hv
          cases hg : (if qOkp n R S (va_up c k v) k then qFnd (qOkp n R S) (2 * n) d (k + 1) (va_up c k v) else none) with
          | none => rfl
          | some r =>
            exfalso
            have : qFnd (qOkp n R S) (2 * n) (d + 1) k c = some r := qScan_some.mpr ⟨v, Nat.zero_le v, by omega, hg, fun z _ hz => ihv z hz (by omega)⟩
            rw [hs] at this; cases this
      have RR := mLoop_inv (b := fun x : Int32 × mH => f_X4_seek_b18 (f_X4_seek nf') (some 33) (nI k) (nI us) x.1 x.2) (fun cd (s : Int32 × mH) => s.1 = nI cd ∧ qX s.2 A ∧ qSame qC33 h s.2 ∧ qWk s.2 t u n R S c k) (2 * n) (fun x => ∃ h', x = (0, h') ∧ qX h' A ∧ qSame qC33 h h' ∧ qWk h' t u n R S c k) (s0 := (0, h)) ⟨rfl, q, qSame.rf, W⟩ ?_ ?_
      · obtain ⟨x, e1, h', rfl, z1, z2, z3⟩ := RR
        exact ⟨h', z1, z2, Or.inr ⟨rfl, e0 _ e1, z3⟩⟩
      · rintro cd ⟨icd, h1⟩ hcd ⟨rfl, q1, s1, W1⟩
        obtain ⟨h2, q2, s2, T⟩ := TURN cd h1 (by omega) q1 s1 W1
        rcases T with ⟨t1, t2, t3⟩ | ⟨r', t1, t2, t3⟩
        · exact ⟨_, t2, rfl, q2, s2, t3⟩
        · rw [none_all cd hcd] at t1; cases t1
      · rintro ⟨icd, h1⟩ ⟨rfl, q1, s1, W1⟩
        refine ⟨_, ?_, h1, rfl, q1, s1, W1⟩
        show f_X4_seek_b18 (f_X4_seek nf') (some 33) (nI k) (nI us) (nI (2 * n)) h1 = _
        unfold f_X4_seek_b18
        rw [(gN (h' := h1) q1 W1).1, qbind, qL2, qI_mul, if_pos (by rw [qle (by omega) (by omega)]; omega)]
end QSK
