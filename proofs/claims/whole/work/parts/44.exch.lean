/-! PURE: exchange -/
def qSw {α : Type} (f : Nat → α) (i k : Nat) : Nat → α := fun j => if j = i then f k else if j = k then f i else f j
theorem qSw_upd (f : Nat → Int32) (i k : Nat) : upd (upd f i (f k)) k (f i) = qSw f i k := by
  funext j
  unfold qSw
  by_cases h1 : j = k
  · rw [h1, qUps]
    by_cases h2 : k = i
    · rw [if_pos h2, h2]
    · rw [if_neg h2, if_pos rfl]
  · rw [qUpn h1]
    by_cases h2 : j = i
    · rw [h2, qUps, if_pos rfl]
    · rw [qUpn h2, if_neg h2, if_neg h1]
theorem qSw_off {α : Type} (f : Nat → α) (a i k j : Nat) : qSw f (a + i) (a + k) (a + j) = qSw (fun j => f (a + j)) i k j := by
  unfold qSw
  by_cases h1 : j = i
  · rw [if_pos h1, if_pos (by omega)]
  · rw [if_neg h1, if_neg (by omega)]
    by_cases h2 : j = k
    · rw [if_pos h2, if_pos (by omega)]
    · rw [if_neg h2, if_neg (by omega)]
theorem qSw_map {α β : Type} (g : α → β) {f : Nat → β} {T : Nat → α} {n i k j : Nat} (h : ∀ j, j < n → f j = g (T j)) (hi : i < n) (hk : k < n) (hj : j < n) : qSw f i k j = g (qSw T i k j) := by
  unfold qSw
  by_cases h1 : j = i
  · rw [if_pos h1, if_pos h1]; exact h k hk
  · rw [if_neg h1, if_neg h1]
    by_cases h2 : j = k
    · rw [if_pos h2, if_pos h2]; exact h i hi
    · rw [if_neg h2, if_neg h2]; exact h j hj
theorem qSw_all {α : Type} {P : α → Prop} {T : Nat → α} {n i k j : Nat} (h : ∀ j, j < n → P (T j)) (hi : i < n) (hk : k < n) (hj : j < n) : P (qSw T i k j) := by
  unfold qSw
  by_cases h1 : j = i
  · rw [if_pos h1]; exact h k hk
  · rw [if_neg h1]
    by_cases h2 : j = k
    · rw [if_pos h2]; exact h i hi
    · rw [if_neg h2]; exact h j hj
theorem qSw_out {α : Type} {f : Nat → α} {i k j : Nat} (h1 : j ≠ i) (h2 : j ≠ k) : qSw f i k j = f j := by
  unfold qSw
  rw [if_neg h1, if_neg h2]
/-- as it was, apart from one place of a size -/
def qOut (s t : Nat) (f f' : Nat → Int32) : Prop := ∀ p, (p < s * t ∨ s * t + s ≤ p) → f' p = f p
theorem qOut.rf {s t : Nat} {f : Nat → Int32} : qOut s t f f := fun _ _ => rfl
theorem qOut.trans {s t : Nat} {f f' f'' : Nat → Int32} (q : qOut s t f f') (r : qOut s t f' f'') : qOut s t f f'' := fun p hp => (r p hp).trans (q p hp)
theorem qOut.up {s t : Nat} {f f' : Nat → Int32} (q : qOut s t f f') {p : Nat} (h1 : s * t ≤ p) (h2 : p < s * t + s) (v : Int32) : qOut s t f (upd f' p v) := fun j hj => (qUpn (by omega)).trans (q j hj)
theorem qOut.sw {s t : Nat} {f f' : Nat → Int32} (q : qOut s t f f') {i k : Nat} (h1 : s * t ≤ i ∧ i < s * t + s) (h2 : s * t ≤ k ∧ k < s * t + s) : qOut s t f (qSw f' i k) := fun j hj => (qSw_out (by omega) (by omega)).trans (q j hj)
/-- one place of the model set, the others as they were -/
theorem qMset {A : qA} (w : qWA A) {t : Nat} {T' : qT} {fo fr ff fg fw fo' fr' ff' fg' fw' : Nat → Int32} (hm : ∀ u, u < 6 → qMt fo fr ff fg fw u (A.1 u)) (new : qMt fo' fr' ff' fg' fw' t T') (o1 : qOut 1 t fo fo') (o2 : qOut 28 t fr fr') (o3 : qOut 56 t ff ff') (o4 : qOut 56 t fg fg') (o5 : qOut 2 t fw fw') : ∀ u, u < 6 → qMt fo' fr' ff' fg' fw' u ((qSetT A t T').1 u) := by
  intro u hu
  by_cases hut : u = t
  · subst hut
    show qMt _ _ _ _ _ u (va_up A.1 u T' u)
    rw [qVs]
    exact new
  · show qMt _ _ _ _ _ u (va_up A.1 t T' u)
    rw [qVn hut]
    exact (hm u hu).keep (w.1 u hu).1 (o1 u (by omega)) (fun j hj => o2 _ (by omega)) (fun j hj => ⟨o3 _ (by omega), o4 _ (by omega)⟩) ⟨o5 _ (by omega), o5 _ (by omega)⟩
section QEX
variable {h : mH} {t : Nat} {n tn bk bs bc : Int32} {ra rb : Nat} {fr fa fb : Nat → Int32}
theorem x_swRow (q : qTX h t n tn bk bs bc ra rb fr fa fb) {i k : Nat} (hi : i < 28) (hk : k < 28) : ∃ h', f_X7_exchangeNumbers (some (4 + 4 * t)) (nI i) (nI k) h = some h' ∧ qTX h' t n tn bk bs bc ra rb (qSw fr i k) fa fb ∧ qSame (qIs4 t) h h' := by
  obtain ⟨h1, p1, t1, s1⟩ := q.stRow hi (fr k)
  obtain ⟨h2, p2, t2, s2⟩ := t1.stRow hk (fr i)
  rw [qSw_upd] at t2
  refine ⟨h2, ?_, t2, s1.trans s2⟩
  unfold f_X7_exchangeNumbers
  rw [q.row hi, qbind, q.row hk, qbind, p1, qbind, p2, qbind]
theorem x_swA (q : qTX h t n tn bk bs bc ra rb fr fa fb) {i k : Nat} (hi : i < 28) (hk : k < 28) : ∃ h', f_X7_exchangeNumbers (some ra) (nI i) (nI k) h = some h' ∧ qTX h' t n tn bk bs bc ra rb fr (qSw fa i k) fb ∧ qSame (qIs4 t) h h' := by
  obtain ⟨h1, p1, t1, s1⟩ := q.stA hi (fa k)
  obtain ⟨h2, p2, t2, s2⟩ := t1.stA hk (fa i)
  rw [qSw_upd] at t2
  refine ⟨h2, ?_, t2, s1.trans s2⟩
  unfold f_X7_exchangeNumbers
  rw [q.ma hi, qbind, q.ma hk, qbind, p1, qbind, p2, qbind]
theorem x_swB (q : qTX h t n tn bk bs bc ra rb fr fa fb) {i k : Nat} (hi : i < 28) (hk : k < 28) : ∃ h', f_X7_exchangeNumbers (some rb) (nI i) (nI k) h = some h' ∧ qTX h' t n tn bk bs bc ra rb fr fa (qSw fb i k) ∧ qSame (qIs4 t) h h' := by
  obtain ⟨h1, p1, t1, s1⟩ := q.stB hi (fb k)
  obtain ⟨h2, p2, t2, s2⟩ := t1.stB hk (fb i)
  rw [qSw_upd] at t2
  refine ⟨h2, ?_, t2, s1.trans s2⟩
  unfold f_X7_exchangeNumbers
  rw [q.mb hi, qbind, q.mb hk, qbind, p1, qbind, p2, qbind]
end QEX
section QEM
variable {h : mH} {c x y : Int32} {fo fr ff fg fw : Nat → Int32}
theorem m_sw53 (q : qMb h c x y fo fr ff fg fw) {i k : Nat} (hi : i < 168) (hk : k < 168) : ∃ h', f_X9_swaps (some 53) (nI i) (nI k) h = some h' ∧ qMb h' c x y fo (qSw fr i k) ff fg fw ∧ qSame qC5 h h' := by
  obtain ⟨h1, p1, t1, s1⟩ := q.st53 hi (fr k)
  obtain ⟨h2, p2, t2, s2⟩ := t1.st53 hk (fr i)
  rw [qSw_upd] at t2
  refine ⟨h2, ?_, t2, s1.trans s2⟩
  unfold f_X9_swaps
  rw [q.row hi, qbind, q.row hk, qbind, p1, qbind, p2, qbind]
theorem m_sw54 (q : qMb h c x y fo fr ff fg fw) {i k : Nat} (hi : i < 336) (hk : k < 336) : ∃ h', f_X9_swaps (some 54) (nI i) (nI k) h = some h' ∧ qMb h' c x y fo fr (qSw ff i k) fg fw ∧ qSame qC5 h h' := by
  obtain ⟨h1, p1, t1, s1⟩ := q.st54 hi (ff k)
  obtain ⟨h2, p2, t2, s2⟩ := t1.st54 hk (ff i)
  rw [qSw_upd] at t2
  refine ⟨h2, ?_, t2, s1.trans s2⟩
  unfold f_X9_swaps
  rw [q.fromI hi, qbind, q.fromI hk, qbind, p1, qbind, p2, qbind]
theorem m_sw55 (q : qMb h c x y fo fr ff fg fw) {i k : Nat} (hi : i < 336) (hk : k < 336) : ∃ h', f_X9_swaps (some 55) (nI i) (nI k) h = some h' ∧ qMb h' c x y fo fr ff (qSw fg i k) fw ∧ qSame qC5 h h' := by
  obtain ⟨h1, p1, t1, s1⟩ := q.st55 hi (fg k)
  obtain ⟨h2, p2, t2, s2⟩ := t1.st55 hk (fg i)
  rw [qSw_upd] at t2
  refine ⟨h2, ?_, t2, s1.trans s2⟩
  unfold f_X9_swaps
  rw [q.signedI hi, qbind, q.signedI hk, qbind, p1, qbind, p2, qbind]
theorem m_sw56 (q : qMb h c x y fo fr ff fg fw) {i k : Nat} (hi : i < 12) (hk : k < 12) : ∃ h', f_X9_swaps (some 56) (nI i) (nI k) h = some h' ∧ qMb h' c x y fo fr ff fg (qSw fw i k) ∧ qSame qC5 h h' := by
  obtain ⟨h1, p1, t1, s1⟩ := q.st56 hi (fw k)
  obtain ⟨h2, p2, t2, s2⟩ := t1.st56 hk (fw i)
  rw [qSw_upd] at t2
  refine ⟨h2, ?_, t2, s1.trans s2⟩
  unfold f_X9_swaps
  rw [q.wasI hi, qbind, q.wasI hk, qbind, p1, qbind, p2, qbind]
end QEM
/-- bits i and k of a word exchanged -/
def qBx (r i k : Nat) : Nat := if r.testBit i = r.testBit k then r else r ^^^ (2 ^ i ||| 2 ^ k)
theorem qBx_d (r i k : Nat) : (r / 2 ^ i ^^^ r / 2 ^ k) &&& 1 = if r.testBit i = r.testBit k then 0 else 1 := by
  rw [Nat.and_one_is_mod]
  have z := @Nat.xor_mod_two_eq_one (r / 2 ^ i) (r / 2 ^ k)
  have y := qPar (r / 2 ^ i ^^^ r / 2 ^ k)
  rw [qI_tb, qI_tb] at z
  generalize (r / 2 ^ i ^^^ r / 2 ^ k) % 2 = d at z y ⊢
  cases h1 : r.testBit i <;> cases h2 : r.testBit k <;> rw [h1, h2] at z <;> simp at z ⊢ <;> omega
theorem qBx_x (r i k : Nat) : r ^^^ ((((r / 2 ^ i ^^^ r / 2 ^ k) &&& 1) * 2 ^ i) ||| (((r / 2 ^ i ^^^ r / 2 ^ k) &&& 1) * 2 ^ k)) = qBx r i k := by
  rw [qBx_d]
  unfold qBx
  by_cases h1 : r.testBit i = r.testBit k
  · rw [if_pos h1, if_pos h1, Nat.zero_mul, Nat.zero_mul, Nat.or_zero, Nat.xor_zero]
  · rw [if_neg h1, if_neg h1, Nat.one_mul, Nat.one_mul]
theorem qBx_lt {r i k n : Nat} (hr : r < 2 ^ n) (hi : i < n) (hk : k < n) : qBx r i k < 2 ^ n := by
  unfold qBx
  by_cases h1 : r.testBit i = r.testBit k
  · rw [if_pos h1]; exact hr
  · rw [if_neg h1]
    exact Nat.xor_lt_two_pow hr (Nat.or_lt_two_pow (Nat.pow_lt_pow_right (by decide) hi) (Nat.pow_lt_pow_right (by decide) hk))
def qEx (T : qT) (row : Bool) (i k : Nat) : qT :=
  if row then (T.1, qSw T.2.1 i k, qSw T.2.2.1 i k, T.2.2.2.1, T.2.2.2.2)
  else (T.1, fun j => qBx (T.2.1 j) i k, T.2.2.1, qSw T.2.2.2.1 i k, T.2.2.2.2)
theorem qEx_w {T : qT} (w : qWT T) (row : Bool) {i k : Nat} (hi : i < T.1) (hk : k < T.1) : qWT (qEx T row i k) := by
  obtain ⟨w1, w2, w3, w4⟩ := w
  cases row
  · exact ⟨w1, fun j hj => qBx_lt (w2 j hj) hi hk, w3, fun j hj => qSw_all (P := fun a => a < 56) w4 hi hk hj⟩
  · exact ⟨w1, fun j hj => qSw_all (P := fun a => a < 2 ^ T.1) w2 hi hk hj, fun j hj => qSw_all (P := fun a => a < 56) w3 hi hk hj, w4⟩
theorem x_exchange {h : mH} {t : Nat} {T : qT} (q : qXt h t T) (w : qWT T) (row : Bool) {i k : Nat} (hi : i < T.1) (hk : k < T.1) : ∃ h', f_X7_exchangeLines (some (3 + 4 * t)) (qB2I row) (nI i) (nI k) h = some h' ∧ qXt h' t (qEx T row i k) ∧ qSame (qIs4 t) h h' := by
  obtain ⟨bk, bs, bc, ra, rb, fr, fa, fb, hT, hs⟩ := q
  have hn := w.1
  unfold f_X7_exchangeLines
  obtain ⟨h1, p1, t1, s1⟩ := hT.put (j := 5) (v := .int 0) (bk' := 0) (by decide) rfl
  rw [hT.is, qbind, p1, qbind]
  cases row
  · rw [qif0]
    unfold f_X7_exchangeLines_l31
    refine mLoop_inv (fun j (s : Int32 × mH) => s.1 = nI j ∧ qSame (qIs4 t) h s.2 ∧ ∃ frk, qTX s.2 t (nI T.1) (qB2I T.2.2.2.2) 0 bs bc ra rb frk fa fb ∧ (∀ p, p < j → frk p = nI (qBx (T.2.1 p) i k)) ∧ ∀ p, j ≤ p → frk p = fr p) T.1 _ ⟨rfl, s1, fr, t1, fun j hj => absurd hj (Nat.not_lt_zero j), fun _ _ => rfl⟩ ?_ ?_
    · rintro j ⟨ij, hj⟩ hjn ⟨rfl, sk, frk, tk, a1, a2⟩
      obtain ⟨h2, p2, t2, s2⟩ := tk.stRow (i := j) (by omega) (nI (qBx (T.2.1 j) i k))
      have hr := q31 hn (w.2.1 j hjn)
      refine ⟨(nI (j + 1), h2), ?_, rfl, sk.trans s2, _, t2, fun p hp => ?_, fun p hp => ?_⟩
      · show f_X7_exchangeLines_b31 _ _ _ _ _ = _
        unfold f_X7_exchangeLines_b31
        rw [tk.size, qbind, if_neg (by rw [qle (by omega) (by omega)]; omega), tk.rows, qbind, tk.row (by omega), qbind, qbind, tk.row (by omega), qbind, qbind, tk.row (by omega), qbind, a2 j (Nat.le_refl j), hs.1 j hjn, qI_shr (by omega) (by omega), qI_shr (by omega) (by omega), qI_xor, qI_one, qI_and, qI_shl _ (by omega), qI_shl _ (by omega), qI_or, qI_xor, qBx_x, p2, qbind, ← qI_one, nI_1]
      · by_cases hjk : p = j
        · rw [hjk, qUps]
        · rw [qUpn hjk]; exact a1 p (by omega)
      · rw [qUpn (by omega)]; exact a2 p (by omega)
    · rintro ⟨ij, hj⟩ ⟨rfl, sk, frk, tk, a1, a2⟩
      obtain ⟨h2, p2, t2, s2⟩ := x_swB tk (i := i) (k := k) (by omega) (by omega)
      refine ⟨h2, ?_, ⟨0, bs, bc, ra, rb, frk, fa, _, t2, a1, hs.2.1, fun j hj => qSw_map nI hs.2.2.1 hi hk hj, Or.inl rfl⟩, sk.trans s2⟩
      show f_X7_exchangeLines_b31 _ _ _ _ _ = _
      unfold f_X7_exchangeLines_b31
      rw [tk.size, qbind, if_pos (by rw [qle (by omega) (by omega)]; omega), tk.trb, qbind, p2, qbind]
  · rw [qif1]
    obtain ⟨h2, p2, t2, s2⟩ := x_swRow t1 (i := i) (k := k) (by omega) (by omega)
    obtain ⟨h3, p3, t3, s3⟩ := x_swA t2 (i := i) (k := k) (by omega) (by omega)
    refine ⟨h3, ?_, ⟨0, bs, bc, ra, rb, _, _, fb, t3, fun j hj => qSw_map nI hs.1 hi hk hj, fun j hj => qSw_map nI hs.2.1 hi hk hj, hs.2.2.1, Or.inl rfl⟩, (s1.trans s2).trans s3⟩
    rw [t1.rows, qbind, p2, qbind, t2.tra, qbind, p3, qbind]
theorem qB2I_inj (a b : Bool) : qB2I a = qB2I b ↔ a = b := by cases a <;> cases b <;> simp [qB2I]
section QEY
variable {h : mH} {A : qA} {t : Nat} {c x y : Int32} {fo fr ff fg fw : Nat → Int32}
theorem m_exch_c (mb : qMb h c x y fo fr ff fg fw) (h6 : t < 6) (row : Bool) {i k : Nat} (hi : i < 28) (hk : k < 28) : ∃ h', f_X9_exchange_c118 (some 51) (nI t) (qB2I row) (nI i) (nI k) h = some (1, h') ∧ qMb h' c x y fo fr (qSw ff (28 * (2 * t + (!row).toNat) + i) (28 * (2 * t + (!row).toNat) + k)) (qSw fg (28 * (2 * t + (!row).toNat) + i) (28 * (2 * t + (!row).toNat) + k)) fw ∧ qSame qC5 h h' := by
  have hb : (!row).toNat ≤ 1 := by cases row <;> decide
  obtain ⟨h1, p1, t1, s1⟩ := m_sw54 mb (i := 28 * (2 * t + (!row).toNat) + i) (k := 28 * (2 * t + (!row).toNat) + k) (by omega) (by omega)
  obtain ⟨h2, p2, t2, s2⟩ := m_sw55 t1 (i := 28 * (2 * t + (!row).toNat) + i) (k := 28 * (2 * t + (!row).toNat) + k) (by omega) (by omega)
  refine ⟨h2, ?_, t2, s1.trans s2⟩
  unfold f_X9_exchange_c118
  rw [mb.from, qbind, m_trailAt mb row i, qbind, m_trailAt mb row k, qbind, p1, qbind, t1.signed, qbind, m_trailAt t1 row i, qbind, m_trailAt t1 row k, qbind, p2, qbind]
theorem m_exchange (mb : qMb h c x y fo fr ff fg fw) (w : qWA A) (h6 : t < 6) (row : Bool) {i k : Nat} (hi : i < (A.1 t).1) (hk : k < (A.1 t).1) (hm : ∀ u, u < 6 → qMt fo fr ff fg fw u (A.1 u)) :
    ∃ r : Int32 × mH, (if qB2I row = 0 then f_X9_exchange_l54 (some 51) (nI t) (qB2I row) (nI i) (nI k) 0 h else (mGR h (some 51) 8 2).bind fun x3 => (f_X9_swaps x3 (28 * nI t + nI i) (28 * nI t + nI k) h).bind fun x4 => f_X9_exchange_l54 (some 51) (nI t) (qB2I row) (nI i) (nI k) 0 x4) = some r ∧ r.1 = 1 ∧ qSame qC5 h r.2 ∧ ∃ fr' ff' fg', qMb r.2 c x y fo fr' ff' fg' fw ∧ ∀ u, u < 6 → qMt fo fr' ff' fg' fw u ((qSetT A t (qEx (A.1 t) row i k)).1 u) := by
  have wt := w.1 t h6
  have hn := wt.1
  obtain ⟨c1, c2, c3, c4, c5, c6⟩ := hm t h6
  cases row
  · rw [qif0]
    unfold f_X9_exchange_l54
    refine mLoop_inv (b := fun x : Int32 × mH => f_X9_exchange_b54 (some 51) (nI t) (qB2I false) (nI i) (nI k) x.1 x.2) (fun j (s : Int32 × mH) => s.1 = nI j ∧ qSame qC5 h s.2 ∧ ∃ frk, qMb s.2 c x y fo frk ff fg fw ∧ (∀ p, p < j → frk (28 * t + p) = nI (qBx ((A.1 t).2.1 p) i k)) ∧ (∀ p, j ≤ p → frk (28 * t + p) = fr (28 * t + p)) ∧ qOut 28 t fr frk) (A.1 t).1 (fun r : Int32 × mH => r.1 = 1 ∧ qSame qC5 h r.2 ∧ ∃ fr' ff' fg', qMb r.2 c x y fo fr' ff' fg' fw ∧ ∀ u, u < 6 → qMt fo fr' ff' fg' fw u ((qSetT A t (qEx (A.1 t) false i k)).1 u)) (s0 := (nI 0, h)) ⟨rfl, qSame.rf, fr, mb, fun j hj => absurd hj (Nat.not_lt_zero j), fun _ _ => rfl, qOut.rf⟩ ?_ ?_
    · rintro j ⟨ij, hj⟩ hjn ⟨rfl, sk, frk, tk, a1, a2, a3⟩
      have hr := q31 hn (wt.2.1 j hjn)
      have e0 : frk (28 * t + j) = nI ((A.1 t).2.1 j) := (a2 j (Nat.le_refl j)).trans (c2 j hjn)
      have em : ∀ z, z < 28 → f_X9_isMinus (some 51) (nI t) (nI j) (nI z) hj = some (qB2I (((A.1 t).2.1 j).testBit z)) := by
        intro z hz
        unfold f_X9_isMinus f_X9_rowOf
        rw [tk.is, qbind, qbind, tk.rows, qbind, qL28, qI_mul, qI_add, tk.row (by omega), qbind, e0, qbind, m_has (by omega) (by omega), qbind, if_pos (qB01 _)]
      show ∃ s', f_X9_exchange_b54 (some 51) (nI t) (qB2I false) (nI i) (nI k) (nI j) hj = some (.inl s') ∧ _
      unfold f_X9_exchange_b54
      rw [tk.orders, qbind, tk.order h6, qbind, c1, if_neg (by rw [qle (by omega) (by omega)]; omega), qif0, em i (by omega), qbind, em k (by omega), qbind]
      by_cases hb : ((A.1 t).2.1 j).testBit i = ((A.1 t).2.1 j).testBit k
      · rw [if_pos (congrArg qB2I hb), nI_1]
        refine ⟨_, rfl, rfl, sk, frk, tk, fun p hp => ?_, fun p hp => a2 p (by omega), a3⟩
        by_cases hpj : p = j
        · rw [hpj, e0]; unfold qBx; rw [if_pos hb]
        · exact a1 p (by omega)
      · rw [if_neg fun z => hb ((qB2I_inj _ _).mp z)]
        obtain ⟨h2, p2, t2, s2⟩ := tk.st53 (i := 28 * t + j) (by omega) (nI (qBx ((A.1 t).2.1 j) i k))
        have eb : (A.1 t).2.1 j ^^^ (2 ^ i ||| 2 ^ k) = qBx ((A.1 t).2.1 j) i k := by unfold qBx; rw [if_neg hb]
        refine ⟨(nI (j + 1), h2), ?_, rfl, sk.trans s2, _, t2, fun p hp => ?_, fun p hp => ?_, a3.up (by omega) (by omega) _⟩
        · rw [tk.rows, qbind, qL28, qI_mul, qI_add, tk.row (by omega), qbind, e0, qI_pow (by omega), qI_pow (by omega), qI_or, qI_xor, eb, p2, qbind, nI_1]
        · by_cases hpj : p = j
          · rw [hpj, qUps]
          · rw [qUpn (by omega)]; exact a1 p (by omega)
        · rw [qUpn (by omega)]; exact a2 p (by omega)
    · rintro ⟨ij, hj⟩ ⟨rfl, sk, frk, tk, a1, a2, a3⟩
      obtain ⟨h2, p2, t2, s2⟩ := m_exch_c tk h6 false (i := i) (k := k) (by omega) (by omega)
      refine ⟨(1, h2), ?_, rfl, sk.trans s2, _, _, _, t2, qMset w hm ⟨c1, a1, fun j hj => ?_, fun j hj => ?_, c5, c6⟩ qOut.rf a3 (qOut.rf.sw (by simp; omega) (by simp; omega)) (qOut.rf.sw (by simp; omega) (by simp; omega)) qOut.rf⟩
      · show f_X9_exchange_b54 _ _ _ _ _ _ _ = _
        unfold f_X9_exchange_b54
        rw [tk.orders, qbind, tk.order h6, qbind, c1, if_pos (by rw [qle (by omega) (by omega)]; omega), p2]
        rfl
      · have hj' : j < (A.1 t).1 := hj
        rw [qSw_out (by simp; omega) (by simp; omega), qSw_out (by simp; omega) (by simp; omega)]
        exact c3 j hj
      · have hj' : j < (A.1 t).1 := hj
        show qSw ff (28 * (2 * t + 1) + i) (28 * (2 * t + 1) + k) (28 * (2 * t + 1) + j) = nI (qSw (A.1 t).2.2.2.1 i k j / 2) ∧ qSw fg (28 * (2 * t + 1) + i) (28 * (2 * t + 1) + k) (28 * (2 * t + 1) + j) = nI (qSw (A.1 t).2.2.2.1 i k j % 2)
        rw [qSw_off, qSw_off]
        exact ⟨qSw_map (fun a => nI (a / 2)) (fun z hz => (c4 z hz).1) hi hk hj', qSw_map (fun a => nI (a % 2)) (fun z hz => (c4 z hz).2) hi hk hj'⟩
  · rw [qif1]
    obtain ⟨h1, p1, t1, s1⟩ := m_sw53 mb (i := 28 * t + i) (k := 28 * t + k) (by omega) (by omega)
    obtain ⟨h2, p2, t2, s2⟩ := m_exch_c t1 h6 true (i := i) (k := k) (by omega) (by omega)
    refine ⟨(1, h2), ?_, rfl, s1.trans s2, _, _, _, t2, qMset w hm ⟨c1, fun j hj => ?_, fun j hj => ?_, fun j hj => ?_, c5, c6⟩ qOut.rf (qOut.rf.sw (by omega) (by omega)) (qOut.rf.sw (by simp; omega) (by simp; omega)) (qOut.rf.sw (by simp; omega) (by simp; omega)) qOut.rf⟩
    · rw [mb.rows, qbind, qL28, qI_mul, qI_add, qI_add, p1, qbind]
      unfold f_X9_exchange_l54
      refine mLoop_inr ?_
      show f_X9_exchange_b54 _ _ _ _ _ _ _ = _
      unfold f_X9_exchange_b54
      rw [t1.orders, qbind, t1.order h6, qbind, c1, if_neg (by rw [qI_zero, qle (by omega) (by omega)]; omega), qif1, p2]
      rfl
    · have hj' : j < (A.1 t).1 := hj
      rw [qSw_off]
      exact qSw_map nI c2 hi hk hj'
    · have hj' : j < (A.1 t).1 := hj
      show qSw ff (28 * (2 * t) + i) (28 * (2 * t) + k) (28 * (2 * t) + j) = nI (qSw (A.1 t).2.2.1 i k j / 2) ∧ qSw fg (28 * (2 * t) + i) (28 * (2 * t) + k) (28 * (2 * t) + j) = nI (qSw (A.1 t).2.2.1 i k j % 2)
      rw [qSw_off, qSw_off]
      exact ⟨qSw_map (fun a => nI (a / 2)) (fun z hz => (c3 z hz).1) hi hk hj', qSw_map (fun a => nI (a % 2)) (fun z hz => (c3 z hz).2) hi hk hj'⟩
    · have hj' : j < (A.1 t).1 := hj
      rw [qSw_out (by simp; omega) (by simp; omega), qSw_out (by simp; omega) (by simp; omega)]
      exact c4 j hj
end QEY
theorem qLn3 {h : mH} {A : qA} (I : qI h A) {x : Int32} {t : Nat} (hx : qYes A x t) (i : Int32) : (f_X7_has (some (3 + 4 * t)) i h = some 0 ∧ f_X9_isLine (some 51) x i h = some 0) ∨ ∃ k, k < (A.1 t).1 ∧ i = nI k ∧ f_X7_has (some (3 + 4 * t)) i h = some 1 ∧ f_X9_isLine (some 51) x i h = some 1 := by
  obtain ⟨q, m, w⟩ := I
  obtain ⟨x0, y0, fo, fr, ff, fg, fw, mb, hm⟩ := m.b
  obtain ⟨bk, bs, bc, ra, rb, fr', fa, fb, hT, -⟩ := q.2.2.2.1 t hx.1
  have hn := (w.1 t hx.1).1
  rcases qarg i with hi | ⟨k, hk, rfl⟩
  · exact Or.inl ⟨x_has_neg hT hi, m_line_neg mb hm w hx hi⟩
  · have e1 := x_has hT hn hk
    have e2 := m_line mb hm w hx hk
    by_cases h1 : k < (A.1 t).1
    · rw [decide_eq_true h1] at e1 e2
      exact Or.inr ⟨k, h1, rfl, e1, e2⟩
    · rw [decide_eq_false h1] at e1 e2
      exact Or.inl ⟨e1, e2⟩
theorem op_exchange {h : mH} {A : qA} (I : qI h A) (x i j : Int32) (row : Bool) : qStep (f_X8_exchange (some 1) x (qB2I row) i j) (f_X9_exchange (some 51) x (qB2I row) i j) h := by
  have L := qLn2 I x i
  have I0 := I
  obtain ⟨q, m, w⟩ := I
  obtain ⟨x0, y0, fo, fr, ff, fg, fw, mb, hm⟩ := m.b
  rcases L with ⟨l1, l2, -⟩ | ⟨t, hx, l1, -, l3, l4⟩ | ⟨t, k, hx, hk, rfl, l1, -, l3, l4⟩
  · refine qStep.none (r := 0) I0 ?_ ?_
    · unfold f_X8_exchange; rw [q.is, qbind, l1, qbind, if_pos rfl]
    · unfold f_X9_exchange; rw [mb.is, qbind, l2, qbind, if_pos rfl]
  · refine qStep.none (r := 0) I0 ?_ ?_
    · unfold f_X8_exchange; rw [q.is, qbind, l1, qbind, if_neg qne, l3, qbind, if_pos rfl]
    · unfold f_X9_exchange; rw [mb.is, qbind, l4, qbind, if_pos rfl]
  · have h6 := hx.1
    have wt := w.1 t h6
    have hn := wt.1
    rcases qLn3 I0 hx j with ⟨l5, l6⟩ | ⟨k2, hk2, rfl, l5, l6⟩
    · refine qStep.none (r := 0) I0 ?_ ?_
      · unfold f_X8_exchange; rw [q.is, qbind, l1, qbind, if_neg qne, l3, qbind, if_neg q10, l5, qbind, if_pos rfl]
      · unfold f_X9_exchange; rw [mb.is, qbind, l4, qbind, if_neg q10, l6, qbind, if_pos rfl]
    · by_cases hkk : nI k = nI k2
      · refine qStep.none (r := 0) I0 ?_ ?_
        · unfold f_X8_exchange; rw [q.is, qbind, l1, qbind, if_neg qne, l3, qbind, if_neg q10, l5, qbind, if_neg q10, if_pos hkk]
        · unfold f_X9_exchange; rw [mb.is, qbind, l4, qbind, if_neg q10, l6, qbind, if_neg q10, if_pos hkk]
      · obtain ⟨h1, p1, t1, s1⟩ := x_exchange (q.2.2.2.1 t h6) wt row hk hk2
        have e1 : f_X8_exchange (some 1) x (qB2I row) (nI k) (nI k2) h = some (1, h1) := by
          unfold f_X8_exchange; rw [q.is, qbind, l1, qbind, if_neg qne, l3, qbind, if_neg q10, l5, qbind, if_neg q10, if_neg hkk, p1, qbind]
        have s1' := s1.mono (qIs4.cx h6)
        have m1 := m.same s1'
        obtain ⟨x2, y2, fo2, fr2, ff2, fg2, fw2, mb2, hm2⟩ := m1.b
        obtain ⟨⟨r2, h2⟩, p2, r2e, s2, fr3, ff3, fg3, tb, hm3⟩ := m_exchange mb2 w h6 row hk hk2 hm2
        have l7 := m_line mb2 hm2 w hx (k := k) (by omega)
        have l8 := m_line mb2 hm2 w hx (k := k2) (by omega)
        rw [decide_eq_true hk] at l7
        rw [decide_eq_true hk2] at l8
        have r2e' : r2 = 1 := r2e
        have e2 : f_X9_exchange (some 51) x (qB2I row) (nI k) (nI k2) h1 = some (1, h2) := by
          unfold f_X9_exchange; rw [mb2.is, qbind, l7, qbind, qif1, l8, qbind, qif1, if_neg hkk, hx.2.1, p2, r2e']
        exact qStep.mk (A' := qSetT A t (qEx (A.1 t) row k k2)) e1 (q.tab h6 s1 t1) s1' e2 (m1.upd s2 tb hm3 rfl) (s2.mono qC5.cm) (w.tab (qEx_w wt row hk hk2))
