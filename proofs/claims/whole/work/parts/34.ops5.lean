/-! PURE: knots in common; the nearest row -/
theorem qFo_count (p : Nat → Bool) (n : Nat) : qFo (fun k (s : Int32) => if p k = true then s + 1 else s) n 0 = nI (qc n p) := by
  induction n with
  | zero => rfl
  | succ n ih =>
    show (if p n = true then qFo _ n 0 + 1 else qFo _ n 0) = nI (qc n p + (p n).toNat)
    rw [ih]
    cases p n
    · simp
    · rw [if_pos rfl, nI_1]; rfl
theorem qc_pair {m : Nat} {f g : Nat → Bool} (hp : ∀ j, j < m → (f (2 * j)).toNat + (f (2 * j + 1)).toNat = (g j).toNat) : qc (2 * m) f = qc m g := by
  induction m with
  | zero => rfl
  | succ m ih =>
    show qc (2 * m) f + (f (2 * m)).toNat + (f (2 * m + 1)).toNat = qc m g + (g m).toNat
    rw [ih fun j hj => hp j (by omega)]
    have := hp m (by omega)
    omega
/-- bits in which two words are unlike, or alike -/
theorem qc_unlike {n u : Nat} (hn : n ≤ 28) (hu : u < 2 ^ n) (b : Bool) : qc n (fun j => u.testBit j == b) = if b then qp u else n - qp u := by
  rw [qp_lt hu (by omega)]
  cases b
  · have h1 := qc_not n (fun i => u.testBit i)
    have h2 : qc n (fun j => u.testBit j == false) = qc n (fun i => !u.testBit i) := qc_eq fun i _ => by cases u.testBit i <;> rfl
    rw [h2, if_neg (by decide)]
    omega
  · rw [if_pos rfl]
    exact qc_eq fun i _ => by cases u.testBit i <;> rfl
theorem qCol_lt (T : qT) (j : Nat) : qCol T j < 2 ^ T.1 := qW_lt _ _
theorem qCol_bit {T : qT} {j i : Nat} (hi : i < T.1) : (qCol T j).testBit i = (T.2.1 i).testBit j := by
  unfold qCol
  rw [qW_bit]
  simp [hi]
/-- knots that have lines to both: rows -/
theorem qJn_rows {T : qT} (w : qWT T) {a b : Nat} (ha : a < 2 * T.1) (hb : b < 2 * T.1) : qc (4 * T.1) (fun k => qJn T a k && qJn T k b) = if a % 2 = b % 2 then T.1 - qp (T.2.1 (a / 2) ^^^ T.2.1 (b / 2)) else qp (T.2.1 (a / 2) ^^^ T.2.1 (b / 2)) := by
  rw [show 4 * T.1 = 2 * T.1 + 2 * T.1 by omega, qc_tail]
  have h0 : qc (2 * T.1) (fun k => qJn T a k && qJn T k b) = 0 := qc_zero.mpr fun k hk => by simp [qJn, ha, hk]
  have h1 : qc (2 * T.1) (fun c => qJn T a (2 * T.1 + c) && qJn T (2 * T.1 + c) b) = qc T.1 (fun j => (T.2.1 (a / 2) ^^^ T.2.1 (b / 2)).testBit j == (a % 2 != b % 2)) := by
    refine qc_pair fun j hj => ?_
    have e : ∀ c, qJn T a (2 * T.1 + c) = ((T.2.1 (a / 2)).testBit (c / 2) == (a % 2 != c % 2)) := fun c => by
      unfold qJn
      rw [if_pos ha, if_neg (by omega), Nat.add_sub_cancel_left]
    have e2 : ∀ c, qJn T (2 * T.1 + c) b = ((T.2.1 (b / 2)).testBit (c / 2) == (b % 2 != c % 2)) := fun c => by
      unfold qJn
      rw [if_neg (by omega), if_pos hb, Nat.add_sub_cancel_left]
    rw [e, e, e2, e2, show 2 * j / 2 = j by omega, show (2 * j + 1) / 2 = j by omega, show 2 * j % 2 = 0 by omega, show (2 * j + 1) % 2 = 1 by omega, Nat.testBit_xor]
    rcases qPar a with h2 | h2 <;> rcases qPar b with h3 | h3 <;> rw [h2, h3] <;> cases (T.2.1 (a / 2)).testBit j <;> cases (T.2.1 (b / 2)).testBit j <;> rfl
  rw [h0, h1, qc_unlike w.1 (Nat.xor_lt_two_pow (w.2.1 _ (by omega)) (w.2.1 _ (by omega)))]
  by_cases he : a % 2 = b % 2
  · rw [if_pos he]; simp [he]
  · rw [if_neg he]
    have : (a % 2 != b % 2) = true := by simpa using he
    rw [this]; simp
/-- columns -/
theorem qJn_cols {T : qT} (w : qWT T) {a b : Nat} (ha : a < 2 * T.1) (hb : b < 2 * T.1) : qc (4 * T.1) (fun k => qJn T (2 * T.1 + a) k && qJn T k (2 * T.1 + b)) = if a % 2 = b % 2 then T.1 - qp (qCol T (a / 2) ^^^ qCol T (b / 2)) else qp (qCol T (a / 2) ^^^ qCol T (b / 2)) := by
  rw [show 4 * T.1 = 2 * T.1 + 2 * T.1 by omega, qc_tail]
  have h0 : qc (2 * T.1) (fun c => qJn T (2 * T.1 + a) (2 * T.1 + c) && qJn T (2 * T.1 + c) (2 * T.1 + b)) = 0 := qc_zero.mpr fun k hk => by
    have : qJn T (2 * T.1 + a) (2 * T.1 + k) = false := by
      unfold qJn
      rw [if_neg (by omega), if_neg (by omega)]
    rw [this]; rfl
  have h1 : qc (2 * T.1) (fun k => qJn T (2 * T.1 + a) k && qJn T k (2 * T.1 + b)) = qc T.1 (fun j => (qCol T (a / 2) ^^^ qCol T (b / 2)).testBit j == (a % 2 != b % 2)) := by
    refine qc_pair fun j hj => ?_
    have e : ∀ c, c < 2 * T.1 → qJn T (2 * T.1 + a) c = ((T.2.1 (c / 2)).testBit (a / 2) == (c % 2 != a % 2)) := fun c hc => by
      unfold qJn
      rw [if_neg (by omega), if_pos hc, Nat.add_sub_cancel_left]
    have e2 : ∀ c, c < 2 * T.1 → qJn T c (2 * T.1 + b) = ((T.2.1 (c / 2)).testBit (b / 2) == (c % 2 != b % 2)) := fun c hc => by
      unfold qJn
      rw [if_pos hc, if_neg (by omega), Nat.add_sub_cancel_left]
    rw [e _ (by omega), e _ (by omega), e2 _ (by omega), e2 _ (by omega), show 2 * j / 2 = j by omega, show (2 * j + 1) / 2 = j by omega, show 2 * j % 2 = 0 by omega, show (2 * j + 1) % 2 = 1 by omega, Nat.testBit_xor, qCol_bit hj, qCol_bit hj]
    rcases qPar a with h2 | h2 <;> rcases qPar b with h3 | h3 <;> rw [h2, h3] <;> cases (T.2.1 j).testBit (a / 2) <;> cases (T.2.1 j).testBit (b / 2) <;> rfl
  rw [h0, h1, qc_unlike w.1 (Nat.xor_lt_two_pow (qCol_lt _ _) (qCol_lt _ _))]
  by_cases he : a % 2 = b % 2
  · rw [if_pos he]; simp [he]
  · rw [if_neg he]
    have : (a % 2 != b % 2) = true := by simpa using he
    rw [this]; simp
theorem qJn_mix {T : qT} {a b : Nat} (hab : ¬ (a < 2 * T.1 ↔ b < 2 * T.1)) : qc (4 * T.1) (fun k => qJn T a k && qJn T k b) = 0 := by
  refine qc_zero.mpr fun k hk => ?_
  unfold qJn
  by_cases ha : a < 2 * T.1
  · have hb : ¬ b < 2 * T.1 := fun z => hab ⟨fun _ => z, fun _ => ha⟩
    by_cases hk2 : k < 2 * T.1 <;> simp [ha, hb, hk2]
  · have hb : b < 2 * T.1 := Classical.not_not.mp fun z => hab ⟨fun y => absurd y ha, fun y => absurd y z⟩
    by_cases hk2 : k < 2 * T.1 <;> simp [ha, hb, hk2]
theorem x_common_tail {h : mH} {A : qA} (q : qX h A) (w : qWA A) {t : Nat} (h6 : t < 6) (row : Bool) {a b : Nat} (ha : a < 2 * (A.1 t).1) (hb : b < 2 * (A.1 t).1) : f_X8_common_c106 (some (3 + 4 * t)) (nI (A.1 t).1) (qB2I row) (nI a) (nI b) h = some (nI (if a % 2 = b % 2 then (A.1 t).1 - qp (qLine (A.1 t) row (a / 2) ^^^ qLine (A.1 t) row (b / 2)) else qp (qLine (A.1 t) row (a / 2) ^^^ qLine (A.1 t) row (b / 2)))) := by
  obtain ⟨bk, bs, bc, ra, rb, fr', fa, fb, hT, hs⟩ := q.2.2.2.1 t h6
  have wt := w.1 t h6
  have hn := wt.1
  have hu := Nat.xor_lt_two_pow (qLine_lt wt row (show a / 2 < (A.1 t).1 by omega)) (qLine_lt wt row (show b / 2 < (A.1 t).1 by omega))
  have hu2 := q31 hn hu
  unfold f_X8_common_c106
  rw [qI_one, qI_shr (by omega) (by decide), qI_shr (by omega) (by decide), Nat.pow_one, x_line hT wt hs.1 row (by omega), qbind, x_line hT wt hs.1 row (by omega), qbind, qI_xor, qJ_bitCount (by omega), qbind, qI_xor, qI_and, Nat.and_one_is_mod]
  have hle : qp (qLine (A.1 t) row (a / 2) ^^^ qLine (A.1 t) row (b / 2)) ≤ (A.1 t).1 := by rw [qp_lt hu (by omega)]; exact qc_le _ _
  have hz := @Nat.xor_mod_two_eq_one a b
  by_cases he : a % 2 = b % 2
  · rw [if_pos (by rw [qI_zero, qeq (by omega) (by decide)]; omega), if_pos he, qI_sub hle]
  · rw [if_neg (by rw [qI_zero, qeq (by omega) (by decide)]; omega), if_neg he]
theorem op_common {h : mH} {A : qA} (I : qI h A) (x a b : Int32) : ∃ v, f_X8_common (some 1) x a b h = some v ∧ f_X9_common (some 51) x a b h = some v := by
  have Lb := qTb2 I x
  have I0 := I
  obtain ⟨q, m, w⟩ := I
  obtain ⟨x0, y0, fo, fr, ff, fg, fw, mb, hm⟩ := m.b
  unfold f_X8_common f_X9_common
  rw [q.is, qbind, mb.is, qbind]
  rcases Lb with ⟨l1, l2⟩ | ⟨t, hx, l1, l2⟩
  · refine ⟨-1, by rw [l1, qbind, if_pos rfl], ?_⟩
    have : f_X9_isKnot (some 51) x a h = some 0 := by
      unfold f_X9_isKnot
      rw [mb.is, qbind, l2, qbind, if_pos rfl]
    rw [this, qbind, if_pos rfl]
  · rw [l1, qbind, if_neg qne]
    rcases qKn2 I0 hx a with ⟨k1, k2⟩ | ⟨i, hi, rfl, k1, k2⟩
    · exact ⟨-1, by rw [k1, qbind, if_pos rfl], by rw [k2, qbind, if_pos rfl]⟩
    · rw [k1, qbind, if_neg q10, k2, qbind, if_neg q10]
      rcases qKn2 I0 hx b with ⟨k1, k2⟩ | ⟨j, hj, rfl, k1, k2⟩
      · exact ⟨-1, by rw [k1, qbind, if_pos rfl], by rw [k2, qbind, if_pos rfl]⟩
      · obtain ⟨bk, bs, bc, ra, rb, fr', fa, fb, hT, hs⟩ := q.2.2.2.1 t hx.1
        have h6 := hx.1
        have wt := w.1 t h6
        have hn := wt.1
        rw [k1, qbind, if_neg q10, k2, qbind, if_neg q10, hT.size, qbind, hx.2.1]
        refine ⟨nI (qc (4 * (A.1 t).1) (fun k => qJn (A.1 t) i k && qJn (A.1 t) k j)), ?_, ?_⟩
        · rw [qL2, qI_mul]
          unfold f_X8_common_c52 f_X8_common_c69 f_X8_common_c89
          rw [qL2, qI_mul]
          by_cases h1 : i < 2 * (A.1 t).1
          · rw [if_neg (by rw [qle (by omega) (by omega)]; omega)]
            by_cases h2 : j < 2 * (A.1 t).1
            · rw [if_neg (by rw [qle (by omega) (by omega)]; omega), if_pos rfl, if_neg q10, if_neg q10, qJn_rows wt h1 h2]
              exact x_common_tail q w h6 true h1 h2
            · rw [if_pos (by rw [qle (by omega) (by omega)]; omega), if_neg (by decide), qJn_mix (by omega)]; rfl
          · rw [if_pos (by rw [qle (by omega) (by omega)]; omega)]
            by_cases h2 : j < 2 * (A.1 t).1
            · rw [if_neg (by rw [qle (by omega) (by omega)]; omega), if_neg (by decide), qJn_mix (by omega)]; rfl
            · rw [if_pos (by rw [qle (by omega) (by omega)]; omega), if_pos rfl, if_pos rfl, if_pos rfl, qI_sub (by omega), qI_sub (by omega)]
              have e := qJn_cols wt (a := i - 2 * (A.1 t).1) (b := j - 2 * (A.1 t).1) (by omega) (by omega)
              rw [show 2 * (A.1 t).1 + (i - 2 * (A.1 t).1) = i by omega, show 2 * (A.1 t).1 + (j - 2 * (A.1 t).1) = j by omega] at e
              rw [e]
              exact x_common_tail q w h6 false (by omega) (by omega)
        · rw [← qFo_count]
          unfold f_X9_common_l26
          refine qLoop2 _ (4 * (A.1 t).1) 0 id (fun k s hk => ?_) (fun s => ?_)
          · show f_X9_common_b26 _ _ _ _ _ _ _ = _
            unfold f_X9_common_b26
            rw [mb.orders, qbind, mb.order h6, qbind, (hm t h6).1, show (4 : Int32) = nI 4 from rfl, qI_mul, if_neg (by rw [qle (by omega) (by omega)]; omega), m_between m w h6 hi hk, qbind, nI_1]
            cases qJn (A.1 t) i k
            · rw [qif0]; simp
            · rw [qif1, m_between m w h6 hk hj, qbind]
              cases qJn (A.1 t) k j
              · rw [qif0]; simp
              · rw [qif1]; simp
          · show f_X9_common_b26 _ _ _ _ _ _ _ = _
            unfold f_X9_common_b26
            rw [mb.orders, qbind, mb.order h6, qbind, (hm t h6).1, show (4 : Int32) = nI 4 from rfl, qI_mul, if_pos (by rw [qle (by omega) (by omega)]; omega)]; rfl
