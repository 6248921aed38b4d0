/-! PURE: the network -/
/-- whether a line joins two knots -/
def qJn (T : qT) (a b : Nat) : Bool :=
  if a < 2 * T.1 then (if b < 2 * T.1 then false else (T.2.1 (a / 2)).testBit ((b - 2 * T.1) / 2) == (a % 2 != (b - 2 * T.1) % 2))
  else if b < 2 * T.1 then (T.2.1 (b / 2)).testBit ((a - 2 * T.1) / 2) == (b % 2 != (a - 2 * T.1) % 2) else false
theorem qPar (a : Nat) : a % 2 = 0 ∨ a % 2 = 1 := Nat.mod_two_eq_zero_or_one a
section QNET
variable {h : mH} {A : qA} {t : Nat}
theorem m_between (m : qM h A) (w : qWA A) (h6 : t < 6) {a b : Nat} (ha : a < 4 * (A.1 t).1) (hb : b < 4 * (A.1 t).1) : f_X9_isLineBetween (some 51) (nI t) (nI a) (nI b) h = some (qB2I (qJn (A.1 t) a b)) := by
  obtain ⟨x0, y0, fo, fr, ff, fg, fw, mb, hm⟩ := m.b
  have wt := w.1 t h6
  have hn := wt.1
  have key : ∀ r c : Nat, r < 2 * (A.1 t).1 → c < 2 * (A.1 t).1 → f_X9_isLineBetween_c67 (some 51) (nI t) (nI r) (nI c) h = some (qB2I (((A.1 t).2.1 (r / 2)).testBit (c / 2) == (r % 2 != c % 2))) := by
    intro r c hr hc
    unfold f_X9_isLineBetween_c67 f_X9_isLineBetween_c98
    rw [qL2, qI_div (by omega) (by decide) (by decide), qI_div (by omega) (by decide) (by decide), m_isMinus mb (hm t h6) h6 wt (by omega) (by omega), qbind, qI_rem (by omega) (by decide) (by decide), qI_rem (by omega) (by decide) (by decide)]
    by_cases he : r % 2 = c % 2
    · rw [if_pos (by rw [he]), he]
      cases ((A.1 t).2.1 (r / 2)).testBit (c / 2) <;> simp [qB2I]
    · rw [if_neg (by rw [qeq (by omega) (by omega)]; exact he)]
      have : (r % 2 != c % 2) = true := by simpa using he
      rw [this]
      cases ((A.1 t).2.1 (r / 2)).testBit (c / 2) <;> simp [qB2I]
  unfold f_X9_isLineBetween
  rw [mb.is, qbind, mb.orders, qbind, mb.order h6, qbind, (hm t h6).1, qL2, qI_mul]
  unfold f_X9_isLineBetween_c21 f_X9_isLineBetween_c32 f_X9_isLineBetween_c48 qJn
  by_cases h1 : a < 2 * (A.1 t).1
  · rw [if_neg (by rw [qle (by omega) (by omega)]; omega), if_pos h1]
    by_cases h2 : b < 2 * (A.1 t).1
    · rw [if_neg (by rw [qle (by omega) (by omega)]; omega), if_pos rfl, if_pos h2]; rfl
    · rw [if_pos (by rw [qle (by omega) (by omega)]; omega), if_neg (by decide), if_neg (by rw [qle (by omega) (by omega)]; omega), if_neg (by rw [qle (by omega) (by omega)]; omega), qI_sub (by omega), key a _ h1 (by omega), if_neg h2]
  · rw [if_pos (by rw [qle (by omega) (by omega)]; omega), if_neg h1]
    by_cases h2 : b < 2 * (A.1 t).1
    · rw [if_neg (by rw [qle (by omega) (by omega)]; omega), if_neg (by decide), if_pos (by rw [qle (by omega) (by omega)]; omega), if_pos (by rw [qle (by omega) (by omega)]; omega), qI_sub (by omega), key b _ h2 (by omega), if_pos h2]
    · rw [if_pos (by rw [qle (by omega) (by omega)]; omega), if_pos rfl, if_neg h2]; rfl
end QNET
/-- a knot, as both sides ask -/
theorem qKn2 {h : mH} {A : qA} (I : qI h A) {x : Int32} {t : Nat} (hx : qYes A x t) (a : Int32) :
    (f_X8_isKnot (some (3 + 4 * t)) a h = some 0 ∧ f_X9_isKnot (some 51) x a h = some 0) ∨ ∃ k, k < 4 * (A.1 t).1 ∧ a = nI k ∧ f_X8_isKnot (some (3 + 4 * t)) a h = some 1 ∧ f_X9_isKnot (some 51) x a h = some 1 := by
  obtain ⟨q, m, w⟩ := I
  obtain ⟨x0, y0, fo, fr, ff, fg, fw, mb, hm⟩ := m.b
  obtain ⟨bk, bs, bc, ra, rb, fr', fa, fb, hT, hs⟩ := q.2.2.2.1 t hx.1
  have hn := (w.1 t hx.1).1
  have h0 := hx.2.2
  unfold f_X8_isKnot f_X9_isKnot
  rw [hT.size, qbind, mb.is, qbind, m_tab_yes mb hm w hx, qbind, if_neg q10, mb.orders, qbind, hx.2.1, mb.order hx.1, qbind, (hm t hx.1).1, show (4 : Int32) = nI 4 from rfl, qI_mul, qI_one, qI_sub (by omega)]
  rcases qarg a with ha | ⟨k, hk, rfl⟩
  · exact Or.inl ⟨by rw [if_pos ha], by rw [m_in_neg ha, qbind, if_pos rfl]⟩
  · rw [if_neg (qpos hk), m_in_k hk (by omega), qbind]
    by_cases h4 : k < 4 * (A.1 t).1
    · refine Or.inr ⟨k, h4, rfl, ?_, ?_⟩
      · rw [if_neg (by rw [qle (by omega) hk]; omega)]
      · rw [decide_eq_true (by omega), qif1]
    · refine Or.inl ⟨?_, ?_⟩
      · rw [if_pos (by rw [qle (by omega) hk]; omega)]
      · rw [decide_eq_false (by omega), qif0]
theorem op_joined {h : mH} {A : qA} (I : qI h A) (x a b : Int32) : ∃ v, f_X8_joined (some 1) x a b h = some v ∧ f_X9_joined (some 51) x a b h = some v := by
  have Lb := qTb2 I x
  have I0 := I
  obtain ⟨q, m, w⟩ := I
  obtain ⟨x0, y0, fo, fr, ff, fg, fw, mb, hm⟩ := m.b
  unfold f_X8_joined f_X9_joined
  rw [q.is, qbind, mb.is, qbind]
  rcases Lb with ⟨l1, l2⟩ | ⟨t, hx, l1, l2⟩
  · refine ⟨-1, by rw [l1, qbind, if_pos rfl], ?_⟩
    have : f_X9_isKnot (some 51) x a h = some 0 := by
      unfold f_X9_isKnot
      rw [mb.is, qbind, l2, qbind, if_pos rfl]
    rw [this, qbind, if_pos rfl]
  · rw [l1, qbind, if_neg qne]
    rcases qKn2 I0 hx a with ⟨k1, k2⟩ | ⟨i, hi, rfl, k1, k2⟩
    · exact ⟨-1, by rw [k1, qbind, if_pos rfl], by rw [k2, qbind, if_pos rfl]⟩
    · rw [k1, qbind, if_neg q10, k2, qbind, if_neg q10]
      rcases qKn2 I0 hx b with ⟨k1, k2⟩ | ⟨j, hj, rfl, k1, k2⟩
      · exact ⟨-1, by rw [k1, qbind, if_pos rfl], by rw [k2, qbind, if_pos rfl]⟩
      · obtain ⟨bk, bs, bc, ra, rb, fr', fa, fb, hT, hs⟩ := q.2.2.2.1 t hx.1
        have h6 := hx.1
        have wt := w.1 t h6
        have hn := wt.1
        rw [k1, qbind, if_neg q10, k2, qbind, if_neg q10, hT.size, qbind, hx.2.1, m_between m w h6 hi hj, qbind]
        refine ⟨qB2I (qJn (A.1 t) i j), ?_, by cases qJn (A.1 t) i j <;> rfl⟩
        have hmin : f_J9_min_7cf53 (nI i) (nI j) = some (nI (min i j)) := by
          unfold f_J9_min_7cf53
          by_cases h1 : j < i
          · rw [if_pos ((qlt (by omega) (by omega)).mpr h1), Nat.min_eq_right (by omega)]
          · rw [if_neg (by rw [qlt (by omega) (by omega)]; exact h1), Nat.min_eq_left (by omega)]
        have hmax : f_J9_max_7cf53 (nI i) (nI j) = some (nI (max i j)) := by
          unfold f_J9_max_7cf53
          by_cases h1 : i < j
          · rw [if_pos ((qlt (by omega) (by omega)).mpr h1), Nat.max_eq_right (by omega)]
          · rw [if_neg (by rw [qlt (by omega) (by omega)]; exact h1), Nat.max_eq_left (by omega)]
        rw [hmin, qbind, hmax, qbind, qL2, qI_mul]
        have core : ∀ r c : Nat, r < 2 * (A.1 t).1 → c < 2 * (A.1 t).1 → (if ((nI r ^^^ nI c) &&& (1 : Int32)) = 0 then f_X8_joined_c89 (some (3 + 4 * t)) (nI r) (nI c) 0 h else f_X8_joined_c89 (some (3 + 4 * t)) (nI r) (nI c) 1 h) = some (qB2I (((A.1 t).2.1 (r / 2)).testBit (c / 2) == (r % 2 != c % 2))) := by
          intro r c hr hc
          have hrr := q31 hn (wt.2.1 (r / 2) (by omega))
          have E : ∀ s : Int32, f_X8_joined_c89 (some (3 + 4 * t)) (nI r) (nI c) s h = if qB2I (((A.1 t).2.1 (r / 2)).testBit (c / 2)) = s then some 1 else some 0 := by
            intro s
            unfold f_X8_joined_c89
            rw [qI_one, qI_shr (by omega) (by decide), qI_shr (by omega) (by decide), Nat.pow_one, x_isMinus hT (by omega) (by omega) (hs.1 (r / 2) (by omega)) (by omega), qbind]
          have hx2 : (r ^^^ c) % 2 = (r % 2 + c % 2) % 2 := by
            have hz := @Nat.xor_mod_two_eq_one r c
            omega
          rw [E, E, qI_xor, qI_one, qI_and, Nat.and_one_is_mod, hx2]
          rcases qPar r with hr2 | hr2 <;> rcases qPar c with hc2 | hc2 <;> rw [hr2, hc2] <;> cases ((A.1 t).2.1 (r / 2)).testBit (c / 2) <;> rfl
        unfold qJn
        by_cases h1 : i < 2 * (A.1 t).1
        · by_cases h2 : j < 2 * (A.1 t).1
          · rw [if_pos h1, if_pos h2, if_neg (by rw [qle (by omega) (by omega)]; omega), if_neg (fun z => by have z2 := (show ¬ (nI (max i j) - nI (2 * (A.1 t).1) < 0) from fun y => absurd z (by rw [Int32.not_le]; exact y)); exact z2 (pk_sneg (by omega) (by omega)))]; rfl
          · rw [if_pos h1, if_neg h2, if_neg (by rw [qle (by omega) (by omega)]; omega), Nat.min_eq_left (by omega), Nat.max_eq_right (by omega), qI_sub (by omega), if_pos (nI_pos' (by omega)), core i _ h1 (by omega)]
        · by_cases h2 : j < 2 * (A.1 t).1
          · rw [if_neg h1, if_pos h2, if_neg (by rw [qle (by omega) (by omega)]; omega), Nat.min_eq_right (by omega), Nat.max_eq_left (by omega), qI_sub (by omega), if_pos (nI_pos' (by omega)), core j _ h2 (by omega)]
          · rw [if_neg h1, if_neg h2, if_pos (by rw [qle (by omega) (by omega)]; omega)]; rfl
