/-! PURE: the nearest code word -/
/-- after codes 0 .. k: which is nearest, how far, how many are as near -/
def qNs (d : Nat → Nat) : Nat → Nat × Nat × Nat
  | 0 => (0, d 0, 1)
  | k + 1 => if d (k + 1) < (qNs d k).2.1 then (k + 1, d (k + 1), 1) else if d (k + 1) = (qNs d k).2.1 then ((qNs d k).1, (qNs d k).2.1, (qNs d k).2.2 + 1) else qNs d k
theorem qNs_le {d : Nat → Nat} {n : Nat} (hd : ∀ k, d k ≤ n) (k : Nat) : (qNs d k).1 ≤ k ∧ (qNs d k).2.1 ≤ n ∧ (qNs d k).2.2 ≤ k + 1 := by
  induction k with
  | zero => exact ⟨Nat.le_refl _, hd 0, Nat.le_refl _⟩
  | succ k ih =>
    unfold qNs
    have h1 := hd (k + 1)
    split
    · exact ⟨Nat.le_refl _, h1, by show 1 ≤ k + 1 + 1; omega⟩
    · split
      · exact ⟨by show (qNs d k).1 ≤ k + 1; omega, by show (qNs d k).2.1 ≤ n; omega, by show (qNs d k).2.2 + 1 ≤ k + 1 + 1; omega⟩
      · exact ⟨by omega, by omega, by omega⟩
def qDst (T : qT) (wd k : Nat) : Nat := if k % 2 = 0 then qp (T.2.1 (k / 2) ^^^ wd) else T.1 - qp (T.2.1 (k / 2) ^^^ wd)
def qNp (d : Nat → Nat) (s0 : Int32 × Int32 × Int32 × Int32) (k : Nat) : Int32 × Int32 × Int32 × Int32 := match k with
  | 0 => s0
  | k + 1 => (nI (qNs d k).1, nI (qNs d k).2.1, nI (qNs d k).2.2, nI (k + 1))
theorem op_nearest {h : mH} {A : qA} (I : qI h A) (x wd what : Int32) : ∃ v, f_X8_nearest (some 1) x wd what h = some v ∧ f_X9_nearest (some 51) x wd what h = some v := by
  have L := qTb2 I x
  obtain ⟨q, m, w⟩ := I
  obtain ⟨x0, y0, fo, fr, ff, fg, fw, mb, hm⟩ := m.b
  unfold f_X8_nearest f_X9_nearest
  rw [q.is, qbind, mb.is, qbind]
  rcases L with ⟨l1, l2⟩ | ⟨t, hx, l1, l2⟩
  · exact ⟨-1, by rw [l1, qbind, if_pos rfl], by rw [l2, qbind, if_pos rfl]⟩
  · obtain ⟨bk, bs, bc, ra, rb, fr', fa, fb, hT, hs⟩ := q.2.2.2.1 t hx.1
    have wt := w.1 t hx.1
    have h6 := hx.1
    have h0 := hx.2.2
    have hn := wt.1
    unfold f_X9_isSet
    rw [l1, qbind, if_neg qne, hT.size, qbind, qbind, l2, qbind, if_neg q10, mb.is, qbind, mb.orders, qbind, hx.2.1, mb.order h6, qbind, (hm t h6).1]
    rcases qarg wd with hs0 | ⟨k, hk, rfl⟩
    · exact ⟨-1, by rw [x_isWord_neg hs0, qbind, if_pos rfl], by rw [m_isRow_neg hs0, qbind, if_pos (Or.inl rfl), qbind, if_pos rfl]⟩
    · rw [x_isWord hk hn, qbind, m_isRow hk hn, qbind, if_pos (qB01 _), qbind]
      by_cases hw : k < 2 ^ (A.1 t).1
      · rw [decide_eq_true hw, qif1, qif1]
        rcases qarg what with hw0 | ⟨v, hv, rfl⟩
        · exact ⟨-1, by rw [if_pos hw0], by rw [m_in_neg hw0, qbind, if_pos rfl]⟩
        · rw [if_neg (qpos hv), show (3 : Int32) = nI 3 from rfl, m_in_k hv (by decide), qbind]
          by_cases h3 : v ≤ 3
          · rw [if_pos ((qle hv (by decide)).mpr h3), decide_eq_true h3, qif1, qI_one, qI_add]
            obtain ⟨n2, hn2⟩ : ∃ n2, 2 * (A.1 t).1 = n2 + 1 := ⟨2 * (A.1 t).1 - 1, by omega⟩
            have hd : ∀ c, qDst (A.1 t) k c ≤ max (A.1 t).1 32 := fun c => by
              unfold qDst
              have := qp_le ((A.1 t).2.1 (c / 2) ^^^ k)
              split <;> omega
            have hd2 : ∀ c, c < 2 * (A.1 t).1 → (A.1 t).2.1 (c / 2) ^^^ k < 2 ^ (A.1 t).1 ∧ qp ((A.1 t).2.1 (c / 2) ^^^ k) ≤ (A.1 t).1 := fun c hc => by
              have hu := Nat.xor_lt_two_pow (wt.2.1 (c / 2) (by omega)) hw
              exact ⟨hu, by rw [qp_lt hu (by omega)]; exact qc_le _ _⟩
            have hd3 : ∀ c, c < 2 * (A.1 t).1 → qDst (A.1 t) k c ≤ (A.1 t).1 := fun c hc => by
              unfold qDst
              have := (hd2 c hc).2
              split <;> omega
            have hl : ∀ c, c < 2 * (A.1 t).1 → (qNs (qDst (A.1 t) k) c).1 ≤ c ∧ (qNs (qDst (A.1 t) k) c).2.1 ≤ 32 ∧ (qNs (qDst (A.1 t) k) c).2.2 ≤ c + 1 := fun c hc => by
              have := qNs_le hd c
              omega
            have hl0 := hl n2 (by omega)
            refine ⟨if v = 0 then nI ((qNs (qDst (A.1 t) k) n2).1 / 2) else if v = 1 then nI ((qNs (qDst (A.1 t) k) n2).1 % 2) else if v = 2 then nI (qNs (qDst (A.1 t) k) n2).2.1 else nI (qNs (qDst (A.1 t) k) n2).2.2, ?_, ?_⟩
            · unfold f_X8_nearest_l53
              refine mLoop_ends (qNp (qDst (A.1 t) k) (0, nI ((A.1 t).1 + 1), 0, 0)) (2 * (A.1 t).1) _ (fun c hc => ?_) ?_
              · have hu := hd2 c hc
                have hu2 := q31 hn hu.1
                have hdc := hd3 c hc
                have E : ∀ v5 v6 v7 : Int32, f_X8_nearest_b53 (nI k) (nI v) (some (3 + 4 * t)) v5 v6 v7 (nI c) h = f_X8_nearest_c102 (nI k) (nI v) (some (3 + 4 * t)) v5 v6 v7 (nI c) (nI (qDst (A.1 t) k c)) h := by
                  intro v5 v6 v7
                  unfold f_X8_nearest_b53
                  rw [hT.size, qbind, qL2, qI_mul, if_neg (by rw [qle (by omega) (by omega)]; omega), hT.rows, qbind, qI_one, qI_shr (by omega) (by decide), Nat.pow_one, hT.row (by omega), qbind, hs.1 _ (by omega), qI_xor, qJ_bitCount (by omega), qbind, qI_and, Nat.and_one_is_mod]
                  unfold qDst
                  by_cases hc2 : c % 2 = 0
                  · rw [if_pos (by rw [hc2]; rfl), if_pos hc2]
                  · rw [if_neg (by rw [qI_zero, qeq (by omega) (by decide)]; omega), qbind, qI_sub hu.2, if_neg hc2]
                cases c with
                | zero =>
                  show f_X8_nearest_b53 (nI k) (nI v) (some (3 + 4 * t)) 0 (nI ((A.1 t).1 + 1)) 0 (nI 0) h = _
                  rw [E]
                  unfold f_X8_nearest_c102 f_X8_nearest_c122
                  rw [if_neg (by rw [qle (by omega) (by omega)]; omega), if_pos rfl]
                  rfl
                | succ c =>
                  have hq := hl c (by omega)
                  show f_X8_nearest_b53 (nI k) (nI v) (some (3 + 4 * t)) (nI (qNs (qDst (A.1 t) k) c).1) (nI (qNs (qDst (A.1 t) k) c).2.1) (nI (qNs (qDst (A.1 t) k) c).2.2) (nI (c + 1)) h = some (.inl (nI (qNs (qDst (A.1 t) k) (c + 1)).1, nI (qNs (qDst (A.1 t) k) (c + 1)).2.1, nI (qNs (qDst (A.1 t) k) (c + 1)).2.2, nI (c + 1 + 1)))
                  rw [E]
                  unfold f_X8_nearest_c102 f_X8_nearest_c122
                  rw [show qNs (qDst (A.1 t) k) (c + 1) = if qDst (A.1 t) k (c + 1) < (qNs (qDst (A.1 t) k) c).2.1 then (c + 1, qDst (A.1 t) k (c + 1), 1) else if qDst (A.1 t) k (c + 1) = (qNs (qDst (A.1 t) k) c).2.1 then ((qNs (qDst (A.1 t) k) c).1, (qNs (qDst (A.1 t) k) c).2.1, (qNs (qDst (A.1 t) k) c).2.2 + 1) else qNs (qDst (A.1 t) k) c from rfl]
                  by_cases g1 : qDst (A.1 t) k (c + 1) < (qNs (qDst (A.1 t) k) c).2.1
                  · rw [if_neg (by rw [qle (by omega) (by omega)]; omega), if_pos rfl, if_pos g1, nI_1]; rfl
                  · rw [if_pos (by rw [qle (by omega) (by omega)]; omega), if_neg g1]
                    by_cases g2 : qDst (A.1 t) k (c + 1) = (qNs (qDst (A.1 t) k) c).2.1
                    · rw [if_pos (by rw [g2]), if_pos g2, nI_1, nI_1]
                    · rw [if_neg (by rw [qeq (by omega) (by omega)]; exact g2), if_neg g2, nI_1]
              · rw [hn2]
                show f_X8_nearest_b53 (nI k) (nI v) (some (3 + 4 * t)) (nI (qNs (qDst (A.1 t) k) n2).1) (nI (qNs (qDst (A.1 t) k) n2).2.1) (nI (qNs (qDst (A.1 t) k) n2).2.2) (nI (n2 + 1)) h = _
                unfold f_X8_nearest_b53
                rw [hT.size, qbind, qL2, qI_mul, if_pos (by rw [qle (by omega) (by omega)]; omega), qI_one, qI_shr (by omega) (by decide), Nat.pow_one, qI_and, Nat.and_one_is_mod]
                match v, h3 with
                | 0, _ => rfl
                | 1, _ => rfl
                | 2, _ => rfl
                | 3, _ => rfl
            · unfold f_X9_nearest_l41
              refine mLoop_ends (qNp (qDst (A.1 t) k) (-1, 29, 0, 0)) (2 * (A.1 t).1) _ (fun c hc => ?_) ?_
              · have hu := hd2 c hc
                have hu2 := q31 hn hu.1
                have hdc := hd3 c hc
                have E : ∀ v5 v6 v7 : Int32, f_X9_nearest_b41 (some 51) (nI t) (nI k) (nI v) v5 v6 v7 (nI c) h = f_X9_nearest_c89 (some 51) (nI t) (nI k) (nI v) v5 v6 v7 (nI c) (nI (qDst (A.1 t) k c)) h := by
                  intro v5 v6 v7
                  unfold f_X9_nearest_b41
                  rw [mb.orders, qbind, mb.order h6, qbind, (hm t h6).1, qL2, qI_mul, if_neg (by rw [qle (by omega) (by omega)]; omega), qI_div (by omega) (by decide) (by decide), m_rowOf mb (hm t h6) h6 wt (by omega), qbind, qI_xor, qX_bitsOf (by omega), qbind, qI_rem (by omega) (by decide) (by decide)]
                  unfold qDst
                  by_cases hc2 : c % 2 = 0
                  · rw [if_neg (by rw [qI_one, qeq (by omega) (by decide)]; omega), if_pos hc2]
                  · rw [if_pos (by rw [qI_one, qeq (by omega) (by decide)]; omega), qbind, mb.order h6, qbind, (hm t h6).1, qI_sub hu.2, if_neg hc2]
                cases c with
                | zero =>
                  show f_X9_nearest_b41 (some 51) (nI t) (nI k) (nI v) (-1) 29 0 (nI 0) h = _
                  rw [E]
                  unfold f_X9_nearest_c89 f_X9_nearest_c99
                  rw [show (29 : Int32) = nI 29 from rfl, if_neg (by rw [qeq (by omega) (by decide)]; omega), if_pos (by rw [qlt (by omega) (by decide)]; omega)]
                  rfl
                | succ c =>
                  have hq := hl c (by omega)
                  show f_X9_nearest_b41 (some 51) (nI t) (nI k) (nI v) (nI (qNs (qDst (A.1 t) k) c).1) (nI (qNs (qDst (A.1 t) k) c).2.1) (nI (qNs (qDst (A.1 t) k) c).2.2) (nI (c + 1)) h = some (.inl (nI (qNs (qDst (A.1 t) k) (c + 1)).1, nI (qNs (qDst (A.1 t) k) (c + 1)).2.1, nI (qNs (qDst (A.1 t) k) (c + 1)).2.2, nI (c + 1 + 1)))
                  rw [E]
                  unfold f_X9_nearest_c89 f_X9_nearest_c99
                  rw [show qNs (qDst (A.1 t) k) (c + 1) = if qDst (A.1 t) k (c + 1) < (qNs (qDst (A.1 t) k) c).2.1 then (c + 1, qDst (A.1 t) k (c + 1), 1) else if qDst (A.1 t) k (c + 1) = (qNs (qDst (A.1 t) k) c).2.1 then ((qNs (qDst (A.1 t) k) c).1, (qNs (qDst (A.1 t) k) c).2.1, (qNs (qDst (A.1 t) k) c).2.2 + 1) else qNs (qDst (A.1 t) k) c from rfl]
                  by_cases g1 : qDst (A.1 t) k (c + 1) < (qNs (qDst (A.1 t) k) c).2.1
                  · rw [if_neg (by rw [qeq (by omega) (by omega)]; omega), if_pos (by rw [qlt (by omega) (by omega)]; exact g1), if_pos g1, nI_1]; rfl
                  · rw [if_neg g1]
                    by_cases g2 : qDst (A.1 t) k (c + 1) = (qNs (qDst (A.1 t) k) c).2.1
                    · rw [if_pos (by rw [g2]), if_neg (by rw [qlt (by omega) (by omega)]; exact g1), if_pos g2, nI_1, nI_1]
                    · rw [if_neg (by rw [qeq (by omega) (by omega)]; exact g2), if_neg (by rw [qlt (by omega) (by omega)]; exact g1), if_neg g2, nI_1]
              · rw [hn2]
                show f_X9_nearest_b41 (some 51) (nI t) (nI k) (nI v) (nI (qNs (qDst (A.1 t) k) n2).1) (nI (qNs (qDst (A.1 t) k) n2).2.1) (nI (qNs (qDst (A.1 t) k) n2).2.2) (nI (n2 + 1)) h = _
                unfold f_X9_nearest_b41
                rw [mb.orders, qbind, mb.order h6, qbind, (hm t h6).1, qL2, qI_mul, if_pos (by rw [qle (by omega) (by omega)]; omega), qI_div (by omega) (by decide) (by decide), qI_rem (by omega) (by decide) (by decide)]
                match v, h3 with
                | 0, _ => rfl
                | 1, _ => rfl
                | 2, _ => rfl
                | 3, _ => rfl
          · exact ⟨-1, by rw [if_neg (by rw [qle hv (by decide)]; exact h3)], by rw [decide_eq_false h3, qif0]⟩
      · exact ⟨-1, by rw [decide_eq_false hw, qif0], by rw [decide_eq_false hw, qif0]⟩
