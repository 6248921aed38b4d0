/-! PURE: designs, halves, the network -/
def qMk (n : Nat) : Nat := 2 ^ n - 1
theorem qMk_bit (n i : Nat) : (qMk n).testBit i = decide (i < n) := Nat.testBit_two_pow_sub_one n i
theorem qMk_and {n u : Nat} (hu : u < 2 ^ n) : u &&& qMk n = u := by
  unfold qMk
  rw [Nat.and_two_pow_sub_one_eq_mod, Nat.mod_eq_of_lt hu]
theorem qMk_inv {n u : Nat} (hu : u < 2 ^ n) : qMk n ^^^ (qMk n &&& (u ^^^ qMk n)) = u := by
  apply Nat.eq_of_testBit_eq
  intro i
  rw [Nat.testBit_xor, Nat.testBit_and, Nat.testBit_xor, qMk_bit]
  by_cases hi : i < n
  · simp [hi]
  · rw [Nat.testBit_lt_two_pow (Nat.lt_of_lt_of_le hu (Nat.pow_le_pow_right (by decide) (by omega)))]
    simp [hi]
/-- the block of row i by r, c -/
def qBlk (T : qT) (r c i : Nat) : Int32 :=
  nI (if (T.2.1 i ^^^ T.2.1 r).testBit c then T.2.1 i ^^^ T.2.1 r else qMk T.1 ^^^ (qMk T.1 &&& (T.2.1 i ^^^ T.2.1 r))) &&& (((1 : Int32) <<< (nI c &&& 31)) ^^^ (-1))
section QDES
variable {h : mH} {A : qA} {t : Nat}
theorem x_designBlock (q : qX h A) (w : qWA A) (h6 : t < 6) {r c i : Nat} (hr : r < (A.1 t).1) (hc : c < (A.1 t).1) (hi : i < (A.1 t).1) : f_X7_designBlock (some (3 + 4 * t)) (nI r) (nI c) (nI i) h = some (qBlk (A.1 t) r c i) := by
  obtain ⟨bk, bs, bc, ra, rb, fr', fa, fb, hT, hs⟩ := q.2.2.2.1 t h6
  have wt := w.1 t h6
  have hn := wt.1
  have hu := Nat.xor_lt_two_pow (wt.2.1 i hi) (wt.2.1 r hr)
  have hu2 := q31 hn hu
  unfold f_X7_designBlock f_X8_alikeAt qBlk
  rw [hT.is, qbind, hT.rows, qbind, hT.row (by omega), qbind, qbind, hT.row (by omega), qbind, hs.1 i hi, hs.1 r hr, qI_xor, x_inSet (by omega) (by omega), qbind, x_mask hT hn]
  cases hb : ((A.1 t).2.1 i ^^^ (A.1 t).2.1 r).testBit c
  · rw [qif0, qbind, qbind, Int32.and_comm (nI _ ^^^ -1), qI_inv _ (by omega)]; rfl
  · rw [qif1, qbind, qbind, qI_and, show 2 ^ (A.1 t).1 - 1 = qMk (A.1 t).1 from rfl, qMk_and hu]; rfl
theorem m_blockFor (m : qM h A) (w : qWA A) (h6 : t < 6) {r c i : Nat} (hr : r < (A.1 t).1) (hc : c < (A.1 t).1) (hi : i < (A.1 t).1) : f_X9_blockFor (some 51) (nI t) (nI r) (nI c) (nI i) h = some (qBlk (A.1 t) r c i) := by
  obtain ⟨x0, y0, fo, fr, ff, fg, fw, mb, hm⟩ := m.b
  have wt := w.1 t h6
  have hn := wt.1
  have hu := Nat.xor_lt_two_pow (wt.2.1 i hi) (wt.2.1 r hr)
  have hu2 := q31 hn hu
  unfold f_X9_blockFor f_X9_blockFor_c40 qBlk
  rw [mb.is, qbind, m_rowOf mb (hm t h6) h6 wt hi, qbind, m_rowOf mb (hm t h6) h6 wt hr, qbind, qI_xor, m_has (by omega) (by omega), qbind]
  cases hb : ((A.1 t).2.1 i ^^^ (A.1 t).2.1 r).testBit c
  · rw [qif0, mb.orders, qbind, mb.order h6, qbind, (hm t h6).1, qI_mask (by omega), qI_inv _ (by omega)]; rfl
  · rw [qif1, mb.orders, qbind, mb.order h6, qbind, qbind, mb.order h6, qbind, (hm t h6).1, qI_mask (by omega), qI_xor, qI_inv _ (by omega), show 2 ^ (A.1 t).1 - 1 = qMk (A.1 t).1 from rfl, qMk_inv hu]; rfl
end QDES
/-- whether there is a design, as both sides ask -/
theorem qDs2 {h : mH} {A : qA} (I : qI h A) {x r c : Int32} {t : Nat} (hx : qYes A x t) :
    (f_X8_hasDesign (some (3 + 4 * t)) r c h = some 0 ∧ f_X9_isDesign (some 51) x r c h = some 0) ∨
    ∃ a b, a < (A.1 t).1 ∧ b < (A.1 t).1 ∧ r = nI a ∧ c = nI b ∧ f_X8_hasDesign (some (3 + 4 * t)) r c h = some 1 ∧ f_X9_isDesign (some 51) x r c h = some 1 := by
  have L := qLn2 I x r
  have L2 := qLn2 I x c
  obtain ⟨q, m, w⟩ := I
  obtain ⟨x0, y0, fo, fr, ff, fg, fw, mb, hm⟩ := m.b
  obtain ⟨bk, bs, bc, ra, rb, fr', fa, fb, hT, hs⟩ := q.2.2.2.1 t hx.1
  have hn := (w.1 t hx.1).1
  have e1 := x_tab_yes q w hx
  unfold f_X8_hasDesign f_X9_isDesign
  rw [hT.size, qbind, mb.is, qbind, show (4 : Int32) = nI 4 from rfl, hx.2.1]
  rw [hx.2.1] at L L2 e1
  rcases L with ⟨l1, -, -⟩ | ⟨t1, -, l1, -, l3, l4⟩ | ⟨t1, a, -, ha, rfl, l1, -, l3, l4⟩
  · rw [e1] at l1; cases l1
  · have et : t = t1 := by rw [e1] at l1; have := Option.some.inj (Option.some.inj l1); omega
    subst et
    left
    refine ⟨?_, by rw [l4, qbind, if_pos rfl]⟩
    by_cases h4 : (A.1 t).1 < 4
    · rw [if_pos ((qlt (by omega) (by decide)).mpr h4)]
    · rw [if_neg (by rw [qlt (by omega) (by decide)]; exact h4), l3, qbind, if_pos rfl]
  · have et : t = t1 := by rw [e1] at l1; have := Option.some.inj (Option.some.inj l1); omega
    subst et
    rcases L2 with ⟨p1, -, -⟩ | ⟨t1, -, p1, -, p3, p4⟩ | ⟨t1, b, -, hb, rfl, p1, -, p3, p4⟩
    · rw [e1] at p1; cases p1
    · have et : t = t1 := by rw [e1] at p1; have := Option.some.inj (Option.some.inj p1); omega
      subst et
      left
      refine ⟨?_, by rw [l4, qbind, if_neg q10, p4, qbind, if_pos rfl]⟩
      by_cases h4 : (A.1 t).1 < 4
      · rw [if_pos ((qlt (by omega) (by decide)).mpr h4)]
      · rw [if_neg (by rw [qlt (by omega) (by decide)]; exact h4), l3, qbind, if_neg q10, p3, qbind, if_pos rfl]
    · have et : t = t1 := by rw [e1] at p1; have := Option.some.inj (Option.some.inj p1); omega
      subst et
      by_cases h4 : (A.1 t).1 < 4
      · left
        refine ⟨by rw [if_pos ((qlt (by omega) (by decide)).mpr h4)], ?_⟩
        rw [l4, qbind, if_neg q10, p4, qbind, if_neg q10, mb.orders, qbind, mb.order hx.1, qbind, (hm t hx.1).1, if_pos ((qlt (by omega) (by decide)).mpr h4)]
      · right
        refine ⟨a, b, ha, hb, rfl, rfl, ?_, ?_⟩
        · rw [if_neg (by rw [qlt (by omega) (by decide)]; exact h4), l3, qbind, if_neg q10, p3, qbind, if_neg q10]
        · rw [l4, qbind, if_neg q10, p4, qbind, if_neg q10, mb.orders, qbind, mb.order hx.1, qbind, (hm t hx.1).1, if_neg (by rw [qlt (by omega) (by decide)]; exact h4)]
theorem op_block {h : mH} {A : qA} (I : qI h A) (x r c i : Int32) : ∃ v, f_X8_block (some 1) x r c i h = some v ∧ f_X9_block (some 51) x r c i h = some v := by
  have Lb := qTb2 I x
  have I0 := I
  obtain ⟨q, m, w⟩ := I
  obtain ⟨x0, y0, fo, fr, ff, fg, fw, mb, hm⟩ := m.b
  unfold f_X8_block f_X9_block
  rw [q.is, qbind, mb.is, qbind]
  rcases Lb with ⟨l1, l2⟩ | ⟨t, hx, l1, l2⟩
  · refine ⟨-1, by rw [l1, qbind, if_pos rfl], ?_⟩
    have : f_X9_isDesign (some 51) x r c h = some 0 := by
      unfold f_X9_isDesign f_X9_isLine
      rw [mb.is, qbind, qbind, l2, qbind, if_pos rfl, qbind, if_pos rfl]
    rw [this, qbind, if_pos rfl]
  · rcases qDs2 I0 (r := r) (c := c) hx with ⟨d1, d2⟩ | ⟨a, b, ha, hb, rfl, rfl, d1, d2⟩
    · exact ⟨-1, by rw [l1, qbind, if_neg qne, d1, qbind, if_pos rfl], by rw [d2, qbind, if_pos rfl]⟩
    · have L := qLn2 I0 x i
      have hn := (w.1 t hx.1).1
      rcases L with ⟨p1, -, -⟩ | ⟨t1, -, p1, -, p3, p4⟩ | ⟨t1, k, -, hk, rfl, p1, -, p3, p4⟩
      · rw [l1] at p1; cases p1
      · have et : t = t1 := by rw [l1] at p1; have := Option.some.inj (Option.some.inj p1); omega
        subst et
        exact ⟨-1, by rw [l1, qbind, if_neg qne, d1, qbind, if_neg q10, p3, qbind, if_pos rfl], by rw [d2, qbind, if_neg q10, p4, qbind, if_pos rfl]⟩
      · have et : t = t1 := by rw [l1] at p1; have := Option.some.inj (Option.some.inj p1); omega
        subst et
        rw [l1, qbind, if_neg qne, d1, qbind, if_neg q10, p3, qbind, if_neg q10, d2, qbind, if_neg q10, p4, qbind, if_neg q10, hx.2.1]
        by_cases hkr : nI k = nI a
        · exact ⟨-2, by rw [if_pos hkr], by rw [if_pos hkr]⟩
        · exact ⟨_, by rw [if_neg hkr, x_designBlock q w hx.1 ha hb hk, qbind], by rw [if_neg hkr, m_blockFor m w hx.1 ha hb hk, qbind]⟩
theorem op_through {h : mH} {A : qA} (I : qI h A) (x r c s : Int32) : ∃ v, f_X8_through (some 1) x r c s h = some v ∧ f_X9_through (some 51) x r c s h = some v := by
  have Lb := qTb2 I x
  have I0 := I
  obtain ⟨q, m, w⟩ := I
  obtain ⟨x0, y0, fo, fr, ff, fg, fw, mb, hm⟩ := m.b
  unfold f_X8_through f_X9_through
  rw [q.is, qbind, mb.is, qbind]
  rcases Lb with ⟨l1, l2⟩ | ⟨t, hx, l1, l2⟩
  · refine ⟨-1, by rw [l1, qbind, if_pos rfl], ?_⟩
    have : f_X9_isDesign (some 51) x r c h = some 0 := by
      unfold f_X9_isDesign f_X9_isLine
      rw [mb.is, qbind, qbind, l2, qbind, if_pos rfl, qbind, if_pos rfl]
    rw [this, qbind, if_pos rfl]
  · rcases qDs2 I0 (r := r) (c := c) hx with ⟨d1, d2⟩ | ⟨a, b, ha, hb, rfl, rfl, d1, d2⟩
    · exact ⟨-1, by rw [l1, qbind, if_neg qne, d1, qbind, if_pos rfl], by rw [d2, qbind, if_pos rfl]⟩
    · obtain ⟨bk, bs, bc, ra, rb, fr', fa, fb, hT, hs⟩ := q.2.2.2.1 t hx.1
      have h6 := hx.1
      have hn := (w.1 t h6).1
      unfold f_X9_isSet
      rw [l1, qbind, if_neg qne, d1, qbind, if_neg q10, hT.size, qbind, d2, qbind, if_neg q10, mb.is, qbind, mb.orders, qbind, hx.2.1, mb.order h6, qbind, (hm t h6).1]
      rcases qarg s with hs0 | ⟨k, hk, rfl⟩
      · exact ⟨-1, by rw [x_isWord_neg hs0, qbind, if_pos rfl], by rw [m_isRow_neg hs0, qbind, if_pos (Or.inl rfl), qbind, if_pos rfl]⟩
      · rw [x_isWord hk hn, qbind, m_isRow hk hn, qbind, if_pos (qB01 _), qbind]
        by_cases hw : k < 2 ^ (A.1 t).1
        · have hk2 := q31 hn hw
          rw [decide_eq_true hw, qif1, x_inSet (by omega) (by omega), qbind, qif1, m_has (by omega) (by omega), qbind]
          cases k.testBit b
          · rw [qif0, qif0]
            refine ⟨qFo (fun i v => if nI i = nI a then v else if nI k &&& (qBlk (A.1 t) a b i ^^^ (-1)) = 0 then v + 1 else v) (A.1 t).1 0, ?_, ?_⟩
            · unfold f_X8_through_l52
              refine qLoop2 _ (A.1 t).1 0 id (fun i v hi => ?_) (fun v => ?_)
              · show f_X8_through_b52 _ _ _ _ _ _ _ = _
                unfold f_X8_through_b52
                rw [hT.size, qbind, if_neg (by rw [qle (by omega) (by omega)]; omega), nI_1]
                by_cases h1 : nI i = nI a
                · rw [if_pos h1]; simp only [if_pos h1]
                · rw [if_neg h1, x_designBlock q w h6 ha hb hi, qbind]; simp only [if_neg h1]
                  by_cases h2 : nI k &&& (qBlk (A.1 t) a b i ^^^ (-1)) = 0
                  · rw [if_pos h2, if_pos h2]
                  · rw [if_neg h2, if_neg h2]
              · show f_X8_through_b52 _ _ _ _ _ _ _ = _
                unfold f_X8_through_b52
                rw [hT.size, qbind, if_pos (by rw [qle (by omega) (by omega)]; omega)]; rfl
            · unfold f_X9_through_l37
              refine qLoop2 _ (A.1 t).1 0 id (fun i v hi => ?_) (fun v => ?_)
              · show f_X9_through_b37 _ _ _ _ _ _ _ _ = _
                unfold f_X9_through_b37
                rw [mb.orders, qbind, mb.order h6, qbind, (hm t h6).1, if_neg (by rw [qle (by omega) (by omega)]; omega), nI_1]
                by_cases h1 : nI i = nI a
                · rw [if_pos h1]; simp only [if_pos h1]
                · rw [if_neg h1, m_blockFor m w h6 ha hb hi, qbind]; simp only [if_neg h1]
                  by_cases h2 : nI k &&& (qBlk (A.1 t) a b i ^^^ (-1)) = 0
                  · rw [if_pos h2, if_pos h2]
                  · rw [if_neg h2, if_neg h2]
              · show f_X9_through_b37 _ _ _ _ _ _ _ _ = _
                unfold f_X9_through_b37
                rw [mb.orders, qbind, mb.order h6, qbind, (hm t h6).1, if_pos (by rw [qle (by omega) (by omega)]; omega)]; rfl
          · exact ⟨-1, by rw [qif1], by rw [qif1]⟩
        · exact ⟨-1, by rw [decide_eq_false hw, qif0], by rw [decide_eq_false hw, qif0]⟩
theorem op_halves {h : mH} {A : qA} (I : qI h A) (x r s : Int32) : ∃ v, f_X8_halves (some 1) x r s h = some v ∧ f_X9_halves (some 51) x r s h = some v := by
  have L := qLn2 I x r
  obtain ⟨q, m, w⟩ := I
  obtain ⟨x0, y0, fo, fr, ff, fg, fw, mb, hm⟩ := m.b
  unfold f_X8_halves f_X9_halves
  rw [q.is, qbind, mb.is, qbind]
  rcases L with ⟨l1, l2, -⟩ | ⟨t, hx, l1, -, l3, l4⟩ | ⟨t, a, hx, ha, rfl, l1, -, l3, l4⟩
  · exact ⟨-1, by rw [l1, qbind, if_pos rfl], by rw [l2, qbind, if_pos rfl]⟩
  · exact ⟨-1, by rw [l1, qbind, if_neg qne, l3, qbind, if_pos rfl], by rw [l4, qbind, if_pos rfl]⟩
  · obtain ⟨bk, bs, bc, ra, rb, fr', fa, fb, hT, hs⟩ := q.2.2.2.1 t hx.1
    have wt := w.1 t hx.1
    have h6 := hx.1
    have hn := wt.1
    unfold f_X9_isSet
    rw [l1, qbind, if_neg qne, l3, qbind, if_neg q10, hT.size, qbind, l4, qbind, if_neg q10, mb.is, qbind, mb.orders, qbind, hx.2.1, mb.order h6, qbind, (hm t h6).1]
    rcases qarg s with hs0 | ⟨k, hk, rfl⟩
    · exact ⟨-1, by rw [x_isWord_neg hs0, qbind, if_pos rfl], by rw [m_isRow_neg hs0, qbind, if_pos (Or.inl rfl), qbind, if_pos rfl]⟩
    · rw [x_isWord hk hn, qbind, m_isRow hk hn, qbind, if_pos (qB01 _), qbind]
      by_cases hw : k < 2 ^ (A.1 t).1
      · rw [decide_eq_true hw, qif1, qif1]
        refine ⟨qFo (fun i v => if nI i = nI a then v else if nI k &&& ((nI ((A.1 t).2.1 i) ^^^ nI ((A.1 t).2.1 a)) ^^^ (-1)) = 0 then (if nI k &&& (nI ((A.1 t).2.1 i) ^^^ nI ((A.1 t).2.1 a)) = 0 then v + 1 else v) + 1 else (if nI k &&& (nI ((A.1 t).2.1 i) ^^^ nI ((A.1 t).2.1 a)) = 0 then v + 1 else v)) (A.1 t).1 0, ?_, ?_⟩
        · unfold f_X8_halves_l41
          refine qLoop2 _ (A.1 t).1 0 id (fun i v hi => ?_) (fun v => ?_)
          · show f_X8_halves_b41 _ _ _ _ _ _ = _
            unfold f_X8_halves_b41 f_X8_halves_c85
            rw [hT.size, qbind, if_neg (by rw [qle (by omega) (by omega)]; omega), hT.rows, qbind, hT.row (by omega), qbind, qbind, hT.row (by omega), qbind, hs.1 i hi, hs.1 a ha, nI_1]
            by_cases h1 : nI i = nI a
            · simp only [if_pos h1]
            · simp only [if_neg h1]
              by_cases h2 : nI k &&& (nI ((A.1 t).2.1 i) ^^^ nI ((A.1 t).2.1 a)) = 0
              · simp only [if_pos h2]
                by_cases h3 : nI k &&& ((nI ((A.1 t).2.1 i) ^^^ nI ((A.1 t).2.1 a)) ^^^ (-1)) = 0
                · simp only [if_pos h3]
                · simp only [if_neg h3]
              · simp only [if_neg h2]
                by_cases h3 : nI k &&& ((nI ((A.1 t).2.1 i) ^^^ nI ((A.1 t).2.1 a)) ^^^ (-1)) = 0
                · simp only [if_pos h3]
                · simp only [if_neg h3]
          · show f_X8_halves_b41 _ _ _ _ _ _ = _
            unfold f_X8_halves_b41
            rw [hT.size, qbind, if_pos (by rw [qle (by omega) (by omega)]; omega)]; rfl
        · unfold f_X9_halves_l26
          refine qLoop2 _ (A.1 t).1 0 id (fun i v hi => ?_) (fun v => ?_)
          · show f_X9_halves_b26 _ _ _ _ _ _ _ = _
            unfold f_X9_halves_b26 f_X9_halves_c69
            rw [mb.orders, qbind, mb.order h6, qbind, (hm t h6).1, if_neg (by rw [qle (by omega) (by omega)]; omega), m_rowOf mb (hm t h6) h6 wt hi, qbind, m_rowOf mb (hm t h6) h6 wt ha, qbind, nI_1]
            by_cases h1 : nI i = nI a
            · simp only [if_pos h1]
            · simp only [if_neg h1]
              by_cases h2 : nI k &&& (nI ((A.1 t).2.1 i) ^^^ nI ((A.1 t).2.1 a)) = 0
              · simp only [if_pos h2]
                by_cases h3 : nI k &&& ((nI ((A.1 t).2.1 i) ^^^ nI ((A.1 t).2.1 a)) ^^^ (-1)) = 0
                · simp only [if_pos h3]
                · simp only [if_neg h3]
              · simp only [if_neg h2]
                by_cases h3 : nI k &&& ((nI ((A.1 t).2.1 i) ^^^ nI ((A.1 t).2.1 a)) ^^^ (-1)) = 0
                · simp only [if_pos h3]
                · simp only [if_neg h3]
          · show f_X9_halves_b26 _ _ _ _ _ _ _ = _
            unfold f_X9_halves_b26
            rw [mb.orders, qbind, mb.order h6, qbind, (hm t h6).1, if_pos (by rw [qle (by omega) (by omega)]; omega)]; rfl
      · exact ⟨-1, by rw [decide_eq_false hw, qif0], by rw [decide_eq_false hw, qif0]⟩
