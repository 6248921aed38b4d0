/-! PURE: calls that only tell -/
def qI (h : mH) (A : qA) : Prop := qX h A ∧ qM h A ∧ qWA A
theorem q10 : ¬ (1 : Int32) = 0 := by decide
theorem qne {a : Nat} : ¬ (some a = (none : Option Nat)) := by simp
theorem op_order {h : mH} {A : qA} (I : qI h A) (x : Int32) : ∃ r, f_X8_order (some 1) x h = some r ∧ f_X9_order (some 51) x h = some r := by
  obtain ⟨q, m, w⟩ := I
  obtain ⟨x0, y0, fo, fr, ff, fg, fw, mb, hm⟩ := m.b
  unfold f_X8_order f_X9_order
  rw [q.is, qbind, mb.is, qbind]
  rcases qarg x with hx | ⟨k, hk, rfl⟩
  · exact ⟨-1, by rw [if_pos hx], by rw [m_in_neg hx, qbind, if_pos rfl]⟩
  · rw [if_neg (qpos hk), show (5 : Int32) = nI 5 from rfl, m_in_k hk (by decide), qbind, qL6]
    by_cases h6 : k < 6
    · obtain ⟨bk, bs, bc, ra, rb, fr', fa, fb, hT, -⟩ := q.2.2.2.1 k h6
      refine ⟨nI (A.1 k).1, ?_, ?_⟩
      · rw [if_pos ((qlt hk (by decide)).mpr h6), q.shelf, qbind, q.at h6, qbind, hT.size, qbind]
      · rw [decide_eq_true (by omega), qif1, mb.orders, qbind, mb.order h6, qbind, (hm k h6).1]
    · refine ⟨-1, ?_, ?_⟩
      · rw [if_neg (by rw [qlt hk (by decide)]; exact h6)]
      · rw [decide_eq_false (by omega), qif0]
/-- a line of a table: both sides ask alike -/
theorem qLn2 {h : mH} {A : qA} (I : qI h A) (x i : Int32) :
    (f_X8_tableAt (some 1) x h = some none ∧ f_X9_isLine (some 51) x i h = some 0 ∧ f_X9_isTable (some 51) x h = some 0) ∨
    (∃ t, qYes A x t ∧ f_X8_tableAt (some 1) x h = some (some (3 + 4 * t)) ∧ f_X9_isTable (some 51) x h = some 1 ∧ f_X7_has (some (3 + 4 * t)) i h = some 0 ∧ f_X9_isLine (some 51) x i h = some 0) ∨
    ∃ t k, qYes A x t ∧ k < (A.1 t).1 ∧ i = nI k ∧ f_X8_tableAt (some 1) x h = some (some (3 + 4 * t)) ∧ f_X9_isTable (some 51) x h = some 1 ∧ f_X7_has (some (3 + 4 * t)) i h = some 1 ∧ f_X9_isLine (some 51) x i h = some 1 := by
  obtain ⟨q, m, w⟩ := I
  obtain ⟨x0, y0, fo, fr, ff, fg, fw, mb, hm⟩ := m.b
  rcases qNoYes A x with hx | ⟨t, hx⟩
  · exact Or.inl ⟨x_tab_no q w hx, m_line_no mb hm hx i, m_tab_no mb hm hx⟩
  · obtain ⟨bk, bs, bc, ra, rb, fr', fa, fb, hT, -⟩ := q.2.2.2.1 t hx.1
    have hn := (w.1 t hx.1).1
    rcases qarg i with hi | ⟨k, hk, rfl⟩
    · exact Or.inr (Or.inl ⟨t, hx, x_tab_yes q w hx, m_tab_yes mb hm w hx, x_has_neg hT hi, m_line_neg mb hm w hx hi⟩)
    · by_cases h1 : k < (A.1 t).1
      · refine Or.inr (Or.inr ⟨t, k, hx, h1, rfl, x_tab_yes q w hx, m_tab_yes mb hm w hx, ?_, ?_⟩)
        · rw [x_has hT hn hk, decide_eq_true h1]; rfl
        · rw [m_line mb hm w hx hk, decide_eq_true h1]; rfl
      · refine Or.inr (Or.inl ⟨t, hx, x_tab_yes q w hx, m_tab_yes mb hm w hx, ?_, ?_⟩)
        · rw [x_has hT hn hk, decide_eq_false h1]; rfl
        · rw [m_line mb hm w hx hk, decide_eq_false h1]; rfl
theorem op_bits {h : mH} {A : qA} (I : qI h A) (x i : Int32) (row : Bool) : ∃ r, f_X8_bits (some 1) x (qB2I row) i h = some r ∧ f_X9_bits (some 51) x (qB2I row) i h = some r := by
  have L := qLn2 I x i
  obtain ⟨q, m, w⟩ := I
  obtain ⟨x0, y0, fo, fr, ff, fg, fw, mb, hm⟩ := m.b
  unfold f_X8_bits f_X9_bits
  rw [q.is, qbind, mb.is, qbind]
  rcases L with ⟨l1, l2, -⟩ | ⟨t, hx, l1, -, l3, l4⟩ | ⟨t, k, hx, hk, rfl, l1, -, l3, l4⟩
  · exact ⟨-1, by rw [l1, qbind, if_pos rfl], by rw [l2, qbind, if_pos rfl]⟩
  · exact ⟨-1, by rw [l1, qbind, if_neg qne, l3, qbind, if_pos rfl], by rw [l4, qbind, if_pos rfl]⟩
  · obtain ⟨bk, bs, bc, ra, rb, fr', fa, fb, hT, hs⟩ := q.2.2.2.1 t hx.1
    have wt := w.1 t hx.1
    refine ⟨nI (qLine (A.1 t) row k), ?_, ?_⟩
    · rw [l1, qbind, if_neg qne, l3, qbind, if_neg (by decide), x_line hT wt hs.1 row hk, qbind]
    · rw [l4, qbind, if_neg (by decide), hx.2.1, m_lineOf mb (hm t hx.1) hx.1 wt row hk, qbind]
theorem op_along {h : mH} {A : qA} (I : qI h A) (x i k : Int32) (row : Bool) : ∃ r, f_X8_along (some 1) x (qB2I row) i k h = some r ∧ f_X9_along (some 51) x (qB2I row) i k h = some r := by
  have L := qLn2 I x i
  have L2 := qLn2 I x k
  obtain ⟨q, m, w⟩ := I
  obtain ⟨x0, y0, fo, fr, ff, fg, fw, mb, hm⟩ := m.b
  unfold f_X8_along f_X9_along
  rw [q.is, qbind, mb.is, qbind]
  rcases L with ⟨l1, l2, -⟩ | ⟨t, hx, l1, -, l3, l4⟩ | ⟨t, a, hx, ha, rfl, l1, -, l3, l4⟩
  · exact ⟨-1000, by rw [l1, qbind, if_pos rfl], by rw [l2, qbind, if_pos rfl]⟩
  · exact ⟨-1000, by rw [l1, qbind, if_neg qne, l3, qbind, if_pos rfl], by rw [l4, qbind, if_pos rfl]⟩
  · rcases L2 with ⟨p1, -, -⟩ | ⟨t', hx', p1, -, p3, p4⟩ | ⟨t', b, hx', hb, rfl, p1, -, p3, p4⟩
    · rw [l1] at p1; cases p1
    · have e : 3 + 4 * t = 3 + 4 * t' := by rw [l1] at p1; exact Option.some.inj (Option.some.inj p1)
      rw [← e] at p3
      exact ⟨-1000, by rw [l1, qbind, if_neg qne, l3, qbind, if_neg (by decide), p3, qbind, if_pos rfl], by rw [l4, qbind, if_neg (by decide), p4, qbind, if_pos rfl]⟩
    · have e : t = t' := by rw [l1] at p1; have := Option.some.inj (Option.some.inj p1); omega
      subst e
      obtain ⟨bk, bs, bc, ra, rb, fr', fa, fb, hT, hs⟩ := q.2.2.2.1 t hx.1
      have wt := w.1 t hx.1
      have z1 := q31 wt.1 (qLine_lt wt row ha)
      have z2 := q31 wt.1 (qLine_lt wt row hb)
      have z3 : qLine (A.1 t) row a ^^^ qLine (A.1 t) row b < 2 ^ 28 := Nat.xor_lt_two_pow z1 z2
      refine ⟨nI (A.1 t).1 - nI (2 * qp (qLine (A.1 t) row a ^^^ qLine (A.1 t) row b)), ?_, ?_⟩
      · rw [l1, qbind, if_neg qne, l3, qbind, if_neg (by decide), p3, qbind, if_neg (by decide), x_line hT wt hs.1 row ha, qbind, x_line hT wt hs.1 row hb, qbind, hT.size, qbind, qI_xor, x_signSum (by omega), qbind]
      · rw [l4, qbind, if_neg (by decide), p4, qbind, if_neg (by decide), hx.2.1, m_lineOf mb (hm t hx.1) hx.1 wt row ha, qbind, m_lineOf mb (hm t hx.1) hx.1 wt row hb, qbind, mb.orders, qbind, mb.order hx.1, qbind, (hm t hx.1).1, m_sumOf (by omega), qbind]
theorem op_trail {h : mH} {A : qA} (I : qI h A) (x i what : Int32) (row : Bool) : ∃ r, f_X8_trail (some 1) x (qB2I row) i what h = some r ∧ f_X9_trail (some 51) x (qB2I row) i what h = some r := by
  have L := qLn2 I x i
  obtain ⟨q, m, w⟩ := I
  obtain ⟨x0, y0, fo, fr, ff, fg, fw, mb, hm⟩ := m.b
  unfold f_X8_trail f_X9_trail
  rw [q.is, qbind, mb.is, qbind]
  rcases L with ⟨l1, l2, -⟩ | ⟨t, hx, l1, -, l3, l4⟩ | ⟨t, k, hx, hk, rfl, l1, -, l3, l4⟩
  · exact ⟨-1, by rw [l1, qbind, if_pos rfl], by rw [l2, qbind, if_pos rfl]⟩
  · exact ⟨-1, by rw [l1, qbind, if_neg qne, l3, qbind, if_pos rfl], by rw [l4, qbind, if_pos rfl]⟩
  · obtain ⟨bk, bs, bc, ra, rb, fr', fa, fb, hT, hs⟩ := q.2.2.2.1 t hx.1
    have wt := w.1 t hx.1
    have h6 := hx.1
    have hn := wt.1
    rw [l1, qbind, if_neg qne, l3, qbind, if_neg q10, l4, qbind, if_neg q10, hx.2.1]
    obtain ⟨c1, c2, c3, c4, c5, c6⟩ := hm t h6
    have hmk : ∀ b : Bool, ∃ mk : Nat, mk < 56 ∧ (b = true → fa k = nI mk) ∧ (b = false → fb k = nI mk) ∧ ff (28 * (2 * t + (!b).toNat) + k) = nI (mk / 2) ∧ fg (28 * (2 * t + (!b).toNat) + k) = nI (mk % 2) := by
      intro b
      cases b
      · exact ⟨_, wt.2.2.2 k hk, fun z => (by cases z), fun _ => hs.2.2.1 k hk, (c4 k hk).1, (c4 k hk).2⟩
      · exact ⟨_, wt.2.2.1 k hk, fun _ => hs.2.1 k hk, fun z => (by cases z), (c3 k hk).1, (c3 k hk).2⟩
    obtain ⟨mk, k1, k2, k3, k4, k5⟩ := hmk row
    have X : (if qB2I row = 0 then (mGR h (some (3 + 4 * t)) 6 3).bind fun x3 => (mAI h x3 (nI k)).bind fun x4 => f_X8_trail_c44 (qB2I row) what (some (3 + 4 * t)) x4 h else (mGR h (some (3 + 4 * t)) 6 2).bind fun x5 => (mAI h x5 (nI k)).bind fun x6 => f_X8_trail_c44 (qB2I row) what (some (3 + 4 * t)) x6 h) = f_X8_trail_c44 (qB2I row) what (some (3 + 4 * t)) (nI mk) h := by
      cases row
      · rw [qif0, hT.trb, qbind, hT.mb (by omega), qbind, k3 rfl]
      · rw [qif1, hT.tra, qbind, hT.ma (by omega), qbind, k2 rfl]
    rw [X]
    have M : f_X9_trailAt (some 51) (nI t) (qB2I row) (nI k) h = some (nI (28 * (2 * t + (!row).toNat) + k)) := by
      unfold f_X9_trailAt f_X9_trailAt_c14
      rw [mb.is, qbind, qL28, qL2]
      cases row
      · rw [qif0, qI_mul, qI_one, qI_add, qI_mul, qI_add]; rfl
      · rw [qif1, qI_mul, qI_zero, qI_add, qI_mul, qI_add]; rfl
    rw [M]
    have hlt : 28 * (2 * t + (!row).toNat) + k < 336 := by cases row <;> simp <;> omega
    unfold f_X8_trail_c44
    rcases qarg what with hw | ⟨v, hv, rfl⟩
    · refine ⟨-1, ?_, by rw [m_in_neg hw, qbind, if_pos rfl]⟩
      rw [if_neg (fun z => by rw [z] at hw; exact absurd hw (by decide)), if_neg (fun z => by rw [z] at hw; exact absurd hw (by decide)), if_neg (fun z => by rw [z] at hw; exact absurd hw (by decide))]
    · rw [qL2, m_in_k hv (by decide), qbind]
      match v, hv with
      | 0, _ => exact ⟨nI (mk / 2), by rw [if_pos (by decide), qI_one, qI_shr (by omega) (by decide)], by rw [decide_eq_true (by decide), qif1, qbind, if_pos (by decide), mb.from, qbind, mb.fromI hlt, qbind, k4]⟩
      | 1, _ => exact ⟨nI (mk % 2), by rw [if_neg (by decide), if_pos (by decide), qI_one, qI_and, Nat.and_one_is_mod], by rw [decide_eq_true (by decide), qif1, qbind, if_neg (by decide), if_pos (by decide), mb.signed, qbind, mb.signedI hlt, qbind, k5]⟩
      | 2, _ =>
        refine ⟨qB2I (row != (A.1 t).2.2.2.2), ?_, ?_⟩
        · rw [if_neg (by decide), if_neg (by decide), if_pos (by decide), hT.turned, qbind]
          cases row <;> cases (A.1 t).2.2.2.2 <;> rfl
        · rw [decide_eq_true (by decide), qif1, qbind, if_neg (by decide), if_neg (by decide), mb.was, qbind]
          unfold f_X9_trail_c77
          cases row
          · rw [qif0, qI_mul, qI_one, qI_add, mb.wasI (by omega), qbind, c6 (by omega)]
            cases (A.1 t).2.2.2.2 <;> rfl
          · rw [qif1, qI_mul, qI_zero, qI_add, mb.wasI (by omega), qbind, Nat.add_zero, c5 (by omega)]
            cases (A.1 t).2.2.2.2 <;> rfl
      | v + 3, hv =>
        refine ⟨-1, ?_, by rw [decide_eq_false (by omega), qif0]⟩
        rw [if_neg (by rw [qI_zero, qeq hv (by decide)]; omega), if_neg (by rw [qI_one, qeq hv (by decide)]; omega), if_neg (by rw [qeq hv (by decide)]; omega)]
