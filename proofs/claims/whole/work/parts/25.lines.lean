/-! PURE: words out of bits; columns -/
def qW : Nat → (Nat → Bool) → Nat
  | 0, _ => 0
  | n + 1, p => qW n p + (p n).toNat * 2 ^ n
theorem qW_lt (n : Nat) (p : Nat → Bool) : qW n p < 2 ^ n := by
  induction n with
  | zero => exact Nat.zero_lt_one
  | succ n ih =>
    show qW n p + (p n).toNat * 2 ^ n < 2 ^ (n + 1)
    have : (p n).toNat ≤ 1 := by cases p n <;> decide
    have h2 : (p n).toNat * 2 ^ n ≤ 1 * 2 ^ n := Nat.mul_le_mul_right _ this
    rw [Nat.pow_succ]
    omega
theorem qW_bit (n : Nat) (p : Nat → Bool) (i : Nat) : (qW n p).testBit i = (decide (i < n) && p i) := by
  induction n with
  | zero => simp [qW]
  | succ n ih =>
    have h1 : qW (n + 1) p = 2 ^ n * (p n).toNat + qW n p := by show qW n p + (p n).toNat * 2 ^ n = _; rw [Nat.mul_comm]; omega
    rw [h1, Nat.testBit_two_pow_mul_add _ (qW_lt n p)]
    by_cases hi : i < n
    · rw [if_pos hi, ih]; simp [hi, show i < n + 1 by omega]
    · rw [if_neg hi]
      by_cases hin : i = n
      · subst hin
        simp
        cases p i <;> simp
      · have : (p n).toNat < 2 ^ 1 := by cases p n <;> decide
        rw [Nat.testBit_lt_two_pow (Nat.lt_of_lt_of_le this (Nat.pow_le_pow_right (by decide) (show 1 ≤ i - n by omega)))]
        simp [show ¬ i < n + 1 by omega]
theorem qW_or (n : Nat) (p : Nat → Bool) : qW n p ||| ((p n).toNat * 2 ^ n) = qW (n + 1) p := by
  show _ = qW n p + (p n).toNat * 2 ^ n
  rw [Nat.or_comm, Nat.mul_comm, ← Nat.two_pow_add_eq_or_of_lt (qW_lt n p)]
  omega
theorem qW_ext {n a : Nat} {p : Nat → Bool} (ha : a < 2 ^ n) (hp : ∀ i, i < n → a.testBit i = p i) : a = qW n p := by
  apply Nat.eq_of_testBit_eq
  intro i
  rw [qW_bit]
  by_cases hi : i < n
  · rw [hp i hi]; simp [hi]
  · rw [Nat.testBit_lt_two_pow (Nat.lt_of_lt_of_le ha (Nat.pow_le_pow_right (by decide) (by omega)))]; simp [hi]
theorem qW_congr {n : Nat} {p p' : Nat → Bool} (hp : ∀ i, i < n → p i = p' i) : qW n p = qW n p' := by
  induction n with
  | zero => rfl
  | succ n ih =>
    show qW n p + (p n).toNat * 2 ^ n = qW n p' + (p' n).toNat * 2 ^ n
    rw [ih fun i hi => hp i (by omega), hp n (by omega)]
/-- a column, a line -/
def qCol (T : qT) (j : Nat) : Nat := qW T.1 (fun i => (T.2.1 i).testBit j)
def qLine (T : qT) (row : Bool) (i : Nat) : Nat := if row then T.2.1 i else qCol T i
theorem qLine_lt {T : qT} (w : qWT T) (row : Bool) {i : Nat} (hi : i < T.1) : qLine T row i < 2 ^ T.1 := by
  unfold qLine
  cases row
  · exact qW_lt _ _
  · exact w.2.1 i hi
theorem q31 {n a : Nat} (hn : n ≤ 28) (ha : a < 2 ^ n) : a < 2 ^ 28 := Nat.lt_of_lt_of_le ha (Nat.pow_le_pow_right (by decide) hn)
section QLN
variable {h : mH} {A : qA} {t : Nat} {tn bk bs bc : Int32} {ra rb : Nat} {fr fa fb : Nat → Int32} {T : qT}
theorem x_line_col (q : qTX h t (nI T.1) tn bk bs bc ra rb fr fa fb) (w : qWT T) (hr : ∀ i, i < T.1 → fr i = nI (T.2.1 i)) {j : Nat} (hj : j < 32) : f_X7_line (some (3 + 4 * t)) 0 (nI j) h = some (nI (qCol T j)) := by
  unfold f_X7_line f_X7_line_l16
  rw [q.is, qbind, if_pos rfl]
  have hn := w.1
  refine mLoop_ends (fun k => (nI (qW k (fun i => (T.2.1 i).testBit j)), nI k)) T.1 _ (fun k hk => ?_) ?_
  · show f_X7_line_b16 _ _ _ _ _ = _
    unfold f_X7_line_b16
    have hrk : T.2.1 k < 2 ^ 28 := q31 hn (w.2.1 k hk)
    rw [q.size, qbind, if_neg (by rw [qle (by omega) (by omega)]; omega), q.rows, qbind, q.row (by omega), qbind, hr k hk, qI_bit (by omega) hj, qI_tb, qI_shl _ (by omega), qI_or, qW_or, nI_1]
  · show f_X7_line_b16 _ _ _ _ _ = _
    unfold f_X7_line_b16
    rw [q.size, qbind, if_pos (by rw [qle (by omega) (by omega)]; omega)]
    rfl
theorem x_line_row (q : qTX h t (nI T.1) tn bk bs bc ra rb fr fa fb) (w : qWT T) (hr : ∀ i, i < T.1 → fr i = nI (T.2.1 i)) {i : Nat} (hi : i < T.1) : f_X7_line (some (3 + 4 * t)) 1 (nI i) h = some (nI (T.2.1 i)) := by
  unfold f_X7_line
  have hn := w.1
  rw [q.is, qbind, if_neg (by decide), q.rows, qbind, q.row (by omega), qbind, hr i hi]
theorem x_line (q : qTX h t (nI T.1) tn bk bs bc ra rb fr fa fb) (w : qWT T) (hr : ∀ i, i < T.1 → fr i = nI (T.2.1 i)) (row : Bool) {i : Nat} (hi : i < T.1) : f_X7_line (some (3 + 4 * t)) (qB2I row) (nI i) h = some (nI (qLine T row i)) := by
  have hn := w.1
  cases row
  · exact x_line_col q w hr (by omega)
  · exact x_line_row q w hr hi
end QLN
/-! the model's small methods -/
def qMb (h : mH) (c x y : Int32) (fo fr ff fg fw : Nat → Int32) : Prop := h.1 = 72 ∧ h.2 51 = .inr (8, [.int 0, .ref 52, .ref 53, .ref 54, .ref 55, .ref 56, .ref 57, .int c, .ref 58, .ref 59, .ref 60, .ref 61, .int x, .int y, .ref 62, .ref 63, .ref 64, .ref 65, .ref 66, .ref 67, .ref 68, .ref 69, .ref 70, .ref 71, .ref 72]) ∧ qMr h fo fr ff fg fw
theorem qM.b {h : mH} {A : qA} (q : qM h A) : ∃ x y fo fr ff fg fw, qMb h (nI A.2.1.1) x y fo fr ff fg fw ∧ ∀ t, t < 6 → qMt fo fr ff fg fw t (A.1 t) := by
  obtain ⟨a1, ⟨x, y, a2⟩, ⟨fo, fr, ff, fg, fw, a3, a4⟩, -⟩ := q
  exact ⟨x, y, fo, fr, ff, fg, fw, ⟨a1, a2, a3⟩, a4⟩
theorem m_in (v lo hi : Int32) : f_X9_in v lo hi = some (qB2I (decide (¬ v < lo ∧ ¬ hi < v))) := by
  unfold f_X9_in
  by_cases h1 : v < lo
  · rw [if_pos h1]; simp [h1, qB2I]
  · rw [if_neg h1]
    by_cases h2 : hi < v
    · rw [if_pos h2]; simp [h2, qB2I]
    · rw [if_neg h2]; simp [h1, h2, qB2I]
theorem m_in_neg {x : Int32} (hx : x < 0) (y : Int32) : f_X9_in x 0 y = some 0 := by
  unfold f_X9_in
  rw [if_pos hx]
theorem m_in_k {k m : Nat} (hk : k < 2 ^ 31) (hm : m < 2 ^ 31) : f_X9_in (nI k) 0 (nI m) = some (qB2I (decide (k ≤ m))) := by
  rw [m_in]
  congr 2
  rw [decide_eq_decide]
  have h1 := qpos hk
  rw [qlt hm hk]
  constructor
  · intro h; omega
  · intro h; exact ⟨h1, by omega⟩
theorem m_has {a k : Nat} (ha : a < 2 ^ 31) (hk : k < 32) : f_X9_has (nI a) (nI k) = some (qB2I (a.testBit k)) := by
  unfold f_X9_has
  by_cases h : a.testBit k = true
  · rw [if_pos ((qI_bit1 ha hk).mpr h), h]; rfl
  · rw [if_neg (fun q => h ((qI_bit1 ha hk).mp q))]
    have : a.testBit k = false := by simpa using h
    rw [this]; rfl
theorem m_isRow_neg {x : Int32} (hx : x < 0) (y : Int32) : f_X9_isRow x y = some 0 := by
  unfold f_X9_isRow
  rw [if_pos hx]
theorem m_isRow {k n : Nat} (hk : k < 2 ^ 31) (hn : n ≤ 28) : f_X9_isRow (nI k) (nI n) = some (qB2I (decide (k < 2 ^ n))) := by
  unfold f_X9_isRow
  rw [if_neg (qpos hk), qI_shr hk (by omega), qI_zero]
  have h1 : k / 2 ^ n < 2 ^ 31 := Nat.lt_of_le_of_lt (Nat.div_le_self _ _) hk
  by_cases h : k < 2 ^ n
  · rw [Nat.div_eq_of_lt h, if_pos rfl, decide_eq_true h]; rfl
  · have h2 : 0 < k / 2 ^ n := Nat.div_pos (by omega) (Nat.two_pow_pos n)
    rw [if_neg (by rw [qeq h1 (by decide)]; omega), decide_eq_false h]; rfl
theorem m_sumOf {a b : Nat} (ha : a ^^^ b < 2 ^ 31) (x : Int32) : f_X9_sumOf (nI a) (nI b) x = some (x - nI (2 * qp (a ^^^ b))) := by
  unfold f_X9_sumOf
  rw [qI_xor, qX_bitsOf ha, qbind, qL2, qI_mul]
section QMB
variable {h : mH} {A : qA} {t : Nat} {c x y : Int32} {fo fr ff fg fw : Nat → Int32} {T : qT}
theorem qMb.le (q : qMb h c x y fo fr ff fg fw) {k : Nat} (hk : k ≤ 72) : k ≤ h.1 := by rw [q.1]; exact hk
theorem qMb.is (q : qMb h c x y fo fr ff fg fw) : mIs h (some 51) 8 = some () := qIs (q.le (by decide)) q.2.1
theorem qMb.orders (q : qMb h c x y fo fr ff fg fw) : mGR h (some 51) 8 1 = some (some 52) := qGR (q.le (by decide)) q.2.1 rfl
theorem qMb.rows (q : qMb h c x y fo fr ff fg fw) : mGR h (some 51) 8 2 = some (some 53) := qGR (q.le (by decide)) q.2.1 rfl
theorem qMb.from (q : qMb h c x y fo fr ff fg fw) : mGR h (some 51) 8 3 = some (some 54) := qGR (q.le (by decide)) q.2.1 rfl
theorem qMb.signed (q : qMb h c x y fo fr ff fg fw) : mGR h (some 51) 8 4 = some (some 55) := qGR (q.le (by decide)) q.2.1 rfl
theorem qMb.was (q : qMb h c x y fo fr ff fg fw) : mGR h (some 51) 8 5 = some (some 56) := qGR (q.le (by decide)) q.2.1 rfl
theorem qMb.toldA (q : qMb h c x y fo fr ff fg fw) : mGR h (some 51) 8 6 = some (some 57) := qGR (q.le (by decide)) q.2.1 rfl
theorem qMb.told (q : qMb h c x y fo fr ff fg fw) : mGI h (some 51) 8 7 = some c := qGI (q.le (by decide)) q.2.1 rfl
theorem qMb.order (q : qMb h c x y fo fr ff fg fw) {i : Nat} (hi : i < 6) : mAI h (some 52) (nI i) = some (fo i) := qAI (q.le (by decide)) q.2.2.1 (by decide) hi
theorem qMb.row (q : qMb h c x y fo fr ff fg fw) {i : Nat} (hi : i < 168) : mAI h (some 53) (nI i) = some (fr i) := qAI (q.le (by decide)) q.2.2.2.1 (by decide) hi
theorem qMb.fromI (q : qMb h c x y fo fr ff fg fw) {i : Nat} (hi : i < 336) : mAI h (some 54) (nI i) = some (ff i) := qAI (q.le (by decide)) q.2.2.2.2.1 (by decide) hi
theorem qMb.signedI (q : qMb h c x y fo fr ff fg fw) {i : Nat} (hi : i < 336) : mAI h (some 55) (nI i) = some (fg i) := qAI (q.le (by decide)) q.2.2.2.2.2.1 (by decide) hi
theorem qMb.wasI (q : qMb h c x y fo fr ff fg fw) {i : Nat} (hi : i < 12) : mAI h (some 56) (nI i) = some (fw i) := qAI (q.le (by decide)) q.2.2.2.2.2.2 (by decide) hi
theorem m_tab_no (q : qMb h c x y fo fr ff fg fw) (hm : ∀ t, t < 6 → qMt fo fr ff fg fw t (A.1 t)) {v : Int32} (hx : qNo A v) : f_X9_isTable (some 51) v h = some 0 := by
  unfold f_X9_isTable
  rw [q.is, qbind]
  rcases hx with hx | ⟨k, h6, h1, rfl⟩ | ⟨t, h6, rfl, h0⟩
  · rw [m_in_neg hx, qbind, if_pos rfl]
  · rw [show (5 : Int32) = nI 5 from rfl, m_in_k h1 (by decide), qbind, decide_eq_false (by omega), qif0]
  · rw [show (5 : Int32) = nI 5 from rfl, m_in_k (by omega) (by decide), qbind, decide_eq_true (by omega), if_neg (by decide), q.orders, qbind, q.order h6, qbind, (hm t h6).1, h0, if_pos (by decide)]
theorem m_tab_yes (q : qMb h c x y fo fr ff fg fw) (hm : ∀ t, t < 6 → qMt fo fr ff fg fw t (A.1 t)) (w : qWA A) {v : Int32} (hx : qYes A v t) : f_X9_isTable (some 51) v h = some 1 := by
  obtain ⟨h6, rfl, h0⟩ := hx
  have hn := (w.1 t h6).1
  unfold f_X9_isTable
  rw [q.is, qbind, show (5 : Int32) = nI 5 from rfl, m_in_k (by omega) (by decide), qbind, decide_eq_true (by omega), if_neg (by decide), q.orders, qbind, q.order h6, qbind, (hm t h6).1, if_neg (by rw [qI_zero, qle (by omega) (by decide)]; omega)]
theorem m_line_no (q : qMb h c x y fo fr ff fg fw) (hm : ∀ t, t < 6 → qMt fo fr ff fg fw t (A.1 t)) {v : Int32} (hx : qNo A v) (i : Int32) : f_X9_isLine (some 51) v i h = some 0 := by
  unfold f_X9_isLine
  rw [q.is, qbind, m_tab_no q hm hx, qbind, if_pos rfl]
theorem m_line_neg (q : qMb h c x y fo fr ff fg fw) (hm : ∀ t, t < 6 → qMt fo fr ff fg fw t (A.1 t)) (w : qWA A) {v : Int32} (hx : qYes A v t) {i : Int32} (hi : i < 0) : f_X9_isLine (some 51) v i h = some 0 := by
  have h6 := hx.1
  unfold f_X9_isLine
  rw [q.is, qbind, m_tab_yes q hm w hx, qbind, if_neg (by decide), q.orders, qbind, hx.2.1, q.order h6, qbind, m_in_neg hi, qbind, if_pos rfl]
theorem m_line (q : qMb h c x y fo fr ff fg fw) (hm : ∀ t, t < 6 → qMt fo fr ff fg fw t (A.1 t)) (w : qWA A) {v : Int32} (hx : qYes A v t) {k : Nat} (hk : k < 2 ^ 31) : f_X9_isLine (some 51) v (nI k) h = some (qB2I (decide (k < (A.1 t).1))) := by
  have h6 := hx.1
  have h0 := hx.2.2
  have hn := (w.1 t h6).1
  unfold f_X9_isLine
  rw [q.is, qbind, m_tab_yes q hm w hx, qbind, if_neg (by decide), q.orders, qbind, hx.2.1, q.order h6, qbind, (hm t h6).1, qI_one, qI_sub (by omega), m_in_k hk (by omega), qbind]
  by_cases h1 : k < (A.1 t).1
  · rw [decide_eq_true h1, decide_eq_true (by omega), if_neg (by decide)]; rfl
  · rw [decide_eq_false h1, decide_eq_false (by omega), qif0]; rfl
theorem m_rowOf (q : qMb h c x y fo fr ff fg fw) (hm : qMt fo fr ff fg fw t T) (h6 : t < 6) (w : qWT T) {i : Nat} (hi : i < T.1) : f_X9_rowOf (some 51) (nI t) (nI i) h = some (nI (T.2.1 i)) := by
  have hn := w.1
  unfold f_X9_rowOf
  rw [q.is, qbind, q.rows, qbind, qL28, qI_mul, qI_add, q.row (by omega), qbind, hm.2.1 i hi]
theorem m_isMinus (q : qMb h c x y fo fr ff fg fw) (hm : qMt fo fr ff fg fw t T) (h6 : t < 6) (w : qWT T) {i j : Nat} (hi : i < T.1) (hj : j < 32) : f_X9_isMinus (some 51) (nI t) (nI i) (nI j) h = some (qB2I ((T.2.1 i).testBit j)) := by
  have hr : T.2.1 i < 2 ^ 28 := q31 w.1 (w.2.1 i hi)
  unfold f_X9_isMinus
  rw [q.is, qbind, m_rowOf q hm h6 w hi, qbind, m_has (by omega) hj, qbind, if_pos (qB01 _)]
theorem m_columnOf (q : qMb h c x y fo fr ff fg fw) (hm : qMt fo fr ff fg fw t T) (h6 : t < 6) (w : qWT T) {j : Nat} (hj : j < 32) : f_X9_columnOf (some 51) (nI t) (nI j) h = some (nI (qCol T j)) := by
  have hn := w.1
  unfold f_X9_columnOf f_X9_columnOf_l5
  rw [q.is, qbind]
  refine mLoop_ends (fun k => (nI (qW k (fun i => (T.2.1 i).testBit j)), nI k)) T.1 _ (fun k hk => ?_) ?_
  · show f_X9_columnOf_b5 _ _ _ _ _ _ = _
    unfold f_X9_columnOf_b5
    rw [q.orders, qbind, q.order h6, qbind, hm.1, if_neg (by rw [qle (by omega) (by omega)]; omega), m_isMinus q hm h6 w hk hj, qbind, nI_1]
    cases hb : (T.2.1 k).testBit j
    · rw [qif0]
      simp [qW, hb]
    · rw [if_neg (by decide), qI_pow (by omega), qI_or, ← qW_or]
      simp [hb]
  · show f_X9_columnOf_b5 _ _ _ _ _ _ = _
    unfold f_X9_columnOf_b5
    rw [q.orders, qbind, q.order h6, qbind, hm.1, if_pos (by rw [qle (by omega) (by omega)]; omega)]
    rfl
theorem m_lineOf (q : qMb h c x y fo fr ff fg fw) (hm : qMt fo fr ff fg fw t T) (h6 : t < 6) (w : qWT T) (row : Bool) {i : Nat} (hi : i < T.1) : f_X9_lineOf (some 51) (nI t) (qB2I row) (nI i) h = some (nI (qLine T row i)) := by
  have hn := w.1
  unfold f_X9_lineOf
  rw [q.is, qbind]
  cases row
  · rw [qif0, m_columnOf q hm h6 w (by omega), qbind]; rfl
  · rw [if_neg (by decide), m_rowOf q hm h6 w hi, qbind]; rfl
end QMB
