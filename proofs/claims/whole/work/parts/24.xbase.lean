/-! PURE: the class's small methods -/
theorem qbind {α β : Type} (x : α) (f : α → Option β) : (some x).bind f = f x := rfl
theorem qL28 : (28 : Int32) = nI 28 := rfl
theorem qL6 : (6 : Int32) = nI 6 := rfl
theorem qL2 : (2 : Int32) = nI 2 := rfl
theorem qB01 (b : Bool) : qB2I b = 0 ∨ qB2I b = 1 := by cases b <;> decide
theorem qB0 (b : Bool) : (qB2I b = 0) = (b = false) := by cases b <;> simp [qB2I]
theorem qif0 {α : Type} (a b : α) : (if qB2I false = 0 then a else b) = a := if_pos rfl
theorem qif1 {α : Type} (a b : α) : (if qB2I true = 0 then a else b) = b := if_neg (by decide)
theorem x_inSet {a k : Nat} (ha : a < 2 ^ 31) (hk : k < 32) : f_X8_inSet (nI a) (nI k) = some (qB2I (a.testBit k)) := by
  unfold f_X8_inSet
  by_cases h : a.testBit k = false
  · rw [if_pos ((qI_bit0 ha hk).mpr h), h]; rfl
  · rw [if_neg (fun q => h ((qI_bit0 ha hk).mp q))]
    have : a.testBit k = true := by simpa using h
    rw [this]; rfl
theorem x_signSum {w : Nat} (hw : w < 2 ^ 32) (x : Int32) : f_X8_signSum (nI w) x = some (x - nI (2 * qp w)) := by
  unfold f_X8_signSum
  rw [qJ_bitCount hw, qbind, qL2, qI_mul]
theorem x_isWord_neg {x : Int32} (hx : x < 0) (y : Int32) : f_X8_isWord x y = some 0 := by
  unfold f_X8_isWord
  rw [if_pos hx]
theorem x_isWord {k n : Nat} (hk : k < 2 ^ 31) (hn : n ≤ 28) : f_X8_isWord (nI k) (nI n) = some (qB2I (decide (k < 2 ^ n))) := by
  unfold f_X8_isWord
  have hp : 2 ^ n < 2 ^ 31 := Nat.pow_lt_pow_right (by decide) (by omega)
  rw [if_neg (qpos hk), qI_pow (by omega)]
  by_cases h : k < 2 ^ n
  · rw [if_neg (fun q => by rw [qle hp hk] at q; omega), decide_eq_true h]; rfl
  · rw [if_pos ((qle hp hk).mpr (by omega)), decide_eq_false h]; rfl
/-- a place that is no table, one that is -/
def qNo (A : qA) (x : Int32) : Prop := x < 0 ∨ (∃ k, 6 ≤ k ∧ k < 2 ^ 31 ∧ x = nI k) ∨ ∃ t, t < 6 ∧ x = nI t ∧ (A.1 t).1 = 0
def qYes (A : qA) (x : Int32) (t : Nat) : Prop := t < 6 ∧ x = nI t ∧ 0 < (A.1 t).1
theorem qNoYes (A : qA) (x : Int32) : qNo A x ∨ ∃ t, qYes A x t := by
  rcases qarg x with h | ⟨k, h1, h2⟩
  · exact Or.inl (Or.inl h)
  · by_cases h6 : k < 6
    · by_cases h0 : (A.1 k).1 = 0
      · exact Or.inl (Or.inr (Or.inr ⟨k, h6, h2, h0⟩))
      · exact Or.inr ⟨k, h6, h2, by omega⟩
    · exact Or.inl (Or.inr (Or.inl ⟨k, by omega, h1, h2⟩))
section QXB
variable {h : mH} {A : qA} {t : Nat} {n tn bk bs bc : Int32} {ra rb : Nat} {fr fa fb : Nat → Int32}
theorem qX.is (q : qX h A) : mIs h (some 1) 7 = some () := qIs (by rw [q.1]; decide) q.2.1
theorem qX.shelf (q : qX h A) : mGR h (some 1) 7 0 = some (some 2) := qGR (by rw [q.1]; decide) q.2.1 rfl
theorem qX.at (q : qX h A) (ht : t < 6) : mAR h (some 2) (nI t) = some (some (3 + 4 * t)) := by
  obtain ⟨f, h1, h2⟩ := q.2.2.1
  rw [qAR (by rw [q.1]; decide) h1 (by decide) ht, h2 t ht]
theorem qX.told (q : qX h A) : mGI h (some 1) 7 2 = some (nI A.2.1.1) := qGI (by rw [q.1]; decide) q.2.1 rfl
theorem qX.toldA (q : qX h A) : mGR h (some 1) 7 1 = some (some 27) := qGR (by rw [q.1]; decide) q.2.1 rfl
theorem qTX.le (q : qTX h t n tn bk bs bc ra rb fr fa fb) : 3 + 4 * t ≤ h.1 ∧ 4 + 4 * t ≤ h.1 ∧ ra ≤ h.1 ∧ rb ≤ h.1 := by
  obtain ⟨h1, h2, -, -, -, -, h7⟩ := q
  rw [h2]; omega
theorem qTX.is (q : qTX h t n tn bk bs bc ra rb fr fa fb) : mIs h (some (3 + 4 * t)) 6 = some () := qIs q.le.1 q.2.2.1
theorem qTX.size (q : qTX h t n tn bk bs bc ra rb fr fa fb) : mGI h (some (3 + 4 * t)) 6 0 = some n := qGI q.le.1 q.2.2.1 rfl
theorem qTX.rows (q : qTX h t n tn bk bs bc ra rb fr fa fb) : mGR h (some (3 + 4 * t)) 6 1 = some (some (4 + 4 * t)) := qGR q.le.1 q.2.2.1 rfl
theorem qTX.tra (q : qTX h t n tn bk bs bc ra rb fr fa fb) : mGR h (some (3 + 4 * t)) 6 2 = some (some ra) := qGR q.le.1 q.2.2.1 rfl
theorem qTX.trb (q : qTX h t n tn bk bs bc ra rb fr fa fb) : mGR h (some (3 + 4 * t)) 6 3 = some (some rb) := qGR q.le.1 q.2.2.1 rfl
theorem qTX.turned (q : qTX h t n tn bk bs bc ra rb fr fa fb) : mGI h (some (3 + 4 * t)) 6 4 = some tn := qGI q.le.1 q.2.2.1 rfl
theorem qTX.known (q : qTX h t n tn bk bs bc ra rb fr fa fb) : mGI h (some (3 + 4 * t)) 6 5 = some bk := qGI q.le.1 q.2.2.1 rfl
theorem qTX.bsum (q : qTX h t n tn bk bs bc ra rb fr fa fb) : mGI h (some (3 + 4 * t)) 6 6 = some bs := qGI q.le.1 q.2.2.1 rfl
theorem qTX.bcol (q : qTX h t n tn bk bs bc ra rb fr fa fb) : mGI h (some (3 + 4 * t)) 6 7 = some bc := qGI q.le.1 q.2.2.1 rfl
theorem qTX.row (q : qTX h t n tn bk bs bc ra rb fr fa fb) {i : Nat} (hi : i < 28) : mAI h (some (4 + 4 * t)) (nI i) = some (fr i) := qAI q.le.2.1 q.2.2.2.1 (by decide) hi
theorem qTX.ma (q : qTX h t n tn bk bs bc ra rb fr fa fb) {i : Nat} (hi : i < 28) : mAI h (some ra) (nI i) = some (fa i) := qAI q.le.2.2.1 q.2.2.2.2.1 (by decide) hi
theorem qTX.mb (q : qTX h t n tn bk bs bc ra rb fr fa fb) {i : Nat} (hi : i < 28) : mAI h (some rb) (nI i) = some (fb i) := qAI q.le.2.2.2 q.2.2.2.2.2.1 (by decide) hi
theorem x_tab_no (q : qX h A) (w : qWA A) {x : Int32} (hx : qNo A x) : f_X8_tableAt (some 1) x h = some none := by
  unfold f_X8_tableAt
  rw [q.is, qbind]
  rcases hx with hx | ⟨k, h6, h1, rfl⟩ | ⟨t, h6, rfl, h0⟩
  · rw [if_pos hx]
  · rw [if_neg (qpos h1), if_pos (by rw [qL6, qle (by decide) h1]; exact h6)]
  · rw [if_neg (qpos (by omega)), if_neg (by rw [qL6, qle (by decide) (by omega)]; omega), q.shelf, qbind, q.at h6, qbind]
    obtain ⟨bk, bs, bc, ra, rb, fr, fa, fb, hT, -⟩ := q.2.2.2.1 t h6
    rw [hT.size, qbind, h0, if_pos (show nI 0 = 0 from rfl)]
theorem x_tab_yes (q : qX h A) (w : qWA A) {x : Int32} (hx : qYes A x t) : f_X8_tableAt (some 1) x h = some (some (3 + 4 * t)) := by
  obtain ⟨h6, rfl, h0⟩ := hx
  unfold f_X8_tableAt
  obtain ⟨bk, bs, bc, ra, rb, fr, fa, fb, hT, -⟩ := q.2.2.2.1 t h6
  have hn := (w.1 t h6).1
  rw [q.is, qbind, if_neg (qpos (by omega)), if_neg (by rw [qL6, qle (by decide) (by omega)]; omega), q.shelf, qbind, q.at h6, qbind, hT.size, qbind, if_neg (by rw [qI_zero, qeq (by omega) (by decide)]; omega), qbind, q.at h6, qbind]
theorem x_has_neg (q : qTX h t n tn bk bs bc ra rb fr fa fb) {x : Int32} (hx : x < 0) : f_X7_has (some (3 + 4 * t)) x h = some 0 := by
  unfold f_X7_has
  rw [q.is, qbind, if_pos hx]
theorem x_has {m k : Nat} (q : qTX h t (nI m) tn bk bs bc ra rb fr fa fb) (hm : m ≤ 28) (hk : k < 2 ^ 31) : f_X7_has (some (3 + 4 * t)) (nI k) h = some (qB2I (decide (k < m))) := by
  unfold f_X7_has
  rw [q.is, qbind, if_neg (qpos hk), q.size, qbind]
  by_cases h1 : k < m
  · rw [if_neg (by rw [qle (by omega) hk]; omega), decide_eq_true h1]; rfl
  · rw [if_pos (by rw [qle (by omega) hk]; omega), decide_eq_false h1]; rfl
theorem x_mask {m : Nat} (q : qTX h t (nI m) tn bk bs bc ra rb fr fa fb) (hm : m ≤ 28) : f_X7_mask (some (3 + 4 * t)) h = some (nI (2 ^ m - 1)) := by
  unfold f_X7_mask
  rw [q.is, qbind, q.size, qbind, qI_mask (by omega)]
theorem x_isMinus {i j r : Nat} (q : qTX h t n tn bk bs bc ra rb fr fa fb) (hi : i < 28) (hj : j < 32) (hr : fr i = nI r) (hr2 : r < 2 ^ 31) : f_X7_isMinus (some (3 + 4 * t)) (nI i) (nI j) h = some (qB2I (r.testBit j)) := by
  unfold f_X7_isMinus
  rw [q.is, qbind, q.rows, qbind, q.row hi, qbind, hr, x_inSet hr2 hj, qbind, if_pos (qB01 _)]
end QXB
