/-! PURE: fours; what the kernel runs -/
def qOm : List Nat := [1, 3, 5, 7]
def qEl (m : Nat) : List Nat := if m = 1 then [0] else if m = 3 then [0, 6] else if m = 5 then [0, 12, 18, 30] else [0, 24, 36, 60, 66, 90, 102, 126]
def qShl (m : Nat) : List Int32 := if m = 1 then [0] else if m = 3 then [3, -1] else if m = 5 then [325, 61, -191, 65] else [29127, 12223, -4157, 12219, -3905, -20289, -4413, 12483]
def qEch (m : Nat) : List (List Int32) := if m = 1 then [[1]] else if m = 3 then [[3, 3, 3], [3, -1, -1]] else if m = 5 then [[5, 5, 5, 5, 5], [5, 1, -3, -3, 1], [5, -3, 1, 1, -3], [5, 1, 1, 1, 1]] else [[7, 7, 7, 7, 7, 7, 7], [7, 3, -1, -1, -1, -1, 3], [7, -1, -1, 3, 3, -1, -1], [7, 3, -1, -5, -5, -1, 3], [7, -1, 3, -1, -1, 3, -1], [7, -5, 3, -1, -1, 3, -5], [7, -1, -5, 3, 3, -5, -1], [7, 3, 3, 3, 3, 3, 3]]
def qEw (m i : Nat) : Nat := (qEl m).getD i 0
def qEr (m : Nat) : Nat := (qEl m).length
def qSh (m i : Nat) : Int32 := (qShl m).getD i 0
def qEc (m i y : Nat) : Int32 := ((qEch m).getD i []).getD y 0
def gEven (v0 v1 : Int32) : Option Int32 := (f_X9_has v0 (0 : Int32)).bind fun x1 => if x1 = 0 then mLoopN (fun x : Int32 => f_X9_isEven_b12 v0 v1 x) 9 1 else some 0
theorem gEven_ok {a b r : Int32} (h : gEven a b = some r) : f_X9_isEven a b = some r := by
  unfold gEven at h
  unfold f_X9_isEven
  obtain ⟨x1, e, h⟩ := mBind h
  rw [e, qbind]
  by_cases c : x1 = 0
  · rw [if_pos c] at h ⊢
    exact mLoop_some.mpr ⟨9, h⟩
  · rw [if_neg c] at h ⊢; exact h
def qCn (m w : Nat) : Nat := ((qEl m).filter (fun x => decide (x < w))).length
theorem qKf1 : ∀ m, m ∈ qOm → ∀ i, i < qEr m → mLoopN (fun x : Int32 × Int32 => f_X5_allShifts_b4 (nI (qEw m i)) (nI m) x.1 x.2) 6 (0, 1) = some (qSh m i) := by decide +kernel
theorem qKf2 : ∀ m, m ∈ qOm → ∀ w, w < 2 ^ m → w % 2 = 0 → mLoopN (fun x : Int32 => f_X5_isMirrored_b2 (nI w) (nI m) x) 9 1 = some (qB2I (decide (w ∈ qEl m))) := by decide +kernel
theorem qKf3 : ∀ m, m ∈ qOm → ∀ w, w < 2 ^ m → gEven (nI w) (nI m) = some (qB2I (decide (w ∈ qEl m))) := by decide +kernel
theorem qKf4 : ∀ m, m ∈ qOm → ∀ i, i < qEr m → ∀ y, y < m → mLoopN (fun x : Int32 × Int32 => f_X9_echo_b5 (nI (qEw m i)) (nI m) (nI y) x.1 x.2) 9 (0, 0) = some (qEc m i y) := by decide +kernel
theorem qKf5 : ∀ m, m ∈ qOm → ∀ w, w < 2 ^ m → qCn m (w + 1) = qCn m w + (decide (w ∈ qEl m)).toNat ∧ (w ∈ qEl m → qEw m (qCn m w) = w ∧ qCn m w < qEr m ∧ w % 2 = 0) ∧ (w % 2 = 0 → qCn m w < 8) := by decide +kernel
theorem qKf6 : ∀ m, m ∈ qOm → qCn m (2 ^ m) = qEr m ∧ qCn m 0 = 0 ∧ 1 ≤ qEr m ∧ qEr m ≤ 8 ∧ 1 ≤ m ∧ m ≤ 7 ∧ 2 * 2 ^ (m - 1) = 2 ^ m := by decide +kernel
theorem qKf7 : ∀ m, m ∈ qOm → ∀ i, i < qEr m → qEw m i < 2 ^ 7 := by decide +kernel
def qDg (R k z : Nat) : Nat := if z = 0 then k / R / R / R % R else if z = 1 then k / R / R % R else if z = 2 then k / R % R else k % R
def qGd4 (m a b c d : Nat) : Bool := decide (qSh m a + qSh m b + qSh m c + qSh m d = 0)
def qGd (m k : Nat) : Bool := qGd4 m (qDg (qEr m) k 0) (qDg (qEr m) k 1) (qDg (qEr m) k 2) (qDg (qEr m) k 3)
def qAf (m a b c d : Nat) : Nat → Nat → Bool
  | 0, _ => true
  | e + 1, y => if 0 + qEc m a y + qEc m b y + qEc m c y + qEc m d y = 0 then qAf m a b c d e (y + 1) else false
theorem qKf8a : ∀ m, m ∈ [1, 3, 5] → ∀ a, a < qEr m → ∀ b, b < qEr m → ∀ c, c < qEr m → ∀ d, d < qEr m → qAf m a b c d (m - 1) 1 = qGd4 m a b c d := by decide +kernel
theorem qKf8b : ∀ a, a < qEr 7 → ∀ b, b < qEr 7 → ∀ c, c < qEr 7 → ∀ d, d < qEr 7 → qAf 7 a b c d 6 1 = qGd4 7 a b c d := by decide +kernel
theorem qKf8 {m : Nat} (hm : m ∈ qOm) {a b c d : Nat} (ha : a < qEr m) (hb : b < qEr m) (hc : c < qEr m) (hd : d < qEr m) : qAf m a b c d (m - 1) 1 = qGd4 m a b c d := by
  by_cases h7 : m = 7
  · subst h7
    exact qKf8b a ha b hb c hc d hd
  · refine qKf8a m ?_ a ha b hb c hc d hd
    simp only [qOm, List.mem_cons, List.not_mem_nil, or_false] at hm ⊢
    omega
theorem qDg_at {R a b c d : Nat} (ha : a < R) (hb : b < R) (hc : c < R) (hd : d < R) : qDg R (((a * R + b) * R + c) * R + d) 0 = a ∧ qDg R (((a * R + b) * R + c) * R + d) 1 = b ∧ qDg R (((a * R + b) * R + c) * R + d) 2 = c ∧ qDg R (((a * R + b) * R + c) * R + d) 3 = d := by
  have h1 := qdm (k := (a * R + b) * R + c) hd
  have h2 := qdm (k := a * R + b) hc
  have h3 := qdm (k := a) hb
  unfold qDg
  rw [h1.1, h2.1, h3.1]
  exact ⟨by rw [if_pos rfl, Nat.mod_eq_of_lt ha], by rw [if_neg (by decide), if_pos rfl, h3.2], by rw [if_neg (by decide), if_neg (by decide), if_pos rfl, h2.2], by rw [if_neg (by decide), if_neg (by decide), if_neg (by decide), h1.2]⟩
theorem qDg_lt {R : Nat} (hR : 0 < R) (k z : Nat) : qDg R k z < R := by
  unfold qDg
  by_cases h0 : z = 0
  · rw [if_pos h0]; exact Nat.mod_lt _ hR
  by_cases h1 : z = 1
  · rw [if_neg h0, if_pos h1]; exact Nat.mod_lt _ hR
  by_cases h2 : z = 2
  · rw [if_neg h0, if_neg h1, if_pos h2]; exact Nat.mod_lt _ hR
  rw [if_neg h0, if_neg h1, if_neg h2]; exact Nat.mod_lt _ hR
theorem qc_lt {p : Nat → Bool} {k j : Nat} (hk : p k = true) (hkj : k < j) : qc k p < qc j p := by
  induction j with
  | zero => omega
  | succ j ih =>
    show qc k p < qc j p + (p j).toNat
    by_cases h : k = j
    · subst h; rw [hk]; show _ < _ + 1; omega
    · have := ih (by omega); omega
/-- where so many have been counted -/
theorem qc_ex {p : Nat → Bool} {n w : Nat} (h : w < qc n p) : ∃ k, k < n ∧ p k = true ∧ qc k p = w := by
  induction n with
  | zero => exact absurd h (Nat.not_lt_zero w)
  | succ n ih =>
    have h' : w < qc n p + (p n).toNat := h
    by_cases h1 : w < qc n p
    · obtain ⟨k, a1, a2⟩ := ih h1
      exact ⟨k, by omega, a2⟩
    · cases hp : p n
      · rw [hp] at h'; exact absurd h' h1
      · rw [hp] at h'
        have h2 : w < qc n p + 1 := h'
        exact ⟨n, by omega, hp, by omega⟩
