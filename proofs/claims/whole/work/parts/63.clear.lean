/-! PURE: a step of the elimination -/
def qClp (k : Nat) (p : Int64) (M : qMx) (i0 j0 : Nat) : qMx := fun i j => if k < i ∧ k < j ∧ (i < i0 ∨ i = i0 ∧ j < j0) then (M i j * M k k - M i k * M k j) / p else M i j
def qCl (k : Nat) (p : Int64) (M : qMx) : qMx := fun i j => if k < i ∧ k < j then (M i j * M k k - M i k * M k j) / p else M i j
theorem qLx.cong {h : mH} {a s n : Nat} {M M' : qMx} (q : qLx h a s n M) (e : ∀ i j, i < n → j < n → M i j = M' i j) : qLx h a s n M' := by
  obtain ⟨f, f1, f2⟩ := q
  exact ⟨f, f1, fun i j hi hj => (f2 i j hi hj).trans (e i j hi hj)⟩
theorem qClp_step {k : Nat} {p : Int64} {M : qMx} {i0 j0 : Nat} (hi : k < i0) (hj : k < j0) : qMxU (qClp k p M i0 j0) i0 j0 ((M i0 j0 * M k k - M i0 k * M k j0) / p) = qClp k p M i0 (j0 + 1) := by
  funext i j
  unfold qMxU qClp
  by_cases e : i = i0 ∧ j = j0
  · rw [if_pos e, if_pos (by omega), e.1, e.2]
  · rw [if_neg e]
    by_cases c : k < i ∧ k < j ∧ (i < i0 ∨ i = i0 ∧ j < j0)
    · rw [if_pos c, if_pos (by omega)]
    · rw [if_neg c, if_neg (by omega)]
theorem qClp_next {k : Nat} {p : Int64} {M : qMx} {i0 n : Nat} (i j : Nat) (hj : j < n) : qClp k p M i0 n i j = qClp k p M (i0 + 1) (k + 1) i j := by
  unfold qClp
  by_cases c : k < i ∧ k < j ∧ (i < i0 ∨ i = i0 ∧ j < n)
  · rw [if_pos c, if_pos (by omega)]
  · rw [if_neg c, if_neg (by omega)]
theorem qClp_end {k : Nat} {p : Int64} {M : qMx} {n : Nat} (i j : Nat) (hi : i < n) : qClp k p M n (k + 1) i j = qCl k p M i j := by
  unfold qClp qCl
  by_cases c : k < i ∧ k < j
  · rw [if_pos c, if_pos (by omega)]
  · rw [if_neg c, if_neg (by omega)]
theorem qClp_0 {k : Nat} {p : Int64} {M : qMx} : qClp k p M (k + 1) (k + 1) = M := by
  funext i j
  unfold qClp
  rw [if_neg (by omega)]
theorem qClp_at {k : Nat} {p : Int64} {M : qMx} {i0 j0 : Nat} (hi : k < i0) (hj : k < j0) : qClp k p M i0 j0 i0 j0 = M i0 j0 ∧ qClp k p M i0 j0 k k = M k k ∧ qClp k p M i0 j0 i0 k = M i0 k ∧ qClp k p M i0 j0 k j0 = M k j0 := by
  unfold qClp
  refine ⟨?_, ?_, ?_, ?_⟩ <;> rw [if_neg (by omega)]
