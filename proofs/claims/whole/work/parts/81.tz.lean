/-! PURE: the lowest bit; sets in Gray's order -/
def qGy (s : Nat) : Nat := s ^^^ (s / 2)
def qTz (s : Nat) : Nat := Nat.log2 (s &&& (s ^^^ (s - 1)))
def qTzOk (s : Nat) : Bool := decide (s = 0) || (decide (f_J6_numberOfTrailingZeros_0f7a4 (nI s) = some (nI (qTz s))) && (decide (qGy s = qGy (s - 1) ^^^ 2 ^ qTz s) && (decide (s % 2 ^ (qTz s + 1) = 2 ^ qTz s) && decide (qTz s < 15))))
theorem qTz_all : ∀ a, a < 32 → ((List.range 1024).all fun b => qTzOk (1024 * a + b)) = true := by decide +kernel
theorem qTz_ok {s : Nat} (h0 : 0 < s) (hs : s < 2 ^ 15) : f_J6_numberOfTrailingZeros_0f7a4 (nI s) = some (nI (qTz s)) ∧ qGy s = qGy (s - 1) ^^^ 2 ^ qTz s ∧ s % 2 ^ (qTz s + 1) = 2 ^ qTz s ∧ qTz s < 15 := by
  have h1 := List.all_eq_true.mp (qTz_all (s / 1024) (by omega)) (s % 1024) (List.mem_range.mpr (Nat.mod_lt _ (by decide)))
  rw [show 1024 * (s / 1024) + s % 1024 = s by omega] at h1
  simp only [qTzOk, Bool.or_eq_true, Bool.and_eq_true, decide_eq_true_eq] at h1
  rcases h1 with h1 | h1
  · omega
  · exact h1
