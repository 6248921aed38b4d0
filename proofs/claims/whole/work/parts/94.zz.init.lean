/-! PURE: the start -/
set_option maxRecDepth 100000 in
set_option maxHeartbeats 4000000 in
theorem qStart_x (L : Nat) (xs : Nat → Int32) : ∃ h1, f_X8_init 1 (mNew (0, fun _ => .inl (L, .inl xs)) (.inr (7, [.null, .null, .int 0, .null, .null, .null, .null, .null, .null, .null, .null]))) = some h1 ∧ h1.1 = 50 ∧ h1.2 0 = .inl (L, .inl xs) := ⟨_, rfl, rfl, rfl⟩
