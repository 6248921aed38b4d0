/-! PURE: the law over a whole script -/
set_option maxRecDepth 100000 in
set_option maxHeartbeats 4000000 in
theorem lw_body {L : Nat} {xs : Nat → Int32} {k : Nat} {h : mH} {A : qA} (hL : L ≤ 3584) (hk : 7 * k + 7 ≤ L) (I : qI h A) (h0 : h.2 0 = .inl (L, .inl xs)) : lwG L xs k (f_L_law_b18 (some 0) (some 1) (some 51) (nI (7 * k)) h) := by
  have hlt : ¬ (nI L - (7 : Int32)) < nI (7 * k) := by
    rw [show (7 : Int32) = nI 7 from rfl, qI_sub (by omega), qlt (by omega) (by omega)]; omega
  unfold f_L_law_b18
  rw [qLn (Nat.zero_le _) h0, qbind, if_neg hlt, lwR0 hL hk h0, qbind]
  refine lwIf (fun _ => lw_tell hL hk I h0) (fun _ => ?_)
  refine lwIf (fun _ => lw_take hL hk I h0) (fun _ => ?_)
  refine lwIf (fun _ => lw_residues hL hk I h0) (fun _ => ?_)
  refine lwIf (fun _ => lw_twice hL hk I h0) (fun _ => ?_)
  refine lwIf (fun _ => lw_doubled hL hk I h0) (fun _ => ?_)
  refine lwIf (fun _ => lw_product hL hk I h0) (fun _ => ?_)
  refine lwIf (fun _ => lw_four hL hk I h0) (fun _ => ?_)
  refine lwIf (fun _ => lw_bordered hL hk I h0) (fun _ => ?_)
  refine lwIf (fun _ => lw_completed hL hk I h0) (fun _ => ?_)
  refine lwIf (fun _ => lw_copy hL hk I h0) (fun _ => ?_)
  refine lwIf (fun _ => lw_drop hL hk I h0) (fun _ => ?_)
  refine lwIf (fun _ => lw_sign hL hk I h0) (fun _ => ?_)
  refine lwIf (fun _ => lw_exchange hL hk I h0) (fun _ => ?_)
  refine lwIf (fun _ => lw_turn hL hk I h0) (fun _ => ?_)
  refine lwIf (fun _ => lw_switched hL hk I h0) (fun _ => ?_)
  refine lwIf (fun _ => lw_norm hL hk I h0) (fun _ => ?_)
  refine lwIf (fun _ => lw_order hL hk I h0) (fun _ => ?_)
  refine lwIf (fun _ => lw_bits hL hk I h0) (fun _ => ?_)
  refine lwIf (fun _ => lw_trail hL hk I h0) (fun _ => ?_)
  refine lwIf (fun _ => lw_along hL hk I h0) (fun _ => ?_)
  refine lwIf (fun _ => lw_perpendicular hL hk I h0) (fun _ => ?_)
  refine lwIf (fun _ => lw_sum hL hk I h0) (fun _ => ?_)
  refine lwIf (fun _ => lw_best hL hk I h0) (fun _ => ?_)
  refine lwIf (fun _ => lw_tally hL hk I h0) (fun _ => ?_)
  refine lwIf (fun _ => lw_part hL hk I h0) (fun _ => ?_)
  refine lwIf (fun _ => lw_form hL hk I h0) (fun _ => ?_)
  refine lwIf (fun _ => lw_determinant hL hk I h0) (fun _ => ?_)
  refine lwIf (fun _ => lw_like hL hk I h0) (fun _ => ?_)
  refine lwIf (fun _ => lw_image hL hk I h0) (fun _ => ?_)
  refine lwIf (fun _ => lw_symmetries hL hk I h0) (fun _ => ?_)
  refine lwIf (fun _ => lw_joined hL hk I h0) (fun _ => ?_)
  refine lwIf (fun _ => lw_common hL hk I h0) (fun _ => ?_)
  refine lwIf (fun _ => lw_block hL hk I h0) (fun _ => ?_)
  refine lwIf (fun _ => lw_through hL hk I h0) (fun _ => ?_)
  refine lwIf (fun _ => lw_halves hL hk I h0) (fun _ => ?_)
  refine lwIf (fun _ => lw_nearest hL hk I h0) (fun _ => ?_)
  refine lwIf (fun _ => lw_signal hL hk I h0) (fun _ => ?_)
  refine lwIf (fun _ => lw_spectrum hL hk I h0) (fun _ => ?_)
  refine lwIf (fun _ => lw_field hL hk I h0) (fun _ => ?_)
  refine lwIf (fun _ => lw_fours hL hk I h0) (fun _ => ?_)
  refine lwIf (fun _ => lw_count hL hk I h0) (fun _ => ?_)
  exact lwG.n I h0 rfl
theorem lw_small : ∀ l, l < 7 → nI l - (7 : Int32) < nI 0 := by decide +kernel
theorem lw_last {L : Nat} {xs : Nat → Int32} {h : mH} (hL : L ≤ 3584) (h0 : h.2 0 = .inl (L, .inl xs)) : f_L_law_b18 (some 0) (some 1) (some 51) (nI (7 * (L / 7))) h = some (.inr (1, h)) := by
  have hlt : (nI L - (7 : Int32)) < nI (7 * (L / 7)) := by
    by_cases h7 : 7 ≤ L
    · rw [show (7 : Int32) = nI 7 from rfl, qI_sub h7, qlt (by omega) (by omega)]; omega
    · rw [show 7 * (L / 7) = 0 by omega]
      exact lw_small L (by omega)
  unfold f_L_law_b18
  rw [qLn (Nat.zero_le _) h0, qbind, if_pos hlt]
theorem lw_loop {L : Nat} {xs : Nat → Int32} {h : mH} {A : qA} (hL : L ≤ 3584) (I : qI h A) (h0 : h.2 0 = .inl (L, .inl xs)) : ∃ r, f_L_law_l18 (some 0) (some 1) (some 51) (0 : Int32) h = some r ∧ r.1 = 1 := by
  unfold f_L_law_l18
  refine mLoop_inv (b := fun x : Int32 × mH => f_L_law_b18 (some 0) (some 1) (some 51) x.1 x.2) (lwJ L xs) (L / 7) (fun r : Int32 × mH => r.1 = 1) (s0 := (0, h)) ⟨rfl, ⟨A, I⟩, h0⟩ ?_ ?_
  · rintro k ⟨i, h'⟩ hk ⟨e1, ⟨A', I'⟩, h0'⟩
    have e1' : i = nI (7 * k) := e1
    subst e1'
    exact lw_body hL (by omega) I' h0'
  · rintro ⟨i, h'⟩ ⟨e1, -, h0'⟩
    have e1' : i = nI (7 * (L / 7)) := e1
    subst e1'
    exact ⟨(1, h'), lw_last hL h0', rfl⟩
theorem mPure_ok : mPure := by
  intro L xs hL
  obtain ⟨g, g2, p1, p2, I, h0⟩ := qStart L xs
  obtain ⟨⟨r, h1⟩, e, er⟩ := lw_loop hL I h0
  have er' : r = 1 := er
  subst er'
  refine ⟨h1, ?_⟩
  unfold f_L_law
  refine lwBind rfl ?_
  refine lwBind p1 ?_
  refine lwBind rfl ?_
  refine lwBind p2 ?_
  exact e
