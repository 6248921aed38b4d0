/-! PURE: A TURN OF THE LAW. Written by wip/whole/mkstart.py -/
def lwJ (L : Nat) (xs : Nat → Int32) (k : Nat) (s : Int32 × mH) : Prop := s.1 = nI (7 * k) ∧ (∃ A, qI s.2 A) ∧ s.2.2 0 = .inl (L, .inl xs)
def lwG (L : Nat) (xs : Nat → Int32) (k : Nat) (e : Option ((Int32 × mH) ⊕ (Int32 × mH))) : Prop := ∃ s', e = some (.inl s') ∧ lwJ L xs (k + 1) s'
section LWG
variable {L : Nat} {xs : Nat → Int32} {k : Nat} {e : Option ((Int32 × mH) ⊕ (Int32 × mH))} {h : mH} {A : qA}
theorem lw7 (k : Nat) : nI (7 * k) + 7 = nI (7 * (k + 1)) := (qI_add (7 * k) 7).trans (by rw [Nat.mul_succ])
theorem lwG.n (I : qI h A) (h0 : h.2 0 = .inl (L, .inl xs)) (he : e = some (.inl (nI (7 * k) + 7, h))) : lwG L xs k e := ⟨_, he, lw7 k, ⟨A, I⟩, h0⟩
theorem lwG.s {fx fm : mH → Option (Int32 × mH)} (q : qStep fx fm h) (h0 : h.2 0 = .inl (L, .inl xs)) (he : ∀ r h1 h2, fx h = some (r, h1) → fm h1 = some (r, h2) → h1.2 0 = .inl (L, .inl xs) → e = some (.inl (nI (7 * k) + 7, h2))) : lwG L xs k e := by
  obtain ⟨r, h1, h2, A', p1, p2, I, s2, s1⟩ := q
  exact lwG.n I ((s2.2 0 (Nat.lt_irrefl 0)).trans h0) (he r h1 h2 p1 p2 ((s1.2 0 (Nat.lt_irrefl 0)).trans h0))
theorem lwG.l {fx fm : mH → Option (Int64 × mH)} (q : qStepL fx fm h) (h0 : h.2 0 = .inl (L, .inl xs)) (he : ∀ r h1 h2, fx h = some (r, h1) → fm h1 = some (r, h2) → h1.2 0 = .inl (L, .inl xs) → e = some (.inl (nI (7 * k) + 7, h2))) : lwG L xs k e := by
  obtain ⟨r, h1, h2, A', p1, p2, I, s2, s1⟩ := q
  exact lwG.n I ((s2.2 0 (Nat.lt_irrefl 0)).trans h0) (he r h1 h2 p1 p2 ((s1.2 0 (Nat.lt_irrefl 0)).trans h0))
theorem lwG.m {fx : mH → Option Int32} {fm : mH → Option (Int32 × mH)} (q : qStepM fx fm h) (h0 : h.2 0 = .inl (L, .inl xs)) (he : ∀ r h2, fx h = some r → fm h = some (r, h2) → e = some (.inl (nI (7 * k) + 7, h2))) : lwG L xs k e := by
  obtain ⟨r, h2, A', p1, p2, I, s2⟩ := q
  exact lwG.n I ((s2.2 0 (Nat.lt_irrefl 0)).trans h0) (he r h2 p1 p2)
theorem lwG.x {fx : mH → Option (Int32 × mH)} {fm : mH → Option Int32} (q : qStepX fx fm h) (h0 : h.2 0 = .inl (L, .inl xs)) (he : ∀ r h1, fx h = some (r, h1) → fm h1 = some r → h1.2 0 = .inl (L, .inl xs) → e = some (.inl (nI (7 * k) + 7, h1))) : lwG L xs k e := by
  obtain ⟨r, h1, A', p1, p2, I, s1⟩ := q
  exact lwG.n I ((s1.2 0 (Nat.lt_irrefl 0)).trans h0) (he r h1 p1 p2 ((s1.2 0 (Nat.lt_irrefl 0)).trans h0))
theorem lwIf {p : Prop} [Decidable p] {a b : Option ((Int32 × mH) ⊕ (Int32 × mH))} (h1 : p → lwG L xs k a) (h2 : ¬ p → lwG L xs k b) : lwG L xs k (if p then a else b) := by
  by_cases hp : p
  · rw [if_pos hp]; exact h1 hp
  · rw [if_neg hp]; exact h2 hp
theorem lwR1 {L : Nat} {xs : Nat → Int32} {k : Nat} (hL : L ≤ 3584) (hk : 7 * k + 7 ≤ L) {h : mH} (z : h.2 0 = .inl (L, .inl xs)) : mAI h (some 0) (nI (7 * k) + (1 : Int32)) = some (xs (7 * k + 1)) := (congrArg (mAI h (some 0)) (qI_add (7 * k) 1)).trans (qAI (Nat.zero_le _) z (by omega) (by omega))
theorem lwR2 {L : Nat} {xs : Nat → Int32} {k : Nat} (hL : L ≤ 3584) (hk : 7 * k + 7 ≤ L) {h : mH} (z : h.2 0 = .inl (L, .inl xs)) : mAI h (some 0) (nI (7 * k) + (2 : Int32)) = some (xs (7 * k + 2)) := (congrArg (mAI h (some 0)) (qI_add (7 * k) 2)).trans (qAI (Nat.zero_le _) z (by omega) (by omega))
theorem lwR3 {L : Nat} {xs : Nat → Int32} {k : Nat} (hL : L ≤ 3584) (hk : 7 * k + 7 ≤ L) {h : mH} (z : h.2 0 = .inl (L, .inl xs)) : mAI h (some 0) (nI (7 * k) + (3 : Int32)) = some (xs (7 * k + 3)) := (congrArg (mAI h (some 0)) (qI_add (7 * k) 3)).trans (qAI (Nat.zero_le _) z (by omega) (by omega))
theorem lwR4 {L : Nat} {xs : Nat → Int32} {k : Nat} (hL : L ≤ 3584) (hk : 7 * k + 7 ≤ L) {h : mH} (z : h.2 0 = .inl (L, .inl xs)) : mAI h (some 0) (nI (7 * k) + (4 : Int32)) = some (xs (7 * k + 4)) := (congrArg (mAI h (some 0)) (qI_add (7 * k) 4)).trans (qAI (Nat.zero_le _) z (by omega) (by omega))
theorem lwR5 {L : Nat} {xs : Nat → Int32} {k : Nat} (hL : L ≤ 3584) (hk : 7 * k + 7 ≤ L) {h : mH} (z : h.2 0 = .inl (L, .inl xs)) : mAI h (some 0) (nI (7 * k) + (5 : Int32)) = some (xs (7 * k + 5)) := (congrArg (mAI h (some 0)) (qI_add (7 * k) 5)).trans (qAI (Nat.zero_le _) z (by omega) (by omega))
theorem lwR6 {L : Nat} {xs : Nat → Int32} {k : Nat} (hL : L ≤ 3584) (hk : 7 * k + 7 ≤ L) {h : mH} (z : h.2 0 = .inl (L, .inl xs)) : mAI h (some 0) (nI (7 * k) + (6 : Int32)) = some (xs (7 * k + 6)) := (congrArg (mAI h (some 0)) (qI_add (7 * k) 6)).trans (qAI (Nat.zero_le _) z (by omega) (by omega))
theorem lwR0 {L : Nat} {xs : Nat → Int32} {k : Nat} (hL : L ≤ 3584) (hk : 7 * k + 7 ≤ L) {h : mH} (z : h.2 0 = .inl (L, .inl xs)) : mAI h (some 0) (nI (7 * k)) = some (xs (7 * k)) := qAI (Nat.zero_le _) z (by omega) (by omega)
theorem lw_cmp (r : Int64) : lg_cmp r r = 0 := (lg_cmp_eq r r).mpr rfl
theorem lw_tell (hL : L ≤ 3584) (hk : 7 * k + 7 ≤ L) (I : qI h A) (h0 : h.2 0 = .inl (L, .inl xs)) : lwG L xs k ((mAI h (some 0) (nI (7 * k) + (1 : Int32))).bind fun x4 => (f_X8_tell (some 1) x4 h).bind fun x5 => (mAI x5.2 (some 0) (nI (7 * k) + (1 : Int32))).bind fun x6 => (f_X9_tell (some 51) x6 x5.2).bind fun x7 => if x5.1 = x7.1 then some (Sum.inl ((nI (7 * k) + 7), x7.2)) else some (Sum.inr ((0 : Int32), x7.2))) := by
  refine lwG.s (op_tell I (xs (7 * k + 1))) h0 fun r h1 h2 p1 p2 z => ?_
  rw [lwR1 hL hk h0, qbind, p1, qbind, lwR1 hL hk z, qbind, p2, qbind]
  exact if_pos rfl
theorem lw_take (hL : L ≤ 3584) (hk : 7 * k + 7 ≤ L) (I : qI h A) (h0 : h.2 0 = .inl (L, .inl xs)) : lwG L xs k ((f_X8_take (some 1) h).bind fun x9 => (f_X9_take (some 51) x9.2).bind fun x10 => if x9.1 = x10.1 then some (Sum.inl ((nI (7 * k) + 7), x10.2)) else some (Sum.inr ((0 : Int32), x10.2))) := by
  refine lwG.s (op_take I ) h0 fun r h1 h2 p1 p2 z => ?_
  rw [p1, qbind, p2, qbind]
  exact if_pos rfl
theorem lw_residues (hL : L ≤ 3584) (hk : 7 * k + 7 ≤ L) (I : qI h A) (h0 : h.2 0 = .inl (L, .inl xs)) : lwG L xs k ((mAI h (some 0) (nI (7 * k) + (1 : Int32))).bind fun x12 => (f_X8_residues (some 1) x12 h).bind fun x13 => (mAI x13.2 (some 0) (nI (7 * k) + (1 : Int32))).bind fun x14 => (f_X9_residues (some 51) x14 x13.2).bind fun x15 => if x13.1 = x15.1 then some (Sum.inl ((nI (7 * k) + 7), x15.2)) else some (Sum.inr ((0 : Int32), x15.2))) := by
  refine lwG.s (op_residues I (xs (7 * k + 1))) h0 fun r h1 h2 p1 p2 z => ?_
  rw [lwR1 hL hk h0, qbind, p1, qbind, lwR1 hL hk z, qbind, p2, qbind]
  exact if_pos rfl
theorem lw_twice (hL : L ≤ 3584) (hk : 7 * k + 7 ≤ L) (I : qI h A) (h0 : h.2 0 = .inl (L, .inl xs)) : lwG L xs k ((mAI h (some 0) (nI (7 * k) + (1 : Int32))).bind fun x17 => (f_X8_twice (some 1) x17 h).bind fun x18 => (mAI x18.2 (some 0) (nI (7 * k) + (1 : Int32))).bind fun x19 => (f_X9_twice (some 51) x19 x18.2).bind fun x20 => if x18.1 = x20.1 then some (Sum.inl ((nI (7 * k) + 7), x20.2)) else some (Sum.inr ((0 : Int32), x20.2))) := by
  refine lwG.s (op_twice I (xs (7 * k + 1))) h0 fun r h1 h2 p1 p2 z => ?_
  rw [lwR1 hL hk h0, qbind, p1, qbind, lwR1 hL hk z, qbind, p2, qbind]
  exact if_pos rfl
theorem lw_doubled (hL : L ≤ 3584) (hk : 7 * k + 7 ≤ L) (I : qI h A) (h0 : h.2 0 = .inl (L, .inl xs)) : lwG L xs k ((mAI h (some 0) (nI (7 * k) + (1 : Int32))).bind fun x22 => (f_X8_doubled (some 1) x22 h).bind fun x23 => (mAI x23.2 (some 0) (nI (7 * k) + (1 : Int32))).bind fun x24 => (f_X9_doubled (some 51) x24 x23.2).bind fun x25 => if x23.1 = x25.1 then some (Sum.inl ((nI (7 * k) + 7), x25.2)) else some (Sum.inr ((0 : Int32), x25.2))) := by
  refine lwG.s (op_doubled I (xs (7 * k + 1))) h0 fun r h1 h2 p1 p2 z => ?_
  rw [lwR1 hL hk h0, qbind, p1, qbind, lwR1 hL hk z, qbind, p2, qbind]
  exact if_pos rfl
theorem lw_product (hL : L ≤ 3584) (hk : 7 * k + 7 ≤ L) (I : qI h A) (h0 : h.2 0 = .inl (L, .inl xs)) : lwG L xs k ((mAI h (some 0) (nI (7 * k) + (1 : Int32))).bind fun x27 => (mAI h (some 0) (nI (7 * k) + (2 : Int32))).bind fun x28 => (f_X8_product (some 1) x27 x28 h).bind fun x29 => (mAI x29.2 (some 0) (nI (7 * k) + (1 : Int32))).bind fun x30 => (mAI x29.2 (some 0) (nI (7 * k) + (2 : Int32))).bind fun x31 => (f_X9_product (some 51) x30 x31 x29.2).bind fun x32 => if x29.1 = x32.1 then some (Sum.inl ((nI (7 * k) + 7), x32.2)) else some (Sum.inr ((0 : Int32), x32.2))) := by
  refine lwG.s (op_product I (xs (7 * k + 1)) (xs (7 * k + 2))) h0 fun r h1 h2 p1 p2 z => ?_
  rw [lwR1 hL hk h0, qbind, lwR2 hL hk h0, qbind, p1, qbind, lwR1 hL hk z, qbind, lwR2 hL hk z, qbind, p2, qbind]
  exact if_pos rfl
theorem lw_four (hL : L ≤ 3584) (hk : 7 * k + 7 ≤ L) (I : qI h A) (h0 : h.2 0 = .inl (L, .inl xs)) : lwG L xs k ((mAI h (some 0) (nI (7 * k) + (1 : Int32))).bind fun x34 => (mAI h (some 0) (nI (7 * k) + (2 : Int32))).bind fun x35 => (mAI h (some 0) (nI (7 * k) + (3 : Int32))).bind fun x36 => (mAI h (some 0) (nI (7 * k) + (4 : Int32))).bind fun x37 => (mAI h (some 0) (nI (7 * k) + (5 : Int32))).bind fun x38 => (f_X8_four (some 1) x34 x35 x36 x37 x38 h).bind fun x39 => (mAI x39.2 (some 0) (nI (7 * k) + (1 : Int32))).bind fun x40 => (mAI x39.2 (some 0) (nI (7 * k) + (2 : Int32))).bind fun x41 => (mAI x39.2 (some 0) (nI (7 * k) + (3 : Int32))).bind fun x42 => (mAI x39.2 (some 0) (nI (7 * k) + (4 : Int32))).bind fun x43 => (mAI x39.2 (some 0) (nI (7 * k) + (5 : Int32))).bind fun x44 => (f_X9_four (some 51) x40 x41 x42 x43 x44 x39.2).bind fun x45 => if x39.1 = x45.1 then some (Sum.inl ((nI (7 * k) + 7), x45.2)) else some (Sum.inr ((0 : Int32), x45.2))) := by
  refine lwG.s (op_four I (xs (7 * k + 1)) (xs (7 * k + 2)) (xs (7 * k + 3)) (xs (7 * k + 4)) (xs (7 * k + 5))) h0 fun r h1 h2 p1 p2 z => ?_
  rw [lwR1 hL hk h0, qbind, lwR2 hL hk h0, qbind, lwR3 hL hk h0, qbind, lwR4 hL hk h0, qbind, lwR5 hL hk h0, qbind, p1, qbind, lwR1 hL hk z, qbind, lwR2 hL hk z, qbind, lwR3 hL hk z, qbind, lwR4 hL hk z, qbind, lwR5 hL hk z, qbind, p2, qbind]
  exact if_pos rfl
theorem lw_bordered (hL : L ≤ 3584) (hk : 7 * k + 7 ≤ L) (I : qI h A) (h0 : h.2 0 = .inl (L, .inl xs)) : lwG L xs k ((mAI h (some 0) (nI (7 * k) + (1 : Int32))).bind fun x47 => (mAI h (some 0) (nI (7 * k) + (2 : Int32))).bind fun x48 => (f_X8_bordered (some 1) x47 x48 h).bind fun x49 => (mAI x49.2 (some 0) (nI (7 * k) + (1 : Int32))).bind fun x50 => (mAI x49.2 (some 0) (nI (7 * k) + (2 : Int32))).bind fun x51 => (f_X9_bordered (some 51) x50 x51 x49.2).bind fun x52 => if x49.1 = x52.1 then some (Sum.inl ((nI (7 * k) + 7), x52.2)) else some (Sum.inr ((0 : Int32), x52.2))) := by
  refine lwG.s (op_bordered I (xs (7 * k + 1)) (xs (7 * k + 2))) h0 fun r h1 h2 p1 p2 z => ?_
  rw [lwR1 hL hk h0, qbind, lwR2 hL hk h0, qbind, p1, qbind, lwR1 hL hk z, qbind, lwR2 hL hk z, qbind, p2, qbind]
  exact if_pos rfl
theorem lw_completed (hL : L ≤ 3584) (hk : 7 * k + 7 ≤ L) (I : qI h A) (h0 : h.2 0 = .inl (L, .inl xs)) : lwG L xs k ((mAI h (some 0) (nI (7 * k) + (1 : Int32))).bind fun x54 => (f_X8_completed (some 1) x54 h).bind fun x55 => (mAI x55.2 (some 0) (nI (7 * k) + (1 : Int32))).bind fun x56 => (f_X9_completed (some 51) x56 x55.2).bind fun x57 => if x55.1 = x57.1 then some (Sum.inl ((nI (7 * k) + 7), x57.2)) else some (Sum.inr ((0 : Int32), x57.2))) := by
  refine lwG.s (op_completed I (xs (7 * k + 1))) h0 fun r h1 h2 p1 p2 z => ?_
  rw [lwR1 hL hk h0, qbind, p1, qbind, lwR1 hL hk z, qbind, p2, qbind]
  exact if_pos rfl
theorem lw_copy (hL : L ≤ 3584) (hk : 7 * k + 7 ≤ L) (I : qI h A) (h0 : h.2 0 = .inl (L, .inl xs)) : lwG L xs k ((mAI h (some 0) (nI (7 * k) + (1 : Int32))).bind fun x59 => (f_X8_copy (some 1) x59 h).bind fun x60 => (mAI x60.2 (some 0) (nI (7 * k) + (1 : Int32))).bind fun x61 => (f_X9_copy (some 51) x61 x60.2).bind fun x62 => if x60.1 = x62.1 then some (Sum.inl ((nI (7 * k) + 7), x62.2)) else some (Sum.inr ((0 : Int32), x62.2))) := by
  refine lwG.s (op_copy I (xs (7 * k + 1))) h0 fun r h1 h2 p1 p2 z => ?_
  rw [lwR1 hL hk h0, qbind, p1, qbind, lwR1 hL hk z, qbind, p2, qbind]
  exact if_pos rfl
theorem lw_drop (hL : L ≤ 3584) (hk : 7 * k + 7 ≤ L) (I : qI h A) (h0 : h.2 0 = .inl (L, .inl xs)) : lwG L xs k ((mAI h (some 0) (nI (7 * k) + (1 : Int32))).bind fun x64 => (f_X8_drop (some 1) x64 h).bind fun x65 => (mAI x65.2 (some 0) (nI (7 * k) + (1 : Int32))).bind fun x66 => (f_X9_drop (some 51) x66 x65.2).bind fun x67 => if x65.1 = x67.1 then some (Sum.inl ((nI (7 * k) + 7), x67.2)) else some (Sum.inr ((0 : Int32), x67.2))) := by
  refine lwG.s (op_drop I (xs (7 * k + 1))) h0 fun r h1 h2 p1 p2 z => ?_
  rw [lwR1 hL hk h0, qbind, p1, qbind, lwR1 hL hk z, qbind, p2, qbind]
  exact if_pos rfl
theorem lw_sign (hL : L ≤ 3584) (hk : 7 * k + 7 ≤ L) (I : qI h A) (h0 : h.2 0 = .inl (L, .inl xs)) : lwG L xs k ((mAI h (some 0) (nI (7 * k) + (1 : Int32))).bind fun x69 => (mAI h (some 0) (nI (7 * k) + (2 : Int32))).bind fun x70 => if x70 = 0 then f_L_law_c534 (some 0) (some 1) (some 51) (nI (7 * k)) (some 1) x69 (0 : Int32) h else f_L_law_c534 (some 0) (some 1) (some 51) (nI (7 * k)) (some 1) x69 (1 : Int32) h) := by
  rw [lwR1 hL hk h0, qbind, lwR2 hL hk h0, qbind]
  by_cases y : xs (7 * k + 2) = 0
  · rw [if_pos y]
    refine lwG.s (fx := f_X8_sign (some 1) (xs (7 * k + 1)) (0 : Int32) (xs (7 * k + 3))) (fm := f_X9_sign (some 51) (xs (7 * k + 1)) (0 : Int32) (xs (7 * k + 3))) (op_sign I (xs (7 * k + 1)) (xs (7 * k + 3)) false) h0 fun r h1 h2 p1 p2 z => ?_
    unfold f_L_law_c534
    rw [lwR3 hL hk h0, qbind, p1, qbind, lwR1 hL hk z, qbind, lwR2 hL hk z, qbind, if_pos y]
    unfold f_L_law_c561
    rw [lwR3 hL hk z, qbind, p2, qbind]
    exact if_pos rfl
  · rw [if_neg y]
    refine lwG.s (fx := f_X8_sign (some 1) (xs (7 * k + 1)) (1 : Int32) (xs (7 * k + 3))) (fm := f_X9_sign (some 51) (xs (7 * k + 1)) (1 : Int32) (xs (7 * k + 3))) (op_sign I (xs (7 * k + 1)) (xs (7 * k + 3)) true) h0 fun r h1 h2 p1 p2 z => ?_
    unfold f_L_law_c534
    rw [lwR3 hL hk h0, qbind, p1, qbind, lwR1 hL hk z, qbind, lwR2 hL hk z, qbind, if_neg y]
    unfold f_L_law_c561
    rw [lwR3 hL hk z, qbind, p2, qbind]
    exact if_pos rfl
theorem lw_exchange (hL : L ≤ 3584) (hk : 7 * k + 7 ≤ L) (I : qI h A) (h0 : h.2 0 = .inl (L, .inl xs)) : lwG L xs k ((mAI h (some 0) (nI (7 * k) + (1 : Int32))).bind fun x72 => (mAI h (some 0) (nI (7 * k) + (2 : Int32))).bind fun x73 => if x73 = 0 then f_L_law_c593 (some 0) (some 1) (some 51) (nI (7 * k)) (some 1) x72 (0 : Int32) h else f_L_law_c593 (some 0) (some 1) (some 51) (nI (7 * k)) (some 1) x72 (1 : Int32) h) := by
  rw [lwR1 hL hk h0, qbind, lwR2 hL hk h0, qbind]
  by_cases y : xs (7 * k + 2) = 0
  · rw [if_pos y]
    refine lwG.s (fx := f_X8_exchange (some 1) (xs (7 * k + 1)) (0 : Int32) (xs (7 * k + 3)) (xs (7 * k + 4))) (fm := f_X9_exchange (some 51) (xs (7 * k + 1)) (0 : Int32) (xs (7 * k + 3)) (xs (7 * k + 4))) (op_exchange I (xs (7 * k + 1)) (xs (7 * k + 3)) (xs (7 * k + 4)) false) h0 fun r h1 h2 p1 p2 z => ?_
    unfold f_L_law_c593
    rw [lwR3 hL hk h0, qbind, lwR4 hL hk h0, qbind, p1, qbind, lwR1 hL hk z, qbind, lwR2 hL hk z, qbind, if_pos y]
    unfold f_L_law_c625
    rw [lwR3 hL hk z, qbind, lwR4 hL hk z, qbind, p2, qbind]
    exact if_pos rfl
  · rw [if_neg y]
    refine lwG.s (fx := f_X8_exchange (some 1) (xs (7 * k + 1)) (1 : Int32) (xs (7 * k + 3)) (xs (7 * k + 4))) (fm := f_X9_exchange (some 51) (xs (7 * k + 1)) (1 : Int32) (xs (7 * k + 3)) (xs (7 * k + 4))) (op_exchange I (xs (7 * k + 1)) (xs (7 * k + 3)) (xs (7 * k + 4)) true) h0 fun r h1 h2 p1 p2 z => ?_
    unfold f_L_law_c593
    rw [lwR3 hL hk h0, qbind, lwR4 hL hk h0, qbind, p1, qbind, lwR1 hL hk z, qbind, lwR2 hL hk z, qbind, if_neg y]
    unfold f_L_law_c625
    rw [lwR3 hL hk z, qbind, lwR4 hL hk z, qbind, p2, qbind]
    exact if_pos rfl
theorem lw_turn (hL : L ≤ 3584) (hk : 7 * k + 7 ≤ L) (I : qI h A) (h0 : h.2 0 = .inl (L, .inl xs)) : lwG L xs k ((mAI h (some 0) (nI (7 * k) + (1 : Int32))).bind fun x75 => (f_X8_turn (some 1) x75 h).bind fun x76 => (mAI x76.2 (some 0) (nI (7 * k) + (1 : Int32))).bind fun x77 => (f_X9_turn (some 51) x77 x76.2).bind fun x78 => if x76.1 = x78.1 then some (Sum.inl ((nI (7 * k) + 7), x78.2)) else some (Sum.inr ((0 : Int32), x78.2))) := by
  refine lwG.s (op_turn I (xs (7 * k + 1))) h0 fun r h1 h2 p1 p2 z => ?_
  rw [lwR1 hL hk h0, qbind, p1, qbind, lwR1 hL hk z, qbind, p2, qbind]
  exact if_pos rfl
theorem lw_switched (hL : L ≤ 3584) (hk : 7 * k + 7 ≤ L) (I : qI h A) (h0 : h.2 0 = .inl (L, .inl xs)) : lwG L xs k ((mAI h (some 0) (nI (7 * k) + (1 : Int32))).bind fun x80 => (mAI h (some 0) (nI (7 * k) + (2 : Int32))).bind fun x81 => (mAI h (some 0) (nI (7 * k) + (3 : Int32))).bind fun x82 => (mAI h (some 0) (nI (7 * k) + (4 : Int32))).bind fun x83 => (mAI h (some 0) (nI (7 * k) + (5 : Int32))).bind fun x84 => (mAI h (some 0) (nI (7 * k) + (6 : Int32))).bind fun x85 => (f_X8_switched (some 1) x80 x81 x82 x83 x84 x85 h).bind fun x86 => (mAI x86.2 (some 0) (nI (7 * k) + (1 : Int32))).bind fun x87 => (mAI x86.2 (some 0) (nI (7 * k) + (2 : Int32))).bind fun x88 => (mAI x86.2 (some 0) (nI (7 * k) + (3 : Int32))).bind fun x89 => (mAI x86.2 (some 0) (nI (7 * k) + (4 : Int32))).bind fun x90 => (mAI x86.2 (some 0) (nI (7 * k) + (5 : Int32))).bind fun x91 => (mAI x86.2 (some 0) (nI (7 * k) + (6 : Int32))).bind fun x92 => (f_X9_switched (some 51) x87 x88 x89 x90 x91 x92 x86.2).bind fun x93 => if x86.1 = x93.1 then some (Sum.inl ((nI (7 * k) + 7), x93.2)) else some (Sum.inr ((0 : Int32), x93.2))) := by
  refine lwG.s (op_switched I (xs (7 * k + 1)) (xs (7 * k + 2)) (xs (7 * k + 3)) (xs (7 * k + 4)) (xs (7 * k + 5)) (xs (7 * k + 6))) h0 fun r h1 h2 p1 p2 z => ?_
  rw [lwR1 hL hk h0, qbind, lwR2 hL hk h0, qbind, lwR3 hL hk h0, qbind, lwR4 hL hk h0, qbind, lwR5 hL hk h0, qbind, lwR6 hL hk h0, qbind, p1, qbind, lwR1 hL hk z, qbind, lwR2 hL hk z, qbind, lwR3 hL hk z, qbind, lwR4 hL hk z, qbind, lwR5 hL hk z, qbind, lwR6 hL hk z, qbind, p2, qbind]
  exact if_pos rfl
theorem lw_norm (hL : L ≤ 3584) (hk : 7 * k + 7 ≤ L) (I : qI h A) (h0 : h.2 0 = .inl (L, .inl xs)) : lwG L xs k ((mAI h (some 0) (nI (7 * k) + (1 : Int32))).bind fun x95 => (f_X8_norm (some 1) x95 h).bind fun x96 => (mAI x96.2 (some 0) (nI (7 * k) + (1 : Int32))).bind fun x97 => (f_X9_norm (some 51) x97 x96.2).bind fun x98 => if x96.1 = x98.1 then some (Sum.inl ((nI (7 * k) + 7), x98.2)) else some (Sum.inr ((0 : Int32), x98.2))) := by
  refine lwG.s (op_norm I (xs (7 * k + 1))) h0 fun r h1 h2 p1 p2 z => ?_
  rw [lwR1 hL hk h0, qbind, p1, qbind, lwR1 hL hk z, qbind, p2, qbind]
  exact if_pos rfl
theorem lw_order (hL : L ≤ 3584) (hk : 7 * k + 7 ≤ L) (I : qI h A) (h0 : h.2 0 = .inl (L, .inl xs)) : lwG L xs k ((mAI h (some 0) (nI (7 * k) + (1 : Int32))).bind fun x100 => (f_X8_order (some 1) x100 h).bind fun x101 => (mAI h (some 0) (nI (7 * k) + (1 : Int32))).bind fun x102 => (f_X9_order (some 51) x102 h).bind fun x103 => if x101 = x103 then some (Sum.inl ((nI (7 * k) + 7), h)) else some (Sum.inr ((0 : Int32), h))) := by
  obtain ⟨r, p1, p2⟩ := op_order I (xs (7 * k + 1))
  refine lwG.n I h0 ?_
  rw [lwR1 hL hk h0, qbind, p1, qbind, qbind, p2, qbind]
  exact if_pos rfl
theorem lw_bits (hL : L ≤ 3584) (hk : 7 * k + 7 ≤ L) (I : qI h A) (h0 : h.2 0 = .inl (L, .inl xs)) : lwG L xs k ((mAI h (some 0) (nI (7 * k) + (1 : Int32))).bind fun x105 => (mAI h (some 0) (nI (7 * k) + (2 : Int32))).bind fun x106 => if x106 = 0 then f_L_law_c806 (some 0) (some 1) (some 51) (nI (7 * k)) (some 1) x105 (0 : Int32) h else f_L_law_c806 (some 0) (some 1) (some 51) (nI (7 * k)) (some 1) x105 (1 : Int32) h) := by
  rw [lwR1 hL hk h0, qbind, lwR2 hL hk h0, qbind]
  by_cases y : xs (7 * k + 2) = 0
  · rw [if_pos y]
    obtain ⟨r, p1, p2⟩ : ∃ r, f_X8_bits (some 1) (xs (7 * k + 1)) (0 : Int32) (xs (7 * k + 3)) h = some r ∧ f_X9_bits (some 51) (xs (7 * k + 1)) (0 : Int32) (xs (7 * k + 3)) h = some r := op_bits I (xs (7 * k + 1)) (xs (7 * k + 3)) false
    refine lwG.n I h0 ?_
    unfold f_L_law_c806
    rw [lwR3 hL hk h0, qbind, p1, qbind, lwR1 hL hk h0, qbind, lwR2 hL hk h0, qbind, if_pos y]
    unfold f_L_law_c833
    rw [lwR3 hL hk h0, qbind, p2, qbind]
    exact if_pos rfl
  · rw [if_neg y]
    obtain ⟨r, p1, p2⟩ : ∃ r, f_X8_bits (some 1) (xs (7 * k + 1)) (1 : Int32) (xs (7 * k + 3)) h = some r ∧ f_X9_bits (some 51) (xs (7 * k + 1)) (1 : Int32) (xs (7 * k + 3)) h = some r := op_bits I (xs (7 * k + 1)) (xs (7 * k + 3)) true
    refine lwG.n I h0 ?_
    unfold f_L_law_c806
    rw [lwR3 hL hk h0, qbind, p1, qbind, lwR1 hL hk h0, qbind, lwR2 hL hk h0, qbind, if_neg y]
    unfold f_L_law_c833
    rw [lwR3 hL hk h0, qbind, p2, qbind]
    exact if_pos rfl
theorem lw_trail (hL : L ≤ 3584) (hk : 7 * k + 7 ≤ L) (I : qI h A) (h0 : h.2 0 = .inl (L, .inl xs)) : lwG L xs k ((mAI h (some 0) (nI (7 * k) + (1 : Int32))).bind fun x108 => (mAI h (some 0) (nI (7 * k) + (2 : Int32))).bind fun x109 => if x109 = 0 then f_L_law_c865 (some 0) (some 1) (some 51) (nI (7 * k)) (some 1) x108 (0 : Int32) h else f_L_law_c865 (some 0) (some 1) (some 51) (nI (7 * k)) (some 1) x108 (1 : Int32) h) := by
  rw [lwR1 hL hk h0, qbind, lwR2 hL hk h0, qbind]
  by_cases y : xs (7 * k + 2) = 0
  · rw [if_pos y]
    obtain ⟨r, p1, p2⟩ : ∃ r, f_X8_trail (some 1) (xs (7 * k + 1)) (0 : Int32) (xs (7 * k + 3)) (xs (7 * k + 4)) h = some r ∧ f_X9_trail (some 51) (xs (7 * k + 1)) (0 : Int32) (xs (7 * k + 3)) (xs (7 * k + 4)) h = some r := op_trail I (xs (7 * k + 1)) (xs (7 * k + 3)) (xs (7 * k + 4)) false
    refine lwG.n I h0 ?_
    unfold f_L_law_c865
    rw [lwR3 hL hk h0, qbind, lwR4 hL hk h0, qbind, p1, qbind, lwR1 hL hk h0, qbind, lwR2 hL hk h0, qbind, if_pos y]
    unfold f_L_law_c897
    rw [lwR3 hL hk h0, qbind, lwR4 hL hk h0, qbind, p2, qbind]
    exact if_pos rfl
  · rw [if_neg y]
    obtain ⟨r, p1, p2⟩ : ∃ r, f_X8_trail (some 1) (xs (7 * k + 1)) (1 : Int32) (xs (7 * k + 3)) (xs (7 * k + 4)) h = some r ∧ f_X9_trail (some 51) (xs (7 * k + 1)) (1 : Int32) (xs (7 * k + 3)) (xs (7 * k + 4)) h = some r := op_trail I (xs (7 * k + 1)) (xs (7 * k + 3)) (xs (7 * k + 4)) true
    refine lwG.n I h0 ?_
    unfold f_L_law_c865
    rw [lwR3 hL hk h0, qbind, lwR4 hL hk h0, qbind, p1, qbind, lwR1 hL hk h0, qbind, lwR2 hL hk h0, qbind, if_neg y]
    unfold f_L_law_c897
    rw [lwR3 hL hk h0, qbind, lwR4 hL hk h0, qbind, p2, qbind]
    exact if_pos rfl
theorem lw_along (hL : L ≤ 3584) (hk : 7 * k + 7 ≤ L) (I : qI h A) (h0 : h.2 0 = .inl (L, .inl xs)) : lwG L xs k ((mAI h (some 0) (nI (7 * k) + (1 : Int32))).bind fun x111 => (mAI h (some 0) (nI (7 * k) + (2 : Int32))).bind fun x112 => if x112 = 0 then f_L_law_c934 (some 0) (some 1) (some 51) (nI (7 * k)) (some 1) x111 (0 : Int32) h else f_L_law_c934 (some 0) (some 1) (some 51) (nI (7 * k)) (some 1) x111 (1 : Int32) h) := by
  rw [lwR1 hL hk h0, qbind, lwR2 hL hk h0, qbind]
  by_cases y : xs (7 * k + 2) = 0
  · rw [if_pos y]
    obtain ⟨r, p1, p2⟩ : ∃ r, f_X8_along (some 1) (xs (7 * k + 1)) (0 : Int32) (xs (7 * k + 3)) (xs (7 * k + 4)) h = some r ∧ f_X9_along (some 51) (xs (7 * k + 1)) (0 : Int32) (xs (7 * k + 3)) (xs (7 * k + 4)) h = some r := op_along I (xs (7 * k + 1)) (xs (7 * k + 3)) (xs (7 * k + 4)) false
    refine lwG.n I h0 ?_
    unfold f_L_law_c934
    rw [lwR3 hL hk h0, qbind, lwR4 hL hk h0, qbind, p1, qbind, lwR1 hL hk h0, qbind, lwR2 hL hk h0, qbind, if_pos y]
    unfold f_L_law_c966
    rw [lwR3 hL hk h0, qbind, lwR4 hL hk h0, qbind, p2, qbind]
    exact if_pos rfl
  · rw [if_neg y]
    obtain ⟨r, p1, p2⟩ : ∃ r, f_X8_along (some 1) (xs (7 * k + 1)) (1 : Int32) (xs (7 * k + 3)) (xs (7 * k + 4)) h = some r ∧ f_X9_along (some 51) (xs (7 * k + 1)) (1 : Int32) (xs (7 * k + 3)) (xs (7 * k + 4)) h = some r := op_along I (xs (7 * k + 1)) (xs (7 * k + 3)) (xs (7 * k + 4)) true
    refine lwG.n I h0 ?_
    unfold f_L_law_c934
    rw [lwR3 hL hk h0, qbind, lwR4 hL hk h0, qbind, p1, qbind, lwR1 hL hk h0, qbind, lwR2 hL hk h0, qbind, if_neg y]
    unfold f_L_law_c966
    rw [lwR3 hL hk h0, qbind, lwR4 hL hk h0, qbind, p2, qbind]
    exact if_pos rfl
theorem lw_perpendicular (hL : L ≤ 3584) (hk : 7 * k + 7 ≤ L) (I : qI h A) (h0 : h.2 0 = .inl (L, .inl xs)) : lwG L xs k ((mAI h (some 0) (nI (7 * k) + (1 : Int32))).bind fun x114 => (mAI h (some 0) (nI (7 * k) + (2 : Int32))).bind fun x115 => (f_X8_perpendicular (some 1) x114 x115 h).bind fun x116 => (mAI h (some 0) (nI (7 * k) + (1 : Int32))).bind fun x117 => (mAI h (some 0) (nI (7 * k) + (2 : Int32))).bind fun x118 => (f_X9_perpendicular (some 51) x117 x118 h).bind fun x119 => if x116 = x119.1 then some (Sum.inl ((nI (7 * k) + 7), x119.2)) else some (Sum.inr ((0 : Int32), x119.2))) := by
  refine lwG.m (op_perpendicular I (xs (7 * k + 1)) (xs (7 * k + 2))) h0 fun r h2 p1 p2 => ?_
  rw [lwR1 hL hk h0, qbind, lwR2 hL hk h0, qbind, p1, qbind, qbind, qbind, p2, qbind]
  exact if_pos rfl
theorem lw_sum (hL : L ≤ 3584) (hk : 7 * k + 7 ≤ L) (I : qI h A) (h0 : h.2 0 = .inl (L, .inl xs)) : lwG L xs k ((mAI h (some 0) (nI (7 * k) + (1 : Int32))).bind fun x121 => (f_X8_sum (some 1) x121 h).bind fun x122 => (mAI h (some 0) (nI (7 * k) + (1 : Int32))).bind fun x123 => (f_X9_sum (some 51) x123 h).bind fun x124 => if x122 = x124 then some (Sum.inl ((nI (7 * k) + 7), h)) else some (Sum.inr ((0 : Int32), h))) := by
  obtain ⟨r, p1, p2⟩ := op_sum I (xs (7 * k + 1))
  refine lwG.n I h0 ?_
  rw [lwR1 hL hk h0, qbind, p1, qbind, qbind, p2, qbind]
  exact if_pos rfl
theorem lw_best (hL : L ≤ 3584) (hk : 7 * k + 7 ≤ L) (I : qI h A) (h0 : h.2 0 = .inl (L, .inl xs)) : lwG L xs k ((mAI h (some 0) (nI (7 * k) + (1 : Int32))).bind fun x126 => (mAI h (some 0) (nI (7 * k) + (2 : Int32))).bind fun x127 => (f_X8_best (some 1) x126 x127 h).bind fun x128 => (mAI x128.2 (some 0) (nI (7 * k) + (1 : Int32))).bind fun x129 => (mAI x128.2 (some 0) (nI (7 * k) + (2 : Int32))).bind fun x130 => (f_X9_best (some 51) x129 x130 x128.2).bind fun x131 => if x128.1 = x131 then some (Sum.inl ((nI (7 * k) + 7), x128.2)) else some (Sum.inr ((0 : Int32), x128.2))) := by
  refine lwG.x (op_best I (xs (7 * k + 1)) (xs (7 * k + 2))) h0 fun r h1 p1 p2 z => ?_
  rw [lwR1 hL hk h0, qbind, lwR2 hL hk h0, qbind, p1, qbind, lwR1 hL hk z, qbind, lwR2 hL hk z, qbind, p2, qbind]
  exact if_pos rfl
theorem lw_tally (hL : L ≤ 3584) (hk : 7 * k + 7 ≤ L) (I : qI h A) (h0 : h.2 0 = .inl (L, .inl xs)) : lwG L xs k ((mAI h (some 0) (nI (7 * k) + (1 : Int32))).bind fun x133 => (mAI h (some 0) (nI (7 * k) + (2 : Int32))).bind fun x134 => if x134 = 0 then f_L_law_c1092 (some 0) (some 1) (some 51) (nI (7 * k)) (some 1) x133 (0 : Int32) h else f_L_law_c1092 (some 0) (some 1) (some 51) (nI (7 * k)) (some 1) x133 (1 : Int32) h) := by
  rw [lwR1 hL hk h0, qbind, lwR2 hL hk h0, qbind]
  by_cases y : xs (7 * k + 2) = 0
  · rw [if_pos y]
    refine lwG.s (fx := f_X8_tally (some 1) (xs (7 * k + 1)) (0 : Int32) (xs (7 * k + 3))) (fm := f_X9_tally (some 51) (xs (7 * k + 1)) (0 : Int32) (xs (7 * k + 3))) (op_tally I (xs (7 * k + 1)) (xs (7 * k + 3)) false) h0 fun r h1 h2 p1 p2 z => ?_
    unfold f_L_law_c1092
    rw [lwR3 hL hk h0, qbind, p1, qbind, lwR1 hL hk z, qbind, lwR2 hL hk z, qbind, if_pos y]
    unfold f_L_law_c1119
    rw [lwR3 hL hk z, qbind, p2, qbind]
    exact if_pos rfl
  · rw [if_neg y]
    refine lwG.s (fx := f_X8_tally (some 1) (xs (7 * k + 1)) (1 : Int32) (xs (7 * k + 3))) (fm := f_X9_tally (some 51) (xs (7 * k + 1)) (1 : Int32) (xs (7 * k + 3))) (op_tally I (xs (7 * k + 1)) (xs (7 * k + 3)) true) h0 fun r h1 h2 p1 p2 z => ?_
    unfold f_L_law_c1092
    rw [lwR3 hL hk h0, qbind, p1, qbind, lwR1 hL hk z, qbind, lwR2 hL hk z, qbind, if_neg y]
    unfold f_L_law_c1119
    rw [lwR3 hL hk z, qbind, p2, qbind]
    exact if_pos rfl
theorem lw_part (hL : L ≤ 3584) (hk : 7 * k + 7 ≤ L) (I : qI h A) (h0 : h.2 0 = .inl (L, .inl xs)) : lwG L xs k ((mAI h (some 0) (nI (7 * k) + (1 : Int32))).bind fun x136 => (mAI h (some 0) (nI (7 * k) + (2 : Int32))).bind fun x137 => if x137 = 0 then f_L_law_c1151 (some 0) (some 1) (some 51) (nI (7 * k)) (some 1) x136 (0 : Int32) h else f_L_law_c1151 (some 0) (some 1) (some 51) (nI (7 * k)) (some 1) x136 (1 : Int32) h) := by
  rw [lwR1 hL hk h0, qbind, lwR2 hL hk h0, qbind]
  by_cases y : xs (7 * k + 2) = 0
  · rw [if_pos y]
    refine lwG.s (fx := f_X8_part (some 1) (xs (7 * k + 1)) (0 : Int32) (xs (7 * k + 3)) (xs (7 * k + 4))) (fm := f_X9_part (some 51) (xs (7 * k + 1)) (0 : Int32) (xs (7 * k + 3)) (xs (7 * k + 4))) (op_part I (xs (7 * k + 1)) (xs (7 * k + 3)) (xs (7 * k + 4)) false) h0 fun r h1 h2 p1 p2 z => ?_
    unfold f_L_law_c1151
    rw [lwR3 hL hk h0, qbind, lwR4 hL hk h0, qbind, p1, qbind, lwR1 hL hk z, qbind, lwR2 hL hk z, qbind, if_pos y]
    unfold f_L_law_c1183
    rw [lwR3 hL hk z, qbind, lwR4 hL hk z, qbind, p2, qbind]
    exact if_pos rfl
  · rw [if_neg y]
    refine lwG.s (fx := f_X8_part (some 1) (xs (7 * k + 1)) (1 : Int32) (xs (7 * k + 3)) (xs (7 * k + 4))) (fm := f_X9_part (some 51) (xs (7 * k + 1)) (1 : Int32) (xs (7 * k + 3)) (xs (7 * k + 4))) (op_part I (xs (7 * k + 1)) (xs (7 * k + 3)) (xs (7 * k + 4)) true) h0 fun r h1 h2 p1 p2 z => ?_
    unfold f_L_law_c1151
    rw [lwR3 hL hk h0, qbind, lwR4 hL hk h0, qbind, p1, qbind, lwR1 hL hk z, qbind, lwR2 hL hk z, qbind, if_neg y]
    unfold f_L_law_c1183
    rw [lwR3 hL hk z, qbind, lwR4 hL hk z, qbind, p2, qbind]
    exact if_pos rfl
theorem lw_form (hL : L ≤ 3584) (hk : 7 * k + 7 ≤ L) (I : qI h A) (h0 : h.2 0 = .inl (L, .inl xs)) : lwG L xs k ((mAI h (some 0) (nI (7 * k) + (1 : Int32))).bind fun x139 => (mAI h (some 0) (nI (7 * k) + (2 : Int32))).bind fun x140 => (f_X8_form (some 1) x139 x140 h).bind fun x141 => (mAI x141.2 (some 0) (nI (7 * k) + (1 : Int32))).bind fun x142 => (mAI x141.2 (some 0) (nI (7 * k) + (2 : Int32))).bind fun x143 => (f_X9_form (some 51) x142 x143 x141.2).bind fun x144 => if x141.1 = x144.1 then some (Sum.inl ((nI (7 * k) + 7), x144.2)) else some (Sum.inr ((0 : Int32), x144.2))) := by
  refine lwG.s (op_form I (xs (7 * k + 1)) (xs (7 * k + 2))) h0 fun r h1 h2 p1 p2 z => ?_
  rw [lwR1 hL hk h0, qbind, lwR2 hL hk h0, qbind, p1, qbind, lwR1 hL hk z, qbind, lwR2 hL hk z, qbind, p2, qbind]
  exact if_pos rfl
theorem lw_determinant (hL : L ≤ 3584) (hk : 7 * k + 7 ≤ L) (I : qI h A) (h0 : h.2 0 = .inl (L, .inl xs)) : lwG L xs k ((mAI h (some 0) (nI (7 * k) + (1 : Int32))).bind fun x146 => (f_X8_determinant (some 1) x146 h).bind fun x147 => (mAI x147.2 (some 0) (nI (7 * k) + (1 : Int32))).bind fun x148 => (f_X9_determinant (some 51) x148 x147.2).bind fun x149 => if (lg_cmp x147.1 x149.1) = 0 then some (Sum.inl ((nI (7 * k) + 7), x149.2)) else some (Sum.inr ((0 : Int32), x149.2))) := by
  refine lwG.l (op_determinant I (xs (7 * k + 1))) h0 fun r h1 h2 p1 p2 z => ?_
  rw [lwR1 hL hk h0, qbind, p1, qbind, lwR1 hL hk z, qbind, p2, qbind]
  exact if_pos (lw_cmp r)
theorem lw_like (hL : L ≤ 3584) (hk : 7 * k + 7 ≤ L) (I : qI h A) (h0 : h.2 0 = .inl (L, .inl xs)) : lwG L xs k ((mAI h (some 0) (nI (7 * k) + (1 : Int32))).bind fun x151 => (mAI h (some 0) (nI (7 * k) + (2 : Int32))).bind fun x152 => (f_X8_like (some 1) x151 x152 h).bind fun x153 => (mAI x153.2 (some 0) (nI (7 * k) + (1 : Int32))).bind fun x154 => (mAI x153.2 (some 0) (nI (7 * k) + (2 : Int32))).bind fun x155 => (f_X9_like (some 51) x154 x155 x153.2).bind fun x156 => if x153.1 = x156.1 then some (Sum.inl ((nI (7 * k) + 7), x156.2)) else some (Sum.inr ((0 : Int32), x156.2))) := by
  refine lwG.s (op_like I (xs (7 * k + 1)) (xs (7 * k + 2))) h0 fun r h1 h2 p1 p2 z => ?_
  rw [lwR1 hL hk h0, qbind, lwR2 hL hk h0, qbind, p1, qbind, lwR1 hL hk z, qbind, lwR2 hL hk z, qbind, p2, qbind]
  exact if_pos rfl
theorem lw_image (hL : L ≤ 3584) (hk : 7 * k + 7 ≤ L) (I : qI h A) (h0 : h.2 0 = .inl (L, .inl xs)) : lwG L xs k ((mAI h (some 0) (nI (7 * k) + (1 : Int32))).bind fun x158 => (mAI h (some 0) (nI (7 * k) + (2 : Int32))).bind fun x159 => (mAI h (some 0) (nI (7 * k) + (3 : Int32))).bind fun x160 => if x160 = 0 then f_L_law_c1315 (some 0) (some 1) (some 51) (nI (7 * k)) (some 1) x158 x159 (0 : Int32) h else f_L_law_c1315 (some 0) (some 1) (some 51) (nI (7 * k)) (some 1) x158 x159 (1 : Int32) h) := by
  rw [lwR1 hL hk h0, qbind, lwR2 hL hk h0, qbind, lwR3 hL hk h0, qbind]
  by_cases y : xs (7 * k + 3) = 0
  · rw [if_pos y]
    refine lwG.s (fx := f_X8_image (some 1) (xs (7 * k + 1)) (xs (7 * k + 2)) (0 : Int32) (xs (7 * k + 4))) (fm := f_X9_image (some 51) (xs (7 * k + 1)) (xs (7 * k + 2)) (0 : Int32) (xs (7 * k + 4))) (op_image I (xs (7 * k + 1)) (xs (7 * k + 2)) (xs (7 * k + 4)) false) h0 fun r h1 h2 p1 p2 z => ?_
    unfold f_L_law_c1315
    rw [lwR4 hL hk h0, qbind, p1, qbind, lwR1 hL hk z, qbind, lwR2 hL hk z, qbind, lwR3 hL hk z, qbind, if_pos y]
    unfold f_L_law_c1347
    rw [lwR4 hL hk z, qbind, p2, qbind]
    exact if_pos rfl
  · rw [if_neg y]
    refine lwG.s (fx := f_X8_image (some 1) (xs (7 * k + 1)) (xs (7 * k + 2)) (1 : Int32) (xs (7 * k + 4))) (fm := f_X9_image (some 51) (xs (7 * k + 1)) (xs (7 * k + 2)) (1 : Int32) (xs (7 * k + 4))) (op_image I (xs (7 * k + 1)) (xs (7 * k + 2)) (xs (7 * k + 4)) true) h0 fun r h1 h2 p1 p2 z => ?_
    unfold f_L_law_c1315
    rw [lwR4 hL hk h0, qbind, p1, qbind, lwR1 hL hk z, qbind, lwR2 hL hk z, qbind, lwR3 hL hk z, qbind, if_neg y]
    unfold f_L_law_c1347
    rw [lwR4 hL hk z, qbind, p2, qbind]
    exact if_pos rfl
theorem lw_symmetries (hL : L ≤ 3584) (hk : 7 * k + 7 ≤ L) (I : qI h A) (h0 : h.2 0 = .inl (L, .inl xs)) : lwG L xs k ((mAI h (some 0) (nI (7 * k) + (1 : Int32))).bind fun x162 => (f_X8_symmetries (some 1) x162 h).bind fun x163 => (mAI x163.2 (some 0) (nI (7 * k) + (1 : Int32))).bind fun x164 => (f_X9_symmetries (some 51) x164 x163.2).bind fun x165 => if (lg_cmp x163.1 x165.1) = 0 then some (Sum.inl ((nI (7 * k) + 7), x165.2)) else some (Sum.inr ((0 : Int32), x165.2))) := by
  refine lwG.l (op_symmetries I (xs (7 * k + 1))) h0 fun r h1 h2 p1 p2 z => ?_
  rw [lwR1 hL hk h0, qbind, p1, qbind, lwR1 hL hk z, qbind, p2, qbind]
  exact if_pos (lw_cmp r)
theorem lw_joined (hL : L ≤ 3584) (hk : 7 * k + 7 ≤ L) (I : qI h A) (h0 : h.2 0 = .inl (L, .inl xs)) : lwG L xs k ((mAI h (some 0) (nI (7 * k) + (1 : Int32))).bind fun x167 => (mAI h (some 0) (nI (7 * k) + (2 : Int32))).bind fun x168 => (mAI h (some 0) (nI (7 * k) + (3 : Int32))).bind fun x169 => (f_X8_joined (some 1) x167 x168 x169 h).bind fun x170 => (mAI h (some 0) (nI (7 * k) + (1 : Int32))).bind fun x171 => (mAI h (some 0) (nI (7 * k) + (2 : Int32))).bind fun x172 => (mAI h (some 0) (nI (7 * k) + (3 : Int32))).bind fun x173 => (f_X9_joined (some 51) x171 x172 x173 h).bind fun x174 => if x170 = x174 then some (Sum.inl ((nI (7 * k) + 7), h)) else some (Sum.inr ((0 : Int32), h))) := by
  obtain ⟨r, p1, p2⟩ := op_joined I (xs (7 * k + 1)) (xs (7 * k + 2)) (xs (7 * k + 3))
  refine lwG.n I h0 ?_
  rw [lwR1 hL hk h0, qbind, lwR2 hL hk h0, qbind, lwR3 hL hk h0, qbind, p1, qbind, qbind, qbind, qbind, p2, qbind]
  exact if_pos rfl
theorem lw_common (hL : L ≤ 3584) (hk : 7 * k + 7 ≤ L) (I : qI h A) (h0 : h.2 0 = .inl (L, .inl xs)) : lwG L xs k ((mAI h (some 0) (nI (7 * k) + (1 : Int32))).bind fun x176 => (mAI h (some 0) (nI (7 * k) + (2 : Int32))).bind fun x177 => (mAI h (some 0) (nI (7 * k) + (3 : Int32))).bind fun x178 => (f_X8_common (some 1) x176 x177 x178 h).bind fun x179 => (mAI h (some 0) (nI (7 * k) + (1 : Int32))).bind fun x180 => (mAI h (some 0) (nI (7 * k) + (2 : Int32))).bind fun x181 => (mAI h (some 0) (nI (7 * k) + (3 : Int32))).bind fun x182 => (f_X9_common (some 51) x180 x181 x182 h).bind fun x183 => if x179 = x183 then some (Sum.inl ((nI (7 * k) + 7), h)) else some (Sum.inr ((0 : Int32), h))) := by
  obtain ⟨r, p1, p2⟩ := op_common I (xs (7 * k + 1)) (xs (7 * k + 2)) (xs (7 * k + 3))
  refine lwG.n I h0 ?_
  rw [lwR1 hL hk h0, qbind, lwR2 hL hk h0, qbind, lwR3 hL hk h0, qbind, p1, qbind, qbind, qbind, qbind, p2, qbind]
  exact if_pos rfl
theorem lw_block (hL : L ≤ 3584) (hk : 7 * k + 7 ≤ L) (I : qI h A) (h0 : h.2 0 = .inl (L, .inl xs)) : lwG L xs k ((mAI h (some 0) (nI (7 * k) + (1 : Int32))).bind fun x185 => (mAI h (some 0) (nI (7 * k) + (2 : Int32))).bind fun x186 => (mAI h (some 0) (nI (7 * k) + (3 : Int32))).bind fun x187 => (mAI h (some 0) (nI (7 * k) + (4 : Int32))).bind fun x188 => (f_X8_block (some 1) x185 x186 x187 x188 h).bind fun x189 => (mAI h (some 0) (nI (7 * k) + (1 : Int32))).bind fun x190 => (mAI h (some 0) (nI (7 * k) + (2 : Int32))).bind fun x191 => (mAI h (some 0) (nI (7 * k) + (3 : Int32))).bind fun x192 => (mAI h (some 0) (nI (7 * k) + (4 : Int32))).bind fun x193 => (f_X9_block (some 51) x190 x191 x192 x193 h).bind fun x194 => if x189 = x194 then some (Sum.inl ((nI (7 * k) + 7), h)) else some (Sum.inr ((0 : Int32), h))) := by
  obtain ⟨r, p1, p2⟩ := op_block I (xs (7 * k + 1)) (xs (7 * k + 2)) (xs (7 * k + 3)) (xs (7 * k + 4))
  refine lwG.n I h0 ?_
  rw [lwR1 hL hk h0, qbind, lwR2 hL hk h0, qbind, lwR3 hL hk h0, qbind, lwR4 hL hk h0, qbind, p1, qbind, qbind, qbind, qbind, qbind, p2, qbind]
  exact if_pos rfl
theorem lw_through (hL : L ≤ 3584) (hk : 7 * k + 7 ≤ L) (I : qI h A) (h0 : h.2 0 = .inl (L, .inl xs)) : lwG L xs k ((mAI h (some 0) (nI (7 * k) + (1 : Int32))).bind fun x196 => (mAI h (some 0) (nI (7 * k) + (2 : Int32))).bind fun x197 => (mAI h (some 0) (nI (7 * k) + (3 : Int32))).bind fun x198 => (mAI h (some 0) (nI (7 * k) + (4 : Int32))).bind fun x199 => (f_X8_through (some 1) x196 x197 x198 x199 h).bind fun x200 => (mAI h (some 0) (nI (7 * k) + (1 : Int32))).bind fun x201 => (mAI h (some 0) (nI (7 * k) + (2 : Int32))).bind fun x202 => (mAI h (some 0) (nI (7 * k) + (3 : Int32))).bind fun x203 => (mAI h (some 0) (nI (7 * k) + (4 : Int32))).bind fun x204 => (f_X9_through (some 51) x201 x202 x203 x204 h).bind fun x205 => if x200 = x205 then some (Sum.inl ((nI (7 * k) + 7), h)) else some (Sum.inr ((0 : Int32), h))) := by
  obtain ⟨r, p1, p2⟩ := op_through I (xs (7 * k + 1)) (xs (7 * k + 2)) (xs (7 * k + 3)) (xs (7 * k + 4))
  refine lwG.n I h0 ?_
  rw [lwR1 hL hk h0, qbind, lwR2 hL hk h0, qbind, lwR3 hL hk h0, qbind, lwR4 hL hk h0, qbind, p1, qbind, qbind, qbind, qbind, qbind, p2, qbind]
  exact if_pos rfl
theorem lw_halves (hL : L ≤ 3584) (hk : 7 * k + 7 ≤ L) (I : qI h A) (h0 : h.2 0 = .inl (L, .inl xs)) : lwG L xs k ((mAI h (some 0) (nI (7 * k) + (1 : Int32))).bind fun x207 => (mAI h (some 0) (nI (7 * k) + (2 : Int32))).bind fun x208 => (mAI h (some 0) (nI (7 * k) + (3 : Int32))).bind fun x209 => (f_X8_halves (some 1) x207 x208 x209 h).bind fun x210 => (mAI h (some 0) (nI (7 * k) + (1 : Int32))).bind fun x211 => (mAI h (some 0) (nI (7 * k) + (2 : Int32))).bind fun x212 => (mAI h (some 0) (nI (7 * k) + (3 : Int32))).bind fun x213 => (f_X9_halves (some 51) x211 x212 x213 h).bind fun x214 => if x210 = x214 then some (Sum.inl ((nI (7 * k) + 7), h)) else some (Sum.inr ((0 : Int32), h))) := by
  obtain ⟨r, p1, p2⟩ := op_halves I (xs (7 * k + 1)) (xs (7 * k + 2)) (xs (7 * k + 3))
  refine lwG.n I h0 ?_
  rw [lwR1 hL hk h0, qbind, lwR2 hL hk h0, qbind, lwR3 hL hk h0, qbind, p1, qbind, qbind, qbind, qbind, p2, qbind]
  exact if_pos rfl
theorem lw_nearest (hL : L ≤ 3584) (hk : 7 * k + 7 ≤ L) (I : qI h A) (h0 : h.2 0 = .inl (L, .inl xs)) : lwG L xs k ((mAI h (some 0) (nI (7 * k) + (1 : Int32))).bind fun x216 => (mAI h (some 0) (nI (7 * k) + (2 : Int32))).bind fun x217 => (mAI h (some 0) (nI (7 * k) + (3 : Int32))).bind fun x218 => (f_X8_nearest (some 1) x216 x217 x218 h).bind fun x219 => (mAI h (some 0) (nI (7 * k) + (1 : Int32))).bind fun x220 => (mAI h (some 0) (nI (7 * k) + (2 : Int32))).bind fun x221 => (mAI h (some 0) (nI (7 * k) + (3 : Int32))).bind fun x222 => (f_X9_nearest (some 51) x220 x221 x222 h).bind fun x223 => if x219 = x223 then some (Sum.inl ((nI (7 * k) + 7), h)) else some (Sum.inr ((0 : Int32), h))) := by
  obtain ⟨r, p1, p2⟩ := op_nearest I (xs (7 * k + 1)) (xs (7 * k + 2)) (xs (7 * k + 3))
  refine lwG.n I h0 ?_
  rw [lwR1 hL hk h0, qbind, lwR2 hL hk h0, qbind, lwR3 hL hk h0, qbind, p1, qbind, qbind, qbind, qbind, p2, qbind]
  exact if_pos rfl
theorem lw_signal (hL : L ≤ 3584) (hk : 7 * k + 7 ≤ L) (I : qI h A) (h0 : h.2 0 = .inl (L, .inl xs)) : lwG L xs k ((mAI h (some 0) (nI (7 * k) + (1 : Int32))).bind fun x225 => (mAI h (some 0) (nI (7 * k) + (2 : Int32))).bind fun x226 => (f_X8_signal (some 1) x225 x226 h).bind fun x227 => (mAI x227.2 (some 0) (nI (7 * k) + (1 : Int32))).bind fun x228 => (mAI x227.2 (some 0) (nI (7 * k) + (2 : Int32))).bind fun x229 => (f_X9_signal (some 51) x228 x229 x227.2).bind fun x230 => if x227.1 = x230.1 then some (Sum.inl ((nI (7 * k) + 7), x230.2)) else some (Sum.inr ((0 : Int32), x230.2))) := by
  refine lwG.s (op_signal I (xs (7 * k + 1)) (xs (7 * k + 2))) h0 fun r h1 h2 p1 p2 z => ?_
  rw [lwR1 hL hk h0, qbind, lwR2 hL hk h0, qbind, p1, qbind, lwR1 hL hk z, qbind, lwR2 hL hk z, qbind, p2, qbind]
  exact if_pos rfl
theorem lw_spectrum (hL : L ≤ 3584) (hk : 7 * k + 7 ≤ L) (I : qI h A) (h0 : h.2 0 = .inl (L, .inl xs)) : lwG L xs k ((mAI h (some 0) (nI (7 * k) + (1 : Int32))).bind fun x232 => (mAI h (some 0) (nI (7 * k) + (2 : Int32))).bind fun x233 => (mAI h (some 0) (nI (7 * k) + (3 : Int32))).bind fun x234 => if x234 = 0 then f_L_law_c1719 (some 0) (some 1) (some 51) (nI (7 * k)) (some 1) x232 x233 (0 : Int32) h else f_L_law_c1719 (some 0) (some 1) (some 51) (nI (7 * k)) (some 1) x232 x233 (1 : Int32) h) := by
  rw [lwR1 hL hk h0, qbind, lwR2 hL hk h0, qbind, lwR3 hL hk h0, qbind]
  by_cases y : xs (7 * k + 3) = 0
  · rw [if_pos y]
    obtain ⟨r, p1, p2⟩ : ∃ r, f_X8_spectrum (some 1) (xs (7 * k + 1)) (xs (7 * k + 2)) (0 : Int32) h = some r ∧ f_X9_spectrum (some 51) (xs (7 * k + 1)) (xs (7 * k + 2)) (0 : Int32) h = some r := op_spectrum I (xs (7 * k + 1)) (xs (7 * k + 2)) false
    refine lwG.n I h0 ?_
    unfold f_L_law_c1719
    rw [p1, qbind, lwR1 hL hk h0, qbind, lwR2 hL hk h0, qbind, lwR3 hL hk h0, qbind, if_pos y]
    unfold f_L_law_c1746
    rw [p2, qbind]
    exact if_pos rfl
  · rw [if_neg y]
    obtain ⟨r, p1, p2⟩ : ∃ r, f_X8_spectrum (some 1) (xs (7 * k + 1)) (xs (7 * k + 2)) (1 : Int32) h = some r ∧ f_X9_spectrum (some 51) (xs (7 * k + 1)) (xs (7 * k + 2)) (1 : Int32) h = some r := op_spectrum I (xs (7 * k + 1)) (xs (7 * k + 2)) true
    refine lwG.n I h0 ?_
    unfold f_L_law_c1719
    rw [p1, qbind, lwR1 hL hk h0, qbind, lwR2 hL hk h0, qbind, lwR3 hL hk h0, qbind, if_neg y]
    unfold f_L_law_c1746
    rw [p2, qbind]
    exact if_pos rfl
theorem lw_field (hL : L ≤ 3584) (hk : 7 * k + 7 ≤ L) (I : qI h A) (h0 : h.2 0 = .inl (L, .inl xs)) : lwG L xs k ((mAI h (some 0) (nI (7 * k) + (1 : Int32))).bind fun x236 => (mAI h (some 0) (nI (7 * k) + (2 : Int32))).bind fun x237 => (mAI h (some 0) (nI (7 * k) + (3 : Int32))).bind fun x238 => (mAI h (some 0) (nI (7 * k) + (4 : Int32))).bind fun x239 => (f_X8_field (some 1) x236 x237 x238 x239 h).bind fun x240 => (mAI h (some 0) (nI (7 * k) + (1 : Int32))).bind fun x241 => (mAI h (some 0) (nI (7 * k) + (2 : Int32))).bind fun x242 => (mAI h (some 0) (nI (7 * k) + (3 : Int32))).bind fun x243 => (mAI h (some 0) (nI (7 * k) + (4 : Int32))).bind fun x244 => (f_X9_field (some 51) x241 x242 x243 x244 h).bind fun x245 => if x240 = x245 then some (Sum.inl ((nI (7 * k) + 7), h)) else some (Sum.inr ((0 : Int32), h))) := by
  obtain ⟨r, p1, p2⟩ := op_field I (xs (7 * k + 1)) (xs (7 * k + 2)) (xs (7 * k + 3)) (xs (7 * k + 4))
  refine lwG.n I h0 ?_
  rw [lwR1 hL hk h0, qbind, lwR2 hL hk h0, qbind, lwR3 hL hk h0, qbind, lwR4 hL hk h0, qbind, p1, qbind, qbind, qbind, qbind, qbind, p2, qbind]
  exact if_pos rfl
theorem lw_fours (hL : L ≤ 3584) (hk : 7 * k + 7 ≤ L) (I : qI h A) (h0 : h.2 0 = .inl (L, .inl xs)) : lwG L xs k ((mAI h (some 0) (nI (7 * k) + (1 : Int32))).bind fun x247 => (mAI h (some 0) (nI (7 * k) + (2 : Int32))).bind fun x248 => (mAI h (some 0) (nI (7 * k) + (3 : Int32))).bind fun x249 => (f_X8_fours (some 1) x247 x248 x249 h).bind fun x250 => (mAI x250.2 (some 0) (nI (7 * k) + (1 : Int32))).bind fun x251 => (mAI x250.2 (some 0) (nI (7 * k) + (2 : Int32))).bind fun x252 => (mAI x250.2 (some 0) (nI (7 * k) + (3 : Int32))).bind fun x253 => (f_X9_fours (some 51) x251 x252 x253 x250.2).bind fun x254 => if x250.1 = x254.1 then some (Sum.inl ((nI (7 * k) + 7), x254.2)) else some (Sum.inr ((0 : Int32), x254.2))) := by
  refine lwG.s (op_fours I (xs (7 * k + 1)) (xs (7 * k + 2)) (xs (7 * k + 3))) h0 fun r h1 h2 p1 p2 z => ?_
  rw [lwR1 hL hk h0, qbind, lwR2 hL hk h0, qbind, lwR3 hL hk h0, qbind, p1, qbind, lwR1 hL hk z, qbind, lwR2 hL hk z, qbind, lwR3 hL hk z, qbind, p2, qbind]
  exact if_pos rfl
theorem lw_count (hL : L ≤ 3584) (hk : 7 * k + 7 ≤ L) (I : qI h A) (h0 : h.2 0 = .inl (L, .inl xs)) : lwG L xs k ((mAI h (some 0) (nI (7 * k) + (1 : Int32))).bind fun x256 => (f_X8_count (some 1) x256 h).bind fun x257 => (mAI h (some 0) (nI (7 * k) + (1 : Int32))).bind fun x258 => (f_X9_count (some 51) x258 h).bind fun x259 => if x257 = x259.1 then some (Sum.inl ((nI (7 * k) + 7), x259.2)) else some (Sum.inr ((0 : Int32), x259.2))) := by
  refine lwG.m (op_count I (xs (7 * k + 1))) h0 fun r h2 p1 p2 => ?_
  rw [lwR1 hL hk h0, qbind, p1, qbind, qbind, p2, qbind]
  exact if_pos rfl
end LWG
