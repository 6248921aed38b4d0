/-! PURE: form, a form offered to the best -/
def qIsP (n c : Nat) : Bool := (List.range n).all fun i => decide (qDgt c i < n) && (List.range n).all fun j => i == j || qDgt c i != qDgt c j
theorem qIsP_1 : qT1.all (qIsP 1) = true := by decide +kernel
theorem qIsP_2 : qT2.all (qIsP 2) = true := by decide +kernel
theorem qIsP_3 : qT3.all (qIsP 3) = true := by decide +kernel
theorem qIsP_4 : qT4.all (qIsP 4) = true := by decide +kernel
theorem qIsP_5 : qT5.all (qIsP 5) = true := by decide +kernel
theorem qIsP_6 : qT6.all (qIsP 6) = true := by decide +kernel
theorem qOds_pm {n : Nat} (h0 : 0 < n) (hn : n ≤ 6) {c : Nat} (hc : c ∈ qOds n) : qPm n (qDgt c) := by
  have A : (qOds n).all (qIsP n) = true := by
    have C : n = 1 ∨ n = 2 ∨ n = 3 ∨ n = 4 ∨ n = 5 ∨ n = 6 := by omega
    rcases C with rfl | rfl | rfl | rfl | rfl | rfl
    · exact qIsP_1
    · exact qIsP_2
    · exact qIsP_3
    · exact qIsP_4
    · exact qIsP_5
    · exact qIsP_6
  have P := List.all_eq_true.mp A c hc
  unfold qIsP at P
  have Q := List.all_eq_true.mp P
  refine ⟨fun i hi => ?_, fun i j hi hj e => ?_⟩
  · have := Q i (List.mem_range.mpr hi)
    rw [Bool.and_eq_true, decide_eq_true_eq] at this
    exact this.1
  · have := Q i (List.mem_range.mpr hi)
    rw [Bool.and_eq_true] at this
    have := List.all_eq_true.mp this.2 j (List.mem_range.mpr hj)
    rw [Bool.or_eq_true, beq_iff_eq, bne_iff_ne] at this
    rcases this with z | z
    · exact z
    · exact absurd e z
theorem qInv_ex {n : Nat} (hn : n ≤ 6) {p : Nat → Nat} (hp : qPm n p) : ∃ r, qInv n p r := by
  have p6 : 2 ^ n ≤ 2 ^ 6 := Nat.pow_le_pow_right (by decide) hn
  have onto : ∀ y, ∃ j, y < n → (j < n ∧ p j = y) := by
    intro y
    by_cases hy : y < n
    · refine Classical.byContradiction fun no => ?_
      have no' : ∀ j, j < n → p j ≠ y := fun j hj e => no ⟨j, fun _ => ⟨hj, e⟩⟩
      have py : 2 ^ y < 2 ^ n := Nat.pow_lt_pow_right (by decide) hy
      have a := qc_into (k := n) (X := (2 ^ n - 1) ^^^ 2 ^ y) (P := fun _ => true) (f := p) (Nat.lt_of_lt_of_le (Nat.xor_lt_two_pow (n := n) (by have := Nat.two_pow_pos n; omega) py) (Nat.pow_le_pow_right (by decide) (by omega))) (fun i hi _ => by
        rw [Nat.testBit_xor, Nat.testBit_two_pow_sub_one, decide_eq_true (hp.1 i hi), Nat.testBit_two_pow, decide_eq_false (fun z => no' i hi z.symm)]; rfl) (fun i j hi hj _ _ => hp.2 i j hi hj)
      have b := qp_flip (2 ^ n - 1) (j := y) (by omega)
      rw [Nat.testBit_two_pow_sub_one, decide_eq_true hy] at b
      have b' : qp ((2 ^ n - 1) ^^^ 2 ^ y) + 1 = qp (2 ^ n - 1) + 0 := b
      have c := qp_compl (w := 0) (n := n) (Nat.two_pow_pos n) (by omega)
      rw [Nat.zero_xor, qp_0] at c
      have d := qc_not n (fun _ => false)
      have d' : qc n (fun _ => true) + qc n (fun _ => false) = n := d
      have z : qc n (fun _ => false) = 0 := qc_zero.mpr fun _ _ => rfl
      omega
    · exact ⟨0, fun z => absurd z hy⟩
  have H : ∀ y, y < n → (Classical.choose (onto y) < n ∧ p (Classical.choose (onto y)) = y) := fun y => Classical.choose_spec (onto y)
  refine ⟨fun y => Classical.choose (onto y), fun j hj => ⟨hp.1 j hj, ?_⟩, H⟩
  obtain ⟨a, b⟩ := H (p j) (hp.1 j hj)
  exact hp.2 _ _ a hj b
theorem qInv.sy {n : Nat} {p r : Nat → Nat} (i : qInv n p r) : qInv n r p := ⟨i.2, i.1⟩
theorem qInv.pm {n : Nat} {p r : Nat → Nat} (i : qInv n p r) : qPm n r := ⟨fun a ha => (i.2 a ha).1, fun a b ha hb e => by rw [← (i.2 a ha).2, ← (i.2 b hb).2, e]⟩
theorem qInv.eq {n : Nat} {p r r' : Nat → Nat} (i : qInv n p r) (i' : qInv n p r') (a : Nat) (ha : a < n) : r a = r' a := by
  have h1 := i.2 a ha
  have h2 := (i'.1 (r a) h1.1).2
  rw [h1.2] at h2
  exact h2.symm
theorem qLs2_congr {n : Nat} {R : Nat → Nat} {f : Nat} {r r' : Nat → Nat} (h : ∀ a, a < n → r a = r' a) : qLs2 n R f r = qLs2 n R f r' := by
  funext k
  unfold qLs2 qIm
  rw [qW_congr fun p hp => by rw [h p hp], qW_congr (p := fun p => (qWd n R f k true).testBit (r p)) fun p hp => by rw [h p hp]]
/-- the best so far: of what was offered -/
def qBe (h : mH) (n : Nat) (R : Nat → Nat) (V : Nat → Nat → Prop) : Prop := ∃ g, h.2 65 = .inl (6, .inl g) ∧ ((g 0 = nI 784 ∧ ∀ f c, ¬ V f c) ∨ ∃ M, (∀ i, i < n → g i = nI (M i)) ∧ (∃ f r sg, f < n ∧ qPm n r ∧ qSrt n (qLs2 n R f r) M sg) ∧ ∀ f c, V f c → ∀ r, qInv n (qDgt c) r → ∃ S sg, qSrt n (qLs2 n R f r) S sg ∧ qLxN 0 n M S)
def qC63 (k : Nat) : Prop := 63 ≤ k ∧ k ≤ 65
section QOF
variable {A : qA} {t n f : Nat} {R : Nat → Nat} {h : mH}
theorem m_l72 (m : qM h A) (hn : n ≤ 6) {S : Nat → Nat} (s : qN64 h n S) (v1 v3 : Int32) : ∃ h' g, f_X9_laysLeast_l72 (some 51) v1 (nI n) v3 0 h = f_X9_laysLeast_c98 (some 51) v1 (nI n) v3 h' ∧ qM h' A ∧ qSame (fun z => z = 65) h h' ∧ h'.2 65 = .inl (6, .inl g) ∧ ∀ i, i < n → g i = nI (S i) := by
  obtain ⟨g64, e64, u64⟩ := s
  obtain ⟨g0, e0⟩ := (m_arr63 m).2.2
  have LOOP : ∀ d k (h1 : mH) (g : Nat → Int32), k + d = n → qM h1 A → qSame (fun z => z = 65) h h1 → h1.2 65 = .inl (6, .inl g) → (∀ i, i < k → g i = nI (S i)) → ∃ h' g, f_X9_laysLeast_l72 (some 51) v1 (nI n) v3 (nI k) h1 = f_X9_laysLeast_c98 (some 51) v1 (nI n) v3 h' ∧ qM h' A ∧ qSame (fun z => z = 65) h h' ∧ h'.2 65 = .inl (6, .inl g) ∧ ∀ i, i < n → g i = nI (S i) := by
    intro d
    induction d with
    | zero =>
      intro k h1 g hk m1 s1 e1 u1
      have kn : k = n := by omega
      subst kn
      refine ⟨h1, g, ?_, m1, s1, e1, u1⟩
      unfold f_X9_laysLeast_l72
      rw [mLoop_eq]
      show (f_X9_laysLeast_b72 (some 51) v1 (nI k) v3 (nI k) h1).bind _ = _
      unfold f_X9_laysLeast_b72
      rw [if_pos (Int32.le_refl _)]
      cases f_X9_laysLeast_c98 (some 51) v1 (nI k) v3 h1 <;> rfl
    | succ d ih =>
      intro k h1 g hk m1 s1 e1 u1
      obtain ⟨h5, p5, m5, e5, s5⟩ := m_stW m1 qMf65 e1 (i := k) (by omega) (nI (S k))
      obtain ⟨h', g', a1, a2⟩ := ih (k + 1) h5 _ (by omega) m5 (s1.trans s5) e5 (fun i hi => by
        by_cases z : i = k
        · rw [z, qUps]
        · rw [qUpn z]; exact u1 i (by omega))
      refine ⟨h', g', ?_, a2⟩
      rw [← a1]
      unfold f_X9_laysLeast_l72
      refine mLoop_inl (x := (nI k, h1)) ?_
      show f_X9_laysLeast_b72 (some 51) v1 (nI n) v3 (nI k) h1 = _
      unfold f_X9_laysLeast_b72
      rw [if_neg (by rw [qle (by omega) (by omega)]; omega), m1.g63.2.2, qbind, m1.g63.2.1, qbind, m1.atW ((s1.2 64 (by decide)).trans e64) (by decide) (by decide) (by omega), qbind, u64 k (by omega), p5, qbind, nI_1]
  exact LOOP n 0 h g0 (Nat.zero_add n) m qSame.rf e0 (fun i hi => absurd hi (Nat.not_lt_zero i))
theorem m_offer (m : qM h A) (w : qWA A) (h6 : t < 6) (ht : (A.1 t).1 = n) (hR : (A.1 t).2.1 = R) (h0 : 0 < n) (hn : n ≤ 6) (hf : f < n) {c : Nat} (hc : c ∈ qOds n) (pp : qPlc h n (qDgt c)) {V : Nat → Nat → Prop} (b : qBe h n R V) : ∃ h', f_X9_laysLeast_b50 (some 51) (nI t) (nI n) (nI f) 1 h = f_X9_laysLeast_c98 (some 51) (nI t) (nI n) (nI f) h' ∧ qM h' A ∧ qSame qC63 h h' ∧ qPlc h' n (qDgt c) ∧ qBe h' n R (fun f' c' => V f' c' ∨ (f' = f ∧ c' = c)) := by
  have p6 : 2 ^ n ≤ 2 ^ 6 := Nat.pow_le_pow_right (by decide) hn
  obtain ⟨r, iv⟩ := qInv_ex hn (qOds_pm h0 hn hc)
  obtain ⟨h1, S, sg, p1, m1, s1, n1, st⟩ := m_laysForm m w h6 ht hR h0 hn hf iv pp
  obtain ⟨g, e65, bb⟩ := b
  have e65' : h1.2 65 = .inl (6, .inl g) := (s1.2 65 (by decide)).trans e65
  have pp1 : ∀ {h2}, qSame qC63 h h2 → h2.2 63 = h.2 63 → qPlc h2 n (qDgt c) := by
    intro h2 _ e
    obtain ⟨f63, e63, u63⟩ := pp
    exact ⟨f63, e.trans e63, u63⟩
  obtain ⟨L1, L2⟩ := m_isLess m1 hn n1 e65'
  have s13 : qSame qC63 h h1 := s1.mono fun z y => by unfold qC63; omega
  have Slt : ∀ i, i < n → S i < 2 ^ n := fun i hi => by rw [(st.1 i hi).2]; exact qLs2_lt _
  have PRE : ∀ x, f_X9_isLess (some 51) (nI n) h1 = some x → f_X9_laysLeast_b50 (some 51) (nI t) (nI n) (nI f) 1 h = if x = 0 then f_X9_laysLeast_c98 (some 51) (nI t) (nI n) (nI f) h1 else f_X9_laysLeast_l72 (some 51) (nI t) (nI n) (nI f) 0 h1 := by
    intro x hx
    unfold f_X9_laysLeast_b50
    rw [if_neg (by decide), p1, qbind, hx, qbind]
  have any : ∀ r', qInv n (qDgt c) r' → qSrt n (qLs2 n R f r') S sg := fun r' i' => by rw [qLs2_congr (i'.eq iv)]; exact st
  -- it is taken
  have TAKE : f_X9_isLess (some 51) (nI n) h1 = some 1 → (∀ f' c', V f' c' → ∀ r', qInv n (qDgt c') r' → ∃ S' sg', qSrt n (qLs2 n R f' r') S' sg' ∧ qLxN 0 n S S') → ∃ h', f_X9_laysLeast_b50 (some 51) (nI t) (nI n) (nI f) 1 h = f_X9_laysLeast_c98 (some 51) (nI t) (nI n) (nI f) h' ∧ qM h' A ∧ qSame qC63 h h' ∧ qPlc h' n (qDgt c) ∧ qBe h' n R (fun f' c' => V f' c' ∨ (f' = f ∧ c' = c)) := by
    intro hl all
    obtain ⟨h2, g2, q1, m2, s2, e2, u2⟩ := m_l72 m1 hn n1 (nI t) (nI f)
    have s23 : qSame qC63 h h2 := s13.trans (s2.mono fun z y => by unfold qC63; omega)
    refine ⟨h2, ?_, m2, s23, pp1 s23 ((s2.2 63 (by decide)).trans (s1.2 63 (by decide))), g2, e2, Or.inr ⟨S, u2, ⟨f, r, sg, hf, iv.pm, st⟩, fun f' c' hv r' i' => ?_⟩⟩
    · rw [PRE 1 hl, if_neg (show ¬ (1 : Int32) = 0 by decide), q1]
    · rcases hv with hv | ⟨rfl, rfl⟩
      · exact all f' c' hv r' i'
      · exact ⟨S, sg, any r' i', qLxN.rf⟩
  rcases bb with ⟨g0, nv⟩ | ⟨M, uM, ⟨fM, rM, sM, hfM, pM, stM⟩, all⟩
  · have S0 := Slt 0 h0
    refine TAKE ?_ (fun f' c' hv => absurd hv (nv f' c'))
    rw [L2 0 h0 (fun i hi => absurd hi (Nat.not_lt_zero i)) (by rw [g0, qeq (by decide) (by omega)]; omega), g0, if_neg (by rw [qle (by decide) (by omega)]; omega)]
  · have Mlt : ∀ i, i < n → M i < 2 ^ n := fun i hi => by rw [(stM.1 i hi).2]; exact qLs2_lt _
    -- it is left
    have KEEP : f_X9_isLess (some 51) (nI n) h1 = some 0 → qLxN 0 n M S → ∃ h', f_X9_laysLeast_b50 (some 51) (nI t) (nI n) (nI f) 1 h = f_X9_laysLeast_c98 (some 51) (nI t) (nI n) (nI f) h' ∧ qM h' A ∧ qSame qC63 h h' ∧ qPlc h' n (qDgt c) ∧ qBe h' n R (fun f' c' => V f' c' ∨ (f' = f ∧ c' = c)) := by
      intro hl le
      refine ⟨h1, by rw [PRE 0 hl, if_pos rfl], m1, s13, pp1 s13 (s1.2 63 (by decide)), g, e65', Or.inr ⟨M, uM, ⟨fM, rM, sM, hfM, pM, stM⟩, fun f' c' hv r' i' => ?_⟩⟩
      rcases hv with hv | ⟨rfl, rfl⟩
      · exact all f' c' hv r' i'
      · exact ⟨S, sg, any r' i', le⟩
    rcases qLeast (fun i => M i = S i) n with z | ⟨k, hk, z1, z2⟩
    · exact KEEP (L1 fun i hi => by rw [uM i hi, z i hi]) (Or.inl fun i _ hi => z i hi)
    · have a := Slt k hk
      have b := Mlt k hk
      have E := L2 k hk (fun i hi => by rw [uM i (by omega), z2 i hi]) (by rw [uM k hk, qeq (by omega) (by omega)]; exact z1)
      rw [uM k hk] at E
      by_cases y : M k ≤ S k
      · rw [if_pos (by rw [qle (by omega) (by omega)]; exact y)] at E
        exact KEEP E (Or.inr ⟨k, Nat.zero_le k, hk, by omega, fun i _ hi => z2 i hi⟩)
      · rw [if_neg (by rw [qle (by omega) (by omega)]; exact y)] at E
        refine TAKE E (fun f' c' hv r' i' => ?_)
        obtain ⟨S', sg', q1, q2⟩ := all f' c' hv r' i'
        exact ⟨S', sg', q1, qLxN.tr (Or.inr ⟨k, Nat.zero_le k, hk, by omega, fun i _ hi => (z2 i hi).symm⟩) q2⟩
end QOF
