/-! PURE: four -/
def qBl (a b : Nat) : Nat := [0, 1, 2, 3, 1, 0, 3, 2, 2, 3, 0, 1, 3, 2, 1, 0].getD (4 * a + b) 0
def qBt (a b : Nat) : Nat := [0, 0, 0, 0, 1, 0, 1, 0, 1, 0, 0, 1, 1, 1, 0, 0].getD (4 * a + b) 0
def qFP (wd : Nat → Nat) (n i q : Nat) : Bool := (wd (qBl (i / n) (q / n))).testBit ((q % n + n - i % n) % n) ^^ decide (qBt (i / n) (q / n) = 1)
theorem qFP_at {wd : Nat → Nat} {n i z : Nat} (a b : Nat) (hi : i < n) (hz : z < n) : qFP wd n (a * n + i) (b * n + z) = ((wd (qBl a b)).testBit ((z + n - i) % n) ^^ decide (qBt a b = 1)) := by
  unfold qFP
  rw [(qdm hi).1, (qdm hi).2, (qdm hz).1, (qdm hz).2]
theorem qCat_step {n k s : Nat} {p : Nat → Bool} (hs : s < 2 ^ n) (hb : ∀ z, z < n → s.testBit z = p (k * n + z)) : qW (k * n) p ||| s * 2 ^ (k * n) = qW ((k + 1) * n) p := by
  rw [qCat (qW_lt _ _) hs, Nat.succ_mul]
  apply qW_congr
  intro q hq
  by_cases h1 : q < k * n
  · rw [if_pos h1, qW_bit, decide_eq_true h1, Bool.true_and]
  · rw [if_neg h1, hb _ (by omega), show k * n + (q - k * n) = q by omega]
theorem x_fourWords {n f0 f1 f2 f3 : Nat} {p : Nat → Bool} (hn : n ≤ 7) (h0 : f0 < 2 ^ n) (h1 : f1 < 2 ^ n) (h2 : f2 < 2 ^ n) (h3 : f3 < 2 ^ n) (b0 : ∀ z, z < n → f0.testBit z = p (0 * n + z)) (b1 : ∀ z, z < n → f1.testBit z = p (1 * n + z)) (b2 : ∀ z, z < n → f2.testBit z = p (2 * n + z)) (b3 : ∀ z, z < n → f3.testBit z = p (3 * n + z)) : f_X8_fourWords (nI n) (nI f0) (nI f1) (nI f2) (nI f3) = some (nI (qW (4 * n) p)) := by
  have e0 : f0 = qW (1 * n) p := by
    rw [Nat.one_mul]
    exact qW_ext h0 fun z hz => by rw [b0 z hz, Nat.zero_mul, Nat.zero_add]
  have e1 := qCat_step h1 b1
  have e2 := qCat_step h2 b2
  have e3 := qCat_step h3 b3
  unfold f_X8_fourWords
  rw [qL2, show (3 : Int32) = nI 3 from rfl, qI_mul, qI_mul, qI_shl _ (by omega), qI_shl _ (by omega), qI_shl _ (by omega), qI_or, qI_or, qI_or, ← e3, ← e2, ← e1, ← e0, Nat.one_mul]
theorem qRo_lt (w n s : Nat) : qRo w n s < 2 ^ n := qW_lt _ _
theorem qRo_bit {w n s z : Nat} (hz : z < n) : (qRo w n s).testBit z = w.testBit ((z + n - s) % n) := by
  unfold qRo
  rw [qW_bit, decide_eq_true hz, Bool.true_and]
theorem qRoN_lt (w n s : Nat) : qRo w n s ^^^ (2 ^ n - 1) < 2 ^ n := Nat.xor_lt_two_pow (qRo_lt w n s) (qMk_lt n)
theorem qRoN_bit {w n s z : Nat} (hz : z < n) : (qRo w n s ^^^ (2 ^ n - 1)).testBit z = !(w.testBit ((z + n - s) % n)) := by
  rw [Nat.testBit_xor, qRo_bit hz, Nat.testBit_two_pow_sub_one, decide_eq_true hz, Bool.xor_true]
section QFX
variable {wd : Nat → Nat} {n i : Nat}
theorem x_four0 (hn : n ≤ 7) (hi : i < n) : f_X8_fourWords (nI n) (nI (qRo (wd 0) n i)) (nI (qRo (wd 1) n i)) (nI (qRo (wd 2) n i)) (nI (qRo (wd 3) n i)) = some (nI (qW (4 * n) (qFP wd n (0 * n + i)))) :=
  x_fourWords hn (qRo_lt _ _ _) (qRo_lt _ _ _) (qRo_lt _ _ _) (qRo_lt _ _ _) (fun z hz => by rw [qRo_bit hz, qFP_at 0 0 hi hz]; simp [qBl, qBt]) (fun z hz => by rw [qRo_bit hz, qFP_at 0 1 hi hz]; simp [qBl, qBt]) (fun z hz => by rw [qRo_bit hz, qFP_at 0 2 hi hz]; simp [qBl, qBt]) (fun z hz => by rw [qRo_bit hz, qFP_at 0 3 hi hz]; simp [qBl, qBt])
theorem x_four1 (hn : n ≤ 7) (hi : i < n) : f_X8_fourWords (nI n) (nI (qRo (wd 1) n i ^^^ (2 ^ n - 1))) (nI (qRo (wd 0) n i)) (nI (qRo (wd 3) n i ^^^ (2 ^ n - 1))) (nI (qRo (wd 2) n i)) = some (nI (qW (4 * n) (qFP wd n (1 * n + i)))) :=
  x_fourWords hn (qRoN_lt _ _ _) (qRo_lt _ _ _) (qRoN_lt _ _ _) (qRo_lt _ _ _) (fun z hz => by rw [qRoN_bit hz, qFP_at 1 0 hi hz]; simp [qBl, qBt]) (fun z hz => by rw [qRo_bit hz, qFP_at 1 1 hi hz]; simp [qBl, qBt]) (fun z hz => by rw [qRoN_bit hz, qFP_at 1 2 hi hz]; simp [qBl, qBt]) (fun z hz => by rw [qRo_bit hz, qFP_at 1 3 hi hz]; simp [qBl, qBt])
theorem x_four2 (hn : n ≤ 7) (hi : i < n) : f_X8_fourWords (nI n) (nI (qRo (wd 2) n i ^^^ (2 ^ n - 1))) (nI (qRo (wd 3) n i)) (nI (qRo (wd 0) n i)) (nI (qRo (wd 1) n i ^^^ (2 ^ n - 1))) = some (nI (qW (4 * n) (qFP wd n (2 * n + i)))) :=
  x_fourWords hn (qRoN_lt _ _ _) (qRo_lt _ _ _) (qRo_lt _ _ _) (qRoN_lt _ _ _) (fun z hz => by rw [qRoN_bit hz, qFP_at 2 0 hi hz]; simp [qBl, qBt]) (fun z hz => by rw [qRo_bit hz, qFP_at 2 1 hi hz]; simp [qBl, qBt]) (fun z hz => by rw [qRo_bit hz, qFP_at 2 2 hi hz]; simp [qBl, qBt]) (fun z hz => by rw [qRoN_bit hz, qFP_at 2 3 hi hz]; simp [qBl, qBt])
theorem x_four3 (hn : n ≤ 7) (hi : i < n) : f_X8_fourWords (nI n) (nI (qRo (wd 3) n i ^^^ (2 ^ n - 1))) (nI (qRo (wd 2) n i ^^^ (2 ^ n - 1))) (nI (qRo (wd 1) n i)) (nI (qRo (wd 0) n i)) = some (nI (qW (4 * n) (qFP wd n (3 * n + i)))) :=
  x_fourWords hn (qRoN_lt _ _ _) (qRoN_lt _ _ _) (qRo_lt _ _ _) (qRo_lt _ _ _) (fun z hz => by rw [qRoN_bit hz, qFP_at 3 0 hi hz]; simp [qBl, qBt]) (fun z hz => by rw [qRoN_bit hz, qFP_at 3 1 hi hz]; simp [qBl, qBt]) (fun z hz => by rw [qRo_bit hz, qFP_at 3 2 hi hz]; simp [qBl, qBt]) (fun z hz => by rw [qRo_bit hz, qFP_at 3 3 hi hz]; simp [qBl, qBt])
theorem x_four {h : mH} {t : Nat} {T0 : qT} (q0 : qXt h t T0) (h1 : 1 ≤ n) (hn : n ≤ 7) (hw : ∀ k, k < 4 → wd k < 2 ^ n) : ∃ h1 h', f_X7_begin (some (3 + 4 * t)) (4 * nI n) h = some h1 ∧ f_X8_four_l88 (nI n) (nI (wd 0)) (nI (wd 1)) (nI (wd 2)) (nI (wd 3)) (nI t) ((1 <<< (nI n &&& 31)) - 1) (some (3 + 4 * t)) 0 h1 = some (nI t, h') ∧ qXt h' t (qNew (4 * n) (fun r => qW (4 * n) (qFP wd n r))) ∧ qSame (qIs4 t) h h' := by
  obtain ⟨h1', fr1, p1, b1, z1, s1⟩ := x_begin q0 (4 * n)
  refine ⟨h1', ?_⟩
  rw [qI_mask (by omega)]
  have R := mLoop_inv (b := fun x : Int32 × mH => f_X8_four_b88 (nI n) (nI (wd 0)) (nI (wd 1)) (nI (wd 2)) (nI (wd 3)) (nI t) (nI (2 ^ n - 1)) (some (3 + 4 * t)) x.1 x.2) (fun k (s : Int32 × mH) => s.1 = nI k ∧ qSame (qIs4 t) h s.2 ∧ ∃ fr', qBg s.2 t (4 * n) fr' ∧ ∀ a, a < 4 → ∀ i, i < k → fr' (a * n + i) = nI (qW (4 * n) (qFP wd n (a * n + i)))) n (fun r : Int32 × mH => r.1 = nI t ∧ qXt r.2 t (qNew (4 * n) (fun r => qW (4 * n) (qFP wd n r))) ∧ qSame (qIs4 t) h r.2) (s0 := (0, h1')) ⟨rfl, s1, fr1, b1, fun a _ i hi => absurd hi (Nat.not_lt_zero i)⟩ ?_ ?_
  · obtain ⟨⟨r1, r2⟩, e1, e2, e3⟩ := R
    have e2' : r1 = nI t := e2
    rw [e2'] at e1
    exact ⟨r2, by rw [show (4 : Int32) = nI 4 from rfl, qI_mul]; exact p1, e1, e3⟩
  · rintro k ⟨ik, hk⟩ hkn ⟨rfl, sk, fr2, b2', o2⟩
    have b2 : qBg hk t (4 * n) fr2 := b2'
    obtain ⟨h3, p3, b3, s3⟩ := b2.st (i := k) (by omega) (nI (qW (4 * n) (qFP wd n (0 * n + k))))
    obtain ⟨h4, p4, b4, s4⟩ := b3.st (i := n + k) (by omega) (nI (qW (4 * n) (qFP wd n (1 * n + k))))
    obtain ⟨h5, p5, b5, s5⟩ := b4.st (i := 2 * n + k) (by omega) (nI (qW (4 * n) (qFP wd n (2 * n + k))))
    obtain ⟨h6, p6, b6, s6⟩ := b5.st (i := 3 * n + k) (by omega) (nI (qW (4 * n) (qFP wd n (3 * n + k))))
    refine ⟨(nI (k + 1), h6), ?_, rfl, (((sk.trans s3).trans s4).trans s5).trans s6, _, b6, fun a ha i hi => ?_⟩
    · show f_X8_four_b88 (nI n) (nI (wd 0)) (nI (wd 1)) (nI (wd 2)) (nI (wd 3)) (nI t) (nI (2 ^ n - 1)) (some (3 + 4 * t)) (nI k) hk = _
      unfold f_X8_four_b88
      rw [if_neg (by rw [qle (by omega) (by omega)]; omega), x_shifted (hw 0 (by decide)) hkn (by omega), qbind, x_shifted (hw 1 (by decide)) hkn (by omega), qbind, x_shifted (hw 2 (by decide)) hkn (by omega), qbind, x_shifted (hw 3 (by decide)) hkn (by omega), qbind, b2.rows, qbind, x_four0 hn hkn, qbind, p3, qbind, b3.rows, qbind, qI_xor, qI_xor, qI_xor, x_four1 hn hkn, qbind, qI_add, p4, qbind, b4.rows, qbind, x_four2 hn hkn, qbind, qL2, qI_mul, qI_add, p5, qbind, b5.rows, qbind, x_four3 hn hkn, qbind, show (3 : Int32) = nI 3 from rfl, qI_mul, qI_add, p6, qbind, nI_1]
    · have ha' : a = 0 ∨ a = 1 ∨ a = 2 ∨ a = 3 := by omega
      by_cases hik : i = k
      · subst hik
        rcases ha' with rfl | rfl | rfl | rfl
        · rw [qUpn (by omega), qUpn (by omega), qUpn (by omega), show upd fr2 i (nI (qW (4 * n) (qFP wd n (0 * n + i)))) (0 * n + i) = _ by rw [Nat.zero_mul, Nat.zero_add, qUps]]
          rw [Nat.zero_mul, Nat.zero_add]
        · rw [qUpn (by omega), qUpn (by omega), show 1 * n + i = n + i by omega, qUps]
        · rw [qUpn (by omega), qUps]
        · rw [qUps]
      · have : i < k := by omega
        rcases ha' with rfl | rfl | rfl | rfl <;> (rw [qUpn (by omega), qUpn (by omega), qUpn (by omega), qUpn (by omega)]; exact o2 _ (by decide) i this)
  · rintro ⟨ik, hk⟩ ⟨rfl, sk, fr2, b2, o2⟩
    refine ⟨(nI t, hk), ?_, rfl, b2.fin (by omega) fun r hr => ?_, sk⟩
    · show f_X8_four_b88 (nI n) (nI (wd 0)) (nI (wd 1)) (nI (wd 2)) (nI (wd 3)) (nI t) (nI (2 ^ n - 1)) (some (3 + 4 * t)) (nI n) hk = _
      unfold f_X8_four_b88
      rw [if_pos (by rw [qle (by omega) (by omega)]; omega)]
    · have e : r / n * n + r % n = r := by rw [Nat.mul_comm]; exact Nat.div_add_mod r n
      have := o2 (r / n) (Nat.div_lt_of_lt_mul (by rw [Nat.mul_comm]; exact hr)) (r % n) (Nat.mod_lt _ (by omega))
      rw [e] at this
      exact this
end QFX
