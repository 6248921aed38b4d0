/-! PURE: symmetries, the model's side -/
theorem qPn_eq {n x y : Nat} (hx : x < 2 ^ n) (hy : y < 2 ^ n) : qPn x n = qPn y n ↔ x = y ∨ x = y ^^^ (2 ^ n - 1) := by
  unfold qPn
  rw [qXm hx, qXm hy]
  by_cases c1 : 2 ^ n - 1 - x ≤ x
  · rw [if_pos c1]
    by_cases c2 : 2 ^ n - 1 - y ≤ y
    · rw [if_pos c2]; omega
    · rw [if_neg c2]; omega
  · rw [if_neg c1]
    by_cases c2 : 2 ^ n - 1 - y ≤ y
    · rw [if_pos c2]; omega
    · rw [if_neg c2]; omega
section QSYM
variable {h : mH} {A : qA} {t n : Nat} {R : Nat → Nat}
theorem qCol_HH {T : qT} (h0 : 0 < T.1) {j o : Nat} (hj : j < T.1) (ho : o < T.1) : (qPn (qCol T o) T.1 = qPn (qCol T j) T.1) ↔ qHH T.1 T.2.1 qIdc T.1 j o = true := by
  rw [qPn_eq (show qCol T o < 2 ^ T.1 from qW_lt _ _) (show qCol T j < 2 ^ T.1 from qW_lt _ _), qHH_iff]
  have X : ∀ e z, z < T.1 → qXb T.1 T.2.1 qIdc e z = ((T.2.1 e).testBit z ^^ (T.2.1 0).testBit z) := by
    intro e z hz
    unfold qXb
    rw [qXw_bit _ _ _ _ hz, qXw_bit _ _ _ _ hz]
    have p : ∀ e, decide (qIdc e % 2 = 1) = false := fun e => decide_eq_false (by unfold qIdc; omega)
    rw [p, p, Bool.xor_false, Bool.xor_false]
  have cb : ∀ z e, e < T.1 → (qCol T z).testBit e = (T.2.1 e).testBit z := fun z e he => by unfold qCol; rw [qW_bit, decide_eq_true he, Bool.true_and]
  constructor
  · rintro (z | z) e he
    · have b1 := congrArg (fun x => x.testBit e) z
      have b2 := congrArg (fun x => x.testBit 0) z
      simp only [cb _ e he, cb _ 0 h0] at b1 b2
      rw [X e o ho, X e j hj, b1, b2]
    · have b1 := congrArg (fun x => x.testBit e) z
      have b2 := congrArg (fun x => x.testBit 0) z
      simp only [Nat.testBit_xor, Nat.testBit_two_pow_sub_one, cb _ e he, cb _ 0 h0, decide_eq_true he, decide_eq_true h0, Bool.xor_true] at b1 b2
      rw [X e o ho, X e j hj, b1, b2]
      cases (T.2.1 e).testBit j <;> cases (T.2.1 0).testBit j <;> rfl
  · intro z
    cases hb : ((T.2.1 0).testBit o ^^ (T.2.1 0).testBit j)
    · left
      refine Eq.trans (qW_congr fun e he => ?_) rfl
      have := z e he
      rw [X e o ho, X e j hj] at this
      cases h1 : (T.2.1 e).testBit o <;> cases h2 : (T.2.1 e).testBit j <;> cases h3 : (T.2.1 0).testBit o <;> cases h4 : (T.2.1 0).testBit j <;> rw [h1, h2, h3, h4] at this <;> rw [h3, h4] at hb <;> first | rfl | (cases hb; done) | (cases this; done)
    · right
      apply Nat.eq_of_testBit_eq
      intro e
      rw [Nat.testBit_xor, Nat.testBit_two_pow_sub_one]
      by_cases he : e < T.1
      · rw [cb _ e he, cb _ e he, decide_eq_true he, Bool.xor_true]
        have := z e he
        rw [X e o ho, X e j hj] at this
        cases h1 : (T.2.1 e).testBit o <;> cases h2 : (T.2.1 e).testBit j <;> cases h3 : (T.2.1 0).testBit o <;> cases h4 : (T.2.1 0).testBit j <;> rw [h1, h2, h3, h4] at this <;> rw [h3, h4] at hb <;> first | rfl | (cases hb; done) | (cases this; done)
      · unfold qCol
        rw [qW_bit, qW_bit, decide_eq_false he]
        rfl
theorem m_columnWays (m : qM h A) (w : qWA A) (h6 : t < 6) (h0 : 0 < (A.1 t).1) (hn : (A.1 t).1 ≤ 12) : f_X9_columnWays (some 51) (nI t) h = some (lN (qProd (A.1 t).1 (fun j => qc j (qHH (A.1 t).1 (A.1 t).2.1 qIdc (A.1 t).1 j) + 1))) := by
  have wt := w.1 t h6
  obtain ⟨x0, y0, fo, fr, ff, fg, fw, mb, hm⟩ := m.b
  have n12 : 2 ^ (A.1 t).1 ≤ 2 ^ 12 := Nat.pow_le_pow_right (by decide) hn
  unfold f_X9_columnWays f_X9_columnWays_l12
  rw [m.is, qbind, mb.orders, qbind, mb.order h6, qbind, (hm t h6).1]
  have e0 : ((1 : Int64), (0 : Int32)) = (fun j => (lN (qProd j (fun j => qc j (qHH (A.1 t).1 (A.1 t).2.1 qIdc (A.1 t).1 j) + 1)), nI j)) 0 := rfl
  rw [e0]
  refine mLoop_ends (fun j => (lN (qProd j (fun j => qc j (qHH (A.1 t).1 (A.1 t).2.1 qIdc (A.1 t).1 j) + 1)), nI j)) (A.1 t).1 _ (fun j hj => ?_) ?_
  · show f_X9_columnWays_b12 (some 51) (nI t) (nI (A.1 t).1) (lN (qProd j (fun j => qc j (qHH (A.1 t).1 (A.1 t).2.1 qIdc (A.1 t).1 j) + 1))) (nI j) h = _
    unfold f_X9_columnWays_b12
    rw [if_neg (by rw [qle (by omega) (by omega)]; omega)]
    have EP : qProd (j + 1) (fun j => qc j (qHH (A.1 t).1 (A.1 t).2.1 qIdc (A.1 t).1 j) + 1) = qProd j (fun j => qc j (qHH (A.1 t).1 (A.1 t).2.1 qIdc (A.1 t).1 j) + 1) * (qc j (qHH (A.1 t).1 (A.1 t).2.1 qIdc (A.1 t).1 j) + 1) := rfl
    rw [EP]
    generalize qProd j (fun j => qc j (qHH (A.1 t).1 (A.1 t).2.1 qIdc (A.1 t).1 j) + 1) = X
    unfold f_X9_columnWays_l24
    have RR := mLoop_inv (b := fun x : Int32 × Int32 => f_X9_columnWays_b24 (some 51) (nI t) (nI (A.1 t).1) (lN X) (nI j) x.1 x.2 h) (fun o (s : Int32 × Int32) => s = (nI (1 + qc o (qHH (A.1 t).1 (A.1 t).2.1 qIdc (A.1 t).1 j)), nI o)) j (fun r => r = .inl (lN (X * (qc j (qHH (A.1 t).1 (A.1 t).2.1 qIdc (A.1 t).1 j) + 1)), nI (j + 1))) (s0 := (1, 0)) rfl ?_ ?_
    · obtain ⟨r, e, rfl⟩ := RR
      exact e
    · rintro o s ho rfl
      have bo : qCol (A.1 t) o < 2 ^ (A.1 t).1 := qW_lt _ _
      have bj : qCol (A.1 t) j < 2 ^ (A.1 t).1 := qW_lt _ _
      have po : ∀ z, qPn (qCol (A.1 t) z) (A.1 t).1 < 2 ^ 12 := fun z => by
        have bz : qCol (A.1 t) z < 2 ^ (A.1 t).1 := qW_lt _ _
        unfold qPn
        by_cases y : qCol (A.1 t) z ^^^ (2 ^ (A.1 t).1 - 1) ≤ qCol (A.1 t) z
        · rw [if_pos y]; omega
        · rw [if_neg y]; omega
      refine ⟨_, ?_, rfl⟩
      show f_X9_columnWays_b24 (some 51) (nI t) (nI (A.1 t).1) (lN X) (nI j) (nI (1 + qc o (qHH (A.1 t).1 (A.1 t).2.1 qIdc (A.1 t).1 j))) (nI o) h = some (.inl (nI (1 + (qc o (qHH (A.1 t).1 (A.1 t).2.1 qIdc (A.1 t).1 j) + (qHH (A.1 t).1 (A.1 t).2.1 qIdc (A.1 t).1 j o).toNat)), nI (o + 1)))
      unfold f_X9_columnWays_b24
      rw [if_neg (by rw [qle (by omega) (by omega)]; omega), m_columnOf mb (hm t h6) h6 wt (by omega), qbind, m_plain bo (by omega), qbind, m_columnOf mb (hm t h6) h6 wt (by omega), qbind, m_plain bj (by omega), qbind, nI_1, nI_1]
      have iff := qCol_HH (T := A.1 t) h0 hj (show o < (A.1 t).1 by omega)
      by_cases z : qPn (qCol (A.1 t) o) (A.1 t).1 = qPn (qCol (A.1 t) j) (A.1 t).1
      · rw [if_pos (by rw [z]), iff.mp z]; rfl
      · rw [if_neg (by have := po o; have := po j; rw [qeq (by omega) (by omega)]; exact z)]
        cases hh : qHH (A.1 t).1 (A.1 t).2.1 qIdc (A.1 t).1 j o
        · rfl
        · exact absurd (iff.mpr hh) z
    · rintro s rfl
      refine ⟨_, ?_, rfl⟩
      have bq := qc_le j (qHH (A.1 t).1 (A.1 t).2.1 qIdc (A.1 t).1 j)
      show f_X9_columnWays_b24 (some 51) (nI t) (nI (A.1 t).1) (lN X) (nI j) (nI (1 + qc j (qHH (A.1 t).1 (A.1 t).2.1 qIdc (A.1 t).1 j))) (nI j) h = _
      unfold f_X9_columnWays_b24
      rw [if_pos (by rw [qle (by omega) (by omega)]; omega), nI_l (by omega), lN_mul, nI_1, Nat.add_comm 1]
  · show f_X9_columnWays_b12 (some 51) (nI t) (nI (A.1 t).1) (lN (qProd (A.1 t).1 (fun j => qc j (qHH (A.1 t).1 (A.1 t).2.1 qIdc (A.1 t).1 j) + 1))) (nI (A.1 t).1) h = _
    unfold f_X9_columnWays_b12
    rw [if_pos (by rw [qle (by omega) (by omega)]; omega)]
/-- the model: the first rows stay, row k goes where it is told -/
theorem m_one (m : qM h A) (w : qWA A) (h6 : t < 6) (ht : (A.1 t).1 = n) (hR : (A.1 t).2.1 = R) (hn : n ≤ 12) {k to : Nat} (hk : k < n) (hto : to < 2 * n) (all : Int64) (many : Int32) : ∃ h', qM h' A ∧ qSame qC67 h h' ∧ f_X9_symmetries_l67 (some 51) (nI t) all (nI k) many (nI to) 0 h = some (.inl (if qCnd n R k to then many + 1 else many, nI (to + 1), h')) := by
  obtain ⟨f67, e67⟩ : qArr h 67 12 := by
    obtain ⟨a1, a2, a3, a4, a5, q7⟩ := m
    obtain ⟨a1, a2, a3, a4, a5, a6, a7, a8, a9, b1, b2, b3, b4, b5⟩ := q7
    exact b1
  unfold f_X9_symmetries_l67
  have RR := mLoop_inv (b := fun x : Int32 × mH => f_X9_symmetries_b67 (some 51) (nI t) all (nI k) many (nI to) x.1 x.2) (fun i (s : Int32 × mH) => s.1 = nI i ∧ qM s.2 A ∧ qSame qC67 h s.2 ∧ ∃ f, s.2.2 67 = .inl (12, .inl f) ∧ ∀ e, e < i → f e = nI (2 * e)) k (fun r => ∃ h', r = .inl (if qCnd n R k to then many + 1 else many, nI (to + 1), h') ∧ qM h' A ∧ qSame qC67 h h') (s0 := (0, h)) ⟨rfl, m, qSame.rf, f67, e67, fun e he => absurd he (Nat.not_lt_zero e)⟩ ?_ ?_
  · obtain ⟨r, e, h', rfl, z1, z2⟩ := RR
    exact ⟨h', z1, z2, e⟩
  · rintro i ⟨s1, h1⟩ hi ⟨rfl, m1', sm', f, ef', uf⟩
    have m1 : qM h1 A := m1'
    have sm : qSame qC67 h h1 := sm'
    have ef : h1.2 67 = .inl (12, .inl f) := ef'
    obtain ⟨h2, p2, m2, e2, s2⟩ := m_stW m1 qMf67 ef (i := i) (by omega) (nI (2 * i))
    refine ⟨(nI (i + 1), h2), ?_, rfl, m2, sm.trans (s2.mono fun k z => Or.inl z), _, e2, fun e he => ?_⟩
    · show f_X9_symmetries_b67 (some 51) (nI t) all (nI k) many (nI to) (nI i) h1 = _
      unfold f_X9_symmetries_b67
      rw [if_neg (by rw [qle (by omega) (by omega)]; omega), m1.g67.1, qbind, show (2 : Int32) * nI i = nI (2 * i) by rw [qL2, qI_mul], p2, qbind, nI_1]
    · by_cases z : e = i
      · rw [z, qUps]
      · rw [qUpn z]; exact uf e (by omega)
  · rintro ⟨s1, h1⟩ ⟨rfl, m1', sm', f, ef', uf⟩
    have m1 : qM h1 A := m1'
    have sm : qSame qC67 h h1 := sm'
    have ef : h1.2 67 = .inl (12, .inl f) := ef'
    obtain ⟨h2, p2, m2, e2, s2⟩ := m_stW m1 qMf67 ef (i := k) (by omega) (nI to)
    obtain ⟨h3, m3, s3, -, F3⟩ := m_finds (fx := k + 1) m2 w h6 h6 ht ht hR hR hn (by omega) (c := va_up qIdc k to) e2 (fun e he => by
      by_cases z : e = k
      · rw [z, qUps, qVs]; exact ⟨rfl, hto⟩
      · rw [qUpn z, qVn z]; exact ⟨uf e (by omega), by unfold qIdc; omega⟩)
    have pre : ∀ e, e < k → qOkm n R R (va_up qIdc k to) e = true := fun e he => by
      rw [← qOkm_id n R e]
      exact qOkm_congr n R R fun z hz => qVn (by omega)
    have smm : qSame qC67 h h3 := (sm.trans (s2.mono fun k z => Or.inl z)).trans s3
    have BODY : ∀ b : Int32, f_X9_finds (some 51) (nI t) (nI t) (nI (k + 1)) h2 = some (b, h3) → f_X9_symmetries_b67 (some 51) (nI t) all (nI k) many (nI to) (nI k) h1 = some (.inr (.inl (if b = 0 then many else many + 1, nI (to + 1), h3))) := by
      intro b hb
      unfold f_X9_symmetries_b67
      rw [if_pos (by rw [qle (by omega) (by omega)]; omega), m1.g67.1, qbind, p2, qbind, show nI k + 1 = nI (k + 1) from nI_1 k, hb, qbind, nI_1]
      by_cases z : b = 0
      · rw [if_pos z, if_pos z]
      · rw [if_neg z, if_neg z]
    rcases F3 with ⟨g1, g2⟩ | ⟨r, g1, g2, g3, -⟩
    · refine ⟨_, BODY 0 g1, h3, ?_, m3, smm⟩
      have hc : qCnd n R k to = false := by
        cases hh : qCnd n R k to
        · rfl
        · exfalso
          unfold qCnd at hh
          rw [Bool.and_eq_true] at hh
          obtain ⟨r, hr⟩ := Option.isSome_iff_exists.mp hh.2
          exact g2 ⟨fun e he => by
            by_cases z : e = k
            · rw [z]; exact hh.1
            · exact pre e (by omega), r, hr⟩
      rw [hc]
      rfl
    · refine ⟨_, BODY 1 g1, h3, ?_, m3, smm⟩
      have hc : qCnd n R k to = true := by unfold qCnd; rw [g2 k (by omega), g3]; rfl
      rw [hc]
      rfl
theorem m_many (m : qM h A) (w : qWA A) (h6 : t < 6) (ht : (A.1 t).1 = n) (hR : (A.1 t).2.1 = R) (hn : n ≤ 12) {k : Nat} (hk : k < n) (all : Nat) : ∃ h', qM h' A ∧ qSame qC67 h h' ∧ f_X9_symmetries_l51 (some 51) (nI t) (lN all) (nI k) 0 0 h = some (.inl (lN (all * qc (2 * n) (qCnd n R k)), nI (k + 1), h')) := by
  unfold f_X9_symmetries_l51
  have RR := mLoop_inv (b := fun x : Int32 × Int32 × mH => f_X9_symmetries_b51 (some 51) (nI t) (lN all) (nI k) x.1 x.2.1 x.2.2) (fun to (s : Int32 × Int32 × mH) => s.1 = nI (qc to (qCnd n R k)) ∧ s.2.1 = nI to ∧ qM s.2.2 A ∧ qSame qC67 h s.2.2) (2 * n) (fun r => ∃ h', r = .inl (lN (all * qc (2 * n) (qCnd n R k)), nI (k + 1), h') ∧ qM h' A ∧ qSame qC67 h h') (s0 := (0, 0, h)) ⟨rfl, rfl, m, qSame.rf⟩ ?_ ?_
  · obtain ⟨r, e, h', rfl, z1, z2⟩ := RR
    exact ⟨h', z1, z2, e⟩
  · rintro to ⟨s1, s2, h1⟩ hto ⟨rfl, a2, m1', sm'⟩
    have a2' : s2 = nI to := a2
    subst a2'
    have m1 : qM h1 A := m1'
    have sm : qSame qC67 h h1 := sm'
    obtain ⟨x0, y0, fo, fr, ff, fg, fw, mb, hm⟩ := m1.b
    obtain ⟨h2, m2, s2, E⟩ := m_one m1 w h6 ht hR hn hk hto (lN all) (nI (qc to (qCnd n R k)))
    have hc1 : qc (to + 1) (qCnd n R k) = qc to (qCnd n R k) + (qCnd n R k to).toNat := rfl
    refine ⟨(nI (qc (to + 1) (qCnd n R k)), nI (to + 1), h2), ?_, rfl, rfl, m2, sm.trans s2⟩
    show f_X9_symmetries_b51 (some 51) (nI t) (lN all) (nI k) (nI (qc to (qCnd n R k))) (nI to) h1 = _
    unfold f_X9_symmetries_b51
    rw [mb.orders, qbind, mb.order h6, qbind, (hm t h6).1, ht, show (2 : Int32) * nI n = nI (2 * n) by rw [qL2, qI_mul], if_neg (by rw [qle (by omega) (by omega)]; omega), E, hc1]
    cases qCnd n R k to
    · rfl
    · rw [if_pos rfl, nI_1]; rfl
  · rintro ⟨s1, s2, h1⟩ ⟨rfl, a2, m1', sm'⟩
    have a2' : s2 = nI (2 * n) := a2
    subst a2'
    have m1 : qM h1 A := m1'
    obtain ⟨x0, y0, fo, fr, ff, fg, fw, mb, hm⟩ := m1.b
    have hcl := qc_le (2 * n) (qCnd n R k)
    refine ⟨_, ?_, h1, rfl, m1, sm'⟩
    show f_X9_symmetries_b51 (some 51) (nI t) (lN all) (nI k) (nI (qc (2 * n) (qCnd n R k))) (nI (2 * n)) h1 = _
    unfold f_X9_symmetries_b51
    rw [mb.orders, qbind, mb.order h6, qbind, (hm t h6).1, ht, show (2 : Int32) * nI n = nI (2 * n) by rw [qL2, qI_mul], if_pos (by rw [qle (by omega) (by omega)]; omega), nI_l (by omega), lN_mul, nI_1]
theorem m_sym (m : qM h A) (w : qWA A) (h6 : t < 6) (ht : (A.1 t).1 = n) (hR : (A.1 t).2.1 = R) (hn : n ≤ 12) (X : Nat) : ∃ h', qM h' A ∧ qSame qC67 h h' ∧ f_X9_symmetries_l34 (some 51) (nI t) (lN X) 0 h = some (lN (X * qProd n (fun k => qc (2 * n) (qCnd n R k))), h') := by
  unfold f_X9_symmetries_l34
  have RR := mLoop_inv (b := fun x : Int64 × Int32 × mH => f_X9_symmetries_b34 (some 51) (nI t) x.1 x.2.1 x.2.2) (fun k (s : Int64 × Int32 × mH) => s.1 = lN (X * qProd k (fun k => qc (2 * n) (qCnd n R k))) ∧ s.2.1 = nI k ∧ qM s.2.2 A ∧ qSame qC67 h s.2.2) n (fun r => ∃ h', r = (lN (X * qProd n (fun k => qc (2 * n) (qCnd n R k))), h') ∧ qM h' A ∧ qSame qC67 h h') (s0 := (lN X, 0, h)) ⟨by show lN X = lN (X * 1); rw [Nat.mul_one], rfl, m, qSame.rf⟩ ?_ ?_
  · obtain ⟨r, e, h', rfl, z1, z2⟩ := RR
    exact ⟨h', z1, z2, e⟩
  · rintro k ⟨s1, s2, h1⟩ hk ⟨rfl, a2, m1', sm'⟩
    have a2' : s2 = nI k := a2
    subst a2'
    have m1 : qM h1 A := m1'
    have sm : qSame qC67 h h1 := sm'
    obtain ⟨x0, y0, fo, fr, ff, fg, fw, mb, hm⟩ := m1.b
    obtain ⟨h2, m2, s2, E⟩ := m_many m1 w h6 ht hR hn hk (X * qProd k (fun k => qc (2 * n) (qCnd n R k)))
    refine ⟨(lN (X * qProd k (fun k => qc (2 * n) (qCnd n R k)) * qc (2 * n) (qCnd n R k)), nI (k + 1), h2), ?_, by show lN _ = lN (X * (qProd k _ * _)); rw [Nat.mul_assoc], rfl, m2, sm.trans s2⟩
    show f_X9_symmetries_b34 (some 51) (nI t) (lN (X * qProd k (fun k => qc (2 * n) (qCnd n R k)))) (nI k) h1 = _
    unfold f_X9_symmetries_b34
    rw [mb.orders, qbind, mb.order h6, qbind, (hm t h6).1, ht, if_neg (by rw [qle (by omega) (by omega)]; omega), E]
  · rintro ⟨s1, s2, h1⟩ ⟨rfl, a2, m1', sm'⟩
    have a2' : s2 = nI n := a2
    subst a2'
    have m1 : qM h1 A := m1'
    obtain ⟨x0, y0, fo, fr, ff, fg, fw, mb, hm⟩ := m1.b
    refine ⟨_, ?_, h1, rfl, m1, sm'⟩
    show f_X9_symmetries_b34 (some 51) (nI t) (lN (X * qProd n (fun k => qc (2 * n) (qCnd n R k)))) (nI n) h1 = _
    unfold f_X9_symmetries_b34
    rw [mb.orders, qbind, mb.order h6, qbind, (hm t h6).1, ht, if_pos (by rw [qle (by omega) (by omega)]; omega)]
theorem op_symmetries (I : qI h A) (x : Int32) : qStepL (f_X8_symmetries (some 1) x) (f_X9_symmetries (some 51) x) h := by
  have L := qTb2 I x
  have I0 := I
  obtain ⟨q, m, w⟩ := I
  obtain ⟨x0, y0, fo, fr, ff, fg, fw, mb, hm⟩ := m.b
  rcases L with ⟨l1, l2⟩ | ⟨t, hx, l1, l2⟩
  · refine qStepL.none (r := -1) I0 ?_ ?_
    · unfold f_X8_symmetries; rw [q.is, qbind, l1, qbind, if_pos rfl]
    · unfold f_X9_symmetries; rw [mb.is, qbind, l2, qbind, if_pos rfl]
  · obtain ⟨h6, hx2, h0⟩ := hx
    have cm := x_canMatch q w h6 h6
    obtain ⟨h1, p1, m1, s1⟩ := m_canAsk m w h6 h6
    cases hc : qCm (A.1 t) (A.1 t)
    · rw [hc] at cm p1
      refine qStepL.mk (r := -2) (h1 := h) (h2 := h1) (A' := A) ?_ q qSame.rf ?_ m1 (s1.mono fun k z => by unfold qCM; omega) w
      · unfold f_X8_symmetries; rw [q.is, qbind, l1, qbind, if_neg qne, cm, qbind, qif0]
      · unfold f_X9_symmetries
        rw [mb.is, qbind, l2, qbind, if_neg q10, hx2, p1, qbind]
        show (if qB2I false = 0 then _ else _) = _
        rw [qif0]
    · obtain ⟨c1, c2⟩ := qCm_n hc
      rw [hc] at cm
      obtain ⟨h2, p2, q2, s2⟩ := x_countToItself q w h6 (n := (A.1 t).1) (R := (A.1 t).2.1) rfl rfl h0 c2
      have s2' : qSame qCX h h2 := s2.mono qC33.cx
      have m2 := m.same s2'
      obtain ⟨x2, y2, fo2, fr2, ff2, fg2, fw2, mb2, hm2⟩ := m2.b
      obtain ⟨h3, p3, m3, s3⟩ := m_canAsk m2 w h6 h6
      rw [hc] at p3
      obtain ⟨h4, m4, s4, E4⟩ := m_sym m3 w h6 (n := (A.1 t).1) (R := (A.1 t).2.1) rfl rfl c2 (qProd (A.1 t).1 (fun j => qc j (qHH (A.1 t).1 (A.1 t).2.1 qIdc (A.1 t).1 j) + 1))
      rw [Nat.mul_comm] at E4
      refine qStepL.mk (r := lN (qProd (A.1 t).1 (fun k => qc (2 * (A.1 t).1) (qCnd (A.1 t).1 (A.1 t).2.1 k)) * qProd (A.1 t).1 (fun j => qc j (qHH (A.1 t).1 (A.1 t).2.1 qIdc (A.1 t).1 j) + 1))) (h1 := h2) (h2 := h4) ?_ q2 s2' ?_ m4 ((s3.mono fun k z => by unfold qCM; omega).trans (s4.mono qC67.cm)) w
      · unfold f_X8_symmetries
        rw [q.is, qbind, l1, qbind, if_neg qne, cm, qbind, qif1, show mGR h (some 1) 7 6 = some (some 33) from qGR (by rw [q.1]; decide) q.2.1 rfl, qbind, p2, qbind]
      · unfold f_X9_symmetries
        rw [mb2.is, qbind, m_tab_yes mb2 hm2 w ⟨h6, hx2, h0⟩, qbind, if_neg q10, hx2, p3, qbind]
        show (if qB2I true = 0 then _ else _) = _
        rw [qif1, m_columnWays m3 w h6 h0 c2, qbind, E4]
end QSYM
