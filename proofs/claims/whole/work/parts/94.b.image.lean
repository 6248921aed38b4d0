/-! PURE: image -/
theorem qNth_uniq {p : Nat → Bool} {o o' : Nat} (h1 : p o = true) (h2 : p o' = true) (h : qc o p = qc o' p) : o = o' := by
  rcases Nat.lt_trichotomy o o' with z | z | z
  · have := qc_lt h1 z; omega
  · exact z
  · have := qc_lt h2 z; omega
theorem qCol_ex {n : Nat} {R S c : Nat → Nat} {k : Nat} (hA : qAg n R S c k = true) {j : Nat} (hj : j < n) : ∃ o, o < n ∧ qHT n R S c k j o = true ∧ qc o (fun o => qHT n R S c k j o) = qc j (fun o => qHH n R c k j o) := by
  have h1 : qc j (fun o => qHH n R c k j o) < qc n (fun o => qHH n R c k j o) := qc_lt (p := fun o => qHH n R c k j o) (qHH_rf n R c k j) hj
  unfold qAg at hA
  rw [decide_eq_true_eq] at hA
  rw [hA j hj] at h1
  exact qc_ex h1
theorem qTz_low : ∀ a, a < 4 → ((List.range 1024).all fun b => (decide (1024 * a + b = 0) || decide ((1024 * a + b) &&& (1024 * a + b - 1) = (1024 * a + b) ^^^ 2 ^ qTz (1024 * a + b)))) = true := by decide +kernel
theorem qTz_clear {s : Nat} (h0 : 0 < s) (hs : s < 2 ^ 12) : s &&& (s - 1) = s ^^^ 2 ^ qTz s := by
  have h1 := List.all_eq_true.mp (qTz_low (s / 1024) (by omega)) (s % 1024) (List.mem_range.mpr (Nat.mod_lt _ (by decide)))
  rw [show 1024 * (s / 1024) + s % 1024 = s by omega, Bool.or_eq_true, decide_eq_true_eq, decide_eq_true_eq] at h1
  rcases h1 with h1 | h1
  · omega
  · exact h1
theorem qTz_bit {s : Nat} (h0 : 0 < s) (hs : s < 2 ^ 15) : s.testBit (qTz s) = true ∧ ∀ i, i < qTz s → s.testBit i = false := by
  have h := (qTz_ok h0 hs).2.2.1
  have e : ∀ i, i ≤ qTz s → s.testBit i = decide (qTz s = i) := by
    intro i hi
    have := congrArg (fun x => x.testBit i) h
    simp only [Nat.testBit_mod_two_pow, Nat.testBit_two_pow] at this
    rw [decide_eq_true (show i < qTz s + 1 by omega), Bool.true_and] at this
    exact this
  exact ⟨by rw [e _ (Nat.le_refl _), decide_eq_true rfl], fun i hi => by rw [e i (by omega), decide_eq_false (by omega)]⟩
theorem x_memberOf {G m o : Nat} (hG : G < 2 ^ 12) (ho : G.testBit o = true) (hm : qc o (fun i => G.testBit i) = m) (hm12 : m ≤ 12) : f_X4_memberOf (nI G) (nI m) = some (nI o) := by
  have o12 : o < 12 := by
    by_cases c : o < 12
    · exact c
    · rw [Nat.testBit_lt_two_pow (Nat.lt_of_lt_of_le hG (Nat.pow_le_pow_right (by decide) (by omega)))] at ho; cases ho
  -- members from the i-th on
  let M : Nat → Nat := fun i => qW 12 (fun y => G.testBit y && decide (i ≤ qc y (fun i => G.testBit i)))
  have Mlt : ∀ i, M i < 2 ^ 12 := fun i => qW_lt 12 _
  have Mbit : ∀ i y, (M i).testBit y = (decide (y < 12) && (G.testBit y && decide (i ≤ qc y (fun i => G.testBit i)))) := fun i y => qW_bit 12 _ y
  have Mpos : ∀ i, i ≤ m → 0 < M i := by
    intro i hi
    have : (M i).testBit o = true := by rw [Mbit, decide_eq_true o12, ho, decide_eq_true (by omega)]; rfl
    by_cases z : M i = 0
    · rw [z, Nat.zero_testBit] at this; cases this
    · omega
  have M0 : M 0 = G := by
    symm
    refine qW_ext hG fun i _ => ?_
    rw [decide_eq_true (Nat.zero_le _), Bool.and_true]
  have low : ∀ i, i ≤ m → G.testBit (qTz (M i)) = true ∧ qc (qTz (M i)) (fun i => G.testBit i) = i := by
    intro i hi
    have hlt := Mlt i
    obtain ⟨b1, b2⟩ := qTz_bit (Mpos i hi) (by omega)
    rw [Mbit, Bool.and_eq_true, Bool.and_eq_true, decide_eq_true_eq, decide_eq_true_eq] at b1
    refine ⟨b1.2.1, ?_⟩
    by_cases z : qc (qTz (M i)) (fun i => G.testBit i) = i
    · exact z
    · exfalso
      obtain ⟨y, y1, y2, y3⟩ := qc_ex (p := fun i => G.testBit i) (w := i) (n := qTz (M i)) (by omega)
      have := b2 y y1
      rw [Mbit, decide_eq_true (by omega), y2, y3, decide_eq_true (Nat.le_refl i)] at this
      cases this
  have step : ∀ i, i < m → M i &&& (M i - 1) = M (i + 1) := by
    intro i hi
    obtain ⟨l1, l2⟩ := low i (by omega)
    rw [qTz_clear (Mpos i (by omega)) (Mlt i)]
    apply Nat.eq_of_testBit_eq
    intro y
    rw [Nat.testBit_xor, Mbit, Mbit, Nat.testBit_two_pow]
    by_cases hy : y < 12
    · rw [decide_eq_true hy, Bool.true_and, Bool.true_and]
      cases hg : G.testBit y
      · rw [Bool.false_and, Bool.false_and, decide_eq_false (fun z => by rw [z, hg] at l1; cases l1)]; rfl
      · rw [Bool.true_and, Bool.true_and]
        by_cases e : qTz (M i) = y
        · rw [decide_eq_true e]
          rw [e] at l2
          rw [decide_eq_true (by omega), decide_eq_false (by omega)]; rfl
        · rw [decide_eq_false e, Bool.xor_false, decide_eq_decide]
          have : qc y (fun i => G.testBit i) ≠ i := fun z => e (qNth_uniq (p := fun i => G.testBit i) l1 hg (by rw [l2, z]))
          omega
    · have h12 : qTz (M i) < 12 := by
        by_cases c : qTz (M i) < 12
        · exact c
        · rw [Nat.testBit_lt_two_pow (Nat.lt_of_lt_of_le hG (Nat.pow_le_pow_right (by decide) (by omega)))] at l1; cases l1
      rw [decide_eq_false hy, Bool.false_and, Bool.false_and, decide_eq_false (by omega)]; rfl
  unfold f_X4_memberOf f_X4_memberOf_l4
  have e0 : (nI G, (0 : Int32)) = (fun i => (nI (M i), nI i)) 0 := by show _ = (nI (M 0), nI 0); rw [M0]; rfl
  rw [e0]
  refine mLoop_ends (fun i => (nI (M i), nI i)) m (nI o) (fun i hi => ?_) ?_
  · show f_X4_memberOf_b4 (nI m) (nI (M i)) (nI i) = _
    have hlt := Mlt i
    unfold f_X4_memberOf_b4
    rw [if_neg (by rw [qle (by omega) (by omega)]; omega), qI_m1 (Mpos i (by omega)), qI_and, step i hi, nI_1]
  · show f_X4_memberOf_b4 (nI m) (nI (M m)) (nI m) = _
    have hlt := Mlt m
    unfold f_X4_memberOf_b4
    obtain ⟨l1, l2⟩ := low m (Nat.le_refl m)
    rw [if_pos (by rw [qle (by omega) (by omega)]; omega), (qTz_ok (Mpos m (Nat.le_refl m)) (by omega)).1, qbind, qNth_uniq (p := fun i => G.testBit i) l1 ho (by rw [l2, hm])]
/-- where column j goes: o, signed or not -/
def qCi (n : Nat) (R S c : Nat → Nat) (j o : Nat) : Nat := 2 * o + ((qXw n R c 0).testBit j ^^ (S (c 0 / 2)).testBit o).toNat
section QIM
variable {h : mH} {A : qA} {t u n : Nat} {R S c : Nat → Nat}
theorem x_columnImage (q : qX h A) (w : qWA A) (h6 : t < 6) (h6' : u < 6) (ht : (A.1 t).1 = n) (hu : (A.1 u).1 = n) (hR : (A.1 t).2.1 = R) (hS : (A.1 u).2.1 = S) (h0 : 0 < n) (hn : n ≤ 12) (hc0 : c 0 < 2 * n) (W : qWk h t u n R S c n) {j o : Nat} (hj : j < n) (ho : o < n) (ho1 : qHT n R S c n j o = true) (ho2 : qc o (fun o => qHT n R S c n j o) = qc j (fun o => qHH n R c n j o)) : f_X4_columnImage (some 33) (nI j) h = some (nI (qCi n R S c j o)) := by
  obtain ⟨x0, y0, f34, f35, f36, f37, m, e1, e2, e3⟩ := W
  obtain ⟨g1, g2, g3, g4, g5, g6, g7, g8, g9, g10⟩ := m.g q
  obtain ⟨ex, ey⟩ := e2 h0
  obtain ⟨cc, r, l1, l2, l3, l4⟩ := e3 n (Nat.le_refl n)
  have hcc : cc ≤ n := qLv.le (f35 := f35) (f36 := f36) (f37 := f37) n R hn (fun i hi => (l2 i hi).1) l4
  have h12 : 2 ^ n ≤ 2 ^ 12 := Nat.pow_le_pow_right (by decide) hn
  have P12 : ∀ p : Nat → Bool, qW n p < 2 ^ 12 := fun p => Nat.lt_of_lt_of_le (qW_lt n p) h12
  have hX : qXw n R c 0 < 2 ^ 12 := Nat.lt_of_lt_of_le (qXw_lt n R (fun e he => by have := (w.1 t h6).2.1 e (by omega); rw [hR, ht] at this; exact this) c h0) h12
  have hY : S (c 0 / 2) < 2 ^ 12 := by
    have := (w.1 u h6').2.1 (c 0 / 2) (by omega)
    rw [hS, hu] at this
    omega
  unfold f_X4_columnImage f_X4_columnImage_l10
  have en : nI n * 12 = nI (12 * n) := by rw [show (12 : Int32) = nI 12 from rfl, qI_mul, Nat.mul_comm]
  rw [g1, qbind, g2, qbind, en]
  have pre : ∀ i, i < cc → f_X4_columnImage_b10 (some 33) (nI j) (nI (12 * n)) (nI (12 * n + i)) h = if qHH n R c n (r i) j = true then some (.inr (nI (qCi n R S c j o))) else some (.inl (nI (12 * n + (i + 1)))) := by
    intro i hi
    obtain ⟨a1, a2, a3⟩ := l2 i hi
    have bF := P12 (qHH n R c n (r i))
    unfold f_X4_columnImage_b10
    rw [g10, qbind, g2, qbind, q.atW m.2.2.2.2 (by decide) (by decide) (by omega), qbind, l1, qI_add, if_neg (by rw [qle (by omega) (by omega)]; omega), g8, qbind, q.atW m.2.2.1 (by decide) (by decide) (by omega), qbind, a2, x_inSet (by omega) (by omega), qbind, qW_bit, decide_eq_true hj, Bool.true_and, nI_1]
    cases hh : qHH n R c n (r i) j
    · rw [qif0, if_neg (by decide)]; rfl
    · have eH : ∀ z, qHH n R c n j z = qHH n R c n (r i) z := fun z => qHH_tr n R hh z
      have eT : ∀ z, qHT n R S c n j z = qHT n R S c n (r i) z := fun z => qHT_tr n R S hh z
      have rank : qp (qW n (qHH n R c n (r i)) &&& (2 ^ j - 1)) = qc j (fun o => qHH n R c n j o) := by
        rw [qp_lt (n := j) (Nat.and_lt_two_pow _ (by have := Nat.two_pow_pos j; omega)) (by omega)]
        refine qc_eq fun z hz => ?_
        rw [Nat.testBit_and, qW_bit, Nat.testBit_two_pow_sub_one, decide_eq_true hz, decide_eq_true (show z < n by omega), Bool.true_and, Bool.and_true, eH]
      have hb : qW n (qHH n R c n (r i)) &&& (2 ^ j - 1) < 2 ^ 12 := Nat.lt_of_le_of_lt Nat.and_le_left bF
      have hrk := qc_le j (fun o => qHH n R c n j o)
      have mem := x_memberOf (G := qW n (qHT n R S c n (r i))) (m := qc j (fun o => qHH n R c n j o)) (o := o) (P12 _) (by rw [qW_bit, decide_eq_true ho, Bool.true_and, ← eT]; exact ho1) (by
        rw [← ho2]
        refine qc_eq fun z hz => ?_
        rw [qW_bit, decide_eq_true (show z < n by omega), Bool.true_and, eT]) (by omega)
      have sg : ((nI (qXw n R c 0) >>> (nI j &&& 31)) ^^^ (nI (S (c 0 / 2)) >>> (nI o &&& 31))) &&& 1 = nI (((qXw n R c 0).testBit j ^^ (S (c 0 / 2)).testBit o).toNat) := by
        rw [qI_shr (by omega) (by omega), qI_shr (by omega) (by omega), qI_xor, qI_one, qI_and, Nat.and_one_is_mod]
        congr 1
        have := qI_tb (qXw n R c 0 / 2 ^ j ^^^ S (c 0 / 2) / 2 ^ o) 0
        rw [Nat.pow_zero, Nat.div_one] at this
        rw [this, Nat.testBit_xor, Nat.testBit_div_two_pow, Nat.testBit_div_two_pow, Nat.zero_add, Nat.zero_add]
      rw [qif1, if_pos rfl, qbind, q.atW m.2.2.1 (by decide) (by decide) (by omega), qbind, a2, qI_mask (by omega), qI_and, qJ_bitCount (by omega), qbind, rank, g9, qbind, q.atW m.2.2.2.1 (by decide) (by decide) (by omega), qbind, a3, mem, qbind, g5, qbind, g6, qbind, ex, ey, sg, qL2, qI_mul, qI_add]
      rfl
  obtain ⟨i1, hi1, hh1⟩ := l3 j hj
  rcases qLeast (fun i => ¬ qHH n R c n (r i) j = true) cc with hall | ⟨i0, hi0, hno, hbef⟩
  · exact absurd hh1 (hall i1 hi1)
  · refine mLoop_ends (fun i => nI (12 * n + i)) i0 _ (fun i hi => ?_) ?_
    · show f_X4_columnImage_b10 (some 33) (nI j) (nI (12 * n)) (nI (12 * n + i)) h = _
      rw [pre i (by omega), if_neg (hbef i hi)]
    · show f_X4_columnImage_b10 (some 33) (nI j) (nI (12 * n)) (nI (12 * n + i0)) h = _
      rw [pre i0 hi0, if_pos (Classical.byContradiction hno)]
theorem qHd_eq (hn0 : 0 < n) {j o : Nat} (ho1 : qHT n R S c n j o = true) : (qHe S c n o = qHd n R c n j) ↔ ((qXw n R c 0).testBit j ^^ (S (c 0 / 2)).testBit o) = false := by
  have a := qNd_of (b := qXb n R c) (p := fun e j => (qXw n R c e).testBit j) (g := fun k => qHd n R c k j) (j := j) rfl (fun _ => rfl) (fun _ => rfl) n
  have b := qNd_of (b := qYb S c) (p := fun e j => (S (c e / 2)).testBit j) (g := fun k => qHe S c k o) (j := o) rfl (fun _ => rfl) (fun _ => rfl) n
  have e := (qNd_HT n R S c j o n).mpr ho1
  have lt : qNd (qXb n R c) n j < 2 ^ (n - 1) := by
    have h0 : qXb n R c 0 j = false := by unfold qXb; rw [Bool.xor_self]
    have := qNd_lt (qXb n R c) j h0 (n - 1)
    rw [show n - 1 + 1 = n by omega] at this
    exact this
  have pw : 2 ^ n = 2 ^ (n - 1) * 2 := by rw [← Nat.pow_succ]; congr 1; omega
  have a1 : qHd n R c n j = if (qXw n R c 0).testBit j then 2 ^ n - 1 - qNd (qXb n R c) n j else qNd (qXb n R c) n j := a.1
  have b1 : qHe S c n o = if (S (c 0 / 2)).testBit o then 2 ^ n - 1 - qNd (qYb S c) n o else qNd (qYb S c) n o := b.1
  rw [a1, b1, e]
  cases (qXw n R c 0).testBit j <;> cases (S (c 0 / 2)).testBit o <;> simp <;> omega
/-- the model lays where columns go -/
theorem m_laysColumns (m : qM h A) (h0 : 0 < n) (hn : n ≤ 12) (V : qVk h n R S c n) {z : Nat → Nat} (hz : ∀ j, j < n → z j < n ∧ qHT n R S c n j (z j) = true ∧ qc (z j) (fun o => qHT n R S c n j o) = qc j (fun o => qHH n R c n j o)) : ∃ h', f_X9_laysColumns (some 51) (nI n) h = some h' ∧ qM h' A ∧ qSame (fun k => k = 68) h h' ∧ ∃ f68, h'.2 68 = .inl (12, .inl f68) ∧ ∀ j, j < n → f68 j = nI (qCi n R S c j (z j)) := by
  obtain ⟨f67, f69, f70, v, e1, L0⟩ := V
  have L := L0 n (Nat.le_refl n)
  obtain ⟨f68, e68⟩ : qArr h 68 12 := by
    obtain ⟨a1, a2, a3, a4, a5, q7⟩ := m
    obtain ⟨a1, a2, a3, a4, a5, a6, a7, a8, a9, b1, b2, b3, b4, b5⟩ := q7
    exact b2
  have n12 : 2 ^ n ≤ 2 ^ 12 := Nat.pow_le_pow_right (by decide) hn
  have sym : ∀ {j j' o}, qHT n R S c n j o = true → qHT n R S c n j' o = true → qHH n R c n j j' = true := by
    intro j j' o a b
    rw [qHT_iff] at a b
    rw [qHH_iff]
    exact fun e he => (b e he).symm.trans (a e he)
  unfold f_X9_laysColumns f_X9_laysColumns_l4
  rw [m.is, qbind]
  refine mLoop_inv (b := fun x : Int32 × Int32 × mH => f_X9_laysColumns_b4 (some 51) (nI n) x.1 x.2.1 x.2.2) (fun j (s : Int32 × Int32 × mH) => ∃ g k68, s.1 = nI g ∧ s.2.1 = nI j ∧ g < 2 ^ 12 ∧ (∀ o, g.testBit o = true ↔ ∃ j', j' < j ∧ z j' = o) ∧ qM s.2.2 A ∧ qSame (fun k => k = 68) h s.2.2 ∧ s.2.2.2 68 = .inl (12, .inl k68) ∧ ∀ j', j' < j → k68 j' = nI (qCi n R S c j' (z j'))) n (fun h' => qM h' A ∧ qSame (fun k => k = 68) h h' ∧ ∃ f68, h'.2 68 = .inl (12, .inl f68) ∧ ∀ j, j < n → f68 j = nI (qCi n R S c j (z j))) (s0 := (0, 0, h)) ⟨0, f68, rfl, rfl, by decide, fun o => by
    constructor
    · intro y; rw [Nat.zero_testBit] at y; cases y
    · rintro ⟨j', hj', -⟩; exact absurd hj' (Nat.not_lt_zero j'), m, qSame.rf, e68, fun j' hj' => absurd hj' (Nat.not_lt_zero j')⟩ ?_ ?_
  · rintro j ⟨s1, s2, h1⟩ hj ⟨g, k68, a1, a2, a3, a4, m1', sm', a5', a6⟩
    have a1' : s1 = nI g := a1
    have a2' : s2 = nI j := a2
    subst a1' a2'
    have m1 : qM h1 A := m1'
    have sm : qSame (fun k => k = 68) h h1 := sm'
    have a5 : h1.2 68 = .inl (12, .inl k68) := a5'
    have v69 : h1.2 69 = .inl (156, .inl f69) := (sm.2 _ (by decide)).trans v.2.1
    have v70 : h1.2 70 = .inl (156, .inl f70) := (sm.2 _ (by decide)).trans v.2.2
    obtain ⟨hz1, hz2, hz3⟩ := hz j hj
    have Hd := qHd_ok n R c n j
    have He := fun o => qHe_ok S c n o
    obtain ⟨h2, p2, m2, e2, s2⟩ := m_stW m1 qMf68 a5 (i := j) (by omega) (nI (qCi n R S c j (z j)))
    have N1 : qNd (qXb n R c) n j < 2 ^ 12 := by rw [← Hd.2]; unfold qPn; have := Hd.1; by_cases y : qHd n R c n j ^^^ (2 ^ n - 1) ≤ qHd n R c n j; (rw [if_pos y]; omega); (rw [if_neg y]; omega)
    have N2 : ∀ o, qNd (qYb S c) n o < 2 ^ 12 := fun o => by rw [← (He o).2]; unfold qPn; have := (He o).1; by_cases y : qHe S c n o ^^^ (2 ^ n - 1) ≤ qHe S c n o; (rw [if_pos y]; omega); (rw [if_neg y]; omega)
    -- one place
    have B : ∀ o, o < n → f_X9_laysColumns_b25 (some 51) (nI n) (nI g) (nI j) (nI (qHd n R c n j)) (nI o) h1 = if g.testBit o = false ∧ qHT n R S c n j o = true then (f_X9_laysColumns_c103 (some 51) (nI n) (nI (g ||| 2 ^ o)) (nI j) (some 68) (nI j) (nI (2 * o)) (if qHe S c n o = qHd n R c n j then 0 else 1) h1).map (fun r => Sum.inr r) else some (.inl (nI (o + 1))) := by
      intro o ho
      obtain ⟨L1, L2⟩ := L o ho
      have h2o := (He o).1
      unfold f_X9_laysColumns_b25
      rw [m_has (by omega) (by omega), qbind, nI_1]
      cases hg : g.testBit o
      · rw [qif0, m1.g67.2.2.2, qbind, q12b, m1.atW v70 (by decide) (by decide) (by omega), qbind, L2, m_plain h2o (by omega), qbind, m_plain Hd.1 (by omega), qbind, (He o).2, Hd.2]
        have iff := qNd_HT n R S c j o n
        by_cases y : qNd (qYb S c) n o = qNd (qXb n R c) n j
        · rw [if_pos (by rw [y]), if_pos ⟨rfl, iff.mp y⟩, m1.g67.2.1, qbind, qbind, m1.atW v70 (by decide) (by decide) (by omega), qbind, L2, qI_pow (by omega), qI_or, qL2, qI_mul]
          by_cases x : qHe S c n o = qHd n R c n j
          · rw [if_pos (by rw [x]), if_pos x]
          · rw [if_neg (by have := Hd.1; rw [qeq (by omega) (by omega)]; exact x), if_neg x]
        · rw [if_neg (by have := N2 o; rw [qeq (by omega) (by omega)]; exact y), if_neg (fun x => y (iff.mpr x.2))]
      · rw [qif1, if_neg (fun x => by cases x.1)]
    have before : ∀ o, o < z j → ¬ (g.testBit o = false ∧ qHT n R S c n j o = true) := by
      rintro o ho ⟨y1, y2⟩
      have h1 := qc_lt (p := fun o => qHT n R S c n j o) y2 ho
      rw [hz3] at h1
      obtain ⟨j', j1, j2, j3⟩ := qc_ex h1
      obtain ⟨w1, w2, w3⟩ := hz j' (by omega)
      have same : qHH n R c n j j' = true := j2
      have eT : ∀ x, qHT n R S c n j' x = qHT n R S c n j x := fun x => qHT_tr n R S same x
      have eH : ∀ x, qHH n R c n j' x = qHH n R c n j x := fun x => qHH_tr n R same x
      have w3' : qc (z j') (fun o => qHT n R S c n j o) = qc j' (fun o => qHH n R c n j o) := by
        rw [← qc_eq (fun x _ => eT x), w3]
        exact qc_eq fun x _ => eH x
      have := qNth_uniq (p := fun o => qHT n R S c n j o) (o := z j') (o' := o) (by show qHT n R S c n j (z j') = true; rw [← eT]; exact w2) y2 (by rw [w3', j3])
      have gb := (a4 o).mpr ⟨j', j1, this⟩
      rw [y1] at gb; cases gb
    have free : g.testBit (z j) = false := by
      cases hg : g.testBit (z j)
      · rfl
      · exfalso
        obtain ⟨j', j1, j2⟩ := (a4 (z j)).mp hg
        obtain ⟨w1, w2, w3⟩ := hz j' (by omega)
        rw [j2] at w2 w3
        have same : qHH n R c n j j' = true := sym hz2 w2
        have eT : ∀ x, qHT n R S c n j' x = qHT n R S c n j x := fun x => qHT_tr n R S same x
        have eH : ∀ x, qHH n R c n j' x = qHH n R c n j x := fun x => qHH_tr n R same x
        have w3' : qc (z j) (fun o => qHT n R S c n j o) = qc j' (fun o => qHH n R c n j o) := by
          rw [← qc_eq (fun x _ => eT x), w3]
          exact qc_eq fun x _ => eH x
        have := qc_lt (p := fun o => qHH n R c n j o) same j1
        omega
    have INNER : f_X9_laysColumns_l25 (some 51) (nI n) (nI g) (nI j) (nI (qHd n R c n j)) 0 h1 = some (.inl (nI (g ||| 2 ^ z j), nI (j + 1), h2)) := by
      unfold f_X9_laysColumns_l25
      refine mLoop_ends (fun o => nI o) (z j) _ (fun o ho => ?_) ?_
      · show f_X9_laysColumns_b25 (some 51) (nI n) (nI g) (nI j) (nI (qHd n R c n j)) (nI o) h1 = _
        rw [B o (by omega), if_neg (before o ho)]
      · show f_X9_laysColumns_b25 (some 51) (nI n) (nI g) (nI j) (nI (qHd n R c n j)) (nI (z j)) h1 = _
        rw [B (z j) hz1, if_pos ⟨free, hz2⟩]
        unfold f_X9_laysColumns_c103
        have ev : nI (2 * z j) + (if qHe S c n (z j) = qHd n R c n j then (0 : Int32) else 1) = nI (qCi n R S c j (z j)) := by
          have iff := qHd_eq (n := n) (R := R) (S := S) (c := c) h0 hz2
          unfold qCi
          by_cases x : qHe S c n (z j) = qHd n R c n j
          · rw [if_pos x, iff.mp x]; exact qI_add _ 0
          · rw [if_neg x]
            cases hb : ((qXw n R c 0).testBit j ^^ (S (c 0 / 2)).testBit (z j))
            · exact absurd (iff.mpr hb) x
            · exact qI_add _ 1
        rw [ev, p2, qbind, nI_1]
        rfl
    refine ⟨(nI (g ||| 2 ^ z j), nI (j + 1), h2), ?_, g ||| 2 ^ z j, _, rfl, rfl, Nat.or_lt_two_pow a3 (Nat.pow_lt_pow_right (by decide) (by omega)), fun o => ?_, m2, sm.trans s2, e2, fun j' hj' => ?_⟩
    · show f_X9_laysColumns_b4 (some 51) (nI n) (nI g) (nI j) h1 = _
      unfold f_X9_laysColumns_b4
      rw [if_neg (by rw [qle (by omega) (by omega)]; omega), m1.g67.2.2.1, qbind, q12b, m1.atW v69 (by decide) (by decide) (by omega), qbind, (L j hj).1, INNER]
    · rw [Nat.testBit_or, Bool.or_eq_true, a4 o, Nat.testBit_two_pow, decide_eq_true_eq]
      constructor
      · rintro (⟨j', j1, j2⟩ | y)
        · exact ⟨j', by omega, j2⟩
        · exact ⟨j, by omega, y⟩
      · rintro ⟨j', j1, j2⟩
        by_cases y : j' = j
        · subst y; exact Or.inr j2
        · exact Or.inl ⟨j', by omega, j2⟩
    · by_cases y : j' = j
      · rw [y, qUps]
      · rw [qUpn y]; exact a6 j' (by omega)
  · rintro ⟨s1, s2, h1⟩ ⟨g, k68, a1, a2, a3, a4, m1, sm, a5, a6⟩
    have a2' : s2 = nI n := a2
    subst a2'
    refine ⟨h1, ?_, m1, sm, k68, a5, a6⟩
    show f_X9_laysColumns_b4 (some 51) (nI n) s1 (nI n) h1 = _
    unfold f_X9_laysColumns_b4
    rw [if_pos (by rw [qle (by omega) (by omega)]; omega)]
end QIM
