/-! PURE: completed, what the class finds -/
theorem x_layRowsL {h : mH} {t : Nat} {T : qT} (q : qXt h t T) {a L : Nat} {f : Nat → Int32} (ha : h.2 a = .inl (L, .inl f)) (hL : L ≤ 28) (ha1 : a ≤ 72) (ha2 : ¬ qIs4 t a) {n : Nat} {R : Nat → Nat} (hn : n ≤ L) (hR : ∀ i, i < n → f i = nI (R i)) : ∃ h', f_X7_layRows (some (3 + 4 * t)) (some a) (nI n) h = some h' ∧ qXt h' t (qNew n R) ∧ qSame (qIs4 t) h h' := by
  obtain ⟨h1, fr1, p1, b1, z1, s1⟩ := x_begin q n
  obtain ⟨bk, bs, bc, ra, rb, fr, fa, fb, hT, hs⟩ := q
  unfold f_X7_layRows
  rw [hT.is, qbind, p1, qbind]
  unfold f_X7_layRows_l7
  refine mLoop_inv (b := fun x : Int32 × mH => f_X7_layRows_b7 (some (3 + 4 * t)) (some a) (nI n) x.1 x.2) (fun k (s : Int32 × mH) => s.1 = nI k ∧ qSame (qIs4 t) h s.2 ∧ ∃ fr', qBg s.2 t n fr' ∧ ∀ i, i < k → fr' i = nI (R i)) n (fun h' => qXt h' t (qNew n R) ∧ qSame (qIs4 t) h h') (s0 := (nI 0, h1)) ⟨rfl, s1, fr1, b1, fun i hi => absurd hi (Nat.not_lt_zero i)⟩ ?_ ?_
  · rintro k ⟨ik, hk⟩ hkn ⟨rfl, sk, fr2, b2, o2⟩
    obtain ⟨h3, p3, b3, s3⟩ := qBg.st (h := hk) b2 (i := k) (by omega) (nI (R k))
    have e : hk.2 a = .inl (L, .inl f) := (sk.2 a ha2).trans ha
    have l : a ≤ hk.1 := by rw [show hk.1 = h.1 from sk.1, hT.2.1]; exact ha1
    refine ⟨(nI (k + 1), h3), ?_, rfl, sk.trans s3, _, b3, fun i hi => ?_⟩
    · show f_X7_layRows_b7 (some (3 + 4 * t)) (some a) (nI n) (nI k) hk = _
      unfold f_X7_layRows_b7
      rw [if_neg (by rw [qle (by omega) (by omega)]; omega), qLn l e, qbind, if_neg (by rw [qle (by omega) (by omega)]; omega), qBg.rows (h := hk) b2, qbind, qAI l e (by omega) (by omega), qbind, hR k hkn, p3, qbind, nI_1]
    · by_cases hik : i = k
      · rw [hik, qUps]
      · rw [qUpn hik]; exact o2 i (by omega)
  · rintro ⟨ik, hk⟩ ⟨rfl, sk, fr2, b2, o2⟩
    refine ⟨hk, ?_, b2.fin (by omega) o2, sk⟩
    show f_X7_layRows_b7 (some (3 + 4 * t)) (some a) (nI n) (nI n) hk = _
    unfold f_X7_layRows_b7
    rw [if_pos (by rw [qle (by omega) (by omega)]; omega)]
section QFD
variable {A : qA} {n : Nat}
theorem qBd_Ed {n d : Nat} (hd : 1 ≤ d) : qBd12 n d ≤ qEd12 n d := by
  unfold qBd12 qEd12
  by_cases h : n ≤ 8
  · rw [if_pos h, if_pos h]; omega
  · rw [if_neg h, if_neg h]
    by_cases h1 : d = 1
    · rw [if_pos h1, if_pos h1]; decide
    · rw [if_neg h1, if_neg h1]
      by_cases h2 : d = 2
      · rw [if_pos h2]; omega
      · rw [if_neg h2]; omega
theorem x_isPerp {h : mH} (q : qX h A) {f31 : Nat → Int32} (e31 : h.2 31 = .inl (12, .inl f31)) {c : Nat → Nat} {k w : Nat} (hk : k ≤ 12) (hn : n ≤ 28) (u : ∀ i, i < k → f31 i = nI (c i) ∧ c i < 2 ^ 28) (hw : w < 2 ^ 28) : f_X0_isPerpendicularToFirst (some 30) (nI w) (nI k) (nI n) h = some (qB2I (decide (∀ i, i < k → qPe n (c i) w = true))) := by
  have B : ∀ j, j < k → f_X0_isPerpendicularToFirst_b3 (some 30) (nI w) (nI k) (nI n) (nI j) h = if qPe n (c j) w = true then some (.inl (nI (j + 1))) else some (.inr 0) := by
    intro j hj
    obtain ⟨u1, u2⟩ := u j hj
    have hx : w ^^^ c j < 2 ^ 28 := Nat.xor_lt_two_pow hw u2
    unfold f_X0_isPerpendicularToFirst_b3
    rw [if_neg (by rw [qle (by omega) (by omega)]; omega), q.c30.2.1, qbind, q.atW e31 (by decide) (by decide) (by omega), qbind, u1, qI_xor, x_signSum (by omega), qbind, nI_1]
    by_cases z : qPe n (c j) w = true
    · rw [if_pos ((qPe_I hn).mpr (by rw [qPe_sym]; exact z)), if_pos z]
    · rw [if_neg (fun y => z (by rw [qPe_sym]; exact (qPe_I hn).mp y)), if_neg z]
  have L : ∀ j r, (∀ i, i < j → i < k ∧ qPe n (c i) w = true) → f_X0_isPerpendicularToFirst_b3 (some 30) (nI w) (nI k) (nI n) (nI j) h = some (.inr r) → f_X0_isPerpendicularToFirst (some 30) (nI w) (nI k) (nI n) h = some r := by
    intro j r hall he
    unfold f_X0_isPerpendicularToFirst f_X0_isPerpendicularToFirst_l3
    rw [q.c30.1, qbind]
    have R := mLoop_inv (b := fun x : Int32 => f_X0_isPerpendicularToFirst_b3 (some 30) (nI w) (nI k) (nI n) x h) (fun k (s : Int32) => s = nI k) j (fun z => z = r) (s0 := nI 0) rfl ?_ ?_
    · obtain ⟨z, h1, rfl⟩ := R
      exact h1
    · rintro i s hi rfl
      refine ⟨nI (i + 1), ?_, rfl⟩
      show f_X0_isPerpendicularToFirst_b3 (some 30) (nI w) (nI k) (nI n) (nI i) h = _
      rw [B i (hall i hi).1, if_pos (hall i hi).2]
    · rintro s rfl
      exact ⟨r, he, rfl⟩
  rcases qLeast (fun i => qPe n (c i) w = true) k with h1 | ⟨j, hj, h1, h2⟩
  · rw [decide_eq_true h1]
    refine L k _ (fun i hi => ⟨hi, h1 i hi⟩) ?_
    unfold f_X0_isPerpendicularToFirst_b3
    rw [if_pos (by rw [qle (by omega) (by omega)]; omega)]; rfl
  · rw [decide_eq_false (fun z => h1 (z j hj))]
    refine L j _ (fun i hi => ⟨by omega, h2 i hi⟩) ?_
    rw [B j hj, if_neg h1]; rfl
def qFR (A : qA) (n cn : Nat) (c : Nat → Nat) (h : mH) (r : Int32 × mH) : Prop := ∃ g31, qX r.2 A ∧ qSame qC31 h r.2 ∧ r.2.2 31 = .inl (12, .inl g31) ∧ ((r.1 = 1 ∧ ∃ rr, qFnd (qOkc n cn) (2 ^ (n - 1)) (n - cn) cn c = some rr ∧ ∀ i, i < n → g31 i = nI (rr i)) ∨ (r.1 = 0 ∧ qFnd (qOkc n cn) (2 ^ (n - 1)) (n - cn) cn c = none))
theorem x_cands (hn : n ∈ qOn) {cn : Nat} (h1 : 1 ≤ cn) (h2 : cn ≤ n) {c : Nat → Nat} (pf : qPf n c cn) {h : mH} (q : qX h A) {f31 : Nat → Int32} (e31 : h.2 31 = .inl (12, .inl f31)) (u31 : ∀ i, i < cn → f31 i = nI (c i)) : ∃ r, f_X0_find_l88 (some 30) (nI n) (nI cn) 0 0 h = some r ∧ qFR A n cn c h r := by
  obtain ⟨-, hn0, hn12⟩ := qHad_0 n hn
  have p12 : 2 ^ (n - 1) ≤ 2 ^ 11 := Nat.pow_le_pow_right (by decide) (by omega)
  have pn : 2 ^ n ≤ 2 ^ 12 := Nat.pow_le_pow_right (by decide) hn12
  obtain ⟨f32, e32⟩ := q.2.2.2.2.2.2.2.2.2.1
  have Qe : ∀ w, qNx n cn c cn w = decide (∀ i, i < cn → qPe n (c i) w = true) := fun w => by rw [qNx_at h1, decide_eq_true (Nat.le_refl cn), Bool.true_or, Bool.true_and]
  have cap : qc (2 ^ (n - 1)) (qNx n cn c cn) ≤ qEd12 n cn := Nat.le_trans (Nat.le_trans (qc_mono fun w _ hw => by rw [← Qe]; exact hw) (qBd_ok hn h1 pf)) (qBd_Ed h1)
  have capl := qEd_lt hn12 h2
  unfold f_X0_find_l88
  refine mLoop_inv (b := fun x : Int32 × Int32 × mH => f_X0_find_b88 (some 30) (nI n) (nI cn) x.1 x.2.1 x.2.2) (fun k (s : Int32 × Int32 × mH) => s.1 = nI (qc k (qNx n cn c cn)) ∧ s.2.1 = nI k ∧ qX s.2.2 A ∧ qSame (fun k => k = 32) h s.2.2 ∧ ∃ g, s.2.2.2 32 = .inl (1600, .inl g) ∧ ∀ w, w < k → qNx n cn c cn w = true → g (0 + qc w (qNx n cn c cn)) = nI w) (2 ^ (n - 1)) (fun r => qFR A n cn c h r) (s0 := (nI 0, nI 0, h)) ⟨rfl, rfl, q, qSame.rf, f32, e32, fun w hw => absurd hw (Nat.not_lt_zero w)⟩ ?_ ?_
  · rintro k ⟨a, b, hk⟩ hkn ⟨rfl, rfl, qk', sk, g, eg', lg⟩
    have qk : qX hk A := qk'
    have eg : hk.2 32 = .inl (1600, .inl g) := eg'
    have e31k : hk.2 31 = .inl (12, .inl f31) := (sk.2 31 (by decide)).trans e31
    have hle := qc_le2 (Nat.le_of_lt hkn) (qNx n cn c cn)
    have P := x_isPerp qk e31k (c := c) (k := cn) (w := k) (n := n) (by omega) (by omega) (fun i hi => ⟨u31 i hi, by have := pf.1 i hi; omega⟩) (by omega)
    rw [← Qe] at P
    have PRE : f_X0_find_b88 (some 30) (nI n) (nI cn) (nI (qc k (qNx n cn c cn))) (nI k) hk = if qB2I (qNx n cn c cn k) = 0 then some (Sum.inl (nI (qc k (qNx n cn c cn)), nI (k + 1), hk)) else (mSI hk (some 32) (nI (qc k (qNx n cn c cn))) (nI k)).bind fun h5 => some (Sum.inl (nI (qc k (qNx n cn c cn)) + 1, nI (k + 1), h5)) := by
      unfold f_X0_find_b88
      rw [qI_m1 hn0, qI_pow (by omega), if_neg (by rw [qle (by omega) (by omega)]; omega), if_neg (by rw [show (1600 : Int32) = nI 1600 from rfl, qle (by decide) (by omega)]; omega), P, qbind, nI_1 k, qk.c30.2.2, qbind]
    cases hq : qNx n cn c cn k
    · have e1 : qc (k + 1) (qNx n cn c cn) = qc k (qNx n cn c cn) := by show qc k (qNx n cn c cn) + (qNx n cn c cn k).toNat = _; rw [hq]; rfl
      refine ⟨(nI (qc k (qNx n cn c cn)), nI (k + 1), hk), ?_, by rw [e1], rfl, qk, sk, g, eg, fun w hw hqw => ?_⟩
      · show f_X0_find_b88 (some 30) (nI n) (nI cn) (nI (qc k (qNx n cn c cn))) (nI k) hk = _
        rw [PRE, hq, qif0]
      · by_cases z : w = k
        · rw [z, hq] at hqw; cases hqw
        · exact lg w (by omega) hqw
    · have e1 : qc (k + 1) (qNx n cn c cn) = qc k (qNx n cn c cn) + 1 := by show qc k (qNx n cn c cn) + (qNx n cn c cn k).toNat = _; rw [hq]; rfl
      obtain ⟨h5, p5, q5, e5, s5⟩ := x_stW qk qXf32 eg (i := qc k (qNx n cn c cn)) (by omega) (nI k)
      refine ⟨(nI (qc (k + 1) (qNx n cn c cn)), nI (k + 1), h5), ?_, rfl, rfl, q5, sk.trans s5, _, e5, fun w hw hqw => ?_⟩
      · show f_X0_find_b88 (some 30) (nI n) (nI cn) (nI (qc k (qNx n cn c cn))) (nI k) hk = _
        rw [PRE, hq, qif1, p5, qbind, e1, nI_1]
      · by_cases z : w = k
        · rw [z, Nat.zero_add, qUps]
        · have := qc_lt hqw (show w < k by omega)
          rw [qUpn (by omega)]; exact lg w (by omega) hqw
  · rintro ⟨a, b, hk⟩ ⟨rfl, rfl, qk', sk, g, eg', lg⟩
    have qk : qX hk A := qk'
    have eg : hk.2 32 = .inl (1600, .inl g) := eg'
    have e31k : hk.2 31 = .inl (12, .inl f31) := (sk.2 31 (by decide)).trans e31
    obtain ⟨h', g31, g32, a1, a2, a3, a4, -, a6⟩ := x_extend hn (n - cn) 20 cn 0 (qc (2 ^ (n - 1)) (qNx n cn c cn)) c hk f31 g (by omega) (by omega) h1 (Nat.le_refl cn) qk pf e31k u31 eg lg (by rw [Nat.zero_add]) cap
    have PRE : ∀ r, (r = 0 ∨ r = 1) → f_X0_extend 20 (some 30) (nI n) (nI cn) (nI 0) (nI (qc (2 ^ (n - 1)) (qNx n cn c cn))) hk = some (r, h') → f_X0_find_b88 (some 30) (nI n) (nI cn) (nI (qc (2 ^ (n - 1)) (qNx n cn c cn))) (nI (2 ^ (n - 1))) hk = some (.inr (r, h')) := by
      intro r hr er
      unfold f_X0_find_b88 f_X0_find_c136
      rw [qI_m1 hn0, qI_pow (by omega), if_pos (by rw [qle (by omega) (by omega)]; omega), qI_zero, er, qbind]
      show Option.map _ (if r = 0 ∨ r = 1 then some (r, h') else none) = _
      rw [if_pos hr]
      rfl
    have ss : qSame qC31 h h' := (sk.mono fun k z => Or.inr z).trans a2
    rcases a6 with ⟨rr, r1, r2, r3⟩ | ⟨r1, r2, r3⟩
    · exact ⟨(1, h'), PRE 1 (Or.inr rfl) r2, g31, a1, ss, a3, Or.inl ⟨rfl, rr, r1, r3⟩⟩
    · exact ⟨(0, h'), PRE 0 (Or.inl rfl) r2, g31, a1, ss, a3, Or.inr ⟨rfl, r1⟩⟩
/-- what the class's find answers -/
def qFF (A : qA) (n : Nat) (h : mH) (r : Int32 × mH) : Prop := (qPf n A.2.1.2 A.2.1.1 ∧ qFR A n (max A.2.1.1 1) (if A.2.1.1 = 0 then va_up A.2.1.2 0 0 else A.2.1.2) h r) ∨ (¬ qPf n A.2.1.2 A.2.1.1 ∧ r.1 = 0 ∧ qX r.2 A ∧ qSame qC31 h r.2)
theorem x_find (hn : n ∈ qOn) {h : mH} (q : qX h A) (w : qWA A) (hk : A.2.1.1 ≤ n) (hf : ∀ i, i < A.2.1.1 → A.2.1.2 i < 2 ^ n) : ∃ r, f_X0_find (some 30) (some 27) (nI A.2.1.1) (nI n) h = some r ∧ qFF A n h r := by
  obtain ⟨-, hn0, hn12⟩ := qHad_0 n hn
  have pn : 2 ^ n ≤ 2 ^ 12 := Nat.pow_le_pow_right (by decide) hn12
  obtain ⟨f27, e27, u27⟩ := q.2.2.2.2.1
  obtain ⟨f31, e31⟩ := q.2.2.2.2.2.2.2.2.1
  unfold f_X0_find
  rw [q.c30.1, qbind, if_neg (by rw [show (12 : Int32) = nI 12 from rfl, qlt (by decide) (by omega)]; omega), if_neg (by rw [qlt (by omega) (by omega)]; omega), qLn (by rw [q.1]; decide) e27, qbind, if_pos (by rw [qle (by omega) (by decide)]; omega)]
  unfold f_X0_find_l22
  -- the body, a row told
  have B : ∀ k hk, k < A.2.1.1 → qX hk A → qSame (fun z => z = 31) h hk → (∃ g, hk.2 31 = .inl (12, .inl g) ∧ ∀ i, i < k → g i = nI (A.2.1.2 i)) → ∃ h7, qX h7 A ∧ qSame (fun z => z = 31) h h7 ∧ (∃ g, h7.2 31 = .inl (12, .inl g) ∧ ∀ i, i < k + 1 → g i = nI (A.2.1.2 i)) ∧ f_X0_find_b22 (some 30) (some 27) (nI A.2.1.1) (nI n) (nI k) hk = if qB2I (decide (∀ i, i < k → qPe n (A.2.1.2 i) (A.2.1.2 k) = true)) = 0 then some (.inr (0, h7)) else some (.inl (nI (k + 1), h7)) := by
    intro k hk hkn qk sk ⟨g, eg, lg⟩
    obtain ⟨h7, p7, q7, e7, s7⟩ := x_stW qk qXf31 eg (i := k) (by omega) (nI (A.2.1.2 k))
    have hfk := hf k hkn
    refine ⟨h7, q7, sk.trans s7, ⟨_, e7, fun i hi => ?_⟩, ?_⟩
    · by_cases z : i = k
      · rw [z, qUps]
      · rw [qUpn z]; exact lg i (by omega)
    · have P := x_isPerp q7 e7 (c := A.2.1.2) (k := k) (w := A.2.1.2 k) (n := n) (by omega) (by omega) (fun i hi => ⟨by rw [qUpn (by omega)]; exact lg i hi, by have := hf i (by omega); omega⟩) (by omega)
      unfold f_X0_find_b22
      rw [if_neg (by rw [qle (by omega) (by omega)]; omega), qk.c30.2.1, qbind, qk.atW ((sk.2 27 (by decide)).trans e27) (by decide) (by decide) (by omega), qbind, u27 k hkn, p7, qbind, q7.c30.2.1, qbind, q7.atW e7 (by decide) (by decide) (by omega), qbind, qUps, P, qbind, nI_1]
  rcases qLeast (fun b => ∀ a, a < b → qPe n (A.2.1.2 a) (A.2.1.2 b) = true) A.2.1.1 with good | ⟨j, hj, bad, before⟩
  · have pf : qPf n A.2.1.2 A.2.1.1 := ⟨hf, good⟩
    refine mLoop_inv (b := fun x : Int32 × mH => f_X0_find_b22 (some 30) (some 27) (nI A.2.1.1) (nI n) x.1 x.2) (fun k (s : Int32 × mH) => s.1 = nI k ∧ qX s.2 A ∧ qSame (fun z => z = 31) h s.2 ∧ ∃ g, s.2.2 31 = .inl (12, .inl g) ∧ ∀ i, i < k → g i = nI (A.2.1.2 i)) A.2.1.1 (fun r => qFF A n h r) (s0 := (nI 0, h)) ⟨rfl, q, qSame.rf, f31, e31, fun i hi => absurd hi (Nat.not_lt_zero i)⟩ ?_ ?_
    · rintro k ⟨a, hk⟩ hkn ⟨rfl, qk, sk, lg⟩
      obtain ⟨h7, q7, s7, l7, E⟩ := B k hk hkn qk sk lg
      refine ⟨(nI (k + 1), h7), ?_, rfl, q7, s7, l7⟩
      show f_X0_find_b22 (some 30) (some 27) (nI A.2.1.1) (nI n) (nI k) hk = _
      rw [E, decide_eq_true (good k hkn), qif1]
    · rintro ⟨a, hk⟩ ⟨rfl, qk', sk, g, eg', lg⟩
      have qk : qX hk A := qk'
      have eg : hk.2 31 = .inl (12, .inl g) := eg'
      by_cases h0 : A.2.1.1 = 0
      · obtain ⟨h3, p3, q3, e3, s3⟩ := x_stW qk qXf31 eg (i := 0) (by decide) (nI 0)
        obtain ⟨r, r1, r2⟩ := x_cands hn (cn := 1) (Nat.le_refl 1) (by omega) (c := va_up A.2.1.2 0 0) ⟨fun e he => by rw [show e = 0 by omega, qVs]; exact Nat.two_pow_pos _, fun b hb a ha => absurd ha (by omega)⟩ q3 e3 (fun i hi => by rw [show i = 0 by omega, qUps, qVs])
        refine ⟨r, ?_, Or.inl ⟨pf, ?_⟩⟩
        · show f_X0_find_b22 (some 30) (some 27) (nI A.2.1.1) (nI n) (nI A.2.1.1) hk = _
          unfold f_X0_find_b22
          rw [if_pos (by rw [qle (by omega) (by omega)]; omega), h0, if_pos (show nI 0 = 0 from rfl), qk.c30.2.1, qbind]
          show ((mSI hk (some 31) (nI 0) (nI 0)).bind _) = _
          rw [p3, qbind]
          show Option.map _ (f_X0_find_l88 (some 30) (nI n) (nI 1) 0 0 h3) = _
          rw [r1]; rfl
        · rw [if_pos h0, h0, show max 0 1 = 1 from rfl]
          obtain ⟨g31, b1, b2, b3, b4⟩ := r2
          exact ⟨g31, b1, ((sk.mono fun k z => Or.inl z).trans (s3.mono fun k z => Or.inl z)).trans b2, b3, b4⟩
      · obtain ⟨r, r1, r2⟩ := x_cands hn (cn := A.2.1.1) (by omega) (by omega) pf qk eg lg
        refine ⟨r, ?_, Or.inl ⟨pf, ?_⟩⟩
        · show f_X0_find_b22 (some 30) (some 27) (nI A.2.1.1) (nI n) (nI A.2.1.1) hk = _
          unfold f_X0_find_b22
          rw [if_pos (by rw [qle (by omega) (by omega)]; omega), if_neg (by rw [qI_zero, qeq (by omega) (by decide)]; exact h0), r1]; rfl
        · rw [if_neg h0, show max A.2.1.1 1 = A.2.1.1 by omega]
          obtain ⟨g31, b1, b2, b3, b4⟩ := r2
          exact ⟨g31, b1, (sk.mono fun k z => Or.inl z).trans b2, b3, b4⟩
  · refine mLoop_inv (b := fun x : Int32 × mH => f_X0_find_b22 (some 30) (some 27) (nI A.2.1.1) (nI n) x.1 x.2) (fun k (s : Int32 × mH) => s.1 = nI k ∧ qX s.2 A ∧ qSame (fun z => z = 31) h s.2 ∧ ∃ g, s.2.2 31 = .inl (12, .inl g) ∧ ∀ i, i < k → g i = nI (A.2.1.2 i)) j (fun r => qFF A n h r) (s0 := (nI 0, h)) ⟨rfl, q, qSame.rf, f31, e31, fun i hi => absurd hi (Nat.not_lt_zero i)⟩ ?_ ?_
    · rintro k ⟨a, hk⟩ hkn ⟨rfl, qk, sk, lg⟩
      obtain ⟨h7, q7, s7, l7, E⟩ := B k hk (by omega) qk sk lg
      refine ⟨(nI (k + 1), h7), ?_, rfl, q7, s7, l7⟩
      show f_X0_find_b22 (some 30) (some 27) (nI A.2.1.1) (nI n) (nI k) hk = _
      rw [E, decide_eq_true (before k hkn), qif1]
    · rintro ⟨a, hk⟩ ⟨rfl, qk, sk, lg⟩
      obtain ⟨h7, q7, s7, l7, E⟩ := B j hk hj qk sk lg
      refine ⟨(0, h7), ?_, Or.inr ⟨fun z => bad (z.2 j hj), rfl, q7, s7.mono fun k z => Or.inl z⟩⟩
      show f_X0_find_b22 (some 30) (some 27) (nI A.2.1.1) (nI n) (nI j) hk = _
      rw [E, decide_eq_false bad, qif0]
end QFD
