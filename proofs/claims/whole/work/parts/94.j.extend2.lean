/-! PURE: completed, the class's extend -/
section QEY
variable {A : qA} {n cnt : Nat}
theorem qPf.up {c : Nat → Nat} {d x : Nat} (p : qPf n c d) (hd : 1 ≤ d) (hx : x < 2 ^ n) (hq : qNx n cnt c d x = true) : qPf n (va_up c d x) (d + 1) := by
  rw [qNx_at hd, Bool.and_eq_true, decide_eq_true_eq] at hq
  refine ⟨fun e he => ?_, fun b hb a ha => ?_⟩
  · by_cases z : e = d
    · rw [z, qVs]; exact hx
    · rw [qVn z]; exact p.1 e (by omega)
  · by_cases z : b = d
    · rw [z, qVs, qVn (by omega)]; exact hq.2 a (by omega)
    · rw [qVn z, qVn (by omega)]; exact p.2 b (by omega) a ha
/-- rows that follow are words of the list, rising: so many there must be -/
theorem qRanks {c r : Nat → Nat} {N d dd : Nat} (hd : 1 ≤ d) (hcd : cnt ≤ d) (hb : ∀ e, e < d → r e = c e) (hv : ∀ e, d ≤ e → e < d + dd → r e < N ∧ qOkc n cnt r e = true) : ∀ j, j < dd → qNx n cnt c d (r (d + j)) = true ∧ qc (r d) (qNx n cnt c d) + j ≤ qc (r (d + j)) (qNx n cnt c d) ∧ r d ≤ r (d + j) := by
  intro j
  induction j with
  | zero =>
    intro hj
    refine ⟨?_, Nat.le_refl _, Nat.le_refl _⟩
    have := (hv d (Nat.le_refl d) (by omega)).2
    show qOkc n cnt (va_up c d (r d)) d = true
    rw [← this]
    exact qOkc_congr fun e he => by
      by_cases z : e = d
      · rw [z, qVs]
      · rw [qVn z, hb e (by omega)]
  | succ j ih =>
    intro hj
    obtain ⟨i1, i2, i3⟩ := ih (by omega)
    have o := (hv (d + (j + 1)) (by omega) (by omega)).2
    unfold qOkc at o
    rw [Bool.and_eq_true, Bool.or_eq_true, decide_eq_true_eq, decide_eq_true_eq, decide_eq_true_eq, show d + (j + 1) - 1 = d + j by omega] at o
    have hlt : r (d + j) < r (d + (j + 1)) := by rcases o.1 with z | z; omega; exact z
    have q : qNx n cnt c d (r (d + (j + 1))) = true := by
      rw [qNx_at hd, Bool.and_eq_true, Bool.or_eq_true, decide_eq_true_eq, decide_eq_true_eq, decide_eq_true_eq]
      refine ⟨?_, fun i hi => by have := o.2 i (by omega); rw [hb i hi] at this; exact this⟩
      have z := ih (by omega)
      rw [qNx_at hd, Bool.and_eq_true, Bool.or_eq_true, decide_eq_true_eq, decide_eq_true_eq] at z
      rcases z.1.1 with y | y
      · exact Or.inl y
      · exact Or.inr (by omega)
    have := qc_lt i1 hlt
    exact ⟨q, by omega, by omega⟩
theorem x_extend (hn : n ∈ qOn) : ∀ (dd nf d s e : Nat) (c : Nat → Nat) (h : mH) (f31 f32 : Nat → Int32), dd < nf → d + dd = n → 1 ≤ d → cnt ≤ d → qX h A → qPf n c d → h.2 31 = .inl (12, .inl f31) → (∀ i, i < d → f31 i = nI (c i)) → h.2 32 = .inl (1600, .inl f32) → qLs f32 s (2 ^ (n - 1)) (qNx n cnt c d) → e = s + qc (2 ^ (n - 1)) (qNx n cnt c d) → e ≤ qEd12 n d → ∃ h' g31 g32, qX h' A ∧ qSame qC31 h h' ∧ h'.2 31 = .inl (12, .inl g31) ∧ h'.2 32 = .inl (1600, .inl g32) ∧ (∀ p, p < e → g32 p = f32 p) ∧ ((∃ r, qFnd (qOkc n cnt) (2 ^ (n - 1)) dd d c = some r ∧ f_X0_extend nf (some 30) (nI n) (nI d) (nI s) (nI e) h = some (1, h') ∧ ∀ i, i < n → g31 i = nI (r i)) ∨ (qFnd (qOkc n cnt) (2 ^ (n - 1)) dd d c = none ∧ f_X0_extend nf (some 30) (nI n) (nI d) (nI s) (nI e) h = some (0, h') ∧ ∀ i, i < d → g31 i = nI (c i))) := by
  obtain ⟨-, hn0, hn12⟩ := qHad_0 n hn
  have pw : 2 ^ n = 2 ^ (n - 1) * 2 := by rw [← Nat.pow_succ]; congr 1; omega
  have p12 : 2 ^ n ≤ 2 ^ 12 := Nat.pow_le_pow_right (by decide) hn12
  intro dd
  induction dd with
  | zero =>
    intro nf d s e c h f31 f32 hnf hdn hd1 hcd q pf e31 u31 e32 l he hE
    obtain ⟨nf', rfl⟩ : ∃ nf', nf = nf' + 1 := ⟨nf - 1, by omega⟩
    refine ⟨h, f31, f32, q, qSame.rf, e31, e32, fun _ _ => rfl, Or.inl ⟨c, rfl, ?_, fun i hi => u31 i (by omega)⟩⟩
    show f_X0_extend_r (f_X0_extend nf') (some 30) (nI n) (nI d) (nI s) (nI e) h = _
    unfold f_X0_extend_r
    rw [if_pos (by rw [qle (by omega) (by omega)]; omega)]
  | succ dd ih =>
    intro nf d s e c h f31 f32 hnf hdn hd1 hcd q pf e31 u31 e32 l he hE
    obtain ⟨nf', rfl⟩ : ∃ nf', nf = nf' + 1 := ⟨nf - 1, by omega⟩
    have hElt := qEd_lt hn12 (show d ≤ n by omega)
    have hElt2 := qEd_lt hn12 (show d + 1 ≤ n by omega)
    have hEs := qEd_s (n := n) hd1
    generalize hg : (fun t => if qOkc n cnt (va_up c d t) d then qFnd (qOkc n cnt) (2 ^ (n - 1)) dd (d + 1) (va_up c d t) else none) = g
    have gt : ∀ t, g t = if qNx n cnt c d t then qFnd (qOkc n cnt) (2 ^ (n - 1)) dd (d + 1) (va_up c d t) else none := fun t => by rw [← hg]; rfl
    have fnd : qFnd (qOkc n cnt) (2 ^ (n - 1)) (dd + 1) d c = qScan g (2 ^ (n - 1)) 0 := by rw [← hg]; rfl
    have OPEN : ∀ X, f_X0_extend_l22 (f_X0_extend nf') (some 30) (nI n) (nI d) (nI e) (some 32) (nI s) h = X → f_X0_extend (nf' + 1) (some 30) (nI n) (nI d) (nI s) (nI e) h = X := by
      intro X hX
      show f_X0_extend_r (f_X0_extend nf') (some 30) (nI n) (nI d) (nI s) (nI e) h = _
      unfold f_X0_extend_r
      rw [if_neg (by rw [qle (by omega) (by omega)]; omega), if_pos (by rw [show (12 : Int32) = nI 12 from rfl, qlt (by omega) (by decide)]; omega), q.c30.2.2, qbind, hX]
    -- the loop from place i on, words below b having failed
    have LOOP : ∀ (m i b : Nat) (h1 : mH) (k31 k32 : Nat → Int32), i + m = e → s ≤ i → b ≤ 2 ^ (n - 1) → qc b (qNx n cnt c d) = i - s → (∀ t, t < b → g t = none) → qX h1 A → qSame qC31 h h1 → h1.2 31 = .inl (12, .inl k31) → (∀ z, z < d → k31 z = nI (c z)) → h1.2 32 = .inl (1600, .inl k32) → (∀ p, p < e → k32 p = f32 p) → ∃ h' g31 g32, qX h' A ∧ qSame qC31 h h' ∧ h'.2 31 = .inl (12, .inl g31) ∧ h'.2 32 = .inl (1600, .inl g32) ∧ (∀ p, p < e → g32 p = f32 p) ∧ ((∃ r, qScan g (2 ^ (n - 1)) 0 = some r ∧ f_X0_extend_l22 (f_X0_extend nf') (some 30) (nI n) (nI d) (nI e) (some 32) (nI i) h1 = some (1, h') ∧ ∀ z, z < n → g31 z = nI (r z)) ∨ (qScan g (2 ^ (n - 1)) 0 = none ∧ f_X0_extend_l22 (f_X0_extend nf') (some 30) (nI n) (nI d) (nI e) (some 32) (nI i) h1 = some (0, h') ∧ ∀ z, z < d → g31 z = nI (c z))) := by
      intro m
      induction m with
      | zero =>
        intro i b h1 k31 k32 hi hsi hb hqb hnone q1 s1 e311 u311 e321 u321
        refine ⟨h1, k31, k32, q1, s1, e311, e321, u321, Or.inr ⟨?_, ?_, u311⟩⟩
        · have left : ∀ w, b ≤ w → w < 2 ^ (n - 1) → qNx n cnt c d w = false := qc_same hb (by omega)
          cases hs : qScan g (2 ^ (n - 1)) 0 with
          | none => rfl
          | some r =>
            exfalso
            obtain ⟨v, v1, v2, v3, v4⟩ := qScan_some.mp hs
            by_cases z : v < b
            · rw [hnone v z] at v3; cases v3
            · rw [gt, left v (by omega) (by omega)] at v3; cases v3
        · unfold f_X0_extend_l22
          refine mLoop_inr ?_
          show f_X0_extend_b22 (f_X0_extend nf') (some 30) (nI n) (nI d) (nI e) (some 32) (nI i) h1 = _
          unfold f_X0_extend_b22
          rw [if_pos (by rw [qle (by omega) (by omega)]; omega)]
      | succ m ihm =>
        intro i b h1 k31 k32 hi hsi hb hqb hnone q1 s1 e311 u311 e321 u321
        obtain ⟨x, x1, x2, x3⟩ := qc_ex (p := qNx n cnt c d) (n := 2 ^ (n - 1)) (w := i - s) (by omega)
        have hbx : b ≤ x := by
          by_cases z : b ≤ x
          · exact z
          · have := qc_lt x2 (show x < b by omega); omega
        have gap : ∀ w, b ≤ w → w < x → qNx n cnt c d w = false := qc_same hbx (by omega)
        have below : ∀ t, t < x → g t = none := fun t ht => by
          by_cases z : t < b
          · exact hnone t z
          · rw [gt, gap t (by omega) ht]; rfl
        by_cases few : e - i < n - d
        · -- too few are left
          refine ⟨h1, k31, k32, q1, s1, e311, e321, u321, Or.inr ⟨?_, ?_, u311⟩⟩
          · cases hs : qScan g (2 ^ (n - 1)) 0 with
            | none => rfl
            | some r =>
              exfalso
              obtain ⟨v, v1, v2, v3, v4⟩ := qScan_some.mp hs
              have hxv : x ≤ v := by
                by_cases z : x ≤ v
                · exact z
                · rw [below v (by omega)] at v3; cases v3
              have hf : qFnd (qOkc n cnt) (2 ^ (n - 1)) (dd + 1) d c = some r := by rw [fnd]; exact hs
              obtain ⟨rb, rN⟩ := qFnd_below hf
              have rok := qFnd_ok (ok := qOkc n cnt) (fun h => qOkc_congr h) hf
              have RK := qRanks (n := n) hd1 hcd rb (fun e e1 e2 => ⟨rN e e1 e2, rok e e1 e2⟩) dd (by omega)
              have rv : r d = v := by
                rw [gt] at v3
                by_cases y : qNx n cnt c d v = true
                · rw [if_pos y] at v3
                  rw [(qFnd_below v3).1 d (by omega), qVs]
                · rw [if_neg y] at v3; cases v3
              have h2 : i - s ≤ qc (r d) (qNx n cnt c d) := by rw [rv, ← x3]; exact qc_le2 hxv _
              have h3 := qc_lt RK.1 (rN (d + dd) (by omega) (by omega))
              omega
          · unfold f_X0_extend_l22
            refine mLoop_inr ?_
            show f_X0_extend_b22 (f_X0_extend nf') (some 30) (nI n) (nI d) (nI e) (some 32) (nI i) h1 = _
            unfold f_X0_extend_b22
            rw [if_neg (by rw [qle (by omega) (by omega)]; omega), qI_sub (by omega), qI_sub (by omega), if_pos (by rw [qlt (by omega) (by omega)]; exact few)]
        · have fk : k32 i = nI x := by
            rw [u321 i (by omega)]
            have := l x x1 x2
            rw [x3, show s + (i - s) = i by omega] at this
            exact this
          obtain ⟨h2, p2, q2, e312, s2⟩ := x_stW q1 qXf31 e311 (i := d) (by omega) (nI x)
          have e322 : h2.2 32 = .inl (1600, .inl k32) := (s2.2 32 (by decide)).trans e321
          have pf1 := pf.up (cnt := cnt) hd1 (show x < 2 ^ n by omega) x2
          have lenB := qBd_ok hn (show 1 ≤ d + 1 by omega) pf1
          have lenQ : qc (2 ^ (n - 1)) (qNx n cnt (va_up c d x) (d + 1)) ≤ qBd12 n (d + 1) := by
            refine Nat.le_trans (qc_mono fun w _ hw => ?_) lenB
            rw [qNx_at (by omega), Bool.and_eq_true] at hw
            exact hw.2
          have hqx : qc (x + 1) (qNx n cnt c d) = i + 1 - s := by show qc x _ + (qNx n cnt c d x).toNat = _; rw [x2, x3]; show i - s + 1 = _; omega
          have z0 : qc (x + 1) (qNx n cnt (va_up c d x) (d + 1)) = 0 := qc_zero.mpr fun w hw => by rw [qNx_next hd1 hcd x2, decide_eq_false (by omega), Bool.false_and]
          obtain ⟨h3, g32, a1, q3, s3, e323, k3, l3⟩ := x_filter (F := f_X0_extend nf') (d := d) (s := s) (e := e) (x := x) (N := 2 ^ (n - 1)) (n := n) (by omega) (by omega) (by omega) (fun w => qNx_next hd1 hcd x2 w) he (by omega) (nI i) m (i + 1) (x + 1) h2 k32 (by omega) (by omega) (by omega) (by omega) hqx q2 e322 (fun w hw hq => by rw [u321 _ (by have := qc_lt hq hw; omega)]; exact l w hw hq) (fun w hw hq => by
            exfalso
            have := qc_zero.mp z0 w hw
            rw [hq] at this; cases this)
          rw [z0, Nat.add_zero] at a1
          have e313 : h3.2 31 = .inl (12, .inl (upd k31 d (nI x))) := (s3.2 31 (by decide)).trans e312
          obtain ⟨h4, g31', g32', q4, s4, e314, e324, k4, R4⟩ := ih nf' (d + 1) e (e + qc (2 ^ (n - 1)) (qNx n cnt (va_up c d x) (d + 1))) (va_up c d x) h3 _ g32 (by omega) (by omega) (by omega) (by omega) q3 pf1 e313 (fun z hz => by
            by_cases y : z = d
            · rw [y, qUps, qVs]
            · rw [qUpn y, qVn y]; exact u311 z (by omega)) e323 l3 rfl (by omega)
          have s5 : qSame qC31 h h4 := ((s1.trans (s2.mono fun k z => Or.inl z)).trans (s3.mono fun k z => Or.inr z)).trans s4
          have keep : ∀ p, p < e → g32' p = f32 p := fun p hp => by rw [k4 p (by omega), k3 p hp, u321 p hp]
          have BODY : f_X0_extend_b22 (f_X0_extend nf') (some 30) (nI n) (nI d) (nI e) (some 32) (nI i) h1 = f_X0_extend_c114 (f_X0_extend nf') (some 30) (nI n) (nI d) (nI e) (some 32) (nI i) (nI (e + qc (2 ^ (n - 1)) (qNx n cnt (va_up c d x) (d + 1)))) h3 := by
            unfold f_X0_extend_b22
            rw [if_neg (by rw [qle (by omega) (by omega)]; omega), qI_sub (by omega), qI_sub (by omega), if_neg (by rw [qlt (by omega) (by omega)]; exact few), q1.atW e321 (by decide) (by decide) (by omega), qbind, fk, q1.c30.2.1, qbind, p2, qbind, show nI i + 1 = nI (i + 1) from nI_1 i, a1]
          rcases R4 with ⟨r, r1, r2, r3⟩ | ⟨r1, r2, r3⟩
          · refine ⟨h4, g31', g32', q4, s5, e314, e324, keep, Or.inl ⟨r, qScan_some.mpr ⟨x, Nat.zero_le _, by omega, by rw [gt, x2, if_pos rfl]; exact r1, fun v _ hv => below v hv⟩, ?_, r3⟩⟩
            unfold f_X0_extend_l22
            refine mLoop_inr ?_
            show f_X0_extend_b22 (f_X0_extend nf') (some 30) (nI n) (nI d) (nI e) (some 32) (nI i) h1 = _
            rw [BODY]
            unfold f_X0_extend_c114
            rw [show nI d + 1 = nI (d + 1) from nI_1 d, r2, qbind, if_neg (show ¬ (1 : Int32) = 0 by decide)]
          · have I := ihm (i + 1) (x + 1) h4 g31' g32' (by omega) (by omega) (by omega) hqx (fun t ht => by
              by_cases y : t = x
              · rw [y, gt, x2, if_pos rfl]; exact r1
              · exact below t (by omega)) q4 s5 e314 (fun z hz => by rw [r3 z (by omega), qVn (by omega)]) e324 keep
            have E : f_X0_extend_l22 (f_X0_extend nf') (some 30) (nI n) (nI d) (nI e) (some 32) (nI i) h1 = f_X0_extend_l22 (f_X0_extend nf') (some 30) (nI n) (nI d) (nI e) (some 32) (nI (i + 1)) h4 := by
              unfold f_X0_extend_l22
              refine mLoop_inl ?_
              show f_X0_extend_b22 (f_X0_extend nf') (some 30) (nI n) (nI d) (nI e) (some 32) (nI i) h1 = _
              rw [BODY]
              unfold f_X0_extend_c114
              rw [show nI d + 1 = nI (d + 1) from nI_1 d, r2, qbind, if_pos rfl, nI_1]
            rw [E]
            exact I
    obtain ⟨h', g31, g32, b1, b2, b3, b4, b5, b6⟩ := LOOP (e - s) s 0 h f31 f32 (by omega) (Nat.le_refl s) (Nat.zero_le _) (by rw [Nat.sub_self]; rfl) (fun t ht => absurd ht (Nat.not_lt_zero t)) q qSame.rf e31 u31 e32 (fun _ _ => rfl)
    refine ⟨h', g31, g32, b1, b2, b3, b4, b5, ?_⟩
    rw [fnd]
    rcases b6 with ⟨r, r1, r2, r3⟩ | ⟨r1, r2, r3⟩
    · exact Or.inl ⟨r, r1, OPEN _ r2, r3⟩
    · exact Or.inr ⟨r1, OPEN _ r2, r3⟩
end QEY
