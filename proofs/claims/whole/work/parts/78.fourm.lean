/-! PURE: fours, the model's side -/
theorem qMf72 : qMf 72 8 := by unfold qMf; decide
section QFM
variable {h : mH} {A : qA} {m : Nat}
theorem qM.g61 (mm : qM h A) : mGR h (some 51) 8 11 = some (some 61) ∧ mGR h (some 51) 8 24 = some (some 72) := by
  obtain ⟨x0, y0, fo, fr, ff, fg, fw, mb, hm⟩ := mm.b
  exact ⟨qGR (mb.le (by decide)) mb.2.1 rfl, qGR (mb.le (by decide)) mb.2.1 rfl⟩
theorem m_echo (hm : m ∈ qOm) {i y : Nat} (hi : i < qEr m) (hy : y < m) : f_X9_echo (nI (qEw m i)) (nI m) (nI y) = some (qEc m i y) := by
  unfold f_X9_echo f_X9_echo_l5
  exact mLoop_some.mpr ⟨9, qKf4 m hm i hi y hy⟩
theorem m_areFour (mm : qM h A) (hm : m ∈ qOm) {f : Nat → Int32} (e61 : h.2 61 = .inl (4, .inl f)) {a b c d : Nat} (ha : a < qEr m) (hb : b < qEr m) (hc : c < qEr m) (hd : d < qEr m) (f0 : f 0 = nI (qEw m a)) (f1 : f 1 = nI (qEw m b)) (f2 : f 2 = nI (qEw m c)) (f3 : f 3 = nI (qEw m d)) : f_X9_areFour (some 51) (nI m) h = some (qB2I (qGd4 m a b c d)) := by
  obtain ⟨k1, k2, k3, k4, k5, k6, k7⟩ := qKf6 m hm
  rw [← qKf8 hm ha hb hc hd]
  unfold f_X9_areFour f_X9_areFour_l2
  rw [mm.is, qbind]
  have key : ∀ e y, y + e = m → mLoop (fun x : Int32 => f_X9_areFour_b2 (some 51) (nI m) x h) (nI y) = some (qB2I (qAf m a b c d e y)) := by
    intro e
    induction e with
    | zero =>
      intro y hy
      refine mLoop_inr ?_
      show f_X9_areFour_b2 (some 51) (nI m) (nI y) h = _
      unfold f_X9_areFour_b2
      rw [if_pos (by rw [qle (by omega) (by omega)]; omega)]
      rfl
    | succ e ih =>
      intro y hy
      have at4 : ∀ {k : Nat}, k < 4 → mAI h (some 61) (nI k) = some (f k) := fun hk => mm.atW e61 (by decide) (by decide) hk
      have B : ∀ (k w : Nat) (s : Int32), k < 4 → w < qEr m → f k = nI (qEw m w) → f_X9_areFour_b12 (some 51) (nI m) (nI y) s (nI k) h = some (.inl (s + qEc m w y, nI (k + 1))) := by
        intro k w s hk hw hf
        unfold f_X9_areFour_b12
        rw [if_neg (by rw [show (4 : Int32) = nI 4 from rfl, qle (by decide) (by omega)]; omega), mm.g61.1, qbind, at4 hk, qbind, hf, m_echo hm hw (by omega), qbind, nI_1]
      have E : f_X9_areFour_l12 (some 51) (nI m) (nI y) 0 0 h = some (if 0 + qEc m a y + qEc m b y + qEc m c y + qEc m d y = 0 then .inl (nI (y + 1)) else .inr 0) := by
        unfold f_X9_areFour_l12
        rw [mLoop_inl (b := fun x : Int32 × Int32 => f_X9_areFour_b12 (some 51) (nI m) (nI y) x.1 x.2 h) (x := (0, 0)) (B 0 a 0 (by decide) ha f0)]
        rw [mLoop_inl (b := fun x : Int32 × Int32 => f_X9_areFour_b12 (some 51) (nI m) (nI y) x.1 x.2 h) (x := (_, nI 1)) (B 1 b _ (by decide) hb f1)]
        rw [mLoop_inl (b := fun x : Int32 × Int32 => f_X9_areFour_b12 (some 51) (nI m) (nI y) x.1 x.2 h) (x := (_, nI 2)) (B 2 c _ (by decide) hc f2)]
        rw [mLoop_inl (b := fun x : Int32 × Int32 => f_X9_areFour_b12 (some 51) (nI m) (nI y) x.1 x.2 h) (x := (_, nI 3)) (B 3 d _ (by decide) hd f3)]
        refine mLoop_inr ?_
        show f_X9_areFour_b12 (some 51) (nI m) (nI y) (0 + qEc m a y + qEc m b y + qEc m c y + qEc m d y) (nI 4) h = _
        unfold f_X9_areFour_b12
        rw [if_pos (by decide), nI_1]
        by_cases hz : 0 + qEc m a y + qEc m b y + qEc m c y + qEc m d y = 0
        · rw [if_pos hz, if_pos hz]
        · rw [if_neg hz, if_neg hz]
      have E2 : f_X9_areFour_b2 (some 51) (nI m) (nI y) h = some (if 0 + qEc m a y + qEc m b y + qEc m c y + qEc m d y = 0 then .inl (nI (y + 1)) else .inr 0) := by
        unfold f_X9_areFour_b2
        rw [if_neg (by rw [qle (by omega) (by omega)]; omega), E]
      show _ = some (qB2I (if 0 + qEc m a y + qEc m b y + qEc m c y + qEc m d y = 0 then qAf m a b c d e (y + 1) else false))
      by_cases hz : 0 + qEc m a y + qEc m b y + qEc m c y + qEc m d y = 0
      · rw [if_pos hz] at E2 ⊢
        rw [mLoop_inl (b := fun x : Int32 => f_X9_areFour_b2 (some 51) (nI m) x h) E2]
        exact ih (y + 1) (by omega)
      · rw [if_neg hz] at E2 ⊢
        rw [mLoop_inr (b := fun x : Int32 => f_X9_areFour_b2 (some 51) (nI m) x h) E2]
        rfl
  exact key (m - 1) 1 (by omega)
/-- the model's rows stand in cell 72 -/
def qEv (h : mH) (m c : Nat) : Prop := ∃ f, h.2 72 = .inl (8, .inl f) ∧ ∀ i, i < c → f i = nI (qEw m i)
theorem qEv.same {h' : mH} {c : Nat} (l : qEv h m c) (s : qSame (fun k => k = 61) h h') : qEv h' m c := by
  obtain ⟨f, l1, l2⟩ := l
  exact ⟨f, (s.2 _ (by decide)).trans l1, l2⟩
/-- one turn: the four rows of number k are laid, then asked -/
theorem m_fturn (mm : qM h A) (hm : m ∈ qOm) (ev : qEv h m (qEr m)) (i v many : Int32) {k : Nat} (hk : k < qN4 m) (hk2 : k < 4096) : ∃ h', qM h' A ∧ qSame (fun k => k = 61) h h' ∧ ∃ f, h'.2 61 = .inl (4, .inl f) ∧ (∀ z, z < 4 → f z = nI (qEw m (qDg (qEr m) k z))) ∧ f_X9_fours_l119 (some 51) (nI m) i v (nI (qEr m)) many (nI k) (nI k) 3 h = if qGd m k then (if many = i then (mAI h' (some 61) v).bind fun x3 => some (.inr (x3, h')) else some (.inl (many + 1, nI (k + 1), h'))) else some (.inl (many, nI (k + 1), h')) := by
  obtain ⟨k1, k2, k3, k4, k5, k6, k7⟩ := qKf6 m hm
  have hR : 0 < qEr m := k3
  have n0 : ¬ nI (qEr m) = 0 := by rw [qI_zero, qeq (by omega) (by decide)]; omega
  obtain ⟨f, e61⟩ : qArr h 61 4 := mm.2.2.2.2.2.2.2.2.1
  have B : ∀ (h1 : mH) (f1 : Nat → Int32) (l r : Nat), qM h1 A → h1.2 61 = .inl (4, .inl f1) → qEv h1 m (qEr m) → l < 4096 → r < 4 → ∃ h2, f_X9_fours_b119 (some 51) (nI m) i v (nI (qEr m)) many (nI k) (nI l) (nI r) h1 = some (.inl (nI (l / qEr m), nI r + -1, h2)) ∧ qM h2 A ∧ h2.2 61 = .inl (4, .inl (upd f1 r (nI (qEw m (l % qEr m))))) ∧ qEv h2 m (qEr m) ∧ qSame (fun k => k = 61) h1 h2 := by
    intro h1 f1 l r m1 e1 v1 hl hr
    obtain ⟨g, g1, g2⟩ := id v1
    have hlt := Nat.mod_lt l hR
    obtain ⟨h2, p2, m2, e2, s2⟩ := m_stW m1 qMf61 e1 (i := r) hr (nI (qEw m (l % qEr m)))
    refine ⟨h2, ?_, m2, e2, v1.same s2, s2⟩
    unfold f_X9_fours_b119
    rw [if_neg (qpos (by omega)), m1.g61.1, qbind, m1.g61.2, qbind, if_neg n0, qI_rem (by omega) hR (by omega), m1.atW g1 (by decide) (by decide) (by omega), qbind, g2 _ hlt, p2, qbind, if_neg n0, qI_div (by omega) hR (by omega)]
  have dl : ∀ l, l < 4096 → l / qEr m < 4096 := fun l hl => Nat.lt_of_le_of_lt (Nat.div_le_self _ _) hl
  obtain ⟨h1, p1, m1, e1, v1, s1⟩ := B h f k 3 mm e61 ev hk2 (by decide)
  obtain ⟨h2, p2, m2, e2, v2, s2⟩ := B h1 _ (k / qEr m) 2 m1 e1 v1 (dl _ hk2) (by decide)
  obtain ⟨h3, p3, m3, e3, v3, s3⟩ := B h2 _ (k / qEr m / qEr m) 1 m2 e2 v2 (dl _ (dl _ hk2)) (by decide)
  obtain ⟨h4, p4, m4, e4, v4, s4⟩ := B h3 _ (k / qEr m / qEr m / qEr m) 0 m3 e3 v3 (dl _ (dl _ (dl _ hk2))) (by decide)
  have F : ∀ z, z < 4 → (upd (upd (upd (upd f 3 (nI (qEw m (k % qEr m)))) 2 (nI (qEw m (k / qEr m % qEr m)))) 1 (nI (qEw m (k / qEr m / qEr m % qEr m)))) 0 (nI (qEw m (k / qEr m / qEr m / qEr m % qEr m)))) z = nI (qEw m (qDg (qEr m) k z)) := by
    intro z hz
    unfold qDg
    match z, hz with
    | 0, _ => rw [qUps, if_pos rfl]
    | 1, _ => rw [qUpn (by decide), qUps, if_neg (by decide), if_pos rfl]
    | 2, _ => rw [qUpn (by decide), qUpn (by decide), qUps, if_neg (by decide), if_neg (by decide), if_pos rfl]
    | 3, _ => rw [qUpn (by decide), qUpn (by decide), qUpn (by decide), qUps, if_neg (by decide), if_neg (by decide), if_neg (by decide)]
  refine ⟨h4, m4, ((s1.trans s2).trans s3).trans s4, _, e4, F, ?_⟩
  have hA := m_areFour m4 hm e4 (qDg_lt hR k 0) (qDg_lt hR k 1) (qDg_lt hR k 2) (qDg_lt hR k 3) (F 0 (by decide)) (F 1 (by decide)) (F 2 (by decide)) (F 3 (by decide))
  unfold f_X9_fours_l119
  rw [mLoop_inl (b := fun x : Int32 × Int32 × mH => f_X9_fours_b119 (some 51) (nI m) i v (nI (qEr m)) many (nI k) x.1 x.2.1 x.2.2) (x := (nI k, 3, h)) p1]
  rw [mLoop_inl (b := fun x : Int32 × Int32 × mH => f_X9_fours_b119 (some 51) (nI m) i v (nI (qEr m)) many (nI k) x.1 x.2.1 x.2.2) (x := (nI (k / qEr m), nI 3 + -1, h1)) p2]
  rw [mLoop_inl (b := fun x : Int32 × Int32 × mH => f_X9_fours_b119 (some 51) (nI m) i v (nI (qEr m)) many (nI k) x.1 x.2.1 x.2.2) (x := (nI (k / qEr m / qEr m), nI 2 + -1, h2)) p3]
  rw [mLoop_inl (b := fun x : Int32 × Int32 × mH => f_X9_fours_b119 (some 51) (nI m) i v (nI (qEr m)) many (nI k) x.1 x.2.1 x.2.2) (x := (nI (k / qEr m / qEr m / qEr m), nI 1 + -1, h3)) p4]
  rw [mLoop_eq]
  show (f_X9_fours_b119 (some 51) (nI m) i v (nI (qEr m)) many (nI k) (nI (k / qEr m / qEr m / qEr m / qEr m)) (nI 0 + -1) h4).bind _ = _
  unfold f_X9_fours_b119
  rw [if_pos (by decide), show f_X9_areFour (some 51) (nI m) h4 = some (qB2I (qGd m k)) from hA, qbind, nI_1, m4.g61.1]
  cases qGd m k
  · rw [qif0]; rfl
  · rw [qif1, if_pos rfl]
    by_cases hi : many = i
    · rw [if_pos hi, if_pos hi, qbind]
      cases mAI h4 (some 61) v <;> rfl
    · rw [if_neg hi, if_neg hi]; rfl
theorem qN4_I : nI (qEr m) * nI (qEr m) * nI (qEr m) * nI (qEr m) = nI (qN4 m) := by rw [qI_mul, qI_mul, qI_mul]; rfl
theorem qN4_le (hm : m ∈ qOm) : qN4 m ≤ 4096 := by
  obtain ⟨k1, k2, k3, k4, k5, k6, k7⟩ := qKf6 m hm
  unfold qN4
  have h1 : qEr m * qEr m ≤ 8 * 8 := Nat.mul_le_mul k4 k4
  have h2 : qEr m * qEr m * qEr m ≤ 64 * 8 := Nat.mul_le_mul h1 k4
  exact Nat.mul_le_mul h2 k4
/-- the model's turns up to N, while none is the one asked for -/
theorem m_fturns (mm : qM h A) (hm : m ∈ qOm) (ev : qEv h m (qEr m)) (i v : Int32) {N : Nat} (hN : N ≤ qN4 m) (hno : ∀ k, k < N → qGd m k = true → ¬ nI (qc k (qGd m)) = i) {Q : Int32 × mH → Prop} (he : ∀ h', qM h' A → qSame (fun k => k = 61) h h' → ∃ r, f_X9_fours_b96 (some 51) (nI m) i v (nI (qEr m)) (nI (qc N (qGd m))) (nI N) h' = some (.inr r) ∧ Q r) : ∃ r, f_X9_fours_l96 (some 51) (nI m) i v (nI (qEr m)) 0 0 h = some r ∧ Q r := by
  obtain ⟨k1, k2, k3, k4, k5, k6, k7⟩ := qKf6 m hm
  have h4 := qN4_le hm
  unfold f_X9_fours_l96
  refine mLoop_inv (b := fun x : Int32 × Int32 × mH => f_X9_fours_b96 (some 51) (nI m) i v (nI (qEr m)) x.1 x.2.1 x.2.2) (fun k (s : Int32 × Int32 × mH) => s.1 = nI (qc k (qGd m)) ∧ s.2.1 = nI k ∧ qM s.2.2 A ∧ qSame (fun k => k = 61) h s.2.2) N Q (s0 := (0, 0, h)) ⟨rfl, rfl, mm, qSame.rf⟩ ?_ ?_
  · rintro k ⟨f1, ik, h1⟩ hk ⟨rfl, e1, m1', s1'⟩
    have e1' : ik = nI k := e1
    subst e1'
    have m1 : qM h1 A := m1'
    have s1 : qSame (fun k => k = 61) h h1 := s1'
    obtain ⟨h2, m2, s2, f, e2, F, E⟩ := m_fturn m1 hm (ev.same s1) i v (nI (qc k (qGd m))) (k := k) (by omega) (by omega)
    have hc1 : qc (k + 1) (qGd m) = qc k (qGd m) + (qGd m k).toNat := rfl
    show ∃ s', f_X9_fours_b96 (some 51) (nI m) i v (nI (qEr m)) (nI (qc k (qGd m))) (nI k) h1 = some (.inl s') ∧ _
    unfold f_X9_fours_b96
    rw [qN4_I, if_neg (by rw [qle (show qN4 m < 2 ^ 31 by omega) (by omega)]; show ¬ qN4 m ≤ k; omega), E]
    cases hg : qGd m k
    · rw [hg] at hc1
      have hc2 : qc (k + 1) (qGd m) = qc k (qGd m) := hc1
      exact ⟨(_, _, h2), rfl, by rw [hc2], rfl, m2, s1.trans s2⟩
    · rw [hg] at hc1
      have hc2 : qc (k + 1) (qGd m) = qc k (qGd m) + 1 := hc1
      rw [if_pos rfl, if_neg (hno k hk hg), nI_1]
      exact ⟨(_, _, h2), rfl, by rw [hc2], rfl, m2, s1.trans s2⟩
  · rintro ⟨f1, ik, h1⟩ ⟨rfl, e1, m1, s1⟩
    have e1' : ik = nI N := e1
    subst e1'
    exact he h1 m1 s1
theorem m_evens (mm : qM h A) (hm : m ∈ qOm) (i v : Int32) : ∃ h', qM h' A ∧ qEv h' m (qEr m) ∧ qSame (fun k => k = 72) h h' ∧ f_X9_fours_l52 (some 51) (nI m) i v 0 0 h = f_X9_fours_l96 (some 51) (nI m) i v (nI (qEr m)) 0 0 h' := by
  obtain ⟨k1, k2, k3, k4, k5, k6, k7⟩ := qKf6 m hm
  have h27 : 2 ^ m ≤ 2 ^ 7 := Nat.pow_le_pow_right (by decide) k6
  obtain ⟨f, e72⟩ : qArr h 72 8 := mm.2.2.2.2.2.2.2.2.2.2.2.2.2.2.2.2.2.2
  have key : ∀ e w (h1 : mH), w + e = 2 ^ m → qM h1 A → qEv h1 m (qCn m w) → qSame (fun k => k = 72) h h1 → ∃ h', qM h' A ∧ qEv h' m (qEr m) ∧ qSame (fun k => k = 72) h h' ∧ f_X9_fours_l52 (some 51) (nI m) i v (nI (qCn m w)) (nI w) h1 = f_X9_fours_l96 (some 51) (nI m) i v (nI (qEr m)) 0 0 h' := by
    intro e
    induction e with
    | zero =>
      intro w h1 hw m1 v1 s1
      have hw' : w = 2 ^ m := by omega
      subst hw'
      rw [k1] at v1
      refine ⟨h1, m1, v1, s1, ?_⟩
      unfold f_X9_fours_l52
      rw [mLoop_eq]
      show (f_X9_fours_b52 (some 51) (nI m) i v (nI (qCn m (2 ^ m))) (nI (2 ^ m)) h1).bind _ = _
      unfold f_X9_fours_b52
      rw [qI_pow (by omega), if_pos (by rw [qle (by omega) (by omega)]; omega), k1]
      cases f_X9_fours_l96 (some 51) (nI m) i v (nI (qEr m)) 0 0 h1 <;> rfl
    | succ e ih =>
      intro w h1 hw m1 v1 s1
      have hlt : w < 2 ^ m := by omega
      obtain ⟨n1, n2, n3⟩ := qKf5 m hm w hlt
      have hev : f_X9_isEven (nI w) (nI m) = some (qB2I (decide (w ∈ qEl m))) := gEven_ok (qKf3 m hm w hlt)
      by_cases hin : w ∈ qEl m
      · obtain ⟨u1, u2, u3⟩ := n2 hin
        obtain ⟨g, g1, g2⟩ := v1
        obtain ⟨h2, p2, m2, e2, s2⟩ := m_stW m1 qMf72 g1 (i := qCn m w) (by omega) (nI w)
        rw [decide_eq_true hin] at n1 hev
        have n1' : qCn m (w + 1) = qCn m w + 1 := n1
        have E : f_X9_fours_b52 (some 51) (nI m) i v (nI (qCn m w)) (nI w) h1 = some (.inl (nI (qCn m (w + 1)), nI (w + 1), h2)) := by
          unfold f_X9_fours_b52
          rw [qI_pow (by omega), if_neg (by rw [qle (by omega) (by omega)]; omega), hev, qbind, qif1, m1.g61.2, qbind, p2, qbind, nI_1, nI_1, n1']
        obtain ⟨h', a1, a2, a3, a4⟩ := ih (w + 1) h2 (by omega) m2 ⟨_, e2, fun z hz => by
          rw [n1'] at hz
          by_cases hzc : z = qCn m w
          · rw [hzc, qUps, u1]
          · rw [qUpn hzc]; exact g2 z (by omega)⟩ (s1.trans s2)
        refine ⟨h', a1, a2, a3, ?_⟩
        unfold f_X9_fours_l52 at a4 ⊢
        rw [mLoop_inl (b := fun x : Int32 × Int32 × mH => f_X9_fours_b52 (some 51) (nI m) i v x.1 x.2.1 x.2.2) (x := (nI (qCn m w), nI w, h1)) E, a4]
      · rw [decide_eq_false hin] at n1 hev
        have n1' : qCn m (w + 1) = qCn m w := n1
        have E : f_X9_fours_b52 (some 51) (nI m) i v (nI (qCn m w)) (nI w) h1 = some (.inl (nI (qCn m (w + 1)), nI (w + 1), h1)) := by
          unfold f_X9_fours_b52
          rw [qI_pow (by omega), if_neg (by rw [qle (by omega) (by omega)]; omega), hev, qbind, qif0, nI_1, n1']
        obtain ⟨h', a1, a2, a3, a4⟩ := ih (w + 1) h1 (by omega) m1 (by rw [n1']; exact v1) s1
        refine ⟨h', a1, a2, a3, ?_⟩
        unfold f_X9_fours_l52 at a4 ⊢
        rw [mLoop_inl (b := fun x : Int32 × Int32 × mH => f_X9_fours_b52 (some 51) (nI m) i v x.1 x.2.1 x.2.2) (x := (nI (qCn m w), nI w, h1)) E, a4]
  have := key (2 ^ m) 0 h (by omega) mm ⟨f, e72, fun z hz => by rw [k2] at hz; omega⟩ qSame.rf
  rw [k2] at this
  exact this
end QFM
theorem op_fours {h : mH} {A : qA} (I : qI h A) (x i v : Int32) : qStep (f_X8_fours (some 1) x i v) (f_X9_fours (some 51) x i v) h := by
  have I0 := I
  obtain ⟨q, mm, w⟩ := I
  have hx : (¬ x = 1 ∧ ¬ x = 3 ∧ ¬ x = 5 ∧ ¬ x = 7) ∨ ∃ m, m ∈ qOm ∧ x = nI m := by
    by_cases h1 : x = 1
    · exact Or.inr ⟨1, by decide, h1⟩
    by_cases h3 : x = 3
    · exact Or.inr ⟨3, by decide, h3⟩
    by_cases h5 : x = 5
    · exact Or.inr ⟨5, by decide, h5⟩
    by_cases h7 : x = 7
    · exact Or.inr ⟨7, by decide, h7⟩
    exact Or.inl ⟨h1, h3, h5, h7⟩
  rcases hx with ⟨h1, h3, h5, h7⟩ | ⟨m, hm, rfl⟩
  · refine qStep.none (r := -1) I0 ?_ ?_
    · unfold f_X8_fours; rw [q.is, qbind, if_neg h1, if_neg h3, if_neg h5, if_neg h7]
    · unfold f_X9_fours; rw [mm.is, qbind, if_neg h1, if_neg h3, if_neg h5, if_neg h7]
  · have e8 : ∀ h', mIs h' (some 1) 7 = some () → f_X8_fours (some 1) (nI m) i v h' = f_X8_fours_c23 (some 1) (nI m) i v h' := by
      intro h' q'
      unfold f_X8_fours
      rw [q', qbind]
      simp only [qOm, List.mem_cons, List.not_mem_nil, or_false] at hm
      rcases hm with rfl | rfl | rfl | rfl
      · rw [if_pos (by decide)]
      · rw [if_neg (by decide), if_pos (by decide)]
      · rw [if_neg (by decide), if_neg (by decide), if_pos (by decide)]
      · rw [if_neg (by decide), if_neg (by decide), if_neg (by decide), if_pos (by decide)]
    have e9 : ∀ h', mIs h' (some 51) 8 = some () → f_X9_fours (some 51) (nI m) i v h' = f_X9_fours_c21 (some 51) (nI m) i v h' := by
      intro h' q'
      unfold f_X9_fours
      rw [q', qbind]
      simp only [qOm, List.mem_cons, List.not_mem_nil, or_false] at hm
      rcases hm with rfl | rfl | rfl | rfl
      · rw [if_pos (by decide)]
      · rw [if_neg (by decide), if_pos (by decide)]
      · rw [if_neg (by decide), if_neg (by decide), if_pos (by decide)]
      · rw [if_neg (by decide), if_neg (by decide), if_neg (by decide), if_pos (by decide)]
    have g47 : ∀ {h'}, qX h' A → mGR h' (some 1) 7 10 = some (some 47) := fun q' => qGR (by rw [q'.1]; decide) q'.2.1 rfl
    have h4 := qN4_le hm
    obtain ⟨k1, k2, k3, k4, k5, k6, k7⟩ := qKf6 m hm
    have hcl := qc_le (qN4 m) (qGd m)
    by_cases hi : i = -1
    · subst hi
      by_cases hv : v = 0
      · subst hv
        obtain ⟨h1, p1, q1, s1, -⟩ := x_search q hm (-1)
        have s1' : qSame qCX h h1 := s1.mono fun k z => ⟨by omega, by omega⟩
        have m1 := mm.same s1'
        obtain ⟨h2, m2, ev, s2, E⟩ := m_evens m1 hm (-1) 0
        obtain ⟨r, e3, h3, rfl, m3, s3⟩ := m_fturns m2 hm ev (-1) 0 (Nat.le_refl _) (fun k hk _ => qnm2 (by have := qc_le k (qGd m); omega)) (Q := fun r => ∃ h', r = (nI (qc (qN4 m) (qGd m)), h') ∧ qM h' A ∧ qSame (fun k => k = 61) h2 h') (fun h' m' s' => ⟨_, by
          unfold f_X9_fours_b96
          rw [qN4_I, if_pos (by rw [qle (show qN4 m < 2 ^ 31 by omega) (by omega)]; show qN4 m ≤ qN4 m; omega), if_pos rfl], h', rfl, m', s'⟩)
        refine qStep.mk (r := nI (qc (qN4 m) (qGd m))) (h1 := h1) (h2 := h3) ?_ q1 s1' ?_ m3 ((s2.mono fun k z => by unfold qCM; omega).trans (s3.mono fun k z => by unfold qCM; omega)) w
        · rw [e8 h q.is]; unfold f_X8_fours_c23
          rw [if_pos rfl, if_pos rfl, g47 q, qbind, p1, qbind]
        · rw [e9 h1 m1.is]; unfold f_X9_fours_c21
          rw [show f_X9_in 0 0 3 = some 1 by decide, qbind, if_neg q10, if_neg (by decide), if_pos rfl, if_pos (by decide), E, e3]
      · refine qStep.none (r := -1) I0 ?_ ?_
        · rw [e8 h q.is]; unfold f_X8_fours_c23
          rw [if_pos rfl, if_neg hv]
        · rw [e9 h mm.is]; unfold f_X9_fours_c21
          rw [m_in, qbind]
          by_cases hv2 : ¬ v < 0 ∧ ¬ 3 < v
          · rw [decide_eq_true hv2, qif1, if_neg (by decide), if_pos rfl, if_neg (fun z => hv (Int32.le_antisymm z (Int32.not_lt.mp hv2.1)))]
          · rw [decide_eq_false hv2, qif0]
    · rcases qarg i with hn | ⟨u, hu, rfl⟩
      · refine qStep.none (r := -1) I0 ?_ ?_
        · rw [e8 h q.is]; unfold f_X8_fours_c23
          rw [if_neg hi, if_pos hn]
        · rw [e9 h mm.is]; unfold f_X9_fours_c21
          rw [m_in, qbind]
          by_cases hv2 : ¬ v < 0 ∧ ¬ 3 < v
          · have hlt : i < -1 := by
              rcases Int32.lt_or_lt_of_ne hi with z | z
              · exact z
              · exfalso
                rw [Int32.lt_iff_toInt_lt] at hn z
                have a1 : (0 : Int32).toInt = 0 := by decide
                have a2 : (-1 : Int32).toInt = -1 := by decide
                omega
            rw [decide_eq_true hv2, qif1, if_pos hlt]
          · rw [decide_eq_false hv2, qif0]
      · have hlt : ¬ nI u < -1 := fun z => qpos hu (Int32.lt_trans z (by decide))
        by_cases hv2 : ¬ v < 0 ∧ ¬ 3 < v
        · obtain ⟨z, hz, rfl⟩ : ∃ z, z < 4 ∧ v = nI z := by
            rcases qarg v with hv | ⟨z, hz, rfl⟩
            · exact absurd hv hv2.1
            · have := hv2.2
              rw [show (3 : Int32) = nI 3 from rfl, qlt (by decide) hz] at this
              exact ⟨z, by omega, rfl⟩
          obtain ⟨h1, p1, q1, s1, f, e50, F⟩ := x_search q hm (nI u)
          have s1' : qSame qCX h h1 := s1.mono fun k z => ⟨by omega, by omega⟩
          have m1 := mm.same s1'
          obtain ⟨h2, m2, ev, s2, E⟩ := m_evens m1 hm (nI u) (nI z)
          have X8 : ∀ r, (if nI u < nI (qc (qN4 m) (qGd m)) then some (f z, h1) else some (-1, h1)) = some (r, h1) → f_X8_fours (some 1) (nI m) (nI u) (nI z) h = some (r, h1) := by
            intro r hr
            have e47 : h1.2 47 = _ := (Classical.choose_spec (p := fun n : Int32 => h1.2 47 = .inr (4, [.ref 48, .ref 49, .int n, .ref 50])) (by
              obtain ⟨a1, a2, ⟨f3, a3, a3'⟩, a4, ⟨g, a5, a5'⟩, ⟨g2, a6, a6'⟩, q7⟩ := q1
              obtain ⟨a1, a2, a3, a4, ⟨n1, c, d, r, s, a5⟩, a6, a7, a8, a9, ⟨n', c', r', b1⟩, b2, b3, b4, b5, b6, b7, b8, b9, z, c2, c3, c4⟩ := q7
              exact z))
            rw [e8 h q.is]; unfold f_X8_fours_c23
            rw [if_neg hi, if_neg (qpos hu), if_neg hv2.1, if_neg hv2.2, g47 q, qbind, p1, qbind, ← hr]
            by_cases hlt2 : nI u < nI (qc (qN4 m) (qGd m))
            · rw [if_pos hlt2, if_pos hlt2, g47 q1, qbind, qGR (by rw [q1.1]; decide) e47 rfl, qbind, q1.atW e50 (by decide) (by decide) hz, qbind]
            · rw [if_neg hlt2, if_neg hlt2]
          have X9 : ∀ r, f_X9_fours_l96 (some 51) (nI m) (nI u) (nI z) (nI (qEr m)) 0 0 h2 = some r → f_X9_fours (some 51) (nI m) (nI u) (nI z) h1 = some r := by
            intro r hr
            rw [e9 h1 m1.is]; unfold f_X9_fours_c21
            rw [m_in, qbind, decide_eq_true hv2, qif1, if_neg hlt, if_neg hi, E, hr]
          by_cases hex : u < qc (qN4 m) (qGd m)
          · obtain ⟨k0, b1, b2, b3⟩ := qc_ex hex
            obtain ⟨r, e3, h3, rfl, m3, s3⟩ := m_fturns m2 hm ev (nI u) (nI z) (N := k0) (by omega) (fun k hk hg hw => by
              have := qc_lt hg hk
              have := qc_le k (qGd m)
              rw [qeq (by omega) hu] at hw
              omega) (Q := fun r => ∃ h', r = (nI (qEw m (qDg (qEr m) k0 z)), h') ∧ qM h' A ∧ qSame (fun k => k = 61) h2 h') (fun h' m' s' => by
              obtain ⟨h4', m4, s4, f4, e4, F4, E4⟩ := m_fturn m' hm (ev.same s') (nI u) (nI z) (nI (qc k0 (qGd m))) b1 (by omega)
              refine ⟨_, ?_, h4', rfl, m4, s'.trans s4⟩
              unfold f_X9_fours_b96
              rw [qN4_I, if_neg (by rw [qle (show qN4 m < 2 ^ 31 by omega) (by omega)]; show ¬ qN4 m ≤ k0; omega), E4, b2, if_pos rfl, if_pos (by rw [b3]), m4.atW e4 (by decide) (by decide) hz, qbind, F4 z hz])
            refine qStep.mk (r := nI (qEw m (qDg (qEr m) k0 z))) (h1 := h1) (h2 := h3) (X8 _ ?_) q1 s1' (X9 _ e3) m3 ((s2.mono fun k z => by unfold qCM; omega).trans (s3.mono fun k z => by unfold qCM; omega)) w
            rw [if_pos (by rw [qlt hu (by omega)]; exact hex), F k0 b1 b2 (by rw [b3]) z hz]
          · obtain ⟨r, e3, h3, rfl, m3, s3⟩ := m_fturns m2 hm ev (nI u) (nI z) (Nat.le_refl _) (fun k hk hg hw => by
              have := qc_lt hg hk
              have := qc_le k (qGd m)
              rw [qeq (by omega) hu] at hw
              omega) (Q := fun r => ∃ h', r = (-1, h') ∧ qM h' A ∧ qSame (fun k => k = 61) h2 h') (fun h' m' s' => ⟨_, by
              unfold f_X9_fours_b96
              rw [qN4_I, if_pos (by rw [qle (show qN4 m < 2 ^ 31 by omega) (by omega)]; show qN4 m ≤ qN4 m; omega), if_neg hi], h', rfl, m', s'⟩)
            refine qStep.mk (r := -1) (h1 := h1) (h2 := h3) (X8 _ ?_) q1 s1' (X9 _ e3) m3 ((s2.mono fun k z => by unfold qCM; omega).trans (s3.mono fun k z => by unfold qCM; omega)) w
            rw [if_neg (by rw [qlt hu (by omega)]; exact hex)]
        · refine qStep.none (r := -1) I0 ?_ ?_
          · rw [e8 h q.is]; unfold f_X8_fours_c23
            rw [if_neg hi, if_neg (qpos hu)]
            by_cases hv : v < 0
            · rw [if_pos hv]
            · rw [if_neg hv, if_pos (by
                by_cases h3 : 3 < v
                · exact h3
                · exact absurd ⟨hv, h3⟩ hv2)]
          · rw [e9 h mm.is]; unfold f_X9_fours_c21
            rw [m_in, qbind, decide_eq_false hv2, qif0]
