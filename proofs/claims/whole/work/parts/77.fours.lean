/-! PURE: fours, the class's search -/
def qKp (h0 h : mH) (A : qA) (m : Nat) (wv : Int32) (j : Nat) : Prop := qX h A ∧ qSame (fun k => k = 50) h0 h ∧ ∃ f, h.2 50 = .inl (4, .inl f) ∧ ∀ k, k < j → qGd m k = true → nI (qc k (qGd m)) = wv → ∀ z, z < 4 → f z = nI (qEw m (qDg (qEr m) k z))
section QSR
variable {h0 : mH} {A : qA} {m : Nat} {wv : Int32}
theorem qLd.same {h h' : mH} {m c : Nat} (l : qLd h m c) (s : qSame (fun k => k = 50) h h') : qLd h' m c := by
  obtain ⟨l1, ⟨f, l2, l3⟩, ⟨g, l4, l5⟩⟩ := l
  exact ⟨(s.2 _ (by decide)).trans l1, ⟨f, (s.2 _ (by decide)).trans l2, l3⟩, ⟨g, (s.2 _ (by decide)).trans l4, l5⟩⟩
theorem x_keep {h : mH} (q : qX h A) (l : qLd h m (qEr m)) (hR : qEr m ≤ 8) {a b c d : Nat} (ha : a < qEr m) (hb : b < qEr m) (hc : c < qEr m) (hd : d < qEr m) : ∃ h', f_X5_keep (some 47) (nI a) (nI b) (nI c) (nI d) h = some h' ∧ qX h' A ∧ qSame (fun k => k = 50) h h' ∧ ∃ f, h'.2 50 = .inl (4, .inl f) ∧ f 0 = nI (qEw m a) ∧ f 1 = nI (qEw m b) ∧ f 2 = nI (qEw m c) ∧ f 3 = nI (qEw m d) := by
  obtain ⟨f50, e50⟩ : qArr h 50 4 := by
    obtain ⟨a1, a2, ⟨f3, a3, a3'⟩, a4, ⟨g, a5, a5'⟩, ⟨g2, a6, a6'⟩, q7⟩ := q
    obtain ⟨a1, a2, a3, a4, ⟨n1, c, d, r, s, a5⟩, a6, a7, a8, a9, ⟨n', c', r', b1⟩, b2, b3, b4, b5, b6, b7, b8, b9, z, c2, c3, c4⟩ := q7
    exact c4
  have hle : ∀ {h' : mH}, qX h' A → ∀ a, a ≤ 72 → a ≤ h'.1 := fun q' a ha => by rw [q'.1]; exact ha
  have A1 : ∀ {h' : mH}, qX h' A → qLd h' m (qEr m) → mGR h' (some 47) 4 3 = some (some 50) ∧ mGR h' (some 47) 4 0 = some (some 48) ∧ ∀ i, i < qEr m → mAI h' (some 48) (nI i) = some (nI (qEw m i)) := by
    intro h' q' l'
    obtain ⟨l1, ⟨f, l2, l3⟩, -⟩ := l'
    exact ⟨qGR (hle q' _ (by decide)) l1 rfl, qGR (hle q' _ (by decide)) l1 rfl, fun i hi => by rw [qAI (hle q' _ (by decide)) l2 (by decide) (by omega), l3 i hi]⟩
  obtain ⟨h1, p1, q1, e1, s1⟩ := x_stW q qXf50 e50 (i := 0) (by decide) (nI (qEw m a))
  have l1 := l.same s1
  obtain ⟨h2, p2, q2, e2, s2⟩ := x_stW q1 qXf50 e1 (i := 1) (by decide) (nI (qEw m b))
  have l2 := l1.same s2
  obtain ⟨h3, p3, q3, e3, s3⟩ := x_stW q2 qXf50 e2 (i := 2) (by decide) (nI (qEw m c))
  have l3 := l2.same s3
  obtain ⟨h4, p4, q4, e4, s4⟩ := x_stW q3 qXf50 e3 (i := 3) (by decide) (nI (qEw m d))
  obtain ⟨a1, a2, a3⟩ := A1 q l
  obtain ⟨b1, b2, b3⟩ := A1 q1 l1
  obtain ⟨c1, c2, c3⟩ := A1 q2 l2
  obtain ⟨d1, d2, d3⟩ := A1 q3 l3
  refine ⟨h4, ?_, q4, ((s1.trans s2).trans s3).trans s4, _, e4, ?_, ?_, ?_, ?_⟩
  · unfold f_X5_keep
    rw [qIs (hle q _ (by decide)) l.1, qbind, a1, qbind, a2, qbind, a3 a ha, qbind, show mSI h (some 50) 0 (nI (qEw m a)) = some h1 from p1, qbind, b1, qbind, b2, qbind, b3 b hb, qbind, show mSI h1 (some 50) 1 (nI (qEw m b)) = some h2 from p2, qbind, c1, qbind, c2, qbind, c3 c hc, qbind, show mSI h2 (some 50) 2 (nI (qEw m c)) = some h3 from p3, qbind, d1, qbind, d2, qbind, d3 d hd, qbind, show mSI h3 (some 50) 3 (nI (qEw m d)) = some h4 from p4, qbind]
  · rw [qUpn (by decide), qUpn (by decide), qUpn (by decide), qUps]
  · rw [qUpn (by decide), qUpn (by decide), qUps]
  · rw [qUpn (by decide), qUps]
  · rw [qUps]
theorem x_sr4 (hm : m ∈ qOm) (l0 : qLd h0 m (qEr m)) {a b c : Nat} (ha : a < qEr m) (hb : b < qEr m) (hc : c < qEr m) {h : mH} (K : qKp h0 h A m wv (((a * qEr m + b) * qEr m + c) * qEr m)) : ∃ h', f_X5_search_l71 (some 47) wv (nI (qc (((a * qEr m + b) * qEr m + c) * qEr m) (qGd m))) (nI a) (nI b) (nI c) (qSh m a + qSh m b + qSh m c) 0 h = some (.inl (nI (qc (((a * qEr m + b) * qEr m + (c + 1)) * qEr m) (qGd m)), nI (c + 1), h')) ∧ qKp h0 h' A m wv (((a * qEr m + b) * qEr m + (c + 1)) * qEr m) := by
  obtain ⟨k1, k2, k3, k4, k5, k6, k7⟩ := qKf6 m hm
  generalize hj : ((a * qEr m + b) * qEr m + c) * qEr m = j at K
  have hj2 : ((a * qEr m + b) * qEr m + (c + 1)) * qEr m = j + qEr m := by
    rw [← hj, ← Nat.add_assoc, Nat.succ_mul]
  have hbig : j + qEr m ≤ 4096 := by
    have h1 : a * qEr m + b < 8 * 8 := by
      have : a * qEr m + qEr m ≤ qEr m * qEr m := by rw [← Nat.succ_mul]; exact Nat.mul_le_mul_right _ ha
      have : qEr m * qEr m ≤ 8 * 8 := Nat.mul_le_mul k4 k4
      omega
    have h2 : (a * qEr m + b) * qEr m + qEr m ≤ 64 * 8 := by rw [← Nat.succ_mul]; exact Nat.mul_le_mul (by omega) k4
    have h3 : ((a * qEr m + b) * qEr m + c) * qEr m + qEr m ≤ 512 * 8 := by rw [← Nat.succ_mul]; exact Nat.mul_le_mul (by omega) k4
    rw [hj] at h3
    omega
  rw [hj2]
  unfold f_X5_search_l71
  have R := mLoop_inv (b := fun x : Int32 × Int32 × mH => f_X5_search_b71 (some 47) wv (nI a) (nI b) (nI c) (qSh m a + qSh m b + qSh m c) x.1 x.2.1 x.2.2) (fun d (s : Int32 × Int32 × mH) => s.1 = nI (qc (j + d) (qGd m)) ∧ s.2.1 = nI d ∧ qKp h0 s.2.2 A m wv (j + d)) (qEr m) (fun r => ∃ h', r = .inl (nI (qc (j + qEr m) (qGd m)), nI (c + 1), h') ∧ qKp h0 h' A m wv (j + qEr m)) (s0 := (nI (qc j (qGd m)), 0, h)) ⟨rfl, rfl, K⟩ ?_ ?_
  · obtain ⟨r, e1, h', rfl, e2⟩ := R
    exact ⟨h', e1, e2⟩
  · rintro d ⟨f1, id, h1⟩ hd ⟨rfl, e1, q1', s1', f, e50', u⟩
    have e1' : id = nI d := e1
    subst e1'
    have q1 : qX h1 A := q1'
    have s1 : qSame (fun k => k = 50) h0 h1 := s1'
    have e50 : h1.2 50 = .inl (4, .inl f) := e50'
    have l1 := l0.same s1
    obtain ⟨l47, -, ⟨g, l4, l5⟩⟩ := id l1
    obtain ⟨g0, g1, g2, g3⟩ := qDg_at ha hb hc hd
    rw [hj] at g0 g1 g2 g3
    have hgd : qGd m (j + d) = decide (qSh m a + qSh m b + qSh m c + qSh m d = 0) := by
      unfold qGd qGd4
      rw [g0, g1, g2, g3]
    have hle : ∀ a, a ≤ 72 → a ≤ h1.1 := fun a ha => by rw [q1.1]; exact ha
    have hc1 : qc (j + (d + 1)) (qGd m) = qc (j + d) (qGd m) + (qGd m (j + d)).toNat := rfl
    have hcl := qc_le (j + d) (qGd m)
    show ∃ s', f_X5_search_b71 (some 47) wv (nI a) (nI b) (nI c) (qSh m a + qSh m b + qSh m c) (nI (qc (j + d) (qGd m))) (nI d) h1 = some (.inl s') ∧ _
    unfold f_X5_search_b71
    rw [qGI (hle _ (by decide)) l47 rfl, qbind, if_neg (by rw [qle (by omega) (by omega)]; omega), qGR (hle _ (by decide)) l47 rfl, qbind, qAI (hle _ (by decide)) l4 (by decide) (by omega), qbind, l5 d hd]
    by_cases hz : qSh m a + qSh m b + qSh m c + qSh m d = 0
    · rw [decide_eq_true hz] at hgd
      rw [hgd] at hc1
      have hc2 : qc (j + (d + 1)) (qGd m) = qc (j + d) (qGd m) + 1 := hc1
      rw [if_pos hz]
      by_cases hw : nI (qc (j + d) (qGd m)) = wv
      · obtain ⟨h2, p2, q2, s2, f2, e2, y0, y1, y2, y3⟩ := x_keep q1 l1 k4 ha hb hc hd
        rw [if_pos hw, p2, qbind, nI_1, nI_1]
        refine ⟨_, rfl, by rw [hc2], rfl, q2, s1.trans s2, f2, e2, fun k hk hg hkw z hz => ?_⟩
        by_cases hkd : k = j + d
        · subst hkd
          match z, hz with
          | 0, _ => rw [g0]; exact y0
          | 1, _ => rw [g1]; exact y1
          | 2, _ => rw [g2]; exact y2
          | 3, _ => rw [g3]; exact y3
        · exfalso
          have h3 := qc_lt hg (show k < j + d by omega)
          rw [← hw, qeq (by omega) (by omega)] at hkw
          omega
      · rw [if_neg hw, nI_1, nI_1]
        refine ⟨_, rfl, by rw [hc2], rfl, q1, s1, f, e50, fun k hk hg hkw z hz => ?_⟩
        by_cases hkd : k = j + d
        · subst hkd; exact absurd hkw hw
        · exact u k (by omega) hg hkw z hz
    · rw [decide_eq_false hz] at hgd
      rw [hgd] at hc1
      have hc2 : qc (j + (d + 1)) (qGd m) = qc (j + d) (qGd m) := hc1
      rw [if_neg hz, nI_1]
      refine ⟨_, rfl, by rw [hc2], rfl, q1, s1, f, e50, fun k hk hg hkw z hz => ?_⟩
      by_cases hkd : k = j + d
      · subst hkd; rw [hgd] at hg; cases hg
      · exact u k (by omega) hg hkw z hz
  · rintro ⟨f1, id, h1⟩ ⟨rfl, e1, K1⟩
    have e1' : id = nI (qEr m) := e1
    subst e1'
    refine ⟨_, ?_, h1, rfl, K1⟩
    have l1 := l0.same K1.2.1
    show f_X5_search_b71 (some 47) wv (nI a) (nI b) (nI c) (qSh m a + qSh m b + qSh m c) (nI (qc (j + qEr m) (qGd m))) (nI (qEr m)) h1 = _
    unfold f_X5_search_b71
    rw [qGI (by rw [K1.1.1]; decide) l1.1 rfl, qbind, if_pos (by rw [qle (by omega) (by omega)]; omega), nI_1]
theorem x_sr3 (hm : m ∈ qOm) (l0 : qLd h0 m (qEr m)) {a b : Nat} (ha : a < qEr m) (hb : b < qEr m) {h : mH} (K : qKp h0 h A m wv (((a * qEr m + b) * qEr m) * qEr m)) : ∃ h', f_X5_search_l34 (some 47) wv (nI (qc (((a * qEr m + b) * qEr m) * qEr m) (qGd m))) (nI a) (nI b) 0 h = some (.inl (nI (qc (((a * qEr m + (b + 1)) * qEr m) * qEr m) (qGd m)), nI (b + 1), h')) ∧ qKp h0 h' A m wv (((a * qEr m + (b + 1)) * qEr m) * qEr m) := by
  obtain ⟨k1, k2, k3, k4, k5, k6, k7⟩ := qKf6 m hm
  unfold f_X5_search_l34
  have R := mLoop_inv (b := fun x : Int32 × Int32 × mH => f_X5_search_b34 (some 47) wv (nI a) (nI b) x.1 x.2.1 x.2.2) (fun c (s : Int32 × Int32 × mH) => s.1 = nI (qc (((a * qEr m + b) * qEr m + c) * qEr m) (qGd m)) ∧ s.2.1 = nI c ∧ qKp h0 s.2.2 A m wv (((a * qEr m + b) * qEr m + c) * qEr m)) (qEr m) (fun r => ∃ h', r = .inl (nI (qc (((a * qEr m + (b + 1)) * qEr m) * qEr m) (qGd m)), nI (b + 1), h') ∧ qKp h0 h' A m wv (((a * qEr m + (b + 1)) * qEr m) * qEr m)) (s0 := (nI (qc (((a * qEr m + b) * qEr m) * qEr m) (qGd m)), 0, h)) ⟨rfl, rfl, K⟩ ?_ ?_
  · obtain ⟨r, e1, h', rfl, e2⟩ := R
    exact ⟨h', e1, e2⟩
  · rintro c ⟨f1, ic, h1⟩ hc ⟨rfl, e1, K1'⟩
    have e1' : ic = nI c := e1
    subst e1'
    have K1 : qKp h0 h1 A m wv (((a * qEr m + b) * qEr m + c) * qEr m) := K1'
    obtain ⟨l47, -, ⟨g, l4, l5⟩⟩ := l0.same K1.2.1
    have hle : ∀ a, a ≤ 72 → a ≤ h1.1 := fun a ha => by rw [K1.1.1]; exact ha
    obtain ⟨h2, p2, K2⟩ := x_sr4 hm l0 ha hb hc K1
    refine ⟨(_, _, h2), ?_, rfl, rfl, K2⟩
    show f_X5_search_b34 (some 47) wv (nI a) (nI b) (nI (qc (((a * qEr m + b) * qEr m + c) * qEr m) (qGd m))) (nI c) h1 = _
    unfold f_X5_search_b34
    rw [qGI (hle _ (by decide)) l47 rfl, qbind, if_neg (by rw [qle (by omega) (by omega)]; omega), qGR (hle _ (by decide)) l47 rfl, qbind, qAI (hle _ (by decide)) l4 (by decide) (by omega), qbind, qbind, qAI (hle _ (by decide)) l4 (by decide) (by omega), qbind, qbind, qAI (hle _ (by decide)) l4 (by decide) (by omega), qbind, l5 a ha, l5 b hb, l5 c hc, p2]
    rfl
  · rintro ⟨f1, ic, h1⟩ ⟨rfl, e1, K1'⟩
    have e1' : ic = nI (qEr m) := e1
    subst e1'
    have K1 : qKp h0 h1 A m wv (((a * qEr m + b) * qEr m + qEr m) * qEr m) := K1'
    have ee : (a * qEr m + b) * qEr m + qEr m = (a * qEr m + (b + 1)) * qEr m := by rw [← Nat.succ_mul]; rfl
    rw [ee] at K1
    refine ⟨_, ?_, h1, rfl, K1⟩
    have l1 := l0.same K1.2.1
    show f_X5_search_b34 (some 47) wv (nI a) (nI b) (nI (qc (((a * qEr m + b) * qEr m + qEr m) * qEr m) (qGd m))) (nI (qEr m)) h1 = _
    unfold f_X5_search_b34
    rw [qGI (by rw [K1.1.1]; decide) l1.1 rfl, qbind, if_pos (by rw [qle (by omega) (by omega)]; omega), nI_1, ee]
theorem x_sr2 (hm : m ∈ qOm) (l0 : qLd h0 m (qEr m)) {a : Nat} (ha : a < qEr m) {h : mH} (K : qKp h0 h A m wv (((a * qEr m) * qEr m) * qEr m)) : ∃ h', f_X5_search_l22 (some 47) wv (nI (qc (((a * qEr m) * qEr m) * qEr m) (qGd m))) (nI a) 0 h = some (.inl (nI (qc ((((a + 1) * qEr m) * qEr m) * qEr m) (qGd m)), nI (a + 1), h')) ∧ qKp h0 h' A m wv ((((a + 1) * qEr m) * qEr m) * qEr m) := by
  obtain ⟨k1, k2, k3, k4, k5, k6, k7⟩ := qKf6 m hm
  unfold f_X5_search_l22
  have R := mLoop_inv (b := fun x : Int32 × Int32 × mH => f_X5_search_b22 (some 47) wv (nI a) x.1 x.2.1 x.2.2) (fun b (s : Int32 × Int32 × mH) => s.1 = nI (qc (((a * qEr m + b) * qEr m) * qEr m) (qGd m)) ∧ s.2.1 = nI b ∧ qKp h0 s.2.2 A m wv (((a * qEr m + b) * qEr m) * qEr m)) (qEr m) (fun r => ∃ h', r = .inl (nI (qc ((((a + 1) * qEr m) * qEr m) * qEr m) (qGd m)), nI (a + 1), h') ∧ qKp h0 h' A m wv ((((a + 1) * qEr m) * qEr m) * qEr m)) (s0 := (nI (qc (((a * qEr m) * qEr m) * qEr m) (qGd m)), 0, h)) ⟨rfl, rfl, K⟩ ?_ ?_
  · obtain ⟨r, e1, h', rfl, e2⟩ := R
    exact ⟨h', e1, e2⟩
  · rintro b ⟨f1, ic, h1⟩ hb ⟨rfl, e1, K1'⟩
    have e1' : ic = nI b := e1
    subst e1'
    have K1 : qKp h0 h1 A m wv (((a * qEr m + b) * qEr m) * qEr m) := K1'
    obtain ⟨l47, -, -⟩ := l0.same K1.2.1
    obtain ⟨h2, p2, K2⟩ := x_sr3 hm l0 ha hb K1
    refine ⟨(_, _, h2), ?_, rfl, rfl, K2⟩
    show f_X5_search_b22 (some 47) wv (nI a) (nI (qc (((a * qEr m + b) * qEr m) * qEr m) (qGd m))) (nI b) h1 = _
    unfold f_X5_search_b22
    rw [qGI (by rw [K1.1.1]; decide) l47 rfl, qbind, if_neg (by rw [qle (by omega) (by omega)]; omega), p2]
    rfl
  · rintro ⟨f1, ic, h1⟩ ⟨rfl, e1, K1'⟩
    have e1' : ic = nI (qEr m) := e1
    subst e1'
    have K1 : qKp h0 h1 A m wv (((a * qEr m + qEr m) * qEr m) * qEr m) := K1'
    have ee : a * qEr m + qEr m = (a + 1) * qEr m := by rw [← Nat.succ_mul]
    rw [ee] at K1
    refine ⟨_, ?_, h1, rfl, K1⟩
    have l1 := l0.same K1.2.1
    show f_X5_search_b22 (some 47) wv (nI a) (nI (qc (((a * qEr m + qEr m) * qEr m) * qEr m) (qGd m))) (nI (qEr m)) h1 = _
    unfold f_X5_search_b22
    rw [qGI (by rw [K1.1.1]; decide) l1.1 rfl, qbind, if_pos (by rw [qle (by omega) (by omega)]; omega), nI_1, ee]
end QSR
def qN4 (m : Nat) : Nat := ((qEr m * qEr m) * qEr m) * qEr m
theorem x_search {h : mH} {A : qA} {m : Nat} (q : qX h A) (hm : m ∈ qOm) (wv : Int32) : ∃ h', f_X5_search (some 47) (nI m) wv h = some (nI (qc (qN4 m) (qGd m)), h') ∧ qX h' A ∧ qSame (fun k => 47 ≤ k ∧ k ≤ 50) h h' ∧ ∃ f, h'.2 50 = .inl (4, .inl f) ∧ ∀ k, k < qN4 m → qGd m k = true → nI (qc k (qGd m)) = wv → ∀ z, z < 4 → f z = nI (qEw m (qDg (qEr m) k z)) := by
  obtain ⟨k1, k2, k3, k4, k5, k6, k7⟩ := qKf6 m hm
  obtain ⟨h0, p0, q0, l0, s0⟩ := x_layQ q hm
  have s0' : qSame (fun k => 47 ≤ k ∧ k ≤ 50) h h0 := s0.mono fun k z => by unfold qC47 at z; omega
  obtain ⟨f50, e50⟩ : qArr h0 50 4 := by
    obtain ⟨a1, a2, ⟨f3, a3, a3'⟩, a4, ⟨g, a5, a5'⟩, ⟨g2, a6, a6'⟩, q7⟩ := q0
    obtain ⟨a1, a2, a3, a4, ⟨n1, c, d, r, s, a5⟩, a6, a7, a8, a9, ⟨n', c', r', b1⟩, b2, b3, b4, b5, b6, b7, b8, b9, z, c2, c3, c4⟩ := q7
    exact c4
  have is : mIs h (some 47) 4 = some () := by
    obtain ⟨a1, a2, ⟨f3, a3, a3'⟩, a4, ⟨g, a5, a5'⟩, ⟨g2, a6, a6'⟩, q7⟩ := q
    obtain ⟨-, a2, a3, a4, ⟨n1, c, d, r, s, a5⟩, a6, a7, a8, a9, ⟨n', c', r', b1⟩, b2, b3, b4, b5, b6, b7, b8, b9, ⟨z, ez⟩, c2, c3, c4⟩ := q7
    exact qIs (by rw [a1]; decide) ez
  unfold f_X5_search
  rw [is, qbind, p0, qbind]
  unfold f_X5_search_l10
  have R := mLoop_inv (b := fun x : Int32 × Int32 × mH => f_X5_search_b10 (some 47) wv x.1 x.2.1 x.2.2) (fun a (s : Int32 × Int32 × mH) => s.1 = nI (qc (((a * qEr m) * qEr m) * qEr m) (qGd m)) ∧ s.2.1 = nI a ∧ qKp h0 s.2.2 A m wv (((a * qEr m) * qEr m) * qEr m)) (qEr m) (fun r => ∃ h', r = (nI (qc (qN4 m) (qGd m)), h') ∧ qKp h0 h' A m wv (qN4 m)) (s0 := (0, 0, h0)) ⟨by rw [Nat.zero_mul, Nat.zero_mul, Nat.zero_mul]; rfl, rfl, q0, qSame.rf, f50, e50, fun k hk => by rw [Nat.zero_mul, Nat.zero_mul, Nat.zero_mul] at hk; omega⟩ ?_ ?_
  · obtain ⟨r, e1, h', rfl, q', s', f, e', u⟩ := R
    exact ⟨h', e1, q', s0'.trans (s'.mono fun k z => by omega), f, e', u⟩
  · rintro a ⟨f1, ic, h1⟩ ha ⟨rfl, e1, K1'⟩
    have e1' : ic = nI a := e1
    subst e1'
    have K1 : qKp h0 h1 A m wv (((a * qEr m) * qEr m) * qEr m) := K1'
    obtain ⟨l47, -, -⟩ := l0.same K1.2.1
    obtain ⟨h2, p2, K2⟩ := x_sr2 hm l0 ha K1
    refine ⟨(_, _, h2), ?_, rfl, rfl, K2⟩
    show f_X5_search_b10 (some 47) wv (nI (qc (((a * qEr m) * qEr m) * qEr m) (qGd m))) (nI a) h1 = _
    unfold f_X5_search_b10
    rw [qGI (by rw [K1.1.1]; decide) l47 rfl, qbind, if_neg (by rw [qle (by omega) (by omega)]; omega), p2]
    rfl
  · rintro ⟨f1, ic, h1⟩ ⟨rfl, e1, K1'⟩
    have e1' : ic = nI (qEr m) := e1
    subst e1'
    have K1 : qKp h0 h1 A m wv (qN4 m) := K1'
    refine ⟨_, ?_, h1, rfl, K1⟩
    have l1 := l0.same K1.2.1
    show f_X5_search_b10 (some 47) wv (nI (qc (qN4 m) (qGd m))) (nI (qEr m)) h1 = _
    unfold f_X5_search_b10
    rw [qGI (by rw [K1.1.1]; decide) l1.1 rfl, qbind, if_pos (by rw [qle (by omega) (by omega)]; omega)]
