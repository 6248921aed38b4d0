/-! PURE: form, what the model finds -/
def qMM (n : Nat) (R M : Nat → Nat) : Prop := (∃ f r sg, f < n ∧ qPm n r ∧ qSrt n (qLs2 n R f r) M sg) ∧ ∀ f, f < n → ∀ r, qPm n r → ∃ S sg, qSrt n (qLs2 n R f r) S sg ∧ qLxN 0 n M S
theorem qBe.mono {h : mH} {n : Nat} {R : Nat → Nat} {V V' : Nat → Nat → Prop} (b : qBe h n R V) (i : ∀ f c, V' f c → V f c) : qBe h n R V' := by
  obtain ⟨g, e, bb⟩ := b
  refine ⟨g, e, ?_⟩
  rcases bb with ⟨b1, b2⟩ | ⟨M, b1, b2, b3⟩
  · exact Or.inl ⟨b1, fun f c z => b2 f c (i f c z)⟩
  · exact Or.inr ⟨M, b1, b2, fun f c z => b3 f c (i f c z)⟩
section QFO
variable {A : qA} {t n f : Nat} {R : Nat → Nat}
theorem m_l50 (w : qWA A) (h6 : t < 6) (ht : (A.1 t).1 = n) (hR : (A.1 t).2.1 = R) (h0 : 0 < n) (hn : n ≤ 6) (hf : f < n) : ∀ (rest : List Nat) (c : Nat) (h : mH) (V : Nat → Nat → Prop), qChain n (c :: rest) = true → (∀ x, x ∈ c :: rest → x ∈ qOds n) → qM h A → qPlc h n (qDgt c) → qBe h n R V → ∃ h', f_X9_laysLeast_l50 (some 51) (nI t) (nI n) (nI f) 1 h = some (.inl (nI (f + 1), h')) ∧ qM h' A ∧ qSame qC63 h h' ∧ qBe h' n R (fun f' c' => V f' c' ∨ (f' = f ∧ c' ∈ c :: rest)) := by
  intro rest
  induction rest with
  | nil =>
    intro c h V ch al m pp b
    obtain ⟨h1, e1, m1, s1, p1, b1⟩ := m_offer m w h6 ht hR h0 hn hf (al c List.mem_cons_self) pp b
    have pm := qOds_pm h0 hn (al c List.mem_cons_self)
    have ch' : (qNxt n (qDgt c)).isNone = true := ch
    rcases m_goesOn m1 h0 hn (fun i hi => by have := pm.1 i hi; omega) p1 with ⟨r1, r2⟩ | ⟨b', h', r1, -⟩
    · refine ⟨h1, ?_, m1, s1, b1.mono fun f' c' z => ?_⟩
      · have E : f_X9_laysLeast_l50 (some 51) (nI t) (nI n) (nI f) 1 h = f_X9_laysLeast_l50 (some 51) (nI t) (nI n) (nI f) 0 h1 := by
          unfold f_X9_laysLeast_l50
          refine mLoop_inl (x := ((1 : Int32), h)) ?_
          show f_X9_laysLeast_b50 (some 51) (nI t) (nI n) (nI f) 1 h = _
          rw [e1]
          unfold f_X9_laysLeast_c98
          rw [r2, qbind]
        rw [E]
        unfold f_X9_laysLeast_l50
        refine mLoop_inr (x := ((0 : Int32), h1)) ?_
        show f_X9_laysLeast_b50 (some 51) (nI t) (nI n) (nI f) 0 h1 = _
        unfold f_X9_laysLeast_b50
        rw [if_pos rfl, nI_1]
      · rcases z with z | ⟨z1, z2⟩
        · exact Or.inl z
        · rw [List.mem_singleton] at z2; exact Or.inr ⟨z1, z2⟩
    · rw [r1] at ch'; cases ch'
  | cons c' rest ih =>
    intro c h V ch al m pp b
    obtain ⟨h1, e1, m1, s1, p1, b1⟩ := m_offer m w h6 ht hR h0 hn hf (al c List.mem_cons_self) pp b
    have pm := qOds_pm h0 hn (al c List.mem_cons_self)
    have ch' : ((match qNxt n (qDgt c) with
      | some b => (List.range n).all (fun i => b i == qDgt c' i)
      | none => false) && qChain n (c' :: rest)) = true := ch
    rw [Bool.and_eq_true] at ch'
    obtain ⟨c1, c2⟩ := ch'
    rcases m_goesOn m1 h0 hn (fun i hi => by have := pm.1 i hi; omega) p1 with ⟨r1, r2⟩ | ⟨b', h2, r1, r2, m2, s2, p2⟩
    · rw [r1] at c1; cases c1
    · rw [r1] at c1
      have c1' := List.all_eq_true.mp c1
      have p2' : qPlc h2 n (qDgt c') := by
        obtain ⟨f63, e63, u63⟩ := p2
        refine ⟨f63, e63, fun i hi => ?_⟩
        have := c1' i (List.mem_range.mpr hi)
        rw [beq_iff_eq] at this
        rw [u63 i hi, this]
      have b2 : qBe h2 n R (fun f' c'' => V f' c'' ∨ (f' = f ∧ c'' = c)) := by
        obtain ⟨g, e, bb⟩ := b1
        exact ⟨g, (s2.2 65 (by decide)).trans e, bb⟩
      obtain ⟨h3, e3, m3, s3, b3⟩ := ih c' h2 _ c2 (fun x hx => al x (List.mem_cons_of_mem _ hx)) m2 p2' b2
      refine ⟨h3, ?_, m3, (s1.trans (s2.mono fun z y => by unfold qC63; omega)).trans s3, b3.mono fun f' c'' z => ?_⟩
      · rw [← e3]
        unfold f_X9_laysLeast_l50
        refine mLoop_inl (x := ((1 : Int32), h)) ?_
        show f_X9_laysLeast_b50 (some 51) (nI t) (nI n) (nI f) 1 h = _
        rw [e1]
        unfold f_X9_laysLeast_c98
        rw [r2, qbind]
      · rcases z with z | ⟨z1, z2⟩
        · exact Or.inl (Or.inl z)
        · rw [List.mem_cons] at z2
          rcases z2 with z2 | z2
          · exact Or.inl (Or.inr ⟨z1, z2⟩)
          · exact Or.inr ⟨z1, z2⟩
theorem m_l26 {h : mH} (m : qM h A) (hn : n ≤ 6) (v1 v3 : Int32) : ∃ h', f_X9_laysLeast_l26 (some 51) v1 (nI n) v3 0 h = f_X9_laysLeast_l50 (some 51) v1 (nI n) v3 1 h' ∧ qM h' A ∧ qSame (fun z => z = 63) h h' ∧ qPlc h' n (fun i => i) := by
  obtain ⟨g0, e0⟩ := (m_arr63 m).1
  have LOOP : ∀ d k (h1 : mH) (g : Nat → Int32), k + d = n → qM h1 A → qSame (fun z => z = 63) h h1 → h1.2 63 = .inl (6, .inl g) → (∀ i, i < k → g i = nI i) → ∃ h', f_X9_laysLeast_l26 (some 51) v1 (nI n) v3 (nI k) h1 = f_X9_laysLeast_l50 (some 51) v1 (nI n) v3 1 h' ∧ qM h' A ∧ qSame (fun z => z = 63) h h' ∧ qPlc h' n (fun i => i) := by
    intro d
    induction d with
    | zero =>
      intro k h1 g hk m1 s1 e1 u1
      have kn : k = n := by omega
      subst kn
      refine ⟨h1, ?_, m1, s1, g, e1, u1⟩
      unfold f_X9_laysLeast_l26
      rw [mLoop_eq]
      show (f_X9_laysLeast_b26 (some 51) v1 (nI k) v3 (nI k) h1).bind _ = _
      unfold f_X9_laysLeast_b26
      rw [if_pos (Int32.le_refl _)]
      cases f_X9_laysLeast_l50 (some 51) v1 (nI k) v3 1 h1 <;> rfl
    | succ d ih =>
      intro k h1 g hk m1 s1 e1 u1
      obtain ⟨h5, p5, m5, e5, s5⟩ := m_stW m1 qMf63 e1 (i := k) (by omega) (nI k)
      obtain ⟨h', a1, a2⟩ := ih (k + 1) h5 _ (by omega) m5 (s1.trans s5) e5 (fun i hi => by
        by_cases z : i = k
        · rw [z, qUps]
        · rw [qUpn z]; exact u1 i (by omega))
      refine ⟨h', ?_, a2⟩
      rw [← a1]
      unfold f_X9_laysLeast_l26
      refine mLoop_inl (x := (nI k, h1)) ?_
      show f_X9_laysLeast_b26 (some 51) v1 (nI n) v3 (nI k) h1 = _
      unfold f_X9_laysLeast_b26
      rw [if_neg (by rw [qle (by omega) (by omega)]; omega), m1.g63.1, qbind, p5, qbind, nI_1]
  exact LOOP n 0 h g0 (Nat.zero_add n) m qSame.rf e0 (fun i hi => absurd hi (Nat.not_lt_zero i))
theorem m_laysLeast {h : mH} (m : qM h A) (w : qWA A) (h6 : t < 6) (ht : (A.1 t).1 = n) (hR : (A.1 t).2.1 = R) (h0 : 0 < n) (hn : n ≤ 6) : ∃ h' g M, f_X9_laysLeast (some 51) (nI t) h = some h' ∧ qM h' A ∧ qSame qC63 h h' ∧ h'.2 65 = .inl (6, .inl g) ∧ (∀ i, i < n → g i = nI (M i)) ∧ qMM n R M := by
  obtain ⟨x0, y0, fo, fr, ff, fg, fw, mb, hm⟩ := m.b
  have ord := mb.order h6
  rw [(hm t h6).1, ht] at ord
  obtain ⟨g0, e0⟩ := (m_arr63 m).2.2
  obtain ⟨h4, p4, m4, e4, s4⟩ := m_stW m qMf65 e0 (i := 0) (by decide) (nI 784)
  obtain ⟨chain, -, rest, hd, dg⟩ := qOds_ok h0 hn
  generalize hc0 : (qOds n).headD 0 = c0 at hd dg
  unfold f_X9_laysLeast
  rw [mb.is, qbind, mb.orders, qbind, ord, qbind, m.g63.2.2, qbind]
  show ∃ h' g M, ((mSI h (some 65) (nI 0) (nI 784)).bind _) = some h' ∧ _
  rw [p4, qbind]
  unfold f_X9_laysLeast_l18
  have LOOP := mLoop_inv (b := fun x : Int32 × mH => f_X9_laysLeast_b18 (some 51) (nI t) (nI n) x.1 x.2) (fun k (s : Int32 × mH) => s.1 = nI k ∧ qM s.2 A ∧ qSame qC63 h s.2 ∧ qBe s.2 n R (fun f c => f < k ∧ c ∈ qOds n)) n (fun h' => qM h' A ∧ qSame qC63 h h' ∧ qBe h' n R (fun f c => f < n ∧ c ∈ qOds n)) (s0 := (nI 0, h4)) ⟨rfl, m4, s4.mono fun z y => by unfold qC63; omega, _, e4, Or.inl ⟨qUps, fun f c z => absurd z.1 (Nat.not_lt_zero f)⟩⟩ ?_ ?_
  · obtain ⟨h', e, a1, a2, g, a3, bb⟩ := LOOP
    rcases bb with ⟨-, nv⟩ | ⟨M, b1, b2, b3⟩
    · exact absurd ⟨h0, by rw [hd]; exact List.mem_cons_self⟩ (nv 0 c0)
    · refine ⟨h', g, M, e, a1, a2, a3, b1, b2, fun f hf r hr => ?_⟩
      obtain ⟨pl, iv⟩ := qInv_ex hn hr
      obtain ⟨c, c1, c2⟩ := qOds_all h0 hn iv.pm
      refine b3 f c ⟨hf, c1⟩ r ⟨fun j hj => by rw [c2 j hj]; exact iv.sy.1 j hj, fun p hp => ?_⟩
      obtain ⟨d1, d2⟩ := iv.sy.2 p hp
      exact ⟨d1, by rw [c2 _ d1]; exact d2⟩
  · rintro k ⟨a, hk⟩ hkn ⟨rfl, mk', sk, bk⟩
    have mk : qM hk A := mk'
    obtain ⟨h1, e1, m1, s1, p1⟩ := m_l26 mk hn (nI t) (nI k)
    have b1 : qBe h1 n R (fun f c => f < k ∧ c ∈ qOds n) := by
      obtain ⟨g, e, bb⟩ := bk
      exact ⟨g, (s1.2 65 (by decide)).trans e, bb⟩
    have p1' : qPlc h1 n (qDgt c0) := by
      obtain ⟨f63, e63, u63⟩ := p1
      exact ⟨f63, e63, fun i hi => by rw [dg i hi]; exact u63 i hi⟩
    obtain ⟨h2, e2, m2, s2, b2⟩ := m_l50 (f := k) w h6 ht hR h0 hn hkn rest c0 h1 _ (by rw [← hd]; exact chain) (fun x hx => by rw [hd]; exact hx) m1 p1' b1
    refine ⟨(nI (k + 1), h2), ?_, rfl, m2, (sk.trans (s1.mono fun z y => by unfold qC63; omega)).trans s2, b2.mono fun f c z => ?_⟩
    · show f_X9_laysLeast_b18 (some 51) (nI t) (nI n) (nI k) hk = _
      unfold f_X9_laysLeast_b18
      rw [if_neg (by rw [qle (by omega) (by omega)]; omega), e1, e2]
    · by_cases y : f = k
      · exact Or.inr ⟨y, by rw [← hd]; exact z.2⟩
      · exact Or.inl ⟨by omega, z.2⟩
  · rintro ⟨a, hk⟩ ⟨rfl, mk, sk, bk⟩
    refine ⟨hk, ?_, mk, sk, bk⟩
    show f_X9_laysLeast_b18 (some 51) (nI t) (nI n) (nI n) hk = _
    unfold f_X9_laysLeast_b18
    rw [if_pos (Int32.le_refl _)]
end QFO
