/-! PURE: form, the model's sorted form; which is less -/
def qSrt (k : Nat) (m S sg : Nat → Nat) : Prop := (∀ i, i < k → sg i < k ∧ S i = m (sg i)) ∧ (∀ i j, i < k → j < k → sg i = sg j → i = j) ∧ ∀ i, i + 1 < k → S i ≤ S (i + 1)
def qIns (p v : Nat) (S : Nat → Nat) (i : Nat) : Nat := if i < p then S i else if i = p then v else S (i - 1)
theorem qIns_a {p v : Nat} {S : Nat → Nat} {i : Nat} (h : i < p) : qIns p v S i = S i := if_pos h
theorem qIns_b {p v : Nat} {S : Nat → Nat} : qIns p v S p = v := by unfold qIns; rw [if_neg (by omega), if_pos rfl]
theorem qIns_c {p v : Nat} {S : Nat → Nat} {i : Nat} (h : p < i) : qIns p v S i = S (i - 1) := by unfold qIns; rw [if_neg (by omega), if_neg (by omega)]
theorem qSrt.ins {k : Nat} {m S sg : Nat → Nat} (s : qSrt k m S sg) {p : Nat} (hp : p ≤ k) (h1 : ∀ i, p ≤ i → i < k → m k < S i) (h2 : 0 < p → S (p - 1) ≤ m k) : qSrt (k + 1) m (qIns p (m k) S) (qIns p k sg) := by
  obtain ⟨s1, s2, s3⟩ := s
  refine ⟨fun i hi => ?_, fun i j hi hj e => ?_, fun i hi => ?_⟩
  · rcases Nat.lt_trichotomy i p with z | z | z
    · rw [qIns_a z, qIns_a z]; obtain ⟨a, b⟩ := s1 i (by omega); exact ⟨by omega, b⟩
    · rw [z, qIns_b, qIns_b]; exact ⟨by omega, rfl⟩
    · rw [qIns_c z, qIns_c z]; obtain ⟨a, b⟩ := s1 (i - 1) (by omega); exact ⟨by omega, b⟩
  · rcases Nat.lt_trichotomy i p with z | z | z
    · have a := (s1 i (by omega)).1
      rw [qIns_a z] at e
      rcases Nat.lt_trichotomy j p with y | y | y
      · rw [qIns_a y] at e; exact s2 i j (by omega) (by omega) e
      · rw [y, qIns_b] at e; omega
      · rw [qIns_c y] at e; have := s2 i (j - 1) (by omega) (by omega) e; omega
    · rw [z, qIns_b] at e
      rcases Nat.lt_trichotomy j p with y | y | y
      · rw [qIns_a y] at e; have := (s1 j (by omega)).1; omega
      · omega
      · rw [qIns_c y] at e; have := (s1 (j - 1) (by omega)).1; omega
    · have a := (s1 (i - 1) (by omega)).1
      rw [qIns_c z] at e
      rcases Nat.lt_trichotomy j p with y | y | y
      · rw [qIns_a y] at e; have := s2 (i - 1) j (by omega) (by omega) e; omega
      · rw [y, qIns_b] at e; omega
      · rw [qIns_c y] at e; have := s2 (i - 1) (j - 1) (by omega) (by omega) e; omega
  · rcases Nat.lt_trichotomy (i + 1) p with z | z | z
    · rw [qIns_a (by omega), qIns_a z]; exact s3 i (by omega)
    · rw [qIns_a (by omega), z, qIns_b]
      have := h2 (by omega)
      rw [show p - 1 = i by omega] at this
      exact this
    · by_cases y : i = p
      · rw [y, qIns_b, qIns_c (by omega), Nat.add_sub_cancel]
        exact Nat.le_of_lt (h1 p (Nat.le_refl p) (by omega))
      · rw [qIns_c (by omega), qIns_c z, Nat.add_sub_cancel]
        have := s3 (i - 1) (by omega)
        rw [show i - 1 + 1 = i by omega] at this
        exact this
theorem m_arr63 {h : mH} {A : qA} (m : qM h A) : qArr h 63 6 ∧ qArr h 64 6 ∧ qArr h 65 6 := by
  obtain ⟨-, -, -, -, -, -, -, -, -, -, a, b, c, -⟩ := m
  exact ⟨a, b, c⟩
section QSO
variable {A : qA} {t n f : Nat} {R : Nat → Nat} {h : mH}
theorem qLs2_lt {r : Nat → Nat} (k : Nat) : qLs2 n R f r k < 2 ^ n := by
  unfold qLs2
  have : qIm n r (qWd n R f k false) < 2 ^ n := qW_lt n _
  omega
theorem m_laysForm (m : qM h A) (w : qWA A) (h6 : t < 6) (ht : (A.1 t).1 = n) (hR : (A.1 t).2.1 = R) (h0 : 0 < n) (hn : n ≤ 6) (hf : f < n) {pl r : Nat → Nat} (iv : qInv n pl r) (pp : qPlc h n pl) : ∃ h' S sg, f_X9_laysForm (some 51) (nI t) (nI f) h = some h' ∧ qM h' A ∧ qSame (fun z => z = 64) h h' ∧ qN64 h' n S ∧ qSrt n (qLs2 n R f r) S sg := by
  have p6 : 2 ^ n ≤ 2 ^ 6 := Nat.pow_le_pow_right (by decide) hn
  have wt := w.1 t h6
  have Rlt : ∀ i, i < n → R i < 2 ^ n := fun i hi => by
    have := wt.2.1 i (by omega)
    rw [hR, ht] at this
    exact this
  obtain ⟨x0, y0, fo, fr, ff, fg, fw, mb, hm⟩ := m.b
  have ord := mb.order h6
  rw [(hm t h6).1, ht] at ord
  unfold f_X9_laysForm
  rw [mb.is, qbind, mb.orders, qbind, ord, qbind]
  unfold f_X9_laysForm_l10
  obtain ⟨g0, e0⟩ : ∃ g, h.2 64 = .inl (6, .inl g) := (m_arr63 m).2.1
  have LOOP := mLoop_inv (b := fun x : Int32 × mH => f_X9_laysForm_b10 (some 51) (nI t) (nI f) (nI n) x.1 x.2) (fun k (s : Int32 × mH) => s.1 = nI k ∧ qM s.2 A ∧ qSame (fun z => z = 64) h s.2 ∧ ∃ S sg, qN64 s.2 k S ∧ qSrt k (qLs2 n R f r) S sg) n (fun h' => qM h' A ∧ qSame (fun z => z = 64) h h' ∧ ∃ S sg, qN64 h' n S ∧ qSrt n (qLs2 n R f r) S sg) (s0 := (nI 0, h)) ⟨rfl, m, qSame.rf, fun _ => 0, fun _ => 0, ⟨g0, e0, fun i hi => absurd hi (Nat.not_lt_zero i)⟩, fun i hi => absurd hi (Nat.not_lt_zero i), fun i j hi => absurd hi (Nat.not_lt_zero i), fun i hi => absurd hi (Nat.not_lt_zero _)⟩ ?_ ?_
  · obtain ⟨h', e, a1, a2, S, sg, a3, a4⟩ := LOOP
    exact ⟨h', S, sg, e, a1, a2, a3, a4⟩
  · rintro k ⟨a, hk⟩ hkn ⟨rfl, mk', sk, S, sg, ⟨g, eg', ug⟩, st⟩
    have mk : qM hk A := mk'
    have eg : hk.2 64 = .inl (6, .inl g) := eg'
    obtain ⟨x1, y1, fo1, fr1, ff1, fg1, fw1, mb1, hm1⟩ := mk.b
    have rk := m_rowOf mb1 (hm1 t h6) h6 wt (i := k) (by omega)
    have rf := m_rowOf mb1 (hm1 t h6) h6 wt (i := f) (by omega)
    rw [hR] at rk rf
    have ppk : qPlc hk n pl := by
      obtain ⟨f63, e63, u63⟩ := pp
      exact ⟨f63, (sk.2 63 (by decide)).trans e63, u63⟩
    have L38 := m_l38 mk hn iv ppk (x := R k ^^^ R f) (Nat.xor_lt_two_pow (Rlt k hkn) (Rlt f hf)) (nI t) (nI f) k
    rw [← qLs2_eq fun p hp => (iv.2 p hp).1] at L38
    have mlt := qLs2_lt (n := n) (R := R) (f := f) (r := r)
    obtain ⟨p', h', g', a1, a2, a3, a4, a5, a6, a7, a8, a9, b1⟩ := m_l104 (A := A) (n := n) hn (S := S) (k := k) (v := qLs2 n R f r k) hkn (fun i hi => by have := mlt (sg i); rw [(st.1 i hi).2]; omega) (by have := mlt k; omega) (nI t) (nI f) (nI n) k hk g (Nat.le_refl k) mk eg ug (fun i h1 h2 => absurd h1 (by omega)) (fun i h1 h2 => absurd h1 (by omega))
    refine ⟨(nI (k + 1), h'), ?_, rfl, a3, sk.trans a4, qIns p' (qLs2 n R f r k) S, qIns p' k sg, ⟨g', a5, fun i hi => ?_⟩, st.ins a1 a9 b1⟩
    · show f_X9_laysForm_b10 (some 51) (nI t) (nI f) (nI n) (nI k) hk = _
      unfold f_X9_laysForm_b10
      rw [if_neg (by rw [qle (by omega) (by omega)]; omega), rk, qbind, rf, qbind, qI_xor, L38, a2]
    · rcases Nat.lt_trichotomy i p' with z | z | z
      · rw [qIns_a z]; exact a6 i z
      · rw [z, qIns_b]; exact a7
      · rw [qIns_c z]; exact a8 i z (by omega)
  · rintro ⟨a, hk⟩ ⟨rfl, mk, sk, S, sg, nn, st⟩
    refine ⟨hk, ?_, mk, sk, S, sg, nn, st⟩
    show f_X9_laysForm_b10 (some 51) (nI t) (nI f) (nI n) (nI n) hk = _
    unfold f_X9_laysForm_b10
    rw [if_pos (by rw [qle (by omega) (by omega)]; omega)]
theorem m_isLess (m : qM h A) (hn : n ≤ 6) {S : Nat → Nat} (s : qN64 h n S) {g : Nat → Int32} (e65 : h.2 65 = .inl (6, .inl g)) : ((∀ i, i < n → g i = nI (S i)) → f_X9_isLess (some 51) (nI n) h = some 0) ∧ ∀ k, k < n → (∀ i, i < k → g i = nI (S i)) → ¬ g k = nI (S k) → f_X9_isLess (some 51) (nI n) h = if g k ≤ nI (S k) then some 0 else some 1 := by
  obtain ⟨g64, e64, u64⟩ := s
  have L : ∀ j r, j ≤ n → (∀ i, i < j → g i = nI (S i)) → f_X9_isLess_b2 (some 51) (nI n) (nI j) h = some (.inr r) → f_X9_isLess (some 51) (nI n) h = some r := by
    intro j r hj hall he
    unfold f_X9_isLess f_X9_isLess_l2
    rw [m.is, qbind]
    have R := mLoop_inv (b := fun x : Int32 => f_X9_isLess_b2 (some 51) (nI n) x h) (fun k (s : Int32) => s = nI k) j (fun z => z = r) (s0 := nI 0) rfl ?_ ?_
    · obtain ⟨z, h1, rfl⟩ := R
      exact h1
    · rintro i s hi rfl
      refine ⟨nI (i + 1), ?_, rfl⟩
      show f_X9_isLess_b2 (some 51) (nI n) (nI i) h = _
      unfold f_X9_isLess_b2
      rw [if_neg (by rw [qle (by omega) (by omega)]; omega), m.g63.2.1, qbind, m.atW e64 (by decide) (by decide) (by omega), qbind, m.g63.2.2, qbind, m.atW e65 (by decide) (by decide) (by omega), qbind, u64 i (by omega), hall i hi, if_pos rfl, nI_1]
    · rintro s rfl
      exact ⟨r, he, rfl⟩
  refine ⟨fun all => L n 0 (Nat.le_refl n) all ?_, fun k hk all ne => ?_⟩
  · unfold f_X9_isLess_b2 f_X9_isLess_c28
    rw [if_pos (Int32.le_refl _), if_pos (Int32.le_refl _)]; rfl
  · have B : f_X9_isLess_b2 (some 51) (nI n) (nI k) h = if g k ≤ nI (S k) then some (.inr 0) else some (.inr 1) := by
      unfold f_X9_isLess_b2 f_X9_isLess_c28
      rw [if_neg (by rw [qle (by omega) (by omega)]; omega), m.g63.2.1, qbind, m.atW e64 (by decide) (by decide) (by omega), qbind, m.g63.2.2, qbind, m.atW e65 (by decide) (by decide) (by omega), qbind, u64 k hk, if_neg (fun z => ne z.symm), if_neg (by rw [qle (by omega) (by omega)]; omega), qbind, m.atW e64 (by decide) (by decide) (by omega), qbind, qbind, m.atW e65 (by decide) (by decide) (by omega), qbind, u64 k hk]
      by_cases z : g k ≤ nI (S k)
      · rw [if_pos z, if_pos z]; rfl
      · rw [if_neg z, if_neg z]; rfl
    by_cases z : g k ≤ nI (S k)
    · rw [if_pos z] at B ⊢; exact L k 0 (by omega) all B
    · rw [if_neg z] at B ⊢; exact L k 1 (by omega) all B
end QSO
