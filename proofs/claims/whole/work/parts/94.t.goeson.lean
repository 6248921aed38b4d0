/-! PURE: form, the model goes on to the next order -/
theorem qDgt_sum {n : Nat} {p : Nat → Nat} (hp : ∀ i, i < n → p i < 8) : (∀ i, i < n → qDgt (qSum n (fun i => p i * 8 ^ i)) i = p i) ∧ qSum n (fun i => p i * 8 ^ i) < 8 ^ n := by
  induction n with
  | zero => exact ⟨fun i hi => absurd hi (Nat.not_lt_zero i), by show 0 < 8 ^ 0; decide⟩
  | succ n ih =>
    obtain ⟨i1, i2⟩ := ih fun i hi => hp i (by omega)
    have hn := hp n (by omega)
    have e : qSum (n + 1) (fun i => p i * 8 ^ i) = qSum n (fun i => p i * 8 ^ i) + p n * 8 ^ n := rfl
    rw [e]
    generalize qSum n (fun i => p i * 8 ^ i) = S at i1 i2
    have pn : 0 < 8 ^ n := Nat.pow_pos (by decide)
    refine ⟨fun i hi => ?_, ?_⟩
    · by_cases z : i = n
      · subst z
        unfold qDgt
        rw [Nat.add_mul_div_right _ _ pn, Nat.div_eq_of_lt i2, Nat.zero_add, Nat.mod_eq_of_lt hn]
      · rw [← i1 i (by omega)]
        unfold qDgt
        have pi : 0 < 8 ^ i := Nat.pow_pos (by decide)
        have e8 : p n * 8 ^ n = (p n * 8 ^ (n - i - 1)) * 8 * 8 ^ i := by
          rw [Nat.mul_assoc, Nat.mul_assoc, ← Nat.pow_succ', ← Nat.pow_add]
          congr 2
          omega
        rw [e8, Nat.add_mul_div_right _ _ pi, Nat.add_mul_mod_self_right]
    · have : p n * 8 ^ n ≤ 7 * 8 ^ n := Nat.mul_le_mul_right _ (by omega)
      rw [Nat.pow_succ]
      omega
theorem qCover_in {n : Nat} {T : List Nat} {p : Nat → Nat} (hp : qPm n p) : ∀ (k : Nat) (us : List Nat) (c : Nat), k ≤ n → (∀ x, x ∈ us → ∃ i, i < n - k ∧ p i = x) → c = qSum (n - k) (fun i => p i * 8 ^ i) → qCover n T k us c = true → qSum n (fun i => p i * 8 ^ i) ∈ T := by
  intro k
  induction k with
  | zero =>
    intro us c _ _ hc h
    have h' : T.contains c = true := h
    rw [List.contains_iff_mem, hc] at h'
    exact h'
  | succ k ih =>
    intro us c hk hus hc h
    have h' : ((List.range n).all fun x => us.contains x || qCover n T k (x :: us) (c + x * 8 ^ (n - 1 - k))) = true := h
    have h2 := List.all_eq_true.mp h' (p (n - 1 - k)) (List.mem_range.mpr (hp.1 _ (by omega)))
    rw [Bool.or_eq_true, List.contains_iff_mem] at h2
    rcases h2 with h2 | h2
    · exfalso
      obtain ⟨i, i1, i2⟩ := hus _ h2
      have := hp.2 i (n - 1 - k) (by omega) (by omega) i2
      omega
    · refine ih _ _ (by omega) (fun x hx => ?_) ?_ h2
      · rw [List.mem_cons] at hx
        rcases hx with hx | hx
        · exact ⟨n - 1 - k, by omega, hx.symm⟩
        · obtain ⟨i, i1, i2⟩ := hus x hx
          exact ⟨i, by omega, i2⟩
      · rw [hc, show n - k = (n - (k + 1)) + 1 by omega]
        show _ = qSum (n - (k + 1)) (fun i => p i * 8 ^ i) + p (n - (k + 1)) * 8 ^ (n - (k + 1))
        rw [show n - 1 - k = n - (k + 1) by omega]
/-- every order is there -/
theorem qOds_all {n : Nat} (h0 : 0 < n) (hn : n ≤ 6) {p : Nat → Nat} (hp : qPm n p) : ∃ c, c ∈ qOds n ∧ ∀ i, i < n → qDgt c i = p i :=
  ⟨_, qCover_in hp n [] 0 (Nat.le_refl n) (fun x hx => absurd hx (List.not_mem_nil)) (by rw [Nat.sub_self]; rfl) (qOds_ok h0 hn).2.1, (qDgt_sum fun i hi => by have := hp.1 i hi; omega).1⟩
theorem qMf63 : qMf 63 6 := by unfold qMf; decide
theorem qMf64 : qMf 64 6 := by unfold qMf; decide
theorem qMf65 : qMf 65 6 := by unfold qMf; decide
def qPlc (h : mH) (n : Nat) (a : Nat → Nat) : Prop := ∃ f, h.2 63 = .inl (6, .inl f) ∧ ∀ i, i < n → f i = nI (a i)
section QGO
variable {A : qA} {n : Nat} {h : mH}
theorem qM.g63 (m : qM h A) : mGR h (some 51) 8 15 = some (some 63) ∧ mGR h (some 51) 8 16 = some (some 64) ∧ mGR h (some 51) 8 17 = some (some 65) := by
  obtain ⟨x0, y0, fo, fr, ff, fg, fw, mb, hm⟩ := m.b
  exact ⟨qGR (mb.le (by decide)) mb.2.1 rfl, qGR (mb.le (by decide)) mb.2.1 rfl, qGR (mb.le (by decide)) mb.2.1 rfl⟩
theorem qI_dn {j : Nat} : nI (j + 1) + -1 = nI j := by rw [← nI_1, Int32.add_assoc]; exact Int32.add_zero _
theorem m_swaps (m : qM h A) (hn : n ≤ 6) {a : Nat → Nat} (p : qPlc h n a) {i j : Nat} (hi : i < n) (hj : j < n) : ∃ h', f_X9_swaps (some 63) (nI i) (nI j) h = some h' ∧ qM h' A ∧ qSame (fun z => z = 63) h h' ∧ qPlc h' n (qSwp a i j) := by
  obtain ⟨f, e, u⟩ := p
  obtain ⟨h3, p3, m3, e3, s3⟩ := m_stW m qMf63 e (i := i) (by omega) (f j)
  obtain ⟨h4, p4, m4, e4, s4⟩ := m_stW m3 qMf63 e3 (i := j) (by omega) (f i)
  refine ⟨h4, ?_, m4, s3.trans s4, _, e4, fun z hz => ?_⟩
  · unfold f_X9_swaps
    rw [m.atW e (by decide) (by decide) (by omega), qbind, m.atW e (by decide) (by decide) (by omega), qbind, p3, qbind, p4, qbind]
  · unfold qSwp
    by_cases y : z = j
    · rw [y, qUps, qVs, u i hi]
    · rw [qUpn y, qVn y]
      by_cases x : z = i
      · rw [x, qUps, qVs, u j hj]
      · rw [qUpn x, qVn x]; exact u z hz
theorem m_l81 (hn : n ≤ 6) : ∀ (k lo hi : Nat) (a : Nat → Nat) (h : mH), hi ≤ lo + k → hi < n → lo ≤ n → qM h A → qPlc h n a → ∃ h', f_X9_goesOn_l81 (some 51) (nI lo) (nI hi) h = some (1, h') ∧ qM h' A ∧ qSame (fun z => z = 63) h h' ∧ qPlc h' n (qRv k lo hi a) := by
  have STOP : ∀ lo hi h, hi ≤ lo → hi < n → lo ≤ n → f_X9_goesOn_l81 (some 51) (nI lo) (nI hi) h = some (1, h) := by
    intro lo hi h h1 h2 h3
    unfold f_X9_goesOn_l81
    refine mLoop_inr (x := (nI lo, nI hi, h)) ?_
    show f_X9_goesOn_b81 (some 51) (nI lo) (nI hi) h = _
    unfold f_X9_goesOn_b81
    rw [if_pos (by rw [qle (by omega) (by omega)]; exact h1)]
  intro k
  induction k with
  | zero =>
    intro lo hi a h h1 h2 h3 m p
    exact ⟨h, STOP lo hi h (by omega) h2 h3, m, qSame.rf, p⟩
  | succ k ih =>
    intro lo hi a h h1 h2 h3 m p
    by_cases z : hi ≤ lo
    · refine ⟨h, STOP lo hi h z h2 h3, m, qSame.rf, ?_⟩
      unfold qRv
      rw [if_pos z]; exact p
    · obtain ⟨h', e', m', s', p'⟩ := m_swaps m hn p (i := lo) (j := hi) (by omega) h2
      obtain ⟨h4, e4, m4, s4, p4⟩ := ih (lo + 1) (hi - 1) (qSwp a lo hi) h' (by omega) (by omega) (by omega) m' p'
      refine ⟨h4, ?_, m4, s'.trans s4, ?_⟩
      · rw [← e4]
        unfold f_X9_goesOn_l81
        refine mLoop_inl (x := (nI lo, nI hi, h)) ?_
        show f_X9_goesOn_b81 (some 51) (nI lo) (nI hi) h = _
        unfold f_X9_goesOn_b81
        have ed : nI hi + -1 = nI (hi - 1) := by
          obtain ⟨j, rfl⟩ : ∃ j, hi = j + 1 := ⟨hi - 1, by omega⟩
          exact qI_dn
        rw [if_neg (by rw [qle (by omega) (by omega)]; exact z), m.g63.1, qbind, e', qbind, ed, nI_1]
      · unfold qRv
        rw [if_neg z]; exact p4
theorem m_goesOn (m : qM h A) (h0 : 0 < n) (hn : n ≤ 6) {a : Nat → Nat} (ha : ∀ i, i < n → a i < 8) (p : qPlc h n a) : (qNxt n a = none ∧ f_X9_goesOn (some 51) (nI n) h = some (0, h)) ∨ ∃ b h', qNxt n a = some b ∧ f_X9_goesOn (some 51) (nI n) h = some (1, h') ∧ qM h' A ∧ qSame (fun z => z = 63) h h' ∧ qPlc h' n b := by
  have p0 := p
  obtain ⟨f, e, u⟩ := p
  -- from j downward
  have L41 : ∀ (pp : Nat), pp + 1 < n → ∀ j, pp ≤ j → j < n → ∃ h', f_X9_goesOn_l41 (some 51) (nI n) (nI pp) (nI j) h = some (1, h') ∧ qM h' A ∧ qSame (fun z => z = 63) h h' ∧ qPlc h' n (qRv n (pp + 1) (n - 1) (qSwp a pp (qPj a pp j))) := by
    intro pp hpp j
    induction j with
    | zero =>
      intro h1 h2
      have e0 : pp = 0 := by omega
      subst e0
      obtain ⟨h', e', m', s', p'⟩ := m_swaps m hn p0 (i := 0) (j := 0) h0 h0
      obtain ⟨h4, e4, m4, s4, p4⟩ := m_l81 (A := A) hn n 1 (n - 1) _ h' (by omega) (by omega) (by omega) m' p'
      refine ⟨h4, ?_, m4, s'.trans s4, p4⟩
      unfold f_X9_goesOn_l41
      refine mLoop_inr (x := nI 0) ?_
      show f_X9_goesOn_b41 (some 51) (nI n) (nI 0) (nI 0) h = _
      unfold f_X9_goesOn_b41
      have u0 := ha 0 h0
      rw [m.g63.1, qbind, m.atW e (by decide) (by decide) (by omega), qbind, qbind, m.atW e (by decide) (by decide) (by omega), qbind, if_pos (Int32.le_refl _), qbind, e', qbind, nI_1, qI_m1 h0, e4]; rfl
    | succ j ih =>
      intro h1 h2
      have v1 := ha pp (by omega)
      have v2 := ha (j + 1) h2
      have B : f_X9_goesOn_b41 (some 51) (nI n) (nI pp) (nI (j + 1)) h = if a pp ≤ a (j + 1) then ((f_X9_swaps (some 63) (nI pp) (nI (j + 1)) h).bind fun x6 => (f_X9_goesOn_l81 (some 51) (nI pp + 1) (nI n - 1) x6).map (fun r => (Sum.inr r))) else some (Sum.inl (nI j)) := by
        unfold f_X9_goesOn_b41
        rw [m.g63.1, qbind, m.atW e (by decide) (by decide) (by omega), qbind, qbind, m.atW e (by decide) (by decide) (by omega), qbind, u _ h2, u _ (by omega), qbind, qI_dn]
        by_cases z : a pp ≤ a (j + 1)
        · rw [if_pos (by rw [qle (by omega) (by omega)]; exact z), if_pos z]
        · rw [if_neg (by rw [qle (by omega) (by omega)]; exact z), if_neg z]
      by_cases z : a pp ≤ a (j + 1)
      · rw [if_pos z] at B
        obtain ⟨h', e', m', s', p'⟩ := m_swaps m hn p0 (i := pp) (j := j + 1) (by omega) h2
        obtain ⟨h4, e4, m4, s4, p4⟩ := m_l81 (A := A) hn n (pp + 1) (n - 1) _ h' (by omega) (by omega) (by omega) m' p'
        refine ⟨h4, ?_, m4, s'.trans s4, ?_⟩
        · unfold f_X9_goesOn_l41
          refine mLoop_inr (x := nI (j + 1)) ?_
          show f_X9_goesOn_b41 (some 51) (nI n) (nI pp) (nI (j + 1)) h = _
          rw [B, e', qbind, nI_1, qI_m1 h0, e4]; rfl
        · have : qPj a pp (j + 1) = j + 1 := if_pos z
          rw [this]; exact p4
      · rw [if_neg z] at B
        have hpj : pp ≤ j := by
          by_cases y : pp = j + 1
          · rw [y] at z; exact absurd (Nat.le_refl _) z
          · omega
        obtain ⟨h', e', r⟩ := ih hpj (by omega)
        have : qPj a pp (j + 1) = qPj a pp j := if_neg z
        rw [this]
        refine ⟨h', ?_, r⟩
        rw [← e']
        unfold f_X9_goesOn_l41
        exact mLoop_inl (x := nI (j + 1)) B
  -- the place where it still rises
  have L4 : ∀ i, i < n → (qPi a i = none ∧ f_X9_goesOn_l4 (some 51) (nI n) (nI i - 1) h = some (0, h)) ∨ ∃ pp h', qPi a i = some pp ∧ f_X9_goesOn_l4 (some 51) (nI n) (nI i - 1) h = some (1, h') ∧ qM h' A ∧ qSame (fun z => z = 63) h h' ∧ qPlc h' n (qRv n (pp + 1) (n - 1) (qSwp a pp (qPj a pp (n - 1)))) := by
    intro i
    induction i with
    | zero =>
      intro _
      left
      refine ⟨rfl, ?_⟩
      unfold f_X9_goesOn_l4
      refine mLoop_inr (x := nI 0 - 1) ?_
      show f_X9_goesOn_b4 (some 51) (nI n) (nI 0 - 1) h = _
      unfold f_X9_goesOn_b4 f_X9_goesOn_c31
      rw [if_pos (by decide), if_neg (by decide)]; rfl
    | succ i ih =>
      intro hi
      have v1 := ha i (by omega)
      have v2 := ha (i + 1) hi
      have ei : nI (i + 1) - 1 = nI i := by rw [qI_m1 (by omega), Nat.add_sub_cancel]
      rw [ei]
      have B : f_X9_goesOn_b4 (some 51) (nI n) (nI i) h = if a i ≤ a (i + 1) then (f_X9_goesOn_l41 (some 51) (nI n) (nI i) (nI (n - 1)) h).map (fun r => (Sum.inr r)) else some (Sum.inl (nI i - 1)) := by
        unfold f_X9_goesOn_b4 f_X9_goesOn_c31
        rw [if_neg (qpos (by omega)), m.g63.1, qbind, m.atW e (by decide) (by decide) (by omega), qbind, qbind, nI_1, m.atW e (by decide) (by decide) (by omega), qbind, u _ (by omega), u _ hi, Int32.sub_eq_add_neg (nI i)]
        have z0 : (0 : Int32) ≤ nI i := by rw [qI_zero, qle (by decide) (by omega)]; omega
        rw [if_pos z0, qI_m1 h0]
        by_cases z : a i ≤ a (i + 1)
        · rw [if_pos (by rw [qle (by omega) (by omega)]; exact z), if_pos z]
        · rw [if_neg (by rw [qle (by omega) (by omega)]; exact z), if_neg z]
      by_cases z : a i ≤ a (i + 1)
      · right
        rw [if_pos z] at B
        obtain ⟨h', e', r⟩ := L41 i hi (n - 1) (by omega) (by omega)
        refine ⟨i, h', if_pos z, ?_, r⟩
        unfold f_X9_goesOn_l4
        refine mLoop_inr (x := nI i) ?_
        show f_X9_goesOn_b4 (some 51) (nI n) (nI i) h = _
        rw [B, e']; rfl
      · rw [if_neg z] at B
        have en : qPi a (i + 1) = qPi a i := if_neg z
        have el : f_X9_goesOn_l4 (some 51) (nI n) (nI i) h = f_X9_goesOn_l4 (some 51) (nI n) (nI i - 1) h := by
          unfold f_X9_goesOn_l4
          exact mLoop_inl (x := nI i) B
        rw [en, el]
        exact ih (by omega)
  have OPEN : f_X9_goesOn (some 51) (nI n) h = f_X9_goesOn_l4 (some 51) (nI n) (nI (n - 1) - 1) h := by
    unfold f_X9_goesOn
    rw [m.is, qbind]
    congr 1
    have D : ∀ a, a < 7 → 0 < a → nI a - 2 = nI (a - 1) - 1 := by decide +kernel
    exact D n (by omega) h0
  rw [OPEN]
  unfold qNxt
  rcases L4 (n - 1) (by omega) with ⟨r1, r2⟩ | ⟨pp, h', r1, r2, r3⟩
  · left
    rw [r1]; exact ⟨rfl, r2⟩
  · right
    rw [r1]; exact ⟨_, h', rfl, r2, r3⟩
end QGO
