/-! PURE: completed, the class's search -/
theorem qXf31 : qXf 31 12 := by unfold qXf; decide
theorem qXf32 : qXf 32 1600 := by unfold qXf; decide
def qBd12 (n d : Nat) : Nat := if n ≤ 8 then 128 else if d = 1 then 462 else if d = 2 then 200 else 82
def qEd12 (n d : Nat) : Nat := if n ≤ 8 then 128 * d else if d = 1 then 462 else 662 + 82 * (d - 2)
theorem qEd_s {n d : Nat} (hd : 1 ≤ d) : qEd12 n (d + 1) = qEd12 n d + qBd12 n (d + 1) := by
  unfold qEd12 qBd12
  by_cases h : n ≤ 8
  · rw [if_pos h, if_pos h, if_pos h]; omega
  · rw [if_neg h, if_neg h, if_neg h]
    by_cases h1 : d = 1
    · subst h1; decide
    · rw [if_neg (by omega), if_neg h1, if_neg (by omega), if_neg (by omega)]; omega
theorem qEd_lt {n d : Nat} (hn : n ≤ 12) (hd : d ≤ n) : qEd12 n d < 1600 := by
  unfold qEd12
  by_cases h : n ≤ 8
  · rw [if_pos h]; omega
  · rw [if_neg h]
    by_cases h1 : d = 1
    · rw [if_pos h1]; omega
    · rw [if_neg h1]; omega
/-- rows that stand right against each other -/
def qPf (n : Nat) (c : Nat → Nat) (d : Nat) : Prop := (∀ e, e < d → c e < 2 ^ n) ∧ ∀ b, b < d → ∀ a, a < b → qPe n (c a) (c b) = true
theorem qBd_ok {n : Nat} (hn : n ∈ qOn) {c : Nat → Nat} {d : Nat} (hd : 1 ≤ d) (p : qPf n c d) : qc (2 ^ (n - 1)) (fun w => decide (∀ i, i < d → qPe n (c i) w = true)) ≤ qBd12 n d := by
  by_cases h8 : n ≤ 8
  · have h1 := qc_le (2 ^ (n - 1)) (fun w => decide (∀ i, i < d → qPe n (c i) w = true))
    have h2 : 2 ^ (n - 1) ≤ 2 ^ 7 := Nat.pow_le_pow_right (by decide) (by omega)
    unfold qBd12
    rw [if_pos h8]
    omega
  · have h12 : n = 12 := by
      simp only [qOn, List.mem_cons, List.not_mem_nil, or_false] at hn
      omega
    subst h12
    have sub : ∀ k, k ≤ d → ∀ w, decide (∀ i, i < d → qPe 12 (c i) w = true) = true → ∀ i, i < k → qPe 12 w (c i) = true := by
      intro k hk w h i hi
      rw [decide_eq_true_eq] at h
      rw [qPe_sym]; exact h i (by omega)
    unfold qBd12
    rw [if_neg (by decide)]
    by_cases d1 : d = 1
    · rw [if_pos d1]
      refine Nat.le_trans (qc_mono fun w _ h => ?_) (qB_1 (p.1 0 (by omega)))
      exact sub 1 (by omega) w h 0 (by decide)
    · rw [if_neg d1]
      by_cases d2 : d = 2
      · rw [if_pos d2]
        refine Nat.le_trans (qc_mono fun w _ h => ?_) (qB_2 (p.1 0 (by omega)) (p.1 1 (by omega)) (p.2 1 (by omega) 0 (by decide)))
        rw [sub 2 (by omega) w h 0 (by decide), sub 2 (by omega) w h 1 (by decide)]; rfl
      · rw [if_neg d2]
        refine Nat.le_trans (qc_mono fun w _ h => ?_) (qB_3 (p.1 0 (by omega)) (p.1 1 (by omega)) (p.1 2 (by omega)) (p.2 1 (by omega) 0 (by decide)) (p.2 2 (by omega) 0 (by decide)) (p.2 2 (by omega) 1 (by decide)))
        rw [sub 3 (by omega) w h 0 (by decide), sub 3 (by omega) w h 1 (by decide), sub 3 (by omega) w h 2 (by decide)]; rfl
theorem qc_same {b x : Nat} {Q : Nat → Bool} (hbx : b ≤ x) (h : qc b Q = qc x Q) : ∀ w, b ≤ w → w < x → Q w = false := by
  intro w h1 h2
  cases hq : Q w
  · rfl
  · exfalso
    have a := qc_lt hq h2
    have : qc b Q ≤ qc w Q := by
      have e := qc_add b (w - b) Q
      rw [show b + (w - b) = w by omega] at e
      omega
    omega
theorem qc_sub {b x : Nat} {Q : Nat → Bool} (hbx : b ≤ x) (h : ∀ w, b ≤ w → w < x → Q w = false) : qc b Q = qc x Q := (qc_ext hbx h).symm
theorem qc_le2 {b x : Nat} (hbx : b ≤ x) (Q : Nat → Bool) : qc b Q ≤ qc x Q := by
  have e := qc_add b (x - b) Q
  rw [show b + (x - b) = x by omega] at e
  omega
section QEX
variable {A : qA} {n cnt : Nat}
theorem qX.c30 {h : mH} (q : qX h A) : mIs h (some 30) 0 = some () ∧ mGR h (some 30) 0 0 = some (some 31) ∧ mGR h (some 30) 0 1 = some (some 32) := by
  have e : h.2 30 = .inr (0, [.ref 31, .ref 32]) := by
    obtain ⟨a1, a2, ⟨f3, a3, a3'⟩, a4, ⟨g, a5, a5'⟩, ⟨g2, a6, a6'⟩, q7⟩ := q
    exact q7.2.1
  exact ⟨qIs (by rw [q.1]; decide) e, qGR (by rw [q.1]; decide) e rfl, qGR (by rw [q.1]; decide) e rfl⟩
def qC31 (k : Nat) : Prop := k = 31 ∨ k = 32
theorem qPe_I {n a b : Nat} (hn : n ≤ 28) : (nI n - nI (2 * qp (a ^^^ b)) = 0) ↔ qPe n a b = true := by
  unfold qPe
  have := qp_le (a ^^^ b)
  rw [decide_eq_true_eq, Int32.sub_eq_iff_eq_add, Int32.zero_add, qeq (by omega) (by omega)]
  exact eq_comm
/-- what may follow at depth d -/
def qNx (n cnt : Nat) (c : Nat → Nat) (d w : Nat) : Bool := qOkc n cnt (va_up c d w) d
theorem qNx_at {c : Nat → Nat} {d : Nat} (hd : 1 ≤ d) (w : Nat) : qNx n cnt c d w = ((decide (d ≤ cnt) || decide (c (d - 1) < w)) && decide (∀ i, i < d → qPe n (c i) w = true)) := by
  unfold qNx qOkc
  rw [qVs, qVn (by omega)]
  congr 1
  rw [decide_eq_decide]
  constructor <;> intro z i hi <;> have := z i hi
  · rw [qVn (by omega)] at this; exact this
  · rw [qVn (by omega)]; exact this
theorem qNx_next {c : Nat → Nat} {d x : Nat} (hd : 1 ≤ d) (hcd : cnt ≤ d) (hx : qNx n cnt c d x = true) (w : Nat) : qNx n cnt (va_up c d x) (d + 1) w = (decide (x < w) && (qNx n cnt c d w && qPe n x w)) := by
  rw [qNx_at (by omega), qNx_at hd, decide_eq_false (show ¬ d + 1 ≤ cnt by omega), Bool.false_or, show d + 1 - 1 = d by omega, qVs]
  rw [qNx_at hd, Bool.and_eq_true] at hx
  cases hl : decide (x < w)
  · rfl
  · rw [decide_eq_true_eq] at hl
    have : (decide (d ≤ cnt) || decide (c (d - 1) < w)) = true := by
      rw [Bool.or_eq_true, decide_eq_true_eq, decide_eq_true_eq]
      have h1 := hx.1
      rw [Bool.or_eq_true, decide_eq_true_eq, decide_eq_true_eq] at h1
      omega
    rw [this, Bool.true_and, Bool.true_and, Bool.true_and]
    apply qBeq
    rw [decide_eq_true_eq, Bool.and_eq_true, decide_eq_true_eq]
    constructor
    · intro h
      refine ⟨fun i hi => ?_, ?_⟩
      · have := h i (by omega); rw [qVn (by omega)] at this; exact this
      · have := h d (by omega); rw [qVs] at this; exact this
    · rintro ⟨h1, h2⟩ i hi
      by_cases z : i = d
      · rw [z, qVs]; exact h2
      · rw [qVn z]; exact h1 i (by omega)
def qLs (f : Nat → Int32) (s N : Nat) (Q : Nat → Bool) : Prop := ∀ w, w < N → Q w = true → f (s + qc w Q) = nI w
/-- the list behind a word -/
theorem x_filter {F : Option Nat → Int32 → Int32 → Int32 → Int32 → mH → Option (Int32 × mH)} {Q Q' : Nat → Bool} {N d s e x : Nat} (hn : n ≤ 28) (hN : N ≤ 2 ^ 28) (hx : x < 2 ^ 28) (hQ' : ∀ w, Q' w = (decide (x < w) && (Q w && qPe n x w))) (hl : e = s + qc N Q) (hcap : e + qc N Q' < 1600) (v6 : Int32) : ∀ (m k b : Nat) (h : mH) (f32 : Nat → Int32), k + m = e → s ≤ k → b ≤ N → x < b → qc b Q = k - s → qX h A → h.2 32 = .inl (1600, .inl f32) → qLs f32 s N Q → (∀ w, w < b → Q' w = true → f32 (e + qc w Q') = nI w) → ∃ h' g32, f_X0_extend_l65 F (some 30) (nI n) (nI d) (nI e) (some 32) v6 (nI x) (nI (e + qc b Q')) (nI k) h = f_X0_extend_c114 F (some 30) (nI n) (nI d) (nI e) (some 32) v6 (nI (e + qc N Q')) h' ∧ qX h' A ∧ qSame (fun k => k = 32) h h' ∧ h'.2 32 = .inl (1600, .inl g32) ∧ (∀ p, p < e → g32 p = f32 p) ∧ qLs g32 e N Q' := by
  intro m
  induction m with
  | zero =>
    intro k b h f32 hk hsk hb hxb hqb q e32 l lq
    have none_left : ∀ w, b ≤ w → w < N → Q w = false := qc_same hb (by omega)
    have eb : qc b Q' = qc N Q' := qc_sub hb fun w h1 h2 => by rw [hQ', none_left w h1 h2]; simp
    refine ⟨h, f32, ?_, q, qSame.rf, e32, fun _ _ => rfl, fun w hw hq => ?_⟩
    · rw [eb]
      unfold f_X0_extend_l65
      rw [mLoop_eq]
      show (f_X0_extend_b65 F (some 30) (nI n) (nI d) (nI e) (some 32) v6 (nI x) (nI (e + qc N Q')) (nI k) h).bind _ = _
      unfold f_X0_extend_b65
      rw [if_pos (by rw [qle (by omega) (by omega)]; omega)]
      cases f_X0_extend_c114 F (some 30) (nI n) (nI d) (nI e) (some 32) v6 (nI (e + qc N Q')) h <;> rfl
    · by_cases z : w < b
      · exact lq w z hq
      · rw [hQ', none_left w (by omega) hw] at hq
        simp at hq
  | succ m ih =>
    intro k b h f32 hk hsk hb hxb hqb q e32 l lq
    obtain ⟨y, y1, y2, y3⟩ := qc_ex (p := Q) (n := N) (w := k - s) (by omega)
    have hby : b ≤ y := by
      by_cases z : b ≤ y
      · exact z
      · have := qc_lt y2 (show y < b by omega); omega
    have gap : ∀ w, b ≤ w → w < y → Q w = false := qc_same hby (by omega)
    have ey : qc b Q' = qc y Q' := qc_sub hby fun w h1 h2 => by rw [hQ', gap w h1 h2]; simp
    have fk : f32 k = nI y := by have := l y y1 y2; rw [y3, show s + (k - s) = k by omega] at this; exact this
    have hle : qc y Q' ≤ qc N Q' := qc_le2 (by omega) Q'
    have hqy : qc (y + 1) Q = k + 1 - s := by show qc y Q + (Q y).toNat = _; rw [y2, y3]; show k - s + 1 = _; omega
    have qp' := qp_le (x ^^^ y)
    have PRE : f_X0_extend_b65 F (some 30) (nI n) (nI d) (nI e) (some 32) v6 (nI x) (nI (e + qc b Q')) (nI k) h = if qPe n x y = true then (mSI h (some 32) (nI (e + qc y Q')) (nI y)).bind fun h6 => some (Sum.inl (nI (e + qc y Q') + 1, nI (k + 1), h6)) else some (Sum.inl (nI (e + qc y Q'), nI (k + 1), h)) := by
      have hxy : x ^^^ y < 2 ^ 28 := Nat.xor_lt_two_pow hx (by omega)
      unfold f_X0_extend_b65
      rw [ey, if_neg (by rw [qle (by omega) (by omega)]; omega), if_neg (by rw [show (1600 : Int32) = nI 1600 from rfl, qle (by decide) (by omega)]; omega), q.atW e32 (by decide) (by decide) (by omega), qbind, fk, qI_xor, x_signSum (by omega), qbind, nI_1 k]
      by_cases z : qPe n x y = true
      · rw [if_pos ((qPe_I hn).mpr z), if_pos z, qbind]
      · rw [if_neg (fun w => z ((qPe_I hn).mp w)), if_neg z]
    cases hp : qPe n x y
    · have hq' : Q' y = false := by rw [hQ', hp]; simp
      have e1 : qc (y + 1) Q' = qc y Q' := by show qc y Q' + (Q' y).toNat = _; rw [hq']; rfl
      obtain ⟨h', g32, a1, a2, a3, a4, a5, a6⟩ := ih (k + 1) (y + 1) h f32 (by omega) (by omega) (by omega) (by omega) hqy q e32 l (fun w hw hq => by
        by_cases z : w < b
        · exact lq w z hq
        · by_cases z2 : w = y
          · rw [z2, hq'] at hq; cases hq
          · rw [hQ', gap w (by omega) (by omega)] at hq; simp at hq)
      refine ⟨h', g32, ?_, a2, a3, a4, a5, a6⟩
      rw [e1] at a1
      rw [← a1]
      unfold f_X0_extend_l65
      refine mLoop_inl ?_
      show f_X0_extend_b65 F (some 30) (nI n) (nI d) (nI e) (some 32) v6 (nI x) (nI (e + qc b Q')) (nI k) h = _
      rw [PRE, hp, if_neg (by decide)]
    · have hq' : Q' y = true := by rw [hQ', hp, y2, decide_eq_true (by omega)]; rfl
      have e1 : qc (y + 1) Q' = qc y Q' + 1 := by show qc y Q' + (Q' y).toNat = _; rw [hq']; rfl
      have hlt := qc_lt hq' y1
      obtain ⟨h1, p1, q1, e321, s1⟩ := x_stW q qXf32 e32 (i := e + qc y Q') (by omega) (nI y)
      obtain ⟨h', g32, a1, a2, a3, a4, a5, a6⟩ := ih (k + 1) (y + 1) h1 _ (by omega) (by omega) (by omega) (by omega) hqy q1 e321 (fun w hw hq => by
        have := qc_lt hq hw
        rw [qUpn (by omega)]; exact l w hw hq) (fun w hw hq => by
        by_cases z2 : w = y
        · rw [z2, qUps]
        · have hwy : w < y := by omega
          have := qc_lt hq hwy
          rw [qUpn (by omega)]
          by_cases z : w < b
          · exact lq w z hq
          · rw [hQ', gap w (by omega) hwy] at hq; simp at hq)
      refine ⟨h', g32, ?_, a2, s1.trans a3, a4, fun p hp => by rw [a5 p hp, qUpn (by omega)], a6⟩
      rw [e1] at a1
      rw [← a1]
      unfold f_X0_extend_l65
      refine mLoop_inl ?_
      show f_X0_extend_b65 F (some 30) (nI n) (nI d) (nI e) (some 32) v6 (nI x) (nI (e + qc b Q')) (nI k) h = _
      rw [PRE, hp, if_pos rfl, p1, qbind, nI_1, Nat.add_assoc]
end QEX
