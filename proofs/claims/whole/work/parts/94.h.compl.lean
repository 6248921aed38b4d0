/-! PURE: completions, no machine -/
def qOkc (n k0 : Nat) (c : Nat → Nat) (k : Nat) : Bool := (decide (k ≤ k0) || decide (c (k - 1) < c k)) && decide (∀ i, i < k → qPe n (c i) (c k) = true)
theorem qOkc_congr {n k0 : Nat} {c c' : Nat → Nat} {k : Nat} (h : ∀ e, e ≤ k → c' e = c e) : qOkc n k0 c' k = qOkc n k0 c k := by
  unfold qOkc
  rw [h k (Nat.le_refl k), h (k - 1) (by omega)]
  congr 1
  rw [decide_eq_decide]
  constructor <;> intro z i hi <;> have := z i hi
  · rw [h i (by omega)] at this; exact this
  · rw [h i (by omega)]; exact this
theorem qFnd_lex {ok : (Nat → Nat) → Nat → Bool} {N : Nat} (hok : ∀ {c c' : Nat → Nat} {k : Nat}, (∀ e, e ≤ k → c' e = c e) → ok c' k = ok c k) : ∀ {d k : Nat} {c r : Nat → Nat}, qFnd ok N d k c = some r → ∀ c', (∀ e, e < k → c' e = c e) → (∀ e, k ≤ e → e < k + d → c' e < N ∧ ok c' e = true) → ∀ e, k ≤ e → e < k + d → (∀ e', k ≤ e' → e' < e → r e' = c' e') → r e ≤ c' e := by
  intro d
  induction d with
  | zero => intro k c r _ c' _ _ e h1 h2; omega
  | succ d ih =>
    intro k c r h c' hc hv e h1 h2 heq
    obtain ⟨u, a1, a2, a3, a4⟩ := qScan_some.mp h
    by_cases hk : ok (va_up c k u) k = true
    · rw [if_pos hk] at a3
      have rk : r k = u := by rw [(qFnd_below a3).1 k (by omega), qVs]
      have same : ∀ e, e ≤ k → va_up c k (c' k) e = c' e := by
        intro e he
        by_cases z : e = k
        · rw [z, qVs]
        · rw [qVn z, hc e (by omega)]
      have le : u ≤ c' k := by
        by_cases z : u ≤ c' k
        · exact z
        · exfalso
          have hn := a4 (c' k) (Nat.zero_le _) (by omega)
          rw [if_pos (by rw [← (hv k (Nat.le_refl k) (by omega)).2]; exact hok same)] at hn
          obtain ⟨r', hr'⟩ := (qFnd_ex hok).mpr (show ∃ c'', (∀ e, e < k + 1 → c'' e = va_up c k (c' k) e) ∧ ∀ e, k + 1 ≤ e → e < k + 1 + d → c'' e < N ∧ ok c'' e = true from ⟨c', fun e he => (same e (by omega)).symm, fun e e1 e2 => hv e (by omega) (by omega)⟩)
          rw [hr'] at hn; cases hn
      by_cases z : e = k
      · rw [z, rk]; exact le
      · have hkk := heq k (Nat.le_refl k) (by omega)
        refine ih a3 c' (fun e' he' => ?_) (fun e' e1 e2 => hv e' (by omega) (by omega)) e (by omega) (by omega) (fun e' e1 e2 => heq e' (by omega) e2)
        by_cases y : e' = k
        · rw [y, qVs, ← rk, hkk]
        · rw [qVn y, hc e' (by omega)]
    · rw [if_neg hk] at a3; cases a3
theorem qFnd_cong2 {ok ok' : (Nat → Nat) → Nat → Bool} {N : Nat} : ∀ {d k : Nat} {c : Nat → Nat}, (∀ c' j, k ≤ j → (∀ e, e < k → c' e = c e) → ok c' j = ok' c' j) → qFnd ok N d k c = qFnd ok' N d k c := by
  intro d
  induction d with
  | zero => intro k c _; rfl
  | succ d ih =>
    intro k c h
    have : (fun t => if ok (va_up c k t) k then qFnd ok N d (k + 1) (va_up c k t) else none) = (fun t => if ok' (va_up c k t) k then qFnd ok' N d (k + 1) (va_up c k t) else none) := by
      funext t
      rw [h (va_up c k t) k (Nat.le_refl k) (fun e he => qVn (by omega)), ih fun c' j hj hc' => h c' j (by omega) fun e he => by rw [hc' e (by omega), qVn (by omega)]]
    show qScan _ N 0 = qScan _ N 0
    rw [this]
theorem qPe_sym {n a b : Nat} : qPe n a b = qPe n b a := by unfold qPe; rw [Nat.xor_comm]
theorem qPe_c {n a b : Nat} (ha : a < 2 ^ n) (hb : b < 2 ^ n) (hn : n ≤ 32) : qPe n a (b ^^^ (2 ^ n - 1)) = qPe n a b := by
  unfold qPe
  rw [decide_eq_decide, ← Nat.xor_assoc]
  have := qp_compl (Nat.xor_lt_two_pow ha hb) hn
  omega
/-- the first completion of all has lesser halves alone -/
theorem qCmp_low {n k0 : Nat} (hn0 : 0 < n) (hn : n ≤ 28) {c r : Nat → Nat} (hc : ∀ e, e < k0 → c e < 2 ^ n) (hk : k0 ≤ n) (h : qFnd (qOkc n k0) (2 ^ n) (n - k0) k0 c = some r) : ∀ e, k0 ≤ e → e < n → r e < 2 ^ (n - 1) := by
  intro e0 he0 hen
  obtain ⟨rb, rN⟩ := qFnd_below h
  have rok := qFnd_ok (ok := qOkc n k0) (fun h => qOkc_congr h) h
  have pw : 2 ^ n = 2 ^ (n - 1) * 2 := by rw [← Nat.pow_succ]; congr 1; omega
  have rlt : ∀ e, e < n → r e < 2 ^ n := by
    intro e he
    by_cases z : e < k0
    · rw [rb e z]; exact hc e z
    · exact rN e (by omega) (by omega)
  have ris : ∀ e, k0 < e → e < n → r (e - 1) < r e := by
    intro e h1 h2
    have := rok e (by omega) (by omega)
    unfold qOkc at this
    rw [Bool.and_eq_true, Bool.or_eq_true, decide_eq_true_eq, decide_eq_true_eq] at this
    rcases this.1 with z | z
    · omega
    · exact z
  have prp : ∀ e, k0 ≤ e → e < n → ∀ i, i < e → qPe n (r i) (r e) = true := by
    intro e h1 h2
    have := rok e h1 (by omega)
    unfold qOkc at this
    rw [Bool.and_eq_true, decide_eq_true_eq] at this
    exact this.2
  have up : ∀ d a, k0 ≤ a → a + d < n → r a ≤ r (a + d) := by
    intro d
    induction d with
    | zero => intro a _ _; exact Nat.le_refl _
    | succ d ih =>
      intro a h1 h2
      have := ih a h1 (by omega)
      have := ris (a + (d + 1)) (by omega) h2
      rw [show a + (d + 1) - 1 = a + d by omega] at this
      omega
  refine Classical.byContradiction fun hbig => ?_
  -- the last word
  have hw : 2 ^ (n - 1) ≤ r (n - 1) := by
    have := up (n - 1 - e0) e0 he0 (by omega)
    rw [show e0 + (n - 1 - e0) = n - 1 by omega] at this
    omega
  have hwl := rlt (n - 1) (by omega)
  have ew : r (n - 1) ^^^ (2 ^ n - 1) = 2 ^ n - 1 - r (n - 1) := qXm hwl
  generalize hw' : 2 ^ n - 1 - r (n - 1) = w' at ew
  have w'lt : w' < 2 ^ (n - 1) := by omega
  have nep : ∀ i, i < n - 1 → k0 ≤ n - 1 → r i ≠ w' := by
    intro i hi _ he
    have p := prp (n - 1) (by omega) (by omega) i hi
    rw [he, ← ew] at p
    unfold qPe at p
    rw [decide_eq_true_eq, Nat.xor_comm (r (n - 1)), Nat.xor_assoc, Nat.xor_self, Nat.xor_zero] at p
    have := qp_compl (w := 0) (n := n) (Nat.two_pow_pos n) (by omega)
    have q0 : qp 0 = 0 := by decide
    rw [Nat.zero_xor, q0] at this
    omega
  -- where it goes
  obtain ⟨q, q1, q2, q3, q4⟩ : ∃ q, k0 ≤ q ∧ q ≤ n - 1 ∧ (∀ i, k0 ≤ i → i < q → r i < w') ∧ (q < n - 1 → w' < r q) := by
    rcases qLeast (fun i => ¬ (k0 ≤ i ∧ w' < r i)) (n - 1) with hall | ⟨q, q1, q2, q3⟩
    · refine ⟨n - 1, by omega, Nat.le_refl _, fun i h1 h2 => ?_, fun z => by omega⟩
      have := hall i h2
      have := nep i h2 (by omega)
      omega
    · have q2' := Classical.byContradiction q2
      refine ⟨q, q2'.1, by omega, fun i h1 h2 => ?_, fun _ => q2'.2⟩
      have := q3 i h2
      have := nep i (by omega) (by omega)
      omega
  let c2 : Nat → Nat := fun e => if e < q then r e else if e = q then w' else r (e - 1)
  have c2a : ∀ e, e < q → c2 e = r e := fun e h => if_pos h
  have c2b : c2 q = w' := by show (if q < q then _ else _) = _; rw [if_neg (by omega), if_pos rfl]
  have c2c : ∀ e, q < e → c2 e = r (e - 1) := fun e h => by show (if e < q then _ else _) = _; rw [if_neg (by omega), if_neg (by omega)]
  have pw' : ∀ i, i < n - 1 → qPe n (r i) w' = true := fun i hi => by
    rw [← ew, qPe_c (rlt i (by omega)) hwl (by omega)]
    exact prp (n - 1) (by omega) (by omega) i hi
  have any : ∀ a b, a < b → b < n → k0 ≤ b → qPe n (r a) (r b) = true := fun a b h1 h2 h3 => prp b h3 h2 a h1
  have bad := qFnd_lex (ok := qOkc n k0) (fun h => qOkc_congr h) h c2 (fun e he => by rw [c2a e (by omega), rb e he]) (fun e e1 e2 => ?_) q q1 (by omega) (fun e' e1 e2 => (c2a e' e2).symm)
  · rw [c2b] at bad
    by_cases z : q < n - 1
    · have := q4 z; omega
    · have : q = n - 1 := by omega
      rw [this] at bad; omega
  · refine ⟨?_, ?_⟩
    · rcases Nat.lt_trichotomy e q with z | z | z
      · rw [c2a e z]; exact rlt e (by omega)
      · rw [z, c2b]; omega
      · rw [c2c e z]; exact rlt _ (by omega)
    · unfold qOkc
      rw [Bool.and_eq_true, Bool.or_eq_true, decide_eq_true_eq, decide_eq_true_eq, decide_eq_true_eq]
      refine ⟨?_, fun i hi => ?_⟩
      · by_cases y : e ≤ k0
        · exact Or.inl y
        · right
          rcases Nat.lt_trichotomy e q with z | z | z
          · rw [c2a e z, c2a (e - 1) (by omega)]; exact ris e (by omega) (by omega)
          · rw [c2a (e - 1) (by omega), z, c2b]; exact q3 (q - 1) (by omega) (by omega)
          · rw [c2c e z]
            by_cases x : e = q + 1
            · rw [show e - 1 = q by omega, c2b]; exact q4 (by omega)
            · rw [c2c (e - 1) (by omega)]; exact ris (e - 1) (by omega) (by omega)
      · rcases Nat.lt_trichotomy e q with z | z | z
        · rw [c2a e z, c2a i (by omega)]; exact any i e hi (by omega) e1
        · subst z; rw [c2b, c2a i hi]; exact pw' i (by omega)
        · rw [c2c e z]
          rcases Nat.lt_trichotomy i q with y | y | y
          · rw [c2a i y]; exact any i (e - 1) (by omega) (by omega) (by omega)
          · rw [y, c2b, qPe_sym]; exact pw' (e - 1) (by omega)
          · rw [c2c i y]; exact any (i - 1) (e - 1) (by omega) (by omega) (by omega)
/-- all words or the lesser halves alone: the same -/
theorem qCmp_half {n k0 : Nat} (hn0 : 0 < n) (hn : n ≤ 28) {c : Nat → Nat} (hc : ∀ e, e < k0 → c e < 2 ^ n) (hk : k0 ≤ n) : (∃ r r', qFnd (qOkc n k0) (2 ^ n) (n - k0) k0 c = some r ∧ qFnd (qOkc n k0) (2 ^ (n - 1)) (n - k0) k0 c = some r' ∧ ∀ e, e < n → r e = r' e) ∨ (qFnd (qOkc n k0) (2 ^ n) (n - k0) k0 c = none ∧ qFnd (qOkc n k0) (2 ^ (n - 1)) (n - k0) k0 c = none) := by
  have pw : 2 ^ (n - 1) ≤ 2 ^ n := Nat.pow_le_pow_right (by decide) (by omega)
  cases h : qFnd (qOkc n k0) (2 ^ n) (n - k0) k0 c with
  | some r =>
    left
    have low := qCmp_low hn0 hn hc hk h
    have rok := qFnd_ok (ok := qOkc n k0) (fun h => qOkc_congr h) h
    obtain ⟨rb, rN⟩ := qFnd_below h
    obtain ⟨r', hr'⟩ := (qFnd_ex (ok := qOkc n k0) (N := 2 ^ (n - 1)) (d := n - k0) (k := k0) (c := c) (fun h => qOkc_congr (n := n) (k0 := k0) h)).mpr ⟨r, rb, fun e e1 e2 => ⟨low e e1 (by omega), rok e e1 e2⟩⟩
    obtain ⟨rb', rN'⟩ := qFnd_below hr'
    have rok' := qFnd_ok (ok := qOkc n k0) (fun h => qOkc_congr h) hr'
    refine ⟨r, r', rfl, hr', ?_⟩
    intro e
    induction e using Nat.strongRecOn with
    | ind e ih =>
      intro he
      by_cases z : e < k0
      · rw [rb e z, rb' e z]
      · have a := qFnd_lex (ok := qOkc n k0) (fun h => qOkc_congr h) h r' rb' (fun e e1 e2 => ⟨Nat.lt_of_lt_of_le (rN' e e1 e2) pw, rok' e e1 e2⟩) e (by omega) (by omega) (fun e' e1 e2 => ih e' e2 (by omega))
        have b := qFnd_lex (ok := qOkc n k0) (fun h => qOkc_congr h) hr' r rb (fun e e1 e2 => ⟨low e e1 (by omega), rok e e1 e2⟩) e (by omega) (by omega) (fun e' e1 e2 => (ih e' e2 (by omega)).symm)
        omega
  | none =>
    right
    refine ⟨rfl, ?_⟩
    cases h' : qFnd (qOkc n k0) (2 ^ (n - 1)) (n - k0) k0 c with
    | none => rfl
    | some r' =>
      exfalso
      obtain ⟨rb', rN'⟩ := qFnd_below h'
      have rok' := qFnd_ok (ok := qOkc n k0) (fun h => qOkc_congr h) h'
      obtain ⟨r, hr⟩ := (qFnd_ex (ok := qOkc n k0) (N := 2 ^ n) (d := n - k0) (k := k0) (c := c) (fun h => qOkc_congr (n := n) (k0 := k0) h)).mpr ⟨r', rb', fun e e1 e2 => ⟨Nat.lt_of_lt_of_le (rN' e e1 e2) pw, rok' e e1 e2⟩⟩
      rw [h] at hr; cases hr
def qHad (n : Nat) : List Nat := if n = 1 then [0] else if n = 2 then [0, 1] else if n = 4 then [0, 3, 5, 6] else if n = 8 then [0, 15, 51, 60, 85, 90, 102, 105] else [0, 63, 455, 729, 874, 948, 1260, 1393, 1434, 1622, 1699, 1805]
def qOn : List Nat := [1, 2, 4, 8, 12]
theorem qHad_ok : ∀ n, n ∈ qOn → ∀ e, e < n → (qHad n).getD e 0 < 2 ^ n ∧ qOkc n 0 (fun e => (qHad n).getD e 0) e = true := by decide +kernel
theorem qHad_0 : ∀ n, n ∈ qOn → (qHad n).getD 0 0 = 0 ∧ 0 < n ∧ n ≤ 12 := by decide
/-- what the model finds from the rows that are told, and the class from these, or from row 0 with + alone -/
theorem qCmp {n k0 : Nat} (hn : n ∈ qOn) (hk : k0 ≤ n) {c : Nat → Nat} (hc : ∀ e, e < k0 → c e < 2 ^ n) : (∃ r r', qFnd (qOkc n k0) (2 ^ n) (n - k0) k0 c = some r ∧ qFnd (qOkc n (max k0 1)) (2 ^ (n - 1)) (n - max k0 1) (max k0 1) (if k0 = 0 then va_up c 0 0 else c) = some r' ∧ ∀ e, e < n → r e = r' e) ∨ (qFnd (qOkc n k0) (2 ^ n) (n - k0) k0 c = none ∧ qFnd (qOkc n (max k0 1)) (2 ^ (n - 1)) (n - max k0 1) (max k0 1) (if k0 = 0 then va_up c 0 0 else c) = none) := by
  obtain ⟨z0, hn0, hn12⟩ := qHad_0 n hn
  by_cases h0 : k0 = 0
  · subst h0
    rw [if_pos rfl, show max 0 1 = 1 from rfl, Nat.sub_zero]
    have V : ∀ e, 0 ≤ e → e < 0 + n → (fun e => (qHad n).getD e 0) e < 2 ^ n ∧ qOkc n 0 (fun e => (qHad n).getD e 0) e = true := fun e _ he => qHad_ok n hn e (by omega)
    obtain ⟨r, hr⟩ := (qFnd_ex (ok := qOkc n 0) (N := 2 ^ n) (d := n) (k := 0) (c := c) (fun h => qOkc_congr (n := n) (k0 := 0) h)).mpr ⟨fun e => (qHad n).getD e 0, fun e he => absurd he (Nat.not_lt_zero e), V⟩
    have r0 : r 0 = 0 := by
      have := qFnd_lex (ok := qOkc n 0) (fun h => qOkc_congr h) hr (fun e => (qHad n).getD e 0) (fun e he => absurd he (Nat.not_lt_zero e)) V 0 (Nat.le_refl 0) (by omega) (fun e' h1 h2 => absurd h2 (Nat.not_lt_zero e'))
      have z0' : (fun e => (qHad n).getD e 0) 0 = 0 := z0
      omega
    obtain ⟨m, rfl⟩ : ∃ m, n = m + 1 := ⟨n - 1, by omega⟩
    obtain ⟨u, u1, u2, u3, u4⟩ := qScan_some.mp hr
    by_cases hok : qOkc (m + 1) 0 (va_up c 0 u) 0 = true
    · rw [if_pos hok] at u3
      have ru : r 0 = u := by rw [(qFnd_below u3).1 0 (by omega), qVs]
      have hu0 : u = 0 := by omega
      subst hu0
      have eq2 : qFnd (qOkc (m + 1) 0) (2 ^ (m + 1)) m 1 (va_up c 0 0) = qFnd (qOkc (m + 1) 1) (2 ^ (m + 1)) m 1 (va_up c 0 0) := qFnd_cong2 fun c' j hj hc' => by
        have c0 : c' 0 = 0 := by rw [hc' 0 (by omega), qVs]
        unfold qOkc
        by_cases j1 : j = 1
        · subst j1
          have e1 : decide (1 ≤ 0) = false := rfl
          have e2 : decide (1 ≤ 1) = true := rfl
          rw [e1, e2, Bool.false_or, Bool.true_or, Bool.true_and]
          by_cases hp : ∀ i, i < 1 → qPe (m + 1) (c' i) (c' 1) = true
          · have p0 := hp 0 (by decide)
            rw [decide_eq_true hp, Bool.and_true, decide_eq_true_eq]
            unfold qPe at p0
            rw [decide_eq_true_eq, c0, Nat.zero_xor] at p0
            have q0 : qp 0 = 0 := by decide
            show c' 0 < c' 1
            rw [c0]
            by_cases x : c' 1 = 0
            · rw [x, q0] at p0; omega
            · omega
          · rw [decide_eq_false hp, Bool.and_false]
        · rw [decide_eq_false (show ¬ j ≤ 0 by omega), decide_eq_false (show ¬ j ≤ 1 by omega)]
      rw [eq2] at u3
      have H := qCmp_half (n := m + 1) (k0 := 1) hn0 (by omega) (c := va_up c 0 0) (fun e he => by rw [show e = 0 by omega, qVs]; exact Nat.two_pow_pos _) (by omega)
      rw [show m + 1 - 1 = m by omega] at H ⊢
      rcases H with ⟨ra, rb, b1, b2, b3⟩ | ⟨b1, -⟩
      · left
        rw [b1] at u3
        have : ra = r := Option.some.inj u3
        subst this
        exact ⟨ra, rb, hr, b2, b3⟩
      · rw [b1] at u3; cases u3
    · rw [if_neg hok] at u3; cases u3
  · rw [if_neg h0, show max k0 1 = k0 by omega]
    exact qCmp_half hn0 (by omega) hc hk
