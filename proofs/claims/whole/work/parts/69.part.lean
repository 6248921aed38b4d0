/-! PURE: part. Sums over lines that rise -/
def qU (n : Nat) (f : Nat → Nat) (lo : Nat) : Nat := qSum (n - lo) (fun z => f (lo + z))
theorem qSum_sh (d : Nat) (f : Nat → Nat) : qSum (d + 1) f = f 0 + qSum d (fun z => f (z + 1)) := by
  induction d with
  | zero => show 0 + f 0 = f 0 + 0; omega
  | succ d ih =>
    show qSum (d + 1) f + f (d + 1) = f 0 + (qSum d (fun z => f (z + 1)) + f (d + 1))
    omega
theorem qSum_eq {d : Nat} {f g : Nat → Nat} (h : ∀ i, i < d → f i = g i) : qSum d f = qSum d g := by
  induction d with
  | zero => rfl
  | succ d ih =>
    show qSum d f + f d = qSum d g + g d
    rw [ih fun i hi => h i (by omega), h d (by omega)]
theorem qU_s {n lo : Nat} (f : Nat → Nat) (h : lo < n) : qU n f lo = f lo + qU n f (lo + 1) := by
  unfold qU
  rw [show n - lo = (n - (lo + 1)) + 1 by omega, qSum_sh]
  congr 1
  exact qSum_eq fun i _ => by rw [show lo + (i + 1) = lo + 1 + i by omega]
theorem qU_0 {n lo : Nat} (f : Nat → Nat) (h : n ≤ lo) : qU n f lo = 0 := by
  unfold qU
  rw [show n - lo = 0 by omega]
  rfl
theorem qU_eq {n lo : Nat} {f g : Nat → Nat} (h : ∀ i, lo ≤ i → i < n → f i = g i) : qU n f lo = qU n g lo := qSum_eq fun i hi => h (lo + i) (by omega) (by omega)
theorem qU_z {n lo : Nat} {f : Nat → Nat} (h : ∀ i, lo ≤ i → i < n → f i = 0) : qU n f lo = 0 := by
  have : qU n f lo = qU n (fun _ => 0) lo := qU_eq h
  rw [this]
  unfold qU
  induction n - lo with
  | zero => rfl
  | succ d ih => show qSum d _ + 0 = 0; rw [ih]
section QPT
variable (n p : Nat) (g : Nat → Nat) (L : Nat → Nat)
def qS : Nat → Nat → Nat → Nat
  | 0, x, _ => g x
  | k + 1, x, lo => qU n (fun i => if i = p then 0 else qS k (x ^^^ L i) (i + 1)) lo
def qSpt : Nat → Bool → Nat → Nat → Nat
  | 0, s, x, _ => if s then g x else 0
  | k + 1, s, x, lo => qU n (fun i => qSpt k (s || decide (i = p)) (x ^^^ L i) (i + 1)) lo
theorem qSpt_1 : ∀ (k x lo : Nat), p < lo → qSpt n p g L k true x lo = qS n p g L k x lo := by
  intro k
  induction k with
  | zero => intro x lo _; rfl
  | succ k ih =>
    intro x lo h
    refine qU_eq fun i h1 h2 => ?_
    rw [if_neg (by omega), Bool.true_or]
    exact ih _ _ (by omega)
theorem qSpt_0 : ∀ (k x lo : Nat), p < lo → qSpt n p g L k false x lo = 0 := by
  intro k
  induction k with
  | zero => intro x lo _; rfl
  | succ k ih =>
    intro x lo h
    refine qU_z fun i h1 h2 => ?_
    rw [Bool.false_or, decide_eq_false (by omega)]
    exact ih _ _ (by omega)
theorem qS_p (hp : p < n) (k x : Nat) : qS n p g L k x p = qS n p g L k x (p + 1) := by
  cases k with
  | zero => rfl
  | succ k =>
    show qU n _ p = qU n _ (p + 1)
    rw [qU_s _ hp, if_pos rfl, Nat.zero_add]
theorem qSpt_S (hp : p < n) : ∀ (k x d lo : Nat), lo + d = p → qSpt n p g L (k + 1) false x lo = qS n p g L k (x ^^^ L p) lo := by
  intro k
  induction k with
  | zero =>
    intro x d
    induction d with
    | zero =>
      intro lo h
      have h' : lo = p := by omega
      subst h'
      show qU n _ lo = _
      rw [qU_s _ hp, Bool.false_or, decide_eq_true rfl]
      have e : qU n (fun i => qSpt n lo g L 0 (false || decide (i = lo)) (x ^^^ L i) (i + 1)) (lo + 1) = 0 := qSpt_0 n lo g L 1 x (lo + 1) (by omega)
      rw [e]
      rfl
    | succ d ih =>
      intro lo h
      show qU n _ lo = _
      rw [qU_s _ (by omega), Bool.false_or, decide_eq_false (by omega)]
      have e : qU n (fun i => qSpt n p g L 0 (false || decide (i = p)) (x ^^^ L i) (i + 1)) (lo + 1) = _ := ih (lo + 1) (by omega)
      rw [e]
      show 0 + _ = _
      rw [Nat.zero_add]
      rfl
  | succ k ihk =>
    intro x d
    induction d with
    | zero =>
      intro lo h
      have h' : lo = p := by omega
      subst h'
      rw [qS_p n lo g L hp, ← qSpt_1 n lo g L (k + 1) _ _ (Nat.lt_succ_self lo)]
      show qU n _ lo = _
      rw [qU_s _ hp, Bool.false_or, decide_eq_true rfl]
      have e : qU n (fun i => qSpt n lo g L (k + 1) (false || decide (i = lo)) (x ^^^ L i) (i + 1)) (lo + 1) = 0 := qSpt_0 n lo g L (k + 2) x (lo + 1) (by omega)
      rw [e, Nat.add_zero]
    | succ d ih =>
      intro lo h
      show qU n _ lo = qU n _ lo
      rw [qU_s _ (show lo < n by omega), qU_s _ (show lo < n by omega), Bool.false_or, decide_eq_false (by omega), if_neg (by omega)]
      have e : qU n (fun i => qSpt n p g L (k + 1) (false || decide (i = p)) (x ^^^ L i) (i + 1)) (lo + 1) = _ := ih (lo + 1) (by omega)
      rw [e, ihk (x ^^^ L lo) d (lo + 1) (by omega), Nat.xor_assoc, Nat.xor_comm (L lo), ← Nat.xor_assoc]
      rfl
end QPT
def qG (n : Nat) (v : Int32) (x : Nat) : Nat := (decide (qAb n x = v)).toNat
section QPX
variable {h : mH} {A : qA} {L : Nat → Nat} {n p : Nat} {f : Nat → Int32}
theorem x_tr3 (q : qX h A) (e29 : h.2 29 = .inl (28, .inl f)) (hn : n ≤ 28) (hf : ∀ i, i < n → f i = nI (L i)) (hL : ∀ i, i < n → L i < 2 ^ 28) (hp : p < n) (v w4 w7 : Int32) {c x : Nat} (hc : c < n) (hcp : c ≠ p) (hx : x < 2 ^ 28) (acc : Nat) : f_X8_countTriples_l56 (some 1) (nI n) (nI p) w4 v (nI acc) w7 (nI c) (nI x) (nI c + 1) h = some (.inl (nI (acc + qS n p (qG n v) L 1 x (c + 1)), nI (c + 1))) := by
  unfold f_X8_countTriples_l56
  rw [nI_1]
  refine qLoopAcc (b := fun z : Int32 × Int32 => f_X8_countTriples_b56 (some 1) (nI n) (nI p) w4 v w7 (nI c) (nI x) z.1 z.2 h) (fun z => if c + 1 + z = p then 0 else qG n v (x ^^^ L (c + 1 + z))) (c + 1) (n - (c + 1)) acc (fun r => .inl (r, nI (c + 1))) ?_ ?_
  · intro z acc hz
    show f_X8_countTriples_b56 (some 1) (nI n) (nI p) w4 v w7 (nI c) (nI x) (nI acc) (nI (c + 1 + z)) h = _
    unfold f_X8_countTriples_b56
    rw [if_neg (by rw [qle (by omega) (by omega)]; omega), if_neg (by rw [qeq (by omega) (by omega)]; omega)]
    by_cases hd : c + 1 + z = p
    · rw [if_pos (by rw [hd]), if_pos hd, nI_1]; rfl
    · have hw : x ^^^ L (c + 1 + z) < 2 ^ 28 := Nat.xor_lt_two_pow hx (hL _ (by omega))
      rw [if_neg (by rw [qeq (by omega) (by omega)]; omega), if_neg hd, q.lines, qbind, q.atW e29 (by decide) (by decide) (by omega), qbind, hf _ (by omega), qI_xor, x_signSum (by omega), qbind, x_abs, qbind, nI_1, nI_1]
      unfold qG
      by_cases hc : qAb n (x ^^^ L (c + 1 + z)) = v
      · rw [if_pos hc, decide_eq_true hc]; rfl
      · rw [if_neg hc, decide_eq_false hc]; rfl
  · intro acc
    show f_X8_countTriples_b56 (some 1) (nI n) (nI p) w4 v w7 (nI c) (nI x) (nI acc) (nI (c + 1 + (n - (c + 1)))) h = _
    unfold f_X8_countTriples_b56
    rw [if_pos (by rw [qle (by omega) (by omega)]; omega), nI_1]
theorem x_tr2 (q : qX h A) (e29 : h.2 29 = .inl (28, .inl f)) (hn : n ≤ 28) (hf : ∀ i, i < n → f i = nI (L i)) (hL : ∀ i, i < n → L i < 2 ^ 28) (hp : p < n) (v : Int32) {b x : Nat} (hb : b < n) (hbp : b ≠ p) (hx : x < 2 ^ 28) (acc : Nat) : f_X8_countTriples_l18 (some 1) (nI n) (nI p) (nI x) v (nI acc) (nI b) (nI b + 1) h = some (.inl (nI (acc + qS n p (qG n v) L 2 (x ^^^ L b) (b + 1)), nI (b + 1))) := by
  unfold f_X8_countTriples_l18
  rw [nI_1]
  refine qLoopAcc (b := fun z : Int32 × Int32 => f_X8_countTriples_b18 (some 1) (nI n) (nI p) (nI x) v (nI b) z.1 z.2 h) (fun z => if b + 1 + z = p then 0 else qS n p (qG n v) L 1 ((x ^^^ L b) ^^^ L (b + 1 + z)) (b + 1 + z + 1)) (b + 1) (n - (b + 1)) acc (fun r => .inl (r, nI (b + 1))) ?_ ?_
  · intro z acc hz
    show f_X8_countTriples_b18 (some 1) (nI n) (nI p) (nI x) v (nI b) (nI acc) (nI (b + 1 + z)) h = _
    unfold f_X8_countTriples_b18
    rw [if_neg (by rw [qle (by omega) (by omega)]; omega), if_neg (by rw [qeq (by omega) (by omega)]; omega), q.lines, qbind, q.atW e29 (by decide) (by decide) (by omega), qbind, qbind, q.atW e29 (by decide) (by decide) (by omega), qbind, hf _ (by omega), hf _ (by omega), qI_xor, qI_xor]
    by_cases hc : b + 1 + z = p
    · rw [if_pos hc]
      unfold f_X8_countTriples_l56
      rw [mLoop_inr (b := fun y : Int32 × Int32 => f_X8_countTriples_b56 (some 1) (nI n) (nI p) (nI x) v (nI b) (nI (b + 1 + z)) (nI ((x ^^^ L b) ^^^ L (b + 1 + z))) y.1 y.2 h) (r := .inl (nI acc, nI (b + 1 + z + 1)))]
      · rfl
      · show f_X8_countTriples_b56 (some 1) (nI n) (nI p) (nI x) v (nI b) (nI (b + 1 + z)) (nI ((x ^^^ L b) ^^^ L (b + 1 + z))) (nI acc) (nI (b + 1 + z) + 1) h = _
        unfold f_X8_countTriples_b56
        rw [nI_1]
        by_cases hz : nI n ≤ nI (b + 1 + z + 1)
        · rw [if_pos hz]
        · rw [if_neg hz, if_pos (by rw [hc])]
    · rw [if_neg hc, x_tr3 q e29 hn hf hL hp v _ _ (by omega) hc (Nat.xor_lt_two_pow (Nat.xor_lt_two_pow hx (hL _ hb)) (hL _ (by omega)))]
  · intro acc
    show f_X8_countTriples_b18 (some 1) (nI n) (nI p) (nI x) v (nI b) (nI acc) (nI (b + 1 + (n - (b + 1)))) h = _
    unfold f_X8_countTriples_b18
    rw [if_pos (by rw [qle (by omega) (by omega)]; omega), nI_1]
theorem x_tr1 (q : qX h A) (e29 : h.2 29 = .inl (28, .inl f)) (hn : n ≤ 28) (hf : ∀ i, i < n → f i = nI (L i)) (hL : ∀ i, i < n → L i < 2 ^ 28) (hp : p < n) (v : Int32) : f_X8_countTriples (some 1) (nI n) 0 (nI p) (nI (L p)) v h = some (nI (qS n p (qG n v) L 3 (L p) 0)) := by
  unfold f_X8_countTriples f_X8_countTriples_l6
  rw [q.is, qbind]
  have R := qLoopAcc (b := fun z : Int32 × Int32 => f_X8_countTriples_b6 (some 1) (nI n) (nI p) (nI (L p)) v z.1 z.2 h) (fun z => if 0 + z = p then 0 else qS n p (qG n v) L 2 (L p ^^^ L (0 + z)) (0 + z + 1)) 0 (n - 0) 0 (fun r => r) ?_ ?_
  · rw [Nat.zero_add] at R
    exact R
  · intro z acc hz
    show f_X8_countTriples_b6 (some 1) (nI n) (nI p) (nI (L p)) v (nI acc) (nI (0 + z)) h = _
    unfold f_X8_countTriples_b6
    rw [if_neg (by rw [qle (by omega) (by omega)]; omega)]
    by_cases hb : 0 + z = p
    · rw [if_pos hb]
      unfold f_X8_countTriples_l18
      rw [mLoop_inr (b := fun y : Int32 × Int32 => f_X8_countTriples_b18 (some 1) (nI n) (nI p) (nI (L p)) v (nI (0 + z)) y.1 y.2 h) (r := .inl (nI acc, nI (0 + z + 1)))]
      · rfl
      · show f_X8_countTriples_b18 (some 1) (nI n) (nI p) (nI (L p)) v (nI (0 + z)) (nI acc) (nI (0 + z) + 1) h = _
        unfold f_X8_countTriples_b18
        rw [nI_1]
        by_cases hz : nI n ≤ nI (0 + z + 1)
        · rw [if_pos hz]
        · rw [if_neg hz, if_pos (by rw [hb])]
    · rw [if_neg hb, x_tr2 q e29 hn hf hL hp v (by omega) hb (hL p hp)]
  · intro acc
    show f_X8_countTriples_b6 (some 1) (nI n) (nI p) (nI (L p)) v (nI acc) (nI (0 + (n - 0))) h = _
    unfold f_X8_countTriples_b6
    rw [if_pos (by rw [qle (by omega) (by omega)]; omega)]
theorem m_fm4 (m : qM h A) (e62 : h.2 62 = .inl (28, .inl f)) (hn : n ≤ 28) (hf : ∀ i, i < n → f i = nI (L i)) (hL : ∀ i, i < n → L i < 2 ^ 28) (hp : p < n) (v : Int32) {a b c : Nat} (ha : a < n) (hb : b < n) (hc : c < n) (acc : Nat) : f_X9_fourMany_l42 (some 51) (nI n) v (nI p) (nI acc) (nI a) (nI b) (nI c) (nI c + 1) h = some (.inl (nI (acc + qSpt n p (qG n v) L 1 (decide (a = p) || decide (b = p) || decide (c = p)) ((L a ^^^ L b) ^^^ L c) (c + 1)), nI (c + 1))) := by
  obtain ⟨x0, y0, fo, fr, ff, fg, fw, mb, hm⟩ := m.b
  have g62 : mGR h (some 51) 8 14 = some (some 62) := qGR (mb.le (by decide)) mb.2.1 rfl
  unfold f_X9_fourMany_l42
  rw [nI_1]
  refine qLoopAcc (b := fun z : Int32 × Int32 => f_X9_fourMany_b42 (some 51) (nI n) v (nI p) (nI a) (nI b) (nI c) z.1 z.2 h) (fun z => if (decide (a = p) || decide (b = p) || decide (c = p) || decide (c + 1 + z = p)) = true then qG n v (((L a ^^^ L b) ^^^ L c) ^^^ L (c + 1 + z)) else 0) (c + 1) (n - (c + 1)) acc (fun r => .inl (r, nI (c + 1))) ?_ ?_
  · intro u acc hu
    have hw : ((L a ^^^ L b) ^^^ L c) ^^^ L (c + 1 + u) < 2 ^ 28 := Nat.xor_lt_two_pow (Nat.xor_lt_two_pow (Nat.xor_lt_two_pow (hL _ ha) (hL _ hb)) (hL _ hc)) (hL _ (by omega))
    show f_X9_fourMany_b42 (some 51) (nI n) v (nI p) (nI a) (nI b) (nI c) (nI acc) (nI (c + 1 + u)) h = _
    have K : f_X9_fourMany_c80 (some 51) (nI n) v (nI p) (nI acc) (nI a) (nI b) (nI c) (nI (c + 1 + u)) h = some (.inl (nI (acc + qG n v (((L a ^^^ L b) ^^^ L c) ^^^ L (c + 1 + u))), nI (c + 1 + u + 1))) := by
      unfold f_X9_fourMany_c80
      rw [g62, qbind, m.atW e62 (by decide) (by decide) (by omega), qbind, qbind, m.atW e62 (by decide) (by decide) (by omega), qbind, qbind, m.atW e62 (by decide) (by decide) (by omega), qbind, qbind, m.atW e62 (by decide) (by decide) (by omega), qbind, hf _ (by omega), hf _ (by omega), hf _ (by omega), hf _ (by omega), qI_xor, qI_xor, qI_xor, m_size (by omega), qbind, nI_1, nI_1]
      unfold qG
      by_cases hc : qAb n (((L a ^^^ L b) ^^^ L c) ^^^ L (c + 1 + u)) = v
      · rw [if_pos hc, decide_eq_true hc]; rfl
      · rw [if_neg hc, decide_eq_false hc]; rfl
    unfold f_X9_fourMany_b42
    rw [K, if_neg (by rw [qle (by omega) (by omega)]; omega), if_neg (qnm2 (by omega))]
    by_cases c1 : a = p
    · rw [if_pos (by rw [c1]), if_pos (by simp [c1])]
    rw [if_neg (by rw [qeq (by omega) (by omega)]; exact c1)]
    by_cases c2 : b = p
    · rw [if_pos (by rw [c2]), if_pos (by simp [c2])]
    rw [if_neg (by rw [qeq (by omega) (by omega)]; exact c2)]
    by_cases c3 : c = p
    · rw [if_pos (by rw [c3]), if_pos (by simp [c3])]
    rw [if_neg (by rw [qeq (by omega) (by omega)]; exact c3)]
    by_cases c4 : c + 1 + u = p
    · rw [if_pos (by rw [c4]), if_pos (by simp [c4])]
    rw [if_neg (by rw [qeq (by omega) (by omega)]; exact c4), if_neg (by simp [c1, c2, c3, c4]), nI_1]
    rfl
  · intro acc
    show f_X9_fourMany_b42 (some 51) (nI n) v (nI p) (nI a) (nI b) (nI c) (nI acc) (nI (c + 1 + (n - (c + 1)))) h = _
    unfold f_X9_fourMany_b42
    rw [if_pos (by rw [qle (by omega) (by omega)]; omega), nI_1]
theorem m_fm3 (m : qM h A) (e62 : h.2 62 = .inl (28, .inl f)) (hn : n ≤ 28) (hf : ∀ i, i < n → f i = nI (L i)) (hL : ∀ i, i < n → L i < 2 ^ 28) (hp : p < n) (v : Int32) {a b : Nat} (ha : a < n) (hb : b < n) (acc : Nat) : f_X9_fourMany_l30 (some 51) (nI n) v (nI p) (nI acc) (nI a) (nI b) (nI b + 1) h = some (.inl (nI (acc + qSpt n p (qG n v) L 2 (decide (a = p) || decide (b = p)) (L a ^^^ L b) (b + 1)), nI (b + 1))) := by
  unfold f_X9_fourMany_l30
  rw [nI_1]
  refine qLoopAcc (b := fun z : Int32 × Int32 => f_X9_fourMany_b30 (some 51) (nI n) v (nI p) (nI a) (nI b) z.1 z.2 h) (fun z => qSpt n p (qG n v) L 1 (decide (a = p) || decide (b = p) || decide (b + 1 + z = p)) ((L a ^^^ L b) ^^^ L (b + 1 + z)) (b + 1 + z + 1)) (b + 1) (n - (b + 1)) acc (fun r => .inl (r, nI (b + 1))) ?_ ?_
  · intro u acc hu
    show f_X9_fourMany_b30 (some 51) (nI n) v (nI p) (nI a) (nI b) (nI acc) (nI (b + 1 + u)) h = _
    unfold f_X9_fourMany_b30
    rw [if_neg (by rw [qle (by omega) (by omega)]; omega), m_fm4 m e62 hn hf hL hp v ha hb (by omega)]
  · intro acc
    show f_X9_fourMany_b30 (some 51) (nI n) v (nI p) (nI a) (nI b) (nI acc) (nI (b + 1 + (n - (b + 1)))) h = _
    unfold f_X9_fourMany_b30
    rw [if_pos (by rw [qle (by omega) (by omega)]; omega), nI_1]
theorem m_fm2 (m : qM h A) (e62 : h.2 62 = .inl (28, .inl f)) (hn : n ≤ 28) (hf : ∀ i, i < n → f i = nI (L i)) (hL : ∀ i, i < n → L i < 2 ^ 28) (hp : p < n) (v : Int32) {a : Nat} (ha : a < n) (acc : Nat) : f_X9_fourMany_l18 (some 51) (nI n) v (nI p) (nI acc) (nI a) (nI a + 1) h = some (.inl (nI (acc + qSpt n p (qG n v) L 3 (decide (a = p)) (L a) (a + 1)), nI (a + 1))) := by
  unfold f_X9_fourMany_l18
  rw [nI_1]
  refine qLoopAcc (b := fun z : Int32 × Int32 => f_X9_fourMany_b18 (some 51) (nI n) v (nI p) (nI a) z.1 z.2 h) (fun z => qSpt n p (qG n v) L 2 (decide (a = p) || decide (a + 1 + z = p)) (L a ^^^ L (a + 1 + z)) (a + 1 + z + 1)) (a + 1) (n - (a + 1)) acc (fun r => .inl (r, nI (a + 1))) ?_ ?_
  · intro u acc hu
    show f_X9_fourMany_b18 (some 51) (nI n) v (nI p) (nI a) (nI acc) (nI (a + 1 + u)) h = _
    unfold f_X9_fourMany_b18
    rw [if_neg (by rw [qle (by omega) (by omega)]; omega), m_fm3 m e62 hn hf hL hp v ha (by omega)]
  · intro acc
    show f_X9_fourMany_b18 (some 51) (nI n) v (nI p) (nI a) (nI acc) (nI (a + 1 + (n - (a + 1)))) h = _
    unfold f_X9_fourMany_b18
    rw [if_pos (by rw [qle (by omega) (by omega)]; omega), nI_1]
theorem m_fm1 (m : qM h A) (e62 : h.2 62 = .inl (28, .inl f)) (hn : n ≤ 28) (hf : ∀ i, i < n → f i = nI (L i)) (hL : ∀ i, i < n → L i < 2 ^ 28) (hp : p < n) (v : Int32) : f_X9_fourMany (some 51) (nI n) v (nI p) h = some (nI (qS n p (qG n v) L 3 (L p) 0)) := by
  unfold f_X9_fourMany f_X9_fourMany_l6
  rw [m.is, qbind]
  have R := qLoopAcc (b := fun z : Int32 × Int32 => f_X9_fourMany_b6 (some 51) (nI n) v (nI p) z.1 z.2 h) (fun z => qSpt n p (qG n v) L 3 (false || decide (0 + z = p)) (0 ^^^ L (0 + z)) (0 + z + 1)) 0 (n - 0) 0 (fun r => r) ?_ ?_
  · have e := qSpt_S n p (qG n v) L hp 3 0 p 0 (by omega)
    rw [Nat.zero_xor] at e
    rw [Nat.zero_add] at R
    rw [← e]
    exact R
  · intro u acc hu
    show f_X9_fourMany_b6 (some 51) (nI n) v (nI p) (nI acc) (nI (0 + u)) h = _
    unfold f_X9_fourMany_b6
    rw [if_neg (by rw [qle (by omega) (by omega)]; omega), m_fm2 m e62 hn hf hL hp v (by omega), Bool.false_or, Nat.zero_xor]
  · intro acc
    show f_X9_fourMany_b6 (some 51) (nI n) v (nI p) (nI acc) (nI (0 + (n - 0))) h = _
    unfold f_X9_fourMany_b6
    rw [if_pos (by rw [qle (by omega) (by omega)]; omega)]
end QPX
theorem op_part {h : mH} {A : qA} (I : qI h A) (x i v : Int32) (row : Bool) : qStep (f_X8_part (some 1) x (qB2I row) i v) (f_X9_part (some 51) x (qB2I row) i v) h := by
  have L := qLn2 I x i
  have I0 := I
  obtain ⟨q, m, w⟩ := I
  obtain ⟨x0, y0, fo, fr, ff, fg, fw, mb, hm⟩ := m.b
  rcases L with ⟨l1, l2, -⟩ | ⟨t, hx, l1, -, l3, l4⟩ | ⟨t, p, hx, hk, rfl, l1, -, l3, l4⟩
  · refine qStep.none (r := -1) I0 ?_ ?_
    · unfold f_X8_part; rw [q.is, qbind, l1, qbind, if_pos rfl]
    · unfold f_X9_part; rw [mb.is, qbind, l2, qbind, if_pos rfl]
  · refine qStep.none (r := -1) I0 ?_ ?_
    · unfold f_X8_part; rw [q.is, qbind, l1, qbind, if_neg qne, l3, qbind, if_pos rfl]
    · unfold f_X9_part; rw [mb.is, qbind, l4, qbind, if_pos rfl]
  · have h6 := hx.1
    have wt := w.1 t h6
    have hn := wt.1
    have hx2 : x = nI t := hx.2.1
    by_cases hv : 0 ≤ v
    · obtain ⟨h1, p1, q1, s1, f1, e1, g1⟩ := x_copyLines q w h6 row
      have s1' : qSame qCX h h1 := s1.mono fun k z => ⟨by omega, by omega⟩
      have m1 := m.same s1'
      obtain ⟨h2, p2, m2, s2, f2, e2, g2⟩ := m_laysLines m1 w h6 row
      obtain ⟨x1, y1, fo1, fr1, ff1, fg1, fw1, mb1, hm1⟩ := m1.b
      obtain ⟨x2, y2, fo2, fr2, ff2, fg2, fw2, mb2, hm2⟩ := m2.b
      have hL : ∀ i, i < (A.1 t).1 → qLine (A.1 t) row i < 2 ^ 28 := fun i hi => q31 hn (qLine_lt wt row hi)
      obtain ⟨bk, bs, bc, ra, rb, fr', fa, fb, hT, hs⟩ := q1.2.2.2.1 t h6
      have a1 : f_X8_part (some 1) x (qB2I row) (nI p) v h = some (nI (qS (A.1 t).1 p (qG (A.1 t).1 v) (qLine (A.1 t) row) 3 (qLine (A.1 t) row p) 0), h1) := by
        unfold f_X8_part; rw [q.is, qbind, l1, qbind, if_neg qne, l3, qbind, if_neg q10, if_pos hv, q.lines, qbind, p1, qbind, hT.size, qbind, q1.lines, qbind, q1.atW e1 (by decide) (by decide) (by omega), qbind, g1 p hk, x_tr1 q1 e1 hn g1 hL hk, qbind]
      have lm : f_X9_isLine (some 51) x (nI p) h1 = some 1 := by
        rw [m_line mb1 hm1 w hx (by omega), decide_eq_true hk]; rfl
      have a2 : f_X9_part (some 51) x (qB2I row) (nI p) v h1 = some (nI (qS (A.1 t).1 p (qG (A.1 t).1 v) (qLine (A.1 t) row) 3 (qLine (A.1 t) row p) 0), h2) := by
        unfold f_X9_part; rw [mb1.is, qbind, lm, qbind, if_neg q10, if_pos hv, hx2, p2, qbind, mb2.orders, qbind, mb2.order h6, qbind, (hm2 t h6).1, m_fm1 m2 e2 hn g2 hL hk, qbind]
      exact qStep.mk a1 q1 s1' a2 m2 (s2.mono fun k z => by unfold qCM; omega) w
    · refine qStep.none (r := -1) I0 ?_ ?_
      · unfold f_X8_part; rw [q.is, qbind, l1, qbind, if_neg qne, l3, qbind, if_neg q10, if_neg hv]
      · unfold f_X9_part; rw [mb.is, qbind, l4, qbind, if_neg q10, if_neg hv]
