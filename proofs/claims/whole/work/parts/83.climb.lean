/-! PURE: best, the class's climb -/
def qPl (T : qT) (s f i : Nat) : Nat := if f + i < T.1 then T.1 - qp (T.2.1 (f + i) ^^^ s) else 0
def qAl (T : qT) (f i : Nat) : Nat := if f + i < T.1 then T.1 else 0
def qLl (n f i : Nat) : Nat := if f + i < n then 1 else 0
def qMl (T : qT) (j f i : Nat) : Nat := if f + i < T.1 then ((T.2.1 (f + i)).testBit j).toNat else 0
theorem qSum_ext {n m : Nat} (h : n ≤ m) (g : Nat → Nat) : qSum m (fun i => if i < n then g i else 0) = qSum n g := by
  induction m with
  | zero => rw [show n = 0 by omega]; rfl
  | succ m ih =>
    by_cases hn : n = m + 1
    · subst hn
      exact qSum_eq fun i hi => if_pos hi
    · show qSum m _ + (if m < n then g m else 0) = _
      rw [ih (by omega), if_neg (by omega), Nat.add_zero]
theorem qSum_tail (k n : Nat) (f : Nat → Nat) : qSum (k + n) f = qSum k f + qSum n (fun i => f (k + i)) := by
  induction n with
  | zero => rfl
  | succ n ih =>
    show qSum (k + n) f + f (k + n) = qSum k f + (qSum n (fun i => f (k + i)) + f (k + n))
    omega
theorem qVl_split {T : qT} (w : qWT T) (h16 : T.1 ≤ 16) {s : Nat} (hs : s < 2 ^ T.1) : qVl T s = qSum 8 (fun i => max (qPl T s 0 i) (qAl T 0 i - qPl T s 0 i)) + qSum 8 (fun i => max (qPl T s 8 i) (qAl T 8 i - qPl T s 8 i)) := by
  have e := qSum_tail 8 8 (fun i => if i < T.1 then max (T.1 - qp (T.2.1 i ^^^ s)) (qp (T.2.1 i ^^^ s)) else 0)
  rw [show 8 + 8 = 16 from rfl, qSum_ext h16] at e
  have L : ∀ f i, f + i < T.1 → max (T.1 - qp (T.2.1 (f + i) ^^^ s)) (qp (T.2.1 (f + i) ^^^ s)) = max (qPl T s f i) (qAl T f i - qPl T s f i) := by
    intro f i hi
    have := qp_len (Nat.xor_lt_two_pow (w.2.1 (f + i) hi) hs) (show T.1 ≤ 32 by omega)
    unfold qPl qAl
    rw [if_pos hi, if_pos hi]
    omega
  have Z : ∀ f i, ¬ f + i < T.1 → 0 = max (qPl T s f i) (qAl T f i - qPl T s f i) := by
    intro f i hi
    unfold qPl qAl
    rw [if_neg hi, if_neg hi]
    rfl
  refine e.trans ?_
  congr 1
  · refine qSum_eq fun i hi => ?_
    have e0 : 0 + i = i := Nat.zero_add i
    by_cases c : i < T.1
    · rw [if_pos c]
      have := L 0 i (by omega)
      rw [e0] at this
      exact this
    · rw [if_neg c]; exact Z 0 i (by omega)
  · refine qSum_eq fun i hi => ?_
    by_cases c : 8 + i < T.1
    · show (if 8 + i < T.1 then _ else 0) = _
      rw [if_pos c]; exact L 8 i c
    · show (if 8 + i < T.1 then _ else 0) = _
      rw [if_neg c]; exact Z 8 i c
theorem x_lanes : ∀ n, n < 17 → f_X6_lanes (nI n) = some (lN (qD 8 (qLl n 0))) ∧ f_X6_lanes (nI n - nI 0) = some (lN (qD 8 (qLl n 0))) ∧ f_X6_lanes (nI n - nI 8) = some (lN (qD 8 (qLl n 8))) := by decide +kernel
theorem qD_zero : ∀ k, qD k (fun _ => 0) = 0 := by
  intro k
  induction k with
  | zero => rfl
  | succ k ih => rw [qD_s, ih]
theorem qD_one (v : Nat) : ∀ (m k : Nat), k < m → qD m (fun i => if i = k then v else 0) = v * 256 ^ k := by
  intro m
  induction m with
  | zero => intro k hk; omega
  | succ m ih =>
    intro k hk
    rw [qD_s]
    cases k with
    | zero =>
      have e : qD m (fun i => if i + 1 = 0 then v else 0) = qD m (fun _ => 0) := qD_eq m fun i _ => if_neg (by omega)
      rw [e, qD_zero, if_pos rfl, Nat.pow_zero]
      omega
    | succ k =>
      have e : qD m (fun i => if i + 1 = k + 1 then v else 0) = qD m (fun i => if i = k then v else 0) := qD_eq m fun i _ => by
        by_cases c : i = k
        · rw [if_pos (by omega), if_pos c]
        · rw [if_neg (by omega), if_neg c]
      rw [e, ih k (by omega), if_neg (by omega), Nat.pow_succ, Nat.add_zero, Nat.mul_comm 256, Nat.mul_assoc]
/-- one more lane is laid by 'or' -/
theorem qD_lay {g : Nat → Nat} (hg : ∀ i, i < 8 → g i < 256) {k : Nat} (hk : k < 8) : lN (qD 8 (fun i => if i < k then g i else 0)) ||| mLshl (lN (g k)) (nI (8 * k)) = lN (qD 8 (fun i => if i < k + 1 then g i else 0)) := by
  have b1 : ∀ i, i < 8 → (if i < k then g i else 0) < 256 := fun i hi => by
    by_cases c : i < k
    · rw [if_pos c]; exact hg i hi
    · rw [if_neg c]; decide
  have b2 : ∀ i, i < 8 → (if i = k then g k else 0) < 256 := fun i hi => by
    by_cases c : i = k
    · rw [if_pos c]; exact hg k hk
    · rw [if_neg c]; decide
  have e : g k * 2 ^ (8 * k) = qD 8 (fun i => if i = k then g k else 0) := by
    rw [qD_one (g k) 8 k hk, Nat.pow_mul]
  rw [qL_shl _ (by omega), e, wb_or (qD8 b1) (qD8 b2), qD_or 8 fun i hi => ⟨b1 i hi, b2 i hi⟩]
  congr 1
  refine qD_eq 8 fun i hi => ?_
  by_cases c : i < k
  · rw [if_pos c, if_neg (by omega), if_pos (by omega), Nat.or_zero]
  · rw [if_neg c]
    by_cases c2 : i = k
    · rw [if_pos c2, if_pos (by omega), Nat.zero_or, c2]
    · rw [if_neg c2, if_neg (by omega)]; rfl
theorem qL_as {X Y Z W : Nat} (h : X + Y = W + Z) : lN X + (lN Y - lN Z) = lN W := by
  rw [Int64.sub_eq_add_neg, ← Int64.add_assoc, lN_add, h, ← lN_add, ← Int64.sub_eq_add_neg, Int64.add_sub_cancel]
theorem qL_ns {X Y Z W : Nat} (h : X + Z = W + Y) : lN X + -(lN Y - lN Z) = lN W := by
  rw [Int64.neg_sub]
  exact qL_as h
theorem qPl_256 {T : qT} (h16 : T.1 ≤ 16) (s f i : Nat) : qPl T s f i < 256 := by
  unfold qPl
  by_cases c : f + i < T.1
  · rw [if_pos c]; omega
  · rw [if_neg c]; decide
theorem qMl_256 (T : qT) (j f i : Nat) : qMl T j f i < 256 := by
  unfold qMl
  by_cases c : f + i < T.1
  · rw [if_pos c]; cases (T.2.1 (f + i)).testBit j <;> decide
  · rw [if_neg c]; decide
section QCM
variable {h : mH} {t : Nat} {T : qT} {tn bk bs bc : Int32} {ra rb : Nat} {fr fa fb : Nat → Int32}
theorem x_plus (hT : qTX h t (nI T.1) tn bk bs bc ra rb fr fa fb) (w : qWT T) (hr : ∀ i, i < T.1 → fr i = nI (T.2.1 i)) (h16 : T.1 ≤ 16) {f : Nat} (hf : f = 0 ∨ f = 8) : f_X6_plusCounts (some (3 + 4 * t)) (nI f) h = some (lN (qD 8 (qPl T 0 f))) := by
  have hf8 : f ≤ 8 := by omega
  unfold f_X6_plusCounts f_X6_plusCounts_l5
  have R := mLoop_inv (b := fun x : Int64 × Int32 => f_X6_plusCounts_b5 (some (3 + 4 * t)) (nI f) x.1 x.2 h) (fun k (s : Int64 × Int32) => s = (lN (qD 8 (fun i => if i < k then qPl T 0 f i else 0)), nI (f + k))) (min 8 (T.1 - f)) (fun r => r = lN (qD 8 (qPl T 0 f))) (s0 := (0, nI f)) ?_ ?_ ?_
  · obtain ⟨r, e, rfl⟩ := R
    exact e
  · have e : qD 8 (fun i => if i < 0 then qPl T 0 f i else 0) = 0 := by
      rw [qD_eq 8 (q := fun _ => 0) fun i _ => if_neg (Nat.not_lt_zero i), qD_zero]
    rw [e]; rfl
  · rintro k s hk rfl
    have hi : f + k < T.1 := by omega
    have hrow := q31 w.1 (w.2.1 (f + k) hi)
    have hpl := qp_len (w.2.1 (f + k) hi) (show T.1 ≤ 32 by omega)
    refine ⟨_, ?_, rfl⟩
    show f_X6_plusCounts_b5 (some (3 + 4 * t)) (nI f) _ (nI (f + k)) h = _
    have e2 : qPl T 0 f k = T.1 - qp (T.2.1 (f + k)) := by unfold qPl; rw [if_pos hi, Nat.xor_zero]
    have e3 := qD_lay (g := qPl T 0 f) (fun i _ => qPl_256 h16 0 f i) (k := k) (by omega)
    rw [e2] at e3
    unfold f_X6_plusCounts_b5
    rw [hT.size, qbind, if_neg (by rw [qle (by omega) (by omega)]; omega), show nI f + 8 = nI (f + 8) from qI_add f 8, if_neg (by rw [qle (by omega) (by omega)]; omega), qbind, hT.rows, qbind, hT.row (by omega), qbind, hr _ hi, qJ_bitCount (by omega), qbind, qI_sub hpl, nI_l (by omega), qI_sub (by omega), show f + k - f = k by omega, show (8 : Int32) * nI k = nI (8 * k) from qI_mul 8 k, e3, nI_1]
    rfl
  · rintro s rfl
    refine ⟨_, ?_, rfl⟩
    show f_X6_plusCounts_b5 (some (3 + 4 * t)) (nI f) _ (nI (f + min 8 (T.1 - f))) h = _
    have e : qD 8 (fun i => if i < min 8 (T.1 - f) then qPl T 0 f i else 0) = qD 8 (qPl T 0 f) := qD_eq 8 fun i hi => by
      by_cases c : i < min 8 (T.1 - f)
      · rw [if_pos c]
      · rw [if_neg c]; unfold qPl; rw [if_neg (by omega)]
    unfold f_X6_plusCounts_b5
    rw [hT.size, qbind, e]
    by_cases c : T.1 ≤ f + min 8 (T.1 - f)
    · rw [if_pos (by rw [qle (by omega) (by omega)]; exact c)]
    · rw [if_neg (by rw [qle (by omega) (by omega)]; exact c), show nI f + 8 = nI (f + 8) from qI_add f 8, if_pos (by rw [qle (by omega) (by omega)]; omega)]
theorem x_minus (hT : qTX h t (nI T.1) tn bk bs bc ra rb fr fa fb) (w : qWT T) (hr : ∀ i, i < T.1 → fr i = nI (T.2.1 i)) (h16 : T.1 ≤ 16) {f : Nat} (hf : f = 0 ∨ f = 8) {j : Nat} (hj : j < T.1) (a : Nat) : f_X6_laySteps_l22 (some (3 + 4 * t)) (nI f) (some a) (nI j) 0 (nI f) h = (mSL h (some a) (nI j) (lN (qD 8 (fun i => 2 * qMl T j f i)) - lN (qD 8 (qLl T.1 f)))).bind fun h3 => some (.inl (nI (j + 1), h3)) := by
  unfold f_X6_laySteps_l22
  have lan : f_X6_lanes (nI T.1 - nI f) = some (lN (qD 8 (qLl T.1 f))) := by
    obtain ⟨l1, l2, l3⟩ := x_lanes T.1 (by omega)
    rcases hf with rfl | rfl
    · exact l2
    · exact l3
  have C : f_X6_laySteps_c70 (some (3 + 4 * t)) (nI f) (some a) (nI j) (lN (qD 8 (qMl T j f))) h = (mSL h (some a) (nI j) (lN (qD 8 (fun i => 2 * qMl T j f i)) - lN (qD 8 (qLl T.1 f)))).bind fun h3 => some (.inl (nI (j + 1), h3)) := by
    unfold f_X6_laySteps_c70
    rw [hT.size, qbind, lan, qbind, show (2 : Int64) * lN (qD 8 (qMl T j f)) = lN (2 * qD 8 (qMl T j f)) from lN_mul 2 _, qD_mul, nI_1]
  have key : ∀ d k, k + d = min 8 (T.1 - f) → mLoop (fun x : Int64 × Int32 => f_X6_laySteps_b22 (some (3 + 4 * t)) (nI f) (some a) (nI j) x.1 x.2 h) (lN (qD 8 (fun i => if i < k then qMl T j f i else 0)), nI (f + k)) = f_X6_laySteps_c70 (some (3 + 4 * t)) (nI f) (some a) (nI j) (lN (qD 8 (qMl T j f))) h := by
    intro d
    induction d with
    | zero =>
      intro k hk
      have e : qD 8 (fun i => if i < k then qMl T j f i else 0) = qD 8 (qMl T j f) := qD_eq 8 fun i hi => by
        by_cases c : i < k
        · rw [if_pos c]
        · rw [if_neg c]; unfold qMl; rw [if_neg (by omega)]
      rw [e, mLoop_eq]
      show (f_X6_laySteps_b22 (some (3 + 4 * t)) (nI f) (some a) (nI j) (lN (qD 8 (qMl T j f))) (nI (f + k)) h).bind _ = _
      unfold f_X6_laySteps_b22
      rw [hT.size, qbind]
      by_cases c : T.1 ≤ f + k
      · rw [if_pos (by rw [qle (by omega) (by omega)]; exact c)]
        cases f_X6_laySteps_c70 (some (3 + 4 * t)) (nI f) (some a) (nI j) (lN (qD 8 (qMl T j f))) h <;> rfl
      · rw [if_neg (by rw [qle (by omega) (by omega)]; exact c), show nI f + 8 = nI (f + 8) from qI_add f 8, if_pos (by rw [qle (by omega) (by omega)]; omega)]
        cases f_X6_laySteps_c70 (some (3 + 4 * t)) (nI f) (some a) (nI j) (lN (qD 8 (qMl T j f))) h <;> rfl
    | succ d ih =>
      intro k hk
      have hi : f + k < T.1 := by omega
      have hrow := q31 w.1 (w.2.1 (f + k) hi)
      have e2 : qMl T j f k = ((T.2.1 (f + k)).testBit j).toNat := by unfold qMl; rw [if_pos hi]
      have e3 := qD_lay (g := qMl T j f) (fun i _ => qMl_256 T j f i) (k := k) (by omega)
      have E : f_X6_laySteps_b22 (some (3 + 4 * t)) (nI f) (some a) (nI j) (lN (qD 8 (fun i => if i < k then qMl T j f i else 0))) (nI (f + k)) h = some (.inl (lN (qD 8 (fun i => if i < k + 1 then qMl T j f i else 0)), nI (f + (k + 1)))) := by
        unfold f_X6_laySteps_b22
        rw [hT.size, qbind, if_neg (by rw [qle (by omega) (by omega)]; omega), show nI f + 8 = nI (f + 8) from qI_add f 8, if_neg (by rw [qle (by omega) (by omega)]; omega), x_isMinus hT (i := f + k) (j := j) (by omega) (by omega) (hr _ hi) (by omega), qbind, nI_1]
        cases hb : (T.2.1 (f + k)).testBit j
        · rw [qif0]
          rw [hb] at e2
          have e4 : qD 8 (fun i => if i < k + 1 then qMl T j f i else 0) = qD 8 (fun i => if i < k then qMl T j f i else 0) := qD_eq 8 fun i hi => by
            by_cases c : i < k
            · rw [if_pos c, if_pos (by omega)]
            · rw [if_neg c]
              by_cases c2 : i = k
              · rw [if_pos (by omega), c2, e2]; rfl
              · rw [if_neg (by omega)]
          rw [e4]
          rfl
        · rw [qif1]
          rw [hb] at e2
          rw [e2] at e3
          rw [qI_sub (by omega), show f + k - f = k by omega, show (8 : Int32) * nI k = nI (8 * k) from qI_mul 8 k, show (1 : Int64) = lN true.toNat from rfl, e3]
          rfl
      rw [mLoop_inl (b := fun x : Int64 × Int32 => f_X6_laySteps_b22 (some (3 + 4 * t)) (nI f) (some a) (nI j) x.1 x.2 h) (x := (lN (qD 8 (fun i => if i < k then qMl T j f i else 0)), nI (f + k))) E]
      exact ih (k + 1) (by omega)
  have e0 : qD 8 (fun i => if i < 0 then qMl T j f i else 0) = 0 := by
    rw [qD_eq 8 (q := fun _ => 0) fun i _ => if_neg (Nat.not_lt_zero i), qD_zero]
  have := key (min 8 (T.1 - f)) 0 (by omega)
  rw [e0] at this
  rw [← C]
  exact this
end QCM
theorem qX.putS {h : mH} {A : qA} (q : qX h A) {a : Nat} (ha : a = 43 ∨ a = 44) (f : Nat → Int64) : qX (mPut h a (.inl (16, .inr (.inl f)))) A := by
  obtain ⟨a1, a2, ⟨f3, a3, a3'⟩, a4, ⟨g, a5, a5'⟩, ⟨g2, a6, a6'⟩, q7⟩ := q
  refine ⟨a1, (qPutN _ (by omega)).trans a2, ⟨f3, (qPutN _ (by omega)).trans a3, a3'⟩, fun t ht => (a4 t ht).same rfl fun k h1 h2 => qPutN _ (by omega), ⟨g, (qPutN _ (by omega)).trans a5, a5'⟩, ⟨g2, (qPutN _ (by omega)).trans a6, a6'⟩, ?_⟩
  obtain ⟨a1, a2, a3, a4, ⟨n1, c, d, r, s, a5⟩, a6, a7, a8, a9, ⟨n', c', r', b1⟩, b2, b3, b4, b5, b6, b7, b8, b9, ⟨n'', c1⟩, c2, c3, c4⟩ := q7
  have E : ∀ k, k = 43 ∨ k = 44 → qArL' h k 16 → qArL' (mPut h a (.inl (16, .inr (.inl f)))) k 16 := by
    intro k hk z
    by_cases e : k = a
    · rw [e]; exact ⟨f, qPutS _⟩
    · exact z.same (qPutN _ e)
  exact ⟨a1.same (qPutN _ (by omega)), (qPutN _ (by omega)).trans a2, a3.same (qPutN _ (by omega)), a4.same (qPutN _ (by omega)), ⟨n1, c, d, r, s, (qPutN _ (by omega)).trans a5⟩, a6.same (qPutN _ (by omega)), a7.same (qPutN _ (by omega)), a8.same (qPutN _ (by omega)), a9.same (qPutN _ (by omega)), ⟨n', c', r', (qPutN _ (by omega)).trans b1⟩, b2.same (qPutN _ (by omega)), b3.same (qPutN _ (by omega)), b4.same (qPutN _ (by omega)), (qPutN _ (by omega)).trans b5, E 43 (Or.inl rfl) b6, E 44 (Or.inr rfl) b7, (qPutN _ (by omega)).trans b8, b9.same (qPutN _ (by omega)), ⟨n'', (qPutN _ (by omega)).trans c1⟩, c2.same (qPutN _ (by omega)), c3.same (qPutN _ (by omega)), c4.same (qPutN _ (by omega))⟩
/-- the steps of the first n columns, rows from f on -/
def qSt (h : mH) (a : Nat) (T : qT) (f n : Nat) : Prop := ∃ g : Nat → Int64, h.2 a = .inl (16, .inr (.inl g)) ∧ ∀ j, j < n → g j = lN (qD 8 (fun i => 2 * qMl T j f i)) - lN (qD 8 (qLl T.1 f))
theorem x_steps {h : mH} {A : qA} {t : Nat} (q : qX h A) (w : qWA A) (h6 : t < 6) (h16 : (A.1 t).1 ≤ 16) {a f : Nat} (haf : (a = 43 ∧ f = 0) ∨ (a = 44 ∧ f = 8)) : ∃ h', f_X6_laySteps (some (3 + 4 * t)) (nI f) (some a) h = some h' ∧ qX h' A ∧ qSt h' a (A.1 t) f (A.1 t).1 ∧ qSame (fun k => k = a) h h' := by
  have wt := w.1 t h6
  have h43 : a = 43 ∨ a = 44 := by omega
  have hf : f = 0 ∨ f = 8 := by omega
  obtain ⟨g0, e0⟩ : qArL' h a 16 := by
    obtain ⟨a1, a2, ⟨f3, a3, a3'⟩, a4, ⟨g, a5, a5'⟩, ⟨g2, a6, a6'⟩, q7⟩ := q
    obtain ⟨a1, a2, a3, a4, ⟨n1, c, d, r, s, a5⟩, a6, a7, a8, a9, ⟨n', c', r', b1⟩, b2, b3, b4, b5, b6, b7, b8, b9, ⟨n'', c1⟩, c2, c3, c4⟩ := q7
    rcases h43 with rfl | rfl
    · exact b6
    · exact b7
  unfold f_X6_laySteps f_X6_laySteps_l2
  refine mLoop_inv (b := fun x : Int32 × mH => f_X6_laySteps_b2 (some (3 + 4 * t)) (nI f) (some a) x.1 x.2) (fun j (s : Int32 × mH) => s.1 = nI j ∧ qX s.2 A ∧ qSt s.2 a (A.1 t) f j ∧ qSame (fun k => k = a) h s.2) (A.1 t).1 (fun h' => qX h' A ∧ qSt h' a (A.1 t) f (A.1 t).1 ∧ qSame (fun k => k = a) h h') (s0 := (0, h)) ⟨rfl, q, ⟨g0, e0, fun j hj => absurd hj (Nat.not_lt_zero j)⟩, qSame.rf⟩ ?_ ?_
  · rintro j ⟨ij, h1⟩ hj ⟨rfl, q1', ⟨g, e1', e2⟩, s1'⟩
    have q1 : qX h1 A := q1'
    have e1 : h1.2 a = .inl (16, .inr (.inl g)) := e1'
    have s1 : qSame (fun k => k = a) h h1 := s1'
    have hle : a ≤ h1.1 := by rw [q1.1]; omega
    obtain ⟨bk, bs, bc, ra, rb, fr, fa, fb, hT, hs⟩ := q1.2.2.2.1 t h6
    have p := qSL (y := lN (qD 8 (fun i => 2 * qMl (A.1 t) j f i)) - lN (qD 8 (qLl (A.1 t).1 f))) (show a ≠ 0 by omega) hle e1 (by decide) (i := j) (by omega)
    refine ⟨(nI (j + 1), mPut h1 a (.inl (16, .inr (.inl (vp_updL g j (lN (qD 8 (fun i => 2 * qMl (A.1 t) j f i)) - lN (qD 8 (qLl (A.1 t).1 f)))))))), ?_, rfl, q1.putS h43 _, ⟨_, qPutS _, fun j' hj' => ?_⟩, s1.put rfl _⟩
    · show f_X6_laySteps_b2 (some (3 + 4 * t)) (nI f) (some a) (nI j) h1 = some (.inl (nI (j + 1), mPut h1 a (.inl (16, .inr (.inl (vp_updL g j (lN (qD 8 (fun i => 2 * qMl (A.1 t) j f i)) - lN (qD 8 (qLl (A.1 t).1 f)))))))))
      unfold f_X6_laySteps_b2
      rw [hT.size, qbind, if_neg (by rw [qle (by omega) (by omega)]; omega), qLnL hle e1, qbind, if_neg (by rw [qle (by omega) (by omega)]; omega), x_minus hT wt hs.1 h16 hf hj a, p, qbind]
    · by_cases c : j' = j
      · rw [c, pk_uLs]
      · rw [pk_uLn c]; exact e2 j' (by omega)
  · rintro ⟨ij, h1⟩ ⟨rfl, q1', e1, s1⟩
    have q1 : qX h1 A := q1'
    obtain ⟨bk, bs, bc, ra, rb, fr, fa, fb, hT, hs⟩ := q1.2.2.2.1 t h6
    refine ⟨h1, ?_, q1, e1, s1⟩
    show f_X6_laySteps_b2 (some (3 + 4 * t)) (nI f) (some a) (nI (A.1 t).1) h1 = _
    unfold f_X6_laySteps_b2
    rw [hT.size, qbind, if_pos (by rw [qle (by omega) (by omega)]; omega)]
