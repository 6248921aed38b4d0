/-! PURE: fields; the model's loops with so many turns, which the kernel can run -/
theorem mLoopN_mono {S R : Type} {g f : S → Option (S ⊕ R)} (hgf : ∀ x v, g x = some v → f x = some v) : ∀ (n : Nat) (x : S) (r : R), mLoopN g n x = some r → mLoopN f n x = some r := by
  intro n
  induction n with
  | zero => intro x r h; cases h
  | succ n ih =>
    intro x r h
    unfold mLoopN at h ⊢
    cases hg : g x with
    | none => rw [hg] at h; cases h
    | some v =>
      rw [hg] at h
      rw [hgf x v hg]
      cases v with
      | inl y => exact ih y r h
      | inr z => exact h
def gDg (a p k : Int32) : Option Int32 := mLoopN (fun x : Int32 × Int32 => f_X9_digit_b5 p k x.1 x.2) 4 (a, 0)
theorem gDg_ok {a p k r : Int32} (h : gDg a p k = some r) : f_X9_digit a p k = some r := by
  unfold f_X9_digit f_X9_digit_l5
  exact mLoop_some.mpr ⟨4, h⟩
def gSm_b (v0 v1 v2 v3 v4 v5 v6 v7 : Int32) : Option ((Int32 × Int32 × Int32) ⊕ Int32) :=
  if v0 ≤ v6 then some (Sum.inr v5) else
  (gDg v1 v4 v7).bind fun x1 => (gDg v2 v4 v7).bind fun x2 => if v4 = 0 then none else some (Sum.inl (v5 + v6 * mRem ((x1 + v3 * x2) + v4) v4, v6 * v4, v7 + 1))
theorem gSm_b_ok {v0 v1 v2 v3 v4 v5 v6 v7 : Int32} {r : (Int32 × Int32 × Int32) ⊕ Int32} (h : gSm_b v0 v1 v2 v3 v4 v5 v6 v7 = some r) : f_X9_summed_b15 v0 v1 v2 v3 v4 v5 v6 v7 = some r := by
  unfold gSm_b at h
  unfold f_X9_summed_b15
  by_cases c : v0 ≤ v6
  · rw [if_pos c] at h ⊢; exact h
  · rw [if_neg c] at h ⊢
    obtain ⟨x1, e1, h⟩ := mBind h
    obtain ⟨x2, e2, h⟩ := mBind h
    rw [gDg_ok e1, qbind, gDg_ok e2, qbind]
    exact h
def gSm (q a b s : Int32) : Option Int32 := (f_X9_primeOf q).bind fun p => mLoopN (fun x : Int32 × Int32 × Int32 => gSm_b q a b s p x.1 x.2.1 x.2.2) 5 (0, 1, 0)
theorem gSm_ok {q a b s r : Int32} (h : gSm q a b s = some r) : f_X9_summed q a b s = some r := by
  unfold f_X9_summed f_X9_summed_l15
  unfold gSm at h
  obtain ⟨p, e, h⟩ := mBind h
  rw [e, qbind]
  exact mLoop_some.mpr ⟨5, mLoopN_mono (f := fun x : Int32 × Int32 × Int32 => f_X9_summed_b15 q a b s p x.1 x.2.1 x.2.2) (fun x v hv => gSm_b_ok hv) 5 _ r h⟩
def gTm (v0 v1 v2 : Int32) : Option Int32 :=
  (f_X9_primeOf v0).bind fun x1 => (gDg v1 x1 0).bind fun x2 => (gDg v1 x1 1).bind fun x3 => (gDg v1 x1 2).bind fun x4 => (gDg v2 x1 0).bind fun x5 => (gDg v2 x1 1).bind fun x6 => (gDg v2 x1 2).bind fun x7 =>
  if v0 = x1 then
    if x1 = 0 then none else
    some (mRem (x2 * x5) x1)
  else
    if v0 = (27 : Int32) then
      some (((mRem ((x2 * x5) + ((x3 * x7) + (x4 * x6))) (3 : Int32)) + ((3 : Int32) * (mRem ((((x2 * x6) + (x3 * x5)) + ((x3 * x7) + (x4 * x6))) + (x4 * x7)) (3 : Int32)))) + ((9 : Int32) * (mRem ((((x2 * x7) + (x3 * x6)) + (x4 * x5)) + (x4 * x7)) (3 : Int32))))
    else
      if x1 = 0 then none else
      if x1 = 0 then none else
      some ((mRem ((x2 * x5) + (((2 : Int32) * x3) * x6)) x1) + (x1 * (mRem ((x2 * x6) + (x3 * x5)) x1)))
theorem gTm_ok {q a b r : Int32} (h : gTm q a b = some r) : f_X9_times q a b = some r := by
  unfold gTm at h
  unfold f_X9_times
  obtain ⟨p, e, h⟩ := mBind h
  obtain ⟨x2, e2, h⟩ := mBind h
  obtain ⟨x3, e3, h⟩ := mBind h
  obtain ⟨x4, e4, h⟩ := mBind h
  obtain ⟨x5, e5, h⟩ := mBind h
  obtain ⟨x6, e6, h⟩ := mBind h
  obtain ⟨x7, e7, h⟩ := mBind h
  rw [e, qbind, gDg_ok e2, qbind, gDg_ok e3, qbind, gDg_ok e4, qbind, gDg_ok e5, qbind, gDg_ok e6, qbind, gDg_ok e7, qbind]
  exact h
def gFd (v0 : Int32) : Option Int32 :=
  (f_X9_in v0 (3 : Int32) (27 : Int32)).bind fun x1 =>
  if x1 = 0 then some 0 else if (mRem v0 (2 : Int32)) = 0 then some 0 else if v0 = (9 : Int32) then some 1 else if v0 = (25 : Int32) then some 1 else if v0 = (27 : Int32) then some 1 else mLoopN (fun x : Int32 => f_X9_isField_b40 v0 x) 15 3
theorem gFd_ok {q r : Int32} (h : gFd q = some r) : f_X9_isField q = some r := by
  unfold gFd at h
  unfold f_X9_isField
  obtain ⟨x1, e, h⟩ := mBind h
  rw [e, qbind]
  by_cases c : x1 = 0
  · rw [if_pos c] at h ⊢; exact h
  rw [if_neg c] at h ⊢
  by_cases c : (mRem q (2 : Int32)) = 0
  · rw [if_pos c] at h ⊢; exact h
  rw [if_neg c] at h ⊢
  by_cases c : q = (9 : Int32)
  · rw [if_pos c] at h ⊢; exact h
  rw [if_neg c] at h ⊢
  by_cases c : q = (25 : Int32)
  · rw [if_pos c] at h ⊢; exact h
  rw [if_neg c] at h ⊢
  by_cases c : q = (27 : Int32)
  · rw [if_pos c] at h ⊢; exact h
  rw [if_neg c] at h ⊢
  exact mLoop_some.mpr ⟨15, h⟩
def qF : List Nat := [3, 5, 7, 9, 11, 13, 17, 19, 23, 25, 27]
def qP (q : Nat) : Nat := if q = 9 then 3 else if q = 27 then 3 else if q = 25 then 5 else q
theorem qFd28 : ∀ k, k < 28 → (f_X2_prime (nI k) = some 0 ∧ gFd (nI k) = some 0) ∨ (k ∈ qF ∧ gFd (nI k) = some 1 ∧ f_X2_prime (nI k) = some (nI (qP k)) ∧ 3 ≤ qP k ∧ qP k < 28) := by decide +kernel
theorem qFd (x : Int32) : (f_X2_prime x = some 0 ∧ f_X9_isField x = some 0) ∨ ∃ q, q ∈ qF ∧ 3 ≤ q ∧ q < 28 ∧ x = nI q ∧ f_X9_isField x = some 1 ∧ f_X2_prime x = some (nI (qP q)) ∧ 3 ≤ qP q ∧ qP q < 28 := by
  by_cases hk : ∃ k, k < 28 ∧ x = nI k
  · obtain ⟨k, h1, rfl⟩ := hk
    rcases qFd28 k h1 with ⟨a1, a2⟩ | ⟨a1, a2, a3, a4, a5⟩
    · exact Or.inl ⟨a1, gFd_ok a2⟩
    · refine Or.inr ⟨k, a1, ?_, h1, rfl, gFd_ok a2, a3, a4, a5⟩
      have : ∀ q, q ∈ qF → 3 ≤ q := by decide
      exact this k a1
  · have hx : ∀ k, k < 28 → ¬ x = nI k := fun k h1 h2 => hk ⟨k, h1, h2⟩
    refine Or.inl ⟨?_, ?_⟩
    · unfold f_X2_prime
      rw [if_neg (show ¬ x = (3 : Int32) from hx 3 (by decide)), if_neg (show ¬ x = (5 : Int32) from hx 5 (by decide)), if_neg (show ¬ x = (7 : Int32) from hx 7 (by decide)), if_neg (show ¬ x = (9 : Int32) from hx 9 (by decide)), if_neg (show ¬ x = (11 : Int32) from hx 11 (by decide)), if_neg (show ¬ x = (13 : Int32) from hx 13 (by decide)), if_neg (show ¬ x = (17 : Int32) from hx 17 (by decide)), if_neg (show ¬ x = (19 : Int32) from hx 19 (by decide)), if_neg (show ¬ x = (23 : Int32) from hx 23 (by decide)), if_neg (show ¬ x = (25 : Int32) from hx 25 (by decide)), if_neg (show ¬ x = (27 : Int32) from hx 27 (by decide))]
    · unfold f_X9_isField
      have : f_X9_in x 3 27 = some 0 := by
        rw [m_in, decide_eq_false]
        · rfl
        · rintro ⟨h1, h2⟩
          rcases qarg x with h3 | ⟨k, h3, rfl⟩
          · exact h1 (Int32.lt_trans h3 (by decide))
          · rw [show (27 : Int32) = nI 27 from rfl, qlt (by decide) h3] at h2
            exact hx k (by omega) rfl
      rw [this, qbind, if_pos rfl]
/-- sums, differences, products in numbers -/
def qDf (q a b : Nat) : Nat := (a % qP q + (qP q - b % qP q)) % qP q + qP q * ((a / qP q % qP q + (qP q - b / qP q % qP q)) % qP q) + qP q * qP q * ((a / qP q / qP q % qP q + (qP q - b / qP q / qP q % qP q)) % qP q)
def qTo (q a b : Nat) : Nat := (a + b) % qP q + qP q * ((a / qP q + b / qP q) % qP q) + qP q * qP q * ((a / qP q / qP q + b / qP q / qP q) % qP q)
def qTi (q a b : Nat) : Nat :=
  if q = 27 then ((a % 3) * (b % 3) + ((a / 3 % 3) * (b / 3 / 3) + (a / 3 / 3) * (b / 3 % 3))) % 3 + 3 * (((a % 3) * (b / 3 % 3) + (a / 3 % 3) * (b % 3) + ((a / 3 % 3) * (b / 3 / 3) + (a / 3 / 3) * (b / 3 % 3)) + (a / 3 / 3) * (b / 3 / 3)) % 3) + 9 * (((a % 3) * (b / 3 / 3) + (a / 3 % 3) * (b / 3 % 3) + (a / 3 / 3) * (b % 3) + (a / 3 / 3) * (b / 3 / 3)) % 3)
  else ((a % qP q) * (b % qP q) + 2 * ((a / qP q % qP q) * (b / qP q % qP q))) % qP q + qP q * (((a % qP q) * (b / qP q % qP q) + (a / qP q % qP q) * (b % qP q)) % qP q)
def qOk (q a b : Nat) : Bool := decide (f_X2_difference (nI q) (nI a) (nI b) = some (nI (qDf q a b))) && (decide (gSm (nI q) (nI a) (nI b) (-1) = some (nI (qDf q a b))) && (decide (qDf q a b < q) && ((decide (qDf q a b = 0) == decide (a = b)) && (decide (f_X2_total (nI q) (nI a) (nI b) = some (nI (qTo q a b))) && (decide (gSm (nI q) (nI a) (nI b) 1 = some (nI (qTo q a b))) && (decide (f_X2_times (nI q) (nI a) (nI b) = some (nI (qTi q a b))) && decide (gTm (nI q) (nI a) (nI b) = some (nI (qTi q a b)))))))))
def qOks (q : Nat) : Bool := (List.range q).all fun a => (List.range q).all fun b => qOk q a b
def gSq_b (v0 v1 v2 : Int32) : Option (Int32 ⊕ Int32) :=
  if v0 ≤ v2 then some (Sum.inr 0) else (gTm v0 v2 v2).bind fun x1 => if x1 = v1 then some (Sum.inr 1) else some (Sum.inl (v2 + 1))
theorem gSq_b_ok {v0 v1 v2 : Int32} {r : Int32 ⊕ Int32} (h : gSq_b v0 v1 v2 = some r) : f_X9_isSquare_b2 v0 v1 v2 = some r := by
  unfold gSq_b at h
  unfold f_X9_isSquare_b2
  by_cases c : v0 ≤ v2
  · rw [if_pos c] at h ⊢; exact h
  · rw [if_neg c] at h ⊢
    obtain ⟨x1, e1, h⟩ := mBind h
    rw [gTm_ok e1, qbind]
    exact h
def gSqr (q a : Int32) : Option Int32 := mLoopN (fun x : Int32 => gSq_b q a x) 30 1
theorem gSqr_ok {q a r : Int32} (h : gSqr q a = some r) : f_X9_isSquare q a = some r := by
  unfold f_X9_isSquare f_X9_isSquare_l2
  exact mLoop_some.mpr ⟨30, mLoopN_mono (f := fun x : Int32 => f_X9_isSquare_b2 q a x) (fun x v hv => gSq_b_ok hv) 30 _ r h⟩
def qSqs (q : Nat) : Nat := (List.range q).foldl (fun s a => if a = 0 then s else s ||| 2 ^ (qTi q a a)) 0
def qOkq (q : Nat) : Bool := decide (mLoopN (fun x : Int32 × Int32 => f_X2_squares_b4 (nI q) x.1 x.2) 30 (0, 1) = some (nI (qSqs q))) && (decide (qSqs q < 2 ^ 28) && (List.range q).all fun a => decide (gSqr (nI q) (nI a) = some (qB2I ((qSqs q).testBit a))))
theorem qOk_3 : qOks 3 = true := by decide +kernel
theorem qOk_5 : qOks 5 = true := by decide +kernel
theorem qOk_7 : qOks 7 = true := by decide +kernel
theorem qOk_9 : qOks 9 = true := by decide +kernel
theorem qOk_11 : qOks 11 = true := by decide +kernel
theorem qOk_13 : qOks 13 = true := by decide +kernel
theorem qOk_17 : qOks 17 = true := by decide +kernel
theorem qOk_19 : qOks 19 = true := by decide +kernel
theorem qOk_23 : qOks 23 = true := by decide +kernel
theorem qOk_25 : qOks 25 = true := by decide +kernel
theorem qOk_27 : qOks 27 = true := by decide +kernel
theorem qOkq_all : ∀ q, q ∈ qF → qOkq q = true := by decide +kernel
theorem qOk_all : ∀ q, q ∈ qF → qOks q = true := by
  intro q hq
  simp only [qF, List.mem_cons, List.not_mem_nil, or_false] at hq
  rcases hq with rfl | rfl | rfl | rfl | rfl | rfl | rfl | rfl | rfl | rfl | rfl
  · exact qOk_3
  · exact qOk_5
  · exact qOk_7
  · exact qOk_9
  · exact qOk_11
  · exact qOk_13
  · exact qOk_17
  · exact qOk_19
  · exact qOk_23
  · exact qOk_25
  · exact qOk_27
theorem qFa {q a b : Nat} (hq : q ∈ qF) (ha : a < q) (hb : b < q) : f_X2_difference (nI q) (nI a) (nI b) = some (nI (qDf q a b)) ∧ f_X9_summed (nI q) (nI a) (nI b) (-1) = some (nI (qDf q a b)) ∧ qDf q a b < q ∧ (qDf q a b = 0 ↔ a = b) ∧ f_X2_total (nI q) (nI a) (nI b) = some (nI (qTo q a b)) ∧ f_X9_summed (nI q) (nI a) (nI b) 1 = some (nI (qTo q a b)) ∧ f_X2_times (nI q) (nI a) (nI b) = some (nI (qTi q a b)) ∧ f_X9_times (nI q) (nI a) (nI b) = some (nI (qTi q a b)) := by
  have h1 := List.all_eq_true.mp (qOk_all q hq) a (List.mem_range.mpr ha)
  have h2 := List.all_eq_true.mp h1 b (List.mem_range.mpr hb)
  simp only [qOk, Bool.and_eq_true, decide_eq_true_eq, beq_iff_eq, decide_eq_decide] at h2
  obtain ⟨a1, a2, a3, a4, a5, a6, a7, a8⟩ := h2
  exact ⟨a1, gSm_ok a2, a3, a4, a5, gSm_ok a6, a7, gTm_ok a8⟩
theorem qFs {q : Nat} (hq : q ∈ qF) : f_X2_squares (nI q) = some (nI (qSqs q)) ∧ qSqs q < 2 ^ 28 ∧ ∀ a, a < q → f_X9_isSquare (nI q) (nI a) = some (qB2I ((qSqs q).testBit a)) := by
  have h := qOkq_all q hq
  simp only [qOkq, Bool.and_eq_true, decide_eq_true_eq] at h
  obtain ⟨a1, a2, a3⟩ := h
  refine ⟨?_, a2, fun a ha => ?_⟩
  · unfold f_X2_squares f_X2_squares_l4
    exact mLoop_some.mpr ⟨30, a1⟩
  · have h2 := List.all_eq_true.mp a3 a (List.mem_range.mpr ha)
    exact gSqr_ok (of_decide_eq_true h2)
