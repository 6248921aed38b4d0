/-! PURE: the class's classes of columns, parted by a row -/
section QFT
variable (n : Nat) (R S : Nat → Nat)
theorem qHH_congr {c c' : Nat → Nat} {k : Nat} (h : ∀ e, e < k → c' e = c e) (j o : Nat) : qHH n R c' k j o = qHH n R c k j o := by
  apply qBeq
  rw [qHH_iff, qHH_iff]
  have X : ∀ e, e < k → ∀ z, qXb n R c' e z = qXb n R c e z := fun e he z => by unfold qXb qXw; rw [h e he, h 0 (by omega)]
  constructor <;> intro z e he <;> have := z e he
  · rw [X e he, X e he] at this; exact this
  · rw [X e he, X e he]; exact this
theorem qHT_congr {c c' : Nat → Nat} {k : Nat} (h : ∀ e, e < k → c' e = c e) (j o : Nat) : qHT n R S c' k j o = qHT n R S c k j o := by
  apply qBeq
  rw [qHT_iff, qHT_iff]
  have X : ∀ e, e < k → ∀ z, qXb n R c' e z = qXb n R c e z := fun e he z => by unfold qXb qXw; rw [h e he, h 0 (by omega)]
  have Y : ∀ e, e < k → ∀ z, qYb S c' e z = qYb S c e z := fun e he z => by unfold qYb; rw [h e he, h 0 (by omega)]
  constructor <;> intro z e he <;> have := z e he
  · rw [X e he, Y e he] at this; exact this
  · rw [X e he, Y e he]; exact this
/-- a level: so many classes, each with a column of its own -/
def qLv (c : Nat → Nat) (f35 f36 f37 : Nat → Int32) (k : Nat) : Prop := ∃ (cc : Nat) (r : Nat → Nat), f37 k = nI cc ∧ (∀ i, i < cc → r i < n ∧ f35 (12 * k + i) = nI (qW n (qHH n R c k (r i))) ∧ f36 (12 * k + i) = nI (qW n (qHT n R S c k (r i)))) ∧ (∀ j, j < n → ∃ i, i < cc ∧ qHH n R c k (r i) j = true) ∧ qSum cc (fun i => qp (qW n (qHH n R c k (r i)))) = n
theorem qLv.congr {c c' : Nat → Nat} {f35 f36 f37 : Nat → Int32} {k : Nat} (l : qLv n R S c f35 f36 f37 k) (h : ∀ e, e < k → c' e = c e) : qLv n R S c' f35 f36 f37 k := by
  obtain ⟨cc, r, l1, l2, l3, l4⟩ := l
  have e1 : ∀ j, qHH n R c' k j = qHH n R c k j := fun j => funext fun o => qHH_congr n R h j o
  have e2 : ∀ j, qHT n R S c' k j = qHT n R S c k j := fun j => funext fun o => qHT_congr n R S h j o
  refine ⟨cc, r, l1, fun i hi => ?_, fun j hj => ?_, ?_⟩
  · rw [e1, e2]; exact l2 i hi
  · obtain ⟨i, i1, i2⟩ := l3 j hj
    exact ⟨i, i1, by rw [e1]; exact i2⟩
  · exact Eq.trans (qSum_eq fun i _ => by rw [e1]) l4
theorem qLv.same {c : Nat → Nat} {f35 f36 f37 g35 g36 g37 : Nat → Int32} {k : Nat} (l : qLv n R S c f35 f36 f37 k) (hn : n ≤ 12) (h5 : ∀ p, p < 12 * (k + 1) → g35 p = f35 p) (h6 : ∀ p, p < 12 * (k + 1) → g36 p = f36 p) (h7 : g37 k = f37 k) : qLv n R S c g35 g36 g37 k := by
  obtain ⟨cc, r, l1, l2, l3, l4⟩ := l
  have hcc : cc ≤ n := by
    have G : ∀ m, m ≤ cc → m ≤ qSum m (fun i => qp (qW n (qHH n R c k (r i)))) := by
      intro m
      induction m with
      | zero => intro _; exact Nat.zero_le _
      | succ m ih =>
        intro hm
        have h1 := ih (by omega)
        have h2 : 1 ≤ qp (qW n (qHH n R c k (r m))) := by
          rw [qp_lt (qW_lt n _) (by omega), qc_eq (q := qHH n R c k (r m)) fun i hi => by rw [qW_bit]; simp [hi]]
          by_cases z : qc n (qHH n R c k (r m)) = 0
          · have := qc_zero.mp z (r m) (l2 m (by omega)).1
            rw [qHH_rf] at this; cases this
          · omega
        show m + 1 ≤ qSum m _ + qp (qW n (qHH n R c k (r m)))
        omega
    have := G cc (Nat.le_refl _)
    omega
  refine ⟨cc, r, h7.trans l1, fun i hi => ?_, l3, l4⟩
  obtain ⟨a1, a2, a3⟩ := l2 i hi
  exact ⟨a1, (h5 _ (by omega)).trans a2, (h6 _ (by omega)).trans a3⟩
theorem qLv.le {c : Nat → Nat} {f35 f36 f37 : Nat → Int32} {k cc : Nat} (hn : n ≤ 12) {r : Nat → Nat} (hr : ∀ i, i < cc → r i < n) (hs : qSum cc (fun i => qp (qW n (qHH n R c k (r i)))) = n) : cc ≤ n := by
  have G : ∀ m, m ≤ cc → m ≤ qSum m (fun i => qp (qW n (qHH n R c k (r i)))) := by
    intro m
    induction m with
    | zero => intro _; exact Nat.zero_le _
    | succ m ih =>
      intro hm
      have h1 := ih (by omega)
      have h2 : 1 ≤ qp (qW n (qHH n R c k (r m))) := by
        rw [qp_lt (qW_lt n _) (by omega), qc_eq (q := qHH n R c k (r m)) fun i hi => by rw [qW_bit]; simp [hi]]
        by_cases z : qc n (qHH n R c k (r m)) = 0
        · have := qc_zero.mp z (r m) (hr m (by omega))
          rw [qHH_rf] at this; cases this
        · omega
      show m + 1 ≤ qSum m _ + qp (qW n (qHH n R c k (r m)))
      omega
  have := G cc (Nat.le_refl _)
  omega
def qPt (c : Nat → Nat) (k r : Nat) (b : Bool) : Nat := qW n (fun o => qHH n R c k r o && (qXb n R c k o == b))
def qPu (c : Nat → Nat) (k r : Nat) (b : Bool) : Nat := qW n (fun o => qHT n R S c k r o && (qYb S c k o == b))
theorem qp_qW (hn : n ≤ 32) (p : Nat → Bool) : qp (qW n p) = qc n p := by
  rw [qp_lt (qW_lt n p) hn]
  exact qc_eq fun i hi => by rw [qW_bit]; simp [hi]
/-- classes laid so far at the level behind k -/
def qAcc (c : Nat → Nat) (k m : Nat) (r : Nat → Nat) (f35 f36 : Nat → Int32) (cov : Nat → Prop) (tot : Nat) : Prop := (∀ i, i < m → r i < n ∧ f35 (12 * (k + 1) + i) = nI (qW n (qHH n R c (k + 1) (r i))) ∧ f36 (12 * (k + 1) + i) = nI (qW n (qHT n R S c (k + 1) (r i)))) ∧ (∀ j, j < n → cov j → ∃ i, i < m ∧ qHH n R c (k + 1) (r i) j = true) ∧ qSum m (fun i => qp (qW n (qHH n R c (k + 1) (r i)))) = tot
theorem qAcc.m_le {c : Nat → Nat} {k m : Nat} {r : Nat → Nat} {f35 f36 : Nat → Int32} {cov : Nat → Prop} {tot : Nat} (a : qAcc n R S c k m r f35 f36 cov tot) (hn : n ≤ 12) : m ≤ tot := by
  obtain ⟨a1, a2, a3⟩ := a
  have G : ∀ z, z ≤ m → z ≤ qSum z (fun i => qp (qW n (qHH n R c (k + 1) (r i)))) := by
    intro z
    induction z with
    | zero => intro _; exact Nat.zero_le _
    | succ z ih =>
      intro hz
      have h1 := ih (by omega)
      have h2 : 1 ≤ qp (qW n (qHH n R c (k + 1) (r z))) := by
        rw [qp_qW n (by omega)]
        by_cases y : qc n (qHH n R c (k + 1) (r z)) = 0
        · have := qc_zero.mp y (r z) (a1 z (by omega)).1
          rw [qHH_rf] at this; cases this
        · omega
      show z + 1 ≤ qSum z _ + qp (qW n (qHH n R c (k + 1) (r z)))
      omega
  have := G m (Nat.le_refl _)
  omega
/-- one more class -/
theorem qAcc.add {c : Nat → Nat} {k m : Nat} {r : Nat → Nat} {f35 f36 : Nat → Int32} {cov : Nat → Prop} {tot : Nat} (a : qAcc n R S c k m r f35 f36 cov tot) (hn : n ≤ 12) {r0 : Nat} {b : Bool} (h0 : qPt n R c k r0 b ≠ 0) : ∃ r', qAcc n R S c k (m + 1) r' (upd f35 (12 * (k + 1) + m) (nI (qPt n R c k r0 b))) (upd f36 (12 * (k + 1) + m) (nI (qPu n R S c k r0 b))) (fun j => cov j ∨ (qHH n R c k r0 j = true ∧ qXb n R c k j = b)) (tot + qp (qPt n R c k r0 b)) := by
  obtain ⟨j0, hj0, h1, h2⟩ : ∃ j0, j0 < n ∧ qHH n R c k r0 j0 = true ∧ qXb n R c k j0 = b := by
    refine Classical.byContradiction fun hno => h0 ?_
    unfold qPt
    have : qW n (fun o => qHH n R c k r0 o && (qXb n R c k o == b)) = qW n (fun _ => false) := qW_congr fun i hi => by
      by_cases z : qHH n R c k r0 i = true
      · by_cases y : qXb n R c k i = b
        · exact absurd ⟨i, hi, z, y⟩ hno
        · rw [z, Bool.true_and]
          simpa using y
      · simp at z; rw [z, Bool.false_and]
    rw [this]
    exact qW_false n _ fun _ => rfl
  have e1 : qHH n R c (k + 1) j0 = fun o => qHH n R c k r0 o && (qXb n R c k o == b) := by
    funext o
    show (qHH n R c k j0 o && (qXb n R c k o == qXb n R c k j0)) = _
    rw [qHH_tr n R h1, h2]
  have e2 : qHT n R S c (k + 1) j0 = fun o => qHT n R S c k r0 o && (qYb S c k o == b) := by
    funext o
    show (qHT n R S c k j0 o && (qYb S c k o == qXb n R c k j0)) = _
    rw [qHT_tr n R S h1, h2]
  obtain ⟨a1, a2, a3⟩ := a
  refine ⟨va_up r m j0, fun i hi => ?_, fun j hj hc => ?_, ?_⟩
  · by_cases z : i = m
    · subst z
      rw [qVs, qUps, qUps, e1, e2]
      exact ⟨hj0, rfl, rfl⟩
    · rw [qVn z, qUpn (by omega), qUpn (by omega)]
      exact a1 i (by omega)
  · rcases hc with hc | ⟨y1, y2⟩
    · obtain ⟨i, i1, i2⟩ := a2 j hj hc
      exact ⟨i, by omega, by rw [qVn (by omega)]; exact i2⟩
    · refine ⟨m, by omega, ?_⟩
      rw [qVs, e1]
      show (qHH n R c k r0 j && (qXb n R c k j == b)) = true
      rw [y1, y2]
      simp
  · show qSum m (fun i => qp (qW n (qHH n R c (k + 1) (va_up r m j0 i)))) + qp (qW n (qHH n R c (k + 1) (va_up r m j0 m))) = _
    rw [qVs, e1]
    congr 1
    rw [← a3]
    exact qSum_eq fun i hi => by rw [qVn (by omega)]
theorem qAcc.skip {c : Nat → Nat} {k m : Nat} {r : Nat → Nat} {f35 f36 : Nat → Int32} {cov : Nat → Prop} {tot : Nat} (a : qAcc n R S c k m r f35 f36 cov tot) {r0 : Nat} {b : Bool} (h0 : qPt n R c k r0 b = 0) : qAcc n R S c k m r f35 f36 (fun j => cov j ∨ (qHH n R c k r0 j = true ∧ qXb n R c k j = b)) (tot + qp (qPt n R c k r0 b)) := by
  obtain ⟨a1, a2, a3⟩ := a
  refine ⟨a1, fun j hj hc => ?_, ?_⟩
  · rcases hc with hc | ⟨y1, y2⟩
    · exact a2 j hj hc
    · exfalso
      have : (qPt n R c k r0 b).testBit j = true := by
        unfold qPt
        rw [qW_bit, decide_eq_true hj, y1, y2]
        simp
      rw [h0, Nat.zero_testBit] at this
      cases this
  · rw [h0, a3]
    have : qp 0 = 0 := by decide
    omega
theorem qPt_sum (hn : n ≤ 32) (c : Nat → Nat) (k r : Nat) : qp (qPt n R c k r true) + qp (qPt n R c k r false) = qp (qW n (qHH n R c k r)) := by
  unfold qPt
  rw [qp_qW n hn, qp_qW n hn, qp_qW n hn, ← qc_split n (qHH n R c k r) (qXb n R c k)]
  congr 1
  · exact qc_eq fun i _ => by cases qXb n R c k i <;> simp
  · exact qc_eq fun i _ => by cases qXb n R c k i <;> simp
/-- the words that part -/
theorem qXw_lt (hR : ∀ e, e < n → R e < 2 ^ n) (c : Nat → Nat) {e : Nat} (he : e < n) : qXw n R c e < 2 ^ n := by
  unfold qXw
  refine Nat.xor_lt_two_pow (hR e he) ?_
  have := Nat.two_pow_pos n
  by_cases h : c e % 2 = 1
  · rw [if_pos h]; omega
  · rw [if_neg h]; omega
theorem qPt_t (c : Nat → Nat) (k r : Nat) : qW n (qHH n R c k r) &&& (qXw n R c k ^^^ qXw n R c 0) = qPt n R c k r true := by
  unfold qPt
  refine qW_ext (Nat.lt_of_le_of_lt Nat.and_le_left (qW_lt n _)) fun i hi => ?_
  rw [Nat.testBit_and, qW_bit, Nat.testBit_xor, decide_eq_true hi, Bool.true_and]
  show (qHH n R c k r i && qXb n R c k i) = _
  cases qXb n R c k i <;> simp
theorem qPt_f (c : Nat → Nat) (k r : Nat) : qW n (qHH n R c k r) ^^^ (qW n (qHH n R c k r) &&& (qXw n R c k ^^^ qXw n R c 0)) = qPt n R c k r false := by
  unfold qPt
  refine qW_ext (Nat.xor_lt_two_pow (qW_lt n _) (Nat.lt_of_le_of_lt Nat.and_le_left (qW_lt n _))) fun i hi => ?_
  rw [Nat.testBit_xor, Nat.testBit_and, qW_bit, Nat.testBit_xor, decide_eq_true hi, Bool.true_and]
  show (qHH n R c k r i ^^ (qHH n R c k r i && qXb n R c k i)) = _
  cases qXb n R c k i <;> cases qHH n R c k r i <;> rfl
theorem qPu_t (c : Nat → Nat) (k r : Nat) : qW n (qHT n R S c k r) &&& (S (c k / 2) ^^^ S (c 0 / 2)) = qPu n R S c k r true := by
  unfold qPu
  refine qW_ext (Nat.lt_of_le_of_lt Nat.and_le_left (qW_lt n _)) fun i hi => ?_
  rw [Nat.testBit_and, qW_bit, Nat.testBit_xor, decide_eq_true hi, Bool.true_and]
  show (qHT n R S c k r i && qYb S c k i) = _
  cases qYb S c k i <;> simp
theorem qPu_f (c : Nat → Nat) (k r : Nat) : qW n (qHT n R S c k r) ^^^ (qW n (qHT n R S c k r) &&& (S (c k / 2) ^^^ S (c 0 / 2))) = qPu n R S c k r false := by
  unfold qPu
  refine qW_ext (Nat.xor_lt_two_pow (qW_lt n _) (Nat.lt_of_le_of_lt Nat.and_le_left (qW_lt n _))) fun i hi => ?_
  rw [Nat.testBit_xor, Nat.testBit_and, qW_bit, Nat.testBit_xor, decide_eq_true hi, Bool.true_and]
  show (qHT n R S c k r i ^^ (qHT n R S c k r i && qYb S c k i)) = _
  cases qYb S c k i <;> cases qHT n R S c k r i <;> rfl
end QFT
theorem qI_andn (a b : Nat) : nI a &&& (nI b ^^^ (-1)) = nI (a ^^^ (a &&& b)) := by
  apply qI_inj
  apply BitVec.eq_of_getLsbD_eq
  intro i hi
  rw [Int32.toBitVec_and, Int32.toBitVec_xor, qI_bv, qI_bv, qI_bv]
  have h1 : ((-1 : Int32).toBitVec).getLsbD i = true := by
    have : ((-1 : Int32).toBitVec) = BitVec.allOnes 32 := by decide
    rw [this, BitVec.getLsbD_allOnes]
    exact decide_eq_true hi
  simp only [BitVec.getLsbD_and, BitVec.getLsbD_xor, BitVec.getLsbD_ofNat, h1, hi, decide_true, Bool.true_and, Nat.testBit_xor, Nat.testBit_and]
  cases a.testBit i <;> cases b.testBit i <;> rfl
