/-! PURE: form, blocks of columns -/
theorem qW_add (a b : Nat) (p : Nat → Bool) : qW (a + b) p = qW a p + 2 ^ a * qW b (fun i => p (a + i)) := by
  induction b with
  | zero => show qW a p = qW a p + 2 ^ a * 0; rw [Nat.mul_zero]; rfl
  | succ b ih =>
    show qW (a + b) p + (p (a + b)).toNat * 2 ^ (a + b) = qW a p + 2 ^ a * (qW b (fun i => p (a + i)) + (p (a + b)).toNat * 2 ^ b)
    rw [ih, Nat.mul_add, Nat.pow_add, Nat.add_assoc]
    congr 2
    rw [← Nat.mul_assoc, ← Nat.mul_assoc, Nat.mul_comm (p (a + b)).toNat]
theorem qp_0 : qp 0 = 0 := by decide
theorem qZb (B w i : Nat) : (B ^^^ (B &&& w)).testBit i = (B.testBit i && !w.testBit i) := by
  rw [Nat.testBit_xor, Nat.testBit_and]
  cases B.testBit i <;> cases w.testBit i <;> rfl
theorem qp_parts (B w : Nat) : qp (B &&& w) + qp (B ^^^ (B &&& w)) = qp B := by
  unfold qp
  rw [← qc_split 32 (fun i => B.testBit i) (fun i => w.testBit i)]
  congr 1
  · exact qc_eq fun i _ => Nat.testBit_and B w i
  · exact qc_eq fun i _ => qZb B w i
theorem qc_into : ∀ {k X : Nat} {P : Nat → Bool} {f : Nat → Nat}, X < 2 ^ 32 → (∀ i, i < k → P i = true → X.testBit (f i) = true) → (∀ i j, i < k → j < k → P i = true → P j = true → f i = f j → i = j) → qc k P ≤ qp X := by
  intro k
  induction k with
  | zero => intro X P f _ _ _; exact Nat.zero_le _
  | succ k ih =>
    intro X P f hX h1 h2
    show qc k P + (P k).toNat ≤ qp X
    cases hp : P k
    · exact ih hX (fun i hi => h1 i (by omega)) (fun i j hi hj => h2 i j (by omega) (by omega))
    · have b := h1 k (by omega) hp
      have hf : f k < 32 := by
        by_cases z : f k < 32
        · exact z
        · rw [Nat.testBit_lt_two_pow (Nat.lt_of_lt_of_le hX (Nat.pow_le_pow_right (by decide) (by omega)))] at b; cases b
      have e := qp_flip X hf
      rw [b] at e
      have := ih (X := X ^^^ 2 ^ f k) (P := P) (f := f) (Nat.xor_lt_two_pow hX (Nat.pow_lt_pow_right (by decide) hf)) (fun i hi hpi => by
        rw [Nat.testBit_xor, h1 i (by omega) hpi, Nat.testBit_two_pow, decide_eq_false (fun z => by have := h2 k i (by omega) (by omega) hp hpi z; omega)]; rfl) (fun i j hi hj => h2 i j (by omega) (by omega))
      have e' : qp (X ^^^ 2 ^ f k) + 1 = qp X + 0 := e
      show qc k P + 1 ≤ qp X
      omega
theorem qBlkN {B w : Nat} {f : Nat → Nat} (hB : B < 2 ^ 32) (h1 : ∀ i, i < qp B → B.testBit (f i) = true) (h2 : ∀ i j, i < qp B → j < qp B → f i = f j → i = j) : qc (qp B) (fun i => w.testBit (f i)) = qp (B &&& w) := by
  have a := qc_into (k := qp B) (X := B &&& w) (P := fun i => w.testBit (f i)) (f := f) (Nat.lt_of_le_of_lt Nat.and_le_left hB) (fun i hi hp => by rw [Nat.testBit_and, h1 i hi, hp]; rfl) (fun i j hi hj _ _ => h2 i j hi hj)
  have b := qc_into (k := qp B) (X := B ^^^ (B &&& w)) (P := fun i => !w.testBit (f i)) (f := f) (Nat.xor_lt_two_pow hB (Nat.lt_of_le_of_lt Nat.and_le_left hB)) (fun i hi hp => by rw [qZb, h1 i hi, hp]; rfl) (fun i j hi hj _ _ => h2 i j hi hj)
  have c := qc_not (qp B) (fun i => w.testBit (f i))
  have d := qp_parts B w
  omega
theorem qLow : ∀ x, x < 64 → 2 ^ qp x - 1 ≤ x := by decide +kernel
def qBv (w : Nat) : List Nat → Nat
  | [] => 0
  | B :: l => (2 ^ qp (B &&& w) - 1) + 2 ^ qp B * qBv w l
def qBn : List Nat → Nat
  | [] => 0
  | B :: l => qp B + qBn l
def qBo (M : Nat) : List Nat := if M = 0 then [] else [M]
def qBs (w : Nat) : List Nat → List Nat
  | [] => []
  | B :: l => qBo (B &&& w) ++ (qBo (B ^^^ (B &&& w)) ++ qBs w l)
def qBpl (r : Nat → Nat) : Nat → List Nat → Prop
  | _, [] => True
  | o, B :: l => (∀ i, i < qp B → B.testBit (r (o + i)) = true) ∧ qBpl r (o + qp B) l
theorem qBp_o {r : Nat → Nat} {o M : Nat} {l : List Nat} : qBpl r o (qBo M ++ l) ↔ (∀ i, i < qp M → M.testBit (r (o + i)) = true) ∧ qBpl r (o + qp M) l := by
  unfold qBo
  by_cases h : M = 0
  · rw [if_pos h, h, qp_0]
    exact ⟨fun z => ⟨fun i hi => absurd hi (Nat.not_lt_zero i), z⟩, fun z => z.2⟩
  · rw [if_neg h]; exact Iff.rfl
theorem qBn_o {M : Nat} {l : List Nat} : qBn (qBo M ++ l) = qp M + qBn l := by
  unfold qBo
  by_cases h : M = 0
  · rw [if_pos h, h, qp_0]; show qBn l = 0 + qBn l; omega
  · rw [if_neg h]; rfl
theorem qBn_s (w : Nat) : ∀ l, qBn (qBs w l) = qBn l
  | [] => rfl
  | B :: l => by
    show qBn (qBo (B &&& w) ++ (qBo (B ^^^ (B &&& w)) ++ qBs w l)) = qp B + qBn l
    rw [qBn_o, qBn_o, qBn_s w l, ← qp_parts B w]
    omega
/-- columns laid in keeping with the blocks: no lesser word than the blocks give, and that word just for those that keep to the split ones -/
theorem qB_le {w : Nat} {r : Nat → Nat} : ∀ {l : List Nat} {o : Nat}, (∀ B, B ∈ l → B < 64) → (∀ i j, o ≤ i → o ≤ j → i < o + qBn l → j < o + qBn l → r i = r j → i = j) → qBpl r o l → qBv w l ≤ qW (qBn l) (fun p => w.testBit (r (o + p))) ∧ (qBv w l = qW (qBn l) (fun p => w.testBit (r (o + p))) ↔ qBpl r o (qBs w l))
  | [], o, _, _, _ => ⟨Nat.le_refl _, ⟨fun _ => trivial, fun _ => rfl⟩⟩
  | B :: l, o, hB, hi, hp => by
    obtain ⟨p1, p2⟩ := hp
    have hB64 := hB B List.mem_cons_self
    have nn : qBn (B :: l) = qp B + qBn l := rfl
    rw [nn] at hi
    obtain ⟨i1, i2⟩ := qB_le (w := w) (r := r) (l := l) (o := o + qp B) (fun X hX => hB X (List.mem_cons_of_mem _ hX)) (fun i j h1 h2 h3 h4 => hi i j (by omega) (by omega) (by omega) (by omega)) p2
    have q6 : qp B ≤ 6 := qp_len (n := 6) hB64 (by decide)
    have cc := qBlkN (w := w) (f := fun i => r (o + i)) (Nat.lt_trans hB64 (by decide)) p1 (fun i j h1 h2 h3 => by have := hi (o + i) (o + j) (by omega) (by omega) (by omega) (by omega) h3; omega)
    have pp := qp_parts B w
    rw [nn, qW_add]
    have sh : (fun i => w.testBit (r (o + (qp B + i)))) = (fun p => w.testBit (r (o + qp B + p))) := by funext i; rw [Nat.add_assoc]
    show (2 ^ qp (B &&& w) - 1) + 2 ^ qp B * qBv w l ≤ _ ∧ ((2 ^ qp (B &&& w) - 1) + 2 ^ qp B * qBv w l = _ ↔ qBpl r o (qBo (B &&& w) ++ (qBo (B ^^^ (B &&& w)) ++ qBs w l)))
    rw [sh, qBp_o, qBp_o]
    generalize hy : qW (qBn l) (fun p => w.testBit (r (o + qp B + p))) = y at i1 i2 ⊢
    generalize hx : qW (qp B) (fun p => w.testBit (r (o + p))) = x
    have x64 : x < 64 := by rw [← hx]; exact Nat.lt_of_lt_of_le (qW_lt _ _) (Nat.pow_le_pow_right (n := 2) (by decide) q6)
    have xp : qp x = qp (B &&& w) := by rw [← hx, qp_qW (qp B) (by omega)]; exact cc
    have xb : ∀ i, x.testBit i = (decide (i < qp B) && w.testBit (r (o + i))) := fun i => by rw [← hx, qW_bit]
    have xl := qLow x x64
    rw [xp] at xl
    generalize hc : qp (B &&& w) = c at *
    have c2 : 0 < 2 ^ c := Nat.two_pow_pos c
    have k2 : 0 < 2 ^ qp B := Nat.two_pow_pos _
    have mle : 2 ^ qp B * qBv w l ≤ 2 ^ qp B * y := Nat.mul_le_mul_left _ i1
    refine ⟨by omega, ?_⟩
    have loc : x = 2 ^ c - 1 ↔ (∀ i, i < c → (B &&& w).testBit (r (o + i)) = true) ∧ ∀ i, i < qp (B ^^^ (B &&& w)) → (B ^^^ (B &&& w)).testBit (r (o + c + i)) = true := by
      constructor
      · intro e
        refine ⟨fun i hi => ?_, fun i hi => ?_⟩
        · have := xb i
          rw [e, Nat.testBit_two_pow_sub_one, decide_eq_true hi, decide_eq_true (show i < qp B by omega), Bool.true_and] at this
          rw [Nat.testBit_and, p1 i (by omega), ← this]; rfl
        · have := xb (c + i)
          rw [e, Nat.testBit_two_pow_sub_one, decide_eq_false (by omega), decide_eq_true (show c + i < qp B by omega), Bool.true_and, ← Nat.add_assoc] at this
          have t := p1 (c + i) (by omega)
          rw [← Nat.add_assoc] at t
          rw [qZb, t, ← this]; rfl
      · rintro ⟨h1, h2⟩
        apply Nat.eq_of_testBit_eq
        intro i
        rw [xb, Nat.testBit_two_pow_sub_one]
        by_cases z : i < c
        · have := h1 i z
          rw [Nat.testBit_and, Bool.and_eq_true] at this
          rw [decide_eq_true z, decide_eq_true (show i < qp B by omega), this.2]; rfl
        · rw [decide_eq_false z]
          by_cases z2 : i < qp B
          · have := h2 (i - c) (by omega)
            rw [qZb, Bool.and_eq_true, show o + c + (i - c) = o + i by omega] at this
            rw [decide_eq_true z2, Bool.true_and]
            have t := this.2
            cases hw : w.testBit (r (o + i))
            · rfl
            · rw [hw] at t; cases t
          · rw [decide_eq_false z2]; rfl
    have o2 : o + c + qp (B ^^^ (B &&& w)) = o + qp B := by omega
    rw [o2, ← and_assoc, ← loc, ← i2]
    constructor
    · intro e
      have : x = 2 ^ c - 1 := by omega
      refine ⟨this, Nat.eq_of_mul_eq_mul_left k2 (by omega)⟩
    · rintro ⟨e1, e2⟩
      rw [e1, e2]
theorem qBp_of_s {w : Nat} {r : Nat → Nat} : ∀ {l : List Nat} {o : Nat}, qBpl r o (qBs w l) → qBpl r o l
  | [], _, _ => trivial
  | B :: l, o, hp => by
    have hp' : qBpl r o (qBo (B &&& w) ++ (qBo (B ^^^ (B &&& w)) ++ qBs w l)) := hp
    rw [qBp_o, qBp_o] at hp'
    obtain ⟨h1, h2, h3⟩ := hp'
    have pp := qp_parts B w
    refine ⟨fun i hi => ?_, qBp_of_s (w := w) (by rw [show o + qp B = o + qp (B &&& w) + qp (B ^^^ (B &&& w)) by omega]; exact h3)⟩
    by_cases z : i < qp (B &&& w)
    · have := h1 i z
      rw [Nat.testBit_and, Bool.and_eq_true] at this
      exact this.1
    · have := h2 (i - qp (B &&& w)) (by omega)
      rw [qZb, Bool.and_eq_true, show o + qp (B &&& w) + (i - qp (B &&& w)) = o + i by omega] at this
      exact this.1
/-- blocks: not empty, apart from each other, all columns -/
def qBk (n : Nat) (l : List Nat) : Prop := (∀ B, B ∈ l → 0 < B ∧ B < 2 ^ n) ∧ l.Pairwise (fun a b => a &&& b = 0) ∧ qBn l = n
theorem qBs_in {w X : Nat} : ∀ {l : List Nat}, X ∈ qBs w l → 0 < X ∧ ∃ B, B ∈ l ∧ B &&& X = X
  | [], h => absurd h (List.not_mem_nil)
  | B :: l, h => by
    have h' : X ∈ qBo (B &&& w) ++ (qBo (B ^^^ (B &&& w)) ++ qBs w l) := h
    rw [List.mem_append, List.mem_append] at h'
    have O : ∀ M, X ∈ qBo M → X = M ∧ 0 < X := by
      intro M hM
      unfold qBo at hM
      by_cases z : M = 0
      · rw [if_pos z] at hM; exact absurd hM (List.not_mem_nil)
      · rw [if_neg z, List.mem_singleton] at hM; exact ⟨hM, by omega⟩
    rcases h' with h1 | h1 | h1
    · obtain ⟨e, p⟩ := O _ h1
      refine ⟨p, B, List.mem_cons_self, ?_⟩
      rw [e]
      apply Nat.eq_of_testBit_eq; intro i
      rw [Nat.testBit_and, Nat.testBit_and]
      cases B.testBit i <;> rfl
    · obtain ⟨e, p⟩ := O _ h1
      refine ⟨p, B, List.mem_cons_self, ?_⟩
      rw [e]
      apply Nat.eq_of_testBit_eq; intro i
      rw [Nat.testBit_and, qZb]
      cases B.testBit i <;> rfl
    · obtain ⟨p, C, c1, c2⟩ := qBs_in h1
      exact ⟨p, C, List.mem_cons_of_mem _ c1, c2⟩
theorem qApart {B C X Y : Nat} (h : B &&& C = 0) (hX : B &&& X = X) (hY : C &&& Y = Y) : X &&& Y = 0 := by
  rw [← hX, ← hY]
  apply Nat.eq_of_testBit_eq; intro i
  have := congrArg (fun z => z.testBit i) h
  simp only [Nat.testBit_and, Nat.zero_testBit] at this
  rw [Nat.testBit_and, Nat.testBit_and, Nat.testBit_and, Nat.zero_testBit]
  revert this
  cases B.testBit i <;> cases C.testBit i <;> cases X.testBit i <;> cases Y.testBit i <;> decide
theorem qBs_apart {w : Nat} : ∀ {l : List Nat}, l.Pairwise (fun a b => a &&& b = 0) → (qBs w l).Pairwise (fun a b => a &&& b = 0)
  | [], _ => List.Pairwise.nil
  | B :: l, h => by
    rw [List.pairwise_cons] at h
    obtain ⟨h1, h2⟩ := h
    have O : ∀ M (l' : List Nat), (∀ Y, Y ∈ l' → M &&& Y = 0) → l'.Pairwise (fun a b => a &&& b = 0) → (qBo M ++ l').Pairwise (fun a b => a &&& b = 0) := by
      intro M l' a b
      unfold qBo
      by_cases z : M = 0
      · rw [if_pos z]; exact b
      · rw [if_neg z]; exact List.Pairwise.cons a b
    have BX1 : B &&& (B &&& w) = B &&& w := by
      apply Nat.eq_of_testBit_eq; intro i
      rw [Nat.testBit_and, Nat.testBit_and]; cases B.testBit i <;> rfl
    have BX2 : B &&& (B ^^^ (B &&& w)) = B ^^^ (B &&& w) := by
      apply Nat.eq_of_testBit_eq; intro i
      rw [Nat.testBit_and, qZb]; cases B.testBit i <;> rfl
    have R := qBs_apart (w := w) h2
    refine O _ _ (fun Y hY => ?_) (O _ _ (fun Y hY => ?_) R)
    · rw [List.mem_append] at hY
      rcases hY with hY | hY
      · unfold qBo at hY
        by_cases z : B ^^^ (B &&& w) = 0
        · rw [if_pos z] at hY; exact absurd hY (List.not_mem_nil)
        · rw [if_neg z, List.mem_singleton] at hY
          rw [hY]
          apply Nat.eq_of_testBit_eq; intro i
          rw [Nat.testBit_and, Nat.testBit_and, qZb, Nat.zero_testBit]
          cases B.testBit i <;> cases w.testBit i <;> rfl
      · obtain ⟨-, C, c1, c2⟩ := qBs_in hY
        exact qApart (h1 C c1) BX1 c2
    · obtain ⟨-, C, c1, c2⟩ := qBs_in hY
      exact qApart (h1 C c1) BX2 c2
theorem qBk.s {n w : Nat} {l : List Nat} (k : qBk n l) : qBk n (qBs w l) := by
  refine ⟨fun X hX => ?_, qBs_apart k.2.1, by rw [qBn_s]; exact k.2.2⟩
  obtain ⟨h1, B, h2, h3⟩ := qBs_in hX
  exact ⟨h1, Nat.lt_of_le_of_lt (by rw [← h3]; exact Nat.and_le_left) (k.1 B h2).2⟩
theorem qBp_shift {r : Nat → Nat} : ∀ {l : List Nat} {o : Nat}, qBpl (fun p => r (o + p)) 0 l → qBpl r o l := by
  have G : ∀ {l : List Nat} {o k : Nat}, qBpl (fun p => r (o + p)) k l → qBpl r (o + k) l := by
    intro l
    induction l with
    | nil => intro o k _; trivial
    | cons B l ih =>
      intro o k h
      exact ⟨fun i hi => by have := h.1 i hi; rw [Nat.add_assoc]; exact this, by have := ih h.2; rw [Nat.add_assoc]; exact this⟩
  intro l o h
  exact G h
theorem qBp_mem {r : Nat → Nat} : ∀ {l : List Nat} {o : Nat}, qBpl r o l → ∀ p, p < qBn l → ∃ B, B ∈ l ∧ B.testBit (r (o + p)) = true
  | [], _, _, p, hp => absurd hp (Nat.not_lt_zero p)
  | B :: l, o, h, p, hp => by
    have hp' : p < qp B + qBn l := hp
    by_cases z : p < qp B
    · exact ⟨B, List.mem_cons_self, h.1 p z⟩
    · obtain ⟨C, c1, c2⟩ := qBp_mem h.2 (p - qp B) (by omega)
      rw [show o + qp B + (p - qp B) = o + p by omega] at c2
      exact ⟨C, List.mem_cons_of_mem _ c1, c2⟩
theorem qB_ex : ∀ {l : List Nat}, l.Pairwise (fun a b => a &&& b = 0) → ∃ r, qBpl r 0 l ∧ ∀ i j, i < qBn l → j < qBn l → r i = r j → i = j
  | [], _ => ⟨fun _ => 0, trivial, fun i _ hi => absurd hi (Nat.not_lt_zero i)⟩
  | B :: l, h => by
    rw [List.pairwise_cons] at h
    obtain ⟨r', a1, a2⟩ := qB_ex h.2
    have nth : ∀ i, ∃ o, i < qp B → (B.testBit o = true ∧ qc o (fun k => B.testBit k) = i) := by
      intro i
      by_cases z : i < qp B
      · obtain ⟨k, k1, k2, k3⟩ := qc_ex (p := fun k => B.testBit k) (n := 32) (w := i) z
        exact ⟨k, fun _ => ⟨k2, k3⟩⟩
      · exact ⟨0, fun y => absurd y z⟩
    let g : Nat → Nat := fun i => Classical.choose (nth i)
    have hg : ∀ i, i < qp B → (B.testBit (g i) = true ∧ qc (g i) (fun k => B.testBit k) = i) := fun i => Classical.choose_spec (nth i)
    let r : Nat → Nat := fun p => if p < qp B then g p else r' (p - qp B)
    have ra : ∀ p, p < qp B → r p = g p := fun p hp => if_pos hp
    have rb : ∀ p, r (qp B + p) = r' p := fun p => by show (if qp B + p < qp B then _ else _) = _; rw [if_neg (by omega), Nat.add_sub_cancel_left]
    have tail : qBpl r (qp B) l := by
      apply qBp_shift
      have : (fun p => r (qp B + p)) = r' := funext rb
      rw [this]; exact a1
    refine ⟨r, ⟨fun i hi => by rw [Nat.zero_add, ra i hi]; exact (hg i hi).1, by rw [Nat.zero_add]; exact tail⟩, ?_⟩
    have mixed : ∀ i j, i < qp B → ¬ j < qp B → j < qp B + qBn l → r i ≠ r j := by
      intro i j hi hj hj2 e
      obtain ⟨C, c1, c2⟩ := qBp_mem a1 (j - qp B) (by omega)
      rw [Nat.zero_add] at c2
      have e2 : r j = r' (j - qp B) := if_neg hj
      rw [← e2, ← e, ra i hi] at c2
      have z := congrArg (fun z => z.testBit (g i)) (h.1 C c1)
      simp only [Nat.testBit_and, Nat.zero_testBit] at z
      rw [(hg i hi).1, c2] at z
      cases z
    intro i j hi hj e
    have hi' : i < qp B + qBn l := hi
    have hj' : j < qp B + qBn l := hj
    by_cases zi : i < qp B
    · by_cases zj : j < qp B
      · rw [ra i zi, ra j zj] at e
        have h1 := (hg i zi).2
        have h2 := (hg j zj).2
        rw [e, h2] at h1; exact h1.symm
      · exact absurd e (mixed i j zi zj hj')
    · by_cases zj : j < qp B
      · exact absurd e.symm (mixed j i zj zi hi')
      · have e1 : r i = r' (i - qp B) := if_neg zi
        have e2 : r j = r' (j - qp B) := if_neg zj
        rw [e1, e2] at e
        have := a2 (i - qp B) (j - qp B) (by omega) (by omega) e
        omega
