/-! PURE: form, the two are one -/
theorem qc_comp {n : Nat} (hn : n ≤ 6) {s : Nat → Nat} (hs : qPm n s) (P : Nat → Bool) : qc n (fun i => P (s i)) ≤ qc n P := by
  have a := qc_into (k := n) (X := qW n P) (P := fun i => P (s i)) (f := s) (Nat.lt_of_lt_of_le (qW_lt n P) (Nat.pow_le_pow_right (by decide) (by omega))) (fun i hi hp => by rw [qW_bit, decide_eq_true (hs.1 i hi)]; exact hp) (fun i j hi hj _ _ => hs.2 i j hi hj)
  rw [qp_qW n (by omega)] at a
  exact a
theorem qSrt.up {n : Nat} {m S sg : Nat → Nat} (s : qSrt n m S sg) : ∀ d i, i + d < n → S i ≤ S (i + d) := by
  intro d
  induction d with
  | zero => intro i _; exact Nat.le_refl _
  | succ d ih => intro i h; exact Nat.le_trans (ih i (by omega)) (s.2.2 (i + d) (by omega))
/-- sorted is least -/
theorem qSrt_le {n : Nat} (hn : n ≤ 6) {m S sg L s : Nat → Nat} (st : qSrt n m S sg) (hs : qPm n s) (hL : ∀ i, i < n → m (s i) ≤ L i) : qLxN 0 n S L := by
  rcases qLeast (fun i => S i = L i) n with z | ⟨k, hk, z1, z2⟩
  · exact Or.inl fun i _ hi => z i hi
  · by_cases y : S k < L k
    · exact Or.inr ⟨k, Nat.zero_le k, hk, y, fun i _ hi => z2 i hi⟩
    · exfalso
      obtain ⟨rh, iv⟩ := qInv_ex hn (show qPm n sg from ⟨fun i hi => (st.1 i hi).1, st.2.1⟩)
      have c1 : qc n (fun i => decide (L i < S k)) ≤ qc n (fun i => decide (m (s i) < S k)) := qc_mono fun i hi h => by
        rw [decide_eq_true_eq] at h ⊢
        have := hL i hi; omega
      have c2 := qc_comp hn hs (fun j => decide (m j < S k))
      have c3 : qc n (fun j => decide (m j < S k)) = qc n (fun j => decide (S (rh j) < S k)) := qc_eq fun j hj => by
        obtain ⟨a, b⟩ := iv.2 j hj
        rw [(st.1 (rh j) a).2, b]
      have c4 := qc_comp hn iv.pm (fun i => decide (S i < S k))
      have c5 : qc n (fun i => decide (S i < S k)) = qc k (fun i => decide (S i < S k)) := qc_ext (by omega) fun i h1 h2 => by
        rw [decide_eq_false_iff_not]
        have := st.up (i - k) k (by omega)
        rw [show k + (i - k) = i by omega] at this
        omega
      have c6 : qc k (fun i => decide (S i < S k)) = qc k (fun i => decide (L i < S k)) := qc_eq fun i hi => by rw [z2 i hi]
      have c7 := qc_lt (p := fun i => decide (L i < S k)) (k := k) (j := n) (by rw [decide_eq_true_eq]; omega) hk
      have c2' : qc n (fun i => decide (m (s i) < S k)) ≤ qc n (fun j => decide (m j < S k)) := c2
      have c4' : qc n (fun j => decide (S (rh j) < S k)) ≤ qc n (fun i => decide (S i < S k)) := c4
      omega
theorem qLs2_le {n : Nat} {R : Nat → Nat} {f k : Nat} {r : Nat → Nat} (s : Bool) : qLs2 n R f r k ≤ qIm n r (qWd n R f k s) := by
  unfold qLs2
  cases s <;> omega
theorem qLs2_ex {n : Nat} {R : Nat → Nat} {f : Nat} {r : Nat → Nat} (k : Nat) : ∃ s, qLs2 n R f r k = qIm n r (qWd n R f k s) := by
  unfold qLs2
  by_cases z : qIm n r (qWd n R f k false) ≤ qIm n r (qWd n R f k true)
  · exact ⟨false, by omega⟩
  · exact ⟨true, by omega⟩
theorem qLs2_0 {n : Nat} {R : Nat → Nat} {f : Nat} {r : Nat → Nat} : qLs2 n R f r f = 0 := by
  have := qLs2_le (n := n) (R := R) (f := f) (k := f) (r := r) false
  have e : qIm n r (qWd n R f f false) = 0 := by
    unfold qWd qIm
    rw [if_neg (by decide), Nat.xor_zero, Nat.xor_self]
    exact qW_false n _ fun i => Nat.zero_testBit _
  omega
theorem qForm_eq {n : Nat} {R L M : Nat → Nat} (h0 : 0 < n) (hn : n ≤ 6) (hR : ∀ i, i < n → R i < 2 ^ n) (l : qFdx n R L) (mm : qMM n R M) : ∀ i, i < n → L i = M i := by
  obtain ⟨l0, ⟨f1, hf1, sg1, ep1, r1, pm1, bp1, v1, inj1, -⟩, la⟩ := l
  obtain ⟨⟨f2, r2, sg2, hf2, pm2, st2⟩, ma⟩ := mm
  have A : qLxN 0 n L M := by
    obtain ⟨rh, iv⟩ := qInv_ex hn (show qPm n sg2 from ⟨fun i hi => (st2.1 i hi).1, st2.2.1⟩)
    obtain ⟨rr, ir⟩ := qInv_ex hn pm2
    obtain ⟨a1, a2⟩ := iv.2 f2 hf2
    have M0 : M 0 = 0 := by
      have := st2.up (rh f2) 0 (by omega)
      rw [Nat.zero_add, (st2.1 _ a1).2, a2, qLs2_0] at this
      omega
    obtain ⟨g1, g2⟩ := st2.1 0 h0
    obtain ⟨e0, he0⟩ := qLs2_ex (n := n) (R := R) (f := f2) (r := r2) (sg2 0)
    have im0 : qIm n r2 (qWd n R f2 (sg2 0) e0) = 0 := by rw [← he0, ← g2]; exact M0
    have wlt : qWd n R f2 (sg2 0) e0 < 2 ^ n := by
      have p := Nat.two_pow_pos n
      refine Nat.xor_lt_two_pow (Nat.xor_lt_two_pow (hR _ g1) (hR _ hf2)) ?_
      cases e0
      · rw [if_neg (by decide)]; exact p
      · rw [if_pos rfl]; omega
    have w0 : qWd n R f2 (sg2 0) e0 = 0 := by
      apply Nat.eq_of_testBit_eq; intro j
      rw [Nat.zero_testBit]
      by_cases z : j < n
      · obtain ⟨b1, b2⟩ := ir.2 j z
        have := congrArg (fun x => x.testBit (rr j)) im0
        simp only [Nat.zero_testBit] at this
        unfold qIm at this
        rw [qW_bit, decide_eq_true b1, Bool.true_and, b2] at this
        exact this
      · exact Nat.testBit_lt_two_pow (Nat.lt_of_lt_of_le wlt (Nat.pow_le_pow_right (by decide) (by omega)))
    have flip : ∀ i s, qWd n R f2 i s = qWd n R (sg2 0) i (s ^^ e0) := by
      intro i s
      have x1 : R (sg2 0) ^^^ R f2 = if e0 then 2 ^ n - 1 else 0 := by
        have : (R (sg2 0) ^^^ R f2) ^^^ (if e0 then 2 ^ n - 1 else 0) = 0 := w0
        have X : ∀ a b : Nat, a ^^^ b = 0 → a = b := fun a b h => by
          have := congrArg (fun z => z ^^^ b) h
          simp only [Nat.xor_assoc, Nat.xor_self, Nat.xor_zero, Nat.zero_xor] at this
          exact this
        exact X _ _ this
      have x2 : R i ^^^ R f2 = (R i ^^^ R (sg2 0)) ^^^ (if e0 then 2 ^ n - 1 else 0) := by
        rw [← x1, Nat.xor_assoc, ← Nat.xor_assoc (R (sg2 0)), Nat.xor_self, Nat.zero_xor]
      unfold qWd
      rw [x2, Nat.xor_assoc]
      congr 1
      cases s <;> cases e0 <;> simp
    have ex : ∀ i, ∃ s, qLs2 n R f2 r2 (sg2 i) = qIm n r2 (qWd n R f2 (sg2 i) s) := fun i => qLs2_ex (sg2 i)
    have kb := (qBk_1 h0 hn).2.2
    have kb' : qp (2 ^ n - 1) = n := kb
    refine qLxN.tl (by rw [l0, M0]) (la (sg2 0) g1 M ⟨sg2, fun i => Classical.choose (ex i) ^^ e0, r2, pm2, ⟨fun i hi => ?_, trivial⟩, fun i i1 i2 => ⟨(st2.1 i i2).1, ?_, ?_⟩, fun i j i1 i2 j1 j2 => st2.2.1 i j i2 j2, fun h1 => ?_⟩)
    · rw [kb'] at hi
      rw [Nat.zero_add, Nat.testBit_two_pow_sub_one, decide_eq_true (pm2.1 i hi)]
    · rw [Nat.testBit_two_pow, decide_eq_false]
      intro z
      have := st2.2.1 0 i h0 i2 z
      omega
    · rw [← flip, ← Classical.choose_spec (ex i)]
      exact (st2.1 i i2).2
    · have a := (st2.1 1 h1).1
      have b : ∀ x : Bool, x.toNat ≤ 1 := fun x => by cases x <;> decide
      have := b (Classical.choose (ex 1) ^^ e0)
      show 2 * sg2 1 + (Classical.choose (ex 1) ^^ e0).toNat < 2 * n
      omega
  have B : qLxN 0 n M L := by
    obtain ⟨S, sg, st, le⟩ := ma f1 hf1 r1 pm1
    refine le.tr (qSrt_le hn st (s := fun i => if i = 0 then f1 else sg1 i) ⟨fun i hi => ?_, fun i j hi hj e => ?_⟩ fun i hi => ?_)
    · by_cases z : i = 0
      · simp only [z, if_true]; exact hf1
      · simp only [z, if_false]; exact (v1 i (by omega) hi).1
    · have ne : ∀ i, i ≠ 0 → i < n → sg1 i ≠ f1 := by
        intro i h1 h2 h3
        have := (v1 i (by omega) h2).2.1
        rw [h3, Nat.testBit_two_pow_self] at this; cases this
      by_cases z : i = 0
      · by_cases y : j = 0
        · omega
        · simp only [z, y, if_true, if_false] at e; exact absurd e.symm (ne j y hj)
      · by_cases y : j = 0
        · simp only [z, y, if_true, if_false] at e; exact absurd e (ne i z hi)
        · simp only [z, y, if_false] at e; exact inj1 i j (by omega) hi (by omega) hj e
    · by_cases z : i = 0
      · simp only [z, if_true]; rw [qLs2_0]; exact Nat.zero_le _
      · simp only [z, if_false]
        rw [(v1 i (by omega) hi).2.2]
        exact qLs2_le _
  exact fun i hi => A.an B i (Nat.zero_le i) hi
