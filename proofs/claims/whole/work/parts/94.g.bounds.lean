/-! PURE: at order 12 there are not too many rows to try -/
def qPe (n a b : Nat) : Bool := decide (2 * qp (a ^^^ b) = n)
def qAny (p : Nat → Nat → Bool) (v : Nat) : Nat → Bool
  | 0 => false
  | K + 1 => qAny p v K || p K v
theorem qAny_of {p : Nat → Nat → Bool} {v a : Nat} (h : p a v = true) : ∀ {K}, a < K → qAny p v K = true := by
  intro K
  induction K with
  | zero => intro h; exact absurd h (Nat.not_lt_zero a)
  | succ K ih =>
    intro hk
    show (qAny p v K || p K v) = true
    rw [Bool.or_eq_true]
    by_cases z : a = K
    · rw [← z]; exact Or.inr h
    · exact Or.inl (ih (by omega))
theorem qc_any (n : Nat) (p : Nat → Nat → Bool) : ∀ K, qc n (fun v => qAny p v K) ≤ qSum K (fun a => qc n (p a)) := by
  intro K
  induction K with
  | zero =>
    have : qc n (fun v => qAny p v 0) = 0 := qc_zero.mpr fun i _ => rfl
    rw [this]; exact Nat.zero_le _
  | succ K ih =>
    have h2 := qc_or n (fun v => qAny p v K) (p K)
    show qc n (fun v => qAny p v K || p K v) ≤ qSum K (fun a => qc n (p a)) + qc n (p K)
    omega
theorem qCnt {s : Nat} (hs : s < 2 ^ 11) {f : Nat → Nat} (hf : ∀ i, f i < 4) {P : Nat → Bool} (K : Nat) (al : Nat → Nat → Nat) (h : ∀ v, v < 2 ^ 11 → P (v ^^^ s) = true → ∃ a, a < K ∧ qKl 11 f (al a) v = true) : qc (2 ^ 11) P ≤ qSum K (fun a => qPr4 (fun z => qc 11 (fun i => decide (f i = z))) (al a)) := by
  rw [← qc_move 11 s P hs]
  have h1 : qc (2 ^ 11) (fun w => P (w ^^^ s)) ≤ qc (2 ^ 11) (fun v => qAny (fun a => qKl 11 f (al a)) v K) := qc_mono fun i hi hp => by
    obtain ⟨a, a1, a2⟩ := h i hi hp
    exact qAny_of (p := fun a => qKl 11 f (al a)) a2 a1
  have h2 := qc_any (2 ^ 11) (fun a => qKl 11 f (al a)) K
  have h3 : qSum K (fun a => qc (2 ^ 11) (qKl 11 f (al a))) = qSum K (fun a => qPr4 (fun z => qc 11 (fun i => decide (f i = z))) (al a)) := qSum_eq fun a _ => qKl_cnt f hf 11 (al a)
  omega
theorem qc_four (m : Nat) (p : Nat → Bool) (f : Nat → Nat) (hf : ∀ i, f i < 4) : qc m p = qc m (fun i => p i && decide (f i = 0)) + qc m (fun i => p i && decide (f i = 1)) + qc m (fun i => p i && decide (f i = 2)) + qc m (fun i => p i && decide (f i = 3)) := by
  induction m with
  | zero => rfl
  | succ m ih =>
    show qc m p + (p m).toNat = qc m _ + (p m && decide (f m = 0)).toNat + (qc m _ + (p m && decide (f m = 1)).toNat) + (qc m _ + (p m && decide (f m = 2)).toNat) + (qc m _ + (p m && decide (f m = 3)).toNat)
    have h4 := hf m
    have : (p m).toNat = (p m && decide (f m = 0)).toNat + (p m && decide (f m = 1)).toNat + (p m && decide (f m = 2)).toNat + (p m && decide (f m = 3)).toNat := by
      generalize f m = z at h4 ⊢
      match z, h4 with
      | 0, _ => cases p m <;> rfl
      | 1, _ => cases p m <;> rfl
      | 2, _ => cases p m <;> rfl
      | 3, _ => cases p m <;> rfl
    omega
theorem qc_in (m : Nat) (p : Nat → Bool) (f : Nat → Nat) (z : Nat) : qc m (fun i => !p i && decide (f i = z)) + qc m (fun i => p i && decide (f i = z)) = qc m (fun i => decide (f i = z)) := by
  induction m with
  | zero => rfl
  | succ m ih =>
    show qc m _ + (!p m && decide (f m = z)).toNat + (qc m _ + (p m && decide (f m = z)).toNat) = qc m _ + (decide (f m = z)).toNat
    have : (!p m && decide (f m = z)).toNat + (p m && decide (f m = z)).toNat = (decide (f m = z)).toNat := by cases p m <;> cases decide (f m = z) <;> rfl
    omega
/-- the word V = v with the sign t ahead -/
def qV (v : Nat) (t : Bool) : Nat := v ^^^ (t.toNat * 2 ^ 11)
theorem qV_bit {v : Nat} (hv : v < 2 ^ 11) (t : Bool) {i : Nat} (hi : i < 12) : (qV v t).testBit i = if i = 11 then t else v.testBit i := by
  unfold qV
  rw [Nat.testBit_xor]
  cases t
  · rw [show (false : Bool).toNat * 2 ^ 11 = 0 from rfl, Nat.zero_testBit, Bool.xor_false]
    by_cases e : i = 11
    · rw [if_pos e, e, Nat.testBit_lt_two_pow hv]
    · rw [if_neg e]
  · rw [show (true : Bool).toNat * 2 ^ 11 = 2 ^ 11 from rfl, Nat.testBit_two_pow]
    by_cases e : i = 11
    · rw [if_pos e, e, Nat.testBit_lt_two_pow hv]; rfl
    · rw [if_neg e, decide_eq_false (by omega), Bool.xor_false]
/-- a class at twelve columns, out of eleven -/
theorem qV_cls {v : Nat} (hv : v < 2 ^ 11) (t : Bool) (f : Nat → Nat) (z : Nat) : qc 12 (fun i => (qV v t).testBit i && decide (f i = z)) = qc 11 (fun i => v.testBit i && decide (f i = z)) + (t && decide (f 11 = z)).toNat := by
  show qc 11 _ + ((qV v t).testBit 11 && decide (f 11 = z)).toNat = _
  rw [qV_bit hv t (by decide), if_pos rfl]
  congr 1
  exact qc_eq fun i hi => by rw [qV_bit hv t (by omega), if_neg (by omega)]
theorem qV_of {c0 v : Nat} (hc : c0 < 2 ^ 12) : (v ^^^ (c0 % 2 ^ 11)) ^^^ c0 = qV v (c0.testBit 11) := by
  have hd : c0 % 2 ^ 11 ^^^ c0 = (c0.testBit 11).toNat * 2 ^ 11 := by
    apply Nat.eq_of_testBit_eq
    intro i
    rw [Nat.testBit_xor, Nat.testBit_mod_two_pow]
    by_cases hi : i < 11
    · rw [decide_eq_true hi, Bool.true_and, Bool.xor_self]
      cases c0.testBit 11
      · show false = Nat.testBit (0 * 2 ^ 11) i; rw [Nat.zero_mul, Nat.zero_testBit]
      · show false = Nat.testBit (1 * 2 ^ 11) i; rw [Nat.one_mul, Nat.testBit_two_pow, decide_eq_false (by omega)]
    · rw [decide_eq_false hi, Bool.false_and, Bool.false_xor]
      by_cases e : i = 11
      · subst e
        cases c0.testBit 11
        · show false = Nat.testBit (0 * 2 ^ 11) 11; rw [Nat.zero_mul, Nat.zero_testBit]
        · show true = Nat.testBit (1 * 2 ^ 11) 11; rw [Nat.one_mul, Nat.testBit_two_pow, decide_eq_true rfl]
      · rw [Nat.testBit_lt_two_pow (Nat.lt_of_lt_of_le hc (Nat.pow_le_pow_right (by decide) (by omega)))]
        cases c0.testBit 11
        · show false = Nat.testBit (0 * 2 ^ 11) i; rw [Nat.zero_mul, Nat.zero_testBit]
        · show false = Nat.testBit (1 * 2 ^ 11) i; rw [Nat.one_mul, Nat.testBit_two_pow, decide_eq_false (by omega)]
  rw [Nat.xor_assoc, hd]
  rfl
def qAl4 (A : Nat → Nat) (t : Bool) (zs z : Nat) : Nat := if t = true ∧ z = zs then (if A z = 0 then 100 else A z - 1) else A z
theorem qAl4_ok {A a : Nat → Nat} {t : Bool} {zs : Nat} (h : ∀ z, z < 4 → A z = a z + (t && decide (zs = z)).toNat) : ∀ z, z < 4 → a z = qAl4 A t zs z := by
  intro z hz
  have hh := h z hz
  unfold qAl4
  by_cases c : t = true ∧ z = zs
  · rw [if_pos c]
    rw [c.1, c.2, decide_eq_true rfl] at hh
    have t1 : (true && true : Bool).toNat = 1 := rfl
    rw [c.2]
    rw [if_neg (by omega)]
    omega
  · rw [if_neg c]
    have : (t && decide (zs = z)) = false := by
      cases ht : t
      · rfl
      · rw [Bool.true_and, decide_eq_false (fun e => c ⟨ht, e.symm⟩)]
    rw [this] at hh
    have f0 : (false : Bool).toNat = 0 := rfl
    omega
theorem qKl_of {m : Nat} {f a b : Nat → Nat} {w : Nat} (h : ∀ z, z < 4 → qc m (fun i => w.testBit i && decide (f i = z)) = a z) (hab : ∀ z, z < 4 → a z = b z) : qKl m f b w = true := by
  unfold qKl
  exact @decide_eq_true _ (Classical.propDecidable _) fun z hz => (h z hz).trans (hab z hz)
theorem qp12 {x : Nat} (h : x < 2 ^ 12) : qp x = qc 12 (fun i => x.testBit i) := qp_lt h (by decide)
theorem qPr4_eq {N N' a : Nat → Nat} (h : ∀ z, z < 4 → N z = N' z) : qPr4 N a = qPr4 N' a := by
  unfold qPr4
  rw [h 0 (by decide), h 1 (by decide), h 2 (by decide), h 3 (by decide)]
theorem qB_1 {c0 : Nat} (h0 : c0 < 2 ^ 12) : qc (2 ^ 11) (fun w => qPe 12 w c0) ≤ 462 := by
  have R := qCnt (s := c0 % 2 ^ 11) (Nat.mod_lt _ (by decide)) (f := fun _ => 0) (fun _ => by decide) (P := fun w => qPe 12 w c0) 1 (fun _ => qAl4 (fun z => if z = 0 then 6 else 0) (c0.testBit 11) 0) (fun v hv hp => ⟨0, by decide, ?_⟩)
  · have e : qSum 1 (fun _ => qPr4 (fun z => qc 11 (fun _ => decide (0 = z))) (qAl4 (fun z => if z = 0 then 6 else 0) (c0.testBit 11) 0)) ≤ 462 := by
      cases c0.testBit 11 <;> decide
    exact Nat.le_trans R e
  · have hp' : 2 * qp ((v ^^^ (c0 % 2 ^ 11)) ^^^ c0) = 12 := by unfold qPe at hp; rw [decide_eq_true_eq] at hp; exact hp
    rw [qV_of h0] at hp'
    have hV : qV v (c0.testBit 11) < 2 ^ 12 := by
      unfold qV
      refine Nat.xor_lt_two_pow (by omega) ?_
      cases c0.testBit 11 <;> decide
    rw [qp12 hV] at hp'
    have hA : ∀ z, qc 12 (fun i => (qV v (c0.testBit 11)).testBit i && decide ((fun _ => 0) i = z)) = if z = 0 then 6 else 0 := by
      intro z
      by_cases e : z = 0
      · rw [if_pos e, e]
        have : qc 12 (fun i => (qV v (c0.testBit 11)).testBit i && decide (0 = 0)) = qc 12 (fun i => (qV v (c0.testBit 11)).testBit i) := qc_eq fun i _ => by rw [decide_eq_true rfl, Bool.and_true]
        show qc 12 (fun i => (qV v (c0.testBit 11)).testBit i && decide (0 = 0)) = 6
        omega
      · rw [if_neg e]
        refine qc_zero.mpr fun i _ => ?_
        show ((qV v (c0.testBit 11)).testBit i && decide (0 = z)) = false
        rw [decide_eq_false (fun x => e x.symm), Bool.and_false]
    refine qKl_of (a := fun z => qc 11 (fun i => v.testBit i && decide ((fun _ => 0) i = z))) (fun _ _ => rfl) (qAl4_ok fun z _ => ?_)
    rw [← hA z, qV_cls hv (c0.testBit 11) (fun _ => 0) z]
theorem qB_2 {c0 c1 : Nat} (h0 : c0 < 2 ^ 12) (h1 : c1 < 2 ^ 12) (h01 : qPe 12 c0 c1 = true) : qc (2 ^ 11) (fun w => qPe 12 w c0 && qPe 12 w c1) ≤ 200 := by
  have hg : c0 ^^^ c1 < 2 ^ 12 := Nat.xor_lt_two_pow h0 h1
  have hf : ∀ i, (fun i => ((c0 ^^^ c1).testBit i).toNat) i < 4 := fun i => by show ((c0 ^^^ c1).testBit i).toNat < 4; cases (c0 ^^^ c1).testBit i <;> decide
  generalize hff : (fun i => ((c0 ^^^ c1).testBit i).toNat) = f at hf
  have fe : ∀ i, f i = ((c0 ^^^ c1).testBit i).toNat := fun i => by rw [← hff]
  have n1 : qc 12 (fun i => decide (f i = 1)) = 6 := by
    unfold qPe at h01
    rw [decide_eq_true_eq, qp12 hg] at h01
    have : qc 12 (fun i => decide (f i = 1)) = qc 12 (fun i => (c0 ^^^ c1).testBit i) := qc_eq fun i _ => by rw [fe]; cases (c0 ^^^ c1).testBit i <;> rfl
    omega
  have n23 : ∀ z, 2 ≤ z → qc 12 (fun i => decide (f i = z)) = 0 := fun z hz => qc_zero.mpr fun i _ => by rw [fe, decide_eq_false_iff_not]; cases (c0 ^^^ c1).testBit i <;> (simp; omega)
  have n0 : qc 12 (fun i => decide (f i = 0)) = 6 := by
    have h := qc_four 12 (fun _ => true) f hf
    simp only [Bool.true_and] at h
    have a2 := n23 2 (by omega)
    have a3 := n23 3 (by omega)
    have a12 : qc 12 (fun _ => true) = 12 := by decide
    omega
  have R := qCnt (s := c0 % 2 ^ 11) (Nat.mod_lt _ (by decide)) (f := f) hf (P := fun w => qPe 12 w c0 && qPe 12 w c1) 1 (fun _ => qAl4 (fun z => if z < 2 then 3 else 0) (c0.testBit 11) (f 11)) (fun v hv hp => ⟨0, by decide, ?_⟩)
  · have hN : ∀ z, z < 4 → qc 11 (fun i => decide (f i = z)) = (if z < 2 then 6 else 0) - (decide (f 11 = z)).toNat := by
      intro z hz
      have e : qc 12 (fun i => decide (f i = z)) = qc 11 (fun i => decide (f i = z)) + (decide (f 11 = z)).toNat := rfl
      match z, hz with
      | 0, _ => rw [n0] at e; show _ = 6 - _; omega
      | 1, _ => rw [n1] at e; show _ = 6 - _; omega
      | 2, _ => rw [n23 2 (by omega)] at e; show _ = 0 - _; omega
      | 3, _ => rw [n23 3 (by omega)] at e; show _ = 0 - _; omega
    have h11 : f 11 < 2 := by rw [fe]; cases (c0 ^^^ c1).testBit 11 <;> decide
    refine Nat.le_trans R ?_
    show 0 + qPr4 (fun z => qc 11 (fun i => decide (f i = z))) (qAl4 (fun z => if z < 2 then 3 else 0) (c0.testBit 11) (f 11)) ≤ 200
    rw [qPr4_eq hN]
    generalize f 11 = zs at h11 ⊢
    have D : ∀ zs, zs < 2 → ∀ t : Bool, 0 + qPr4 (fun z => (if z < 2 then 6 else 0) - (decide (zs = z)).toNat) (qAl4 (fun z => if z < 2 then 3 else 0) t zs) ≤ 200 := by decide
    exact D zs h11 _
  · rw [Bool.and_eq_true] at hp
    obtain ⟨p0, p1⟩ := hp
    unfold qPe at p0 p1
    rw [decide_eq_true_eq] at p0 p1
    have e1 : (v ^^^ (c0 % 2 ^ 11)) ^^^ c1 = qV v (c0.testBit 11) ^^^ (c0 ^^^ c1) := by rw [← qV_of h0, Nat.xor_assoc (v ^^^ c0 % 2 ^ 11) c0, ← Nat.xor_assoc c0 c0, Nat.xor_self, Nat.zero_xor]
    rw [e1] at p1
    rw [qV_of h0] at p0
    have hV : qV v (c0.testBit 11) < 2 ^ 12 := by
      unfold qV
      refine Nat.xor_lt_two_pow (by omega) ?_
      cases c0.testBit 11 <;> decide
    rw [qp12 hV] at p0
    rw [qp12 (Nat.xor_lt_two_pow hV hg)] at p1
    have s0 := qc_four 12 (fun i => (qV v (c0.testBit 11)).testBit i) f hf
    have s1 := qc_four 12 (fun i => (qV v (c0.testBit 11) ^^^ (c0 ^^^ c1)).testBit i) f hf
    have k0 : qc 12 (fun i => (qV v (c0.testBit 11) ^^^ (c0 ^^^ c1)).testBit i && decide (f i = 0)) = qc 12 (fun i => (qV v (c0.testBit 11)).testBit i && decide (f i = 0)) := qc_eq fun i _ => by rw [fe, Nat.testBit_xor]; cases (c0 ^^^ c1).testBit i <;> simp
    have k1 : qc 12 (fun i => (qV v (c0.testBit 11) ^^^ (c0 ^^^ c1)).testBit i && decide (f i = 1)) = qc 12 (fun i => !(qV v (c0.testBit 11)).testBit i && decide (f i = 1)) := qc_eq fun i _ => by rw [fe, Nat.testBit_xor]; cases (c0 ^^^ c1).testBit i <;> simp
    have i1 := qc_in 12 (fun i => (qV v (c0.testBit 11)).testBit i) f 1
    have z23 : ∀ (p : Nat → Bool) z, 2 ≤ z → qc 12 (fun i => p i && decide (f i = z)) = 0 := fun p z hz => qc_zero.mpr fun i _ => by rw [fe, decide_eq_false (by cases (c0 ^^^ c1).testBit i <;> (simp; omega)), Bool.and_false]
    have a2 := z23 (fun i => (qV v (c0.testBit 11)).testBit i) 2 (by omega)
    have a3 := z23 (fun i => (qV v (c0.testBit 11)).testBit i) 3 (by omega)
    have b2 := z23 (fun i => (qV v (c0.testBit 11) ^^^ (c0 ^^^ c1)).testBit i) 2 (by omega)
    have b3 := z23 (fun i => (qV v (c0.testBit 11) ^^^ (c0 ^^^ c1)).testBit i) 3 (by omega)
    refine qKl_of (a := fun z => qc 11 (fun i => v.testBit i && decide (f i = z))) (fun _ _ => rfl) (qAl4_ok fun z hz => ?_)
    rw [← qV_cls hv (c0.testBit 11) f z]
    match z, hz with
    | 0, _ => show 3 = _; omega
    | 1, _ => show 3 = _; omega
    | 2, _ => show 0 = _; omega
    | 3, _ => show 0 = _; omega
theorem qB_3 {c0 c1 c2 : Nat} (h0 : c0 < 2 ^ 12) (h1 : c1 < 2 ^ 12) (h2 : c2 < 2 ^ 12) (h01 : qPe 12 c0 c1 = true) (h02 : qPe 12 c0 c2 = true) (h12 : qPe 12 c1 c2 = true) : qc (2 ^ 11) (fun w => qPe 12 w c0 && (qPe 12 w c1 && qPe 12 w c2)) ≤ 82 := by
  have hg1 : c0 ^^^ c1 < 2 ^ 12 := Nat.xor_lt_two_pow h0 h1
  have hg2 : c0 ^^^ c2 < 2 ^ 12 := Nat.xor_lt_two_pow h0 h2
  have hf : ∀ i, (fun i => 2 * ((c0 ^^^ c1).testBit i).toNat + ((c0 ^^^ c2).testBit i).toNat) i < 4 := fun i => by show 2 * ((c0 ^^^ c1).testBit i).toNat + ((c0 ^^^ c2).testBit i).toNat < 4; cases (c0 ^^^ c1).testBit i <;> cases (c0 ^^^ c2).testBit i <;> decide
  generalize hff : (fun i => 2 * ((c0 ^^^ c1).testBit i).toNat + ((c0 ^^^ c2).testBit i).toNat) = f at hf
  have fe : ∀ i, f i = 2 * ((c0 ^^^ c1).testBit i).toNat + ((c0 ^^^ c2).testBit i).toNat := fun i => by rw [← hff]
  have e12 : c1 ^^^ c2 = (c0 ^^^ c1) ^^^ (c0 ^^^ c2) := by
    rw [Nat.xor_comm c0 c1, Nat.xor_assoc, ← Nat.xor_assoc c0 c0, Nat.xor_self, Nat.zero_xor]
  unfold qPe at h01 h02 h12
  rw [decide_eq_true_eq] at h01 h02 h12
  rw [e12] at h12
  rw [qp12 hg1] at h01
  rw [qp12 hg2] at h02
  rw [qp12 (Nat.xor_lt_two_pow hg1 hg2)] at h12
  have T := qc_four 12 (fun _ => true) f hf
  have T1 := qc_four 12 (fun i => (c0 ^^^ c1).testBit i) f hf
  have T2 := qc_four 12 (fun i => (c0 ^^^ c2).testBit i) f hf
  have T3 := qc_four 12 (fun i => ((c0 ^^^ c1) ^^^ (c0 ^^^ c2)).testBit i) f hf
  have cls : ∀ (p : Nat → Bool) (z : Nat), (∀ i, f i = z → p i = true) → qc 12 (fun i => p i && decide (f i = z)) = qc 12 (fun i => decide (f i = z)) := fun p z h => qc_eq fun i _ => by
    by_cases y : f i = z
    · rw [h i y, Bool.true_and]
    · rw [decide_eq_false y, Bool.and_false]
  have cl0 : ∀ (p : Nat → Bool) (z : Nat), (∀ i, f i = z → p i = false) → qc 12 (fun i => p i && decide (f i = z)) = 0 := fun p z h => qc_zero.mpr fun i _ => by
    by_cases y : f i = z
    · rw [h i y, Bool.false_and]
    · rw [decide_eq_false y, Bool.and_false]
  have B : ∀ i z, f i = z → (z = 0 → (c0 ^^^ c1).testBit i = false ∧ (c0 ^^^ c2).testBit i = false) ∧ (z = 1 → (c0 ^^^ c1).testBit i = false ∧ (c0 ^^^ c2).testBit i = true) ∧ (z = 2 → (c0 ^^^ c1).testBit i = true ∧ (c0 ^^^ c2).testBit i = false) ∧ (z = 3 → (c0 ^^^ c1).testBit i = true ∧ (c0 ^^^ c2).testBit i = true) := by
    intro i z h
    rw [fe] at h
    generalize (c0 ^^^ c1).testBit i = b1 at h ⊢
    generalize (c0 ^^^ c2).testBit i = b2 at h ⊢
    subst h
    revert b1 b2
    decide
  rw [cls _ 0 (fun _ _ => rfl), cls _ 1 (fun _ _ => rfl), cls _ 2 (fun _ _ => rfl), cls _ 3 (fun _ _ => rfl)] at T
  rw [cl0 _ 0 (fun i h => ((B i 0 h).1 rfl).1), cl0 _ 1 (fun i h => ((B i 1 h).2.1 rfl).1), cls _ 2 (fun i h => ((B i 2 h).2.2.1 rfl).1), cls _ 3 (fun i h => ((B i 3 h).2.2.2 rfl).1)] at T1
  rw [cl0 _ 0 (fun i h => ((B i 0 h).1 rfl).2), cls _ 1 (fun i h => ((B i 1 h).2.1 rfl).2), cl0 _ 2 (fun i h => ((B i 2 h).2.2.1 rfl).2), cls _ 3 (fun i h => ((B i 3 h).2.2.2 rfl).2)] at T2
  rw [cl0 _ 0 (fun i h => by rw [Nat.testBit_xor, ((B i 0 h).1 rfl).1, ((B i 0 h).1 rfl).2]; rfl), cls _ 1 (fun i h => by rw [Nat.testBit_xor, ((B i 1 h).2.1 rfl).1, ((B i 1 h).2.1 rfl).2]; rfl), cls _ 2 (fun i h => by rw [Nat.testBit_xor, ((B i 2 h).2.2.1 rfl).1, ((B i 2 h).2.2.1 rfl).2]; rfl), cl0 _ 3 (fun i h => by rw [Nat.testBit_xor, ((B i 3 h).2.2.2 rfl).1, ((B i 3 h).2.2.2 rfl).2]; rfl)] at T3
  have a12 : qc 12 (fun _ => true) = 12 := by decide
  have m0 : qc 12 (fun i => decide (f i = 0)) = 3 := by omega
  have m1 : qc 12 (fun i => decide (f i = 1)) = 3 := by omega
  have m2 : qc 12 (fun i => decide (f i = 2)) = 3 := by omega
  have m3 : qc 12 (fun i => decide (f i = 3)) = 3 := by omega
  have R := qCnt (s := c0 % 2 ^ 11) (Nat.mod_lt _ (by decide)) (f := f) hf (P := fun w => qPe 12 w c0 && (qPe 12 w c1 && qPe 12 w c2)) 4 (fun a => qAl4 (fun z => if z = 0 ∨ z = 3 then a else 3 - a) (c0.testBit 11) (f 11)) (fun v hv hp => ?_)
  · have hN : ∀ z, z < 4 → qc 11 (fun i => decide (f i = z)) = 3 - (decide (f 11 = z)).toNat := by
      intro z hz
      have e : qc 12 (fun i => decide (f i = z)) = qc 11 (fun i => decide (f i = z)) + (decide (f 11 = z)).toNat := rfl
      match z, hz with
      | 0, _ => rw [m0] at e; omega
      | 1, _ => rw [m1] at e; omega
      | 2, _ => rw [m2] at e; omega
      | 3, _ => rw [m3] at e; omega
    have h11 := hf 11
    refine Nat.le_trans R ?_
    rw [qSum_eq (g := fun a => qPr4 (fun z => 3 - (decide (f 11 = z)).toNat) (qAl4 (fun z => if z = 0 ∨ z = 3 then a else 3 - a) (c0.testBit 11) (f 11))) fun a _ => qPr4_eq hN]
    generalize f 11 = zs at h11 ⊢
    have D : ∀ zs, zs < 4 → ∀ t : Bool, qSum 4 (fun a => qPr4 (fun z => 3 - (decide (zs = z)).toNat) (qAl4 (fun z => if z = 0 ∨ z = 3 then a else 3 - a) t zs)) ≤ 82 := by decide
    exact D zs h11 _
  · rw [Bool.and_eq_true, Bool.and_eq_true] at hp
    obtain ⟨p0, p1, p2⟩ := hp
    unfold qPe at p0 p1 p2
    rw [decide_eq_true_eq] at p0 p1 p2
    have e1 : ∀ c, (v ^^^ (c0 % 2 ^ 11)) ^^^ c = qV v (c0.testBit 11) ^^^ (c0 ^^^ c) := fun c => by rw [← qV_of h0, Nat.xor_assoc (v ^^^ c0 % 2 ^ 11) c0, ← Nat.xor_assoc c0 c0, Nat.xor_self, Nat.zero_xor]
    rw [e1] at p1 p2
    rw [qV_of h0] at p0
    have hV : qV v (c0.testBit 11) < 2 ^ 12 := by
      unfold qV
      refine Nat.xor_lt_two_pow (by omega) ?_
      cases c0.testBit 11 <;> decide
    rw [qp12 hV] at p0
    rw [qp12 (Nat.xor_lt_two_pow hV hg1)] at p1
    rw [qp12 (Nat.xor_lt_two_pow hV hg2)] at p2
    have s0 := qc_four 12 (fun i => (qV v (c0.testBit 11)).testBit i) f hf
    have s1 := qc_four 12 (fun i => (qV v (c0.testBit 11) ^^^ (c0 ^^^ c1)).testBit i) f hf
    have s2 := qc_four 12 (fun i => (qV v (c0.testBit 11) ^^^ (c0 ^^^ c2)).testBit i) f hf
    have same : ∀ (g z : Nat), (∀ i, f i = z → g.testBit i = false) → qc 12 (fun i => (qV v (c0.testBit 11) ^^^ g).testBit i && decide (f i = z)) = qc 12 (fun i => (qV v (c0.testBit 11)).testBit i && decide (f i = z)) := fun g z h => qc_eq fun i _ => by
      by_cases y : f i = z
      · rw [Nat.testBit_xor, h i y, Bool.xor_false]
      · rw [decide_eq_false y, Bool.and_false, Bool.and_false]
    have flip : ∀ (g z : Nat), (∀ i, f i = z → g.testBit i = true) → qc 12 (fun i => (qV v (c0.testBit 11) ^^^ g).testBit i && decide (f i = z)) = qc 12 (fun i => !(qV v (c0.testBit 11)).testBit i && decide (f i = z)) := fun g z h => qc_eq fun i _ => by
      by_cases y : f i = z
      · rw [Nat.testBit_xor, h i y, Bool.xor_true]
      · rw [decide_eq_false y, Bool.and_false, Bool.and_false]
    rw [same _ 0 (fun i h => ((B i 0 h).1 rfl).1), same _ 1 (fun i h => ((B i 1 h).2.1 rfl).1), flip _ 2 (fun i h => ((B i 2 h).2.2.1 rfl).1), flip _ 3 (fun i h => ((B i 3 h).2.2.2 rfl).1)] at s1
    rw [same _ 0 (fun i h => ((B i 0 h).1 rfl).2), flip _ 1 (fun i h => ((B i 1 h).2.1 rfl).2), same _ 2 (fun i h => ((B i 2 h).2.2.1 rfl).2), flip _ 3 (fun i h => ((B i 3 h).2.2.2 rfl).2)] at s2
    have i1 := qc_in 12 (fun i => (qV v (c0.testBit 11)).testBit i) f 1
    have i2 := qc_in 12 (fun i => (qV v (c0.testBit 11)).testBit i) f 2
    have i3 := qc_in 12 (fun i => (qV v (c0.testBit 11)).testBit i) f 3
    have i0 := qc_in 12 (fun i => (qV v (c0.testBit 11)).testBit i) f 0
    have hK : ∀ z, z < 4 → (if z = 0 ∨ z = 3 then qc 12 (fun i => (qV v (c0.testBit 11)).testBit i && decide (f i = 0)) else 3 - qc 12 (fun i => (qV v (c0.testBit 11)).testBit i && decide (f i = 0))) = qc 12 (fun i => (qV v (c0.testBit 11)).testBit i && decide (f i = z)) := by
      intro z hz
      match z, hz with
      | 0, _ => rfl
      | 1, _ => show 3 - _ = _; omega
      | 2, _ => show 3 - _ = _; omega
      | 3, _ => show qc 12 _ = _; omega
    refine ⟨qc 12 (fun i => (qV v (c0.testBit 11)).testBit i && decide (f i = 0)), by omega, ?_⟩
    refine qKl_of (a := fun z => qc 11 (fun i => v.testBit i && decide (f i = z))) (fun _ _ => rfl) (qAl4_ok fun z hz => ?_)
    show (if z = 0 ∨ z = 3 then _ else _) = _
    rw [hK z hz, qV_cls hv (c0.testBit 11) f z]
