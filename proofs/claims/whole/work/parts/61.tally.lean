/-! PURE: tally -/
theorem qLoopAcc {R : Type} {b : Int32 × Int32 → Option ((Int32 × Int32) ⊕ R)} (f : Nat → Nat) (s d a : Nat) (e : Int32 → R) (hs : ∀ z acc, z < d → b (nI acc, nI (s + z)) = some (.inl (nI (acc + f z), nI (s + z + 1)))) (he : ∀ acc, b (nI acc, nI (s + d)) = some (.inr (e (nI acc)))) : mLoop b (nI a, nI s) = some (e (nI (a + qSum d f))) := by
  have R := mLoop_inv (b := b) (fun z (x : Int32 × Int32) => x = (nI (a + qSum z f), nI (s + z))) d (fun r => r = e (nI (a + qSum d f))) (s0 := (nI a, nI s)) rfl ?_ ?_
  · obtain ⟨r, e1, rfl⟩ := R
    exact e1
  · rintro z x hz rfl
    exact ⟨_, hs z _ hz, by rw [Nat.add_assoc a]; rfl⟩
  · rintro x rfl
    exact ⟨_, he _, rfl⟩
def qC4 (L : Nat → Nat) (n : Nat) (v : Int32) (i j k l : Nat) : Bool := decide (qAb n (((L i ^^^ L j) ^^^ L k) ^^^ L l) = v)
def qK4 (L : Nat → Nat) (n : Nat) (v : Int32) (i j k : Nat) : Nat := qSum (n - (k + 1)) (fun z => (qC4 L n v i j k (k + 1 + z)).toNat)
def qK3 (L : Nat → Nat) (n : Nat) (v : Int32) (i j : Nat) : Nat := qSum (n - (j + 1)) (fun z => qK4 L n v i j (j + 1 + z))
def qK2 (L : Nat → Nat) (n : Nat) (v : Int32) (i : Nat) : Nat := qSum (n - (i + 1)) (fun z => qK3 L n v i (i + 1 + z))
def qK1 (L : Nat → Nat) (n : Nat) (v : Int32) : Nat := qSum n (fun z => qK2 L n v z)
theorem qnm2 {t : Nat} (ht : t < 2 ^ 31) : ¬ nI t = (-1 : Int32) := fun z => qpos ht (by rw [z]; decide)
section QTL
variable {h : mH} {A : qA} {L : Nat → Nat} {n : Nat} {f : Nat → Int32}
theorem x_triples (q : qX h A) (e29 : h.2 29 = .inl (28, .inl f)) (hn : n ≤ 28) (hf : ∀ i, i < n → f i = nI (L i)) (hL : ∀ i, i < n → L i < 2 ^ 28) {i : Nat} (hi : i < n) (v : Int32) : f_X8_countTriples (some 1) (nI n) (nI i + 1) (-1) (nI (L i)) v h = some (nI (qK2 L n v i)) := by
  unfold f_X8_countTriples f_X8_countTriples_l6
  rw [q.is, qbind, nI_1]
  have R := qLoopAcc (b := fun x : Int32 × Int32 => f_X8_countTriples_b6 (some 1) (nI n) (-1) (nI (L i)) v x.1 x.2 h) (fun z => qK3 L n v i (i + 1 + z)) (i + 1) (n - (i + 1)) 0 (fun r => r) ?_ ?_
  · rw [Nat.zero_add] at R
    exact R
  · intro z acc hz
    show f_X8_countTriples_b6 (some 1) (nI n) (-1) (nI (L i)) v (nI acc) (nI (i + 1 + z)) h = _
    unfold f_X8_countTriples_b6
    rw [if_neg (by rw [qle (by omega) (by omega)]; omega), nI_1]
    unfold f_X8_countTriples_l18
    refine qLoopAcc (b := fun x : Int32 × Int32 => f_X8_countTriples_b18 (some 1) (nI n) (-1) (nI (L i)) v (nI (i + 1 + z)) x.1 x.2 h) (fun y => qK4 L n v i (i + 1 + z) (i + 1 + z + 1 + y)) (i + 1 + z + 1) (n - (i + 1 + z + 1)) acc (fun r => .inl (r, nI (i + 1 + z + 1))) ?_ ?_
    · intro y acc hy
      show f_X8_countTriples_b18 (some 1) (nI n) (-1) (nI (L i)) v (nI (i + 1 + z)) (nI acc) (nI (i + 1 + z + 1 + y)) h = _
      unfold f_X8_countTriples_b18
      rw [if_neg (by rw [qle (by omega) (by omega)]; omega), if_neg (qnm2 (by omega)), q.lines, qbind, q.atW e29 (by decide) (by decide) (by omega), qbind, qbind, q.atW e29 (by decide) (by decide) (by omega), qbind, hf _ (by omega), hf _ (by omega), qI_xor, qI_xor, nI_1]
      unfold f_X8_countTriples_l56
      refine qLoopAcc (b := fun x : Int32 × Int32 => f_X8_countTriples_b56 (some 1) (nI n) (-1) (nI (L i)) v (nI (i + 1 + z)) (nI (i + 1 + z + 1 + y)) (nI ((L i ^^^ L (i + 1 + z)) ^^^ L (i + 1 + z + 1 + y))) x.1 x.2 h) (fun u => (qC4 L n v i (i + 1 + z) (i + 1 + z + 1 + y) (i + 1 + z + 1 + y + 1 + u)).toNat) (i + 1 + z + 1 + y + 1) (n - (i + 1 + z + 1 + y + 1)) acc (fun r => .inl (r, nI (i + 1 + z + 1 + y + 1))) ?_ ?_
      · intro u acc hu
        have hw : ((L i ^^^ L (i + 1 + z)) ^^^ L (i + 1 + z + 1 + y)) ^^^ L (i + 1 + z + 1 + y + 1 + u) < 2 ^ 28 := Nat.xor_lt_two_pow (Nat.xor_lt_two_pow (Nat.xor_lt_two_pow (hL _ hi) (hL _ (by omega))) (hL _ (by omega))) (hL _ (by omega))
        show f_X8_countTriples_b56 (some 1) (nI n) (-1) (nI (L i)) v (nI (i + 1 + z)) (nI (i + 1 + z + 1 + y)) (nI ((L i ^^^ L (i + 1 + z)) ^^^ L (i + 1 + z + 1 + y))) (nI acc) (nI (i + 1 + z + 1 + y + 1 + u)) h = _
        unfold f_X8_countTriples_b56
        rw [if_neg (by rw [qle (by omega) (by omega)]; omega), if_neg (qnm2 (by omega)), if_neg (qnm2 (by omega)), q.lines, qbind, q.atW e29 (by decide) (by decide) (by omega), qbind, hf _ (by omega), qI_xor, x_signSum (by omega), qbind, x_abs, qbind, nI_1, nI_1]
        unfold qC4
        by_cases hc : qAb n (((L i ^^^ L (i + 1 + z)) ^^^ L (i + 1 + z + 1 + y)) ^^^ L (i + 1 + z + 1 + y + 1 + u)) = v
        · rw [if_pos hc, decide_eq_true hc]; rfl
        · rw [if_neg hc, decide_eq_false hc]; rfl
      · intro acc
        show f_X8_countTriples_b56 (some 1) (nI n) (-1) (nI (L i)) v (nI (i + 1 + z)) (nI (i + 1 + z + 1 + y)) (nI ((L i ^^^ L (i + 1 + z)) ^^^ L (i + 1 + z + 1 + y))) (nI acc) (nI (i + 1 + z + 1 + y + 1 + (n - (i + 1 + z + 1 + y + 1)))) h = _
        unfold f_X8_countTriples_b56
        rw [if_pos (by rw [qle (by omega) (by omega)]; omega), nI_1]
    · intro acc
      show f_X8_countTriples_b18 (some 1) (nI n) (-1) (nI (L i)) v (nI (i + 1 + z)) (nI acc) (nI (i + 1 + z + 1 + (n - (i + 1 + z + 1)))) h = _
      unfold f_X8_countTriples_b18
      rw [if_pos (by rw [qle (by omega) (by omega)]; omega), nI_1]
  · intro acc
    show f_X8_countTriples_b6 (some 1) (nI n) (-1) (nI (L i)) v (nI acc) (nI (i + 1 + (n - (i + 1)))) h = _
    unfold f_X8_countTriples_b6
    rw [if_pos (by rw [qle (by omega) (by omega)]; omega)]
theorem m_fourMany (m : qM h A) (e62 : h.2 62 = .inl (28, .inl f)) (hn : n ≤ 28) (hf : ∀ i, i < n → f i = nI (L i)) (hL : ∀ i, i < n → L i < 2 ^ 28) (v : Int32) : f_X9_fourMany (some 51) (nI n) v (-1) h = some (nI (qK1 L n v)) := by
  obtain ⟨x0, y0, fo, fr, ff, fg, fw, mb, hm⟩ := m.b
  have g62 : mGR h (some 51) 8 14 = some (some 62) := qGR (mb.le (by decide)) mb.2.1 rfl
  unfold f_X9_fourMany f_X9_fourMany_l6
  rw [m.is, qbind]
  have R := qLoopAcc (b := fun x : Int32 × Int32 => f_X9_fourMany_b6 (some 51) (nI n) v (-1) x.1 x.2 h) (fun i => qK2 L n v i) 0 n 0 (fun r => r) ?_ ?_
  · rw [Nat.zero_add] at R
    exact R
  · intro i acc hi
    rw [Nat.zero_add]
    show f_X9_fourMany_b6 (some 51) (nI n) v (-1) (nI acc) (nI i) h = _
    unfold f_X9_fourMany_b6
    rw [if_neg (by rw [qle (by omega) (by omega)]; omega), nI_1]
    unfold f_X9_fourMany_l18
    refine qLoopAcc (b := fun x : Int32 × Int32 => f_X9_fourMany_b18 (some 51) (nI n) v (-1) (nI i) x.1 x.2 h) (fun z => qK3 L n v i (i + 1 + z)) (i + 1) (n - (i + 1)) acc (fun r => .inl (r, nI (i + 1))) ?_ ?_
    · intro z acc hz
      show f_X9_fourMany_b18 (some 51) (nI n) v (-1) (nI i) (nI acc) (nI (i + 1 + z)) h = _
      unfold f_X9_fourMany_b18
      rw [if_neg (by rw [qle (by omega) (by omega)]; omega), nI_1]
      unfold f_X9_fourMany_l30
      refine qLoopAcc (b := fun x : Int32 × Int32 => f_X9_fourMany_b30 (some 51) (nI n) v (-1) (nI i) (nI (i + 1 + z)) x.1 x.2 h) (fun y => qK4 L n v i (i + 1 + z) (i + 1 + z + 1 + y)) (i + 1 + z + 1) (n - (i + 1 + z + 1)) acc (fun r => .inl (r, nI (i + 1 + z + 1))) ?_ ?_
      · intro y acc hy
        show f_X9_fourMany_b30 (some 51) (nI n) v (-1) (nI i) (nI (i + 1 + z)) (nI acc) (nI (i + 1 + z + 1 + y)) h = _
        unfold f_X9_fourMany_b30
        rw [if_neg (by rw [qle (by omega) (by omega)]; omega), nI_1]
        unfold f_X9_fourMany_l42
        refine qLoopAcc (b := fun x : Int32 × Int32 => f_X9_fourMany_b42 (some 51) (nI n) v (-1) (nI i) (nI (i + 1 + z)) (nI (i + 1 + z + 1 + y)) x.1 x.2 h) (fun u => (qC4 L n v i (i + 1 + z) (i + 1 + z + 1 + y) (i + 1 + z + 1 + y + 1 + u)).toNat) (i + 1 + z + 1 + y + 1) (n - (i + 1 + z + 1 + y + 1)) acc (fun r => .inl (r, nI (i + 1 + z + 1 + y + 1))) ?_ ?_
        · intro u acc hu
          have hw : ((L i ^^^ L (i + 1 + z)) ^^^ L (i + 1 + z + 1 + y)) ^^^ L (i + 1 + z + 1 + y + 1 + u) < 2 ^ 28 := Nat.xor_lt_two_pow (Nat.xor_lt_two_pow (Nat.xor_lt_two_pow (hL _ hi) (hL _ (by omega))) (hL _ (by omega))) (hL _ (by omega))
          show f_X9_fourMany_b42 (some 51) (nI n) v (-1) (nI i) (nI (i + 1 + z)) (nI (i + 1 + z + 1 + y)) (nI acc) (nI (i + 1 + z + 1 + y + 1 + u)) h = _
          unfold f_X9_fourMany_b42 f_X9_fourMany_c80
          rw [if_neg (by rw [qle (by omega) (by omega)]; omega), if_pos rfl, g62, qbind, m.atW e62 (by decide) (by decide) (by omega), qbind, qbind, m.atW e62 (by decide) (by decide) (by omega), qbind, qbind, m.atW e62 (by decide) (by decide) (by omega), qbind, qbind, m.atW e62 (by decide) (by decide) (by omega), qbind, hf _ (by omega), hf _ (by omega), hf _ (by omega), hf _ (by omega), qI_xor, qI_xor, qI_xor, m_size (by omega), qbind, nI_1, nI_1]
          unfold qC4
          by_cases hc : qAb n (((L i ^^^ L (i + 1 + z)) ^^^ L (i + 1 + z + 1 + y)) ^^^ L (i + 1 + z + 1 + y + 1 + u)) = v
          · rw [if_pos hc, decide_eq_true hc]; rfl
          · rw [if_neg hc, decide_eq_false hc]; rfl
        · intro acc
          show f_X9_fourMany_b42 (some 51) (nI n) v (-1) (nI i) (nI (i + 1 + z)) (nI (i + 1 + z + 1 + y)) (nI acc) (nI (i + 1 + z + 1 + y + 1 + (n - (i + 1 + z + 1 + y + 1)))) h = _
          unfold f_X9_fourMany_b42
          rw [if_pos (by rw [qle (by omega) (by omega)]; omega), nI_1]
      · intro acc
        show f_X9_fourMany_b30 (some 51) (nI n) v (-1) (nI i) (nI (i + 1 + z)) (nI acc) (nI (i + 1 + z + 1 + (n - (i + 1 + z + 1)))) h = _
        unfold f_X9_fourMany_b30
        rw [if_pos (by rw [qle (by omega) (by omega)]; omega), nI_1]
    · intro acc
      show f_X9_fourMany_b18 (some 51) (nI n) v (-1) (nI i) (nI acc) (nI (i + 1 + (n - (i + 1)))) h = _
      unfold f_X9_fourMany_b18
      rw [if_pos (by rw [qle (by omega) (by omega)]; omega), nI_1]
  · intro acc
    rw [Nat.zero_add]
    show f_X9_fourMany_b6 (some 51) (nI n) v (-1) (nI acc) (nI n) h = _
    unfold f_X9_fourMany_b6
    rw [if_pos (by rw [qle (by omega) (by omega)]; omega)]
theorem x_tally (q : qX h A) (e29 : h.2 29 = .inl (28, .inl f)) (hn : n ≤ 28) (hf : ∀ i, i < n → f i = nI (L i)) (hL : ∀ i, i < n → L i < 2 ^ 28) (v : Int32) : f_X8_tally_l41 (some 1) v (nI n) 0 0 h = some (nI (qK1 L n v), h) := by
  unfold f_X8_tally_l41
  have R := qLoopAcc (b := fun x : Int32 × Int32 => f_X8_tally_b41 (some 1) v (nI n) x.1 x.2 h) (fun i => qK2 L n v i) 0 n 0 (fun r => (r, h)) ?_ ?_
  · rw [Nat.zero_add] at R
    exact R
  · intro i acc hi
    rw [Nat.zero_add]
    show f_X8_tally_b41 (some 1) v (nI n) (nI acc) (nI i) h = _
    unfold f_X8_tally_b41
    rw [if_neg (by rw [qle (by omega) (by omega)]; omega), q.lines, qbind, q.atW e29 (by decide) (by decide) (by omega), qbind, hf i hi, x_triples q e29 hn hf hL hi, qbind, qI_add, nI_1]
  · intro acc
    rw [Nat.zero_add]
    show f_X8_tally_b41 (some 1) v (nI n) (nI acc) (nI n) h = _
    unfold f_X8_tally_b41
    rw [if_pos (by rw [qle (by omega) (by omega)]; omega)]
end QTL
theorem op_tally {h : mH} {A : qA} (I : qI h A) (x v : Int32) (row : Bool) : qStep (f_X8_tally (some 1) x (qB2I row) v) (f_X9_tally (some 51) x (qB2I row) v) h := by
  have L := qTb2 I x
  have I0 := I
  obtain ⟨q, m, w⟩ := I
  obtain ⟨x0, y0, fo, fr, ff, fg, fw, mb, hm⟩ := m.b
  rcases L with ⟨l1, l2⟩ | ⟨t, hx, l1, l2⟩
  · refine qStep.none (r := -1) I0 ?_ ?_
    · unfold f_X8_tally; rw [q.is, qbind, l1, qbind, if_pos rfl]
    · unfold f_X9_tally; rw [mb.is, qbind, l2, qbind, if_pos rfl]
  · have h6 := hx.1
    have wt := w.1 t h6
    have hn := wt.1
    have hx2 : x = nI t := hx.2.1
    by_cases hv : 0 ≤ v
    · obtain ⟨h1, p1, q1, s1, f1, e1, g1⟩ := x_copyLines q w h6 row
      have s1' : qSame qCX h h1 := s1.mono fun k z => ⟨by omega, by omega⟩
      have m1 := m.same s1'
      obtain ⟨h2, p2, m2, s2, f2, e2, g2⟩ := m_laysLines m1 w h6 row
      obtain ⟨x1, y1, fo1, fr1, ff1, fg1, fw1, mb1, hm1⟩ := m1.b
      obtain ⟨x2, y2, fo2, fr2, ff2, fg2, fw2, mb2, hm2⟩ := m2.b
      have hL : ∀ i, i < (A.1 t).1 → qLine (A.1 t) row i < 2 ^ 28 := fun i hi => q31 hn (qLine_lt wt row hi)
      obtain ⟨bk, bs, bc, ra, rb, fr', fa, fb, hT, hs⟩ := q1.2.2.2.1 t h6
      have a1 : f_X8_tally (some 1) x (qB2I row) v h = some (nI (qK1 (qLine (A.1 t) row) (A.1 t).1 v), h1) := by
        unfold f_X8_tally; rw [q.is, qbind, l1, qbind, if_neg qne, if_pos hv, q.lines, qbind, p1, qbind, hT.size, qbind, x_tally q1 e1 hn g1 hL]
      have a2 : f_X9_tally (some 51) x (qB2I row) v h1 = some (nI (qK1 (qLine (A.1 t) row) (A.1 t).1 v), h2) := by
        unfold f_X9_tally; rw [mb1.is, qbind, m_tab_yes mb1 hm1 w hx, qbind, if_neg q10, if_pos hv, hx2, p2, qbind, mb2.orders, qbind, mb2.order h6, qbind, (hm2 t h6).1, m_fourMany m2 e2 hn g2 hL, qbind]
      exact qStep.mk a1 q1 s1' a2 m2 (s2.mono fun k z => by unfold qCM; omega) w
    · refine qStep.none (r := -1) I0 ?_ ?_
      · unfold f_X8_tally; rw [q.is, qbind, l1, qbind, if_neg qne, if_neg hv]
      · unfold f_X9_tally; rw [mb.is, qbind, l2, qbind, if_neg q10, if_neg hv]
