/-! PURE: form, the class splits blocks -/
theorem qXf39 : qXf 39 6 := by unfold qXf; decide
theorem qXf40 : qXf 40 42 := by unfold qXf; decide
theorem qXf41 : qXf 41 7 := by unfold qXf; decide
def qAt (f : Nat → Int32) : Nat → List Nat → Prop
  | _, [] => True
  | o, B :: l => f o = nI B ∧ qAt f (o + 1) l
theorem qAt_app {f : Nat → Int32} : ∀ {a b : List Nat} {o : Nat}, qAt f o (a ++ b) ↔ qAt f o a ∧ qAt f (o + a.length) b
  | [], b, o => ⟨fun z => ⟨trivial, z⟩, fun z => z.2⟩
  | B :: a, b, o => by
    show (f o = nI B ∧ qAt f (o + 1) (a ++ b)) ↔ (f o = nI B ∧ qAt f (o + 1) a) ∧ qAt f (o + (a.length + 1)) b
    rw [qAt_app, show o + (a.length + 1) = o + 1 + a.length by omega, and_assoc]
theorem qAt_same {f g : Nat → Int32} : ∀ {l : List Nat} {o : Nat}, (∀ p, o ≤ p → p < o + l.length → g p = f p) → qAt f o l → qAt g o l
  | [], _, _, _ => trivial
  | B :: l, o, h, a => by
    have h' : ∀ p, o ≤ p → p < o + (l.length + 1) → g p = f p := h
    exact ⟨(h' o (Nat.le_refl o) (by omega)).trans a.1, qAt_same (fun p h1 h2 => h' p (by omega) (by omega)) a.2⟩
theorem qBn_app : ∀ (a b : List Nat), qBn (a ++ b) = qBn a + qBn b
  | [], b => (Nat.zero_add _).symm
  | B :: a, b => by show qp B + qBn (a ++ b) = qp B + qBn a + qBn b; rw [qBn_app a b, Nat.add_assoc]
theorem qBs_app (w : Nat) : ∀ (a b : List Nat), qBs w (a ++ b) = qBs w a ++ qBs w b
  | [], _ => rfl
  | B :: a, b => by
    show qBo (B &&& w) ++ (qBo (B ^^^ (B &&& w)) ++ qBs w (a ++ b)) = (qBo (B &&& w) ++ (qBo (B ^^^ (B &&& w)) ++ qBs w a)) ++ qBs w b
    rw [qBs_app w a b, List.append_assoc, List.append_assoc]
theorem qBv_app (w : Nat) : ∀ (a b : List Nat), qBv w (a ++ b) = qBv w a + 2 ^ qBn a * qBv w b
  | [], b => by show qBv w b = 0 + 2 ^ 0 * qBv w b; omega
  | B :: a, b => by
    show (2 ^ qp (B &&& w) - 1) + 2 ^ qp B * qBv w (a ++ b) = (2 ^ qp (B &&& w) - 1) + 2 ^ qp B * qBv w a + 2 ^ (qp B + qBn a) * qBv w b
    rw [qBv_app w a b, Nat.mul_add, Nat.pow_add, Nat.mul_assoc, Nat.add_assoc]
theorem qBv_lt (w : Nat) : ∀ (l : List Nat), qBv w l < 2 ^ qBn l
  | [] => by show 0 < 2 ^ 0; decide
  | B :: l => by
    show (2 ^ qp (B &&& w) - 1) + 2 ^ qp B * qBv w l < 2 ^ (qp B + qBn l)
    have ih := qBv_lt w l
    have pp := qp_parts B w
    have h1 : 2 ^ qp (B &&& w) ≤ 2 ^ qp B := Nat.pow_le_pow_right (by decide) (by omega)
    have h2 : 2 ^ qp B * (qBv w l + 1) ≤ 2 ^ qp B * 2 ^ qBn l := Nat.mul_le_mul_left _ ih
    rw [Nat.mul_add, Nat.mul_one] at h2
    have h3 := Nat.two_pow_pos (qp (B &&& w))
    rw [Nat.pow_add]
    omega
theorem qp_pos {B : Nat} (h0 : 0 < B) (h : B < 2 ^ 32) : 1 ≤ qp B := by
  by_cases z : qp B = 0
  · exfalso
    have : B = 0 := by
      apply Nat.eq_of_testBit_eq; intro i
      rw [Nat.zero_testBit]
      by_cases y : i < 32
      · exact (qc_zero (n := 32) (p := fun i => B.testBit i)).mp z i y
      · exact Nat.testBit_lt_two_pow (Nat.lt_of_lt_of_le h (Nat.pow_le_pow_right (by decide) (by omega)))
    omega
  · omega
theorem qBk_len {n : Nat} (hn : n ≤ 6) : ∀ {l : List Nat}, (∀ B, B ∈ l → 0 < B ∧ B < 2 ^ n) → l.length ≤ qBn l
  | [], _ => Nat.le_refl 0
  | B :: l, h => by
    have p12 : 2 ^ n ≤ 2 ^ 6 := Nat.pow_le_pow_right (by decide) hn
    obtain ⟨h1, h2⟩ := h B List.mem_cons_self
    have := qp_pos h1 (by omega)
    have := qBk_len hn fun X hX => h X (List.mem_cons_of_mem _ hX)
    show l.length + 1 ≤ qp B + qBn l
    omega
def qFm (h : mH) (t n : Nat) (bs : Int32) (f39 f40 f41 : Nat → Int32) : Prop := h.2 38 = .inr (2, [.int (nI n), .ref (4 + 4 * t), .int bs, .ref 39, .ref 40, .ref 41]) ∧ h.2 39 = .inl (6, .inl f39) ∧ h.2 40 = .inl (42, .inl f40) ∧ h.2 41 = .inl (7, .inl f41)
section QSP
variable {A : qA} {t n : Nat} {bs : Int32} {f39 f40 f41 : Nat → Int32} {h : mH}
theorem qFm.o (m : qFm h t n bs f39 f40 f41) (q : qX h A) : mIs h (some 38) 2 = some () ∧ mGI h (some 38) 2 0 = some (nI n) ∧ mGR h (some 38) 2 1 = some (some (4 + 4 * t)) ∧ mGI h (some 38) 2 2 = some bs ∧ mGR h (some 38) 2 3 = some (some 39) ∧ mGR h (some 38) 2 4 = some (some 40) ∧ mGR h (some 38) 2 5 = some (some 41) := by
  have l : 38 ≤ h.1 := by rw [q.1]; decide
  exact ⟨qIs l m.1, qGI l m.1 rfl, qGR l m.1 rfl, qGI l m.1 rfl, qGR l m.1 rfl, qGR l m.1 rfl, qGR l m.1 rfl⟩
theorem qFm.st39 (m : qFm h t n bs f39 f40 f41) (q : qX h A) {i : Nat} (hi : i < 6) (v : Int32) : ∃ h', mSI h (some 39) (nI i) v = some h' ∧ qX h' A ∧ qFm h' t n bs (upd f39 i v) f40 f41 ∧ qSame (fun k => k = 39) h h' := by
  obtain ⟨h', p, q', e, s⟩ := x_stW q qXf39 m.2.1 hi v
  exact ⟨h', p, q', ⟨(s.2 38 (by decide)).trans m.1, e, (s.2 40 (by decide)).trans m.2.2.1, (s.2 41 (by decide)).trans m.2.2.2⟩, s⟩
theorem qFm.st40 (m : qFm h t n bs f39 f40 f41) (q : qX h A) {i : Nat} (hi : i < 42) (v : Int32) : ∃ h', mSI h (some 40) (nI i) v = some h' ∧ qX h' A ∧ qFm h' t n bs f39 (upd f40 i v) f41 ∧ qSame (fun k => k = 40) h h' := by
  obtain ⟨h', p, q', e, s⟩ := x_stW q qXf40 m.2.2.1 hi v
  exact ⟨h', p, q', ⟨(s.2 38 (by decide)).trans m.1, (s.2 39 (by decide)).trans m.2.1, e, (s.2 41 (by decide)).trans m.2.2.2⟩, s⟩
theorem qFm.st41 (m : qFm h t n bs f39 f40 f41) (q : qX h A) {i : Nat} (hi : i < 7) (v : Int32) : ∃ h', mSI h (some 41) (nI i) v = some h' ∧ qX h' A ∧ qFm h' t n bs f39 f40 (upd f41 i v) ∧ qSame (fun k => k = 41) h h' := by
  obtain ⟨h', p, q', e, s⟩ := x_stW q qXf41 m.2.2.2 hi v
  exact ⟨h', p, q', ⟨(s.2 38 (by decide)).trans m.1, (s.2 39 (by decide)).trans m.2.1, (s.2 40 (by decide)).trans m.2.2.1, e⟩, s⟩
theorem x_addBlock (q : qX h A) (m : qFm h t n bs f39 f40 f41) {k M : Nat} (hM : M < 64) (hk : k + (qBo M).length ≤ 42) : ∃ h' g40, f_X3_addBlock (some 38) (nI k) (nI M) h = some (nI (k + (qBo M).length), h') ∧ qX h' A ∧ qFm h' t n bs f39 g40 f41 ∧ qSame (fun z => z = 40) h h' ∧ (∀ p, p < k → g40 p = f40 p) ∧ qAt g40 k (qBo M) := by
  have o := m.o q
  unfold f_X3_addBlock qBo
  unfold qBo at hk
  by_cases z : M = 0
  · refine ⟨h, f40, ?_, q, m, qSame.rf, fun _ _ => rfl, ?_⟩
    · rw [o.1, qbind, if_pos (by rw [z]; rfl), if_pos z]; rfl
    · rw [if_pos z]; trivial
  · rw [if_neg z] at hk
    have hk' : k + 1 ≤ 42 := hk
    obtain ⟨h', p, q', m', s⟩ := m.st40 q (i := k) (by omega) (nI M)
    refine ⟨h', _, ?_, q', m', s, fun p hp => qUpn (by omega), ?_⟩
    · rw [o.1, qbind, if_neg (by rw [qI_zero, qeq (by omega) (by decide)]; exact z), o.2.2.2.2.2.1, qbind, qLn (by rw [q.1]; decide) m.2.2.1, qbind, if_pos (by rw [qlt (by omega) (by decide)]; omega), qbind, p, qbind, nI_1, if_neg z]; rfl
    · rw [if_neg z]; exact ⟨qUps, trivial⟩
def qC40 (k : Nat) : Prop := k = 40 ∨ k = 41
theorem x_split {w d : Nat} {x : Int32} (hx1 : ∀ B, B < 2 ^ n → nI B &&& x = nI (B &&& w)) (hx2 : ∀ B, B < 2 ^ n → nI B &&& (x ^^^ (-1 : Int32)) = nI (B ^^^ (B &&& w))) (hn : n ≤ 6) (hd : d ≤ 5) {l : List Nat} (k : qBk n l) (q : qX h A) (m : qFm h t n bs f39 f40 f41) (ba : f41 d = nI l.length ∧ qAt f40 (6 * d) l) : ∃ h' g40 g41, f_X3_splitBlocks (some 38) (nI d) x h = some (nI (qBv w l), h') ∧ qX h' A ∧ qFm h' t n bs f39 g40 g41 ∧ qSame qC40 h h' ∧ (∀ p, p < 6 * (d + 1) → g40 p = f40 p) ∧ (∀ p, p ≤ d → g41 p = f41 p) ∧ g41 (d + 1) = nI (qBs w l).length ∧ qAt g40 (6 * (d + 1)) (qBs w l) := by
  have p6 : 2 ^ n ≤ 2 ^ 6 := Nat.pow_le_pow_right (by decide) hn
  have ll := qBk_len hn k.1
  rw [k.2.2] at ll
  have ls := qBk_len hn (k.s (w := w)).1
  rw [(k.s (w := w)).2.2] at ls
  unfold f_X3_splitBlocks
  rw [(m.o q).1, qbind, qL6, qI_mul, qI_add, Nat.mul_comm d 6]
  have LOOP : ∀ (suf pre : List Nat) (h1 : mH) (g40 : Nat → Int32), l = pre ++ suf → qX h1 A → qFm h1 t n bs f39 g40 f41 → qSame qC40 h h1 → (∀ p, p < 6 * (d + 1) → g40 p = f40 p) → qAt g40 (6 * (d + 1)) (qBs w pre) → ∃ h' g40 g41, f_X3_splitBlocks_l20 (some 38) (nI d) x (nI (6 * d)) (nI (6 * d + 6 + (qBs w pre).length)) (nI (qBn pre)) (nI (qBv w pre)) (nI (6 * d + pre.length)) h1 = some (nI (qBv w l), h') ∧ qX h' A ∧ qFm h' t n bs f39 g40 g41 ∧ qSame qC40 h h' ∧ (∀ p, p < 6 * (d + 1) → g40 p = f40 p) ∧ (∀ p, p ≤ d → g41 p = f41 p) ∧ g41 (d + 1) = nI (qBs w l).length ∧ qAt g40 (6 * (d + 1)) (qBs w l) := by
    intro suf
    induction suf with
    | nil =>
      intro pre h1 g40 hl q1 m1 s1 k1 a1
      rw [List.append_nil] at hl
      subst hl
      have o1 := m1.o q1
      obtain ⟨h4, p4, q4, m4, s4⟩ := m1.st41 q1 (i := d + 1) (by omega) (nI (qBs w l).length)
      refine ⟨h4, g40, _, ?_, q4, m4, s1.trans (s4.mono fun z y => Or.inr y), k1, fun p hp => qUpn (by omega), qUps, a1⟩
      unfold f_X3_splitBlocks_l20
      refine mLoop_inr ?_
      show f_X3_splitBlocks_b20 (some 38) (nI d) x (nI (6 * d)) (nI (6 * d + 6 + (qBs w l).length)) (nI (qBn l)) (nI (qBv w l)) (nI (6 * d + l.length)) h1 = _
      unfold f_X3_splitBlocks_b20
      rw [o1.2.2.2.2.2.2, qbind, q1.atW m1.2.2.2 (by decide) (by decide) (by omega), qbind, ba.1, qI_add, if_pos (by rw [qle (by omega) (by omega)]; omega), qbind, nI_1, qI_sub (by omega), qL6, qI_sub (by omega), show 6 * d + 6 + (qBs w l).length - 6 * d - 6 = (qBs w l).length by omega, p4, qbind]
    | cons B suf ih =>
      intro pre h1 g40 hl q1 m1 s1 k1 a1
      have o1 := m1.o q1
      have hBm : B ∈ l := by rw [hl]; exact List.mem_append_right _ List.mem_cons_self
      have hB := (k.1 B hBm).2
      have ln : l.length = pre.length + (suf.length + 1) := by rw [hl, List.length_append]; rfl
      have lq : (qBs w l).length = (qBs w pre).length + ((qBo (B &&& w)).length + ((qBo (B ^^^ (B &&& w))).length + (qBs w suf).length)) := by
        rw [hl, qBs_app, List.length_append]
        congr 1
        show (qBo (B &&& w) ++ (qBo (B ^^^ (B &&& w)) ++ qBs w suf)).length = _
        rw [List.length_append, List.length_append]
      have bn : qBn pre + qp B ≤ 6 := by
        have := k.2.2
        rw [hl, qBn_app] at this
        have e : qBn (B :: suf) = qp B + qBn suf := rfl
        omega
      have rd : g40 (6 * d + pre.length) = nI B := by
        rw [k1 _ (by omega)]
        have := ba.2
        rw [hl, qAt_app] at this
        exact this.2.1
      have hBw : B &&& w < 64 := Nat.lt_of_le_of_lt Nat.and_le_left (by omega)
      have hBz : B ^^^ (B &&& w) < 64 := Nat.xor_lt_two_pow (n := 6) (by omega) hBw
      have pp := qp_parts B w
      obtain ⟨h2, g2, p2, q2, m2, s2, k2, a2⟩ := x_addBlock q1 m1 (k := 6 * d + 6 + (qBs w pre).length) (M := B &&& w) hBw (by omega)
      obtain ⟨h3, g3, p3, q3, m3, s3, k3, a3⟩ := x_addBlock q2 m2 (k := 6 * d + 6 + (qBs w pre).length + (qBo (B &&& w)).length) (M := B ^^^ (B &&& w)) hBz (by omega)
      have es : qBs w (pre ++ [B]) = qBs w pre ++ (qBo (B &&& w) ++ (qBo (B ^^^ (B &&& w)))) := by
        rw [qBs_app]
        congr 1
        show qBo (B &&& w) ++ (qBo (B ^^^ (B &&& w)) ++ []) = _
        rw [List.append_nil]
      have en : qBn (pre ++ [B]) = qBn pre + qp B := by rw [qBn_app]; rfl
      have ev : qBv w (pre ++ [B]) = qBv w pre + 2 ^ qBn pre * (2 ^ qp (B &&& w) - 1) := by
        rw [qBv_app]
        have : qBv w [B] = 2 ^ qp (B &&& w) - 1 := by show (2 ^ qp (B &&& w) - 1) + 2 ^ qp B * 0 = _; omega
        rw [this]
      obtain ⟨h', g40', g41', b1, b2⟩ := ih (pre ++ [B]) h3 g3 (by rw [hl, List.append_assoc]; rfl) q3 m3 ((s1.trans (s2.mono fun z y => Or.inl y)).trans (s3.mono fun z y => Or.inl y)) (fun p hp => by rw [k3 p (by omega), k2 p (by omega), k1 p hp]) (by
        rw [es, qAt_app, qAt_app]
        refine ⟨qAt_same (fun p h1 h2 => ?_) a1, qAt_same (fun p h1 h2 => ?_) (show qAt g2 (6 * (d + 1) + (qBs w pre).length) (qBo (B &&& w)) from by rw [show 6 * (d + 1) = 6 * d + 6 by omega]; exact a2), by rw [show 6 * (d + 1) = 6 * d + 6 by omega]; exact a3⟩
        · rw [k3 p (by omega), k2 p (by omega)]
        · rw [k3 p (by omega)])
      refine ⟨h', g40', g41', ?_, b2⟩
      rw [← b1]
      have l1 : (qBs w (pre ++ [B])).length = (qBs w pre).length + ((qBo (B &&& w)).length + (qBo (B ^^^ (B &&& w))).length) := by rw [es, List.length_append, List.length_append]
      have l2 : (pre ++ [B]).length = pre.length + 1 := by rw [List.length_append]; rfl
      unfold f_X3_splitBlocks_l20
      refine mLoop_inl (x := (nI (6 * d + 6 + (qBs w pre).length), nI (qBn pre), nI (qBv w pre), nI (6 * d + pre.length), h1)) ?_
      show f_X3_splitBlocks_b20 (some 38) (nI d) x (nI (6 * d)) (nI (6 * d + 6 + (qBs w pre).length)) (nI (qBn pre)) (nI (qBv w pre)) (nI (6 * d + pre.length)) h1 = _
      unfold f_X3_splitBlocks_b20
      rw [o1.2.2.2.2.2.2, qbind, q1.atW m1.2.2.2 (by decide) (by decide) (by omega), qbind, ba.1, qI_add, if_neg (by rw [qle (by omega) (by omega)]; omega), o1.2.2.2.2.2.1, qbind, q1.atW m1.2.2.1 (by decide) (by decide) (by omega), qbind, rd, qbind, q1.atW m1.2.2.1 (by decide) (by decide) (by omega), qbind, rd, hx1 B hB, hx2 B hB, qJ_bitCount (by omega), qbind, qbind, q1.atW m1.2.2.1 (by decide) (by decide) (by omega), qbind, rd, qJ_bitCount (by omega), qbind, p2, qbind]
      dsimp only
      rw [p3, qbind]
      dsimp only
      rw [qI_mask (by omega), qI_shl _ (by omega), qI_or, qI_add, nI_1, ev, en, l1, l2, Nat.or_comm, Nat.mul_comm (2 ^ qp (B &&& w) - 1), ← Nat.two_pow_add_eq_or_of_lt (qBv_lt w pre), Nat.add_comm (2 ^ qBn pre * _), ← Nat.add_assoc, ← Nat.add_assoc, ← Nat.add_assoc]
  obtain ⟨h', g40', g41', b1, b2⟩ := LOOP l [] h f40 rfl q m qSame.rf (fun _ _ => rfl) trivial
  exact ⟨h', g40', g41', b1, b2⟩
end QSP
