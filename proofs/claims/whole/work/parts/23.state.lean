/-! PURE: THE STATE. A table: order, rows (words), trails of rows and of columns (2 times the number, 1 more if signed), turned -/
abbrev qT : Type := Nat × (Nat → Nat) × (Nat → Nat) × (Nat → Nat) × Bool
/-- six places; rows told: how many, which; the signal -/
abbrev qA : Type := (Nat → qT) × (Nat × (Nat → Nat)) × (Nat → Int32)
def qWT (T : qT) : Prop := T.1 ≤ 28 ∧ (∀ i, i < T.1 → T.2.1 i < 2 ^ T.1) ∧ (∀ i, i < T.1 → T.2.2.1 i < 56) ∧ (∀ i, i < T.1 → T.2.2.2.1 i < 56)
def qWA (A : qA) : Prop := (∀ t, t < 6 → qWT (A.1 t)) ∧ A.2.1.1 ≤ 28 ∧ (∀ i, i < A.2.1.1 → A.2.1.2 i < 2 ^ 28)
def qB2I (b : Bool) : Int32 := if b then 1 else 0
/-- the size of a sum of signs: of a word of n signs -/
def qSz (n w : Nat) : Nat := if 2 * qp w ≤ n then n - 2 * qp w else 2 * qp w - n
def qSum (n : Nat) (f : Nat → Nat) : Nat := match n with
  | 0 => 0
  | n + 1 => qSum n f + f n
/-- what the sum comes to when the columns of a set are signed, rows where that makes theirs greater -/
def qAll (T : qT) (s : Nat) : Nat := qSum T.1 (fun i => qSz T.1 (T.2.1 i ^^^ s))
/-- BEST: the sum m is that of the set c, no set has more, no lesser set as much -/
def qBest (T : qT) (m c : Nat) : Prop := c < 2 ^ T.1 ∧ qAll T c = m ∧ ∀ s, s < 2 ^ T.1 → qAll T s ≤ m ∧ (qAll T s = m → c ≤ s)
/-- a table of the class, its cells told -/
def qTX (h : mH) (t : Nat) (n tn bk bs bc : Int32) (ra rb : Nat) (fr fa fb : Nat → Int32) : Prop :=
  t < 6 ∧ h.1 = 72 ∧ h.2 (3 + 4 * t) = .inr (6, [.int n, .ref (4 + 4 * t), .ref ra, .ref rb, .int tn, .int bk, .int bs, .int bc]) ∧ h.2 (4 + 4 * t) = .inl (28, .inl fr) ∧ h.2 ra = .inl (28, .inl fa) ∧ h.2 rb = .inl (28, .inl fb) ∧
  ((ra = 5 + 4 * t ∧ rb = 6 + 4 * t) ∨ (ra = 6 + 4 * t ∧ rb = 5 + 4 * t))
/-- what the cells of a table of the class say -/
def qTs (T : qT) (bk bs bc : Int32) (fr fa fb : Nat → Int32) : Prop :=
  (∀ i, i < T.1 → fr i = nI (T.2.1 i)) ∧ (∀ i, i < T.1 → fa i = nI (T.2.2.1 i)) ∧ (∀ i, i < T.1 → fb i = nI (T.2.2.2.1 i)) ∧
  (bk = 0 ∨ (bk = 1 ∧ (0 < T.1 → ∃ m c, bs = nI m ∧ bc = nI c ∧ qBest T m c)))
def qXt (h : mH) (t : Nat) (T : qT) : Prop := ∃ (bk bs bc : Int32) (ra rb : Nat) (fr fa fb : Nat → Int32), qTX h t (nI T.1) (qB2I T.2.2.2.2) bk bs bc ra rb fr fa fb ∧ qTs T bk bs bc fr fa fb
def qArr (h : mH) (a n : Nat) : Prop := ∃ f : Nat → Int32, h.2 a = .inl (n, .inl f)
def qArL' (h : mH) (a n : Nat) : Prop := ∃ f : Nat → Int64, h.2 a = .inl (n, .inr (.inl f))
/-- what the class works in -/
def qXs (h : mH) : Prop :=
  qArr h 29 28 ∧ h.2 30 = .inr (0, [.ref 31, .ref 32]) ∧ qArr h 31 12 ∧ qArr h 32 1600 ∧
  (∃ (n c d : Int32) (r s : Option Nat), h.2 33 = .inr (3, [.int n, va_rf r, va_rf s, .int c, .int d, .ref 34, .ref 35, .ref 36, .ref 37])) ∧ qArr h 34 12 ∧ qArr h 35 156 ∧ qArr h 36 156 ∧ qArr h 37 13 ∧
  (∃ (n c : Int32) (r : Option Nat), h.2 38 = .inr (2, [.int n, va_rf r, .int c, .ref 39, .ref 40, .ref 41])) ∧ qArr h 39 6 ∧ qArr h 40 42 ∧ qArr h 41 7 ∧
  h.2 42 = .inr (5, [.ref 43, .ref 44]) ∧ qArL' h 43 16 ∧ qArL' h 44 16 ∧ h.2 45 = .inr (1, [.ref 46]) ∧ qArL' h 46 144 ∧
  (∃ n : Int32, h.2 47 = .inr (4, [.ref 48, .ref 49, .int n, .ref 50])) ∧ qArr h 48 8 ∧ qArr h 49 8 ∧ qArr h 50 4
def qXo (h : mH) (c : Int32) : Prop := h.2 1 = .inr (7, [.ref 2, .ref 27, .int c, .ref 28, .ref 29, .ref 30, .ref 33, .ref 38, .ref 42, .ref 45, .ref 47])
/-- the class's object holds the state -/
def qX (h : mH) (A : qA) : Prop :=
  h.1 = 72 ∧ qXo h (nI A.2.1.1) ∧ (∃ f : Nat → Option Nat, h.2 2 = .inl (6, .inr (.inr f)) ∧ ∀ t, t < 6 → f t = some (3 + 4 * t)) ∧ (∀ t, t < 6 → qXt h t (A.1 t)) ∧
  (∃ f : Nat → Int32, h.2 27 = .inl (28, .inl f) ∧ ∀ i, i < A.2.1.1 → f i = nI (A.2.1.2 i)) ∧ (∃ f : Nat → Int32, h.2 28 = .inl (28, .inl f) ∧ ∀ i, i < 28 → f i = A.2.2 i) ∧ qXs h
/-- the model's object -/
def qMo (h : mH) (c : Int32) : Prop := ∃ x y : Int32, h.2 51 = .inr (8, [.int 0, .ref 52, .ref 53, .ref 54, .ref 55, .ref 56, .ref 57, .int c, .ref 58, .ref 59, .ref 60, .ref 61, .int x, .int y, .ref 62, .ref 63, .ref 64, .ref 65, .ref 66, .ref 67, .ref 68, .ref 69, .ref 70, .ref 71, .ref 72])
def qTab (f : Nat → Int32) (l : List Nat) : Prop := ∀ i, i < l.length → f i = nI (l.getD i 0)
/-- one place of the model, in its rows -/
def qMt (fo fr ff fg fw : Nat → Int32) (t : Nat) (T : qT) : Prop :=
  fo t = nI T.1 ∧ (∀ i, i < T.1 → fr (28 * t + i) = nI (T.2.1 i)) ∧
  (∀ i, i < T.1 → ff (28 * (2 * t) + i) = nI (T.2.2.1 i / 2) ∧ fg (28 * (2 * t) + i) = nI (T.2.2.1 i % 2)) ∧
  (∀ i, i < T.1 → ff (28 * (2 * t + 1) + i) = nI (T.2.2.2.1 i / 2) ∧ fg (28 * (2 * t + 1) + i) = nI (T.2.2.2.1 i % 2)) ∧
  (0 < T.1 → fw (2 * t) = qB2I (!T.2.2.2.2)) ∧ (0 < T.1 → fw (2 * t + 1) = qB2I T.2.2.2.2)
/-- what the model works in -/
def qMs (h : mH) : Prop :=
  qArr h 58 28 ∧ (∃ f, h.2 59 = .inl (16, .inl f) ∧ qTab f [0, 1, 2, 3, 1, 0, 3, 2, 2, 3, 0, 1, 3, 2, 1, 0]) ∧ (∃ f, h.2 60 = .inl (16, .inl f) ∧ qTab f [0, 0, 0, 0, 1, 0, 1, 0, 1, 0, 0, 1, 1, 1, 0, 0]) ∧
  qArr h 61 4 ∧ qArr h 62 28 ∧ qArr h 63 6 ∧ qArr h 64 6 ∧ qArr h 65 6 ∧ qArL' h 66 144 ∧ qArr h 67 12 ∧ qArr h 68 12 ∧ qArr h 69 156 ∧ qArr h 70 156 ∧ qArr h 72 8
def qMr (h : mH) (fo fr ff fg fw : Nat → Int32) : Prop := h.2 52 = .inl (6, .inl fo) ∧ h.2 53 = .inl (168, .inl fr) ∧ h.2 54 = .inl (336, .inl ff) ∧ h.2 55 = .inl (336, .inl fg) ∧ h.2 56 = .inl (12, .inl fw)
def qM (h : mH) (A : qA) : Prop :=
  h.1 = 72 ∧ qMo h (nI A.2.1.1) ∧ (∃ fo fr ff fg fw, qMr h fo fr ff fg fw ∧ ∀ t, t < 6 → qMt fo fr ff fg fw t (A.1 t)) ∧
  (∃ f : Nat → Int32, h.2 57 = .inl (28, .inl f) ∧ ∀ i, i < A.2.1.1 → f i = nI (A.2.1.2 i)) ∧ (∃ f : Nat → Int32, h.2 71 = .inl (28, .inl f) ∧ ∀ i, i < 28 → f i = A.2.2 i) ∧ qMs h
/-- the class's cells, the model's cells -/
def qCX (k : Nat) : Prop := 1 ≤ k ∧ k ≤ 50
def qCM (k : Nat) : Prop := 50 < k
/-! who changes what -/
theorem qArr.same {h h' : mH} {a n : Nat} (q : qArr h a n) (e : h'.2 a = h.2 a) : qArr h' a n := by obtain ⟨f, hf⟩ := q; exact ⟨f, e.trans hf⟩
theorem qArL'.same {h h' : mH} {a n : Nat} (q : qArL' h a n) (e : h'.2 a = h.2 a) : qArL' h' a n := by obtain ⟨f, hf⟩ := q; exact ⟨f, e.trans hf⟩
theorem qXt.same {h h' : mH} {t : Nat} {T : qT} (q : qXt h t T) (e1 : h'.1 = h.1) (e : ∀ k, 3 + 4 * t ≤ k → k ≤ 6 + 4 * t → h'.2 k = h.2 k) : qXt h' t T := by
  obtain ⟨bk, bs, bc, ra, rb, fr, fa, fb, ⟨h1, h2, h3, h4, h5, h6, h7⟩, hs⟩ := q
  refine ⟨bk, bs, bc, ra, rb, fr, fa, fb, ⟨h1, e1.trans h2, (e _ (by omega) (by omega)).trans h3, (e _ (by omega) (by omega)).trans h4, (e _ (by omega) (by omega)).trans h5, (e _ (by omega) (by omega)).trans h6, h7⟩, hs⟩
theorem qXs.same {h h' : mH} (q : qXs h) (e : ∀ k, 29 ≤ k → k ≤ 50 → h'.2 k = h.2 k) : qXs h' := by
  obtain ⟨a1, a2, a3, a4, ⟨n, c, d, r, s, a5⟩, a6, a7, a8, a9, ⟨n', c', r', b1⟩, b2, b3, b4, b5, b6, b7, b8, b9, ⟨n'', c1⟩, c2, c3, c4⟩ := q
  have E : ∀ k, 29 ≤ k ∧ k ≤ 50 → h'.2 k = h.2 k := fun k z => e k z.1 z.2
  exact ⟨a1.same (E _ (by decide)), (E _ (by decide)).trans a2, a3.same (E _ (by decide)), a4.same (E _ (by decide)), ⟨n, c, d, r, s, (E _ (by decide)).trans a5⟩, a6.same (E _ (by decide)), a7.same (E _ (by decide)), a8.same (E _ (by decide)), a9.same (E _ (by decide)), ⟨n', c', r', (E _ (by decide)).trans b1⟩, b2.same (E _ (by decide)), b3.same (E _ (by decide)), b4.same (E _ (by decide)), (E _ (by decide)).trans b5, b6.same (E _ (by decide)), b7.same (E _ (by decide)), (E _ (by decide)).trans b8, b9.same (E _ (by decide)), ⟨n'', (E _ (by decide)).trans c1⟩, c2.same (E _ (by decide)), c3.same (E _ (by decide)), c4.same (E _ (by decide))⟩
theorem qX.same {h h' : mH} {A : qA} (q : qX h A) (e : qSame qCM h h') : qX h' A := by
  obtain ⟨a1, a2, ⟨f, a3, a3'⟩, a4, ⟨g, a5, a5'⟩, ⟨g2, a6, a6'⟩, a7⟩ := q
  have E : ∀ k, k ≤ 50 → h'.2 k = h.2 k := fun k z => e.2 k (by unfold qCM; omega)
  exact ⟨e.1.trans a1, (E _ (by decide)).trans a2, ⟨f, (E _ (by decide)).trans a3, a3'⟩, fun t ht => (a4 t ht).same e.1 fun k h1 h2 => E k (by omega), ⟨g, (E _ (by decide)).trans a5, a5'⟩, ⟨g2, (E _ (by decide)).trans a6, a6'⟩, a7.same fun k _ h2 => E k h2⟩
theorem qMs.same {h h' : mH} (q : qMs h) (e : ∀ k, 58 ≤ k → k ≠ 71 → h'.2 k = h.2 k) : qMs h' := by
  obtain ⟨a1, ⟨f, a2, a2'⟩, ⟨g, a3, a3'⟩, a4, a5, a6, a7, a8, a9, b1, b2, b3, b4, b5⟩ := q
  have E : ∀ k, 58 ≤ k ∧ k ≠ 71 → h'.2 k = h.2 k := fun k z => e k z.1 z.2
  exact ⟨a1.same (E _ (by decide)), ⟨f, (E _ (by decide)).trans a2, a2'⟩, ⟨g, (E _ (by decide)).trans a3, a3'⟩, a4.same (E _ (by decide)), a5.same (E _ (by decide)), a6.same (E _ (by decide)), a7.same (E _ (by decide)), a8.same (E _ (by decide)), a9.same (E _ (by decide)), b1.same (E _ (by decide)), b2.same (E _ (by decide)), b3.same (E _ (by decide)), b4.same (E _ (by decide)), b5.same (E _ (by decide))⟩
theorem qM.same {h h' : mH} {A : qA} (q : qM h A) (e : qSame qCX h h') : qM h' A := by
  obtain ⟨a1, ⟨x, y, a2⟩, ⟨fo, fr, ff, fg, fw, ⟨m1, m2, m3, m4, m5⟩, a4⟩, ⟨g, a5, a5'⟩, ⟨g2, a6, a6'⟩, a7⟩ := q
  have E : ∀ k, 51 ≤ k → h'.2 k = h.2 k := fun k z => e.2 k (by unfold qCX; omega)
  exact ⟨e.1.trans a1, ⟨x, y, (E _ (by decide)).trans a2⟩, ⟨fo, fr, ff, fg, fw, ⟨(E _ (by decide)).trans m1, (E _ (by decide)).trans m2, (E _ (by decide)).trans m3, (E _ (by decide)).trans m4, (E _ (by decide)).trans m5⟩, a4⟩, ⟨g, (E _ (by decide)).trans a5, a5'⟩, ⟨g2, (E _ (by decide)).trans a6, a6'⟩, a7.same fun k h1 _ => E k (by omega)⟩
/-- one table set -/
def qSetT (A : qA) (t : Nat) (T : qT) : qA := (va_up A.1 t T, A.2)
def qIs4 (t k : Nat) : Prop := 3 + 4 * t ≤ k ∧ k ≤ 6 + 4 * t
theorem qX.tab {h h' : mH} {A : qA} (q : qX h A) {t : Nat} (ht : t < 6) {T : qT} (e : qSame (qIs4 t) h h') (hT : qXt h' t T) : qX h' (qSetT A t T) := by
  obtain ⟨a1, a2, ⟨f, a3, a3'⟩, a4, ⟨g, a5, a5'⟩, ⟨g2, a6, a6'⟩, a7⟩ := q
  have E : ∀ k, (k < 3 ∨ 27 ≤ k) → h'.2 k = h.2 k := fun k z => e.2 k (by unfold qIs4; omega)
  refine ⟨e.1.trans a1, (E _ (by decide)).trans a2, ⟨f, (E _ (by decide)).trans a3, a3'⟩, fun u hu => ?_, ⟨g, (E _ (by decide)).trans a5, a5'⟩, ⟨g2, (E _ (by decide)).trans a6, a6'⟩, a7.same fun k h1 _ => E k (by omega)⟩
  by_cases hut : u = t
  · subst hut
    show qXt h' u (va_up A.1 u T u)
    simp only [va_up, if_true]
    exact hT
  · show qXt h' u (va_up A.1 t T u)
    simp only [va_up, hut, if_false]
    exact (a4 u hu).same e.1 fun k h1 h2 => e.2 k (by unfold qIs4; omega)
theorem qWA.tab {A : qA} (w : qWA A) {t : Nat} {T : qT} (hT : qWT T) : qWA (qSetT A t T) := by
  refine ⟨fun u hu => ?_, w.2.1, w.2.2⟩
  show qWT (va_up A.1 t T u)
  by_cases hut : u = t
  · simp only [va_up, hut, if_true]; exact hT
  · simp only [va_up, hut, if_false]; exact w.1 u hu
