/-! PURE: cells written, by what holds behind -/
theorem mLoop_inv {S R : Type} {b : S → Option (S ⊕ R)} (J : Nat → S → Prop) (n : Nat) (P : R → Prop) {s0 : S} (h0 : J 0 s0) (hs : ∀ k s, k < n → J k s → ∃ s', b s = some (.inl s') ∧ J (k + 1) s') (he : ∀ s, J n s → ∃ r, b s = some (.inr r) ∧ P r) : ∃ r, mLoop b s0 = some r ∧ P r := by
  have key : ∀ d k s, k + d = n → J k s → ∃ r, mLoop b s = some r ∧ P r := by
    intro d
    induction d with
    | zero =>
      intro k s hk hj
      have : k = n := by omega
      subst this
      obtain ⟨r, h1, h2⟩ := he s hj
      exact ⟨r, mLoop_inr h1, h2⟩
    | succ d ih =>
      intro k s hk hj
      obtain ⟨s', h1, h2⟩ := hs k s (by omega) hj
      obtain ⟨r, h3, h4⟩ := ih (k + 1) s' (by omega) h2
      exact ⟨r, by rw [mLoop_inl h1]; exact h3, h4⟩
  exact key n 0 s0 (by omega) h0
section QWX
variable {h : mH} {t : Nat} {n tn bk bs bc : Int32} {ra rb : Nat} {fr fa fb : Nat → Int32}
theorem qIs4.row (t : Nat) : qIs4 t (4 + 4 * t) := ⟨by omega, by omega⟩
theorem qTX.neq (q : qTX h t n tn bk bs bc ra rb fr fa fb) : ra ≠ 3 + 4 * t ∧ ra ≠ 4 + 4 * t ∧ rb ≠ 3 + 4 * t ∧ rb ≠ 4 + 4 * t ∧ ra ≠ rb ∧ ra ≠ 0 ∧ rb ≠ 0 ∧ qIs4 t ra ∧ qIs4 t rb := by
  have h7 := q.2.2.2.2.2.2
  unfold qIs4
  omega
theorem qTX.stRow (q : qTX h t n tn bk bs bc ra rb fr fa fb) {i : Nat} (hi : i < 28) (x : Int32) : ∃ h', mSI h (some (4 + 4 * t)) (nI i) x = some h' ∧ qTX h' t n tn bk bs bc ra rb (upd fr i x) fa fb ∧ qSame (qIs4 t) h h' := by
  obtain ⟨z1, z2, z3, z4, z5, z6, z7, -⟩ := q.neq
  refine ⟨_, qSI (by omega) q.le.2.1 q.2.2.2.1 (by decide) hi, ⟨q.1, q.2.1, ?_, qPutS _, ?_, ?_, q.2.2.2.2.2.2⟩, qSame.rf.put (qIs4.row t) _⟩
  · rw [qPutN _ (by omega)]; exact q.2.2.1
  · rw [qPutN _ z2]; exact q.2.2.2.2.1
  · rw [qPutN _ z4]; exact q.2.2.2.2.2.1
theorem qTX.stA (q : qTX h t n tn bk bs bc ra rb fr fa fb) {i : Nat} (hi : i < 28) (x : Int32) : ∃ h', mSI h (some ra) (nI i) x = some h' ∧ qTX h' t n tn bk bs bc ra rb fr (upd fa i x) fb ∧ qSame (qIs4 t) h h' := by
  obtain ⟨z1, z2, z3, z4, z5, z6, z7, z8, z9⟩ := q.neq
  refine ⟨_, qSI z6 q.le.2.2.1 q.2.2.2.2.1 (by decide) hi, ⟨q.1, q.2.1, ?_, ?_, qPutS _, ?_, q.2.2.2.2.2.2⟩, qSame.rf.put z8 _⟩
  · rw [qPutN _ (Ne.symm z1)]; exact q.2.2.1
  · rw [qPutN _ (Ne.symm z2)]; exact q.2.2.2.1
  · rw [qPutN _ (Ne.symm z5)]; exact q.2.2.2.2.2.1
theorem qTX.stB (q : qTX h t n tn bk bs bc ra rb fr fa fb) {i : Nat} (hi : i < 28) (x : Int32) : ∃ h', mSI h (some rb) (nI i) x = some h' ∧ qTX h' t n tn bk bs bc ra rb fr fa (upd fb i x) ∧ qSame (qIs4 t) h h' := by
  obtain ⟨z1, z2, z3, z4, z5, z6, z7, z8, z9⟩ := q.neq
  refine ⟨_, qSI z7 q.le.2.2.2 q.2.2.2.2.2.1 (by decide) hi, ⟨q.1, q.2.1, ?_, ?_, ?_, qPutS _, q.2.2.2.2.2.2⟩, qSame.rf.put z9 _⟩
  · rw [qPutN _ (Ne.symm z3)]; exact q.2.2.1
  · rw [qPutN _ (Ne.symm z4)]; exact q.2.2.2.1
  · rw [qPutN _ z5]; exact q.2.2.2.2.1
theorem qTX.put (q : qTX h t n tn bk bs bc ra rb fr fa fb) {j : Nat} (hj : j < 8) {v : Value} {n' tn' bk' bs' bc' : Int32} (hv : ([.int n, .ref (4 + 4 * t), .ref ra, .ref rb, .int tn, .int bk, .int bs, .int bc] : List Value).set j v = [.int n', .ref (4 + 4 * t), .ref ra, .ref rb, .int tn', .int bk', .int bs', .int bc']) : ∃ h', mPF h (some (3 + 4 * t)) 6 j v = some h' ∧ qTX h' t n' tn' bk' bs' bc' ra rb fr fa fb ∧ qSame (qIs4 t) h h' := by
  obtain ⟨z1, z2, z3, z4, z5, z6, z7, z8, z9⟩ := q.neq
  refine ⟨_, qPF q.le.1 q.2.2.1 hj, ⟨q.1, q.2.1, ?_, ?_, ?_, ?_, q.2.2.2.2.2.2⟩, qSame.rf.put ⟨by omega, by omega⟩ _⟩
  · rw [qPutS, hv]
  · rw [qPutN _ (by omega)]; exact q.2.2.2.1
  · rw [qPutN _ z1]; exact q.2.2.2.2.1
  · rw [qPutN _ z3]; exact q.2.2.2.2.2.1
end QWX
section QWM
variable {h : mH} {c x y : Int32} {fo fr ff fg fw : Nat → Int32}
/-- the model's rows of tables -/
def qC5 (k : Nat) : Prop := 52 ≤ k ∧ k ≤ 56
theorem qMb.st52 (q : qMb h c x y fo fr ff fg fw) {i : Nat} (hi : i < 6) (v : Int32) : ∃ h', mSI h (some 52) (nI i) v = some h' ∧ qMb h' c x y (upd fo i v) fr ff fg fw ∧ qSame qC5 h h' := by
  refine ⟨_, qSI (by decide) (q.le (by decide)) q.2.2.1 (by decide) hi, ⟨q.1, ?_, qPutS _, ?_, ?_, ?_, ?_⟩, qSame.rf.put ⟨by decide, by decide⟩ _⟩
  · rw [qPutN _ (by decide)]; exact q.2.1
  · rw [qPutN _ (by decide)]; exact q.2.2.2.1
  · rw [qPutN _ (by decide)]; exact q.2.2.2.2.1
  · rw [qPutN _ (by decide)]; exact q.2.2.2.2.2.1
  · rw [qPutN _ (by decide)]; exact q.2.2.2.2.2.2
theorem qMb.st53 (q : qMb h c x y fo fr ff fg fw) {i : Nat} (hi : i < 168) (v : Int32) : ∃ h', mSI h (some 53) (nI i) v = some h' ∧ qMb h' c x y fo (upd fr i v) ff fg fw ∧ qSame qC5 h h' := by
  refine ⟨_, qSI (by decide) (q.le (by decide)) q.2.2.2.1 (by decide) hi, ⟨q.1, ?_, ?_, qPutS _, ?_, ?_, ?_⟩, qSame.rf.put ⟨by decide, by decide⟩ _⟩
  · rw [qPutN _ (by decide)]; exact q.2.1
  · rw [qPutN _ (by decide)]; exact q.2.2.1
  · rw [qPutN _ (by decide)]; exact q.2.2.2.2.1
  · rw [qPutN _ (by decide)]; exact q.2.2.2.2.2.1
  · rw [qPutN _ (by decide)]; exact q.2.2.2.2.2.2
theorem qMb.st54 (q : qMb h c x y fo fr ff fg fw) {i : Nat} (hi : i < 336) (v : Int32) : ∃ h', mSI h (some 54) (nI i) v = some h' ∧ qMb h' c x y fo fr (upd ff i v) fg fw ∧ qSame qC5 h h' := by
  refine ⟨_, qSI (by decide) (q.le (by decide)) q.2.2.2.2.1 (by decide) hi, ⟨q.1, ?_, ?_, ?_, qPutS _, ?_, ?_⟩, qSame.rf.put ⟨by decide, by decide⟩ _⟩
  · rw [qPutN _ (by decide)]; exact q.2.1
  · rw [qPutN _ (by decide)]; exact q.2.2.1
  · rw [qPutN _ (by decide)]; exact q.2.2.2.1
  · rw [qPutN _ (by decide)]; exact q.2.2.2.2.2.1
  · rw [qPutN _ (by decide)]; exact q.2.2.2.2.2.2
theorem qMb.st55 (q : qMb h c x y fo fr ff fg fw) {i : Nat} (hi : i < 336) (v : Int32) : ∃ h', mSI h (some 55) (nI i) v = some h' ∧ qMb h' c x y fo fr ff (upd fg i v) fw ∧ qSame qC5 h h' := by
  refine ⟨_, qSI (by decide) (q.le (by decide)) q.2.2.2.2.2.1 (by decide) hi, ⟨q.1, ?_, ?_, ?_, ?_, qPutS _, ?_⟩, qSame.rf.put ⟨by decide, by decide⟩ _⟩
  · rw [qPutN _ (by decide)]; exact q.2.1
  · rw [qPutN _ (by decide)]; exact q.2.2.1
  · rw [qPutN _ (by decide)]; exact q.2.2.2.1
  · rw [qPutN _ (by decide)]; exact q.2.2.2.2.1
  · rw [qPutN _ (by decide)]; exact q.2.2.2.2.2.2
theorem qMb.st56 (q : qMb h c x y fo fr ff fg fw) {i : Nat} (hi : i < 12) (v : Int32) : ∃ h', mSI h (some 56) (nI i) v = some h' ∧ qMb h' c x y fo fr ff fg (upd fw i v) ∧ qSame qC5 h h' := by
  refine ⟨_, qSI (by decide) (q.le (by decide)) q.2.2.2.2.2.2 (by decide) hi, ⟨q.1, ?_, ?_, ?_, ?_, ?_, qPutS _⟩, qSame.rf.put ⟨by decide, by decide⟩ _⟩
  · rw [qPutN _ (by decide)]; exact q.2.1
  · rw [qPutN _ (by decide)]; exact q.2.2.1
  · rw [qPutN _ (by decide)]; exact q.2.2.2.1
  · rw [qPutN _ (by decide)]; exact q.2.2.2.2.1
  · rw [qPutN _ (by decide)]; exact q.2.2.2.2.2.1
/-- the tables of the model set anew -/
theorem qM.upd {A A' : qA} (m : qM h A) {h' : mH} (e : qSame qC5 h h') {x' y' : Int32} {fo' fr' ff' fg' fw' : Nat → Int32} (mb : qMb h' (nI A.2.1.1) x' y' fo' fr' ff' fg' fw') (hm : ∀ t, t < 6 → qMt fo' fr' ff' fg' fw' t (A'.1 t)) (hA : A'.2 = A.2) : qM h' A' := by
  obtain ⟨a1, -, -, ⟨g, a5, a5'⟩, ⟨g2, a6, a6'⟩, a7⟩ := m
  have E : ∀ k, 57 ≤ k → h'.2 k = h.2 k := fun k z => e.2 k (by unfold qC5; omega)
  refine ⟨mb.1, ⟨x', y', by rw [hA]; exact mb.2.1⟩, ⟨fo', fr', ff', fg', fw', mb.2.2, hm⟩, ?_, ?_, a7.same fun k h1 _ => E k (by omega)⟩
  · rw [hA]; exact ⟨g, (E _ (by decide)).trans a5, a5'⟩
  · rw [hA]; exact ⟨g2, (E _ (by decide)).trans a6, a6'⟩
/-- another place of the model keeps what it has -/
theorem qMt.keep {fo' fr' ff' fg' fw' : Nat → Int32} {t : Nat} {T : qT} (hn : T.1 ≤ 28) (q : qMt fo fr ff fg fw t T) (e1 : fo' t = fo t) (e2 : ∀ i, i < 28 → fr' (28 * t + i) = fr (28 * t + i)) (e3 : ∀ i, i < 56 → ff' (28 * (2 * t) + i) = ff (28 * (2 * t) + i) ∧ fg' (28 * (2 * t) + i) = fg (28 * (2 * t) + i)) (e4 : fw' (2 * t) = fw (2 * t) ∧ fw' (2 * t + 1) = fw (2 * t + 1)) : qMt fo' fr' ff' fg' fw' t T := by
  obtain ⟨c1, c2, c3, c4, c5, c6⟩ := q
  refine ⟨e1.trans c1, fun i hi => (e2 i (by omega)).trans (c2 i hi), fun i hi => ⟨(e3 i (by omega)).1.trans (c3 i hi).1, (e3 i (by omega)).2.trans (c3 i hi).2⟩, fun i hi => ?_, fun z => e4.1.trans (c5 z), fun z => e4.2.trans (c6 z)⟩
  have h1 := e3 (28 + i) (by omega)
  rw [show 28 * (2 * t) + (28 + i) = 28 * (2 * t + 1) + i by omega] at h1
  exact ⟨h1.1.trans (c4 i hi).1, h1.2.trans (c4 i hi).2⟩
end QWM
/-- a call that changes: both sides answer alike, and hold one state again -/
def qStep (fx fm : mH → Option (Int32 × mH)) (h : mH) : Prop := ∃ r h1 h2 A', fx h = some (r, h1) ∧ fm h1 = some (r, h2) ∧ qI h2 A' ∧ qSame (fun k => 0 < k) h h2 ∧ qSame (fun k => 0 < k) h h1
theorem qStep.mk {fx fm : mH → Option (Int32 × mH)} {h h1 h2 : mH} {A' : qA} {r : Int32} (e1 : fx h = some (r, h1)) (x1 : qX h1 A') (s1 : qSame qCX h h1) (e2 : fm h1 = some (r, h2)) (m2 : qM h2 A') (s2 : qSame qCM h1 h2) (w : qWA A') : qStep fx fm h :=
  ⟨r, h1, h2, A', e1, e2, ⟨x1.same s2, m2, w⟩, (s1.mono fun k z => z.1).trans (s2.mono fun k z => Nat.lt_of_lt_of_le (by decide : 0 < 50) (Nat.le_of_lt z)), s1.mono fun k z => z.1⟩
theorem qStep.none {fx fm : mH → Option (Int32 × mH)} {h : mH} {A : qA} {r : Int32} (I : qI h A) (e1 : fx h = some (r, h)) (e2 : fm h = some (r, h)) : qStep fx fm h := ⟨r, h, h, A, e1, e2, I, qSame.rf, qSame.rf⟩
theorem qIs4.cx {t : Nat} (ht : t < 6) : ∀ k, qIs4 t k → qCX k := fun k z => by unfold qIs4 at z; unfold qCX; omega
theorem qC5.cm : ∀ k, qC5 k → qCM k := fun k z => by unfold qC5 at z; unfold qCM; omega
