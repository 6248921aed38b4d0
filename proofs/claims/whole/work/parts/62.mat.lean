/-! PURE: matrices of longs, the class's in cell 46, the model's in cell 66 -/
abbrev qMx : Type := Nat → Nat → Int64
/-- a matrix of order n in a row of 144 longs, s apart -/
def qLx (h : mH) (a s n : Nat) (M : qMx) : Prop := ∃ f : Nat → Int64, h.2 a = .inl (144, .inr (.inl f)) ∧ ∀ i j, i < n → j < n → f (i * s + j) = M i j
def qMxU (M : qMx) (i j : Nat) (v : Int64) : qMx := fun i' j' => if i' = i ∧ j' = j then v else M i' j'
theorem qIxInj {s i j i' j' : Nat} (hj : j < s) (hj' : j' < s) (e : i' * s + j' = i * s + j) : i' = i ∧ j' = j := by
  have a1 := (qdm (k := i) hj).1
  have a2 := (qdm (k := i) hj).2
  have b1 := (qdm (k := i') hj').1
  have b2 := (qdm (k := i') hj').2
  rw [e] at b1 b2
  exact ⟨b1.symm.trans a1, b2.symm.trans a2⟩
theorem qIxLt {s n i j : Nat} (hs : s ≤ 12) (hn : n ≤ s) (hi : i < n) (hj : j < n) : i * s + j < 144 := by
  have h1 : i * s + s ≤ n * s := by rw [← Nat.succ_mul]; exact Nat.mul_le_mul_right _ hi
  have h2 : n * s ≤ 12 * 12 := Nat.mul_le_mul (by omega) hs
  omega
theorem qLx.put {h : mH} {a s n : Nat} {M : qMx} (q : qLx h a s n M) (ha : a ≤ h.1) (h0 : a ≠ 0) (hs : s ≤ 12) (hn : n ≤ s) {i j : Nat} (hi : i < n) (hj : j < n) (v : Int64) : ∃ f, mSL h (some a) (nI (i * s + j)) v = some (mPut h a (.inl (144, .inr (.inl f)))) ∧ qLx (mPut h a (.inl (144, .inr (.inl f)))) a s n (qMxU M i j v) := by
  obtain ⟨f, f1, f2⟩ := q
  refine ⟨_, qSL h0 ha f1 (by decide) (qIxLt hs hn hi hj), _, qPutS _, fun i' j' hi' hj' => ?_⟩
  unfold qMxU
  by_cases e : i' = i ∧ j' = j
  · rw [if_pos e, e.1, e.2]
    simp [vp_updL]
  · rw [if_neg e]
    have hne : i' * s + j' ≠ i * s + j := fun z => e (qIxInj (by omega) (by omega) z)
    have : vp_updL f (i * s + j) v (i' * s + j') = f (i' * s + j') := by simp [vp_updL, hne]
    rw [this]
    exact f2 i' j' hi' hj'
theorem qLx.at {h : mH} {a s n : Nat} {M : qMx} (q : qLx h a s n M) (ha : a ≤ h.1) (hs : s ≤ 12) (hn : n ≤ s) {i j : Nat} (hi : i < n) (hj : j < n) : mAL h (some a) (nI (i * s + j)) = some (M i j) := by
  obtain ⟨f, f1, f2⟩ := q
  rw [qAL ha f1 (by decide) (qIxLt hs hn hi hj), f2 i j hi hj]
theorem qX.putL {h : mH} {A : qA} (q : qX h A) (f : Nat → Int64) : qX (mPut h 46 (.inl (144, .inr (.inl f)))) A := by
  obtain ⟨a1, a2, ⟨f3, a3, a3'⟩, a4, ⟨g, a5, a5'⟩, ⟨g2, a6, a6'⟩, q7⟩ := q
  refine ⟨a1, (qPutN _ (by decide)).trans a2, ⟨f3, (qPutN _ (by decide)).trans a3, a3'⟩, fun t ht => (a4 t ht).same rfl fun k h1 h2 => qPutN _ (by omega), ⟨g, (qPutN _ (by decide)).trans a5, a5'⟩, ⟨g2, (qPutN _ (by decide)).trans a6, a6'⟩, ?_⟩
  obtain ⟨a1, a2, a3, a4, ⟨n1, c, d, r, s, a5⟩, a6, a7, a8, a9, ⟨n', c', r', b1⟩, b2, b3, b4, b5, b6, b7, b8, b9, ⟨n'', c1⟩, c2, c3, c4⟩ := q7
  exact ⟨a1.same (qPutN _ (by decide)), (qPutN _ (by decide)).trans a2, a3.same (qPutN _ (by decide)), a4.same (qPutN _ (by decide)), ⟨n1, c, d, r, s, (qPutN _ (by decide)).trans a5⟩, a6.same (qPutN _ (by decide)), a7.same (qPutN _ (by decide)), a8.same (qPutN _ (by decide)), a9.same (qPutN _ (by decide)), ⟨n', c', r', (qPutN _ (by decide)).trans b1⟩, b2.same (qPutN _ (by decide)), b3.same (qPutN _ (by decide)), b4.same (qPutN _ (by decide)), (qPutN _ (by decide)).trans b5, b6.same (qPutN _ (by decide)), b7.same (qPutN _ (by decide)), (qPutN _ (by decide)).trans b8, ⟨f, qPutS _⟩, ⟨n'', (qPutN _ (by decide)).trans c1⟩, c2.same (qPutN _ (by decide)), c3.same (qPutN _ (by decide)), c4.same (qPutN _ (by decide))⟩
theorem qM.putL {h : mH} {A : qA} (m : qM h A) (f : Nat → Int64) : qM (mPut h 66 (.inl (144, .inr (.inl f)))) A := by
  obtain ⟨a1, ⟨x, y, a2⟩, ⟨fo, fr, ff, fg, fw, ⟨m1, m2, m3, m4, m5⟩, a4⟩, ⟨g, a5, a5'⟩, ⟨g2, a6, a6'⟩, q7⟩ := m
  refine ⟨a1, ⟨x, y, (qPutN _ (by decide)).trans a2⟩, ⟨fo, fr, ff, fg, fw, ⟨(qPutN _ (by decide)).trans m1, (qPutN _ (by decide)).trans m2, (qPutN _ (by decide)).trans m3, (qPutN _ (by decide)).trans m4, (qPutN _ (by decide)).trans m5⟩, a4⟩, ⟨g, (qPutN _ (by decide)).trans a5, a5'⟩, ⟨g2, (qPutN _ (by decide)).trans a6, a6'⟩, ?_⟩
  obtain ⟨a1, ⟨f2, a2, a2'⟩, ⟨g3, a3, a3'⟩, a4, a5, a6, a7, a8, a9, b1, b2, b3, b4, b5⟩ := q7
  exact ⟨a1.same (qPutN _ (by decide)), ⟨f2, (qPutN _ (by decide)).trans a2, a2'⟩, ⟨g3, (qPutN _ (by decide)).trans a3, a3'⟩, a4.same (qPutN _ (by decide)), a5.same (qPutN _ (by decide)), a6.same (qPutN _ (by decide)), a7.same (qPutN _ (by decide)), a8.same (qPutN _ (by decide)), ⟨f, qPutS _⟩, b1.same (qPutN _ (by decide)), b2.same (qPutN _ (by decide)), b3.same (qPutN _ (by decide)), b4.same (qPutN _ (by decide)), b5.same (qPutN _ (by decide))⟩
