/-! PURE: cells read and written, as equations -/
section QACC
variable {h : mH} {a ci n j i b : Nat} {fs : List Value} {x : Int32} {y : Int64}
theorem qObj (hb : a ≤ h.1) (he : h.2 a = .inr (ci, fs)) : mObj h (some a) ci = some fs := by
  simp [mObj, mCell, hb, he]
theorem qIs (hb : a ≤ h.1) (he : h.2 a = .inr (ci, fs)) : mIs h (some a) ci = some () := by
  simp [mIs, qObj hb he]
theorem qGI (hb : a ≤ h.1) (he : h.2 a = .inr (ci, fs)) (hv : fs[j]? = some (.int x)) : mGI h (some a) ci j = some x := by
  simp [mGI, qObj hb he, hv]
theorem qGR (hb : a ≤ h.1) (he : h.2 a = .inr (ci, fs)) (hv : fs[j]? = some (.ref b)) : mGR h (some a) ci j = some (some b) := by
  simp [mGR, qObj hb he, hv]
theorem qArI {f : Nat → Int32} (hb : a ≤ h.1) (he : h.2 a = .inl (n, .inl f)) : mArI h (some a) = some (n, f) := by
  simp [mArI, mCell, hb, he]
theorem qArL {f : Nat → Int64} (hb : a ≤ h.1) (he : h.2 a = .inl (n, .inr (.inl f))) : mArL h (some a) = some (n, f) := by
  simp [mArL, mCell, hb, he]
theorem qArR {f : Nat → Option Nat} (hb : a ≤ h.1) (he : h.2 a = .inl (n, .inr (.inr f))) : mArR h (some a) = some (n, f) := by
  simp [mArR, mCell, hb, he]
theorem qIn (hi : i < n) (hn : n < 2 ^ 31) : ¬ (nI i < 0 ∨ n ≤ (nI i).toNatClampNeg) := nI_in hi hn
theorem qAI {f : Nat → Int32} (hb : a ≤ h.1) (he : h.2 a = .inl (n, .inl f)) (hn : n < 2 ^ 31) (hi : i < n) : mAI h (some a) (nI i) = some (f i) := by
  unfold mAI
  rw [qArI hb he]
  show (if _ then none else some (f (nI i).toNatClampNeg)) = _
  rw [if_neg (qIn hi hn), nI_clamp (by omega)]
theorem qAL {f : Nat → Int64} (hb : a ≤ h.1) (he : h.2 a = .inl (n, .inr (.inl f))) (hn : n < 2 ^ 31) (hi : i < n) : mAL h (some a) (nI i) = some (f i) := by
  unfold mAL
  rw [qArL hb he]
  show (if _ then none else some (f (nI i).toNatClampNeg)) = _
  rw [if_neg (qIn hi hn), nI_clamp (by omega)]
theorem qAR {f : Nat → Option Nat} (hb : a ≤ h.1) (he : h.2 a = .inl (n, .inr (.inr f))) (hn : n < 2 ^ 31) (hi : i < n) : mAR h (some a) (nI i) = some (f i) := by
  unfold mAR
  rw [qArR hb he]
  show (if _ then none else some (f (nI i).toNatClampNeg)) = _
  rw [if_neg (qIn hi hn), nI_clamp (by omega)]
theorem qLn {f : Nat → Int32} (hb : a ≤ h.1) (he : h.2 a = .inl (n, .inl f)) : mLn h (some a) = some (nI n) := by
  simp [mLn, mCell, hb, he]; rfl
theorem qLnL {f : Nat → Int64} (hb : a ≤ h.1) (he : h.2 a = .inl (n, .inr (.inl f))) : mLn h (some a) = some (nI n) := by
  simp [mLn, mCell, hb, he]; rfl
theorem qSI {f : Nat → Int32} (h0 : a ≠ 0) (hb : a ≤ h.1) (he : h.2 a = .inl (n, .inl f)) (hn : n < 2 ^ 31) (hi : i < n) : mSI h (some a) (nI i) x = some (mPut h a (.inl (n, .inl (upd f i x)))) := by
  unfold mSI
  rw [qArI hb he]
  show (if _ then none else _) = _
  rw [if_neg (by rintro (q | q); exact h0 (Option.some.inj q); exact qIn hi hn q)]
  show some (mPut h a (.inl (n, .inl (upd f (nI i).toNatClampNeg x)))) = _
  rw [nI_clamp (by omega)]
theorem qSL {f : Nat → Int64} (h0 : a ≠ 0) (hb : a ≤ h.1) (he : h.2 a = .inl (n, .inr (.inl f))) (hn : n < 2 ^ 31) (hi : i < n) : mSL h (some a) (nI i) y = some (mPut h a (.inl (n, .inr (.inl (vp_updL f i y))))) := by
  unfold mSL
  rw [qArL hb he]
  show (if _ then none else _) = _
  rw [if_neg (by rintro (q | q); exact h0 (Option.some.inj q); exact qIn hi hn q)]
  show some (mPut h a (.inl (n, .inr (.inl (vp_updL f (nI i).toNatClampNeg y))))) = _
  rw [nI_clamp (by omega)]
theorem qPF {v : Value} (hb : a ≤ h.1) (he : h.2 a = .inr (ci, fs)) (hj : j < fs.length) : mPF h (some a) ci j v = some (mPut h a (.inr (ci, fs.set j v))) := by
  unfold mPF
  rw [qObj hb he]
  show (if _ then _ else none) = _
  rw [if_pos hj]
  rfl
theorem qPut1 (e : mC) : (mPut h a e).1 = h.1 := rfl
theorem qPutS (e : mC) : (mPut h a e).2 a = e := by simp [mPut, va_up]
theorem qPutN (e : mC) (hk : b ≠ a) : (mPut h a e).2 b = h.2 b := by simp [mPut, va_up, hk]
theorem qPutP (e e' : mC) : mPut (mPut h a e) a e' = mPut h a e' := by
  unfold mPut
  congr 1
  funext k
  by_cases hk : k = a <;> simp [va_up, hk]
theorem qPutC (e e' : mC) (hk : b ≠ a) : mPut (mPut h a e) b e' = mPut (mPut h b e') a e := by
  unfold mPut
  congr 1
  funext k
  by_cases h1 : k = a
  · subst h1
    simp [va_up]
    intro q
    exact absurd q.symm hk
  · by_cases h2 : k = b
    · subst h2; simp [va_up, h1]
    · simp [va_up, h1, h2]
theorem qPutI (e : mC) (he : h.2 a = e) : mPut h a e = h := by
  unfold mPut
  rw [show h = (h.1, h.2) from rfl]
  congr 1
  funext k
  by_cases h1 : k = a
  · subst h1; simp [va_up, he]
  · simp [va_up, h1]
end QACC
/-- cells apart from S are as they were -/
def qSame (S : Nat → Prop) (h h' : mH) : Prop := h'.1 = h.1 ∧ ∀ k, ¬ S k → h'.2 k = h.2 k
theorem qSame.rf {S : Nat → Prop} {h : mH} : qSame S h h := ⟨rfl, fun _ _ => rfl⟩
theorem qSame.put {S : Nat → Prop} {h h' : mH} (q : qSame S h h') {a : Nat} (ha : S a) (e : mC) : qSame S h (mPut h' a e) :=
  ⟨q.1, fun k hk => by rw [qPutN e (fun z => hk (by rw [z]; exact ha))]; exact q.2 k hk⟩
theorem qSame.trans {S : Nat → Prop} {h h1 h2 : mH} (q : qSame S h h1) (r : qSame S h1 h2) : qSame S h h2 := ⟨r.1.trans q.1, fun k hk => (r.2 k hk).trans (q.2 k hk)⟩
theorem qSame.mono {S S' : Nat → Prop} {h h' : mH} (q : qSame S h h') (hs : ∀ k, S k → S' k) : qSame S' h h' := ⟨q.1, fun k hk => q.2 k fun z => hk (hs k z)⟩
/-! ints of small numbers in comparisons -/
theorem qlt {a b : Nat} (ha : a < 2 ^ 31) (hb : b < 2 ^ 31) : nI a < nI b ↔ a < b := nI_ltI ha hb
theorem qle {a b : Nat} (ha : a < 2 ^ 31) (hb : b < 2 ^ 31) : nI a ≤ nI b ↔ a ≤ b := nI_leI ha hb
theorem qeq {a b : Nat} (ha : a < 2 ^ 31) (hb : b < 2 ^ 31) : nI a = nI b ↔ a = b := nI_eq ha hb
theorem qpos {a : Nat} (ha : a < 2 ^ 31) : ¬ nI a < 0 := nI_pos ha
/-- an argument: below 0, or a number -/
theorem qarg (x : Int32) : x < 0 ∨ ∃ k : Nat, k < 2 ^ 31 ∧ x = nI k := by
  by_cases hx : x < 0
  · exact Or.inl hx
  · obtain ⟨k, h1, h2⟩ := nI_of hx; exact Or.inr ⟨k, h1, h2⟩
