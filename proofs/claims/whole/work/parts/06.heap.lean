/-! CELLS READ AND WRITTEN -/
def mCell (h : mH) (a : Nat) : Option mC := if a ≤ h.1 then some (h.2 a) else none
def mObj (h : mH) (r : Option Nat) (ci : Nat) : Option (List Value) := r.bind fun a => (mCell h a).bind fun e => match e with
  | .inr (c, fs) => if c = ci then some fs else none
  | .inl _ => none
def mIs (h : mH) (r : Option Nat) (ci : Nat) : Option Unit := (mObj h r ci).map fun _ => ()
def mGI (h : mH) (r : Option Nat) (ci j : Nat) : Option Int32 := (mObj h r ci).bind fun fs => match fs[j]? with
  | some (.int x) => some x
  | _ => none
def mGR (h : mH) (r : Option Nat) (ci j : Nat) : Option (Option Nat) := (mObj h r ci).bind fun fs => match fs[j]? with
  | some (.ref x) => some (some x)
  | some .null => some none
  | _ => none
def mArI (h : mH) (r : Option Nat) : Option (Nat × (Nat → Int32)) := r.bind fun a => (mCell h a).bind fun e => match e with
  | .inl (n, .inl f) => some (n, f)
  | _ => none
def mArL (h : mH) (r : Option Nat) : Option (Nat × (Nat → Int64)) := r.bind fun a => (mCell h a).bind fun e => match e with
  | .inl (n, .inr (.inl f)) => some (n, f)
  | _ => none
def mArR (h : mH) (r : Option Nat) : Option (Nat × (Nat → Option Nat)) := r.bind fun a => (mCell h a).bind fun e => match e with
  | .inl (n, .inr (.inr f)) => some (n, f)
  | _ => none
def mOut (i : Int32) (n : Nat) : Prop := i < 0 ∨ n ≤ i.toNatClampNeg
def mAI (h : mH) (r : Option Nat) (i : Int32) : Option Int32 := (mArI h r).bind fun q => if i < 0 ∨ q.1 ≤ i.toNatClampNeg then none else some (q.2 i.toNatClampNeg)
def mAL (h : mH) (r : Option Nat) (i : Int32) : Option Int64 := (mArL h r).bind fun q => if i < 0 ∨ q.1 ≤ i.toNatClampNeg then none else some (q.2 i.toNatClampNeg)
def mAR (h : mH) (r : Option Nat) (i : Int32) : Option (Option Nat) := (mArR h r).bind fun q => if i < 0 ∨ q.1 ≤ i.toNatClampNeg then none else some (q.2 i.toNatClampNeg)
def mLn (h : mH) (r : Option Nat) : Option Int32 := r.bind fun a => (mCell h a).bind fun e => match e with
  | .inl (n, .inl _) => some (Int32.ofNat n)
  | .inl (n, .inr (.inl _)) => some (Int32.ofNat n)
  | .inl (n, .inr (.inr _)) => some (Int32.ofNat n)
  | .inr _ => none
def mPut (h : mH) (a : Nat) (e : mC) : mH := (h.1, va_up h.2 a e)
def mPF (h : mH) (r : Option Nat) (ci j : Nat) (v : Value) : Option mH := (mObj h r ci).bind fun fs => if j < fs.length then some (mPut h (r.getD 0) (.inr (ci, fs.set j v))) else none
def mSI (h : mH) (r : Option Nat) (i x : Int32) : Option mH := (mArI h r).bind fun q => if r = some 0 ∨ i < 0 ∨ q.1 ≤ i.toNatClampNeg then none else some (mPut h (r.getD 0) (.inl (q.1, .inl (upd q.2 i.toNatClampNeg x))))
def mSL (h : mH) (r : Option Nat) (i : Int32) (x : Int64) : Option mH := (mArL h r).bind fun q => if r = some 0 ∨ i < 0 ∨ q.1 ≤ i.toNatClampNeg then none else some (mPut h (r.getD 0) (.inl (q.1, .inr (.inl (vp_updL q.2 i.toNatClampNeg x)))))
def mSR (h : mH) (r : Option Nat) (i : Int32) (x : Option Nat) : Option mH := (mArR h r).bind fun q => (mIs h x 6).bind fun _ => if r = some 0 ∨ i < 0 ∨ q.1 ≤ i.toNatClampNeg then none else some (mPut h (r.getD 0) (.inl (q.1, .inr (.inr (va_up q.2 i.toNatClampNeg x)))))
def mNew (h : mH) (e : mC) : mH := (h.1 + 1, va_up h.2 (h.1 + 1) e)
theorem mBind {α β : Type} {o : Option α} {f : α → Option β} {r : β} (h : o.bind f = some r) : ∃ x, o = some x ∧ f x = some r := by
  cases o with
  | none => cases h
  | some x => exact ⟨x, rfl, h⟩
theorem mMap {α β : Type} {o : Option α} {f : α → β} {r : β} (h : o.map f = some r) : ∃ x, o = some x ∧ f x = r := by
  cases o with
  | none => cases h
  | some x => exact ⟨x, rfl, Option.some.inj h⟩
theorem mIfN {α : Type} {c : Prop} {d : Decidable c} {x : Option α} {r : α} (h : (if c then none else x) = some r) : ¬ c ∧ x = some r := by
  by_cases hc : c
  · rw [if_pos hc] at h; cases h
  · rw [if_neg hc] at h; exact ⟨hc, h⟩
theorem mIfP {α : Type} {c : Prop} {d : Decidable c} {x : Option α} {r : α} (h : (if c then x else none) = some r) : c ∧ x = some r := by
  by_cases hc : c
  · rw [if_pos hc] at h; exact ⟨hc, h⟩
  · rw [if_neg hc] at h; cases h
theorem mCell_ok {h : mH} {a : Nat} {e : mC} (q : mCell h a = some e) : a ≤ h.1 ∧ h.2 a = e := by
  unfold mCell at q
  obtain ⟨h1, h2⟩ := mIfP q
  exact ⟨h1, Option.some.inj h2⟩
theorem mObj_ok {h : mH} {r : Option Nat} {ci : Nat} {fs : List Value} (q : mObj h r ci = some fs) : ∃ a, r = some a ∧ a ≤ h.1 ∧ h.2 a = .inr (ci, fs) := by
  obtain ⟨a, h1, q⟩ := mBind q
  obtain ⟨e, h2, q⟩ := mBind q
  obtain ⟨h3, h4⟩ := mCell_ok h2
  refine ⟨a, h1, h3, ?_⟩
  rw [h4]
  match e, q with
  | .inr (c, gs), q =>
    obtain ⟨hc, q2⟩ := mIfP (show (if c = ci then some gs else none) = some fs from q)
    subst hc
    rw [Option.some.inj q2]
theorem mIs_ok {h : mH} {r : Option Nat} {ci : Nat} {u : Unit} (q : mIs h r ci = some u) : ∃ a fs, r = some a ∧ a ≤ h.1 ∧ h.2 a = .inr (ci, fs) := by
  obtain ⟨fs, h1, -⟩ := mMap q
  obtain ⟨a, h2, h3, h4⟩ := mObj_ok h1
  exact ⟨a, fs, h2, h3, h4⟩
theorem mGI_ok {h : mH} {r : Option Nat} {ci j : Nat} {x : Int32} (q : mGI h r ci j = some x) : ∃ a fs, r = some a ∧ a ≤ h.1 ∧ h.2 a = .inr (ci, fs) ∧ fs[j]? = some (.int x) := by
  obtain ⟨fs, h1, q⟩ := mBind q
  obtain ⟨a, h2, h3, h4⟩ := mObj_ok h1
  refine ⟨a, fs, h2, h3, h4, ?_⟩
  split at q
  · rename_i y hy; rw [hy, Option.some.inj q]
  · cases q
theorem mGR_ok {h : mH} {r : Option Nat} {ci j : Nat} {x : Option Nat} (q : mGR h r ci j = some x) : ∃ a fs, r = some a ∧ a ≤ h.1 ∧ h.2 a = .inr (ci, fs) ∧ fs[j]? = some (va_rf x) := by
  obtain ⟨fs, h1, q⟩ := mBind q
  obtain ⟨a, h2, h3, h4⟩ := mObj_ok h1
  refine ⟨a, fs, h2, h3, h4, ?_⟩
  split at q
  · rename_i y hy; rw [hy, ← Option.some.inj q]; rfl
  · rename_i hy; rw [hy, ← Option.some.inj q]; rfl
  · cases q
theorem mArI_ok {h : mH} {r : Option Nat} {x : Nat × (Nat → Int32)} (q : mArI h r = some x) : ∃ a, r = some a ∧ a ≤ h.1 ∧ h.2 a = .inl (x.1, .inl x.2) := by
  obtain ⟨a, h1, q⟩ := mBind q
  obtain ⟨e, h2, q⟩ := mBind q
  obtain ⟨h3, h4⟩ := mCell_ok h2
  refine ⟨a, h1, h3, ?_⟩
  rw [h4]
  split at q
  · cases q; rfl
  · cases q
theorem mArL_ok {h : mH} {r : Option Nat} {x : Nat × (Nat → Int64)} (q : mArL h r = some x) : ∃ a, r = some a ∧ a ≤ h.1 ∧ h.2 a = .inl (x.1, .inr (.inl x.2)) := by
  obtain ⟨a, h1, q⟩ := mBind q
  obtain ⟨e, h2, q⟩ := mBind q
  obtain ⟨h3, h4⟩ := mCell_ok h2
  refine ⟨a, h1, h3, ?_⟩
  rw [h4]
  split at q
  · cases q; rfl
  · cases q
theorem mArR_ok {h : mH} {r : Option Nat} {x : Nat × (Nat → Option Nat)} (q : mArR h r = some x) : ∃ a, r = some a ∧ a ≤ h.1 ∧ h.2 a = .inl (x.1, .inr (.inr x.2)) := by
  obtain ⟨a, h1, q⟩ := mBind q
  obtain ⟨e, h2, q⟩ := mBind q
  obtain ⟨h3, h4⟩ := mCell_ok h2
  refine ⟨a, h1, h3, ?_⟩
  rw [h4]
  split at q
  · cases q; rfl
  · cases q
/-- a cell of the world, as the kit's rows take it -/
theorem mRep_at {w : mWp} {h : mH} {H : Heap} (P : mRep w h H) {a : Nat} (h0 : a ≠ 0) (ha : a ≤ h.1) : va_P (mD w) mCl [(mAd w a, mE w (h.2 a))] H := by
  intro k q hk
  cases k with
  | zero =>
    simp at hk
    subst hk
    cases a with
    | zero => exact absurd rfl h0
    | succ a => exact P.2.2.1 a (by omega)
  | succ k => simp at hk
theorem mRep_put {w : mWp} {h : mH} {H H1 : Heap} (P : mRep w h H) {a : Nat} (h0 : a ≠ 0) (ha : a ≤ h.1) {e : mC} (hz : H1.size = H.size) (ho : ∀ q, q ≠ mAd w a → H1[q]? = H[q]?) (he : va_at (mD w) mCl (mAd w a, mE w e) H1) : mRep w (mPut h a e) H1 := by
  obtain ⟨p1, p2, p3, p4⟩ := P
  cases a with
  | zero => exact absurd rfl h0
  | succ a =>
    refine ⟨by rw [hz]; exact p1, fun q hq => ?_, fun k hk => ?_, ?_⟩
    · rw [ho q (by show q ≠ (mB w).size + a; omega)]; exact p2 q hq
    · by_cases hka : k = a
      · subst hka
        have : (mPut h (k + 1) e).2 (k + 1) = e := by simp [mPut, va_up]
        rw [this]; exact he
      · have : (mPut h (a + 1) e).2 (k + 1) = h.2 (k + 1) := by simp [mPut, va_up, hka]
        rw [this]
        exact (p3 k hk).kept (ho _ (by show (mB w).size + k ≠ (mB w).size + a; omega))
    · show va_up h.2 (a + 1) e 0 = _
      simp [va_up]; exact p4
theorem mRep_new {w : mWp} {h : mH} {H H1 : Heap} (P : mRep w h H) {e : mC} (hz : H1.size = H.size + 1) (ho : ∀ q, q < H.size → H1[q]? = H[q]?) (he : va_at (mD w) mCl (H.size, mE w e) H1) : mRep w (mNew h e) H1 ∧ mAd w (h.1 + 1) = H.size := by
  obtain ⟨p1, p2, p3, p4⟩ := P
  refine ⟨⟨?_, fun q hq => ?_, fun k hk => ?_, ?_⟩, p1.symm⟩
  · rw [hz, p1]; show _ = (mB w).size + (h.1 + 1); omega
  · rw [ho q (by omega)]; exact p2 q hq
  · by_cases hka : k = h.1
    · subst hka
      have : (mNew h e).2 (h.1 + 1) = e := by simp [mNew, va_up]
      rw [this, ← p1]; exact he
    · have hk' : k < h.1 + 1 := hk
      have : (mNew h e).2 (k + 1) = h.2 (k + 1) := by simp [mNew, va_up, hka]
      rw [this]
      exact (p3 k (by omega)).kept (ho _ (by show (mB w).size + k < H.size; omega))
  · show va_up h.2 (h.1 + 1) e 0 = _
    simp [va_up]; exact p4
