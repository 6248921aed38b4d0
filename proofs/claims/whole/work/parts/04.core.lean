/-! THE ABSTRACT WORLD: cells by number; number 0 is the script, number k + 1 stands at the k-th address behind the base heap. A cell is an array (length, contents) or an object (its number in mCl, its fields). -/
abbrev mC : Type := (Nat × ((Nat → Int32) ⊕ (Nat → Int64) ⊕ (Nat → Option Nat))) ⊕ (Nat × List Value)
abbrev mH : Type := Nat × (Nat → mC)
/-- launch, base heap, numbers of classes and slots, classes of int[], long[], Table[]; the script: address, length, contents -/
abbrev mWp : Type := Launch × Heap × va_G × (ClassId × ClassId × ClassId) × (Nat × Nat × (Nat → Int32))
def mL (w : mWp) : Launch := w.1
def mB (w : mWp) : Heap := w.2.1
def mD (w : mWp) : va_G := w.2.2.1
def mcI (w : mWp) : ClassId := w.2.2.2.1.1
def mcJ (w : mWp) : ClassId := w.2.2.2.1.2.1
def mcT (w : mWp) : ClassId := w.2.2.2.1.2.2
def msb (w : mWp) : Nat := w.2.2.2.2.1
def msL (w : mWp) : Nat := w.2.2.2.2.2.1
def msx (w : mWp) : Nat → Int32 := w.2.2.2.2.2.2
def mAd (w : mWp) (k : Nat) : Nat := match k with
  | 0 => msb w
  | k + 1 => (mB w).size + k
def mV (w : mWp) (v : Value) : Value := match v with
  | .ref k => .ref (mAd w k)
  | .int x => .int x
  | .long x => .long x
  | u => u
theorem mV_rf (w : mWp) (r : Option Nat) : mV w (va_rf r) = va_rf (r.map (mAd w)) := by cases r <;> rfl
theorem mV_cat (w : mWp) (v : Value) : (mV w v).category = v.category := by cases v <;> rfl
abbrev mCl : List vw_C := [(RX0, TX0, 2), (RX1, TX1, 1), (RX3, TX3, 6), (RX4, TX4, 9), (RX5, TX5, 4), (RX6, TX6, 2), (RX7, TX7, 8), (RX8, TX8, 11), (RX9, TX9, 25)]
def mE (w : mWp) (e : mC) : va_E := match e with
  | .inl (n, .inl f) => .inl (mcI w, n, .inl f)
  | .inl (n, .inr (.inl f)) => .inl (mcJ w, n, .inr (.inl f))
  | .inl (n, .inr (.inr f)) => .inl (mcT w, n, .inr (.inr (.inr (.inr (fun j => (f j).map (mAd w))))))
  | .inr (ci, fs) => .inr (ci, fs.map (mV w))
def mRep (w : mWp) (h : mH) (H : Heap) : Prop :=
  H.size = (mB w).size + h.1 ∧ (∀ q : Nat, q < (mB w).size → H[q]? = (mB w)[q]?) ∧ (∀ k : Nat, k < h.1 → va_at (mD w) mCl ((mB w).size + k, mE w (h.2 (k + 1))) H) ∧ h.2 0 = .inl (msL w, .inl (msx w))
/-! words -/
def mIsNest (x : Cond) : Bool := match x with
  | .fieldLinkNest .. => true
  | .methodLinkNest .. => true
  | _ => false
def mNest : List Cond := tables_1.filter mIsNest
def mT : List Cond := lw_tbl.filter goodWord
theorem mT_at (i : Nat) {x : Cond} (h : lw_tbl[i]? = some x) (g : goodWord x = true) : x ∈ mT := List.mem_filter.mpr ⟨List.mem_of_getElem? h, g⟩
theorem mNest_at (i : Nat) {x : Cond} (h : tables_1[i]? = some x) (g : mIsNest x = true) : x ∈ mNest := List.mem_filter.mpr ⟨List.mem_of_getElem? h, g⟩
abbrev mTys (w : mWp) : List (ClassId × FieldType) := [(mcI w, .int), (mcJ w, .long), (mcT w, .object RX7)]
def mKn (w : mWp) (U : State) : Prop :=
  va_K (mD w) mCl (mTys w) U ∧ (∀ x ∈ mNest, va_Nw x U) ∧ va_AO RX7 U ∧ va_X (msb w) (msL w) (msx w) U (mB w) ∧ msb w < (mB w).size
theorem mNest_warm {s U : State} (hW : s.WarmedH U.vm) {x : Cond} (hx : x ∈ mNest) (h : va_Nw x s) : va_Nw x U := by
  have h1 := (List.mem_filter.mp hx).2
  cases x <;> first | exact va_Nw.warmF hW h | exact va_Nw.warmM hW h | (simp [mIsNest] at h1)
theorem mNest_same {s U : State} (hv : s.vm = U.vm) {x : Cond} (hx : x ∈ mNest) (h : va_Nw x s) : va_Nw x U := by
  have h1 := (List.mem_filter.mp hx).2
  cases x <;> first | exact va_Nw.same rfl hv h | (simp [mIsNest] at h1)
theorem mKn_warm {w : mWp} {s U : State} (hW : s.WarmedH U.vm) (h : mKn w s) : mKn w U :=
  ⟨va_K.moved hW.alike h.1, fun x hx => mNest_warm hW hx (h.2.1 x hx), va_AO.moved hW.alike h.2.2.1, h.2.2.2.1.moved hW.alike, h.2.2.2.2⟩
theorem mKn_same {w : mWp} {s U : State} (hv : s.vm = U.vm) (h : mKn w s) : mKn w U := by
  have ha : s.vm.Alike U.vm := by rw [hv]; exact Vm.Alike.refl _
  exact ⟨va_K.moved ha h.1, fun x hx => mNest_same hv hx (h.2.1 x hx), va_AO.moved ha h.2.2.1, h.2.2.2.1.moved ha, h.2.2.2.2⟩
/-! a method as it is walked: code, class, locals, answer's type, name, room -/
abbrev mK : Type := ByteArray × String × Nat × Option FieldType × String × Room
def mRoom (d mc ms : Nat) : Room := { frames := d, cells := mc, slots := ms, locals := 40 * d }
def mCx (w : mWp) (k : mK) (p : Program) (s : State) (m : MethodId) (args : Array Value) (meth : Method) (c : Code) : Prop :=
  p.tables.exec = Jvm.exec ∧ c.code = k.1 ∧ c.maxLocals = k.2.2.1 ∧ s.vm.findClass k.2.1 = some m.cls ∧ (∀ x ∈ mT, x.before args s = true) ∧ meth.sig.returnType = k.2.2.2.1 ∧ meth.name = k.2.2.2.2.1 ∧ mKn w s
def mFr (w : mWp) : Addr → Prop := fun q => (mB w).size ≤ q
def mRok (k : mK) (pc : Nat) (r : Option Value) : Prop :=
  (k.2.2.2.1 = none ∧ r = none ∧ decode k.1 pc = .ok (.return_, 1)) ∨ (∃ v : Int32, k.2.2.2.1 = some .int ∧ r = some (.int v) ∧ decode k.1 pc = .ok (.ireturn, 1)) ∨
  (∃ v : Int32, k.2.2.2.1 = some .boolean ∧ (v = 0 ∨ v = 1) ∧ r = some (.int v) ∧ decode k.1 pc = .ok (.ireturn, 1)) ∨ (∃ v : Int64, k.2.2.2.1 = some .long ∧ r = some (.long v) ∧ decode k.1 pc = .ok (.lreturn, 1)) ∨
  (∃ (C : String) (v : Option Nat), k.2.2.2.1 = some (.object C) ∧ r = some (va_rf v) ∧ decode k.1 pc = .ok (.areturn, 1))
def mRt (w : mWp) (k : mK) (p : Program) (e : Env) (s : State) (m : MethodId) (args : Array Value) (below : List Frame) (meth : Method) (c : Code) (Q : Option Value → mH → Prop) (Z : State → Prop) : Prop :=
  ∀ (r : Option Value) (h : mH) (H : Heap) (locs : List Loc) (cu su pc : Nat) (ls : Array Slot), Q r h → mRok k pc r → mRep w h H → (∀ q ∈ locs, mFr w q.base) → cu ≤ k.2.2.2.2.2.cells → su ≤ k.2.2.2.2.2.slots →
    W p (mL w) e k.2.2.2.2.2 s m args below meth c H locs cu su Z (F0 m pc ls (r.toList.map (mV w)))
/-- the locals that are known, by their places -/
def mKl (w : mWp) : Nat → List (Option Value) → List (Nat × Value)
  | _, [] => []
  | i, none :: r => mKl w (i + 1) r
  | i, some v :: r => (i, mV w v) :: mKl w (i + 1) r
theorem mKl_mem (w : mWp) : ∀ (ls : List (Option Value)) (i : Nat) (q : Nat × Value), q ∈ mKl w i ls ↔ ∃ (j : Nat) (v : Value), ls[j]? = some (some v) ∧ q = (i + j, mV w v) := by
  intro ls
  induction ls with
  | nil => intro i q; simp [mKl]
  | cons a r ih =>
    intro i q
    have step : (∃ (j : Nat) (v : Value), r[j]? = some (some v) ∧ q = (i + 1 + j, mV w v)) ↔ ∃ (j : Nat) (v : Value), (a :: r)[j + 1]? = some (some v) ∧ q = (i + (j + 1), mV w v) := by
      constructor
      · rintro ⟨j, v, h1, h2⟩; exact ⟨j, v, by simpa using h1, by rw [h2]; congr 1; omega⟩
      · rintro ⟨j, v, h1, h2⟩; exact ⟨j, v, by simpa using h1, by rw [h2]; congr 1; omega⟩
    cases a with
    | none =>
      rw [show mKl w i (none :: r) = mKl w (i + 1) r from rfl, ih (i + 1) q, step]
      constructor
      · rintro ⟨j, v, h1, h2⟩; exact ⟨j + 1, v, h1, h2⟩
      · rintro ⟨j, v, h1, h2⟩
        cases j with
        | zero => simp at h1
        | succ j => exact ⟨j, v, h1, h2⟩
    | some u =>
      rw [show mKl w i (some u :: r) = (i, mV w u) :: mKl w (i + 1) r from rfl, List.mem_cons, ih (i + 1) q, step]
      constructor
      · rintro (h | ⟨j, v, h1, h2⟩)
        · exact ⟨0, u, rfl, h⟩
        · exact ⟨j + 1, v, h1, h2⟩
      · rintro ⟨j, v, h1, h2⟩
        cases j with
        | zero => left; simp at h1; subst h1; exact h2
        | succ j => right; exact ⟨j, v, h1, h2⟩
theorem mKl_at {w : mWp} {ls : List (Option Value)} {lc : Array Slot} {n i : Nat} {v : Value} (L : lv_has lc n (mKl w 0 ls)) (h : ls[i]? = some (some v)) : lc[i]? = some (.val (mV w v)) :=
  L.2.2 (i, mV w v) ((mKl_mem w ls 0 _).mpr ⟨i, v, h, by simp⟩)
/-- W from a frame on: any caller, any heap that holds the world -/
def mGo (w : mWp) (k : mK) (cu su pc : Nat) (ls : List (Option Value)) (st : List Value) (h : mH) (Q : Option Value → mH → Prop) : Prop :=
  ∀ (p : Program) (e : Env) (s : State) (m : MethodId) (args : Array Value) (below : List Frame) (meth : Method) (c : Code) (Z : State → Prop) (H : Heap) (lc : Array Slot) (locs : List Loc),
    mCx w k p s m args meth c → mRt w k p e s m args below meth c Q Z → mRep w h H → (∀ q ∈ locs, mFr w q.base) → lv_has lc k.2.2.1 (mKl w 0 ls) →
    W p (mL w) e k.2.2.2.2.2 s m args below meth c H locs cu su Z (F0 m pc lc (st.map (mV w)))
/-! locals: fewer, stored -/
def mWk : List (Option Value) → List (Option Value) → Prop
  | [], _ => True
  | none :: a, _ :: b => mWk a b
  | none :: a, [] => mWk a []
  | some x :: a, some y :: b => x = y ∧ mWk a b
  | some _ :: _, _ => False
theorem mWk_at : ∀ (a b : List (Option Value)), mWk a b → ∀ (i : Nat) (v : Value), a[i]? = some (some v) → b[i]? = some (some v) := by
  intro a
  induction a with
  | nil => intro b _ i v h; simp at h
  | cons x a ih =>
    intro b hb i v h
    cases x with
    | none =>
      cases b with
      | nil =>
        cases i with
        | zero => simp at h
        | succ i => have := ih [] hb i v (by simpa using h); simp at this
      | cons y b =>
        cases i with
        | zero => simp at h
        | succ i => simpa using ih b hb i v (by simpa using h)
    | some x =>
      cases b with
      | nil => exact absurd hb (by simp [mWk])
      | cons y b =>
        cases y with
        | none => exact absurd hb (by simp [mWk])
        | some y =>
          obtain ⟨h1, h2⟩ := hb
          subst h1
          cases i with
          | zero => simpa using h
          | succ i => simpa using ih b h2 i v (by simpa using h)
theorem mGo.wk {w : mWp} {k : mK} {cu su pc : Nat} {ls ls' : List (Option Value)} {st : List Value} {h : mH} {Q : Option Value → mH → Prop} (hl : mWk ls' ls) (kk : mGo w k cu su pc ls' st h Q) : mGo w k cu su pc ls st h Q := by
  intro p e s m args below meth c Z H lc locs C R P F L
  refine kk p e s m args below meth c Z H lc locs C R P F ⟨L.1, L.2.1, fun q hq => ?_⟩
  obtain ⟨j, v, h1, h2⟩ := (mKl_mem w ls' 0 q).mp hq
  exact L.2.2 q ((mKl_mem w ls 0 q).mpr ⟨j, v, mWk_at _ _ hl j v h1, h2⟩)
def mDrop (u : Option Value) : Option Value := match u with
  | some (.long _) => none
  | some (.double _) => none
  | v => v
def mSt : List (Option Value) → Nat → Value → List (Option Value)
  | [], _, _ => []
  | _ :: r, 0, v => some v :: r
  | u :: r, 1, v => mDrop u :: mSt r 0 v
  | u :: r, i + 2, v => u :: mSt r (i + 1) v
def mStL : List (Option Value) → Nat → Value → List (Option Value)
  | [], _, _ => []
  | [_], _, _ => []
  | _ :: _ :: r, 0, v => some v :: none :: r
  | u :: r, 1, v => mDrop u :: mStL r 0 v
  | u :: r, i + 2, v => u :: mStL r (i + 1) v
theorem mDrop_some {u : Option Value} {v : Value} (h : mDrop u = some v) : u = some v ∧ v.category ≠ 2 := by
  cases u with
  | none => simp [mDrop] at h
  | some x => cases x <;> simp [mDrop] at h <;> subst h <;> simp [Value.category]
theorem mSt_at : ∀ (ls : List (Option Value)) (i : Nat) (v : Value) (j : Nat) (u : Value), (mSt ls i v)[j]? = some (some u) → (j = i ∧ u = v) ∨ (j ≠ i ∧ ls[j]? = some (some u) ∧ ¬ (j + 1 = i ∧ u.category = 2)) := by
  intro ls
  induction ls with
  | nil => intro i v j u h; simp [mSt] at h
  | cons a r ih =>
    intro i v j u h
    match i with
    | 0 =>
      cases j with
      | zero => left; simp [mSt] at h; exact ⟨rfl, h.symm⟩
      | succ j => right; refine ⟨by omega, by simpa [mSt] using h, by omega⟩
    | 1 =>
      cases j with
      | zero =>
        right
        have h1 : mDrop a = some u := by simpa [mSt] using h
        obtain ⟨h2, h3⟩ := mDrop_some h1
        exact ⟨by omega, by rw [h2]; rfl, fun q => h3 q.2⟩
      | succ j =>
        rcases ih 0 v j u (by simpa [mSt] using h) with ⟨a1, a2⟩ | ⟨a1, a2, a3⟩
        · left; exact ⟨by omega, a2⟩
        · right; exact ⟨by omega, by simpa using a2, by omega⟩
    | i + 2 =>
      cases j with
      | zero => right; exact ⟨by omega, by simpa [mSt] using h, by omega⟩
      | succ j =>
        rcases ih (i + 1) v j u (by simpa [mSt] using h) with ⟨a1, a2⟩ | ⟨a1, a2, a3⟩
        · left; exact ⟨by omega, a2⟩
        · right; exact ⟨by omega, by simpa using a2, fun q => a3 ⟨by omega, q.2⟩⟩
theorem mStL_at : ∀ (ls : List (Option Value)) (i : Nat) (v : Value) (j : Nat) (u : Value), (mStL ls i v)[j]? = some (some u) → (j = i ∧ u = v) ∨ (j ≠ i ∧ j ≠ i + 1 ∧ ls[j]? = some (some u) ∧ ¬ (j + 1 = i ∧ u.category = 2)) := by
  intro ls
  induction ls with
  | nil => intro i v j u h; simp [mStL] at h
  | cons a r ih =>
    intro i v j u h
    cases r with
    | nil => simp [mStL] at h
    | cons b r =>
      match i with
      | 0 =>
        match j with
        | 0 => left; simp [mStL] at h; exact ⟨rfl, h.symm⟩
        | 1 => simp [mStL] at h
        | j + 2 => right; refine ⟨by omega, by omega, by simpa [mStL] using h, by omega⟩
      | 1 =>
        cases j with
        | zero =>
          right
          have h1 : mDrop a = some u := by simpa [mStL] using h
          obtain ⟨h2, h3⟩ := mDrop_some h1
          exact ⟨by omega, by omega, by rw [h2]; rfl, fun q => h3 q.2⟩
        | succ j =>
          rcases ih 0 v j u (by simpa [mStL] using h) with ⟨a1, a2⟩ | ⟨a1, a2, a3, a4⟩
          · left; exact ⟨by omega, a2⟩
          · right; exact ⟨by omega, by omega, by simpa using a3, by omega⟩
      | i + 2 =>
        cases j with
        | zero => right; exact ⟨by omega, by omega, by simpa [mStL] using h, by omega⟩
        | succ j =>
          rcases ih (i + 1) v j u (by simpa [mStL] using h) with ⟨a1, a2⟩ | ⟨a1, a2, a3, a4⟩
          · left; exact ⟨by omega, a2⟩
          · right; exact ⟨by omega, by omega, by simpa using a3, fun q => a4 ⟨by omega, q.2⟩⟩
theorem mSt_has {w : mWp} {ls : List (Option Value)} {lc : Array Slot} {n i : Nat} {v : Value} (L : lv_has lc n ((i, mV w v) :: (mKl w 0 ls).filter (fun q => !(q.1 == i) && !(q.1 + 1 == i && q.2.category == 2)))) : lv_has lc n (mKl w 0 (mSt ls i v)) := by
  refine ⟨L.1, L.2.1, fun q hq => ?_⟩
  obtain ⟨j, u, h1, h2⟩ := (mKl_mem w _ 0 q).mp hq
  apply L.2.2 q
  subst h2
  rcases mSt_at ls i v j u h1 with ⟨a1, a2⟩ | ⟨a1, a2, a3⟩
  · subst a1; subst a2; simp
  · refine List.mem_cons_of_mem _ (List.mem_filter.mpr ⟨(mKl_mem w ls 0 _).mpr ⟨j, u, a2, rfl⟩, ?_⟩)
    simp only [Nat.zero_add, mV_cat]
    simp [a1]
    by_cases h3 : j + 1 = i
    · exact Or.inr fun h4 => a3 ⟨h3, h4⟩
    · exact Or.inl h3
theorem mStL_has {w : mWp} {ls : List (Option Value)} {lc : Array Slot} {n i : Nat} {v : Value} (L : lv_has lc n ((i, mV w v) :: (mKl w 0 ls).filter (fun q => !(q.1 == i) && (!(q.1 == i + 1) && !(q.1 + 1 == i && q.2.category == 2))))) : lv_has lc n (mKl w 0 (mStL ls i v)) := by
  refine ⟨L.1, L.2.1, fun q hq => ?_⟩
  obtain ⟨j, u, h1, h2⟩ := (mKl_mem w _ 0 q).mp hq
  apply L.2.2 q
  subst h2
  rcases mStL_at ls i v j u h1 with ⟨a1, a2⟩ | ⟨a1, a2, a3, a4⟩
  · subst a1; subst a2; simp
  · refine List.mem_cons_of_mem _ (List.mem_filter.mpr ⟨(mKl_mem w ls 0 _).mpr ⟨j, u, a3, rfl⟩, ?_⟩)
    simp only [Nat.zero_add, mV_cat]
    simp [a1, a2]
    by_cases h3 : j + 1 = i
    · exact Or.inr fun h4 => a4 ⟨h3, h4⟩
    · exact Or.inl h3
