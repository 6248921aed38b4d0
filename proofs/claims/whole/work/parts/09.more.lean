def mMask : List Bool → List (Option Value) → List (Option Value)
  | true :: b, x :: r => x :: mMask b r
  | false :: b, _ :: r => none :: mMask b r
  | _, _ => []
theorem mMask_wk : ∀ (b : List Bool) (l : List (Option Value)), mWk (mMask b l) l := by
  intro b
  induction b with
  | nil => intro l; cases l <;> trivial
  | cons x b ih =>
    intro l
    cases l with
    | nil => cases x <;> trivial
    | cons y l =>
      cases x with
      | false => exact ih l
      | true =>
        cases y with
        | none => exact ih l
        | some v => exact And.intro rfl (ih l)
theorem mIft {α : Type} {c : Prop} {d : Decidable c} {a b r : α} (hc : c) (e : (if c then a else b) = r) : a = r := (if_pos hc).symm.trans e
theorem mIff {α : Type} {c : Prop} {d : Decidable c} {a b r : α} (hc : ¬ c) (e : (if c then a else b) = r) : b = r := (if_neg hc).symm.trans e
theorem mRfc (r : Option Nat) : (va_rf r).category = 1 := by cases r <;> rfl
section MMORE
variable {w : mWp} {k : mK} {cu su pc n : Nat} {ls : List (Option Value)} {st : List Value} {h h1 : mH} {Q : Option Value → mH → Prop}
theorem mGo.mk (b : List Bool) (kk : mGo w k cu su pc (mMask b ls) st h Q) : mGo w k cu su pc ls st h Q := mGo.wk (mMask_wk b ls) kk
theorem mGo.newO' {a ci : Nat} {fs : List Value} (hd : decode k.1 pc = .ok (.new a, 3)) (hci : ci < 9) (h1 : Cond.classLink k.2.1 a (mCR ci) ∈ mT) (h2 : Cond.instantiable (mCR ci) (mCN ci) ∈ mT) (h3 : Cond.initialized (mCR ci) ∈ mT) (hfs : ∀ j, j < mCN ci → defaultValue (mCty ci j) = vp_V fs j) (hc : cu + 1 ≤ k.2.2.2.2.2.cells) (hs : su + mCN ci ≤ k.2.2.2.2.2.slots) (hn : pc + 3 = n) {hx : mH} (hg : some (mNew h (.inr (ci, fs))) = some hx)
    (kk : mGo w k (cu + 1) (su + mCN ci) n ls (va_rf (some (h.1 + 1)) :: st) hx Q) : mGo w k cu su pc ls st h Q := by
  cases hg
  refine mGo.newO hd hci h1 h2 h3 (fun j hj => ?_) hc hs hn kk
  rw [hfs j hj]
  have hd0 := hfs j hj
  unfold vp_V
  simp only [List.getD_eq_getElem?_getD, List.getElem?_map]
  cases hq : fs[j]? with
  | none => rfl
  | some v =>
    have hv : defaultValue (mCty ci j) = v := by rw [hd0]; simp [vp_V, hq]
    show v = mV w v
    rw [← hv]
    cases mCty ci j <;> rfl
theorem mGo.newI' {x : Int32} {N : Nat} (hd : decode k.1 pc = .ok (.newarray .int, 2)) (hx : ¬ x < 0) (hN : x.toNatClampNeg = N) (hb : N * 4 ≤ 536870912) (hT : Cond.arrayClass .int ∈ mT) (hc : cu + 1 ≤ k.2.2.2.2.2.cells) (hs : su + N ≤ k.2.2.2.2.2.slots) (hn : pc + 2 = n) (hg : some (mNew h (.inl (N, .inl (fun _ => 0)))) = some h1)
    (kk : mGo w k (cu + 1) (su + N) n ls (va_rf (some (h.1 + 1)) :: st) h1 Q) : mGo w k cu su pc ls (.int x :: st) h Q := by
  cases hg
  exact mGo.newI hd hx hN hb hT hc hs hn kk
theorem mGo.newL' {x : Int32} {N : Nat} (hd : decode k.1 pc = .ok (.newarray .long, 2)) (hx : ¬ x < 0) (hN : x.toNatClampNeg = N) (hb : N * 8 ≤ 536870912) (hT : Cond.arrayClass .long ∈ mT) (hc : cu + 1 ≤ k.2.2.2.2.2.cells) (hs : su + N ≤ k.2.2.2.2.2.slots) (hn : pc + 2 = n) (hg : some (mNew h (.inl (N, .inr (.inl (fun _ => 0))))) = some h1)
    (kk : mGo w k (cu + 1) (su + N) n ls (va_rf (some (h.1 + 1)) :: st) h1 Q) : mGo w k cu su pc ls (.int x :: st) h Q := by
  cases hg
  exact mGo.newL hd hx hN hb hT hc hs hn kk
theorem mGo.newR' {a : Nat} {x : Int32} {N : Nat} (hd : decode k.1 pc = .ok (.anewarray a, 3)) (hq : Cond.classLink k.2.1 a RX7 ∈ mT) (hx : ¬ x < 0) (hN : x.toNatClampNeg = N) (hb : N * 4 ≤ 536870912) (hc : cu + 1 ≤ k.2.2.2.2.2.cells) (hs : su + N ≤ k.2.2.2.2.2.slots) (hn : pc + 3 = n) (hg : some (mNew h (.inl (N, .inr (.inr (fun _ => none))))) = some h1)
    (kk : mGo w k (cu + 1) (su + N) n ls (va_rf (some (h.1 + 1)) :: st) h1 Q) : mGo w k cu su pc ls (.int x :: st) h Q := by
  cases hg
  exact mGo.newR hd hq hx hN hb hc hs hn kk
end MMORE
theorem mSt_set : ∀ {ls : List (Option Value)} {i : Nat} {v : Value}, (∀ u, 0 < i → ls[i - 1]? = some (some u) → u.category = 1) → mSt ls i v = ls.set i (some v) := by
  intro ls
  induction ls with
  | nil => intro i v _; rfl
  | cons a r ih =>
    intro i v hp
    match i with
    | 0 => rfl
    | 1 =>
      have h1 : mDrop a = a := by
        cases a with
        | none => rfl
        | some u =>
          have h2 := hp u (by omega) rfl
          cases u <;> first | rfl | (simp [Value.category] at h2)
      show mDrop a :: mSt r 0 v = a :: r.set 0 (some v)
      rw [h1]
      cases r <;> rfl
    | i + 2 =>
      show a :: mSt r (i + 1) v = a :: r.set (i + 1) (some v)
      rw [ih fun u _ hu => hp u (by omega) (by simpa using hu)]
theorem mStL_set : ∀ {ls : List (Option Value)} {i : Nat} {v : Value}, (∀ u, 0 < i → ls[i - 1]? = some (some u) → u.category = 1) → i + 1 < ls.length → mStL ls i v = (ls.set i (some v)).set (i + 1) none := by
  intro ls
  induction ls with
  | nil => intro i v _ hl; simp at hl
  | cons a r ih =>
    intro i v hp hl
    cases r with
    | nil => simp at hl
    | cons b r =>
      match i with
      | 0 => rfl
      | 1 =>
        have h1 : mDrop a = a := by
          cases a with
          | none => rfl
          | some u =>
            have h2 := hp u (by omega) rfl
            cases u <;> first | rfl | (simp [Value.category] at h2)
        show mDrop a :: mStL (b :: r) 0 v = a :: ((b :: r).set 0 (some v)).set 1 none
        rw [h1]
        cases r with
        | nil => simp at hl
        | cons c r => rfl
      | i + 2 =>
        show a :: mStL (b :: r) (i + 1) v = a :: ((b :: r).set (i + 1) (some v)).set (i + 2) none
        rw [ih (fun u _ hu => hp u (by omega) (by simpa using hu)) (by simp at hl ⊢; omega)]
theorem mCat2 : ∀ (l : List Value), (l.map Value.category).sum ≤ 2 * l.length := by
  intro l
  induction l with
  | nil => simp
  | cons a r ih =>
    have h1 : a.category ≤ 2 := by cases a <;> simp [Value.category]
    simp only [List.map_cons, List.sum_cons, List.length_cons]
    omega
theorem mCat8 {l : List Value} {n : Nat} (h : 2 * l.length ≤ n) : (l.map Value.category).sum ≤ n := Nat.le_trans (mCat2 l) h
theorem mCi (x : Int32) : (Value.int x).category = 1 := rfl
theorem mCj (x : Int64) : (Value.long x).category = 2 := rfl
theorem mEnt_r (r : Option Nat) (as : List Value) (n : Nat) : mEnt (va_rf r :: as) (n + 1) = some (va_rf r) :: mEnt as n := by
  show (if (va_rf r).category = 2 then _ else _) = _
  rw [if_neg (by rw [mRfc]; decide)]
  rfl
theorem mEnt_i (x : Int32) (as : List Value) (n : Nat) : mEnt (.int x :: as) (n + 1) = some (.int x) :: mEnt as n := rfl
theorem mEnt_l (x : Int64) (as : List Value) (n : Nat) : mEnt (.long x :: as) (n + 2) = some (.long x) :: none :: mEnt as n := rfl
