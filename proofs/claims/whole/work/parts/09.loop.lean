/-! LOOPS as functions: a body answers with a new state (inl) or ends (inr); no fuel is seen outside -/
def mLoopN {S R : Type} (b : S → Option (S ⊕ R)) : Nat → S → Option R
  | 0, _ => none
  | n + 1, x => match b x with
    | none => none
    | some (.inl y) => mLoopN b n y
    | some (.inr r) => some r
theorem mLoopN_up {S R : Type} (b : S → Option (S ⊕ R)) : ∀ (n m : Nat) (x : S) (r : R), mLoopN b n x = some r → n ≤ m → mLoopN b m x = some r := by
  intro n
  induction n with
  | zero => intro m x r h; cases h
  | succ n ih =>
    intro m x r h hm
    cases m with
    | zero => omega
    | succ m =>
      unfold mLoopN at h ⊢
      cases hb : b x with
      | none => rw [hb] at h; cases h
      | some q =>
        rw [hb] at h
        cases q with
        | inl y => exact ih m y r h (by omega)
        | inr r' => exact h
noncomputable def mLoop {S R : Type} (b : S → Option (S ⊕ R)) (x : S) : Option R :=
  @dite _ (∃ n r, mLoopN b n x = some r) (Classical.propDecidable _) (fun h => some (Classical.choose (Classical.choose_spec h))) (fun _ => none)
theorem mLoop_some {S R : Type} {b : S → Option (S ⊕ R)} {x : S} {r : R} : mLoop b x = some r ↔ ∃ n, mLoopN b n x = some r := by
  unfold mLoop
  by_cases h : ∃ n r, mLoopN b n x = some r
  · rw [dif_pos h]
    have h1 := Classical.choose_spec (Classical.choose_spec h)
    constructor
    · intro h2
      refine ⟨Classical.choose h, ?_⟩
      rw [← Option.some.inj h2]
      exact h1
    · rintro ⟨m, h2⟩
      have a1 := mLoopN_up b _ (max (Classical.choose h) m) x _ h1 (Nat.le_max_left _ _)
      have a2 := mLoopN_up b _ (max (Classical.choose h) m) x _ h2 (Nat.le_max_right _ _)
      rw [← a1, a2]
  · rw [dif_neg h]
    constructor
    · intro h2; cases h2
    · rintro ⟨m, h2⟩; exact absurd ⟨m, r, h2⟩ h
theorem mLoop_go {S R : Type} {b : S → Option (S ⊕ R)} (P : S → Prop) (C : R → Prop) (hb : ∀ (x : S) (q : S ⊕ R), b x = some q → Sum.elim P C q → P x) {x : S} {r : R} (h : mLoop b x = some r) (hc : C r) : P x := by
  obtain ⟨n, h2⟩ := mLoop_some.mp h
  clear h
  induction n generalizing x with
  | zero => cases h2
  | succ n ih =>
    unfold mLoopN at h2
    cases hq : b x with
    | none => rw [hq] at h2; cases h2
    | some q =>
      rw [hq] at h2
      refine hb x q hq ?_
      cases q with
      | inl y => exact ih h2
      | inr r' => cases h2; exact hc
/-- one turn of a loop -/
theorem mLoop_eq {S R : Type} (b : S → Option (S ⊕ R)) (x : S) : mLoop b x = (b x).bind (Sum.elim (mLoop b) some) := by
  cases hb : b x with
  | none =>
    cases hl : mLoop b x with
    | none => rfl
    | some r =>
      obtain ⟨n, h⟩ := mLoop_some.mp hl
      cases n with
      | zero => cases h
      | succ n => unfold mLoopN at h; rw [hb] at h; cases h
  | some q =>
    cases q with
    | inl y =>
      show _ = mLoop b y
      cases hl : mLoop b y with
      | some r =>
        obtain ⟨n, h⟩ := mLoop_some.mp hl
        exact mLoop_some.mpr ⟨n + 1, by unfold mLoopN; rw [hb]; exact h⟩
      | none =>
        cases hx : mLoop b x with
        | none => rfl
        | some r =>
          obtain ⟨n, h⟩ := mLoop_some.mp hx
          cases n with
          | zero => cases h
          | succ n =>
            unfold mLoopN at h
            rw [hb] at h
            have := mLoop_some.mpr ⟨n, h⟩
            rw [hl] at this
            cases this
    | inr r =>
      show _ = some r
      exact mLoop_some.mpr ⟨1, by unfold mLoopN; rw [hb]⟩
theorem mLoop_inl {S R : Type} {b : S → Option (S ⊕ R)} {x y : S} (h : b x = some (.inl y)) : mLoop b x = mLoop b y := by rw [mLoop_eq, h]; rfl
theorem mLoop_inr {S R : Type} {b : S → Option (S ⊕ R)} {x : S} {r : R} (h : b x = some (.inr r)) : mLoop b x = some r := by rw [mLoop_eq, h]; rfl
/-- a loop along a path that is known -/
theorem mLoop_path {S R : Type} {b : S → Option (S ⊕ R)} (st : Nat → S) (n : Nat) (h : ∀ i, i < n → b (st i) = some (.inl (st (i + 1)))) : mLoop b (st 0) = mLoop b (st n) := by
  induction n with
  | zero => rfl
  | succ n ih => rw [ih fun i hi => h i (by omega), mLoop_inl (h n (by omega))]
theorem mLoop_ends {S R : Type} {b : S → Option (S ⊕ R)} (st : Nat → S) (n : Nat) (r : R) (h : ∀ i, i < n → b (st i) = some (.inl (st (i + 1)))) (he : b (st n) = some (.inr r)) : mLoop b (st 0) = some r := by
  rw [mLoop_path st n h, mLoop_inr he]

theorem mFit_of {k : mK} {d d' cu su mc ms mc' ms' maxL : Nat} (hk : k.2.2.2.2.2 = mRoom d mc ms) (h1 : d' + 1 ≤ d) (h2 : maxL ≤ 21) (h3 : cu + mc' ≤ mc) (h4 : su + ms' ≤ ms) : mFit k (mRoom d' mc' ms') cu su maxL := by
  unfold mFit
  rw [hk]
  simp only [mRoom]
  omega
section MSW
variable {w : mWp} {k : mK} {cu su pc n : Nat} {ls : List (Option Value)} {st : List Value} {h : mH} {Q : Option Value → mH → Prop}
theorem mGo.tcase {dflt lo hi : Int} {offs : Array Int} {len tgt : Nat} {x v : Int32} {off : Int} (hc : x = v) (hd : decode k.1 pc = .ok (.tableswitch dflt lo hi offs, len)) (h1 : ¬ v.toInt < lo) (h2 : ¬ hi < v.toInt) (ho : offs[(v.toInt - lo).toNat]? = some off) (ht : (pc : Int) + off = (tgt : Int)) (kk : mGo w k cu su tgt ls st h Q) : mGo w k cu su pc ls (.int x :: st) h Q := by
  subst hc
  exact mGo.tin hd h1 h2 ho ht kk
theorem mGo.tdef {dflt lo hi : Int} {offs : Array Int} {len tgt : Nat} {x : Int32} (vs : List Int32) (hd : decode k.1 pc = .ok (.tableswitch dflt lo hi offs, len)) (hv : ∀ v ∈ vs, ¬ x = v) (hz : (offs.size : Int) = hi - lo + 1) (hk : (List.range offs.size).all (fun i => offs[i]? == some dflt || vs.contains (Int32.ofInt (lo + i))) = true) (ht : (pc : Int) + dflt = (tgt : Int)) (kk : mGo w k cu su tgt ls st h Q) : mGo w k cu su pc ls (.int x :: st) h Q := by
  by_cases h1 : x.toInt < lo ∨ hi < x.toInt
  · exact mGo.tout hd h1 ht kk
  · have a1 : ¬ x.toInt < lo := fun q => h1 (Or.inl q)
    have a2 : ¬ hi < x.toInt := fun q => h1 (Or.inr q)
    have hi' : (x.toInt - lo).toNat < offs.size := by omega
    have h3 := List.all_eq_true.mp hk _ (List.mem_range.mpr hi')
    rcases Bool.or_eq_true_iff.mp h3 with h4 | h4
    · exact mGo.tin hd a1 a2 (beq_iff_eq.mp h4) ht kk
    · exfalso
      have h5 : Int32.ofInt (lo + ((x.toInt - lo).toNat : Int)) = x := by
        rw [show lo + ((x.toInt - lo).toNat : Int) = x.toInt by omega]
        exact Int32.ofInt_toInt x
      rw [h5] at h4
      exact hv x (List.contains_iff_mem.mp h4) rfl
end MSW
