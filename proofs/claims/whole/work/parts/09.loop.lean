/-! LOOPS as functions: a body answers with a new state (inl) or ends (inr); no fuel is seen outside -/
def mLoopN {S R : Type} (b : S → Option (S ⊕ R)) : Nat → S → Option R
  | 0, _ => none
  | n + 1, x => match b x with
    | none => none
    | some (.inl y) => mLoopN b n y
    | some (.inr r) => some r
theorem mLoopN_up {S R : Type} (b : S → Option (S ⊕ R)) : ∀ (n m : Nat) (x : S) (r : R), mLoopN b n x = some r → n ≤ m → mLoopN b m x = some r := by
  intro n
  induction n with
  | zero => intro m x r h; cases h
  | succ n ih =>
    intro m x r h hm
    cases m with
    | zero => omega
    | succ m =>
      unfold mLoopN at h ⊢
      cases hb : b x with
      | none => rw [hb] at h; cases h
      | some q =>
        rw [hb] at h
        cases q with
        | inl y => exact ih m y r h (by omega)
        | inr r' => exact h
noncomputable def mLoop {S R : Type} (b : S → Option (S ⊕ R)) (x : S) : Option R :=
  @dite _ (∃ n r, mLoopN b n x = some r) (Classical.propDecidable _) (fun h => some (Classical.choose (Classical.choose_spec h))) (fun _ => none)
theorem mLoop_some {S R : Type} {b : S → Option (S ⊕ R)} {x : S} {r : R} : mLoop b x = some r ↔ ∃ n, mLoopN b n x = some r := by
  unfold mLoop
  by_cases h : ∃ n r, mLoopN b n x = some r
  · rw [dif_pos h]
    have h1 := Classical.choose_spec (Classical.choose_spec h)
    constructor
    · intro h2
      refine ⟨Classical.choose h, ?_⟩
      rw [← Option.some.inj h2]
      exact h1
    · rintro ⟨m, h2⟩
      have a1 := mLoopN_up b _ (max (Classical.choose h) m) x _ h1 (Nat.le_max_left _ _)
      have a2 := mLoopN_up b _ (max (Classical.choose h) m) x _ h2 (Nat.le_max_right _ _)
      rw [← a1, a2]
  · rw [dif_neg h]
    constructor
    · intro h2; cases h2
    · rintro ⟨m, h2⟩; exact absurd ⟨m, r, h2⟩ h
theorem mLoop_go {S R : Type} {b : S → Option (S ⊕ R)} (P : S → Prop) (C : R → Prop) (hb : ∀ (x : S) (q : S ⊕ R), b x = some q → Sum.elim P C q → P x) {x : S} {r : R} (h : mLoop b x = some r) (hc : C r) : P x := by
  obtain ⟨n, h⟩ := mLoop_some.mp h
  induction n generalizing x with
  | zero => cases h
  | succ n ih =>
    unfold mLoopN at h
    cases hq : b x with
    | none => rw [hq] at h; cases h
    | some q =>
      rw [hq] at h
      refine hb x q hq ?_
      cases q with
      | inl y => exact ih h
      | inr r' => cases h; exact hc
/-- one turn of a loop -/
theorem mLoop_eq {S R : Type} (b : S → Option (S ⊕ R)) (x : S) : mLoop b x = (b x).bind (Sum.elim (mLoop b) some) := by
  cases hb : b x with
  | none =>
    cases hl : mLoop b x with
    | none => rfl
    | some r =>
      obtain ⟨n, h⟩ := mLoop_some.mp hl
      cases n with
      | zero => cases h
      | succ n => unfold mLoopN at h; rw [hb] at h; cases h
  | some q =>
    cases q with
    | inl y =>
      show _ = mLoop b y
      cases hl : mLoop b y with
      | some r =>
        obtain ⟨n, h⟩ := mLoop_some.mp hl
        exact mLoop_some.mpr ⟨n + 1, by unfold mLoopN; rw [hb]; exact h⟩
      | none =>
        cases hx : mLoop b x with
        | none => rfl
        | some r =>
          obtain ⟨n, h⟩ := mLoop_some.mp hx
          cases n with
          | zero => cases h
          | succ n =>
            unfold mLoopN at h
            rw [hb] at h
            have := mLoop_some.mpr ⟨n, h⟩
            rw [hl] at this
            cases this
    | inr r =>
      show _ = some r
      exact mLoop_some.mpr ⟨1, by unfold mLoopN; rw [hb]⟩
theorem mLoop_inl {S R : Type} {b : S → Option (S ⊕ R)} {x y : S} (h : b x = some (.inl y)) : mLoop b x = mLoop b y := by rw [mLoop_eq, h]; rfl
theorem mLoop_inr {S R : Type} {b : S → Option (S ⊕ R)} {x : S} {r : R} (h : b x = some (.inr r)) : mLoop b x = some r := by rw [mLoop_eq, h]; rfl
/-- a loop along a path that is known -/
theorem mLoop_path {S R : Type} {b : S → Option (S ⊕ R)} (st : Nat → S) (n : Nat) (h : ∀ i, i < n → b (st i) = some (.inl (st (i + 1)))) : mLoop b (st 0) = mLoop b (st n) := by
  induction n with
  | zero => rfl
  | succ n ih => rw [ih fun i hi => h i (by omega), mLoop_inl (h n (by omega))]
theorem mLoop_ends {S R : Type} {b : S → Option (S ⊕ R)} (st : Nat → S) (n : Nat) (r : R) (h : ∀ i, i < n → b (st i) = some (.inl (st (i + 1)))) (he : b (st n) = some (.inr r)) : mLoop b (st 0) = some r := by
  rw [mLoop_path st n h, mLoop_inr he]
