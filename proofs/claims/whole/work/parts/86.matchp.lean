/-! PURE: witnesses, no machine. c: where each row goes, 2 times the row's number, 1 more if signed -/
section QMP
variable (n : Nat) (R S : Nat → Nat)
def qXw (c : Nat → Nat) (e : Nat) : Nat := R e ^^^ (if c e % 2 = 1 then 2 ^ n - 1 else 0)
def qXb (c : Nat → Nat) (e j : Nat) : Bool := (qXw n R c e).testBit j ^^ (qXw n R c 0).testBit j
def qYb (c : Nat → Nat) (e j : Nat) : Bool := (S (c e / 2)).testBit j ^^ (S (c 0 / 2)).testBit j
def qHH (c : Nat → Nat) : Nat → Nat → Nat → Bool
  | 0, _, _ => true
  | k + 1, j, o => qHH c k j o && (qXb n R c k o == qXb n R c k j)
def qHT (c : Nat → Nat) : Nat → Nat → Nat → Bool
  | 0, _, _ => true
  | k + 1, j, o => qHT c k j o && (qYb S c k o == qXb n R c k j)
def qAg (c : Nat → Nat) (k : Nat) : Bool := decide (∀ j, j < n → qc n (fun o => qHH n R c k j o) = qc n (fun o => qHT n R S c k j o))
theorem qHH_iff (c : Nat → Nat) (k j o : Nat) : qHH n R c k j o = true ↔ ∀ e, e < k → qXb n R c e o = qXb n R c e j := by
  induction k with
  | zero => exact ⟨fun _ e h => absurd h (Nat.not_lt_zero e), fun _ => rfl⟩
  | succ k ih =>
    show (qHH n R c k j o && (qXb n R c k o == qXb n R c k j)) = true ↔ _
    rw [Bool.and_eq_true, ih, beq_iff_eq]
    constructor
    · rintro ⟨h1, h2⟩ e he
      by_cases z : e = k
      · subst z; exact h2
      · exact h1 e (by omega)
    · intro h
      exact ⟨fun e he => h e (by omega), h k (by omega)⟩
theorem qHT_iff (c : Nat → Nat) (k j o : Nat) : qHT n R S c k j o = true ↔ ∀ e, e < k → qYb S c e o = qXb n R c e j := by
  induction k with
  | zero => exact ⟨fun _ e h => absurd h (Nat.not_lt_zero e), fun _ => rfl⟩
  | succ k ih =>
    show (qHT n R S c k j o && (qYb S c k o == qXb n R c k j)) = true ↔ _
    rw [Bool.and_eq_true, ih, beq_iff_eq]
    constructor
    · rintro ⟨h1, h2⟩ e he
      by_cases z : e = k
      · subst z; exact h2
      · exact h1 e (by omega)
    · intro h
      exact ⟨fun e he => h e (by omega), h k (by omega)⟩
theorem qBeq {a b : Bool} (h : a = true ↔ b = true) : a = b := by
  cases a <;> cases b <;> simp at h ⊢
theorem qHH_rf (c : Nat → Nat) (k j : Nat) : qHH n R c k j j = true := (qHH_iff n R c k j j).mpr fun _ _ => rfl
theorem qHH_tr {c : Nat → Nat} {k r j : Nat} (h : qHH n R c k r j = true) (o : Nat) : qHH n R c k j o = qHH n R c k r o := by
  have h' := (qHH_iff n R c k r j).mp h
  apply qBeq
  rw [qHH_iff, qHH_iff]
  exact ⟨fun z e he => (z e he).trans (h' e he), fun z e he => (z e he).trans (h' e he).symm⟩
theorem qHT_tr {c : Nat → Nat} {k r j : Nat} (h : qHH n R c k r j = true) (o : Nat) : qHT n R S c k j o = qHT n R S c k r o := by
  have h' := (qHH_iff n R c k r j).mp h
  apply qBeq
  rw [qHT_iff, qHT_iff]
  exact ⟨fun z e he => (z e he).trans (h' e he), fun z e he => (z e he).trans (h' e he).symm⟩
theorem qc_split (m : Nat) (p q : Nat → Bool) : qc m (fun i => p i && q i) + qc m (fun i => p i && !q i) = qc m p := by
  induction m with
  | zero => rfl
  | succ m ih =>
    show qc m _ + (p m && q m).toNat + (qc m _ + (p m && !q m).toNat) = qc m p + (p m).toNat
    have : (p m && q m).toNat + (p m && !q m).toNat = (p m).toNat := by cases p m <;> cases q m <;> rfl
    omega
theorem qAg_0 (c : Nat → Nat) : qAg n R S c 0 = true := by
  unfold qAg
  rw [decide_eq_true_eq]
  intro j _
  rfl
/-- a step: the classes r are parted alike -/
theorem qAg_step {c : Nat → Nat} {k cc : Nat} {r : Nat → Nat} (hA : qAg n R S c k = true) (hr : ∀ i, i < cc → r i < n) (cov : ∀ j, j < n → ∃ i, i < cc ∧ qHH n R c k (r i) j = true) : qAg n R S c (k + 1) = true ↔ ∀ i, i < cc → qc n (fun o => qHH n R c k (r i) o && qXb n R c k o) = qc n (fun o => qHT n R S c k (r i) o && qYb S c k o) := by
  unfold qAg at hA ⊢
  rw [decide_eq_true_eq] at hA ⊢
  have P : ∀ j o, qHH n R c (k + 1) j o = (qHH n R c k j o && (qXb n R c k o == qXb n R c k j)) := fun _ _ => rfl
  have Q : ∀ j o, qHT n R S c (k + 1) j o = (qHT n R S c k j o && (qYb S c k o == qXb n R c k j)) := fun _ _ => rfl
  have key : ∀ r j, qHH n R c k r j = true → r < n → ((qc n (fun o => qHH n R c (k + 1) j o) = qc n (fun o => qHT n R S c (k + 1) j o)) ↔ (qc n (fun o => qHH n R c k r o && qXb n R c k o) = qc n (fun o => qHT n R S c k r o && qYb S c k o))) := by
    intro r j hj hr
    have a0 := hA r hr
    have s1 := qc_split n (fun o => qHH n R c k r o) (fun o => qXb n R c k o)
    have s2 := qc_split n (fun o => qHT n R S c k r o) (fun o => qYb S c k o)
    cases hx : qXb n R c k j
    · have e1 : qc n (fun o => qHH n R c (k + 1) j o) = qc n (fun o => qHH n R c k r o && !qXb n R c k o) := qc_eq fun o _ => by
        rw [P, hx, qHH_tr n R hj]; cases qXb n R c k o <;> rfl
      have e2 : qc n (fun o => qHT n R S c (k + 1) j o) = qc n (fun o => qHT n R S c k r o && !qYb S c k o) := qc_eq fun o _ => by
        rw [Q, hx, qHT_tr n R S hj]; cases qYb S c k o <;> rfl
      rw [e1, e2]
      constructor <;> intro z <;> omega
    · have e1 : qc n (fun o => qHH n R c (k + 1) j o) = qc n (fun o => qHH n R c k r o && qXb n R c k o) := qc_eq fun o _ => by
        rw [P, hx, qHH_tr n R hj]; cases qXb n R c k o <;> rfl
      have e2 : qc n (fun o => qHT n R S c (k + 1) j o) = qc n (fun o => qHT n R S c k r o && qYb S c k o) := qc_eq fun o _ => by
        rw [Q, hx, qHT_tr n R S hj]; cases qYb S c k o <;> rfl
      rw [e1, e2]
  constructor
  · intro h i hi
    exact (key (r i) (r i) (qHH_rf n R c k _) (hr i hi)).mp (h (r i) (hr i hi))
  · intro h j hj
    obtain ⟨i, hi, hij⟩ := cov j hj
    exact (key (r i) j hij (hr i hi)).mpr (h i hi)
theorem qAg_rel {c c' : Nat → Nat} {k : Nat} (h : ∀ e, e < k → ∃ f : Bool, (∀ j, j < n → qXb n R c' e j = (qXb n R c e j ^^ f)) ∧ ∀ o, o < n → qYb S c' e o = (qYb S c e o ^^ f)) : qAg n R S c' k = qAg n R S c k := by
  have B : ∀ a b f : Bool, ((a ^^ f) = (b ^^ f)) ↔ a = b := by decide
  have H1 : ∀ j o, j < n → o < n → qHH n R c' k j o = qHH n R c k j o := by
    intro j o hj ho
    apply qBeq
    rw [qHH_iff, qHH_iff]
    constructor <;> intro z e he <;> obtain ⟨f, f1, f2⟩ := h e he <;> have := z e he
    · rw [f1 j hj, f1 o ho] at this; exact (B _ _ _).mp this
    · rw [f1 j hj, f1 o ho]; exact (B _ _ _).mpr this
  have H2 : ∀ j o, j < n → o < n → qHT n R S c' k j o = qHT n R S c k j o := by
    intro j o hj ho
    apply qBeq
    rw [qHT_iff, qHT_iff]
    constructor <;> intro z e he <;> obtain ⟨f, f1, f2⟩ := h e he <;> have := z e he
    · rw [f1 j hj, f2 o ho] at this; exact (B _ _ _).mp this
    · rw [f1 j hj, f2 o ho]; exact (B _ _ _).mpr this
  unfold qAg
  rw [decide_eq_decide]
  constructor <;> intro z j hj <;> have := z j hj
  · rw [qc_eq fun o ho => H1 j o hj ho, qc_eq fun o ho => H2 j o hj ho] at this; exact this
  · rw [qc_eq fun o ho => H1 j o hj ho, qc_eq fun o ho => H2 j o hj ho]; exact this
theorem qAg_congr {c c' : Nat → Nat} {k : Nat} (h : ∀ e, e < k → c' e = c e) : qAg n R S c' k = qAg n R S c k := by
  refine qAg_rel n R S fun e he => ⟨false, fun j _ => ?_, fun o _ => ?_⟩
  · unfold qXb qXw
    rw [h e he, h 0 (by omega), Bool.xor_false]
  · unfold qYb
    rw [h e he, h 0 (by omega), Bool.xor_false]
def qFrs (c : Nat → Nat) (k : Nat) : Bool := decide (∀ e, e < k → c e / 2 ≠ c k / 2)
def qOkm (c : Nat → Nat) (k : Nat) : Bool := qFrs c k && qAg n R S c (k + 1)
theorem qOkm_congr {c c' : Nat → Nat} {k : Nat} (h : ∀ e, e ≤ k → c' e = c e) : qOkm n R S c' k = qOkm n R S c k := by
  unfold qOkm
  rw [qAg_congr n R S (k := k + 1) fun e he => h e (by omega)]
  congr 1
  unfold qFrs
  rw [decide_eq_decide]
  constructor <;> intro z e he <;> have := z e he
  · rw [h e (by omega), h k (Nat.le_refl k)] at this; exact this
  · rw [h e (by omega), h k (Nat.le_refl k)]; exact this
end QMP
/-! a search in depth -/
def qScan {α : Type} (g : Nat → Option α) : Nat → Nat → Option α
  | 0, _ => none
  | m + 1, t => match g t with
    | some r => some r
    | none => qScan g m (t + 1)
theorem qScan_some {α : Type} {g : Nat → Option α} {r : α} : ∀ {m t : Nat}, qScan g m t = some r ↔ ∃ u, t ≤ u ∧ u < t + m ∧ g u = some r ∧ ∀ v, t ≤ v → v < u → g v = none := by
  intro m
  induction m with
  | zero =>
    intro t
    constructor
    · intro h; cases h
    · rintro ⟨u, h1, h2, -⟩; omega
  | succ m ih =>
    intro t
    unfold qScan
    cases hg : g t with
    | some q =>
      constructor
      · intro h
        exact ⟨t, Nat.le_refl t, by omega, by rw [hg]; exact h, fun v h1 h2 => by omega⟩
      · rintro ⟨u, h1, h2, h3, h4⟩
        by_cases e : u = t
        · subst e; rw [hg] at h3; exact h3
        · have := h4 t (Nat.le_refl t) (by omega)
          rw [hg] at this; cases this
    | none =>
      show qScan g m (t + 1) = some r ↔ _
      rw [ih]
      constructor
      · rintro ⟨u, h1, h2, h3, h4⟩
        refine ⟨u, by omega, by omega, h3, fun v v1 v2 => ?_⟩
        by_cases e : v = t
        · subst e; exact hg
        · exact h4 v (by omega) v2
      · rintro ⟨u, h1, h2, h3, h4⟩
        by_cases e : u = t
        · subst e; rw [hg] at h3; cases h3
        · exact ⟨u, by omega, by omega, h3, fun v v1 v2 => h4 v (by omega) v2⟩
theorem qScan_prune {α : Type} {g g' : Nat → Option α} {N : Nat} (h : ∀ u, u < N → g' u = g u ∨ (g' u = none ∧ ∃ v, v < u ∧ ∃ r, g v = some r)) : qScan g' N 0 = qScan g N 0 := by
  have K : ∀ u, u < N → (∀ v, v < u → g v = none) → g' u = g u := by
    intro u hu hv
    rcases h u hu with z | ⟨-, v, v1, r, v2⟩
    · exact z
    · rw [hv v v1] at v2; cases v2
  cases hs : qScan g N 0 with
  | some r =>
    obtain ⟨u, h1, h2, h3, h4⟩ := qScan_some.mp hs
    refine qScan_some.mpr ⟨u, h1, h2, ?_, fun v v1 v2 => ?_⟩
    · rw [K u (by omega) fun v hv => h4 v (by omega) hv]; exact h3
    · rw [K v (by omega) fun z hz => h4 z (by omega) (by omega)]; exact h4 v v1 v2
  | none =>
    cases hs' : qScan g' N 0 with
    | none => rfl
    | some r =>
      exfalso
      obtain ⟨u, h1, h2, h3, h4⟩ := qScan_some.mp hs'
      have A : ∀ v, v < N → g v = none := by
        intro v
        induction v using Nat.strongRecOn with
        | ind v ih =>
          intro hv
          cases hg : g v with
          | none => rfl
          | some q =>
            exfalso
            have := qScan_some (m := N) (t := 0) |>.mpr ⟨v, Nat.zero_le v, by omega, hg, fun z _ hz => ih z hz (by omega)⟩
            rw [hs] at this; cases this
      rcases h u (by omega) with z | ⟨z, -⟩
      · rw [z, A u (by omega)] at h3; cases h3
      · rw [z] at h3; cases h3
def qFnd (ok : (Nat → Nat) → Nat → Bool) (N : Nat) : Nat → Nat → (Nat → Nat) → Option (Nat → Nat)
  | 0, _, c => some c
  | d + 1, k, c => qScan (fun t => if ok (va_up c k t) k then qFnd ok N d (k + 1) (va_up c k t) else none) N 0
theorem qFnd_below {ok : (Nat → Nat) → Nat → Bool} {N : Nat} : ∀ {d k : Nat} {c r : Nat → Nat}, qFnd ok N d k c = some r → (∀ e, e < k → r e = c e) ∧ ∀ e, k ≤ e → e < k + d → r e < N := by
  intro d
  induction d with
  | zero =>
    intro k c r h
    cases h
    exact ⟨fun _ _ => rfl, fun e h1 h2 => by omega⟩
  | succ d ih =>
    intro k c r h
    obtain ⟨u, h1, h2, h3, h4⟩ := qScan_some.mp h
    by_cases hk : ok (va_up c k u) k = true
    · rw [if_pos hk] at h3
      obtain ⟨a1, a2⟩ := ih h3
      refine ⟨fun e he => ?_, fun e e1 e2 => ?_⟩
      · rw [a1 e (by omega), qVn (by omega)]
      · by_cases z : e = k
        · subst z
          rw [a1 e (by omega), qVs]; omega
        · exact a2 e (by omega) (by omega)
    · rw [if_neg hk] at h3; cases h3
theorem qFnd_ex {ok : (Nat → Nat) → Nat → Bool} {N : Nat} (hok : ∀ {c c' : Nat → Nat} {k : Nat}, (∀ e, e ≤ k → c' e = c e) → ok c' k = ok c k) : ∀ {d k : Nat} {c : Nat → Nat}, (∃ r, qFnd ok N d k c = some r) ↔ ∃ c', (∀ e, e < k → c' e = c e) ∧ ∀ e, k ≤ e → e < k + d → c' e < N ∧ ok c' e = true := by
  intro d
  induction d with
  | zero =>
    intro k c
    exact ⟨fun _ => ⟨c, fun _ _ => rfl, fun e h1 h2 => by omega⟩, fun _ => ⟨c, rfl⟩⟩
  | succ d ih =>
    intro k c
    constructor
    · rintro ⟨r, h⟩
      obtain ⟨u, h1, h2, h3, h4⟩ := qScan_some.mp h
      by_cases hk : ok (va_up c k u) k = true
      · rw [if_pos hk] at h3
        obtain ⟨c', a1, a2⟩ := ih.mp ⟨r, h3⟩
        have e1 : c' k = u := by rw [a1 k (by omega), qVs]
        refine ⟨c', fun e he => ?_, fun e e1' e2 => ?_⟩
        · rw [a1 e (by omega), qVn (by omega)]
        · by_cases z : e = k
          · subst z
            refine ⟨by omega, ?_⟩
            rw [← hk]
            exact hok fun e he => a1 e (by omega)
          · exact a2 e (by omega) (by omega)
      · rw [if_neg hk] at h3; cases h3
    · rintro ⟨c', a1, a2⟩
      have b := a2 k (Nat.le_refl k) (by omega)
      have cc : ∀ e, e ≤ k → va_up c k (c' k) e = c' e := by
        intro e he
        by_cases z : e = k
        · rw [z, qVs]
        · rw [qVn z, a1 e (by omega)]
      have ex : ∃ r, (fun t => if ok (va_up c k t) k then qFnd ok N d (k + 1) (va_up c k t) else none) (c' k) = some r := by
        show ∃ r, (if ok (va_up c k (c' k)) k then qFnd ok N d (k + 1) (va_up c k (c' k)) else none) = some r
        rw [if_pos (by rw [← b.2]; exact hok cc)]
        exact ih.mpr ⟨c', fun e he => (cc e (by omega)).symm, fun e e1 e2 => a2 e (by omega) (by omega)⟩
      obtain ⟨r, hr⟩ := ex
      show ∃ r, qScan _ N 0 = some r
      generalize (fun t => if ok (va_up c k t) k then qFnd ok N d (k + 1) (va_up c k t) else none) = g at hr ⊢
      have : ∀ v, v < N → (∃ r, g v = some r) → ∃ r, qScan g N 0 = some r := by
        intro v
        induction v using Nat.strongRecOn with
        | ind v ihv =>
          rintro hv ⟨r, hr⟩
          by_cases hz : ∃ z, z < v ∧ ∃ r, g z = some r
          · obtain ⟨z, z1, z2⟩ := hz
            exact ihv z z1 (by omega) z2
          · refine ⟨r, qScan_some.mpr ⟨v, Nat.zero_le v, by omega, hr, fun z _ z2 => ?_⟩⟩
            cases hg : g z with
            | none => rfl
            | some q => exact absurd ⟨z, z2, q, hg⟩ hz
      exact this (c' k) b.1 ⟨r, hr⟩
