/-! PURE: a row like an unused one ahead of it need not be tried -/
section QPRN
variable (n : Nat) (R S : Nat → Nat)
def qAgn (c : Nat → Nat) (k : Nat) : Bool := !decide (∀ i, i < c k / 2 → ¬ ((∀ e, e < k → c e / 2 ≠ i) ∧ (S i ^^^ S (c k / 2) = 0 ∨ S i ^^^ S (c k / 2) = 2 ^ n - 1)))
def qOkp (c : Nat → Nat) (k : Nat) : Bool := qOkm n R S c k && !qAgn n S c k
def qTau (i0 i1 : Nat) (f : Bool) (t : Nat) : Nat := if t / 2 = i0 then 2 * i1 + (t % 2 + f.toNat) % 2 else if t / 2 = i1 then 2 * i0 + (t % 2 + f.toNat) % 2 else t
theorem qTau_at (i0 i1 : Nat) (f : Bool) (t : Nat) : (t / 2 = i0 ∧ qTau i0 i1 f t / 2 = i1 ∧ qTau i0 i1 f t % 2 = (t % 2 + f.toNat) % 2) ∨ (t / 2 ≠ i0 ∧ t / 2 = i1 ∧ qTau i0 i1 f t / 2 = i0 ∧ qTau i0 i1 f t % 2 = (t % 2 + f.toNat) % 2) ∨ (t / 2 ≠ i0 ∧ t / 2 ≠ i1 ∧ qTau i0 i1 f t = t) := by
  unfold qTau
  have hm : (t % 2 + f.toNat) % 2 < 2 := Nat.mod_lt _ (by decide)
  generalize (t % 2 + f.toNat) % 2 = b at hm ⊢
  by_cases h0 : t / 2 = i0
  · rw [if_pos h0]; exact Or.inl ⟨h0, by omega, by omega⟩
  · rw [if_neg h0]
    by_cases h1 : t / 2 = i1
    · rw [if_pos h1]; exact Or.inr (Or.inl ⟨h0, h1, by omega, by omega⟩)
    · rw [if_neg h1]; exact Or.inr (Or.inr ⟨h0, h1, rfl⟩)
theorem qXw_bit (c : Nat → Nat) (e : Nat) {j : Nat} (hj : j < n) : (qXw n R c e).testBit j = ((R e).testBit j ^^ decide (c e % 2 = 1)) := by
  unfold qXw
  rw [Nat.testBit_xor]
  congr 1
  by_cases h : c e % 2 = 1
  · rw [if_pos h, Nat.testBit_two_pow_sub_one, decide_eq_true hj, decide_eq_true h]
  · rw [if_neg h, Nat.zero_testBit, decide_eq_false h]
theorem qPrune : ∀ (d k : Nat) (c : Nat → Nat), qFnd (qOkp n R S) (2 * n) d k c = qFnd (qOkm n R S) (2 * n) d k c := by
  intro d
  induction d with
  | zero => intro k c; rfl
  | succ d ih =>
    intro k c
    refine qScan_prune fun u hu => ?_
    show (if qOkp n R S (va_up c k u) k then qFnd (qOkp n R S) (2 * n) d (k + 1) (va_up c k u) else none) = _ ∨ _
    rw [ih]
    by_cases hok : qOkm n R S (va_up c k u) k = true
    · by_cases hag : qAgn n S (va_up c k u) k = true
      · have e1 : qOkp n R S (va_up c k u) k = false := by unfold qOkp; rw [hok, hag]; rfl
        rw [e1]
        show _ ∨ (_ ∧ ∃ v, v < u ∧ ∃ r, (if qOkm n R S (va_up c k v) k then qFnd (qOkm n R S) (2 * n) d (k + 1) (va_up c k v) else none) = some r)
        cases hr : qFnd (qOkm n R S) (2 * n) d (k + 1) (va_up c k u) with
        | none => left; rw [if_pos hok]; rfl
        | some r =>
          right
          refine ⟨rfl, ?_⟩
          obtain ⟨c', a1, a2⟩ := (qFnd_ex (ok := qOkm n R S) (fun h => qOkm_congr n R S h)).mp ⟨r, hr⟩
          have ck : c' k = u := by rw [a1 k (by omega), qVs]
          have a3 : ∀ e, e < k → c' e = c e := fun e he => by rw [a1 e (by omega), qVn (by omega)]
          have hok' : qOkm n R S c' k = true := by rw [← hok]; exact qOkm_congr n R S fun e he => a1 e (by omega)
          -- the row ahead
          unfold qAgn at hag
          rw [Bool.not_eq_true', decide_eq_false_iff_not] at hag
          obtain ⟨i1, hi1, hun, hlike⟩ : ∃ i1, i1 < u / 2 ∧ (∀ e, e < k → c e / 2 ≠ i1) ∧ (S i1 ^^^ S (u / 2) = 0 ∨ S i1 ^^^ S (u / 2) = 2 ^ n - 1) := by
            refine Classical.byContradiction fun hno => hag fun i hi hz => hno ⟨i, ?_, ?_, ?_⟩
            · rw [qVs] at hi; exact hi
            · intro e he
              have := hz.1 e he
              rw [qVn (by omega)] at this
              exact this
            · have := hz.2
              rw [qVs] at this
              exact this
          generalize hi0 : u / 2 = i0 at hi1 hlike
          obtain ⟨f, hf⟩ : ∃ f : Bool, ∀ j, j < n → (S i1).testBit j = ((S i0).testBit j ^^ f) := by
            rcases hlike with z | z
            · refine ⟨false, fun j _ => ?_⟩
              have := congrArg (fun x => x.testBit j) z
              simp only [Nat.testBit_xor, Nat.zero_testBit] at this
              cases h1 : (S i1).testBit j <;> cases h2 : (S i0).testBit j <;> simp [h1, h2] at this ⊢
            · refine ⟨true, fun j hj => ?_⟩
              have := congrArg (fun x => x.testBit j) z
              simp only [Nat.testBit_xor, Nat.testBit_two_pow_sub_one, decide_eq_true hj] at this
              cases h1 : (S i1).testBit j <;> cases h2 : (S i0).testBit j <;> simp [h1, h2] at this ⊢
          have fr := hok'
          unfold qOkm qFrs at fr
          rw [Bool.and_eq_true, decide_eq_true_eq] at fr
          have hun0 : ∀ e, e < k → c' e / 2 ≠ i0 := fun e he => by have := fr.1 e he; rw [ck, hi0] at this; exact this
          have hun1 : ∀ e, e < k → c' e / 2 ≠ i1 := fun e he => by rw [a3 e he]; exact hun e he
          -- signs are changed alike on both sides
          have FL : ∀ t, ∃ g : Bool, (∀ j, j < n → (S (qTau i0 i1 f t / 2)).testBit j = ((S (t / 2)).testBit j ^^ g)) ∧ decide (qTau i0 i1 f t % 2 = 1) = (decide (t % 2 = 1) ^^ g) := by
            intro t
            have par : decide ((t % 2 + f.toNat) % 2 = 1) = (decide (t % 2 = 1) ^^ f) := by
              rcases Nat.mod_two_eq_zero_or_one t with z | z <;> rw [z] <;> cases f <;> rfl
            rcases qTau_at i0 i1 f t with ⟨b1, b2, b3⟩ | ⟨b0, b1, b2, b3⟩ | ⟨b1, b2, b3⟩
            · refine ⟨f, fun j hj => ?_, by rw [b3]; exact par⟩
              rw [b2, b1]; exact hf j hj
            · refine ⟨f, fun j hj => ?_, by rw [b3]; exact par⟩
              rw [b2, b1, hf j hj]
              cases (S i0).testBit j <;> cases f <;> rfl
            · exact ⟨false, fun j _ => by rw [b3, Bool.xor_false], by rw [b3, Bool.xor_false]⟩
          have AG : ∀ m, qAg n R S (fun e => qTau i0 i1 f (c' e)) m = qAg n R S c' m := by
            intro m
            refine qAg_rel n R S fun e he => ?_
            obtain ⟨g, g1, g2⟩ := FL (c' e)
            obtain ⟨g0, h1, h2⟩ := FL (c' 0)
            refine ⟨g ^^ g0, fun j hj => ?_, fun j hj => ?_⟩
            · unfold qXb
              rw [qXw_bit n R _ _ hj, qXw_bit n R _ _ hj, qXw_bit n R _ _ hj, qXw_bit n R _ _ hj, g2, h2]
              cases (R e).testBit j <;> cases (R 0).testBit j <;> cases decide (c' e % 2 = 1) <;> cases decide (c' 0 % 2 = 1) <;> cases g <;> cases g0 <;> rfl
            · unfold qYb
              rw [g1 j hj, h1 j hj]
              cases (S (c' e / 2)).testBit j <;> cases (S (c' 0 / 2)).testBit j <;> cases g <;> cases g0 <;> rfl
          have INJ : ∀ t t', qTau i0 i1 f t / 2 = qTau i0 i1 f t' / 2 → t / 2 = t' / 2 := by
            intro t t' h
            rcases qTau_at i0 i1 f t with ⟨b1, b2, b3⟩ | ⟨b0, b1, b2, b3⟩ | ⟨b1, b2, b3⟩ <;> rcases qTau_at i0 i1 f t' with ⟨d1, d2, d3⟩ | ⟨d0, d1, d2, d3⟩ | ⟨d1, d2, d3⟩ <;> (try rw [b3] at h) <;> (try rw [d3] at h) <;> omega
          have OK : ∀ e, qOkm n R S c' e = true → qOkm n R S (fun e => qTau i0 i1 f (c' e)) e = true := by
            intro e h
            unfold qOkm at h ⊢
            rw [Bool.and_eq_true] at h ⊢
            refine ⟨?_, by rw [AG]; exact h.2⟩
            have h1 := h.1
            unfold qFrs at h1 ⊢
            rw [decide_eq_true_eq] at h1 ⊢
            exact fun z hz hh => h1 z hz (INJ _ _ hh)
          have below : ∀ e, e < k → qTau i0 i1 f (c' e) = c e := by
            intro e he
            rcases qTau_at i0 i1 f (c' e) with ⟨b1, -⟩ | ⟨b0, b1, -⟩ | ⟨b1, b2, b3⟩
            · exact absurd b1 (hun0 e he)
            · exact absurd b1 (hun1 e he)
            · rw [b3, a3 e he]
          have at_k : qTau i0 i1 f (c' k) / 2 = i1 := by
            rcases qTau_at i0 i1 f (c' k) with ⟨b1, b2, -⟩ | ⟨b0, b1, -⟩ | ⟨b1, b2, b3⟩
            · exact b2
            · exact absurd (by rw [ck]; exact hi0) b0
            · exact absurd (by rw [ck]; exact hi0) b1
          have same : ∀ e, e ≤ k → va_up c k (qTau i0 i1 f (c' k)) e = qTau i0 i1 f (c' e) := by
            intro e he
            by_cases z : e = k
            · rw [z, qVs]
            · rw [qVn z, below e (by omega)]
          refine ⟨qTau i0 i1 f (c' k), by omega, ?_⟩
          rw [if_pos (by rw [← OK k hok']; exact qOkm_congr n R S (c := fun e => qTau i0 i1 f (c' e)) same)]
          refine (qFnd_ex (ok := qOkm n R S) (fun h => qOkm_congr n R S h)).mpr ⟨fun e => qTau i0 i1 f (c' e), fun e he => (same e (by omega)).symm, fun e e1 e2 => ?_⟩
          obtain ⟨b1, b2⟩ := a2 e e1 e2
          refine ⟨?_, OK e b2⟩
          show qTau i0 i1 f (c' e) < 2 * n
          rcases qTau_at i0 i1 f (c' e) with ⟨z1, z2, -⟩ | ⟨z0, z1, z2, -⟩ | ⟨z1, z2, z3⟩
          · omega
          · omega
          · omega
      · left
        have e1 : qOkp n R S (va_up c k u) k = true := by
          unfold qOkp
          rw [hok]
          cases h : qAgn n S (va_up c k u) k
          · rfl
          · exact absurd h hag
        rw [e1, if_pos rfl, if_pos hok]
    · left
      have e1 : qOkp n R S (va_up c k u) k = false := by
        unfold qOkp
        cases h : qOkm n R S (va_up c k u) k
        · rfl
        · exact absurd h hok
      rw [e1, if_neg (by decide), if_neg hok]
end QPRN
