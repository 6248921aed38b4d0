/-! PURE: form, the least of the class, no machine -/
def qLxN (d n : Nat) (a b : Nat → Nat) : Prop := (∀ i, d ≤ i → i < n → a i = b i) ∨ ∃ k, d ≤ k ∧ k < n ∧ a k < b k ∧ ∀ i, d ≤ i → i < k → a i = b i
theorem qLxN.rf {d n : Nat} {a : Nat → Nat} : qLxN d n a a := Or.inl fun _ _ _ => rfl
theorem qLxN.tr {d n : Nat} {a b c : Nat → Nat} (x : qLxN d n a b) (y : qLxN d n b c) : qLxN d n a c := by
  rcases x with x | ⟨k, k1, k2, k3, k4⟩
  · rcases y with y | ⟨m, m1, m2, m3, m4⟩
    · exact Or.inl fun i h1 h2 => (x i h1 h2).trans (y i h1 h2)
    · exact Or.inr ⟨m, m1, m2, by rw [x m m1 m2]; exact m3, fun i h1 h2 => (x i h1 (by omega)).trans (m4 i h1 h2)⟩
  · rcases y with y | ⟨m, m1, m2, m3, m4⟩
    · exact Or.inr ⟨k, k1, k2, by rw [← y k k1 k2]; exact k3, fun i h1 h2 => (k4 i h1 h2).trans (y i h1 (by omega))⟩
    · rcases Nat.lt_trichotomy k m with z | z | z
      · exact Or.inr ⟨k, k1, k2, by rw [← m4 k k1 z]; exact k3, fun i h1 h2 => (k4 i h1 h2).trans (m4 i h1 (by omega))⟩
      · subst z; exact Or.inr ⟨k, k1, k2, by omega, fun i h1 h2 => (k4 i h1 h2).trans (m4 i h1 h2)⟩
      · exact Or.inr ⟨m, m1, m2, by rw [k4 m m1 z]; exact m3, fun i h1 h2 => (k4 i h1 (by omega)).trans (m4 i h1 h2)⟩
theorem qLxN.an {d n : Nat} {a b : Nat → Nat} (x : qLxN d n a b) (y : qLxN d n b a) : ∀ i, d ≤ i → i < n → a i = b i := by
  rcases x with x | ⟨k, k1, k2, k3, k4⟩
  · exact x
  · rcases y with y | ⟨m, m1, m2, m3, m4⟩
    · exact fun i h1 h2 => (y i h1 h2).symm
    · exfalso
      rcases Nat.lt_trichotomy k m with z | z | z
      · have := m4 k k1 z; omega
      · subst z; omega
      · have := k4 m m1 z; omega
theorem qLxN.hd {d n : Nat} {a b : Nat → Nat} (hd : d < n) (h : a d < b d) : qLxN d n a b := Or.inr ⟨d, Nat.le_refl d, hd, h, fun i h1 h2 => absurd h2 (by omega)⟩
theorem qLxN.tl {d n : Nat} {a b : Nat → Nat} (h : a d = b d) (x : qLxN (d + 1) n a b) : qLxN d n a b := by
  have C : ∀ i, d ≤ i → i = d ∨ d + 1 ≤ i := fun i hi => by omega
  rcases x with x | ⟨k, k1, k2, k3, k4⟩
  · exact Or.inl fun i h1 h2 => by
      rcases C i h1 with z | z
      · rw [z]; exact h
      · exact x i z h2
  · exact Or.inr ⟨k, by omega, k2, k3, fun i h1 h2 => by
      rcases C i h1 with z | z
      · rw [z]; exact h
      · exact k4 i z h2⟩
theorem qLxN.le {d n : Nat} {a b : Nat → Nat} (hd : d < n) (x : qLxN d n a b) : a d ≤ b d := by
  rcases x with x | ⟨k, k1, k2, k3, k4⟩
  · exact Nat.le_of_eq (x d (Nat.le_refl d) hd)
  · by_cases z : k = d
    · rw [← z]; omega
    · exact Nat.le_of_eq (k4 d (Nat.le_refl d) (by omega))
section QLW
variable (n : Nat) (R : Nat → Nat) (f : Nat)
def qIm (r : Nat → Nat) (w : Nat) : Nat := qW n (fun p => w.testBit (r p))
def qWd (i : Nat) (s : Bool) : Nat := (R i ^^^ R f) ^^^ (if s then 2 ^ n - 1 else 0)
def qPm (r : Nat → Nat) : Prop := (∀ p, p < n → r p < n) ∧ ∀ i j, i < n → j < n → r i = r j → i = j
/-- rows d.. laid out of the rows not used, columns in keeping with the blocks -/
def qClf (U d : Nat) (l : List Nat) (cd : Nat) (e : Nat → Nat) : Prop := ∃ (sg : Nat → Nat) (ep : Nat → Bool) (r : Nat → Nat), qPm n r ∧ qBpl r 0 l ∧ (∀ i, d ≤ i → i < n → sg i < n ∧ U.testBit (sg i) = false ∧ e i = qIm n r (qWd n R f (sg i) (ep i))) ∧ (∀ i j, d ≤ i → i < n → d ≤ j → j < n → sg i = sg j → i = j) ∧ (d < n → 2 * sg d + (ep d).toNat < cd)
def qJl (U d : Nat) (l : List Nat) (L : Nat → Nat) (cd : Nat) (Lc : Nat → Nat) : Prop := (∀ i, i < d → Lc i = L i) ∧ qLxN d n Lc L ∧ (∀ e, qClf n R f U d l cd e → qLxN d n Lc e) ∧ ((∀ i, d ≤ i → i < n → Lc i = L i) ∨ qClf n R f U d l (2 * n) Lc)
variable {n R f}
theorem qBk_pm {l : List Nat} (k : qBk n l) (hn : n ≤ 6) : ∃ r, qPm n r ∧ qBpl r 0 l := by
  obtain ⟨r, a1, a2⟩ := qB_ex k.2.1
  rw [k.2.2] at a2
  refine ⟨r, ⟨fun p hp => ?_, a2⟩, a1⟩
  obtain ⟨B, b1, b2⟩ := qBp_mem a1 p (by rw [k.2.2]; exact hp)
  rw [Nat.zero_add] at b2
  by_cases z : r p < n
  · exact z
  · rw [Nat.testBit_lt_two_pow (Nat.lt_of_lt_of_le (k.1 B b1).2 (Nat.pow_le_pow_right (by decide) (by omega)))] at b2; cases b2
theorem qIm_le {l : List Nat} (k : qBk n l) (hn : n ≤ 6) {r : Nat → Nat} (p : qPm n r) (b : qBpl r 0 l) (w : Nat) : qBv w l ≤ qIm n r w ∧ (qBv w l = qIm n r w ↔ qBpl r 0 (qBs w l)) := by
  have p6 : 2 ^ n ≤ 2 ^ 6 := Nat.pow_le_pow_right (by decide) hn
  have := qB_le (w := w) (r := r) (l := l) (o := 0) (fun B hB => by have := (k.1 B hB).2; omega) (fun i j _ _ h1 h2 => p.2 i j (by rw [k.2.2] at h1; omega) (by rw [k.2.2] at h2; omega)) b
  rw [k.2.2] at this
  have e : (fun p => w.testBit (r (0 + p))) = (fun p => w.testBit (r p)) := by funext p; rw [Nat.zero_add]
  rw [e] at this
  exact this
/-- there is one -/
theorem qCl_ex {U d : Nat} {l : List Nat} (k : qBk n l) (hn : n ≤ 6) (hU : qc n (fun i => !U.testBit i) = n - d) : ∃ e, qClf n R f U d l (2 * n) e ∧ ∀ i, e i < 2 ^ n := by
  obtain ⟨r, p, b⟩ := qBk_pm k hn
  have nth : ∀ i, ∃ o, d ≤ i → i < n → (o < n ∧ U.testBit o = false ∧ qc o (fun i => !U.testBit i) = i - d) := by
    intro i
    by_cases z : d ≤ i ∧ i < n
    · obtain ⟨o, o1, o2, o3⟩ := qc_ex (p := fun i => !U.testBit i) (n := n) (w := i - d) (by omega)
      have o2' : U.testBit o = false := by
        have : (!U.testBit o) = true := o2
        cases h : U.testBit o
        · rfl
        · rw [h] at this; cases this
      exact ⟨o, fun _ _ => ⟨o1, o2', o3⟩⟩
    · exact ⟨0, fun h1 h2 => absurd ⟨h1, h2⟩ z⟩
  refine ⟨fun i => qIm n r (qWd n R f (Classical.choose (nth i)) false), ⟨fun i => Classical.choose (nth i), fun _ => false, r, p, b, fun i h1 h2 => ?_, fun i j h1 h2 h3 h4 e => ?_, fun hd => ?_⟩, fun i => qW_lt n _⟩
  · obtain ⟨a1, a2, -⟩ := Classical.choose_spec (nth i) h1 h2
    exact ⟨a1, a2, rfl⟩
  · obtain ⟨-, -, a3⟩ := Classical.choose_spec (nth i) h1 h2
    obtain ⟨-, -, b3⟩ := Classical.choose_spec (nth j) h3 h4
    have e' : Classical.choose (nth i) = Classical.choose (nth j) := e
    rw [e', b3] at a3
    omega
  · obtain ⟨a1, -, -⟩ := Classical.choose_spec (nth d) (Nat.le_refl d) hd
    show 2 * Classical.choose (nth d) + 0 < 2 * n
    omega
/-- a row that comes again may be passed over -/
theorem qCl_again {U d : Nat} {l : List Nat} {e : Nat → Nat} {i j : Nat} (hd : d < n) (hj : j < i) (hju : U.testBit j = false) (hji : R j ^^^ R i = 0 ∨ R j ^^^ R i = 2 ^ n - 1) {sg : Nat → Nat} {ep : Nat → Bool} {r : Nat → Nat} (p : qPm n r) (b : qBpl r 0 l) (v : ∀ i, d ≤ i → i < n → sg i < n ∧ U.testBit (sg i) = false ∧ e i = qIm n r (qWd n R f (sg i) (ep i))) (inj : ∀ i j, d ≤ i → i < n → d ≤ j → j < n → sg i = sg j → i = j) (hi : sg d = i) : qClf n R f U d l (2 * i) e := by
  obtain ⟨fl, hfl⟩ : ∃ fl : Bool, R j ^^^ R i = if fl then 2 ^ n - 1 else 0 := by
    rcases hji with z | z
    · exact ⟨false, z⟩
    · exact ⟨true, z⟩
  have eij : ∀ s, qWd n R f i s = qWd n R f j (s ^^ fl) := by
    intro s
    unfold qWd
    have : R i = R j ^^^ (if fl then 2 ^ n - 1 else 0) := by rw [← hfl, ← Nat.xor_assoc, Nat.xor_self, Nat.zero_xor]
    have e2 : ∀ X, R j ^^^ X ^^^ R f = R j ^^^ R f ^^^ X := fun X => by rw [Nat.xor_assoc, Nat.xor_comm X, ← Nat.xor_assoc]
    rw [this, e2, Nat.xor_assoc]
    congr 1
    cases s <;> cases fl <;> simp
  have eji : ∀ s, qWd n R f j s = qWd n R f i (s ^^ fl) := by
    intro s; rw [eij]; congr 1; cases s <;> cases fl <;> rfl
  have hin := (v d (Nat.le_refl d) hd).1
  rw [hi] at hin
  refine ⟨fun k => if sg k = i then j else if sg k = j then i else sg k, fun k => if sg k = i ∨ sg k = j then ep k ^^ fl else ep k, r, p, b, fun k h1 h2 => ?_, fun a c h1 h2 h3 h4 h5 => ?_, fun _ => ?_⟩
  · obtain ⟨v1, v2, v3⟩ := v k h1 h2
    by_cases z : sg k = i
    · simp only [z, if_true, true_or]
      exact ⟨by omega, hju, by rw [v3, z, eij]⟩
    · by_cases y : sg k = j
      · simp only [z, y, if_true, or_true, if_false]
        have : ¬ j = i := by omega
        simp only [this, if_false]
        refine ⟨by omega, by have := (v d (Nat.le_refl d) hd).2.1; rw [hi] at this; exact this, by rw [v3, y, eji]⟩
      · simp only [z, y, if_false, or_self]
        exact ⟨v1, v2, v3⟩
  · have h5' : (if sg a = i then j else if sg a = j then i else sg a) = (if sg c = i then j else if sg c = j then i else sg c) := h5
    apply inj a c h1 h2 h3 h4
    by_cases za : sg a = i
    · rw [if_pos za] at h5'
      by_cases zc : sg c = i
      · omega
      · rw [if_neg zc] at h5'
        by_cases yc : sg c = j
        · rw [if_pos yc] at h5'; omega
        · rw [if_neg yc] at h5'; omega
    · rw [if_neg za] at h5'
      by_cases ya : sg a = j
      · rw [if_pos ya] at h5'
        by_cases zc : sg c = i
        · rw [if_pos zc] at h5'; omega
        · rw [if_neg zc] at h5'
          by_cases yc : sg c = j
          · omega
          · rw [if_neg yc] at h5'; omega
      · rw [if_neg ya] at h5'
        by_cases zc : sg c = i
        · rw [if_pos zc] at h5'; omega
        · rw [if_neg zc] at h5'
          by_cases yc : sg c = j
          · rw [if_pos yc] at h5'; omega
          · rw [if_neg yc] at h5'; exact h5'
  · show 2 * (if sg d = i then j else if sg d = j then i else sg d) + _ < 2 * i
    rw [if_pos hi]
    have : ∀ x : Bool, x.toNat ≤ 1 := fun x => by cases x <;> decide
    have := this ((fun k => if sg k = i ∨ sg k = j then ep k ^^ fl else ep k) d)
    omega
theorem qJl_skip {U d : Nat} {l : List Nat} {L Lc : Nat → Nat} {i : Nat} {s : Bool} (hd : d < n) (J : qJl n R f U d l L (2 * i + s.toNat) Lc) (no : U.testBit i = true ∨ ∃ j, j < i ∧ U.testBit j = false ∧ (R j ^^^ R i = 0 ∨ R j ^^^ R i = 2 ^ n - 1)) : qJl n R f U d l L (2 * i + s.toNat + 1) Lc := by
  obtain ⟨j1, j2, j3, j4⟩ := J
  refine ⟨j1, j2, fun e he => ?_, j4⟩
  obtain ⟨sg, ep, r, p, b, v, inj, lt⟩ := he
  have b1 : ∀ x : Bool, x.toNat ≤ 1 := fun x => by cases x <;> decide
  have e1 := b1 s
  have e2 := b1 (ep d)
  by_cases z : 2 * sg d + (ep d).toNat < 2 * i + s.toNat
  · exact j3 e ⟨sg, ep, r, p, b, v, inj, fun _ => z⟩
  · have hlt := lt hd
    have hsi : sg d = i := by omega
    rcases no with no | ⟨j, hj, hju, hji⟩
    · have := (v d (Nat.le_refl d) hd).2.1
      rw [hsi, no] at this; cases this
    · obtain ⟨sg', ep', r', p', b', v', inj', lt'⟩ := qCl_again hd hj hju hji p b v inj hsi
      exact j3 e ⟨sg', ep', r', p', b', v', inj', fun _ => by have := lt' hd; omega⟩
/-- a row that is taken: a lesser first word, or the same and the rest behind it -/
theorem qJl_no {U d : Nat} {l : List Nat} (k : qBk n l) (hn : n ≤ 6) {L Lc : Nat → Nat} {i : Nat} {s : Bool} (hd : d < n) (J : qJl n R f U d l L (2 * i + s.toNat) Lc) (hv : Lc d < qBv (qWd n R f i s) l) : qJl n R f U d l L (2 * i + s.toNat + 1) Lc := by
  obtain ⟨j1, j2, j3, j4⟩ := J
  refine ⟨j1, j2, fun e he => ?_, j4⟩
  obtain ⟨sg, ep, r, p, b, v, inj, lt⟩ := he
  have b1 : ∀ x : Bool, x.toNat ≤ 1 := fun x => by cases x <;> decide
  have e1 := b1 s
  have e2 := b1 (ep d)
  by_cases z : 2 * sg d + (ep d).toNat < 2 * i + s.toNat
  · exact j3 e ⟨sg, ep, r, p, b, v, inj, fun _ => z⟩
  · have hlt := lt hd
    have hsi : sg d = i := by omega
    have hes : ep d = s := by
      have : (ep d).toNat = s.toNat := by omega
      revert this
      cases ep d <;> cases s <;> decide
    refine qLxN.hd hd ?_
    rw [(v d (Nat.le_refl d) hd).2.2, hsi, hes]
    exact Nat.lt_of_lt_of_le hv (qIm_le k hn p b _).1
theorem qJl_go {U d : Nat} {l : List Nat} (k : qBk n l) (hn : n ≤ 6) {L Lc L1 L2 : Nat → Nat} {i : Nat} {s : Bool} (hd : d < n) (hi : i < n) (hiu : U.testBit i = false) (hU : qc n (fun j => !(U ||| 2 ^ i).testBit j) = n - (d + 1)) (J : qJl n R f U d l L (2 * i + s.toNat) Lc) (hv : qBv (qWd n R f i s) l ≤ Lc d) (h1 : ∀ j, j < d → L1 j = Lc j) (h1d : L1 d = qBv (qWd n R f i s) l) (h1e : qBv (qWd n R f i s) l = Lc d → ∀ j, d < j → j < n → L1 j = Lc j) (h1l : qBv (qWd n R f i s) l < Lc d → ∀ j, d < j → j < n → L1 j = 64) (J2 : qJl n R f (U ||| 2 ^ i) (d + 1) (qBs (qWd n R f i s) l) L1 (2 * n) L2) : qJl n R f U d l L (2 * i + s.toNat + 1) L2 := by
  have p6 : 2 ^ n ≤ 2 ^ 6 := Nat.pow_le_pow_right (by decide) hn
  obtain ⟨j1, j2, j3, j4⟩ := J
  obtain ⟨q1, q2, q3, q4⟩ := J2
  generalize hw : qWd n R f i s = w at *
  have L2d : L2 d = qBv w l := (q1 d (by omega)).trans h1d
  have le : qLxN d n L2 Lc := by
    by_cases z : qBv w l = Lc d
    · refine qLxN.tl (by rw [L2d, z]) (q2.tr (Or.inl fun j a b => h1e z j (by omega) b))
    · exact qLxN.hd hd (by rw [L2d]; omega)
  have b1 : ∀ x : Bool, x.toNat ≤ 1 := fun x => by cases x <;> decide
  have e1 := b1 s
  -- what completes behind completes here
  have up : qClf n R f (U ||| 2 ^ i) (d + 1) (qBs w l) (2 * n) L2 → qClf n R f U d l (2 * n) L2 := by
    rintro ⟨sg, ep, r, p, b, v, inj, -⟩
    have bl := qBp_of_s b
    refine ⟨fun a => if a = d then i else sg a, fun a => if a = d then s else ep a, r, p, bl, fun a a1 a2 => ?_, fun a c a1 a2 c1 c2 ac => ?_, fun _ => ?_⟩
    · by_cases z : a = d
      · subst z
        simp only [if_true]
        refine ⟨hi, hiu, ?_⟩
        rw [L2d, hw]
        exact (qIm_le k hn p bl w).2.mpr b
      · simp only [z, if_false]
        obtain ⟨v1, v2, v3⟩ := v a (by omega) a2
        rw [Nat.testBit_or, Bool.or_eq_false_iff] at v2
        exact ⟨v1, v2.1, v3⟩
    · have ne : ∀ a, d ≤ a → a < n → a ≠ d → sg a ≠ i := by
        intro a a1 a2 a3 a4
        have := (v a (by omega) a2).2.1
        rw [Nat.testBit_or, Bool.or_eq_false_iff, a4, Nat.testBit_two_pow_self] at this
        exact absurd this.2 (by decide)
      have ac' : (if a = d then i else sg a) = (if c = d then i else sg c) := ac
      by_cases z : a = d
      · rw [if_pos z] at ac'
        by_cases y : c = d
        · omega
        · rw [if_neg y] at ac'; exact absurd ac'.symm (ne c c1 c2 y)
      · rw [if_neg z] at ac'
        by_cases y : c = d
        · rw [if_pos y] at ac'; exact absurd ac' (ne a a1 a2 z)
        · rw [if_neg y] at ac'; exact inj a c (by omega) a2 (by omega) c2 ac'
    · show 2 * (if d = d then i else sg d) + (if d = d then s else ep d).toNat < 2 * n
      rw [if_pos rfl, if_pos rfl]; omega
  refine ⟨fun j hj => by rw [q1 j (by omega), h1 j hj, j1 j hj], le.tr j2, fun e he => ?_, ?_⟩
  · obtain ⟨sg, ep, r, p, b, v, inj, lt⟩ := he
    have e2 := b1 (ep d)
    by_cases z : 2 * sg d + (ep d).toNat < 2 * i + s.toNat
    · exact le.tr (j3 e ⟨sg, ep, r, p, b, v, inj, fun _ => z⟩)
    · have hlt := lt hd
      have hsi : sg d = i := by omega
      have hes : ep d = s := by
        have : (ep d).toNat = s.toNat := by omega
        revert this
        cases ep d <;> cases s <;> decide
      have ed := (v d (Nat.le_refl d) hd).2.2
      rw [hsi, hes, hw] at ed
      obtain ⟨i1, i2⟩ := qIm_le k hn p b w
      by_cases y : qBv w l = qIm n r w
      · refine qLxN.tl (by rw [L2d, ed, y]) (q3 e ⟨sg, ep, r, p, i2.mp y, fun a a1 a2 => ?_, fun a c a1 a2 c1 c2 => inj a c (by omega) a2 (by omega) c2, fun h => ?_⟩)
        · obtain ⟨v1, v2, v3⟩ := v a (by omega) a2
          refine ⟨v1, ?_, v3⟩
          rw [Nat.testBit_or, v2, Nat.testBit_two_pow, decide_eq_false, Bool.or_false]
          intro x
          have := inj a d (by omega) a2 (Nat.le_refl d) hd (by rw [hsi, ← x])
          omega
        · have := (v (d + 1) (by omega) h).1
          have := b1 (ep (d + 1))
          omega
      · exact qLxN.hd hd (by rw [L2d, ed]; omega)
  · rcases q4 with q4 | q4
    · by_cases z : qBv w l = Lc d
      · have same : ∀ j, d ≤ j → j < n → L2 j = Lc j := fun j a b => by
          by_cases y : j = d
          · rw [y, L2d, z]
          · rw [q4 j (by omega) b, h1e z j (by omega) b]
        rcases j4 with j4 | j4
        · exact Or.inl fun j a b => (same j a b).trans (j4 j a b)
        · right
          obtain ⟨sg, ep, r, p, b, v, inj, lt⟩ := j4
          exact ⟨sg, ep, r, p, b, fun a a1 a2 => by rw [same a a1 a2]; exact v a a1 a2, inj, lt⟩
      · -- filled with 64: something lesser came
        right
        apply up
        obtain ⟨e, e1, e2⟩ := qCl_ex (R := R) (f := f) (U := U ||| 2 ^ i) (d := d + 1) (k.s (w := w)) hn hU
        by_cases y : d + 1 < n
        · exfalso
          have := (q3 e e1).le y
          have h64 := h1l (by omega) (d + 1) (by omega) y
          rw [q4 (d + 1) (Nat.le_refl _) y, h64] at this
          have := e2 (d + 1)
          omega
        · obtain ⟨sg, ep, r, p, b, v, inj, lt⟩ := e1
          exact ⟨sg, ep, r, p, b, fun a a1 a2 => absurd a1 (by omega), fun a c a1 a2 => absurd a1 (by omega), fun h => absurd h y⟩
    · exact Or.inr (up q4)
end QLW
