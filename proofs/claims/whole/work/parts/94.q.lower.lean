/-! PURE: form, the class's lower -/
theorem qI_nand {B : Nat} (y : Nat) (hB : B < 2 ^ 31) : nI B &&& (nI y ^^^ (-1 : Int32)) = nI (B ^^^ (B &&& y)) := by
  have m1 : (-1 : Int32) = nI (2 ^ 32 - 1) := by decide
  rw [m1, qI_xor, qI_and]
  congr 1
  apply Nat.eq_of_testBit_eq; intro i
  rw [qZb, Nat.testBit_and, Nat.testBit_xor, Nat.testBit_two_pow_sub_one]
  by_cases z : i < 32
  · rw [decide_eq_true z, Bool.xor_true]
  · rw [Nat.testBit_lt_two_pow (x := B) (Nat.lt_of_lt_of_le hB (Nat.pow_le_pow_right (by decide) (by omega))), Bool.false_and, Bool.false_and]
theorem qNandN {n B y : Nat} (hB : B < 2 ^ n) : B ^^^ (B &&& y) = B &&& (y ^^^ (2 ^ n - 1)) ∧ B ^^^ (B &&& (y ^^^ (2 ^ n - 1))) = B &&& y := by
  constructor <;> apply Nat.eq_of_testBit_eq <;> intro i <;> simp only [Nat.testBit_and, Nat.testBit_xor, Nat.testBit_two_pow_sub_one]
  · by_cases z : i < n
    · rw [decide_eq_true z]; cases B.testBit i <;> cases y.testBit i <;> rfl
    · rw [Nat.testBit_lt_two_pow (x := B) (Nat.lt_of_lt_of_le hB (Nat.pow_le_pow_right (by decide) (by omega)))]; rfl
  · by_cases z : i < n
    · rw [decide_eq_true z]; cases B.testBit i <;> cases y.testBit i <;> rfl
    · rw [Nat.testBit_lt_two_pow (x := B) (Nat.lt_of_lt_of_le hB (Nat.pow_le_pow_right (by decide) (by omega)))]; rfl
def qC38 (k : Nat) : Prop := 39 ≤ k ∧ k ≤ 41
section QLO
variable {A : qA} {t n f : Nat} {R : Nat → Nat} {bs : Int32} {f39 f40 f41 : Nat → Int32} {h : mH}
theorem x_fillR (q : qX h A) (m : qFm h t n bs f39 f40 f41) {d : Nat} (hd : d ≤ n) (hn : n ≤ 6) : ∃ h' g39, f_J7_fill_fda19 (some 39) (nI d) (nI n) 64 h = some h' ∧ qX h' A ∧ qFm h' t n bs g39 f40 f41 ∧ qSame (fun z => z = 39) h h' ∧ (∀ p, p < d → g39 p = f39 p) ∧ ∀ p, d ≤ p → p < n → g39 p = nI 64 := by
  unfold f_J7_fill_fda19 f_J7_rangeCheck_23922
  rw [qLn (by rw [q.1]; decide) m.2.1, qbind, if_pos (by rw [qle (by omega) (by omega)]; omega), if_pos (by rw [qI_zero, qle (by decide) (by omega)]; omega), if_pos (by rw [qle (by omega) (by omega)]; omega), qbind]
  unfold f_J7_fill_fda19_l10
  have R := mLoop_inv (b := fun x : Int32 × mH => f_J7_fill_fda19_b10 (some 39) (nI n) 64 x.1 x.2) (fun k (s : Int32 × mH) => s.1 = nI (d + k) ∧ qX s.2 A ∧ qSame (fun z => z = 39) h s.2 ∧ ∃ g39, qFm s.2 t n bs g39 f40 f41 ∧ (∀ p, p < d → g39 p = f39 p) ∧ ∀ p, d ≤ p → p < d + k → g39 p = nI 64) (n - d) (fun h' => qX h' A ∧ qSame (fun z => z = 39) h h' ∧ ∃ g39, qFm h' t n bs g39 f40 f41 ∧ (∀ p, p < d → g39 p = f39 p) ∧ ∀ p, d ≤ p → p < n → g39 p = nI 64) (s0 := (nI d, h)) ⟨rfl, q, qSame.rf, f39, m, fun _ _ => rfl, fun p h1 h2 => absurd h2 (by omega)⟩ ?_ ?_
  · obtain ⟨h', e, q', s', g39, m', a, b⟩ := R
    exact ⟨h', g39, e, q', m', s', a, b⟩
  · rintro k ⟨a, hk⟩ hkn ⟨rfl, qk', sk, g, mk', a1, a2⟩
    have qk : qX hk A := qk'
    have mk : qFm hk t n bs g f40 f41 := mk'
    obtain ⟨h2, p2, q2, m2, s2⟩ := mk.st39 qk (i := d + k) (by omega) (nI 64)
    refine ⟨(nI (d + (k + 1)), h2), ?_, rfl, q2, sk.trans s2, _, m2, fun p hp => by rw [qUpn (by omega)]; exact a1 p hp, fun p h1 h2 => ?_⟩
    · show f_J7_fill_fda19_b10 (some 39) (nI n) 64 (nI (d + k)) hk = _
      unfold f_J7_fill_fda19_b10
      rw [if_neg (by rw [qle (by omega) (by omega)]; omega), show (64 : Int32) = nI 64 from rfl, p2, qbind, nI_1, Nat.add_assoc]
    · by_cases z : p = d + k
      · rw [z, qUps]
      · rw [qUpn z]; exact a2 p h1 (by omega)
  · rintro ⟨a, hk⟩ ⟨rfl, qk, sk, g, mk, a1, a2⟩
    refine ⟨hk, ?_, qk, sk, g, mk, a1, fun p h1 h2 => a2 p h1 (by omega)⟩
    show f_J7_fill_fda19_b10 (some 39) (nI n) 64 (nI (d + (n - d))) hk = _
    unfold f_J7_fill_fda19_b10
    rw [if_pos (by rw [qle (by omega) (by omega)]; omega)]
theorem x_lower (w : qWA A) (h6 : t < 6) (ht : (A.1 t).1 = n) (hR : (A.1 t).2.1 = R) (hn : n ≤ 6) (hf : f < n) : ∀ (dd nf d U : Nat) (l : List Nat) (h : mH) (f39 f40 f41 : Nat → Int32) (L : Nat → Nat), dd < nf → d + dd = n → U < 2 ^ n → qc n (fun i => !U.testBit i) = n - d → qBk n l → qX h A → qFm h t n (nI (R f)) f39 f40 f41 → (∀ i, i < n → f39 i = nI (L i) ∧ L i ≤ 64) → (f41 d = nI l.length ∧ qAt f40 (6 * d) l) → ∃ h' g39 g40 g41 L', f_X3_lower nf (some 38) (nI d) (nI U) h = some h' ∧ qX h' A ∧ qFm h' t n (nI (R f)) g39 g40 g41 ∧ qSame qC38 h h' ∧ (∀ p, p < 6 * (d + 1) → g40 p = f40 p) ∧ (∀ p, p ≤ d → g41 p = f41 p) ∧ (∀ i, i < n → g39 i = nI (L' i) ∧ L' i ≤ 64) ∧ qJl n R f U d l L (2 * n) L' := by
  have p6 : 2 ^ n ≤ 2 ^ 6 := Nat.pow_le_pow_right (by decide) hn
  have Rlt : ∀ i, i < n → R i < 2 ^ n := fun i hi => by
    have := (w.1 t h6).2.1 i (by omega)
    rw [hR, ht] at this
    exact this
  intro dd
  induction dd with
  | zero =>
    intro nf d U l h f39 f40 f41 L hnf hdn hU hUc k q m u39 ba
    obtain ⟨nf', rfl⟩ : ∃ nf', nf = nf' + 1 := ⟨nf - 1, by omega⟩
    refine ⟨h, f39, f40, f41, L, ?_, q, m, qSame.rf, fun _ _ => rfl, fun _ _ => rfl, u39, fun _ _ => rfl, qLxN.rf, fun e _ => Or.inl fun i h1 h2 => absurd h1 (by omega), Or.inl fun _ _ _ => rfl⟩
    show f_X3_lower_r (f_X3_lower nf') (some 38) (nI d) (nI U) h = _
    unfold f_X3_lower_r
    rw [(m.o q).2.1, qbind, if_pos (by rw [qle (by omega) (by omega)]; omega)]
  | succ dd ih =>
    intro nf d U l h f39 f40 f41 L hnf hdn hU hUc k q m u39 ba
    obtain ⟨nf', rfl⟩ : ∃ nf', nf = nf' + 1 := ⟨nf - 1, by omega⟩
    have hd : d < n := by omega
    show ∃ h' g39 g40 g41 L', f_X3_lower_r (f_X3_lower nf') (some 38) (nI d) (nI U) h = some h' ∧ _
    unfold f_X3_lower_r
    rw [(m.o q).2.1, qbind, if_neg (by rw [qle (by omega) (by omega)]; omega), if_pos (by rw [qL6, qlt (by omega) (by decide)]; omega)]
    unfold f_X3_lower_l17
    have LOOP := mLoop_inv (b := fun x : Int32 × mH => f_X3_lower_b17 (f_X3_lower nf') (some 38) (nI d) (nI U) x.1 x.2) (fun c (s : Int32 × mH) => s.1 = nI c ∧ ∃ g39 g40 g41 Lc, qX s.2 A ∧ qFm s.2 t n (nI (R f)) g39 g40 g41 ∧ qSame qC38 h s.2 ∧ (∀ p, p < 6 * (d + 1) → g40 p = f40 p) ∧ (∀ p, p ≤ d → g41 p = f41 p) ∧ (∀ i, i < n → g39 i = nI (Lc i) ∧ Lc i ≤ 64) ∧ qJl n R f U d l L c Lc) (2 * n) (fun h' => ∃ g39 g40 g41 Lc, qX h' A ∧ qFm h' t n (nI (R f)) g39 g40 g41 ∧ qSame qC38 h h' ∧ (∀ p, p < 6 * (d + 1) → g40 p = f40 p) ∧ (∀ p, p ≤ d → g41 p = f41 p) ∧ (∀ i, i < n → g39 i = nI (Lc i) ∧ Lc i ≤ 64) ∧ qJl n R f U d l L (2 * n) Lc) (s0 := (nI 0, h)) ⟨rfl, f39, f40, f41, L, q, m, qSame.rf, fun _ _ => rfl, fun _ _ => rfl, u39, fun _ _ => rfl, qLxN.rf, fun e he => by
        obtain ⟨sg, ep, r, p, b, v, inj, lt⟩ := he
        exact absurd (lt hd) (Nat.not_lt_zero _), Or.inl fun _ _ _ => rfl⟩ ?_ ?_
    · obtain ⟨h', e, g39, g40, g41, L', a1, a2, a3, a4, a5, a6, a7⟩ := LOOP
      exact ⟨h', g39, g40, g41, L', e, a1, a2, a3, a4, a5, a6, a7⟩
    · rintro c ⟨a, hc⟩ hcn ⟨rfl, g39, g40, g41, Lc, qc0, mc0, sc, kc40, kc41, uc, Jc⟩
      have q1 : qX hc A := qc0
      have m1 : qFm hc t n (nI (R f)) g39 g40 g41 := mc0
      have o1 := m1.o q1
      have esh : nI c >>> ((1 : Int32) &&& 31) = nI (c / 2) := by rw [qI_one, qI_shr (by omega) (by decide), Nat.pow_one]
      have ea : nI c &&& 1 = nI (c % 2) := by rw [qI_one, qI_and, Nat.and_one_is_mod]
      obtain ⟨i, s, hi, hcs⟩ : ∃ (i : Nat) (s : Bool), c / 2 = i ∧ c = 2 * i + s.toNat := by
        by_cases z : c % 2 = 0
        · exact ⟨c / 2, false, rfl, by show c = 2 * (c / 2) + 0; omega⟩
        · exact ⟨c / 2, true, rfl, by show c = 2 * (c / 2) + 1; omega⟩
      have sle : s.toNat ≤ 1 := by cases s <;> decide
      have hin : i < n := by omega
      have Jc' : qJl n R f U d l L (2 * i + s.toNat) Lc := by rw [← hcs]; exact Jc
      have again := x_isAgain (u := t) (S := R) (n := n) q1 w h6 ht hR (by omega) (i := i) (us := U) hin (by omega)
      -- a row passed over
      have SKIP : (U.testBit i = true ∨ ∃ j, j < i ∧ U.testBit j = false ∧ (R j ^^^ R i = 0 ∨ R j ^^^ R i = 2 ^ n - 1)) → f_X3_lower_b17 (f_X3_lower nf') (some 38) (nI d) (nI U) (nI c) hc = some (.inl (nI (c + 1), hc)) → ∃ s' : Int32 × mH, f_X3_lower_b17 (f_X3_lower nf') (some 38) (nI d) (nI U) (nI c) hc = some (.inl s') ∧ s'.1 = nI (c + 1) ∧ ∃ g39 g40 g41 Lc, qX s'.2 A ∧ qFm s'.2 t n (nI (R f)) g39 g40 g41 ∧ qSame qC38 h s'.2 ∧ (∀ p, p < 6 * (d + 1) → g40 p = f40 p) ∧ (∀ p, p ≤ d → g41 p = f41 p) ∧ (∀ i, i < n → g39 i = nI (Lc i) ∧ Lc i ≤ 64) ∧ qJl n R f U d l L (c + 1) Lc := by
        intro hno hb
        refine ⟨(nI (c + 1), hc), hb, rfl, g39, g40, g41, Lc, q1, m1, sc, kc40, kc41, uc, ?_⟩
        rw [hcs]
        exact qJl_skip hd Jc' hno
      show ∃ s' : Int32 × mH, f_X3_lower_b17 (f_X3_lower nf') (some 38) (nI d) (nI U) (nI c) hc = some (.inl s') ∧ _
      have PRE : f_X3_lower_b17 (f_X3_lower nf') (some 38) (nI d) (nI U) (nI c) hc = if qB2I (U.testBit i) = 0 then (if qB2I (!decide (∀ j, j < i → ¬ (U.testBit j = false ∧ (R j ^^^ R i = 0 ∨ R j ^^^ R i = 2 ^ n - 1)))) = 0 then (if nI (c % 2) = 0 then f_X3_lower_c87 (f_X3_lower nf') (some 38) (nI d) (nI U) (nI c) (nI i) (nI (R i) ^^^ nI (R f)) hc else f_X3_lower_c87 (f_X3_lower nf') (some 38) (nI d) (nI U) (nI c) (nI i) ((nI (R i) ^^^ nI (R f)) ^^^ (-1 : Int32)) hc) else some (Sum.inl (nI (c + 1), hc))) else some (Sum.inl (nI (c + 1), hc)) := by
        unfold f_X3_lower_b17
        have ra := x_rowAt q1 h6 (i := i) (by omega) (by omega)
        rw [hR] at ra
        rw [o1.2.1, qbind, if_neg (by rw [qL2, qI_mul, qle (by omega) (by omega)]; omega), esh, hi, x_inSet (by omega) (by omega), qbind, o1.2.2.1, qbind, qbind, again, qbind, qbind, ra, qbind, o1.2.2.2.1, qbind, ea, nI_1]
      cases hus : U.testBit i
      · rw [hus, qif0] at PRE
        by_cases hag : ∀ j, j < i → ¬ (U.testBit j = false ∧ (R j ^^^ R i = 0 ∨ R j ^^^ R i = 2 ^ n - 1))
        · rw [decide_eq_true hag, Bool.not_true, qif0] at PRE
          -- the word
          obtain ⟨x, hx, hx1, hx2⟩ : ∃ x : Int32, f_X3_lower_b17 (f_X3_lower nf') (some 38) (nI d) (nI U) (nI c) hc = f_X3_lower_c87 (f_X3_lower nf') (some 38) (nI d) (nI U) (nI c) (nI i) x hc ∧ (∀ B, B < 2 ^ n → nI B &&& x = nI (B &&& qWd n R f i s)) ∧ (∀ B, B < 2 ^ n → nI B &&& (x ^^^ (-1 : Int32)) = nI (B ^^^ (B &&& qWd n R f i s))) := by
            cases s
            · refine ⟨nI (R i) ^^^ nI (R f), ?_, fun B hB => ?_, fun B hB => ?_⟩
              · rw [PRE, if_pos (by have : c = 2 * i + 0 := hcs; rw [show c % 2 = 0 by omega]; rfl)]
              · rw [qI_xor, qI_and]; unfold qWd; rw [if_neg (by decide), Nat.xor_zero]
              · rw [qI_xor, qI_nand _ (by omega)]; unfold qWd; rw [if_neg (by decide), Nat.xor_zero]
            · refine ⟨(nI (R i) ^^^ nI (R f)) ^^^ (-1 : Int32), ?_, fun B hB => ?_, fun B hB => ?_⟩
              · rw [PRE, if_neg (by have : c = 2 * i + 1 := hcs; rw [show c % 2 = 1 by omega]; decide)]
              · rw [qI_xor, qI_nand _ (by omega), (qNandN hB).1]; unfold qWd; rw [if_pos rfl]
              · rw [Int32.xor_assoc, Int32.xor_self, Int32.xor_zero, qI_xor, qI_and]; unfold qWd; rw [if_pos rfl, (qNandN hB).2]
          rw [hx]
          obtain ⟨h2, e40, e41, p2, q2, m2, s2, k240, k241, b2, b3⟩ := x_split hx1 hx2 hn (d := d) (by omega) k q1 m1 ⟨by rw [kc41 d (Nat.le_refl d)]; exact ba.1, qAt_same (fun p h1 h2 => kc40 p (by have ll := qBk_len hn k.1; rw [k.2.2] at ll; omega)) ba.2⟩
          have o2 := m2.o q2
          have vlt := qBv_lt (qWd n R f i s) l
          rw [k.2.2] at vlt
          obtain ⟨uL, lL⟩ := uc d hd
          have s12 : qSame qC38 h h2 := sc.trans (s2.mono fun z y => by unfold qC40 at y; unfold qC38; omega)
          have keep40 : ∀ p, p < 6 * (d + 1) → e40 p = f40 p := fun p hp => by rw [k240 p hp, kc40 p hp]
          have keep41 : ∀ p, p ≤ d → e41 p = f41 p := fun p hp => by rw [k241 p hp, kc41 p hp]
          have PRE2 : f_X3_lower_c87 (f_X3_lower nf') (some 38) (nI d) (nI U) (nI c) (nI i) x hc = if nI (Lc d) ≤ nI (qBv (qWd n R f i s) l) then f_X3_lower_c129 (f_X3_lower nf') (some 38) (nI d) (nI U) (nI c) (nI i) (nI (qBv (qWd n R f i s) l)) h2 else (f_J7_fill_fda19 (some 39) (nI d) (nI n) (64 : Int32) h2).bind fun x6 => (mGR x6 (some 38) 2 3).bind fun x7 => (mSI x6 x7 (nI d) (nI (qBv (qWd n R f i s) l))).bind fun h8 => f_X3_lower_c129 (f_X3_lower nf') (some 38) (nI d) (nI U) (nI c) (nI i) (nI (qBv (qWd n R f i s) l)) h8 := by
            unfold f_X3_lower_c87
            rw [p2, qbind]
            dsimp only
            rw [o2.2.2.2.2.1, qbind, q2.atW m2.2.1 (by decide) (by decide) (by omega), qbind, uL, qbind, o2.2.1, qbind]
          have hU' : U ||| 2 ^ i < 2 ^ n := Nat.or_lt_two_pow hU (Nat.pow_lt_pow_right (by decide) hin)
          have hUc' : qc n (fun j => !(U ||| 2 ^ i).testBit j) = n - (d + 1) := by
            have e1 := qc_not n (fun j => (U ||| 2 ^ i).testBit j)
            have e2 := qc_not n (fun j => U.testBit j)
            have e3 := qc_set n (fun j => U.testBit j) i
            rw [if_pos ⟨hin, hus⟩] at e3
            have e4 : qc n (fun j => (U ||| 2 ^ i).testBit j) = qc n (fun j => U.testBit j || decide (i = j)) := qc_eq fun j _ => by rw [Nat.testBit_or, Nat.testBit_two_pow]
            have e1' : qc n (fun j => !(U ||| 2 ^ i).testBit j) + qc n (fun j => (U ||| 2 ^ i).testBit j) = n := e1
            have e2' : qc n (fun j => !U.testBit j) + qc n (fun j => U.testBit j) = n := e2
            omega
          -- behind it
          have GO : ∀ (h3 : mH) (g39' : Nat → Int32) (L1 : Nat → Nat), qX h3 A → qFm h3 t n (nI (R f)) g39' e40 e41 → qSame qC38 h h3 → (∀ j, j < n → g39' j = nI (L1 j) ∧ L1 j ≤ 64) → qBv (qWd n R f i s) l ≤ Lc d → (∀ j, j < d → L1 j = Lc j) → L1 d = qBv (qWd n R f i s) l → (qBv (qWd n R f i s) l = Lc d → ∀ j, d < j → j < n → L1 j = Lc j) → (qBv (qWd n R f i s) l < Lc d → ∀ j, d < j → j < n → L1 j = 64) → ∃ s' : Int32 × mH, f_X3_lower_c129 (f_X3_lower nf') (some 38) (nI d) (nI U) (nI c) (nI i) (nI (qBv (qWd n R f i s) l)) h3 = some (.inl s') ∧ s'.1 = nI (c + 1) ∧ ∃ g39 g40 g41 Lc, qX s'.2 A ∧ qFm s'.2 t n (nI (R f)) g39 g40 g41 ∧ qSame qC38 h s'.2 ∧ (∀ p, p < 6 * (d + 1) → g40 p = f40 p) ∧ (∀ p, p ≤ d → g41 p = f41 p) ∧ (∀ i, i < n → g39 i = nI (Lc i) ∧ Lc i ≤ 64) ∧ qJl n R f U d l L (c + 1) Lc := by
            intro h3 g39' L1 q3 m3 s3 u3 hle l1 l2 l3 l4
            have o3 := m3.o q3
            obtain ⟨h4, j39, j40, j41, L2, p4, q4, m4, s4, k4, k4', u4, J4⟩ := ih nf' (d + 1) (U ||| 2 ^ i) (qBs (qWd n R f i s) l) h3 g39' e40 e41 L1 (by omega) (by omega) hU' hUc' k.s q3 m3 u3 ⟨b2, b3⟩
            refine ⟨(nI (c + 1), h4), ?_, rfl, j39, j40, j41, L2, q4, m4, s3.trans s4, fun p hp => by rw [k4 p (by omega), keep40 p hp], fun p hp => by rw [k4' p (by omega), keep41 p hp], u4, ?_⟩
            · unfold f_X3_lower_c129
              rw [o3.2.2.2.2.1, qbind, q3.atW m3.2.1 (by decide) (by decide) (by omega), qbind, (u3 d hd).1, l2, if_pos rfl, qI_pow (by omega), qI_or, nI_1 d, p4, qbind, nI_1 c]
            · rw [hcs]
              exact qJl_go k hn hd hin hus hUc' Jc' hle l1 l2 l3 l4 J4
          rw [PRE2]
          rcases Nat.lt_trichotomy (Lc d) (qBv (qWd n R f i s) l) with z | z | z
          · rw [if_pos (by rw [qle (by omega) (by omega)]; omega)]
            refine ⟨(nI (c + 1), h2), ?_, rfl, g39, e40, e41, Lc, q2, m2, s12, keep40, keep41, uc, ?_⟩
            · unfold f_X3_lower_c129
              rw [o2.2.2.2.2.1, qbind, q2.atW m2.2.1 (by decide) (by decide) (by omega), qbind, uL, if_neg (by rw [qeq (by omega) (by omega)]; omega), nI_1 c]
            · rw [hcs]
              exact qJl_no k hn hd Jc' z
          · rw [if_pos (by rw [qle (by omega) (by omega)]; omega)]
            exact GO h2 g39 Lc q2 m2 s12 uc (by omega) (fun _ _ => rfl) z (fun _ _ _ _ => rfl) (fun y => absurd y (by omega))
          · rw [if_neg (by rw [qle (by omega) (by omega)]; omega)]
            obtain ⟨h3, g3, p3, q3, m3, s3, a3, b3'⟩ := x_fillR q2 m2 (d := d) (by omega) hn
            obtain ⟨h4, p4, q4, m4, s4⟩ := m3.st39 q3 (i := d) (by omega) (nI (qBv (qWd n R f i s) l))
            rw [p3, qbind, (m3.o q3).2.2.2.2.1, qbind, p4, qbind]
            refine GO h4 _ (fun j => if j < d then Lc j else if j = d then qBv (qWd n R f i s) l else 64) q4 m4 ((s12.trans (s3.mono fun z y => by unfold qC38; omega)).trans (s4.mono fun z y => by unfold qC38; omega)) (fun j hj => ?_) (by omega) (fun j hj => if_pos hj) ?_ (fun y => absurd y (by omega)) (fun _ j h1 h2 => ?_)
            · by_cases y : j < d
              · rw [if_pos y, qUpn (by omega), a3 j y]; exact uc j hj
              · by_cases y2 : j = d
                · rw [if_neg y, if_pos y2, y2, qUps]; exact ⟨rfl, by omega⟩
                · rw [if_neg y, if_neg y2, qUpn y2, b3' j (by omega) hj]; exact ⟨rfl, Nat.le_refl _⟩
            · show (if d < d then _ else _) = _
              rw [if_neg (by omega), if_pos rfl]
            · show (if j < d then _ else _) = _
              rw [if_neg (by omega), if_neg (by omega)]
        · rw [decide_eq_false hag, Bool.not_false, qif1] at PRE
          refine SKIP (Or.inr ?_) PRE
          refine Classical.byContradiction fun hc => hag fun j hj hh => hc ⟨j, hj, hh.1, hh.2⟩
      · rw [hus, qif1] at PRE
        exact SKIP (Or.inl hus) PRE
    · rintro ⟨a, hc⟩ ⟨rfl, g39, g40, g41, Lc, q1, m1, r⟩
      refine ⟨hc, ?_, g39, g40, g41, Lc, q1, m1, r⟩
      show f_X3_lower_b17 (f_X3_lower nf') (some 38) (nI d) (nI U) (nI (2 * n)) hc = _
      unfold f_X3_lower_b17
      rw [(qFm.o (h := hc) m1 q1).2.1, qbind, qL2, qI_mul, if_pos (by rw [qle (by omega) (by omega)]; omega)]
end QLO
