/-! PURE: symmetries, the class's side -/
def qProd : Nat → (Nat → Nat) → Nat
  | 0, _ => 1
  | n + 1, f => qProd n f * f n
def qFac : Nat → Nat
  | 0 => 1
  | n + 1 => qFac n * (n + 1)
theorem qProd_eq {d : Nat} {f g : Nat → Nat} (h : ∀ i, i < d → f i = g i) : qProd d f = qProd d g := by
  induction d with
  | zero => rfl
  | succ d ih =>
    show qProd d f * f d = qProd d g * g d
    rw [ih fun i hi => h i (by omega), h d (by omega)]
theorem qProd_one {d i0 x : Nat} {f g : Nat → Nat} (hi : i0 < d) (h : ∀ i, i < d → i ≠ i0 → f i = g i) (h0 : f i0 = g i0 * x) : qProd d f = qProd d g * x := by
  induction d with
  | zero => omega
  | succ d ih =>
    show qProd d f * f d = qProd d g * g d * x
    by_cases e : i0 = d
    · subst e
      rw [qProd_eq (fun i hi' => h i (by omega) (by omega)), h0, Nat.mul_assoc]
    · rw [ih (by omega) fun i h1 h2 => h i (by omega) h2, h d (by omega) (fun z => e z.symm), Nat.mul_assoc, Nat.mul_assoc, Nat.mul_comm x]
theorem qSum_add (d : Nat) (f g : Nat → Nat) : qSum d (fun i => f i + g i) = qSum d f + qSum d g := by
  induction d with
  | zero => rfl
  | succ d ih =>
    show qSum d _ + (f d + g d) = qSum d f + f d + (qSum d g + g d)
    omega
theorem qSum_c (d : Nat) (p : Nat → Bool) : qSum d (fun i => (p i).toNat) = qc d p := by
  induction d with
  | zero => rfl
  | succ d ih => show qSum d _ + (p d).toNat = qc d p + (p d).toNat; rw [ih]
theorem qc_pos {d : Nat} {p : Nat → Bool} {i : Nat} (hi : i < d) (hp : p i = true) : 1 ≤ qc d p := by
  by_cases z : qc d p = 0
  · have := qc_zero.mp z i hi
    rw [hp] at this; cases this
  · omega
theorem qc_one {d : Nat} {p : Nat → Bool} (h : qc d p = 1) : ∃ i0, i0 < d ∧ p i0 = true ∧ ∀ i, i < d → i ≠ i0 → p i = false := by
  obtain ⟨i0, a1, a2, a3⟩ := qc_ex (p := p) (n := d) (w := 0) (by omega)
  refine ⟨i0, a1, a2, fun i hi hne => ?_⟩
  cases hp : p i
  · rfl
  · exfalso
    rcases Nat.lt_or_gt_of_ne hne with z | z
    · have := qc_lt hp z; omega
    · have b1 := qc_lt a2 z
      have b2 := qc_lt hp hi
      omega
/-- the ways of columns: by classes, or one by one -/
theorem qFacP {n : Nat} {R c : Nat → Nat} {k cc : Nat} {r : Nat → Nat} (hr : ∀ i, i < cc → r i < n) (cov : ∀ j, j < n → ∃ i, i < cc ∧ qHH n R c k (r i) j = true) (sum : qSum cc (fun i => qc n (qHH n R c k (r i))) = n) : qProd n (fun j => qc j (qHH n R c k j) + 1) = qProd cc (fun i => qFac (qc n (qHH n R c k (r i)))) := by
  have N1 : ∀ m, qSum cc (fun i => qc (m + 1) (qHH n R c k (r i))) = qSum cc (fun i => qc m (qHH n R c k (r i))) + qc cc (fun i => qHH n R c k (r i) m) := by
    intro m
    rw [← qSum_c, ← qSum_add]
    rfl
  have K1 : ∀ m, m < n → 1 ≤ qc cc (fun i => qHH n R c k (r i) m) := by
    intro m hm
    obtain ⟨i, i1, i2⟩ := cov m hm
    exact qc_pos (p := fun i => qHH n R c k (r i) m) i1 i2
  have up : ∀ m, m ≤ n → m ≤ qSum cc (fun i => qc m (qHH n R c k (r i))) := by
    intro m
    induction m with
    | zero => intro _; exact Nat.zero_le _
    | succ m ih => intro hm; have := ih (by omega); have := K1 m (by omega); rw [N1]; omega
  have down : ∀ d m, m + d = n → qSum cc (fun i => qc m (qHH n R c k (r i))) + d ≤ n := by
    intro d
    induction d with
    | zero => intro m hm; rw [show m = n by omega, sum]; exact Nat.le_refl _
    | succ d ih => intro m hm; have := ih (m + 1) (by omega); have := K1 m (by omega); rw [N1] at *; omega
  have one : ∀ m, m < n → qc cc (fun i => qHH n R c k (r i) m) = 1 := by
    intro m hm
    have a := up (m + 1) (by omega)
    have b := down (n - (m + 1)) (m + 1) (by omega)
    have a' := up m (by omega)
    have b' := down (n - m) m (by omega)
    have := N1 m
    omega
  have main : ∀ m, m ≤ n → qProd m (fun j => qc j (qHH n R c k j) + 1) = qProd cc (fun i => qFac (qc m (qHH n R c k (r i)))) := by
    intro m
    induction m with
    | zero =>
      intro _
      show 1 = qProd cc (fun _ => 1)
      have : ∀ d, qProd d (fun _ => 1) = 1 := by
        intro d
        induction d with
        | zero => rfl
        | succ d ih => show qProd d _ * 1 = 1; rw [ih]
      exact (this cc).symm
    | succ m ih =>
      intro hm
      obtain ⟨i0, a1, a2, a3⟩ := qc_one (one m (by omega))
      show qProd m _ * (qc m (qHH n R c k m) + 1) = _
      rw [ih (by omega)]
      symm
      refine qProd_one a1 (fun i hi hne => ?_) ?_
      · show qFac (qc m (qHH n R c k (r i)) + (qHH n R c k (r i) m).toNat) = _
        rw [a3 i hi hne]
        rfl
      · show qFac (qc m (qHH n R c k (r i0)) + (qHH n R c k (r i0) m).toNat) = _
        rw [a2, qc_eq (fun z _ => qHH_tr n R a2 z)]
        rfl
  exact main n (Nat.le_refl n)
def qIdc : Nat → Nat := fun e => 2 * e
section QSYP
variable (n : Nat) (R : Nat → Nat)
theorem qAg_id (k : Nat) : qAg n R R qIdc k = true := by
  unfold qAg
  rw [decide_eq_true_eq]
  intro j hj
  refine qc_eq fun o ho => ?_
  apply qBeq
  rw [qHH_iff, qHT_iff]
  have X : ∀ e z, z < n → qYb R qIdc e z = qXb n R qIdc e z := by
    intro e z hz
    unfold qXb qYb
    rw [qXw_bit n R _ _ hz, qXw_bit n R _ _ hz]
    have p : ∀ e, decide (qIdc e % 2 = 1) = false := fun e => decide_eq_false (by unfold qIdc; omega)
    rw [p, p, Bool.xor_false, Bool.xor_false, show qIdc e / 2 = e by unfold qIdc; omega, show qIdc 0 / 2 = 0 by unfold qIdc; omega]
  constructor <;> intro z e he <;> have := z e he
  · rw [X e o ho]; exact this
  · rw [X e o ho] at this; exact this
theorem qOkm_id (k : Nat) : qOkm n R R qIdc k = true := by
  unfold qOkm
  rw [qAg_id, Bool.and_true]
  unfold qFrs
  rw [decide_eq_true_eq]
  intro e he z
  unfold qIdc at z
  omega
def qCnd (k to : Nat) : Bool := qOkm n R R (va_up qIdc k to) k && (qFnd (qOkm n R R) (2 * n) (n - (k + 1)) (k + 1) (va_up qIdc k to)).isSome
end QSYP
theorem qFac12 : ∀ m, m < 13 → mLoopN (fun x : Int64 × Int32 => f_X4_orders_b4 (nI m) x.1 x.2) 14 (1, 2) = some (lN (qFac m)) := by decide +kernel
theorem x_orders {m : Nat} (h : m ≤ 12) : f_X4_orders (nI m) = some (lN (qFac m)) := by
  unfold f_X4_orders f_X4_orders_l4
  exact mLoop_some.mpr ⟨14, qFac12 m (by omega)⟩
theorem qWk.down {h : mH} {t u n : Nat} {R S c c' : Nat → Nat} {k K : Nat} (w : qWk h t u n R S c' K) (hk : k ≤ K) (hc : ∀ e, e < k → c' e = c e) : qWk h t u n R S c k := by
  obtain ⟨x0, y0, f34, f35, f36, f37, m, e1, e2, e3⟩ := w
  refine ⟨x0, y0, f34, f35, f36, f37, m, fun e he => by rw [e1 e (by omega), hc e he], fun h1 => ?_, fun k' hk' => (e3 k' (by omega)).congr n R S fun e he => (hc e (by omega)).symm⟩
  obtain ⟨a1, a2⟩ := e2 (by omega)
  rw [a1, a2]
  unfold qXw
  rw [hc 0 (by omega)]
  exact ⟨rfl, rfl⟩
section QSYX
variable {h : mH} {A : qA} {t n : Nat} {R : Nat → Nat}
theorem qUs_id (hn : n ≤ 12) {k : Nat} (hk : k ≤ n) : qUs n (2 ^ k - 1) qIdc k := by
  refine ⟨by have : 2 ^ k ≤ 2 ^ 12 := Nat.pow_le_pow_right (by decide) (by omega); have := Nat.two_pow_pos k; omega, fun i hi => ?_⟩
  rw [Nat.testBit_two_pow_sub_one, decide_eq_true_eq]
  constructor
  · intro z; exact ⟨i, z, by unfold qIdc; omega⟩
  · rintro ⟨e, e1, e2⟩; unfold qIdc at e2; omega
/-- how many images a row has while all rows ahead of it stay -/
theorem x_reached (w : qWA A) (h6 : t < 6) (ht : (A.1 t).1 = n) (hR : (A.1 t).2.1 = R) (hn : n ≤ 12) {k : Nat} (hk : k < n) (ways : Int64) (q : qX h A) (W : qWk h t t n R R qIdc k) : ∃ h', f_X4_countToItself_l29 (some 33) ways (nI (2 ^ k - 1)) (nI k) 0 0 h = some (.inl (ways * lN (qc (2 * n) (qCnd n R k)), nI (2 ^ (k + 1) - 1), nI (k + 1), h')) ∧ qX h' A ∧ qSame qC33 h h' ∧ qWk h' t t n R R qIdc (k + 1) := by
  have U := qUs_id hn (show k ≤ n by omega)
  have agk := qAg_id n R k
  have p12 : 2 ^ (k + 1) ≤ 2 ^ 12 := Nat.pow_le_pow_right (by decide) (by omega)
  have pp := Nat.two_pow_pos k
  have ps : 2 ^ (k + 1) = 2 ^ k * 2 := Nat.pow_succ ..
  have gN : ∀ {h'} {c'} {k'}, qX h' A → qWk h' t t n R R c' k' → mGI h' (some 33) 3 0 = some (nI n) := by
    intro h' c' k' q' W'
    obtain ⟨x0, y0, f34, f35, f36, f37, m, -⟩ := W'
    exact (m.g q').2.1
  unfold f_X4_countToItself_l29
  have RR := mLoop_inv (b := fun x : Int32 × Int32 × mH => f_X4_countToItself_b29 (some 33) ways (nI (2 ^ k - 1)) (nI k) x.1 x.2.1 x.2.2) (fun cd (s : Int32 × Int32 × mH) => s.1 = nI (qc cd (qCnd n R k)) ∧ s.2.1 = nI cd ∧ qX s.2.2 A ∧ qSame qC33 h s.2.2 ∧ qWk s.2.2 t t n R R qIdc k) (2 * n) (fun r => ∃ h', r = .inl (ways * lN (qc (2 * n) (qCnd n R k)), nI (2 ^ (k + 1) - 1), nI (k + 1), h') ∧ qX h' A ∧ qSame qC33 h h' ∧ qWk h' t t n R R qIdc (k + 1)) (s0 := (0, 0, h)) ⟨rfl, rfl, q, qSame.rf, W⟩ ?_ ?_
  · obtain ⟨r, e, h', rfl, z⟩ := RR
    exact ⟨h', e, z⟩
  · rintro cd ⟨s1, s2, h1⟩ hcd ⟨rfl, a2, q1', sm', W1'⟩
    have a2' : s2 = nI cd := a2
    subst a2'
    have q1 : qX h1 A := q1'
    have sm : qSame qC33 h h1 := sm'
    have W1 : qWk h1 t t n R R qIdc k := W1'
    have hcl := qc_le cd (qCnd n R k)
    have hc1 : qc (cd + 1) (qCnd n R k) = qc cd (qCnd n R k) + (qCnd n R k cd).toNat := rfl
    have esh : nI cd >>> ((1 : Int32) &&& 31) = nI (cd / 2) := by rw [qI_one, qI_shr (by omega) (by decide), Nat.pow_one]
    have hus := U.1
    show ∃ s', f_X4_countToItself_b29 (some 33) ways (nI (2 ^ k - 1)) (nI k) (nI (qc cd (qCnd n R k))) (nI cd) h1 = some (.inl s') ∧ _
    unfold f_X4_countToItself_b29
    rw [gN q1 W1, qbind, show (2 : Int32) * nI n = nI (2 * n) by rw [qL2, qI_mul], if_neg (by rw [qle (by omega) (by omega)]; omega), esh, x_inSet (by omega) (by omega), qbind, nI_1, nI_1]
    cases hb : (2 ^ k - 1).testBit (cd / 2)
    · rw [qif0]
      have hfr : qFrs (va_up qIdc k cd) k = true := by
        unfold qFrs
        rw [decide_eq_true_eq]
        intro e he hh
        rw [qVs, qVn (by omega)] at hh
        have := (U.2 (cd / 2) (by omega)).mpr ⟨e, he, hh⟩
        rw [hb] at this; cases this
      obtain ⟨h2, p2, q2, s2, W2, W3⟩ := x_fitsM q1 w h6 h6 ht ht hR hR hn hk hcd W1 agk
      rw [p2, qbind]
      cases ha : qAg n R R (va_up qIdc k cd) (k + 1)
      · have hcn : qCnd n R k cd = false := by unfold qCnd qOkm; rw [ha, Bool.and_false, Bool.false_and]
        rw [hcn] at hc1
        have hc2 : qc (cd + 1) (qCnd n R k) = qc cd (qCnd n R k) := hc1
        dsimp only
        rw [qif0]
        exact ⟨(_, _, h2), rfl, by rw [hc2], rfl, q2, sm.trans s2, W2⟩
      · obtain ⟨h3, q3, s3, R3⟩ := x_seek w h6 h6 ht ht hR hR hn (n - (k + 1)) 20 (k + 1) (2 ^ k - 1 ||| 2 ^ (cd / 2)) (va_up qIdc k cd) h2 (by omega) (by omega) q2 (W3 ha) ha (U.add hn hcd)
        rw [qPrune] at R3
        dsimp only
        rw [qif1, qI_pow (by omega), qI_or]
        rcases R3 with ⟨r, r1, r2, r3⟩ | ⟨r1, r2, r3⟩
        · have hok : qOkm n R R (va_up qIdc k cd) k = true := by unfold qOkm; rw [ha, hfr]; rfl
          have hcn : qCnd n R k cd = true := by unfold qCnd; rw [hok, r1]; rfl
          rw [hcn] at hc1
          have hc2 : qc (cd + 1) (qCnd n R k) = qc cd (qCnd n R k) + 1 := hc1
          rw [r2, qbind, if_neg (show ¬ (1 : Int32) = 0 by decide)]
          refine ⟨(_, _, h3), rfl, by rw [hc2]; exact nI_1 _, rfl, q3, (sm.trans s2).trans s3, r3.down (by omega) fun e he => ?_⟩
          rw [(qFnd_below r1).1 e (by omega), qVn (by omega)]
        · have hcn : qCnd n R k cd = false := by unfold qCnd; rw [r1]; simp
          rw [hcn] at hc1
          have hc2 : qc (cd + 1) (qCnd n R k) = qc cd (qCnd n R k) := hc1
          rw [r2, qbind, if_pos rfl]
          exact ⟨(_, _, h3), rfl, by rw [hc2], rfl, q3, (sm.trans s2).trans s3, r3.back fun e he => qVn (by omega)⟩
    · have hcn : qCnd n R k cd = false := by
        unfold qCnd qOkm
        have hfr : qFrs (va_up qIdc k cd) k = false := by
          unfold qFrs
          rw [decide_eq_false_iff_not]
          intro z
          obtain ⟨e, e1, e2⟩ := (U.2 (cd / 2) (by omega)).mp hb
          exact z e e1 (by rw [qVs, qVn (by omega)]; exact e2)
        rw [hfr]; rfl
      rw [hcn] at hc1
      have hc2 : qc (cd + 1) (qCnd n R k) = qc cd (qCnd n R k) := hc1
      rw [qif1]
      exact ⟨(_, _, h1), rfl, by rw [hc2], rfl, q1, sm, W1⟩
  · rintro ⟨s1, s2, h1⟩ ⟨rfl, a2, q1', sm', W1'⟩
    have a2' : s2 = nI (2 * n) := a2
    subst a2'
    have q1 : qX h1 A := q1'
    have sm : qSame qC33 h h1 := sm'
    have W1 : qWk h1 t t n R R qIdc k := W1'
    have hcl := qc_le (2 * n) (qCnd n R k)
    obtain ⟨h2, p2, q2, s2, W2, W3⟩ := x_fitsM q1 w h6 h6 ht ht hR hR hn hk (cd := 2 * k) (by omega) W1 agk
    have eid : va_up qIdc k (2 * k) = qIdc := qVi (g := qIdc) (i := k)
    rw [eid] at p2 W3
    refine ⟨_, ?_, h2, rfl, q2, sm.trans s2, W3 (qAg_id n R (k + 1))⟩
    show f_X4_countToItself_b29 (some 33) ways (nI (2 ^ k - 1)) (nI k) (nI (qc (2 * n) (qCnd n R k))) (nI (2 * n)) h1 = _
    unfold f_X4_countToItself_b29
    have eor : (2 ^ k - 1 ||| 2 ^ k) = 2 ^ (k + 1) - 1 := by
      have := Nat.two_pow_add_eq_or_of_lt (i := k) (b := 2 ^ k - 1) (by omega) 1
      rw [Nat.mul_one] at this
      rw [Nat.or_comm, ← this]
      omega
    rw [gN q1 W1, qbind, show (2 : Int32) * nI n = nI (2 * n) by rw [qL2, qI_mul], if_pos (by rw [qle (by omega) (by omega)]; omega), show (2 : Int32) * nI k = nI (2 * k) by rw [qL2, qI_mul], p2, qbind, nI_l (by omega), qI_pow (by omega), qI_or, eor, nI_1]
theorem x_countToItself (q : qX h A) (w : qWA A) (h6 : t < 6) (ht : (A.1 t).1 = n) (hR : (A.1 t).2.1 = R) (h0 : 0 < n) (hn : n ≤ 12) : ∃ h', f_X4_countToItself (some 33) (some (3 + 4 * t)) h = some (lN (qProd n (fun k => qc (2 * n) (qCnd n R k)) * qProd n (fun j => qc j (qHH n R qIdc n j) + 1)), h') ∧ qX h' A ∧ qSame qC33 h h' := by
  have is : mIs h (some 33) 3 = some () := by
    obtain ⟨a1, a2, ⟨f3, a3, a3'⟩, a4, ⟨g, a5, a5'⟩, ⟨g2, a6, a6'⟩, q7⟩ := q
    obtain ⟨n0, c0, d0, r0, s0, e33⟩ := q7.2.2.2.2.1
    exact qIs (by rw [a1]; decide) e33
  obtain ⟨h1, p1, q1, s1, W1⟩ := x_lay q w h6 h6 ht ht h0 hn R R
  unfold f_X4_countToItself f_X4_countToItself_l14
  rw [is, qbind, p1, qbind]
  have RR := mLoop_inv (b := fun x : Int64 × Int32 × Int32 × mH => f_X4_countToItself_b14 (some 33) x.1 x.2.1 x.2.2.1 x.2.2.2) (fun k (s : Int64 × Int32 × Int32 × mH) => s.1 = lN (qProd k (fun k => qc (2 * n) (qCnd n R k))) ∧ s.2.1 = nI (2 ^ k - 1) ∧ s.2.2.1 = nI k ∧ qX s.2.2.2 A ∧ qSame qC33 h s.2.2.2 ∧ qWk s.2.2.2 t t n R R qIdc k) n (fun r => ∃ h', r = (lN (qProd n (fun k => qc (2 * n) (qCnd n R k)) * qProd n (fun j => qc j (qHH n R qIdc n j) + 1)), h') ∧ qX h' A ∧ qSame qC33 h h') (s0 := (1, 0, 0, h1)) ⟨rfl, rfl, rfl, q1, s1, W1 _⟩ ?_ ?_
  · obtain ⟨r, e, h', rfl, z⟩ := RR
    exact ⟨h', e, z⟩
  · rintro k ⟨wy, us, kk, h2⟩ hk ⟨rfl, a1, a2, q2', sm', W2'⟩
    have a1' : us = nI (2 ^ k - 1) := a1
    have a2' : kk = nI k := a2
    subst a1' a2'
    have q2 : qX h2 A := q2'
    have sm : qSame qC33 h h2 := sm'
    have W2 : qWk h2 t t n R R qIdc k := W2'
    obtain ⟨h3, p3, q3, s3, W3⟩ := x_reached w h6 ht hR hn hk (lN (qProd k (fun k => qc (2 * n) (qCnd n R k)))) q2 W2
    refine ⟨(lN (qProd k (fun k => qc (2 * n) (qCnd n R k)) * qc (2 * n) (qCnd n R k)), nI (2 ^ (k + 1) - 1), nI (k + 1), h3), ?_, rfl, rfl, rfl, q3, sm.trans s3, W3⟩
    show f_X4_countToItself_b14 (some 33) (lN (qProd k (fun k => qc (2 * n) (qCnd n R k)))) (nI (2 ^ k - 1)) (nI k) h2 = _
    obtain ⟨x0, y0, f34, f35, f36, f37, m, -⟩ := W2
    unfold f_X4_countToItself_b14
    rw [(m.g q2).2.1, qbind, if_neg (by rw [qle (by omega) (by omega)]; omega), p3, lN_mul]
  · rintro ⟨wy, us, kk, h2⟩ ⟨rfl, a1, a2, q2', sm', W2'⟩
    have a2' : kk = nI n := a2
    subst a2'
    have q2 : qX h2 A := q2'
    obtain ⟨x0, y0, f34, f35, f36, f37, m, e1, e2, e3⟩ : qWk h2 t t n R R qIdc n := W2'
    obtain ⟨g1, g2, g3, g4, g5, g6, g7, g8, g9, g10⟩ := m.g q2
    obtain ⟨cc, r, l1, l2, l3, l4⟩ := e3 n (Nat.le_refl n)
    have hcc : cc ≤ n := qLv.le (f35 := f35) (f36 := f36) (f37 := f37) n R hn (fun i hi => (l2 i hi).1) l4
    have h12 : 2 ^ n ≤ 2 ^ 12 := Nat.pow_le_pow_right (by decide) hn
    have sz : ∀ i, qp (qW n (qHH n R qIdc n (r i))) = qc n (qHH n R qIdc n (r i)) := fun i => qp_qW n (by omega) _
    have FP := qFacP (fun i hi => (l2 i hi).1) l3 (Eq.trans (qSum_eq fun i _ => (sz i).symm) l4)
    refine ⟨_, ?_, h2, rfl, q2, sm'⟩
    show f_X4_countToItself_b14 (some 33) (lN (qProd n (fun k => qc (2 * n) (qCnd n R k)))) us (nI n) h2 = _
    have en : nI n * 12 = nI (12 * n) := by rw [show (12 : Int32) = nI 12 from rfl, qI_mul, Nat.mul_comm]
    unfold f_X4_countToItself_b14
    rw [g2, qbind, if_pos (by rw [qle (by omega) (by omega)]; omega), qbind, en, FP]
    generalize qProd n (fun k => qc (2 * n) (qCnd n R k)) = X
    have LL : f_X4_countToItself_l137 (some 33) (lN X) (nI (12 * n)) (nI (12 * n)) h2 = some (lN (X * qProd cc (fun i => qFac (qc n (qHH n R qIdc n (r i))))), h2) := by
      unfold f_X4_countToItself_l137
      have e0 : (lN X, nI (12 * n)) = (fun i => (lN (X * qProd i (fun i => qFac (qc n (qHH n R qIdc n (r i))))), nI (12 * n + i))) 0 := by
        show _ = (lN (X * 1), nI (12 * n + 0))
        rw [Nat.mul_one, Nat.add_zero]
      rw [e0]
      refine mLoop_ends (fun i => (lN (X * qProd i (fun i => qFac (qc n (qHH n R qIdc n (r i))))), nI (12 * n + i))) cc _ (fun i hi => ?_) ?_
      · show f_X4_countToItself_b137 (some 33) (nI (12 * n)) (lN (X * qProd i (fun i => qFac (qc n (qHH n R qIdc n (r i)))))) (nI (12 * n + i)) h2 = _
        have bF : qW n (qHH n R qIdc n (r i)) < 2 ^ 12 := Nat.lt_of_lt_of_le (qW_lt n _) h12
        have bc := qc_le n (qHH n R qIdc n (r i))
        unfold f_X4_countToItself_b137
        rw [g10, qbind, g2, qbind, q2.atW m.2.2.2.2 (by decide) (by decide) (by omega), qbind, l1, qI_add, if_neg (by rw [qle (by omega) (by omega)]; omega), g8, qbind, q2.atW m.2.2.1 (by decide) (by decide) (by omega), qbind, (l2 i hi).2.1, qJ_bitCount (by omega), qbind, sz, x_orders (by omega), qbind, lN_mul, Nat.mul_assoc, nI_1]
        rfl
      · show f_X4_countToItself_b137 (some 33) (nI (12 * n)) (lN (X * qProd cc (fun i => qFac (qc n (qHH n R qIdc n (r i)))))) (nI (12 * n + cc)) h2 = _
        unfold f_X4_countToItself_b137
        rw [g10, qbind, g2, qbind, q2.atW m.2.2.2.2 (by decide) (by decide) (by omega), qbind, l1, qI_add, if_pos (by rw [qle (by omega) (by omega)]; omega)]
    rw [LL]
    rfl
end QSYX
