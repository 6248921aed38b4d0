/-! PURE: product -/
def qPr (T S : qT) (i j : Nat) : Bool := (T.2.1 (i / S.1)).testBit (j / S.1) ^^ (S.2.1 (i % S.1)).testBit (j % S.1)
theorem qdm {n k z : Nat} (hz : z < n) : (k * n + z) / n = k ∧ (k * n + z) % n = z := by
  constructor
  · rw [Nat.mul_comm, Nat.mul_add_div (by omega), Nat.div_eq_of_lt hz, Nat.add_zero]
  · rw [Nat.mul_comm, Nat.mul_add_mod, Nat.mod_eq_of_lt hz]
theorem qPr_row {T S : qT} {i j : Nat} (hj : j < S.1) (N : Nat) : qW N (qPr T S (i * S.1 + j)) = qW N (fun q => (T.2.1 i).testBit (q / S.1) ^^ (S.2.1 j).testBit (q % S.1)) := by
  apply qW_congr
  intro q _
  unfold qPr
  rw [(qdm hj).1, (qdm hj).2]
theorem qPr_step {T S : qT} (wS : qWT S) {i j k : Nat} (hj : j < S.1) {s : Nat} (hs : s < 2 ^ S.1) (hb : ∀ z, z < S.1 → s.testBit z = ((T.2.1 i).testBit k ^^ (S.2.1 j).testBit z)) : qW (k * S.1) (fun q => (T.2.1 i).testBit (q / S.1) ^^ (S.2.1 j).testBit (q % S.1)) ||| s * 2 ^ (k * S.1) = qW ((k + 1) * S.1) (fun q => (T.2.1 i).testBit (q / S.1) ^^ (S.2.1 j).testBit (q % S.1)) := by
  rw [qCat (qW_lt _ _) hs, Nat.succ_mul]
  apply qW_congr
  intro q hq
  by_cases h1 : q < k * S.1
  · rw [if_pos h1, qW_bit, decide_eq_true h1, Bool.true_and]
  · have e : q = k * S.1 + (q - k * S.1) := by omega
    have hz : q - k * S.1 < S.1 := by omega
    rw [if_neg h1, hb _ hz]
    have d1 := (qdm (k := k) hz).1
    have d2 := (qdm (k := k) hz).2
    rw [← e] at d1 d2
    rw [d1, d2]
section QPX
variable {h : mH} {t u v : Nat} {T S : qT}
theorem x_productRow (qu : qXt h u T) (qv : qXt h v S) (wT : qWT T) (wS : qWT S) (hN : T.1 * S.1 ≤ 28) {i j : Nat} (hi : i < T.1) (hj : j < S.1) : f_X8_productRow (some (3 + 4 * u)) (nI i) (some (3 + 4 * v)) (nI j) h = some (nI (qW (T.1 * S.1) (qPr T S (i * S.1 + j)))) := by
  obtain ⟨bk, bs, bc, ra, rb, fr, fa, fb, hT, hs⟩ := qu
  obtain ⟨bk', bs', bc', ra', rb', fr', fa', fb', hT', hs'⟩ := qv
  have n1 := wT.1
  have n2 := wS.1
  have r1 := q31 n1 (wT.2.1 i hi)
  have r2 := q31 n2 (wS.2.1 j hj)
  unfold f_X8_productRow
  rw [hT'.size, qbind, hT'.rows, qbind, hT'.row (by omega), qbind, hs'.1 j hj, x_mask hT' n2, qbind, qI_xor, qPr_row hj]
  unfold f_X8_productRow_l29
  have R := mLoop_inv (b := fun x : Int32 × Int32 => f_X8_productRow_b29 (some (3 + 4 * u)) (nI i) (nI S.1) (nI (S.2.1 j)) (nI (S.2.1 j ^^^ (2 ^ S.1 - 1))) x.1 x.2 h) (fun k (s : Int32 × Int32) => s = (nI (qW (k * S.1) (fun q => (T.2.1 i).testBit (q / S.1) ^^ (S.2.1 j).testBit (q % S.1))), nI k)) T.1 (fun r => r = nI (qW (T.1 * S.1) (fun q => (T.2.1 i).testBit (q / S.1) ^^ (S.2.1 j).testBit (q % S.1)))) (s0 := (0, 0)) (by rw [Nat.zero_mul]; rfl) ?_ ?_
  · obtain ⟨r, e1, rfl⟩ := R
    exact e1
  · rintro k s hk rfl
    refine ⟨_, ?_, rfl⟩
    have hkN : k * S.1 + S.1 ≤ T.1 * S.1 := by rw [← Nat.succ_mul]; exact Nat.mul_le_mul_right _ hk
    show f_X8_productRow_b29 (some (3 + 4 * u)) (nI i) (nI S.1) (nI (S.2.1 j)) (nI (S.2.1 j ^^^ (2 ^ S.1 - 1))) (nI (qW (k * S.1) (fun q => (T.2.1 i).testBit (q / S.1) ^^ (S.2.1 j).testBit (q % S.1)))) (nI k) h = _
    unfold f_X8_productRow_b29 f_X8_productRow_c57
    rw [hT.size, qbind, if_neg (by rw [qle (by omega) (by omega)]; omega), x_isMinus hT (by omega) (by omega) (hs.1 i hi) (by omega), qbind, qI_mul, qI_shl _ (by omega), qI_shl _ (by omega), qI_or, qI_or, nI_1]
    cases hb : (T.2.1 i).testBit k
    · rw [qif0, qPr_step wS hj (wS.2.1 j hj) (fun z hz => by rw [hb, Bool.false_xor])]
    · rw [qif1, qPr_step wS hj (s := S.2.1 j ^^^ (2 ^ S.1 - 1)) (Nat.xor_lt_two_pow (wS.2.1 j hj) (qMk_lt _)) (fun z hz => by rw [hb, Nat.testBit_xor, Nat.testBit_two_pow_sub_one, decide_eq_true hz, Bool.xor_comm])]
  · rintro s rfl
    refine ⟨_, ?_, rfl⟩
    show f_X8_productRow_b29 (some (3 + 4 * u)) (nI i) (nI S.1) (nI (S.2.1 j)) (nI (S.2.1 j ^^^ (2 ^ S.1 - 1))) (nI (qW (T.1 * S.1) (fun q => (T.2.1 i).testBit (q / S.1) ^^ (S.2.1 j).testBit (q % S.1)))) (nI T.1) h = _
    unfold f_X8_productRow_b29
    rw [hT.size, qbind, if_pos (by rw [qle (by omega) (by omega)]; omega)]
theorem x_product {T0 : qT} (q0 : qXt h t T0) (qu : qXt h u T) (qv : qXt h v S) (wT : qWT T) (wS : qWT S) (hut : u ≠ t) (hvt : v ≠ t) (h0 : 0 < S.1) (hN : T.1 * S.1 ≤ 28) : ∃ h1 h', f_X7_begin (some (3 + 4 * t)) (nI T.1 * nI S.1) h = some h1 ∧ f_X8_product_l82 (some (3 + 4 * u)) (some (3 + 4 * v)) (nI t) (nI S.1) (some (3 + 4 * t)) 0 h1 = some (nI t, h') ∧ qXt h' t (qNew (T.1 * S.1) (fun i => qW (T.1 * S.1) (qPr T S i))) ∧ qSame (qIs4 t) h h' := by
  obtain ⟨h1, fr1, p1, b1, z1, s1⟩ := x_begin q0 (T.1 * S.1)
  have n1 := wT.1
  have n2 := wS.1
  refine ⟨h1, ?_⟩
  have ku : ∀ {h'}, qSame (qIs4 t) h h' → qXt h' u T := fun s => qu.same s.1 fun z hz1 hz2 => s.2 z (by unfold qIs4; omega)
  have kv : ∀ {h'}, qSame (qIs4 t) h h' → qXt h' v S := fun s => qv.same s.1 fun z hz1 hz2 => s.2 z (by unfold qIs4; omega)
  have R := mLoop_inv (b := fun x : Int32 × mH => f_X8_product_b82 (some (3 + 4 * u)) (some (3 + 4 * v)) (nI t) (nI S.1) (some (3 + 4 * t)) x.1 x.2) (fun k (s : Int32 × mH) => s.1 = nI k ∧ qSame (qIs4 t) h s.2 ∧ ∃ fr', qBg s.2 t (T.1 * S.1) fr' ∧ ∀ i, i < k * S.1 → fr' i = nI (qW (T.1 * S.1) (qPr T S i))) T.1 (fun r : Int32 × mH => r.1 = nI t ∧ qXt r.2 t (qNew (T.1 * S.1) (fun i => qW (T.1 * S.1) (qPr T S i))) ∧ qSame (qIs4 t) h r.2) (s0 := (0, h1)) ⟨rfl, s1, fr1, b1, fun i hi => by rw [Nat.zero_mul] at hi; exact absurd hi (Nat.not_lt_zero i)⟩ ?_ ?_
  · obtain ⟨⟨r1, r2⟩, e1, e2, e3⟩ := R
    have e2' : r1 = nI t := e2
    rw [e2'] at e1
    exact ⟨r2, by rw [qI_mul]; exact p1, e1, e3⟩
  · rintro k ⟨ik, hk⟩ hkn ⟨rfl, sk, fr2, b2, o2⟩
    have hkN : k * S.1 + S.1 ≤ T.1 * S.1 := by rw [← Nat.succ_mul]; exact Nat.mul_le_mul_right _ hkn
    obtain ⟨bk, bs, bc, ra, rb, fr, fa, fb, hT, hs⟩ := ku (h' := hk) sk
    show ∃ s', f_X8_product_b82 (some (3 + 4 * u)) (some (3 + 4 * v)) (nI t) (nI S.1) (some (3 + 4 * t)) (nI k) hk = some (.inl s') ∧ _
    unfold f_X8_product_b82
    rw [hT.size, qbind, if_neg (by rw [qle (by omega) (by omega)]; omega)]
    unfold f_X8_product_l94
    have R2 := mLoop_inv (b := fun x : Int32 × mH => f_X8_product_b94 (some (3 + 4 * u)) (some (3 + 4 * v)) (nI t) (nI S.1) (some (3 + 4 * t)) (nI k) x.1 x.2) (fun j (s : Int32 × mH) => s.1 = nI j ∧ qSame (qIs4 t) h s.2 ∧ ∃ fr', qBg s.2 t (T.1 * S.1) fr' ∧ ∀ i, i < k * S.1 + j → fr' i = nI (qW (T.1 * S.1) (qPr T S i))) S.1 (fun r => ∃ s' : Int32 × mH, r = .inl s' ∧ s'.1 = nI (k + 1) ∧ qSame (qIs4 t) h s'.2 ∧ ∃ fr', qBg s'.2 t (T.1 * S.1) fr' ∧ ∀ i, i < (k + 1) * S.1 → fr' i = nI (qW (T.1 * S.1) (qPr T S i))) (s0 := (0, hk)) ⟨rfl, sk, fr2, b2, o2⟩ ?_ ?_
    · obtain ⟨r, e1, s', rfl, e2⟩ := R2
      exact ⟨s', e1, e2⟩
    · rintro j ⟨ij, hj⟩ hjn ⟨rfl, sj, fr3, b3', o3⟩
      have b3 : qBg hj t (T.1 * S.1) fr3 := b3'
      obtain ⟨h4, p4, b4, s4⟩ := b3.st (i := k * S.1 + j) (by omega) (nI (qW (T.1 * S.1) (qPr T S (k * S.1 + j))))
      refine ⟨(nI (j + 1), h4), ?_, rfl, sj.trans s4, _, b4, fun i hi => ?_⟩
      · show f_X8_product_b94 (some (3 + 4 * u)) (some (3 + 4 * v)) (nI t) (nI S.1) (some (3 + 4 * t)) (nI k) (nI j) hj = _
        unfold f_X8_product_b94
        rw [if_neg (by rw [qle (by omega) (by omega)]; omega), b3.rows, qbind, x_productRow (ku (h' := hj) sj) (kv (h' := hj) sj) wT wS hN hkn hjn, qbind, qI_mul, qI_add, p4, qbind, nI_1]
      · by_cases hik : i = k * S.1 + j
        · rw [hik, qUps]
        · rw [qUpn hik]; exact o3 i (by omega)
    · rintro ⟨ij, hj⟩ ⟨rfl, sj, fr3, b3, o3⟩
      refine ⟨.inl (nI (k + 1), hj), ?_, _, rfl, rfl, sj, fr3, b3, by rw [Nat.succ_mul]; exact o3⟩
      show f_X8_product_b94 (some (3 + 4 * u)) (some (3 + 4 * v)) (nI t) (nI S.1) (some (3 + 4 * t)) (nI k) (nI S.1) hj = _
      unfold f_X8_product_b94
      rw [if_pos (by rw [qle (by omega) (by omega)]; omega), nI_1]
  · rintro ⟨ik, hk⟩ ⟨rfl, sk, fr2, b2, o2⟩
    obtain ⟨bk, bs, bc, ra, rb, fr, fa, fb, hT, hs⟩ := ku (h' := hk) sk
    refine ⟨(nI t, hk), ?_, rfl, b2.fin hN o2, sk⟩
    show f_X8_product_b82 (some (3 + 4 * u)) (some (3 + 4 * v)) (nI t) (nI S.1) (some (3 + 4 * t)) (nI T.1) hk = _
    unfold f_X8_product_b82
    rw [hT.size, qbind, if_pos (by rw [qle (by omega) (by omega)]; omega)]
end QPX
theorem m_product {h : mH} {A : qA} (m : qM h A) (w : qWA A) {t u v : Nat} (hf : qFr A t) (hu : u < 6) (hv : v < 6) (h0 : 0 < (A.1 v).1) (hN : (A.1 u).1 * (A.1 v).1 ≤ 28) (d : qMd h (fun _ => 0)) : ∃ r, f_X9_product_l67 (some 51) (nI u) (nI v) (nI (A.1 v).1) (nI ((A.1 u).1 * (A.1 v).1)) 0 h = some r ∧ r.1 = nI t ∧ qM r.2 (qSetT A t (qNew ((A.1 u).1 * (A.1 v).1) (fun i => qW ((A.1 u).1 * (A.1 v).1) (qPr (A.1 u) (A.1 v) i)))) ∧ qSame qCM h r.2 := by
  have wu := w.1 u hu
  have wv := w.1 v hv
  have n1 := wu.1
  have n2 := wv.1
  unfold f_X9_product_l67
  refine m_grid (bi := fun i => fun x : Int32 × mH => f_X9_product_b77 (some 51) (nI u) (nI v) (nI (A.1 v).1) (nI ((A.1 u).1 * (A.1 v).1)) (nI i) x.1 x.2) (qGr (qPr (A.1 u) (A.1 v)) ((A.1 u).1 * (A.1 v).1)) ((A.1 u).1 * (A.1 v).1) ((A.1 u).1 * (A.1 v).1) (fun r : Int32 × mH => r.1 = nI t ∧ qM r.2 (qSetT A t (qNew ((A.1 u).1 * (A.1 v).1) (fun i => qW ((A.1 u).1 * (A.1 v).1) (qPr (A.1 u) (A.1 v) i)))) ∧ qSame qCM h r.2) (fun i _ => qGr_next _ _ i) ?_ ?_ ?_ m (by rw [qGr_0]; exact d) ?_
  · intro i h' hi m'
    show f_X9_product_b67 (some 51) (nI u) (nI v) (nI (A.1 v).1) (nI ((A.1 u).1 * (A.1 v).1)) (nI i) h' = _
    unfold f_X9_product_b67
    rw [if_neg (by rw [qle (by omega) (by omega)]; omega)]
    rfl
  · intro i j h' hi hj m' _ d'
    obtain ⟨x0, y0, fo, fr, ff, fg, fw, mb, hm⟩ := m'.b
    obtain ⟨h2, p2, m2, d2, s2⟩ := m_lays m' d' (i := i) (j := j) (by omega) (by omega) (qPr (A.1 u) (A.1 v) i j)
    rw [qGr_step] at d2
    refine ⟨h2, ?_, m2, d2, s2⟩
    show f_X9_product_b77 (some 51) (nI u) (nI v) (nI (A.1 v).1) (nI ((A.1 u).1 * (A.1 v).1)) (nI i) (nI j) h' = _
    have hz : ¬ nI (A.1 v).1 = 0 := by rw [qI_zero, qeq (by omega) (by decide)]; omega
    have hmi : i % (A.1 v).1 < (A.1 v).1 := Nat.mod_lt _ h0
    have hmj : j % (A.1 v).1 < (A.1 v).1 := Nat.mod_lt _ h0
    have hdi : i / (A.1 v).1 < (A.1 u).1 := Nat.div_lt_of_lt_mul (by rw [Nat.mul_comm]; exact hi)
    have hdj : j / (A.1 v).1 < (A.1 u).1 := Nat.div_lt_of_lt_mul (by rw [Nat.mul_comm]; exact hj)
    unfold f_X9_product_b77 f_X9_product_c123
    rw [if_neg (by rw [qle (by omega) (by omega)]; omega), if_neg hz, if_neg hz, qI_div (by omega) h0 (by omega), qI_div (by omega) h0 (by omega), m_isMinus mb (hm u hu) hu wu hdi (by omega), qbind, if_neg hz, if_neg hz, qI_rem (by omega) h0 (by omega), qI_rem (by omega) h0 (by omega), m_isMinus mb (hm v hv) hv wv hmi (by omega), qbind]
    unfold qPr at p2
    cases hb1 : ((A.1 u).2.1 (i / (A.1 v).1)).testBit (j / (A.1 v).1) <;> cases hb2 : ((A.1 v).2.1 (i % (A.1 v).1)).testBit (j % (A.1 v).1) <;> rw [hb1, hb2] at p2
    · rw [if_pos rfl, show f_X9_lays (some 51) (nI i) (nI j) 0 h' = some h2 from p2, qbind, nI_1]
    · rw [if_neg (by decide), show f_X9_lays (some 51) (nI i) (nI j) 1 h' = some h2 from p2, qbind, nI_1]
    · rw [if_neg (by decide), show f_X9_lays (some 51) (nI i) (nI j) 1 h' = some h2 from p2, qbind, nI_1]
    · rw [if_pos rfl, show f_X9_lays (some 51) (nI i) (nI j) 0 h' = some h2 from p2, qbind, nI_1]
  · intro i h' hi
    show f_X9_product_b77 (some 51) (nI u) (nI v) (nI (A.1 v).1) (nI ((A.1 u).1 * (A.1 v).1)) (nI i) (nI ((A.1 u).1 * (A.1 v).1)) h' = _
    unfold f_X9_product_b77
    rw [if_pos (by rw [qle (by omega) (by omega)]; omega), nI_1]
  · intro h' m' s' d'
    obtain ⟨f, f1, f2⟩ := d'
    obtain ⟨h4, p4, m4, s4⟩ := m_comes m' w f1 hN (R := fun i => qW ((A.1 u).1 * (A.1 v).1) (qPr (A.1 u) (A.1 v) i)) (fun i hi => by rw [f2 i (by omega), qGr_end _ hi]) hf
    refine ⟨(nI t, h4), ?_, rfl, m4, (s'.mono fun k z => by unfold qCM; omega).trans (s4.mono qC5.cm)⟩
    show f_X9_product_b67 (some 51) (nI u) (nI v) (nI (A.1 v).1) (nI ((A.1 u).1 * (A.1 v).1)) (nI ((A.1 u).1 * (A.1 v).1)) h' = _
    unfold f_X9_product_b67
    rw [if_pos (by rw [qle (by omega) (by omega)]; omega), p4, qbind]
theorem op_product {h : mH} {A : qA} (I : qI h A) (x y : Int32) : qStep (f_X8_product (some 1) x y) (f_X9_product (some 51) x y) h := by
  have L := qTb2 I x
  have L2 := qTb2 I y
  have I0 := I
  obtain ⟨q, m, w⟩ := I
  obtain ⟨x0, y0, fo, fr, ff, fg, fw, mb, hm⟩ := m.b
  have em : ∃ z, f_X8_emptyPlace (some 1) h = some z := by
    rcases qFr_or A with hf | ⟨t, hf⟩
    · exact ⟨_, x_empty_no q w hf⟩
    · exact ⟨_, x_empty_yes q w hf⟩
  rcases L with ⟨l1, l2⟩ | ⟨u, hx, l1, l2⟩
  · obtain ⟨z, ez⟩ := em
    refine qStep.none (r := -1) I0 ?_ ?_
    · unfold f_X8_product
      rcases L2 with ⟨l3, l4⟩ | ⟨v, hy, l3, l4⟩
      · rw [q.is, qbind, l1, qbind, l3, qbind, ez, qbind, if_pos rfl]
      · rw [q.is, qbind, l1, qbind, l3, qbind, ez, qbind, if_pos rfl]
    · unfold f_X9_product; rw [mb.is, qbind, l2, qbind, if_pos rfl]
  · rcases L2 with ⟨l3, l4⟩ | ⟨v, hy, l3, l4⟩
    · obtain ⟨z, ez⟩ := em
      refine qStep.none (r := -1) I0 ?_ ?_
      · unfold f_X8_product; rw [q.is, qbind, l1, qbind, l3, qbind, ez, qbind, if_neg qne, if_pos rfl]
      · unfold f_X9_product; rw [mb.is, qbind, l2, qbind, if_neg q10, l4, qbind, if_pos rfl]
    · have hu := hx.1
      have hv := hy.1
      have wu := w.1 u hu
      have wv := w.1 v hv
      have n1 := wu.1
      have n2 := wv.1
      have h0 := hx.2.2
      have h0' := hy.2.2
      have hx2 : x = nI u := hx.2.1
      have hy2 : y = nI v := hy.2.1
      obtain ⟨bk, bs, bc, ra, rb, fr', fa, fb, hT, hs⟩ := q.2.2.2.1 u hu
      obtain ⟨bk', bs', bc', ra', rb', fr'', fa', fb', hT', hs'⟩ := q.2.2.2.1 v hv
      have hmul : (A.1 u).1 * (A.1 v).1 ≤ 28 * 28 := Nat.mul_le_mul n1 n2
      rcases qFr_or A with hf | ⟨t, hf⟩
      · refine qStep.none (r := -1) I0 ?_ ?_
        · unfold f_X8_product; rw [q.is, qbind, l1, qbind, l3, qbind, x_empty_no q w hf, qbind, if_neg qne, if_neg qne, if_pos rfl]
        · unfold f_X9_product
          rw [mb.is, qbind, l2, qbind, if_neg q10, l4, qbind, if_neg q10, mb.orders, qbind, hx2, hy2, mb.order hu, qbind, qbind, mb.order hv, qbind, (hm u hu).1, (hm v hv).1, qI_mul]
          by_cases hb : 28 < (A.1 u).1 * (A.1 v).1
          · rw [if_pos (by rw [qL28, qlt (by omega) (by omega)]; exact hb)]
          · rw [if_neg (by rw [qL28, qlt (by omega) (by omega)]; exact hb), m_full_no m w hf, qbind, if_neg q10]
      · by_cases hb : 28 < (A.1 u).1 * (A.1 v).1
        · refine qStep.none (r := -1) I0 ?_ ?_
          · unfold f_X8_product; rw [q.is, qbind, l1, qbind, l3, qbind, x_empty_yes q w hf, qbind, if_neg qne, if_neg qne, if_neg (qnm1 hf.1), hT.size, qbind, hT'.size, qbind, if_neg (by rw [qI_mul, qL28, qle (by omega) (by omega)]; omega)]
          · unfold f_X9_product
            rw [mb.is, qbind, l2, qbind, if_neg q10, l4, qbind, if_neg q10, mb.orders, qbind, hx2, hy2, mb.order hu, qbind, qbind, mb.order hv, qbind, (hm u hu).1, (hm v hv).1, if_pos (by rw [qI_mul, qL28, qlt (by omega) (by omega)]; exact hb)]
        · have h6 := hf.1
          have hut : u ≠ t := fun z => by rw [z, hf.2.1] at h0; omega
          have hvt : v ≠ t := fun z => by rw [z, hf.2.1] at h0'; omega
          have hN : (A.1 u).1 * (A.1 v).1 ≤ 28 := by omega
          obtain ⟨h1, h2, p1, p2, t2, s2⟩ := x_product (q.2.2.2.1 t h6) (q.2.2.2.1 u hu) (q.2.2.2.1 v hv) wu wv hut hvt h0' hN
          have e1 : f_X8_product (some 1) x y h = some (nI t, h2) := by
            unfold f_X8_product; rw [q.is, qbind, l1, qbind, l3, qbind, x_empty_yes q w hf, qbind, if_neg qne, if_neg qne, if_neg (qnm1 h6), hT.size, qbind, hT'.size, qbind, if_pos (by rw [qI_mul, qL28, qle (by omega) (by omega)]; omega), qbind, q.shelf, qbind, q.at h6, qbind, qbind, p1, qbind, p2]
          have s2' := s2.mono (qIs4.cx h6)
          have m1 := m.same s2'
          obtain ⟨x2', y2, fo2, fr2, ff2, fg2, fw2, mb2, hm2⟩ := m1.b
          obtain ⟨h3, p3, m3, s3, g, g1, g2⟩ := m_clears m1
          obtain ⟨⟨r4, h4⟩, p4, r4e, m4, s4⟩ := m_product m3 w hf hu hv h0' hN ⟨g, g1, g2⟩
          have r4e' : r4 = nI t := r4e
          have e2 : f_X9_product (some 51) x y h2 = some (nI t, h4) := by
            unfold f_X9_product
            rw [mb2.is, qbind, m_tab_yes mb2 hm2 w hx, qbind, if_neg q10, m_tab_yes mb2 hm2 w hy, qbind, if_neg q10, mb2.orders, qbind, hx2, hy2, mb2.order hu, qbind, qbind, mb2.order hv, qbind, (hm2 u hu).1, (hm2 v hv).1, if_neg (by rw [qI_mul, qL28, qlt (by omega) (by omega)]; exact hb), m_full_yes m1 w hf, qbind, if_pos rfl, qbind, mb2.order hv, qbind, qbind, mb2.order hu, qbind, (hm2 u hu).1, (hm2 v hv).1, p3, qbind, qI_mul, p4, r4e']
          exact qStep.mk e1 (q.tab h6 s2 t2) s2' e2 m4 ((s3.mono fun k z => by unfold qCM; omega).trans s4) (w.tab (qNew_w hN fun i _ => qW_lt _ _))
