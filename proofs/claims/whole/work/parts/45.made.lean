/-! PURE: what the model works in, written; a table comes -/
def qMf (a n : Nat) : Prop := (a, n) ∈ [(58, 28), (61, 4), (62, 28), (63, 6), (64, 6), (65, 6), (67, 12), (68, 12), (69, 156), (70, 156), (72, 8)]
theorem qMs.put {h : mH} (q : qMs h) {a n : Nat} (ha : qMf a n) (f : Nat → Int32) : qMs (mPut h a (.inl (n, .inl f))) := by
  simp only [qMf, List.mem_cons, Prod.mk.injEq, List.not_mem_nil, or_false] at ha
  obtain ⟨a1, ⟨f2, a2, a2'⟩, ⟨g3, a3, a3'⟩, a4, a5, a6, a7, a8, a9, b1, b2, b3, b4, b5⟩ := q
  have E : ∀ k m, qArr h k m → (k = a → m = n) → qArr (mPut h a (.inl (n, .inl f))) k m := by
    intro k m z hz
    by_cases hk : k = a
    · rw [hz hk, hk]; exact ⟨f, qPutS _⟩
    · exact z.same (qPutN _ hk)
  exact ⟨E _ _ a1 (by omega), ⟨f2, (qPutN _ (by omega)).trans a2, a2'⟩, ⟨g3, (qPutN _ (by omega)).trans a3, a3'⟩, E _ _ a4 (by omega), E _ _ a5 (by omega), E _ _ a6 (by omega), E _ _ a7 (by omega), E _ _ a8 (by omega), a9.same (qPutN _ (by omega)), E _ _ b1 (by omega), E _ _ b2 (by omega), E _ _ b3 (by omega), E _ _ b4 (by omega), E _ _ b5 (by omega)⟩
section QMD
variable {h : mH} {A : qA}
theorem m_stW (m : qM h A) {a n : Nat} (hf : qMf a n) {f : Nat → Int32} (ha : h.2 a = .inl (n, .inl f)) {i : Nat} (hi : i < n) (v : Int32) : ∃ h', mSI h (some a) (nI i) v = some h' ∧ qM h' A ∧ h'.2 a = .inl (n, .inl (upd f i v)) ∧ qSame (fun k => k = a) h h' := by
  have hf' := hf
  simp only [qMf, List.mem_cons, Prod.mk.injEq, List.not_mem_nil, or_false] at hf'
  obtain ⟨a1, ⟨x, y, a2⟩, ⟨fo, fr, ff, fg, fw, ⟨m1, m2, m3, m4, m5⟩, a4⟩, ⟨g, a5, a5'⟩, ⟨g2, a6, a6'⟩, a7⟩ := m
  refine ⟨mPut h a (.inl (n, .inl (upd f i v))), qSI (by omega) (by rw [a1]; omega) ha (by omega) hi, ⟨a1, ⟨x, y, (qPutN _ (by omega)).trans a2⟩, ⟨fo, fr, ff, fg, fw, ⟨(qPutN _ (by omega)).trans m1, (qPutN _ (by omega)).trans m2, (qPutN _ (by omega)).trans m3, (qPutN _ (by omega)).trans m4, (qPutN _ (by omega)).trans m5⟩, a4⟩, ⟨g, (qPutN _ (by omega)).trans a5, a5'⟩, ⟨g2, (qPutN _ (by omega)).trans a6, a6'⟩, a7.put hf _⟩, qPutS _, qSame.put (S := fun k => k = a) qSame.rf rfl _⟩
theorem qM.is (m : qM h A) : mIs h (some 51) 8 = some () := by
  obtain ⟨x0, y0, fo, fr, ff, fg, fw, mb, hm⟩ := m.b
  exact mb.is
theorem qM.made (m : qM h A) : mGR h (some 51) 8 8 = some (some 58) := by
  obtain ⟨x0, y0, fo, fr, ff, fg, fw, mb, hm⟩ := m.b
  exact qGR (mb.le (by decide)) mb.2.1 rfl
theorem qMf58 : qMf 58 28 := by unfold qMf; decide
theorem qM.atW (m : qM h A) {a n : Nat} {f : Nat → Int32} (ha : h.2 a = .inl (n, .inl f)) (h1 : a ≤ 72) (h2 : n < 2 ^ 31) {i : Nat} (hi : i < n) : mAI h (some a) (nI i) = some (f i) := qAI (by rw [m.1]; exact h1) ha h2 hi
theorem m_clears (m : qM h A) : ∃ h', f_X9_clearsMade (some 51) h = some h' ∧ qM h' A ∧ qSame (fun k => k = 58) h h' ∧ ∃ f, h'.2 58 = .inl (28, .inl f) ∧ ∀ i, i < 28 → f i = nI 0 := by
  unfold f_X9_clearsMade f_X9_clearsMade_l2
  rw [m.is, qbind]
  obtain ⟨f, hf⟩ := m.2.2.2.2.2.1
  refine mLoop_inv (b := fun x : Int32 × mH => f_X9_clearsMade_b2 (some 51) x.1 x.2) (fun k (s : Int32 × mH) => s.1 = nI k ∧ qM s.2 A ∧ qSame (fun k => k = 58) h s.2 ∧ ∃ f, s.2.2 58 = .inl (28, .inl f) ∧ ∀ i, i < k → f i = nI 0) 28 (fun h' => qM h' A ∧ qSame (fun k => k = 58) h h' ∧ ∃ f, h'.2 58 = .inl (28, .inl f) ∧ ∀ i, i < 28 → f i = nI 0) (s0 := (nI 0, h)) ⟨rfl, m, qSame.rf, f, hf, fun i hi => absurd hi (Nat.not_lt_zero i)⟩ ?_ ?_
  · rintro k ⟨ik, hk⟩ hkn ⟨rfl, mk, sk, fk, e1, e2⟩
    obtain ⟨h2, p2, m2, e3, s2⟩ := m_stW mk qMf58 e1 hkn 0
    refine ⟨(nI (k + 1), h2), ?_, rfl, m2, sk.trans s2, _, e3, fun i hi => ?_⟩
    · show f_X9_clearsMade_b2 _ _ _ = _
      unfold f_X9_clearsMade_b2
      rw [if_neg (by rw [qL28, qle (by omega) (by omega)]; omega), mk.made, qbind, p2, qbind, nI_1]
    · by_cases hik : i = k
      · rw [hik, qUps]; rfl
      · rw [qUpn hik]; exact e2 i (by omega)
  · rintro ⟨ik, hk⟩ ⟨rfl, mk, sk, fk, e1, e2⟩
    refine ⟨hk, ?_, mk, sk, fk, e1, e2⟩
    show f_X9_clearsMade_b2 _ _ _ = _
    unfold f_X9_clearsMade_b2
    rw [if_pos (by rw [qL28, qle (by omega) (by omega)]; omega)]
/-- what is made: the words g -/
def qMd (h : mH) (g : Nat → Nat) : Prop := ∃ f, h.2 58 = .inl (28, .inl f) ∧ ∀ i, i < 28 → f i = nI (g i)
theorem m_lays (m : qM h A) {g : Nat → Nat} (d : qMd h g) {i j : Nat} (hi : i < 28) (hj : j < 32) (b : Bool) : ∃ h', f_X9_lays (some 51) (nI i) (nI j) (qB2I b) h = some h' ∧ qM h' A ∧ qMd h' (va_up g i (g i ||| b.toNat * 2 ^ j)) ∧ qSame (fun k => k = 58) h h' := by
  unfold f_X9_lays
  rw [m.is, qbind]
  obtain ⟨f, e1, e2⟩ := d
  cases b
  · rw [qif0]
    refine ⟨h, rfl, m, ⟨f, e1, fun z hz => ?_⟩, qSame.rf⟩
    by_cases hzi : z = i
    · rw [hzi, qVs, show false.toNat = 0 from rfl, Nat.zero_mul, Nat.or_zero]; exact e2 i hi
    · rw [qVn hzi]; exact e2 z hz
  · rw [qif1]
    obtain ⟨h2, p2, m2, e3, s2⟩ := m_stW m qMf58 e1 hi (nI (g i ||| true.toNat * 2 ^ j))
    refine ⟨h2, ?_, m2, ⟨_, e3, fun z hz => ?_⟩, s2⟩
    · rw [m.made, qbind, m.atW e1 (by decide) (by decide) hi, qbind, e2 i hi, qI_pow hj, qI_or]
      rw [show true.toNat = 1 from rfl, Nat.one_mul] at p2
      rw [p2, qbind]
    · by_cases hzi : z = i
      · rw [hzi, qUps, qVs]
      · rw [qUpn hzi, qVn hzi]; exact e2 z hz
/-- the first free place; none -/
def qFr (A : qA) (t : Nat) : Prop := t < 6 ∧ (A.1 t).1 = 0 ∧ ∀ u, u < t → 0 < (A.1 u).1
def qFu (A : qA) : Prop := ∀ t, t < 6 → 0 < (A.1 t).1
theorem qFr_or (A : qA) : qFu A ∨ ∃ t, qFr A t := by
  have key : ∀ n, n ≤ 6 → (∀ t, t < n → 0 < (A.1 t).1) ∨ ∃ t, qFr A t := by
    intro n
    induction n with
    | zero => intro _; exact Or.inl fun t ht => absurd ht (Nat.not_lt_zero t)
    | succ n ih =>
      intro hn
      rcases ih (by omega) with h1 | h1
      · by_cases h0 : (A.1 n).1 = 0
        · exact Or.inr ⟨n, by omega, h0, h1⟩
        · refine Or.inl fun t ht => ?_
          by_cases htn : t = n
          · rw [htn]; omega
          · exact h1 t (by omega)
      · exact Or.inr h1
  exact key 6 (Nat.le_refl 6)
theorem qnm1 {t : Nat} (ht : t < 6) : ¬ nI t = (-1 : Int32) := fun z => qpos (a := t) (by omega) (by rw [z]; decide)
theorem x_empty (q : qX h A) (w : qWA A) {n : Nat} (hn : n ≤ 6) (hf : ∀ u, u < n → 0 < (A.1 u).1) {r : Int32} (he : f_X8_emptyPlace_b2 (some 1) (nI n) h = some (.inr r)) : f_X8_emptyPlace (some 1) h = some r := by
  unfold f_X8_emptyPlace f_X8_emptyPlace_l2
  rw [q.is, qbind]
  have R := mLoop_inv (b := fun x : Int32 => f_X8_emptyPlace_b2 (some 1) x h) (fun k (s : Int32) => s = nI k) n (fun z => z = r) (s0 := nI 0) rfl ?_ ?_
  · obtain ⟨z, h1, rfl⟩ := R
    exact h1
  · rintro k s hk rfl
    refine ⟨nI (k + 1), ?_, rfl⟩
    show f_X8_emptyPlace_b2 (some 1) (nI k) h = _
    obtain ⟨bk, bs, bc, ra, rb, fr', fa, fb, hT, -⟩ := q.2.2.2.1 k (by omega)
    have hn0 := (w.1 k (by omega)).1
    have h0 := hf k hk
    unfold f_X8_emptyPlace_b2
    rw [if_neg (by rw [qL6, qle (by omega) (by omega)]; omega), q.shelf, qbind, q.at (by omega), qbind, hT.size, qbind, if_neg (by rw [qI_zero, qeq (by omega) (by omega)]; omega), nI_1]
  · rintro s rfl
    exact ⟨r, he, rfl⟩
theorem x_empty_no (q : qX h A) (w : qWA A) (hf : qFu A) : f_X8_emptyPlace (some 1) h = some (-1) := by
  refine x_empty q w (Nat.le_refl 6) hf ?_
  unfold f_X8_emptyPlace_b2
  rw [if_pos (by decide)]
theorem x_empty_yes (q : qX h A) (w : qWA A) {t : Nat} (hf : qFr A t) : f_X8_emptyPlace (some 1) h = some (nI t) := by
  have h6 := hf.1
  refine x_empty q w (n := t) (by omega) hf.2.2 ?_
  obtain ⟨bk, bs, bc, ra, rb, fr', fa, fb, hT, -⟩ := q.2.2.2.1 t h6
  unfold f_X8_emptyPlace_b2
  rw [if_neg (by rw [qL6, qle (by omega) (by omega)]; omega), q.shelf, qbind, q.at h6, qbind, hT.size, qbind, hf.2.1, if_pos (show nI 0 = 0 from rfl)]
theorem m_free (m : qM h A) (w : qWA A) {n : Nat} (hn : n ≤ 6) (hf : ∀ u, u < n → 0 < (A.1 u).1) {r : Int32} (he : f_X9_freePlace_b2 (some 51) (nI n) h = some (.inr r)) : f_X9_freePlace (some 51) h = some r := by
  unfold f_X9_freePlace f_X9_freePlace_l2
  obtain ⟨x0, y0, fo, fr, ff, fg, fw, mb, hm⟩ := m.b
  rw [mb.is, qbind]
  have R := mLoop_inv (b := fun x : Int32 => f_X9_freePlace_b2 (some 51) x h) (fun k (s : Int32) => s = nI k) n (fun z => z = r) (s0 := nI 0) rfl ?_ ?_
  · obtain ⟨z, h1, rfl⟩ := R
    exact h1
  · rintro k s hk rfl
    refine ⟨nI (k + 1), ?_, rfl⟩
    show f_X9_freePlace_b2 (some 51) (nI k) h = _
    have hn0 := (w.1 k (by omega)).1
    have h0 := hf k hk
    unfold f_X9_freePlace_b2
    rw [if_neg (by rw [qL6, qle (by omega) (by omega)]; omega), mb.orders, qbind, mb.order (by omega), qbind, (hm k (by omega)).1, if_neg (by rw [qI_zero, qeq (by omega) (by omega)]; omega), nI_1]
  · rintro s rfl
    exact ⟨r, he, rfl⟩
theorem m_free_no (m : qM h A) (w : qWA A) (hf : qFu A) : f_X9_freePlace (some 51) h = some (-1) := by
  refine m_free m w (Nat.le_refl 6) hf ?_
  unfold f_X9_freePlace_b2
  rw [if_pos (by decide)]
theorem m_free_yes (m : qM h A) (w : qWA A) {t : Nat} (hf : qFr A t) : f_X9_freePlace (some 51) h = some (nI t) := by
  have h6 := hf.1
  refine m_free m w (n := t) (by omega) hf.2.2 ?_
  obtain ⟨x0, y0, fo, fr, ff, fg, fw, mb, hm⟩ := m.b
  unfold f_X9_freePlace_b2
  rw [if_neg (by rw [qL6, qle (by omega) (by omega)]; omega), mb.orders, qbind, mb.order h6, qbind, (hm t h6).1, hf.2.1, if_pos (show nI 0 = 0 from rfl)]
theorem m_full_no (m : qM h A) (w : qWA A) (hf : qFu A) : f_X9_isFull (some 51) h = some 1 := by
  unfold f_X9_isFull
  rw [m.is, qbind, m_free_no m w hf, qbind, if_pos rfl]
theorem m_full_yes (m : qM h A) (w : qWA A) {t : Nat} (hf : qFr A t) : f_X9_isFull (some 51) h = some 0 := by
  unfold f_X9_isFull
  rw [m.is, qbind, m_free_yes m w hf, qbind, if_neg (qnm1 hf.1)]
end QMD
/-- a table that comes anew -/
def qNew (n : Nat) (R : Nat → Nat) : qT := (n, R, fun i => 2 * i, fun i => 2 * i, false)
theorem qNew_w {n : Nat} {R : Nat → Nat} (hn : n ≤ 28) (hR : ∀ i, i < n → R i < 2 ^ n) : qWT (qNew n R) := ⟨hn, hR, fun i hi => by show 2 * i < 56; have : i < n := hi; omega, fun i hi => by show 2 * i < 56; have : i < n := hi; omega⟩
section QTA
variable {h : mH} {A : qA} {t : Nat} {c x y : Int32} {fo fr ff fg fw : Nat → Int32}
/-- trails laid for the sides before k, and j numbers of side k -/
def qTr (t k j : Nat) (ff fg fw ff' fg' fw' : Nat → Int32) : Prop := qOut 56 t ff ff' ∧ qOut 56 t fg fg' ∧ qOut 2 t fw fw' ∧ ∀ s, s < 2 → (s < k ∨ s = k ∧ 0 < j → fw' (2 * t + s) = nI (1 - s)) ∧ ∀ z, z < 28 → (s < k ∨ s = k ∧ z < j) → ff' (28 * (2 * t + s) + z) = nI z ∧ fg' (28 * (2 * t + s) + z) = nI 0
theorem m_trailsAnew (mb : qMb h c x y fo fr ff fg fw) (h6 : t < 6) : ∃ h', f_X9_trailsAnew (some 51) (nI t) h = some h' ∧ qSame qC5 h h' ∧ ∃ ff' fg' fw', qMb h' c x y fo fr ff' fg' fw' ∧ qTr t 2 0 ff fg fw ff' fg' fw' := by
  unfold f_X9_trailsAnew f_X9_trailsAnew_l2
  rw [mb.is, qbind]
  refine mLoop_inv (b := fun x : Int32 × mH => f_X9_trailsAnew_b2 (some 51) (nI t) x.1 x.2) (fun k (s : Int32 × mH) => s.1 = nI k ∧ qSame qC5 h s.2 ∧ ∃ ff' fg' fw', qMb s.2 c x y fo fr ff' fg' fw' ∧ qTr t k 0 ff fg fw ff' fg' fw') 2 (fun h' => qSame qC5 h h' ∧ ∃ ff' fg' fw', qMb h' c x y fo fr ff' fg' fw' ∧ qTr t 2 0 ff fg fw ff' fg' fw') (s0 := (nI 0, h)) ⟨rfl, qSame.rf, ff, fg, fw, mb, qOut.rf, qOut.rf, qOut.rf, fun s hs => ⟨fun z => by omega, fun z hz q => by omega⟩⟩ ?_ ?_
  · rintro k ⟨ik, hk⟩ hk2 ⟨rfl, sk, ff1, fg1, fw1, m1, o1, o2, o3, o4⟩
    obtain ⟨h2, p2, m2, s2⟩ := m1.st56 (i := 2 * t + k) (by omega) (nI (1 - k))
    show ∃ s', f_X9_trailsAnew_b2 (some 51) (nI t) (nI k) hk = some (.inl s') ∧ _
    unfold f_X9_trailsAnew_b2
    rw [if_neg (by rw [qL2, qle (by omega) (by omega)]; omega), m1.was, qbind, qL2, qI_mul, qI_add, qI_one, qI_sub (by omega), p2, qbind]
    unfold f_X9_trailsAnew_l22
    have R := mLoop_inv (b := fun x : Int32 × mH => f_X9_trailsAnew_b22 (some 51) (nI t) (nI k) x.1 x.2) (fun j (s : Int32 × mH) => s.1 = nI j ∧ qSame qC5 h s.2 ∧ ∃ ff' fg' fw', qMb s.2 c x y fo fr ff' fg' fw' ∧ fw' (2 * t + k) = nI (1 - k) ∧ qTr t k j ff fg fw ff' fg' fw') 28 (fun r => ∃ s' : Int32 × mH, r = .inl s' ∧ s'.1 = nI (k + 1) ∧ qSame qC5 h s'.2 ∧ ∃ ff' fg' fw', qMb s'.2 c x y fo fr ff' fg' fw' ∧ qTr t (k + 1) 0 ff fg fw ff' fg' fw') (s0 := (nI 0, h2)) ⟨rfl, sk.trans s2, ff1, fg1, _, m2, qUps, o1, o2, o3.up (by omega) (by omega) _, fun s hs => ⟨fun z => ?_, fun z hz q => (o4 s hs).2 z hz (by omega)⟩⟩ ?_ ?_
    · obtain ⟨r, e1, s', rfl, e2⟩ := R
      exact ⟨s', e1, e2⟩
    · rw [qUpn (by omega)]; exact (o4 s hs).1 (by omega)
    · rintro j ⟨ij, hj⟩ hj2 ⟨rfl, sj, ff2, fg2, fw2, m3, w1, u1, u2, u3, u4⟩
      obtain ⟨h3, p3, m4, s3⟩ := m3.st54 (i := 28 * (2 * t + k) + j) (by omega) (nI j)
      obtain ⟨h4, p4, m5, s4⟩ := m4.st55 (i := 28 * (2 * t + k) + j) (by omega) 0
      refine ⟨(nI (j + 1), h4), ?_, rfl, (sj.trans s3).trans s4, _, _, _, m5, w1, u1.up (by omega) (by omega) _, u2.up (by omega) (by omega) _, u3, fun s hs => ⟨fun z => ?_, fun z hz q => ?_⟩⟩
      · show f_X9_trailsAnew_b22 _ _ _ _ _ = _
        unfold f_X9_trailsAnew_b22
        rw [if_neg (by rw [qL28, qle (by omega) (by omega)]; omega), m3.from, qbind, qL28, qL2, qI_mul, qI_add, qI_mul, qI_add, p3, qbind, m4.signed, qbind, p4, qbind, nI_1]
      · by_cases hsk : s = k
        · rw [hsk]; exact w1
        · exact (u4 s hs).1 (by omega)
      · by_cases hzj : s = k ∧ z = j
        · rw [hzj.1, hzj.2, qUps, qUps]; exact ⟨rfl, rfl⟩
        · rw [qUpn (by omega), qUpn (by omega)]
          exact (u4 s hs).2 z hz (by omega)
    · rintro ⟨ij, hj⟩ ⟨rfl, sj, ff2, fg2, fw2, m3, w1, u1, u2, u3, u4⟩
      refine ⟨.inl (nI (k + 1), hj), ?_, _, rfl, rfl, sj, ff2, fg2, fw2, m3, u1, u2, u3, fun s hs => ⟨fun z => ?_, fun z hz q => (u4 s hs).2 z hz (by omega)⟩⟩
      · show f_X9_trailsAnew_b22 _ _ _ _ _ = _
        unfold f_X9_trailsAnew_b22
        rw [if_pos (by rw [qL28, qle (by omega) (by omega)]; omega), nI_1]
      · by_cases hsk : s = k
        · rw [hsk]; exact w1
        · exact (u4 s hs).1 (by omega)
  · rintro ⟨ik, hk⟩ ⟨rfl, sk, ff1, fg1, fw1, m1, o⟩
    refine ⟨hk, ?_, sk, ff1, fg1, fw1, m1, o⟩
    show f_X9_trailsAnew_b2 _ _ _ _ = _
    unfold f_X9_trailsAnew_b2
    rw [if_pos (by show (2 : Int32) ≤ nI 2; decide)]
theorem qTr.new {n : Nat} {R : Nat → Nat} {ff' fg' fw' fo' fr' : Nat → Int32} (q : qTr t 2 0 ff fg fw ff' fg' fw') (hn : n ≤ 28) (h1 : fo' t = nI n) (h2 : ∀ i, i < n → fr' (28 * t + i) = nI (R i)) : qMt fo' fr' ff' fg' fw' t (qNew n R) := by
  obtain ⟨-, -, -, q4⟩ := q
  have e : ∀ z, nI (2 * z / 2) = nI z ∧ nI (2 * z % 2) = nI 0 := fun z => ⟨by congr 1; omega, by congr 1; omega⟩
  refine ⟨h1, h2, fun i hi => ?_, fun i hi => ?_, ?_, ?_⟩
  · have hi' : i < n := hi
    have := (q4 0 (by decide)).2 i (by omega) (by omega)
    show ff' (28 * (2 * t) + i) = nI (2 * i / 2) ∧ fg' (28 * (2 * t) + i) = nI (2 * i % 2)
    rw [(e i).1, (e i).2]
    exact this
  · have hi' : i < n := hi
    have := (q4 1 (by decide)).2 i (by omega) (by omega)
    show ff' (28 * (2 * t + 1) + i) = nI (2 * i / 2) ∧ fg' (28 * (2 * t + 1) + i) = nI (2 * i % 2)
    rw [(e i).1, (e i).2]
    exact this
  · exact fun _ => (q4 0 (by decide)).1 (by omega)
  · exact fun _ => (q4 1 (by decide)).1 (by omega)
theorem m_comes {f : Nat → Int32} (m : qM h A) (w : qWA A) (h58 : h.2 58 = .inl (28, .inl f)) {n : Nat} {R : Nat → Nat} (hn : n ≤ 28) (hR : ∀ i, i < n → f i = nI (R i)) (hf : qFr A t) : ∃ h', f_X9_comes (some 51) (nI n) h = some (nI t, h') ∧ qM h' (qSetT A t (qNew n R)) ∧ qSame qC5 h h' := by
  have h6 := hf.1
  obtain ⟨x0, y0, fo, fr, ff, fg, fw, mb, hm⟩ := m.b
  obtain ⟨h1, p1, m1, s1⟩ := mb.st52 h6 (nI n)
  unfold f_X9_comes
  rw [mb.is, qbind, m_free_yes m w hf, qbind, mb.orders, qbind, p1, qbind]
  unfold f_X9_comes_l14
  have R := mLoop_inv (b := fun x : Int32 × mH => f_X9_comes_b14 (some 51) (nI t) x.1 x.2) (fun k (s : Int32 × mH) => s.1 = nI k ∧ qSame qC5 h s.2 ∧ ∃ fr', qMb s.2 (nI A.2.1.1) x0 y0 (upd fo t (nI n)) fr' ff fg fw ∧ qOut 28 t fr fr' ∧ ∀ i, i < k → fr' (28 * t + i) = f i) 28 (fun r => r.1 = nI t ∧ qM r.2 (qSetT A t (qNew n R)) ∧ qSame qC5 h r.2) (s0 := (nI 0, h1)) ⟨rfl, s1, fr, m1, qOut.rf, fun i hi => absurd hi (Nat.not_lt_zero i)⟩ ?_ ?_
  · obtain ⟨⟨r1, r2⟩, e1, e2, e3⟩ := R
    have e2' : r1 = nI t := e2
    rw [e2'] at e1
    exact ⟨r2, e1, e3⟩
  · rintro k ⟨ik, hk⟩ hk2 ⟨rfl, sk, fr1, mk, o1, o2⟩
    obtain ⟨h2, p2, m2, s2⟩ := mk.st53 (i := 28 * t + k) (by omega) (f k)
    have e58 : hk.2 58 = .inl (28, .inl f) := (sk.2 58 (by unfold qC5; decide)).trans h58
    have g58 : mGR hk (some 51) 8 8 = some (some 58) := qGR (mk.le (by decide)) mk.2.1 rfl
    refine ⟨(nI (k + 1), h2), ?_, rfl, sk.trans s2, _, m2, o1.up (by omega) (by omega) _, fun i hi => ?_⟩
    · show f_X9_comes_b14 _ _ _ _ = _
      unfold f_X9_comes_b14
      rw [if_neg (by rw [qL28, qle (by omega) (by omega)]; omega), mk.rows, qbind, g58, qbind, qAI (mk.le (by decide)) e58 (by decide) hk2, qbind, qL28, qI_mul, qI_add, p2, qbind, nI_1]
    · by_cases hik : i = k
      · rw [hik, qUps]
      · rw [qUpn (by omega)]; exact o2 i (by omega)
  · rintro ⟨ik, hk⟩ ⟨rfl, sk, fr1, mk, o1, o2⟩
    obtain ⟨h2, p2, s2, ff2, fg2, fw2, m2, o⟩ := m_trailsAnew mk h6
    refine ⟨(nI t, h2), ?_, rfl, ?_, sk.trans s2⟩
    · show f_X9_comes_b14 _ _ _ _ = _
      unfold f_X9_comes_b14
      rw [if_pos (by show (28 : Int32) ≤ nI 28; decide), p2, qbind]
    · exact m.upd (sk.trans s2) m2 (qMset w hm (o.new hn qUps fun i hi => (o2 i (by omega)).trans (hR i hi)) (qOut.rf.up (by omega) (by omega) _) o1 o.1 o.2.1 o.2.2.1) rfl
end QTA
/-- a table of the class begun: order n, rows fr, no trail yet -/
def qBg (h : mH) (t n : Nat) (fr : Nat → Int32) : Prop := ∃ bs bc ra rb fa fb, qTX h t (nI n) 0 0 bs bc ra rb fr fa fb ∧ ∀ i, i < 28 → fa i = nI (2 * i) ∧ fb i = nI (2 * i)
section QBG
variable {h : mH} {t n : Nat} {fr : Nat → Int32}
theorem qBg.st (q : qBg h t n fr) {i : Nat} (hi : i < 28) (v : Int32) : ∃ h', mSI h (some (4 + 4 * t)) (nI i) v = some h' ∧ qBg h' t n (upd fr i v) ∧ qSame (qIs4 t) h h' := by
  obtain ⟨bs, bc, ra, rb, fa, fb, hT, e⟩ := q
  obtain ⟨h', p, t', s⟩ := hT.stRow hi v
  exact ⟨h', p, ⟨bs, bc, ra, rb, fa, fb, t', e⟩, s⟩
theorem qBg.rows (q : qBg h t n fr) : mGR h (some (3 + 4 * t)) 6 1 = some (some (4 + 4 * t)) := by
  obtain ⟨bs, bc, ra, rb, fa, fb, hT, e⟩ := q
  exact hT.rows
theorem qBg.row (q : qBg h t n fr) {i : Nat} (hi : i < 28) : mAI h (some (4 + 4 * t)) (nI i) = some (fr i) := by
  obtain ⟨bs, bc, ra, rb, fa, fb, hT, e⟩ := q
  exact hT.row hi
theorem qBg.fin (q : qBg h t n fr) (hn : n ≤ 28) {R : Nat → Nat} (hR : ∀ i, i < n → fr i = nI (R i)) : qXt h t (qNew n R) := by
  obtain ⟨bs, bc, ra, rb, fa, fb, hT, e⟩ := q
  exact ⟨0, bs, bc, ra, rb, fr, fa, fb, hT, hR, fun i hi => (e i (Nat.lt_of_lt_of_le hi hn)).1, fun i hi => (e i (Nat.lt_of_lt_of_le hi hn)).2, Or.inl rfl⟩
theorem x_beginTrail {tn bk bs bc : Int32} {ra rb : Nat} {fa fb : Nat → Int32} (q : qTX h t (nI n) tn bk bs bc ra rb fr fa fb) : ∃ h', f_X7_beginTrail (some (3 + 4 * t)) h = some h' ∧ qBg h' t n fr ∧ qSame (qIs4 t) h h' := by
  unfold f_X7_beginTrail f_X7_beginTrail_l2
  rw [q.is, qbind]
  refine mLoop_inv (b := fun x : Int32 × mH => f_X7_beginTrail_b2 (some (3 + 4 * t)) x.1 x.2) (fun k (s : Int32 × mH) => s.1 = nI k ∧ qSame (qIs4 t) h s.2 ∧ ∃ fa' fb', qTX s.2 t (nI n) tn bk bs bc ra rb fr fa' fb' ∧ ∀ i, i < k → fa' i = nI (2 * i) ∧ fb' i = nI (2 * i)) 28 (fun h' => qBg h' t n fr ∧ qSame (qIs4 t) h h') (s0 := (nI 0, h)) ⟨rfl, qSame.rf, fa, fb, q, fun i hi => absurd hi (Nat.not_lt_zero i)⟩ ?_ ?_
  · rintro k ⟨ik, hk⟩ hk2 ⟨rfl, sk, fa1, fb1, t1, o1⟩
    obtain ⟨h2, p2, t2, s2⟩ := t1.stA hk2 (nI (2 * k))
    obtain ⟨h3, p3, t3, s3⟩ := t2.stB hk2 (nI (2 * k))
    refine ⟨(nI (k + 1), h3), ?_, rfl, (sk.trans s2).trans s3, _, _, t3, fun i hi => ?_⟩
    · show f_X7_beginTrail_b2 _ _ _ = _
      unfold f_X7_beginTrail_b2
      rw [if_neg (by rw [qL28, qle (by omega) (by omega)]; omega), t1.tra, qbind, qL2, qI_mul, p2, qbind, t2.trb, qbind, p3, qbind, nI_1]
    · by_cases hik : i = k
      · rw [hik, qUps, qUps]; exact ⟨rfl, rfl⟩
      · rw [qUpn hik, qUpn hik]; exact o1 i (by omega)
  · rintro ⟨ik, hk⟩ ⟨rfl, sk, fa1, fb1, t1, o1⟩
    obtain ⟨h2, p2, t2, s2⟩ := t1.put (j := 4) (v := .int 0) (tn' := 0) (by decide) rfl
    obtain ⟨h3, p3, t3, s3⟩ := t2.put (j := 5) (v := .int 0) (bk' := 0) (by decide) rfl
    refine ⟨h3, ?_, ⟨bs, bc, ra, rb, fa1, fb1, t3, o1⟩, (sk.trans s2).trans s3⟩
    show f_X7_beginTrail_b2 _ _ _ = _
    unfold f_X7_beginTrail_b2
    rw [if_pos (by show (28 : Int32) ≤ nI 28; decide), p2, qbind, p3, qbind]
theorem x_begin {T : qT} (q : qXt h t T) (n : Nat) : ∃ h' fr', f_X7_begin (some (3 + 4 * t)) (nI n) h = some h' ∧ qBg h' t n fr' ∧ (∀ i, i < 28 → fr' i = nI 0) ∧ qSame (qIs4 t) h h' := by
  obtain ⟨bk, bs, bc, ra, rb, fr, fa, fb, hT, hs⟩ := q
  obtain ⟨h1, p1, t1, s1⟩ := hT.put (j := 0) (v := .int (nI n)) (n' := nI n) (by decide) rfl
  have hl : mLn h1 (some (4 + 4 * t)) = some (nI 28) := qLn t1.le.2.1 t1.2.2.2.1
  have R : ∃ h2, f_J7_fill_53178 (some (4 + 4 * t)) 0 h1 = some h2 ∧ ∃ fr', qTX h2 t (nI n) (qB2I T.2.2.2.2) bk bs bc ra rb fr' fa fb ∧ (∀ i, i < 28 → fr' i = nI 0) ∧ qSame (qIs4 t) h h2 := by
    unfold f_J7_fill_53178 f_J7_fill_53178_l5
    rw [hl, qbind]
    refine mLoop_inv (b := fun x : Int32 × mH => f_J7_fill_53178_b5 (some (4 + 4 * t)) 0 (nI 28) x.1 x.2) (fun k (s : Int32 × mH) => s.1 = nI k ∧ qSame (qIs4 t) h s.2 ∧ ∃ fr', qTX s.2 t (nI n) (qB2I T.2.2.2.2) bk bs bc ra rb fr' fa fb ∧ ∀ i, i < k → fr' i = nI 0) 28 (fun h2 => ∃ fr', qTX h2 t (nI n) (qB2I T.2.2.2.2) bk bs bc ra rb fr' fa fb ∧ (∀ i, i < 28 → fr' i = nI 0) ∧ qSame (qIs4 t) h h2) (s0 := (nI 0, h1)) ⟨rfl, s1, fr, t1, fun i hi => absurd hi (Nat.not_lt_zero i)⟩ ?_ ?_
    · rintro k ⟨ik, hk⟩ hk2 ⟨rfl, sk, fr1, t2, o1⟩
      obtain ⟨h3, p3, t3, s3⟩ := t2.stRow hk2 0
      refine ⟨(nI (k + 1), h3), ?_, rfl, sk.trans s3, _, t3, fun i hi => ?_⟩
      · show f_J7_fill_53178_b5 _ _ _ _ _ = _
        unfold f_J7_fill_53178_b5
        rw [if_neg (by rw [qle (by omega) (by omega)]; omega), p3, qbind, nI_1]
      · by_cases hik : i = k
        · rw [hik, qUps]; rfl
        · rw [qUpn hik]; exact o1 i (by omega)
    · rintro ⟨ik, hk⟩ ⟨rfl, sk, fr1, t2, o1⟩
      refine ⟨hk, ?_, fr1, t2, o1, sk⟩
      show f_J7_fill_53178_b5 _ _ _ _ _ = _
      unfold f_J7_fill_53178_b5
      rw [if_pos (by show nI 28 ≤ nI 28; decide)]
  obtain ⟨h2, p2, fr', t2, o2, s2⟩ := R
  obtain ⟨h3, p3, b3, s3⟩ := x_beginTrail t2
  refine ⟨h3, fr', ?_, b3, o2, s2.trans s3⟩
  unfold f_X7_begin
  rw [hT.is, qbind, p1, qbind, t1.rows, qbind, p2, qbind, p3, qbind]
end QBG
