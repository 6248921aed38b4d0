/-! classes by number; a field's site -/
def mCR (ci : Nat) : String := match ci with | 0 => RX0 | 1 => RX1 | 2 => RX3 | 3 => RX4 | 4 => RX5 | 5 => RX6 | 6 => RX7 | 7 => RX8 | _ => RX9
def mCT (ci : Nat) : u_T := match ci with | 0 => TX0 | 1 => TX1 | 2 => TX3 | 3 => TX4 | 4 => TX5 | 5 => TX6 | 6 => TX7 | 7 => TX8 | _ => TX9
def mCN (ci : Nat) : Nat := match ci with | 0 => 2 | 1 => 1 | 2 => 6 | 3 => 9 | 4 => 4 | 5 => 2 | 6 => 8 | 7 => 11 | _ => 25
def mCty (ci : Nat) : Nat → FieldType := match ci with | 0 => tyX0 | 1 => tyX1 | 2 => tyX3 | 3 => tyX4 | 4 => tyX5 | 5 => tyX6 | 6 => tyX7 | 7 => tyX8 | _ => tyX9
theorem mC9 {P : Nat → Prop} (h0 : P 0) (h1 : P 1) (h2 : P 2) (h3 : P 3) (h4 : P 4) (h5 : P 5) (h6 : P 6) (h7 : P 7) (h8 : P 8) {ci : Nat} (h : ci < 9) : P ci := by
  match ci, h with
  | 0, _ => exact h0
  | 1, _ => exact h1
  | 2, _ => exact h2
  | 3, _ => exact h3
  | 4, _ => exact h4
  | 5, _ => exact h5
  | 6, _ => exact h6
  | 7, _ => exact h7
  | 8, _ => exact h8
theorem mCl_at {ci : Nat} (h : ci < 9) : mCl[ci]? = some (mCR ci, mCT ci, mCN ci) := mC9 (P := fun ci => mCl[ci]? = some (mCR ci, mCT ci, mCN ci)) rfl rfl rfl rfl rfl rfl rfl rfl rfl h
set_option maxRecDepth 100000 in
theorem mCin0 : ∀ x ∈ u_ws RX0 TX0 2, x ∈ mT := by decide +kernel
set_option maxRecDepth 100000 in
theorem mCin1 : ∀ x ∈ u_ws RX1 TX1 1, x ∈ mT := by decide +kernel
set_option maxRecDepth 100000 in
theorem mCin2 : ∀ x ∈ u_ws RX3 TX3 6, x ∈ mT := by decide +kernel
set_option maxRecDepth 100000 in
theorem mCin3 : ∀ x ∈ u_ws RX4 TX4 9, x ∈ mT := by decide +kernel
set_option maxRecDepth 100000 in
theorem mCin4 : ∀ x ∈ u_ws RX5 TX5 4, x ∈ mT := by decide +kernel
set_option maxRecDepth 100000 in
theorem mCin5 : ∀ x ∈ u_ws RX6 TX6 2, x ∈ mT := by decide +kernel
set_option maxRecDepth 100000 in
theorem mCin6 : ∀ x ∈ u_ws RX7 TX7 8, x ∈ mT := by decide +kernel
set_option maxRecDepth 100000 in
theorem mCin7 : ∀ x ∈ u_ws RX8 TX8 11, x ∈ mT := by decide +kernel
set_option maxRecDepth 100000 in
theorem mCin8 : ∀ x ∈ u_ws RX9 TX9 25, x ∈ mT := by decide +kernel
theorem mCin {ci : Nat} (h : ci < 9) : ∀ x ∈ u_ws (mCR ci) (mCT ci) (mCN ci), x ∈ mT := mC9 (P := fun ci => ∀ x ∈ u_ws (mCR ci) (mCT ci) (mCN ci), x ∈ mT) mCin0 mCin1 mCin2 mCin3 mCin4 mCin5 mCin6 mCin7 mCin8 h
theorem mCty_ok {ci : Nat} (h : ci < 9) : ∀ k, k < mCN ci → parseFieldDescriptor (mCT ci k).2.2.1 = some (mCty ci k) := mC9 (P := fun ci => ∀ k, k < mCN ci → parseFieldDescriptor (mCT ci k).2.2.1 = some (mCty ci k)) tyX0_ok tyX1_ok tyX3_ok tyX4_ok tyX5_ok tyX6_ok tyX7_ok tyX8_ok tyX9_ok h
theorem mCnm {ci : Nat} (h : ci < 9) : ∀ a, a < mCN ci → ∀ b, b < mCN ci → a ≠ b → (mCT ci a).2.1 ≠ (mCT ci b).2.1 := mC9 (P := fun ci => ∀ a, a < mCN ci → ∀ b, b < mCN ci → a ≠ b → (mCT ci a).2.1 ≠ (mCT ci b).2.1) nmX0 nmX1 nmX3 nmX4 nmX5 nmX6 nmX7 nmX8 nmX9 h
theorem mCow {ci : Nat} (h : ci < 9) : ∀ a, a < mCN ci → (mCT ci a).1 = mCR ci := mC9 (P := fun ci => ∀ a, a < mCN ci → (mCT ci a).1 = mCR ci) (by decide +kernel) (by decide +kernel) (by decide +kernel) (by decide +kernel) (by decide +kernel) (by decide +kernel) (by decide +kernel) (by decide +kernel) (by decide +kernel) h
def mFld (own : String) (idx ci j : Nat) : Prop := ci < 9 ∧ j < mCN ci ∧ (Cond.fieldLink own idx (mCR ci) (mCT ci j).2.1 (mCT ci j).2.2.1 ∈ mT ∨ ∃ host : String, Cond.fieldLinkNest own idx (mCR ci) (mCT ci j).2.1 (mCT ci j).2.2.1 host ∈ mNest)
theorem mIn_of {i : Int32} {n : Nat} (h : ¬ (i < 0 ∨ n ≤ i.toNatClampNeg)) : vp_in i n := h
section MHEAP
variable {w : mWp} {k : mK} {cu su pc n : Nat} {ls : List (Option Value)} {st : List Value} {h : mH} {Q : Option Value → mH → Prop}
theorem mObj0 {H : Heap} (P : mRep w h H) {a ci : Nat} {fs : List Value} (q : h.2 a = .inr (ci, fs)) : a ≠ 0 := by
  intro h0
  subst h0
  rw [P.2.2.2] at q
  cases q
theorem mGo.getV {a b ci j : Nat} {fs : List Value} {v : Value} (hd : decode k.1 pc = .ok (.getfield a, 3)) (hf : mFld k.2.1 a ci j) (hb : b ≤ h.1) (he : h.2 b = .inr (ci, fs)) (hv : fs[j]? = some v) (hn : pc + 3 = n) (kk : mGo w k cu su n ls (v :: st) h Q) : mGo w k cu su pc ls (.ref b :: st) h Q := by
  subst hn
  intro p e s m args below meth c Z H lc locs C R P F L
  obtain ⟨f1, f2, f3⟩ := hf
  have hP := mRep_at P (mObj0 P he) hb
  rw [he] at hP
  have hk := kk p e s m args below meth c Z H lc locs C R P F L
  have hv' : (fs.map (mV w))[j]? = some (mV w v) := by rw [List.getElem?_map, hv]; rfl
  have hsame : ∀ x, s.fieldFound? (mCT ci j).1 (mCT ci j).2.1 (mCT ci j).2.2.1 = some x → s.fieldFound? (mCR ci) (mCT ci j).2.1 (mCT ci j).2.2.1 = some x := fun x hx => by rw [mCow f1 j f2] at hx; exact hx
  rcases f3 with f3 | ⟨host, f3⟩
  · exact va_get (D := mD w) C.1 C.2.1 C.2.2.2.2.1 (mCin f1) C.2.2.2.1 C.2.2.2.2.2.2.2.1 hP 0 rfl (mCl_at f1) j f2 (C.2.2.2.2.1 _ f3) hsame hv' hd hk
  · exact va_getN (D := mD w) C.1 C.2.1 C.2.2.2.2.1 (mCin f1) C.2.2.2.1 C.2.2.2.2.2.2.2.1 hP 0 rfl (mCl_at f1) j f2 (va_Nw.use rfl (C.2.2.2.2.2.2.2.2.1 _ f3)) hsame hv' hd hk
theorem mGo.getI {a ci j : Nat} {r : Option Nat} {x : Int32} (hd : decode k.1 pc = .ok (.getfield a, 3)) (hf : mFld k.2.1 a ci j) (hg : mGI h r ci j = some x) (hn : pc + 3 = n) (kk : mGo w k cu su n ls (.int x :: st) h Q) : mGo w k cu su pc ls (va_rf r :: st) h Q := by
  obtain ⟨b, fs, rfl, h3, h4, h5⟩ := mGI_ok hg
  exact mGo.getV hd hf h3 h4 h5 hn kk
theorem mGo.getR {a ci j : Nat} {r x : Option Nat} (hd : decode k.1 pc = .ok (.getfield a, 3)) (hf : mFld k.2.1 a ci j) (hg : mGR h r ci j = some x) (hn : pc + 3 = n) (kk : mGo w k cu su n ls (va_rf x :: st) h Q) : mGo w k cu su pc ls (va_rf r :: st) h Q := by
  obtain ⟨b, fs, rfl, h3, h4, h5⟩ := mGR_ok hg
  exact mGo.getV hd hf h3 h4 h5 hn kk
theorem mFr_put {w : mWp} {a z : Nat} (h0 : a ≠ 0) {locs : List Loc} (F : ∀ q ∈ locs, mFr w q.base) : ∀ q ∈ locs ++ [⟨mAd w a, z⟩], mFr w q.base := by
  intro q hq
  rcases List.mem_append.mp hq with h1 | h1
  · exact F q h1
  · rw [List.mem_singleton.mp h1]
    cases a with
    | zero => exact absurd rfl h0
    | succ a => exact Nat.le_add_right _ _
theorem mGo.putV {a b ci j : Nat} {fs : List Value} {v : Value} (hd : decode k.1 pc = .ok (.putfield a, 3)) (hf : mFld k.2.1 a ci j) (hfin : (mCT ci j).2.2.2 = false ∨ (k.2.2.2.2.1 = "<init>" ∧ (mCT ci j).2.2.2 = true ∧ k.2.1 = mCR ci ∧ Cond.fieldLink k.2.1 a (mCR ci) (mCT ci j).2.1 (mCT ci j).2.2.1 ∈ mT)) (hb : b ≤ h.1) (he : h.2 b = .inr (ci, fs)) (hj : j < fs.length) (hnv : narrow (mCty ci j) (mV w v) = mV w v) (hfv : fits (mCty ci j) (mV w v) = true) (hn : pc + 3 = n) (kk : mGo w k cu su n ls st (mPut h b (.inr (ci, fs.set j v))) Q) : mGo w k cu su pc ls (v :: .ref b :: st) h Q := by
  subst hn
  intro p e s m args below meth c Z H lc locs C R P F L
  obtain ⟨f1, f2, f3⟩ := hf
  have h0 := mObj0 P he
  have hP := mRep_at P h0 hb
  rw [he] at hP
  have hK := C.2.2.2.2.2.2.2.1
  have hc := mCl_at f1
  have hts := C.2.2.2.2.1
  have hin := mCin f1
  have hty := mCty_ok f1
  have hap := va_apart (own := k.2.1) hts hin (mCty ci) hty (mCnm f1) hK hc
  obtain ⟨r, h1, cell, q1, q2, q3, q4⟩ := hP 0 _ rfl
  have hr : r = (mCR ci, mCT ci, mCN ci) := Option.some.inj (h1.symm.trans hc)
  subst hr
  obtain ⟨hS, hfc, kC, hkC, hkind⟩ := hK.1 ci _ hc
  obtain ⟨cf, kf, fi, f, hi, hsl⟩ := hS j f2
  have hlay := hts _ (hin _ (u_in_lay f2))
  have hst := (u_facts hfc hkC (u_lays hts hin f2) hi).1
  have hi2 : s.fieldFound? (mCR ci) (mCT ci j).2.1 (mCT ci j).2.2.1 = some (cf, kf, fi, f) := by
    have h9 := hi
    rw [show (mCR ci, mCT ci, mCN ci).2.1 = mCT ci from rfl, mCow f1 j f2] at h9
    exact h9
  have fin : ∀ (H1 : Heap) (z : Nat), H1[mAd w b]? = some (cell.setSlot f.slot (mV w v)) → H1.size = H.size → (∀ q, q ≠ mAd w b → H1[q]? = H[q]?) → W p (mL w) e k.2.2.2.2.2 s m args below meth c H1 (locs ++ [⟨mAd w b, z⟩]) cu su Z (F0 m (pc + 3) lc (st.map (mV w))) := by
    intro H1 z e1 e2 e3
    refine kk p e s m args below meth c Z H1 lc _ C R (mRep_put P h0 hb e2 e3 ?_) (mFr_put h0 F) L
    refine ⟨_, hc, ?_⟩
    rw [hsl] at e1
    refine t_OB.to (V := updV (vp_V (fs.map (mV w))) j (mV w v)) ⟨_, e1, q2, q3, t_set q4 hap f2 (mV w v)⟩ (fun i _ => ?_)
    rw [vp_updV_set (by simpa using hj), List.map_set]
  unfold u_lay at hlay
  rcases hfin with hff | ⟨g1, g2, g3, f3⟩
  · rw [if_neg (by rw [hff]; decide)] at hlay
    have h6 := u_store hfc hkC hkind hlay hi (hty j f2) hnv hfv
    rcases f3 with f3 | ⟨host, f3⟩
    · exact W.putK C.1 C.2.1 (f := f) ⟨C.2.2.2.1, hts _ f3, ⟨_, _, _, hi2⟩, hst⟩ (by rw [q2]; exact h6) q1 q3 (by rw [hsl]; exact k2_hasslot (q4 j f2)) rfl rfl hd fun H' e1 e2 e3 => fin H' _ e1 e2 e3
    · exact va_WputK C.1 C.2.1 (f := f) C.2.2.2.1 (va_Nw.use rfl (C.2.2.2.2.2.2.2.2.1 _ f3)) hi2 hst (by rw [q2]; exact h6) q1 q3 (by rw [hsl]; exact k2_hasslot (q4 j f2)) rfl rfl hd fun H' e1 e2 e3 => fin H' _ e1 e2 e3
  · rw [if_pos g2] at hlay
    have hcf : m.cls = cf := by
      obtain ⟨_, _, c', _, _, _, -, -, hf', -, -, -, hown2, -⟩ := Cond.laysFinal_spec hlay
      have e1 : c' = cf := by have := hi.symm.trans hf'; simp at this; exact this.1.symm
      rw [mCow f1 j f2, ← g3] at hown2
      rw [← e1]; exact Option.some.inj (C.2.2.2.1.symm.trans hown2)
    have h6 := u_fits hfc hkC hkind (Or.inr hlay) hi (hty j f2) hnv hfv
    exact W.putFinK C.1 C.2.1 C.2.2.2.1 (hts _ f3) hi2 hst hcf (by rw [C.2.2.2.2.2.2.1]; exact g1) (by rw [q2]; exact h6) q1 q3 (by rw [hsl]; exact k2_hasslot (q4 j f2)) rfl rfl hd fun H' e1 e2 e3 => fin H' _ e1 e2 e3
theorem mPF_ok {r : Option Nat} {ci j : Nat} {v : Value} {h1 : mH} (q : mPF h r ci j v = some h1) : ∃ b fs, r = some b ∧ b ≤ h.1 ∧ h.2 b = .inr (ci, fs) ∧ j < fs.length ∧ h1 = mPut h b (.inr (ci, fs.set j v)) := by
  obtain ⟨fs, q1, q⟩ := mBind q
  obtain ⟨b, rfl, h3, h4⟩ := mObj_ok q1
  obtain ⟨h5, h6⟩ := mIfP q
  exact ⟨b, fs, rfl, h3, h4, h5, (Option.some.inj h6).symm⟩
theorem mGo.putI {a ci j : Nat} {r : Option Nat} {x : Int32} {h1 : mH} (hd : decode k.1 pc = .ok (.putfield a, 3)) (hf : mFld k.2.1 a ci j) (hfin : (mCT ci j).2.2.2 = false) (hty : mCty ci j = .int) (hg : mPF h r ci j (.int x) = some h1) (hn : pc + 3 = n) (kk : mGo w k cu su n ls st h1 Q) : mGo w k cu su pc ls (.int x :: va_rf r :: st) h Q := by
  obtain ⟨b, fs, rfl, h3, h4, h5, rfl⟩ := mPF_ok hg
  exact mGo.putV hd hf (Or.inl hfin) h3 h4 h5 (by rw [hty]; rfl) (by rw [hty]; rfl) hn kk
theorem mGo.putZ {a ci j : Nat} {r : Option Nat} {x : Int32} {h1 : mH} (hd : decode k.1 pc = .ok (.putfield a, 3)) (hf : mFld k.2.1 a ci j) (hfin : (mCT ci j).2.2.2 = false) (hty : mCty ci j = .boolean) (hx : x = 0 ∨ x = 1) (hg : mPF h r ci j (.int x) = some h1) (hn : pc + 3 = n) (kk : mGo w k cu su n ls st h1 Q) : mGo w k cu su pc ls (.int x :: va_rf r :: st) h Q := by
  obtain ⟨b, fs, rfl, h3, h4, h5, rfl⟩ := mPF_ok hg
  exact mGo.putV hd hf (Or.inl hfin) h3 h4 h5 (by rw [hty]; rcases hx with rfl | rfl <;> rfl) (by rw [hty]; rcases hx with rfl | rfl <;> rfl) hn kk
theorem mGo.putR {a ci j : Nat} {r x : Option Nat} {h1 : mH} (hd : decode k.1 pc = .ok (.putfield a, 3)) (hf : mFld k.2.1 a ci j) (hfin : (mCT ci j).2.2.2 = false ∨ (k.2.2.2.2.1 = "<init>" ∧ (mCT ci j).2.2.2 = true ∧ k.2.1 = mCR ci ∧ Cond.fieldLink k.2.1 a (mCR ci) (mCT ci j).2.1 (mCT ci j).2.2.1 ∈ mT)) (hty : (mCty ci j).isReference = true) (hg : mPF h r ci j (va_rf x) = some h1) (hn : pc + 3 = n) (kk : mGo w k cu su n ls st h1 Q) : mGo w k cu su pc ls (va_rf x :: va_rf r :: st) h Q := by
  obtain ⟨b, fs, rfl, h3, h4, h5, rfl⟩ := mPF_ok hg
  have h6 : narrow (mCty ci j) (mV w (va_rf x)) = mV w (va_rf x) ∧ fits (mCty ci j) (mV w (va_rf x)) = true := by
    rw [mV_rf]
    generalize mCty ci j = ty at hty
    cases ty <;> first | (cases x <;> exact ⟨rfl, rfl⟩) | (simp [FieldType.isReference] at hty)
  exact mGo.putV hd hf hfin h3 h4 h5 h6.1 h6.2 hn kk

/-! arrays -/
theorem mGo.iald {r : Option Nat} {i x : Int32} (hd : decode k.1 pc = .ok (.iaload, 1)) (hg : mAI h r i = some x) (hn : pc + 1 = n) (kk : mGo w k cu su n ls (.int x :: st) h Q) : mGo w k cu su pc ls (.int i :: va_rf r :: st) h Q := by
  subst hn
  intro p e s m args below meth c Z H lc locs C R P F L
  obtain ⟨q, h1, h2⟩ := mBind hg
  obtain ⟨b, rfl, h3, h4⟩ := mArI_ok h1
  obtain ⟨h5, h6⟩ := mIfN h2
  cases h6
  have hk := kk p e s m args below meth c Z H lc locs C R P F L
  have hK := C.2.2.2.2.2.2.2
  by_cases h0 : b = 0
  · subst h0
    rw [P.2.2.2] at h4
    obtain ⟨e1, e2⟩ : msL w = q.1 ∧ msx w = q.2 := by
      have h7 := Sum.inl.inj h4
      have h8 := congrArg Prod.fst h7
      have h9 := congrArg Prod.snd h7
      exact ⟨h8, Sum.inl.inj h9⟩
    obtain ⟨scr, a1, a2, a3, a4, a5⟩ := hK.2.2.2.1
    have hlt : i.toNatClampNeg < msL w := by rw [e1]; exact Nat.not_le.mp fun z => h5 (Or.inr z)
    exact W.iald (v := .int (q.2 i.toNatClampNeg)) C.1 C.2.1 (a := msb w) (by rw [P.2.1 _ hK.2.2.2.2]; exact a1) a2 a3 (by rw [a4, e1]; exact h5) (by rw [← e2]; exact a5 _ hlt) rfl rfl hd hk
  · have hP := mRep_at P h0 h3
    rw [h4] at hP
    exact va_iald (D := mD w) C.1 C.2.1 hK.1 hP 0 0 rfl rfl h5 hd hk
theorem mGo.lald {r : Option Nat} {i : Int32} {x : Int64} (hd : decode k.1 pc = .ok (.laload, 1)) (hg : mAL h r i = some x) (hn : pc + 1 = n) (kk : mGo w k cu su n ls (.long x :: st) h Q) : mGo w k cu su pc ls (.int i :: va_rf r :: st) h Q := by
  subst hn
  intro p e s m args below meth c Z H lc locs C R P F L
  obtain ⟨q, h1, h2⟩ := mBind hg
  obtain ⟨b, rfl, h3, h4⟩ := mArL_ok h1
  obtain ⟨h5, h6⟩ := mIfN h2
  cases h6
  have h0 : b ≠ 0 := fun h0 => by subst h0; rw [P.2.2.2] at h4; have h9 := congrArg Prod.snd (Sum.inl.inj h4); cases h9
  have hP := mRep_at P h0 h3
  rw [h4] at hP
  exact va_lald (D := mD w) C.1 C.2.1 C.2.2.2.2.2.2.2.1 hP 0 1 rfl rfl h5 hd (kk p e s m args below meth c Z H lc locs C R P F L)
theorem mGo.aald {r x : Option Nat} {i : Int32} (hd : decode k.1 pc = .ok (.aaload, 1)) (hg : mAR h r i = some x) (hn : pc + 1 = n) (kk : mGo w k cu su n ls (va_rf x :: st) h Q) : mGo w k cu su pc ls (.int i :: va_rf r :: st) h Q := by
  subst hn
  intro p e s m args below meth c Z H lc locs C R P F L
  obtain ⟨q, h1, h2⟩ := mBind hg
  obtain ⟨b, rfl, h3, h4⟩ := mArR_ok h1
  obtain ⟨h5, h6⟩ := mIfN h2
  cases h6
  have h0 : b ≠ 0 := fun h0 => by subst h0; rw [P.2.2.2] at h4; have h9 := congrArg Prod.snd (Sum.inl.inj h4); cases h9
  have hP := mRep_at P h0 h3
  rw [h4] at hP
  have hk := kk p e s m args below meth c Z H lc locs C R P F L
  rw [List.map_cons, mV_rf] at hk
  exact va_aldq (D := mD w) (C := RX7) C.1 C.2.1 C.2.2.2.2.2.2.2.1 hP 0 2 rfl rfl h5 hd hk
theorem mGo.alen {r : Option Nat} {x : Int32} (hd : decode k.1 pc = .ok (.arraylength, 1)) (hg : mLn h r = some x) (hn : pc + 1 = n) (kk : mGo w k cu su n ls (.int x :: st) h Q) : mGo w k cu su pc ls (va_rf r :: st) h Q := by
  subst hn
  intro p e s m args below meth c Z H lc locs C R P F L
  obtain ⟨b, rfl, h2⟩ := mBind hg
  obtain ⟨q, h1, h2⟩ := mBind h2
  obtain ⟨h3, h4⟩ := mCell_ok h1
  have hk := kk p e s m args below meth c Z H lc locs C R P F L
  have hK := C.2.2.2.2.2.2.2
  by_cases h0 : b = 0
  · subst h0
    rw [P.2.2.2] at h4
    subst h4
    cases h2
    obtain ⟨scr, a1, a2, a3, a4, a5⟩ := hK.2.2.2.1
    exact W.alen (n := Int32.ofNat (msL w)) C.1 C.2.1 (a := msb w) (by rw [P.2.1 _ hK.2.2.2.2]; exact a1) a2 (by rw [a4] <;> rfl) rfl rfl hd hk
  · have hP := mRep_at P h0 h3
    rw [h4] at hP
    match q, h2, hP with
    | .inl (n, .inl f), h2, hP => cases h2; exact va_alen (D := mD w) C.1 C.2.1 hK.1 hP 0 0 rfl rfl rfl hd hk
    | .inl (n, .inr (.inl f)), h2, hP => cases h2; exact va_alen (D := mD w) C.1 C.2.1 hK.1 hP 0 1 rfl rfl rfl hd hk
    | .inl (n, .inr (.inr f)), h2, hP => cases h2; exact va_alen (D := mD w) C.1 C.2.1 hK.1 hP 0 2 rfl rfl rfl hd hk
theorem mGo.iast {r : Option Nat} {i x : Int32} {h1 : mH} (hd : decode k.1 pc = .ok (.iastore, 1)) (hg : mSI h r i x = some h1) (hn : pc + 1 = n) (kk : mGo w k cu su n ls st h1 Q) : mGo w k cu su pc ls (.int x :: .int i :: va_rf r :: st) h Q := by
  subst hn
  intro p e s m args below meth c Z H lc locs C R P F L
  obtain ⟨q, g1, g2⟩ := mBind hg
  obtain ⟨b, rfl, h3, h4⟩ := mArI_ok g1
  obtain ⟨h5, h6⟩ := mIfN g2
  cases h6
  have h0 : b ≠ 0 := fun z => h5 (Or.inl (by rw [z]))
  have h5' : ¬ (i < 0 ∨ q.1 ≤ i.toNatClampNeg) := fun z => h5 (Or.inr z)
  have hP := mRep_at P h0 h3
  rw [h4] at hP
  have hc := hP 0 _ rfl
  have hc' : H[mAd w b]? = some (arrV (mcI w) q.1 (fun j => .int (q.2 j))) := hc
  refine W.iast C.1 C.2.1 hc' ((C.2.2.2.2.2.2.2.1.2 0 _ rfl).1 q.1 (fun j => .int (q.2 j))) (fun z => by cases z) (by rw [arrV_size]; exact h5') rfl rfl hd fun H1 e1 e2 e3 => ?_
  refine kk p e s m args below meth c Z H1 lc _ C R (mRep_put P h0 h3 e2 e3 ?_) (mFr_put h0 F) L
  show H1[mAd w b]? = some (arrV (mcI w) q.1 (fun j => .int (upd q.2 i.toNatClampNeg x j)))
  rw [e1, arrV_store]
  congr 2
  funext z
  by_cases hz : z = i.toNatClampNeg
  · subst hz; simp [updV, upd]
  · simp [updV, upd, hz]
theorem mGo.last {r : Option Nat} {i : Int32} {x : Int64} {h1 : mH} (hd : decode k.1 pc = .ok (.lastore, 1)) (hg : mSL h r i x = some h1) (hn : pc + 1 = n) (kk : mGo w k cu su n ls st h1 Q) : mGo w k cu su pc ls (.long x :: .int i :: va_rf r :: st) h Q := by
  subst hn
  intro p e s m args below meth c Z H lc locs C R P F L
  obtain ⟨q, g1, g2⟩ := mBind hg
  obtain ⟨b, rfl, h3, h4⟩ := mArL_ok g1
  obtain ⟨h5, h6⟩ := mIfN g2
  cases h6
  have h0 : b ≠ 0 := fun z => h5 (Or.inl (by rw [z]))
  have h5' : ¬ (i < 0 ∨ q.1 ≤ i.toNatClampNeg) := fun z => h5 (Or.inr z)
  have hP := mRep_at P h0 h3
  rw [h4] at hP
  have hc := hP 0 _ rfl
  have hc' : H[mAd w b]? = some (arrV (mcJ w) q.1 (fun j => .long (q.2 j))) := hc
  refine W.last C.1 C.2.1 hc' ((C.2.2.2.2.2.2.2.1.2 1 _ rfl).1 q.1 (fun j => .long (q.2 j))) (fun z => by cases z) (by rw [arrV_size]; exact h5') rfl rfl hd fun H1 e1 e2 e3 => ?_
  refine kk p e s m args below meth c Z H1 lc _ C R (mRep_put P h0 h3 e2 e3 ?_) (mFr_put h0 F) L
  show H1[mAd w b]? = some (arrV (mcJ w) q.1 (fun j => .long (vp_updL q.2 i.toNatClampNeg x j)))
  rw [e1, arrV_store]
  congr 2
  funext z
  by_cases hz : z = i.toNatClampNeg
  · subst hz; simp [updV, vp_updL]
  · simp [updV, vp_updL, hz]
theorem mGo.aast {r x : Option Nat} {i : Int32} {h1 : mH} (hd : decode k.1 pc = .ok (.aastore, 1)) (hg : mSR h r i x = some h1) (hn : pc + 1 = n) (kk : mGo w k cu su n ls st h1 Q) : mGo w k cu su pc ls (va_rf x :: .int i :: va_rf r :: st) h Q := by
  subst hn
  intro p e s m args below meth c Z H lc locs C R P F L
  obtain ⟨q, g1, g2⟩ := mBind hg
  obtain ⟨u, g3, g2⟩ := mBind g2
  obtain ⟨b, rfl, h3, h4⟩ := mArR_ok g1
  obtain ⟨v, fs, rfl, h7, h8⟩ := mIs_ok g3
  obtain ⟨h5, h6⟩ := mIfN g2
  cases h6
  have h0 : b ≠ 0 := fun z => h5 (Or.inl (by rw [z]))
  have h5' : ¬ (i < 0 ∨ q.1 ≤ i.toNatClampNeg) := fun z => h5 (Or.inr z)
  have hP := mRep_at P h0 h3
  rw [h4] at hP
  have hc' : H[mAd w b]? = some (arrV (mcT w) q.1 (fun j => va_rf ((q.2 j).map (mAd w)))) := hP 0 _ rfl
  have hPv := mRep_at P (mObj0 P h8) h7
  rw [h8] at hPv
  obtain ⟨r', hr', cellV, y1, y2, y3, -⟩ := hPv 0 _ rfl
  have hK := C.2.2.2.2.2.2.2.1
  have hcls := (hK.1 6 (RX7, TX7, 8) rfl).2
  obtain ⟨kA, comp, k1, k2, k3, -⟩ := (hK.2 2 _ rfl).2
  have hcomp : comp = (mD w).1 6 := Option.some.inj (k3.symm.trans hcls.1)
  subst hcomp
  obtain ⟨kC, hkC, -⟩ := hcls.2
  have hlt : i.toNatClampNeg < q.1 := Nat.not_le.mp fun z => h5' (Or.inr z)
  have hi0 : ¬ i < 0 := fun z => h5' (Or.inl z)
  refine W.aast C.1 C.2.1 hc' (fun q h => by cases h) (fun h => by cases h) k1 k2 rfl hkC ⟨hi0, by rw [arrV_size]; exact hlt⟩ y1 (fun q h => by rw [y3] at h; cases h) (by rw [y2]; exact hkC) (by rw [y2]; exact va_assign hcls) rfl rfl hd fun H1 e1 e2 e3 => ?_
  refine kk p e s m args below meth c Z H1 lc _ C R (mRep_put P h0 h3 e2 e3 ?_) (mFr_put h0 F) L
  show H1[mAd w b]? = some (arrV (mcT w) q.1 (fun j => va_rf ((va_up q.2 i.toNatClampNeg (some v) j).map (mAd w))))
  rw [e1, arrV_store]
  congr 2
  funext z
  by_cases hz : z = i.toNatClampNeg
  · subst hz; simp [updV, va_up]; rfl
  · simp [updV, va_up, hz]
/-! new cells -/
theorem mGo.newO {a ci : Nat} {fs : List Value} (hd : decode k.1 pc = .ok (.new a, 3)) (hci : ci < 9) (h1 : Cond.classLink k.2.1 a (mCR ci) ∈ mT) (h2 : Cond.instantiable (mCR ci) (mCN ci) ∈ mT) (h3 : Cond.initialized (mCR ci) ∈ mT) (hfs : ∀ j, j < mCN ci → defaultValue (mCty ci j) = vp_V (fs.map (mV w)) j) (hc : cu + 1 ≤ k.2.2.2.2.2.cells) (hs : su + mCN ci ≤ k.2.2.2.2.2.slots) (hn : pc + 3 = n)
    (kk : mGo w k (cu + 1) (su + mCN ci) n ls (va_rf (some (h.1 + 1)) :: st) (mNew h (.inr (ci, fs))) Q) : mGo w k cu su pc ls st h Q := by
  subst hn
  intro p e s m args below meth c Z H lc locs C R P F L
  have hts := C.2.2.2.2.1
  have hKn := C.2.2.2.2.2.2.2.1.1 ci _ (mCl_at hci)
  refine W.newcK C.1 C.2.1 C.2.2.2.1 (hts _ h1) (hts _ h2) (hts _ h3) rfl hd hc hs hKn.2.1 rfl fun H1 kC hkC e1 z1 o1 => ?_
  obtain ⟨P1, ha⟩ := mRep_new (e := .inr (ci, fs)) P z1 o1 ⟨_, mCl_at hci, (u_born (mCty ci) hts (mCin hci) hKn hkC e1 (mCty_ok hci)).to hfs⟩
  have hk := kk p e s m args below meth c Z H1 lc locs C R P1 F L
  rw [List.map_cons, mV_rf] at hk
  simp only [Option.map_some, ha] at hk
  exact hk
theorem mGo.newI {x : Int32} {N : Nat} (hd : decode k.1 pc = .ok (.newarray .int, 2)) (hx : ¬ x < 0) (hN : x.toNatClampNeg = N) (hb : N * 4 ≤ 536870912) (hT : Cond.arrayClass .int ∈ mT) (hc : cu + 1 ≤ k.2.2.2.2.2.cells) (hs : su + N ≤ k.2.2.2.2.2.slots) (hn : pc + 2 = n)
    (kk : mGo w k (cu + 1) (su + N) n ls (va_rf (some (h.1 + 1)) :: st) (mNew h (.inl (N, .inl (fun _ => 0)))) Q) : mGo w k cu su pc ls (.int x :: st) h Q := by
  subst hn
  intro p e s m args below meth c Z H lc locs C R P F L
  refine va_newaK (atype := .int) C.1 C.2.1 (C.2.2.2.2.1 _ hT) rfl hd rfl hx hN hb hc hs rfl fun H1 cA e1 z1 o1 hAr hNm => ?_
  have hcA : cA = mcI w := Option.some.inj (hNm.symm.trans (C.2.2.2.2.2.2.2.1.2 0 _ rfl).2)
  subst hcA
  obtain ⟨P1, ha⟩ := mRep_new (e := .inl (N, .inl (fun _ => 0))) P z1 o1 e1
  have hk := kk p e s m args below meth c Z H1 lc locs C R P1 F L
  rw [List.map_cons, mV_rf] at hk
  simp only [Option.map_some, ha] at hk
  exact hk
theorem mGo.newL {x : Int32} {N : Nat} (hd : decode k.1 pc = .ok (.newarray .long, 2)) (hx : ¬ x < 0) (hN : x.toNatClampNeg = N) (hb : N * 8 ≤ 536870912) (hT : Cond.arrayClass .long ∈ mT) (hc : cu + 1 ≤ k.2.2.2.2.2.cells) (hs : su + N ≤ k.2.2.2.2.2.slots) (hn : pc + 2 = n)
    (kk : mGo w k (cu + 1) (su + N) n ls (va_rf (some (h.1 + 1)) :: st) (mNew h (.inl (N, .inr (.inl (fun _ => 0))))) Q) : mGo w k cu su pc ls (.int x :: st) h Q := by
  subst hn
  intro p e s m args below meth c Z H lc locs C R P F L
  refine va_newaK (atype := .long) C.1 C.2.1 (C.2.2.2.2.1 _ hT) rfl hd rfl hx hN hb hc hs rfl fun H1 cA e1 z1 o1 hAr hNm => ?_
  have hcA : cA = mcJ w := Option.some.inj (hNm.symm.trans (C.2.2.2.2.2.2.2.1.2 1 _ rfl).2)
  subst hcA
  obtain ⟨P1, ha⟩ := mRep_new (e := .inl (N, .inr (.inl (fun _ => 0)))) P z1 o1 e1
  have hk := kk p e s m args below meth c Z H1 lc locs C R P1 F L
  rw [List.map_cons, mV_rf] at hk
  simp only [Option.map_some, ha] at hk
  exact hk
theorem mGo.newR {a : Nat} {x : Int32} {N : Nat} (hd : decode k.1 pc = .ok (.anewarray a, 3)) (h1 : Cond.classLink k.2.1 a RX7 ∈ mT) (hx : ¬ x < 0) (hN : x.toNatClampNeg = N) (hb : N * 4 ≤ 536870912) (hc : cu + 1 ≤ k.2.2.2.2.2.cells) (hs : su + N ≤ k.2.2.2.2.2.slots) (hn : pc + 3 = n)
    (kk : mGo w k (cu + 1) (su + N) n ls (va_rf (some (h.1 + 1)) :: st) (mNew h (.inl (N, .inr (.inr (fun _ => none))))) Q) : mGo w k cu su pc ls (.int x :: st) h Q := by
  subst hn
  intro p e s m args below meth c Z H lc locs C R P F L
  subst hN
  refine W.anew C.1 C.2.1 C.2.2.2.1 (C.2.2.2.2.1 _ h1) (va_AO.use C.2.2.2.2.2.2.2.2.2.1) rfl hd rfl hx hb hc hs fun cA kA comp f1 f2 f3 f4 => ?_
  obtain ⟨-, -, -, -, -, g4⟩ := (C.2.2.2.2.2.2.2.1.2 2 _ rfl).2
  have hcA : cA = mcT w := Option.some.inj (f1.symm.trans g4)
  subst hcA
  generalize hH1 : H.push ({ cls := mcT w, slots := Array.replicate x.toNatClampNeg .null, vm := .none } : Cell) = H1
  have z1 : H1.size = H.size + 1 := by rw [← hH1, Array.size_push]
  have e1 : H1[H.size]? = some (arrV (mcT w) x.toNatClampNeg (fun _ => .null)) := by rw [← hH1, Array.getElem?_push_size, ← arrV_new]
  have o1 : ∀ q : Nat, q < H.size → H1[q]? = H[q]? := fun q hq => by rw [← hH1, Array.getElem?_push, if_neg (Nat.ne_of_lt hq)]
  obtain ⟨P1, ha⟩ := mRep_new (e := .inl (x.toNatClampNeg, .inr (.inr (fun _ => none)))) P z1 o1 e1
  have hk := kk p e s m args below meth c Z H1 lc locs C R P1 F L
  rw [List.map_cons, mV_rf] at hk
  simp only [Option.map_some, ha] at hk
  exact hk
end MHEAP
