/-! A METHOD'S CONTRACT over the abstract world, and calls -/
abbrev mY : Type := MethodName × ByteArray × Nat × Option FieldType
def mQc (w : mWp) (Q : Option Value → mH → Prop) : Array Value → State → Outcome → State → Prop := fun _ _ o t => ∃ (r : Option Value) (h' : mH), o = .returned (r.map (mV w)) ∧ Q r h' ∧ mRep w h' t.heap
def mPc (w : mWp) (as : List Value) (h : mH) : Array Value → State → Prop := va_Pc (as.map (mV w)) (fun U => mRep w h U.heap ∧ mKn w U)
abbrev mWs (y : mY) : List Cond := Cond.code y.1 y.2.1 y.2.2.1 y.2.2.2 :: mT
def mEx (w : mWp) (y : mY) (R : Room) (as : List Value) (h : mH) (Q : Option Value → mH → Prop) : Prop :=
  Met (mL w) y.1 (mWs y) R (mPc w as h) (mQc w Q) R.cells R.slots (mFr w)
theorem mPc_blind {w : mWp} {as : List Value} {h : mH} : FrameBlind (mPc w as h) := by
  intro a U g mk hp
  exact ⟨hp.1, hp.2.1, mKn_same (s := U) (U := U.calling g mk a) rfl hp.2.2⟩
theorem mT_good : ∀ x ∈ mT, (x.onTables && x.keeps) = true ∨ ∃ ty, x = .arrayClass ty := fun x hx => good_of_word (List.mem_filter.mp hx).2
theorem mWs_good {y : mY} (hc : Cond.code y.1 y.2.1 y.2.2.1 y.2.2.2 ∈ mT) : GoodIn mT (mWs y) := by
  intro x hx
  rcases List.mem_cons.mp hx with rfl | hx
  · exact ⟨hc, mT_good _ hc⟩
  · exact ⟨hx, mT_good x hx⟩
/-- the locals at a method's entry -/
def mEnt : List Value → Nat → List (Option Value)
  | [], n => List.replicate n none
  | v :: r, n => if v.category = 2 then some v :: none :: mEnt r (n - 2) else some v :: mEnt r (n - 1)
theorem mEnt_in (w : mWp) : ∀ (as : List Value) (n i : Nat) (q : Nat × Value), q ∈ mKl w i (mEnt as n) → q ∈ lv_args i (as.map (mV w)) := by
  intro as
  induction as with
  | nil =>
    intro n i q hq
    obtain ⟨j, v, h1, h2⟩ := (mKl_mem w _ i q).mp hq
    simp [mEnt, List.getElem?_replicate] at h1
  | cons a r ih =>
    intro n i q hq
    by_cases hc : a.category = 2
    · rw [show mEnt (a :: r) n = some a :: none :: mEnt r (n - 2) by simp [mEnt, hc]] at hq
      rcases List.mem_cons.mp hq with rfl | hq
      · simp [lv_args]
      · have h1 := ih _ _ q hq
        simp only [List.map_cons, lv_args, mV_cat, hc]
        exact List.mem_cons_of_mem _ h1
    · have hc1 : a.category = 1 := by rcases lv_cat a with h | h; exact h; exact absurd h hc
      rw [show mEnt (a :: r) n = some a :: mEnt r (n - 1) by simp [mEnt, hc]] at hq
      rcases List.mem_cons.mp hq with rfl | hq
      · simp [lv_args]
      · have h1 := ih _ _ q hq
        simp only [List.map_cons, lv_args, mV_cat, hc1]
        exact List.mem_cons_of_mem _ h1
theorem mRok_rt {w : mWp} {k : mK} {p : Program} {e : Env} {s : State} {m : MethodId} {args : Array Value} {below : List Frame} {meth : Method} {c : Code} {Q : Option Value → mH → Prop} (C : mCx w k p s m args meth c) (hlocks : meth.locks = false) :
    mRt w k p e s m args below meth c Q (MQ below (mQc w Q) args s k.2.2.2.2.2.cells k.2.2.2.2.2.slots (mFr w)) := by
  intro r h H locs cu su pc ls hq ho P F hc hs
  obtain ⟨hx, hb, -, -, -, hr, -⟩ := C
  refine W.widen hc hs ?_
  rcases ho with ⟨h1, rfl, hd⟩ | ⟨v, h1, rfl, hd⟩ | ⟨v, h1, hv, rfl, hd⟩ | ⟨v, h1, rfl, hd⟩ | ⟨C0, v, h1, rfl, hd⟩
  · exact W.vret hx hb (hr.trans h1) (fun t ht hW => ⟨none, h, rfl, hq, by rw [ht]; exact P⟩) F hd
  · exact W.iret hx hb (hr.trans h1) (fun t ht hW => ⟨_, h, rfl, hq, by rw [ht]; exact P⟩) F hd
  · exact W.zret hx hb (hr.trans h1) (by rcases hv with rfl | rfl <;> rfl) (fun t ht hW => ⟨_, h, rfl, hq, by rw [ht]; exact P⟩) F hd
  · exact W.lret hx hb (hr.trans h1) (fun t ht hW => ⟨_, h, rfl, hq, by rw [ht]; exact P⟩) F hd
  · exact W.aret hx hb (hr.trans h1) (Or.inl ⟨C0, rfl⟩) (by cases v with | none => exact Or.inl rfl | some a => exact Or.inr ⟨_, rfl⟩) (fun t ht hW => ⟨_, h, rfl, hq, by rw [ht]; exact P⟩) F hd
theorem mMet_ofW {l : Launch} {y : MethodName} {ws ws' : List Cond} {rm : Room} {Pc : Array Value → State → Prop} {Qc : Array Value → State → Outcome → State → Prop} {mc ms : Nat} {free : Addr → Prop} {cc : ByteArray} {maxL : Nat} {ret : Option FieldType}
    (hy : plainFor y = true) (hw : ws = Cond.code y cc maxL ret :: ws')
    (body : ∀ p e s m args below meth c s₁, BodyLoose p l y (headSpec ws rm) cc maxL ret e s m args below meth c s₁ → c.maxLocals = maxL → Pc args s →
      W p l e (headSpec ws rm).room s m args below meth c s.heap [] 0 0 (MQ below Qc args s mc ms free) (entryFrame m args maxL)) : Met l y ws rm Pc Qc mc ms free := by
  refine MetFree.of_bodySF (code := cc) (maxLocals := maxL) (ret := ret) hy ?_ ?_
  · intro args s m h hn
    obtain ⟨meth, c, h1, h2, h3, h4, h5, h6, -, -⟩ := Cond.code_spec hn (atoms_spec (ws := ws) h _ (by rw [hw]; exact List.mem_cons_self))
    exact ⟨meth, c, h1, h2, h3, h4, h5, h6⟩
  · intro p e s m args below meth c s₁ B hml hP _
    have hh0 : s₁.heap = s.heap := by rw [B.state]; rfl
    obtain ⟨t, a1, o, b1, b2, b3⟩ := body p e s m args below meth c s₁ B hml hP s₁ hh0 (Stand.of_body B)
    exact ⟨t, o, a1, b1, b2, ⟨b3.1, b3.2⟩⟩
theorem mEx.of {w : mWp} {y : mY} {R : Room} {as : List Value} {h : mH} {Q : Option Value → mH → Prop} {ls : List (Option Value)} (hpl : plainFor y.1 = true) (hls : mEnt as y.2.2.1 = ls) (hle : (as.map Value.category).sum ≤ y.2.2.1)
    (kk : mGo w (y.2.1, y.1.cls, y.2.2.1, y.2.2.2, y.1.name, R) 0 0 0 ls [] h Q) : mEx w y R as h Q := by
  subst hls
  refine mMet_ofW (cc := y.2.1) (maxL := y.2.2.1) (ret := y.2.2.2) hpl rfl ?_
  intro p e s m args below meth c s₁ B hml hv
  obtain ⟨rfl, hP, hK⟩ := hv
  have hts := atoms_spec (ws := mWs y) B.pre
  have C : mCx w (y.2.1, y.1.cls, y.2.2.1, y.2.2.2, y.1.name, R) p s m (as.map (mV w)).toArray meth c := ⟨B.exec, B.bytes, hml, findClass_of_methodNamed B.named, fun x hx => hts x (List.mem_cons_of_mem _ hx), B.returns, (name_of_methodNamed B.named B.method).1, hK⟩
  have hlen : (lg_sl (as.map (mV w))).length ≤ y.2.2.1 := by
    refine Nat.le_trans (Nat.le_of_eq ?_) hle
    clear hle hP hK hts C B kk
    induction as with
    | nil => rfl
    | cons a r ih =>
      cases a <;> simp [lg_sl, mV, Value.category] at ih ⊢ <;> omega
  have hl := lv_entry (as.map (mV w)) (n := y.2.2.1) hlen
  rw [lg_entry_eq]
  generalize (lg_sl (as.map (mV w)) ++ List.replicate (y.2.2.1 - (lg_sl (as.map (mV w))).length) Slot.unset).toArray = lc at hl ⊢
  exact kk p e s m _ below meth c _ s.heap lc [] C (mRok_rt C B.notSynchronized) hP (fun q hq => by cases hq) ⟨hl.1, hl.2.1, fun q hq => hl.2.2 q (mEnt_in w as _ 0 q hq)⟩
theorem mEx.mono {w : mWp} {y : mY} {R : Room} {as : List Value} {h : mH} {Q Q' : Option Value → mH → Prop} (hq : ∀ r h', Q r h' → Q' r h') (k : mEx w y R as h Q) : mEx w y R as h Q' := by
  intro p e ha hc hk s m args below hf happ hP hT
  obtain ⟨t, o, h1, h2, h3, ⟨r, h', h4, h5, h6⟩, h7⟩ := k p e ha hc hk s m args below hf happ hP hT
  exact ⟨t, o, h1, h2, h3, ⟨r, h', h4, hq r h' h5, h6⟩, h7⟩
def mDsc (y : mY) (n : Nat) : Prop := y.1.cls ≠ "java/lang/invoke/MethodHandle" ∧ y.1.cls ≠ "java/lang/invoke/VarHandle" ∧ (parseMethodDescriptor y.1.desc).map (fun d => d.parameters.length) = some n
/-- a call's site: static; virtual; constructor; the link plain or among nest mates -/
def mLk (own : String) (idx : Nat) (y : mY) : Prop := Cond.methodLink own idx y.1 ∈ mT ∨ ∃ host : String, Cond.methodLinkNest own idx y.1 host ∈ mNest
def mSS (own : String) (idx : Nat) (y : mY) (n : Nat) : Prop := mLk own idx y ∧ Cond.static y.1 ∈ mT ∧ Cond.initialized y.1.cls ∈ mT ∧ Cond.code y.1 y.2.1 y.2.2.1 y.2.2.2 ∈ mT ∧ mDsc y n
def mSV (own : String) (idx : Nat) (y : mY) (n ci : Nat) : Prop := mLk own idx y ∧ Cond.instanceMethod y.1 ∈ mT ∧ Cond.selects y.1.cls y.1 y.1 ∈ mT ∧ Cond.initialized y.1.cls ∈ mT ∧ Cond.code y.1 y.2.1 y.2.2.1 y.2.2.2 ∈ mT ∧ mDsc y n ∧ ci < 9 ∧ mCR ci = y.1.cls
def mSI' (own : String) (idx : Nat) (y : mY) (n : Nat) : Prop := mLk own idx y ∧ Cond.instanceMethod y.1 ∈ mT ∧ Cond.initialized y.1.cls ∈ mT ∧ Cond.code y.1 y.2.1 y.2.2.1 y.2.2.2 ∈ mT ∧ mDsc y n ∧ y.1.name = "<init>" ∧ y.2.2.2 = none
def mFit (k : mK) (R : Room) (cu su maxL : Nat) : Prop := (R.frames + 1 ≤ k.2.2.2.2.2.frames ∧ 8 + (maxL + 11) + R.locals ≤ k.2.2.2.2.2.locals) ∧ cu + R.cells ≤ k.2.2.2.2.2.cells ∧ su + R.slots ≤ k.2.2.2.2.2.slots
section MCALL
variable {w : mWp} {k : mK} {cu su pc n : Nat} {ls : List (Option Value)} {st stk : List Value} {h : mH} {Q Q' : Option Value → mH → Prop} {y : mY} {R' : Room} {as : List Value}
theorem mRun {p : Program} {e : Env} {s : State} {m : MethodId} {args : Array Value} {below : List Frame} {meth : Method} {c : Code} {Z : State → Prop} {H : Heap} {lc : Array Slot} {locs : List Loc} {stc : List Value} {R0 : Room} {av : Array Value}
    (C : mCx w k p s m args meth c) (R : mRt w k p e s m args below meth c Q Z) (F : ∀ q ∈ locs, mFr w q.base) (L : lv_has lc k.2.2.1 (mKl w 0 ls))
    (hr : va_Run p (mL w) e k.2.2.2.2.2 s m args below meth c H locs cu su R'.cells R'.slots (F0 m pc lc stc) (st.map (mV w)) (mQc w Q' av) (mFr w))
    (kk : ∀ r h', Q' r h' → mGo w k (cu + R'.cells) (su + R'.slots) (pc + 3) ls (r.toList ++ st) h' Q) : W p (mL w) e k.2.2.2.2.2 s m args below meth c H locs cu su Z (F0 m pc lc stc) := by
  intro T hT X
  obtain ⟨v, st₀, t, T', L', h0, X', hL, e1, e2, ⟨r, h', hv, hq, hrep⟩, stp⟩ := hr T hT X
  have hv' : v = r.map (mV w) := by cases hv; rfl
  subst hv'
  have hF : ∀ q ∈ locs ++ L', mFr w q.base := fun q hq => by
    rcases List.mem_append.mp hq with h1 | h1
    · exact F q h1
    · exact hL q h1
  obtain ⟨t2, a1, b1⟩ := kk r h' hq p e s m args below meth c Z T'.heap lc (locs ++ L') C R (by rw [e1]; exact hrep) hF L T' rfl X'
  refine ⟨t2, stp t2 ?_, b1⟩
  have : ((r.toList ++ st).map (mV w)) = (r.map (mV w)).toList ++ st.map (mV w) := by cases r <;> simp
  rw [this] at a1
  exact a1
theorem mSt8 {m : MethodId} {lc : Array Slot} {rest : List Value} (hst : (st.map Value.category).sum ≤ 8) : 2 * (F0 m pc lc rest).monitorRoom + ((st.map (mV w)).map fun v => v.category).sum ≤ 8 := by
  have : ((st.map (mV w)).map fun v => v.category) = st.map Value.category := by rw [List.map_map]; congr 1; funext v; exact mV_cat w v
  refine lv_room (rest := rest) (pc := pc) (ls := lc) (m := m) ?_
  rw [this]; exact hst
theorem mPre_of {p : Program} {s : State} {m : MethodId} {args : Array Value} {meth : Method} {c : Code} {H : Heap} (C : mCx w k p s m args meth c) (P : mRep w h H) : ∀ U : State, U.heap = H → s.WarmedH U.vm → mPc w as h (as.map (mV w)).toArray U :=
  fun U hU hW => ⟨rfl, by rw [hU]; exact P, mKn_warm hW C.2.2.2.2.2.2.2⟩
theorem mGo.callS {a N : Nat} (hd : decode k.1 pc = .ok (.invokestatic a, 3)) (hs : mSS k.2.1 a y N) (hN : as.length = N) (hex : mEx w y R' as h Q') (hf : mFit k R' cu su y.2.2.1) (hst : (st.map Value.category).sum ≤ 8) (hk : stk = as.reverse ++ st) (hn : pc + 3 = n)
    (kk : ∀ r h', Q' r h' → mGo w k (cu + R'.cells) (su + R'.slots) n ls (r.toList ++ st) h' Q) : mGo w k cu su pc ls stk h Q := by
  subst hn; subst hk
  intro p e s m args below meth c Z H lc locs C R P F L
  obtain ⟨s1, s2, s3, s4, s5⟩ := hs
  have hts := C.2.2.2.2.1
  refine mRun (R' := R') (R0 := R') (av := (as.map (mV w)).toArray) C R F L ?_ kk
  have hstk : (F0 m pc lc ((as.reverse ++ st).map (mV w))).stack = (as.map (mV w)).reverse ++ st.map (mV w) := by simp
  rcases s1 with s1 | ⟨host, s1⟩
  · exact va_runS (Ts := mT) ⟨C.1, C.2.1, C.2.2.1, C.2.2.2.1, hts⟩ hex ⟨callB_of N hts (mWs_good s4) rfl rfl rfl (hts _ s3) (hts _ s1) s5 hf.1, hts _ s2⟩ ⟨mPc_blind, mPre_of C P⟩ rfl (by simpa using hN) L.1 hstk (mSt8 hst) hd hf.2
  · exact va_runSN (Ts := mT) ⟨C.1, C.2.1, C.2.2.1, C.2.2.2.1, hts⟩ hex ⟨va_cnB N hts (mWs_good s4) rfl rfl rfl (C.2.2.2.2.2.2.2.2.1 _ s1) (hts _ s3) s5 hf.1, hts _ s2, trivial⟩ ⟨mPc_blind, mPre_of C P⟩ rfl (by simpa using hN) L.1 hstk (mSt8 hst) hd hf.2
theorem mGo.callV {a N ci : Nat} {r0 : Option Nat} (hd : decode k.1 pc = .ok (.invokevirtual a, 3)) (hs : mSV k.2.1 a y N ci) (hN : as.length = N) (hi : mIs h r0 ci = some ()) (hex : mEx w y R' (va_rf r0 :: as) h Q') (hf : mFit k R' cu su y.2.2.1) (hst : (st.map Value.category).sum ≤ 8) (hk : stk = as.reverse ++ va_rf r0 :: st) (hn : pc + 3 = n)
    (kk : ∀ r h', Q' r h' → mGo w k (cu + R'.cells) (su + R'.slots) n ls (r.toList ++ st) h' Q) : mGo w k cu su pc ls stk h Q := by
  subst hn; subst hk
  obtain ⟨b, fs, rfl, hb, he⟩ := mIs_ok hi
  intro p e s m args below meth c Z H lc locs C R P F L
  obtain ⟨s1, s2, s3, s4, s5, s6, s7, s8⟩ := hs
  have hts := C.2.2.2.2.1
  have hP := mRep_at P (mObj0 P he) hb
  rw [he] at hP
  have hrec := va_recv (q0 := 0) C.2.2.2.2.2.2.2.1 hP (mCl_at s7) rfl
  rw [show (mCR ci, mCT ci, mCN ci).1 = mCR ci from rfl, s8] at hrec
  refine mRun (R' := R') (R0 := R') (av := (Value.ref (mAd w b) :: as.map (mV w)).toArray) C R F L ?_ kk
  have hstk : (F0 m pc lc ((as.reverse ++ va_rf (some b) :: st).map (mV w))).stack = (as.map (mV w)).reverse ++ Value.ref (mAd w b) :: st.map (mV w) := by simp; rfl
  have hpre := mPre_of (as := va_rf (some b) :: as) C P
  rcases s1 with s1 | ⟨host, s1⟩
  · exact va_runV (Ts := mT) ⟨C.1, C.2.1, C.2.2.1, C.2.2.2.1, hts⟩ hex ⟨callB_of N hts (mWs_good s5) rfl rfl rfl (hts _ s4) (hts _ s1) s6 hf.1, hts _ s2, hts _ s3⟩ ⟨mPc_blind, hrec, hpre⟩ rfl (by simpa using hN) L.1 hstk (mSt8 hst) hd hf.2
  · exact va_runVN (Ts := mT) ⟨C.1, C.2.1, C.2.2.1, C.2.2.2.1, hts⟩ hex ⟨va_cnB N hts (mWs_good s5) rfl rfl rfl (C.2.2.2.2.2.2.2.2.1 _ s1) (hts _ s4) s6 hf.1, hts _ s2, hts _ s3⟩ ⟨mPc_blind, hrec, hpre⟩ rfl (by simpa using hN) L.1 hstk (mSt8 hst) hd hf.2
theorem mGo.callI {a N : Nat} {b : Nat} {y : MethodName × ByteArray × Nat} (hd : decode k.1 pc = .ok (.invokespecial a, 3)) (hs : mSI' k.2.1 a (y.1, y.2.1, y.2.2, none) N) (hN : as.length = N) (hex : mEx w (y.1, y.2.1, y.2.2, none) R' (va_rf (some b) :: as) h Q') (hf : mFit k R' cu su y.2.2) (hst : (st.map Value.category).sum ≤ 8) (hk : stk = as.reverse ++ va_rf (some b) :: st) (hn : pc + 3 = n)
    (kk : ∀ r h', Q' r h' → mGo w k (cu + R'.cells) (su + R'.slots) n ls (r.toList ++ st) h' Q) : mGo w k cu su pc ls stk h Q := by
  subst hn; subst hk
  intro p e s m args below meth c Z H lc locs C R P F L
  obtain ⟨s1, s2, s4, s5, s6, s7, s8⟩ := hs
  have hts := C.2.2.2.2.1
  refine mRun (R' := R') (R0 := R') (av := (Value.ref (mAd w b) :: as.map (mV w)).toArray) C R F L ?_ kk
  have hstk : (F0 m pc lc ((as.reverse ++ va_rf (some b) :: st).map (mV w))).stack = (as.map (mV w)).reverse ++ Value.ref (mAd w b) :: st.map (mV w) := by simp; rfl
  have hpre := mPre_of (as := va_rf (some b) :: as) C P
  rcases s1 with s1 | ⟨host, s1⟩
  · exact va_runI (Ts := mT) ⟨C.1, C.2.1, C.2.2.1, C.2.2.2.1, hts⟩ hex ⟨callB_of N hts (mWs_good s5) rfl rfl rfl (hts _ s4) (hts _ s1) s6 hf.1, s7, hts _ s2⟩ ⟨mPc_blind, hpre⟩ rfl (by simpa using hN) L.1 hstk (mSt8 hst) hd hf.2
  · exact va_runIN (Ts := mT) ⟨C.1, C.2.1, C.2.2.1, C.2.2.2.1, hts⟩ hex ⟨va_cnB N hts (mWs_good s5) rfl rfl rfl (C.2.2.2.2.2.2.2.2.1 _ s1) (hts _ s4) s6 hf.1, s7, hts _ s2⟩ ⟨mPc_blind, hpre⟩ rfl (by simpa using hN) L.1 hstk (mSt8 hst) hd hf.2
theorem mGo.objI {a b : Nat} (hd : decode k.1 pc = .ok (.invokespecial a, 3)) (h1 : Cond.methodLink k.2.1 a Lib.objectInit ∈ mT) (h2 : Cond.instanceMethod Lib.objectInit ∈ mT) (h3 : Cond.code Lib.objectInit ⟨#[0xb1]⟩ 1 none ∈ mT) (hf : 1 ≤ k.2.2.2.2.2.frames) (hl : (st.map Value.category).sum + 12 ≤ k.2.2.2.2.2.locals) (hn : pc + 3 = n)
    (kk : mGo w k cu su n ls st h Q) : mGo w k cu su pc ls (va_rf (some b) :: st) h Q := by
  subst hn
  intro p e s m args below meth c Z H lc locs C R P F L
  have hts := C.2.2.2.2.1
  have this : ((st.map (mV w)).map fun v => v.category) = st.map Value.category := by rw [List.map_map]; congr 1; funext v; exact mV_cat w v
  refine W.objInit C.1 C.2.1 C.2.2.2.1 (hts _ h1) (hts _ h2) (hts _ h3) rfl (by rw [C.2.2.1]; exact L.1) rfl hd hf ?_ (kk p e s m args below meth c Z H lc locs C R P F L)
  rw [this]
  show 2 * 0 + _ + 12 ≤ _
  omega
end MCALL
