-- X7_beginTrail
def kX7_beginTrail : mK := (cX7_beginTrail, RX7, 2, none, "beginTrail", mRoom 1 0 0)
def zX7_beginTrail : mY := (yX7_beginTrail, cX7_beginTrail, 2, none)
set_option maxRecDepth 100000 in
theorem sf_RX7_34 : mFld RX7 34 6 4 := ⟨by decide, by decide, Or.inl (mT_at 126 (by decide +kernel) rfl)⟩
set_option maxRecDepth 100000 in
theorem sf_RX7_38 : mFld RX7 38 6 5 := ⟨by decide, by decide, Or.inl (mT_at 129 (by decide +kernel) rfl)⟩
def f_X7_beginTrail_b2 (v0 : Option Nat) (v1 : Int32) (h : mH) : Option ((Int32 × mH) ⊕ (mH)) :=
  if (28 : Int32) ≤ v1 then
    (mPF h v0 6 4 (.int (0 : Int32))).bind fun h1 =>
    (mPF h1 v0 6 5 (.int (0 : Int32))).bind fun h2 =>
    some (Sum.inr h2)
  else
    (mGR h v0 6 2).bind fun x3 =>
    (mSI h x3 v1 ((2 : Int32) * v1)).bind fun h4 =>
    (mGR h4 v0 6 3).bind fun x5 =>
    (mSI h4 x5 v1 ((2 : Int32) * v1)).bind fun h6 =>
    some (Sum.inl ((v1 + 1), h6))
set_option maxRecDepth 100000 in
set_option maxHeartbeats 4000000 in
theorem g_X7_beginTrail_b2 {w : mWp} {Q : Option Value → mH → Prop} (v0 : Option Nat) (v1 : Int32) (h : mH) {res : (Int32 × mH) ⊕ (mH)} (e : f_X7_beginTrail_b2 v0 v1 h = some res) (q : (Sum.elim (fun x : Int32 × mH => mGo w kX7_beginTrail 0 0 2 [some (va_rf v0), some (.int x.1)] [] x.2 Q) (fun r : mH => Q none r)) res) : mGo w kX7_beginTrail 0 0 2 [some (va_rf v0), some (.int v1)] [] h Q := by
  unfold f_X7_beginTrail_b2 at e
  refine mGo.iload_n (n := 3) (x := v1) dX7_beginTrail_2 rfl rfl ?_
  refine mGo.bipush (n := 5) (v := (28 : Int32)) dX7_beginTrail_3 (by decide) rfl ?_
  refine mGo.icmp_ge (tgt := 32) (n := 8) dX7_beginTrail_5 (by decide) rfl (fun hc => ?_) (fun hc => ?_)
  · replace e := mIft hc e
    refine mGo.aload_n (n := 33) (r := v0) dX7_beginTrail_32 rfl rfl ?_
    refine mGo.iconst (n := 34) (v := (0 : Int32)) dX7_beginTrail_33 (by decide) rfl ?_
    obtain ⟨h1, e_h1, e⟩ := mBind e
    refine mGo.putZ (n := 37) dX7_beginTrail_34 sf_RX7_34 rfl rfl (by decide) e_h1 rfl ?_
    refine mGo.aload_n (n := 38) (r := v0) dX7_beginTrail_37 rfl rfl ?_
    refine mGo.iconst (n := 39) (v := (0 : Int32)) dX7_beginTrail_38 (by decide) rfl ?_
    obtain ⟨h2, e_h2, e⟩ := mBind e
    refine mGo.putZ (n := 42) dX7_beginTrail_39 sf_RX7_38 rfl rfl (by decide) e_h2 rfl ?_
    cases e
    exact mGo.vret dX7_beginTrail_42 rfl (Nat.le_of_ble_eq_true rfl) (Nat.le_of_ble_eq_true rfl) q
  · replace e := mIff hc e
    refine mGo.aload_n (n := 9) (r := v0) dX7_beginTrail_8 rfl rfl ?_
    obtain ⟨x3, e_x3, e⟩ := mBind e
    refine mGo.getR (n := 12) dX7_beginTrail_9 sf_RX7_15 e_x3 rfl ?_
    refine mGo.iload_n (n := 13) (x := v1) dX7_beginTrail_12 rfl rfl ?_
    refine mGo.iconst (n := 14) (v := (2 : Int32)) dX7_beginTrail_13 (by decide) rfl ?_
    refine mGo.iload_n (n := 15) (x := v1) dX7_beginTrail_14 rfl rfl ?_
    refine mGo.imul (n := 16) dX7_beginTrail_15 rfl ?_
    obtain ⟨h4, e_h4, e⟩ := mBind e
    refine mGo.iast (n := 17) dX7_beginTrail_16 e_h4 rfl ?_
    refine mGo.aload_n (n := 18) (r := v0) dX7_beginTrail_17 rfl rfl ?_
    obtain ⟨x5, e_x5, e⟩ := mBind e
    refine mGo.getR (n := 21) dX7_beginTrail_18 sf_RX7_18 e_x5 rfl ?_
    refine mGo.iload_n (n := 22) (x := v1) dX7_beginTrail_21 rfl rfl ?_
    refine mGo.iconst (n := 23) (v := (2 : Int32)) dX7_beginTrail_22 (by decide) rfl ?_
    refine mGo.iload_n (n := 24) (x := v1) dX7_beginTrail_23 rfl rfl ?_
    refine mGo.imul (n := 25) dX7_beginTrail_24 rfl ?_
    obtain ⟨h6, e_h6, e⟩ := mBind e
    refine mGo.iast (n := 26) dX7_beginTrail_25 e_h6 rfl ?_
    refine mGo.iinc (n := 29) (x := v1) (v := (v1 + 1)) (ls' := [some (va_rf v0), some (.int (v1 + 1))]) dX7_beginTrail_26 rfl rfl ((mSt_set (fun u _ hu => by cases hu; exact mRfc _)).trans rfl) (Nat.le_of_ble_eq_true rfl) rfl ?_
    refine mGo.goto (tgt := 2) dX7_beginTrail_29 (by decide) ?_
    cases e
    refine mGo.mk [true, true] ?_
    exact q
noncomputable def f_X7_beginTrail_l2 (v0 : Option Nat) (v1 : Int32) (h : mH) : Option (mH) :=
  mLoop (fun x : Int32 × mH => f_X7_beginTrail_b2 v0 x.1 x.2) (v1, h)
set_option maxRecDepth 100000 in
set_option maxHeartbeats 4000000 in
theorem g_X7_beginTrail_l2 {w : mWp} {Q : Option Value → mH → Prop} (v0 : Option Nat) (v1 : Int32) (h : mH) {res : mH} (e : f_X7_beginTrail_l2 v0 v1 h = some res) (q : (fun r : mH => Q none r) res) : mGo w kX7_beginTrail 0 0 2 [some (va_rf v0), some (.int v1)] [] h Q := by
  unfold f_X7_beginTrail_l2 at e
  refine mLoop_go (x := (v1, h)) (fun x : Int32 × mH => mGo w kX7_beginTrail 0 0 2 [some (va_rf v0), some (.int x.1)] [] x.2 Q) (fun r : mH => Q none r) ?_ e q
  rintro ⟨v1, h1⟩ res e q
  exact g_X7_beginTrail_b2 v0 v1 h1 e q
noncomputable def f_X7_beginTrail (v0 : Option Nat) (h : mH) : Option (mH) :=
  (mIs h v0 6).bind fun _ =>
  f_X7_beginTrail_l2 v0 (0 : Int32) h
set_option maxRecDepth 100000 in
set_option maxHeartbeats 4000000 in
theorem g_X7_beginTrail {w : mWp} {Q : Option Value → mH → Prop} (v0 : Option Nat) (h : mH) {res : mH} (e : f_X7_beginTrail v0 h = some res) (q : (fun r : mH => Q none r) res) : mGo w kX7_beginTrail 0 0 0 [some (va_rf v0), none] [] h Q := by
  unfold f_X7_beginTrail at e
  obtain ⟨_, _, e⟩ := mBind e
  refine mGo.iconst (n := 1) (v := (0 : Int32)) dX7_beginTrail_0 (by decide) rfl ?_
  refine mGo.istore_n (n := 2) (ls' := [some (va_rf v0), some (.int (0 : Int32))]) dX7_beginTrail_1 ((mSt_set (fun u _ hu => by cases hu; exact mRfc _)).trans rfl) (Nat.le_of_ble_eq_true rfl) rfl ?_
  refine mGo.mk [true, true] ?_
  exact g_X7_beginTrail_l2 v0 (0 : Int32) h e q
theorem e_X7_beginTrail {w : mWp} (v0 : Option Nat) (h : mH) {res : mH} (e : f_X7_beginTrail v0 h = some res) : mEx w zX7_beginTrail (mRoom 1 0 0) [va_rf v0] h (fun r h2 => r = none ∧ h2 = res) := by
  refine mEx.of (by decide +kernel) (show mEnt [va_rf v0] 2 = [some (va_rf v0), none] by rw [mEnt_r] <;> rfl) (by simp only [List.map_cons, List.map_nil, mRfc, mCi, mCj, List.sum_cons, List.sum_nil]; exact Nat.le_of_ble_eq_true rfl) ?_
  refine g_X7_beginTrail v0 h e ?_
  exact ⟨rfl, rfl⟩
theorem s_X7_beginTrail (v0 : Option Nat) (h : mH) {res : mH} (e : f_X7_beginTrail v0 h = some res) : mIs h v0 6 = some () := by
  unfold f_X7_beginTrail at e
  obtain ⟨u, e1, _⟩ := mBind e
  cases u
  exact e1
-- X7_begin
def kX7_begin : mK := (cX7_begin, RX7, 2, none, "begin", mRoom 2 0 0)
def zX7_begin : mY := (yX7_begin, cX7_begin, 2, none)
set_option maxRecDepth 100000 in
theorem sc_RX7_25 : mSS RX7 25 zJ7_fill_53178 2 := ⟨Or.inl (mT_at 334 (by decide +kernel) rfl), mT_at 335 (by decide +kernel) rfl, mT_at 92 (by decide +kernel) rfl, mT_at 336 (by decide +kernel) rfl, ⟨by decide +kernel, by decide +kernel, by decide +kernel⟩⟩
set_option maxRecDepth 100000 in
theorem sc_RX7_31 : mSV RX7 31 zX7_beginTrail 0 6 := ⟨Or.inl (mT_at 337 (by decide +kernel) rfl), mT_at 339 (by decide +kernel) rfl, mT_at 4 (by decide +kernel) rfl, mT_at 84 (by decide +kernel) rfl, mT_at 340 (by decide +kernel) rfl, ⟨by decide +kernel, by decide +kernel, by decide +kernel⟩, by decide, rfl⟩
noncomputable def f_X7_begin (v0 : Option Nat) (v1 : Int32) (h : mH) : Option (mH) :=
  (mIs h v0 6).bind fun _ =>
  (mPF h v0 6 0 (.int v1)).bind fun h1 =>
  (mGR h1 v0 6 1).bind fun x2 =>
  (f_J7_fill_53178 x2 (0 : Int32) h1).bind fun x3 =>
  (f_X7_beginTrail v0 x3).bind fun x4 =>
  some x4
set_option maxRecDepth 100000 in
set_option maxHeartbeats 4000000 in
theorem g_X7_begin {w : mWp} {Q : Option Value → mH → Prop} (v0 : Option Nat) (v1 : Int32) (h : mH) {res : mH} (e : f_X7_begin v0 v1 h = some res) (q : (fun r : mH => Q none r) res) : mGo w kX7_begin 0 0 0 [some (va_rf v0), some (.int v1)] [] h Q := by
  unfold f_X7_begin at e
  obtain ⟨_, _, e⟩ := mBind e
  refine mGo.aload_n (n := 1) (r := v0) dX7_begin_0 rfl rfl ?_
  refine mGo.iload_n (n := 2) (x := v1) dX7_begin_1 rfl rfl ?_
  obtain ⟨h1, e_h1, e⟩ := mBind e
  refine mGo.putI (n := 5) dX7_begin_2 sf_RX7_21 rfl rfl e_h1 rfl ?_
  refine mGo.aload_n (n := 6) (r := v0) dX7_begin_5 rfl rfl ?_
  obtain ⟨x2, e_x2, e⟩ := mBind e
  refine mGo.getR (n := 9) dX7_begin_6 sf_RX7_9 e_x2 rfl ?_
  refine mGo.iconst (n := 10) (v := (0 : Int32)) dX7_begin_9 (by decide) rfl ?_
  obtain ⟨x3, e_x3, e⟩ := mBind e
  refine mGo.callS (n := 13) (y := zJ7_fill_53178) (R' := (mRoom (1) 0 0)) (as := [va_rf x2, .int (0 : Int32)]) (st := []) dX7_begin_10 sc_RX7_25 rfl (e_J7_fill_53178 x2 (0 : Int32) h1 e_x3) (mFit_of rfl (Nat.le_of_ble_eq_true rfl) (by decide) (Nat.le_of_ble_eq_true rfl) (Nat.le_of_ble_eq_true rfl)) (Nat.le_of_ble_eq_true rfl) rfl rfl ?_
  intro _ _ hq
  rw [hq.1, hq.2]
  show mGo w kX7_begin 0 0 13 [some (va_rf v0), some (.int v1)] [] x3 Q
  refine mGo.aload_n (n := 14) (r := v0) dX7_begin_13 rfl rfl ?_
  obtain ⟨x4, e_x4, e⟩ := mBind e
  refine mGo.callV (n := 17) (y := zX7_beginTrail) (R' := (mRoom (1) 0 0)) (as := []) (st := []) (r0 := v0) dX7_begin_14 sc_RX7_31 rfl (s_X7_beginTrail v0 x3 e_x4) (e_X7_beginTrail v0 x3 e_x4) (mFit_of rfl (Nat.le_of_ble_eq_true rfl) (by decide) (Nat.le_of_ble_eq_true rfl) (Nat.le_of_ble_eq_true rfl)) (Nat.le_of_ble_eq_true rfl) rfl rfl ?_
  intro _ _ hq
  rw [hq.1, hq.2]
  show mGo w kX7_begin 0 0 17 [some (va_rf v0), some (.int v1)] [] x4 Q
  cases e
  exact mGo.vret dX7_begin_17 rfl (Nat.le_of_ble_eq_true rfl) (Nat.le_of_ble_eq_true rfl) q
theorem e_X7_begin {w : mWp} (v0 : Option Nat) (v1 : Int32) (h : mH) {res : mH} (e : f_X7_begin v0 v1 h = some res) : mEx w zX7_begin (mRoom 2 0 0) [va_rf v0, .int v1] h (fun r h2 => r = none ∧ h2 = res) := by
  refine mEx.of (by decide +kernel) (show mEnt [va_rf v0, .int v1] 2 = [some (va_rf v0), some (.int v1)] by rw [mEnt_r, mEnt_i] <;> rfl) (by simp only [List.map_cons, List.map_nil, mRfc, mCi, mCj, List.sum_cons, List.sum_nil]; exact Nat.le_of_ble_eq_true rfl) ?_
  refine g_X7_begin v0 v1 h e ?_
  exact ⟨rfl, rfl⟩
theorem s_X7_begin (v0 : Option Nat) (v1 : Int32) (h : mH) {res : mH} (e : f_X7_begin v0 v1 h = some res) : mIs h v0 6 = some () := by
  unfold f_X7_begin at e
  obtain ⟨u, e1, _⟩ := mBind e
  cases u
  exact e1
-- X7_layRows
def kX7_layRows : mK := (cX7_layRows, RX7, 4, none, "layRows", mRoom 3 0 0)
def zX7_layRows : mY := (yX7_layRows, cX7_layRows, 4, none)
set_option maxRecDepth 100000 in
theorem sc_RX7_41 : mSV RX7 41 zX7_begin 1 6 := ⟨Or.inl (mT_at 330 (by decide +kernel) rfl), mT_at 332 (by decide +kernel) rfl, mT_at 3 (by decide +kernel) rfl, mT_at 84 (by decide +kernel) rfl, mT_at 333 (by decide +kernel) rfl, ⟨by decide +kernel, by decide +kernel, by decide +kernel⟩, by decide, rfl⟩
def f_X7_layRows_b7 (v0 : Option Nat) (v1 : Option Nat) (v2 : Int32) (v3 : Int32) (h : mH) : Option ((Int32 × mH) ⊕ (mH)) :=
  if v2 ≤ v3 then
    some (Sum.inr h)
  else
    (mLn h v1).bind fun x1 =>
    if x1 ≤ v3 then
      some (Sum.inr h)
    else
      (mGR h v0 6 1).bind fun x2 =>
      (mAI h v1 v3).bind fun x3 =>
      (mSI h x2 v3 x3).bind fun h4 =>
      some (Sum.inl ((v3 + 1), h4))
set_option maxRecDepth 100000 in
set_option maxHeartbeats 4000000 in
theorem g_X7_layRows_b7 {w : mWp} {Q : Option Value → mH → Prop} (v0 : Option Nat) (v1 : Option Nat) (v2 : Int32) (v3 : Int32) (h : mH) {res : (Int32 × mH) ⊕ (mH)} (e : f_X7_layRows_b7 v0 v1 v2 v3 h = some res) (q : (Sum.elim (fun x : Int32 × mH => mGo w kX7_layRows 0 0 7 [some (va_rf v0), some (va_rf v1), some (.int v2), some (.int x.1)] [] x.2 Q) (fun r : mH => Q none r)) res) : mGo w kX7_layRows 0 0 7 [some (va_rf v0), some (va_rf v1), some (.int v2), some (.int v3)] [] h Q := by
  unfold f_X7_layRows_b7 at e
  refine mGo.iload_n (n := 8) (x := v3) dX7_layRows_7 rfl rfl ?_
  refine mGo.iload_n (n := 9) (x := v2) dX7_layRows_8 rfl rfl ?_
  refine mGo.icmp_ge (tgt := 33) (n := 12) dX7_layRows_9 (by decide) rfl (fun hc => ?_) (fun hc => ?_)
  · replace e := mIft hc e
    cases e
    exact mGo.vret dX7_layRows_33 rfl (Nat.le_of_ble_eq_true rfl) (Nat.le_of_ble_eq_true rfl) q
  · replace e := mIff hc e
    refine mGo.iload_n (n := 13) (x := v3) dX7_layRows_12 rfl rfl ?_
    refine mGo.aload_n (n := 14) (r := v1) dX7_layRows_13 rfl rfl ?_
    obtain ⟨x1, e_x1, e⟩ := mBind e
    refine mGo.alen (n := 15) dX7_layRows_14 e_x1 rfl ?_
    refine mGo.icmp_ge (tgt := 33) (n := 18) dX7_layRows_15 (by decide) rfl (fun hc => ?_) (fun hc => ?_)
    · replace e := mIft hc e
      cases e
      exact mGo.vret dX7_layRows_33 rfl (Nat.le_of_ble_eq_true rfl) (Nat.le_of_ble_eq_true rfl) q
    · replace e := mIff hc e
      refine mGo.aload_n (n := 19) (r := v0) dX7_layRows_18 rfl rfl ?_
      obtain ⟨x2, e_x2, e⟩ := mBind e
      refine mGo.getR (n := 22) dX7_layRows_19 sf_RX7_9 e_x2 rfl ?_
      refine mGo.iload_n (n := 23) (x := v3) dX7_layRows_22 rfl rfl ?_
      refine mGo.aload_n (n := 24) (r := v1) dX7_layRows_23 rfl rfl ?_
      refine mGo.iload_n (n := 25) (x := v3) dX7_layRows_24 rfl rfl ?_
      obtain ⟨x3, e_x3, e⟩ := mBind e
      refine mGo.iald (n := 26) dX7_layRows_25 e_x3 rfl ?_
      obtain ⟨h4, e_h4, e⟩ := mBind e
      refine mGo.iast (n := 27) dX7_layRows_26 e_h4 rfl ?_
      refine mGo.iinc (n := 30) (x := v3) (v := (v3 + 1)) (ls' := [some (va_rf v0), some (va_rf v1), some (.int v2), some (.int (v3 + 1))]) dX7_layRows_27 rfl rfl rfl (Nat.le_of_ble_eq_true rfl) rfl ?_
      refine mGo.goto (tgt := 7) dX7_layRows_30 (by decide) ?_
      cases e
      refine mGo.mk [true, true, true, true] ?_
      exact q
noncomputable def f_X7_layRows_l7 (v0 : Option Nat) (v1 : Option Nat) (v2 : Int32) (v3 : Int32) (h : mH) : Option (mH) :=
  mLoop (fun x : Int32 × mH => f_X7_layRows_b7 v0 v1 v2 x.1 x.2) (v3, h)
set_option maxRecDepth 100000 in
set_option maxHeartbeats 4000000 in
theorem g_X7_layRows_l7 {w : mWp} {Q : Option Value → mH → Prop} (v0 : Option Nat) (v1 : Option Nat) (v2 : Int32) (v3 : Int32) (h : mH) {res : mH} (e : f_X7_layRows_l7 v0 v1 v2 v3 h = some res) (q : (fun r : mH => Q none r) res) : mGo w kX7_layRows 0 0 7 [some (va_rf v0), some (va_rf v1), some (.int v2), some (.int v3)] [] h Q := by
  unfold f_X7_layRows_l7 at e
  refine mLoop_go (x := (v3, h)) (fun x : Int32 × mH => mGo w kX7_layRows 0 0 7 [some (va_rf v0), some (va_rf v1), some (.int v2), some (.int x.1)] [] x.2 Q) (fun r : mH => Q none r) ?_ e q
  rintro ⟨v3, h1⟩ res e q
  exact g_X7_layRows_b7 v0 v1 v2 v3 h1 e q
noncomputable def f_X7_layRows (v0 : Option Nat) (v1 : Option Nat) (v2 : Int32) (h : mH) : Option (mH) :=
  (mIs h v0 6).bind fun _ =>
  (f_X7_begin v0 v2 h).bind fun x1 =>
  f_X7_layRows_l7 v0 v1 v2 (0 : Int32) x1
set_option maxRecDepth 100000 in
set_option maxHeartbeats 4000000 in
theorem g_X7_layRows {w : mWp} {Q : Option Value → mH → Prop} (v0 : Option Nat) (v1 : Option Nat) (v2 : Int32) (h : mH) {res : mH} (e : f_X7_layRows v0 v1 v2 h = some res) (q : (fun r : mH => Q none r) res) : mGo w kX7_layRows 0 0 0 [some (va_rf v0), some (va_rf v1), some (.int v2), none] [] h Q := by
  unfold f_X7_layRows at e
  obtain ⟨_, _, e⟩ := mBind e
  refine mGo.aload_n (n := 1) (r := v0) dX7_layRows_0 rfl rfl ?_
  refine mGo.iload_n (n := 2) (x := v2) dX7_layRows_1 rfl rfl ?_
  obtain ⟨x1, e_x1, e⟩ := mBind e
  refine mGo.callV (n := 5) (y := zX7_begin) (R' := (mRoom (2) 0 0)) (as := [.int v2]) (st := []) (r0 := v0) dX7_layRows_2 sc_RX7_41 rfl (s_X7_begin v0 v2 h e_x1) (e_X7_begin v0 v2 h e_x1) (mFit_of rfl (Nat.le_of_ble_eq_true rfl) (by decide) (Nat.le_of_ble_eq_true rfl) (Nat.le_of_ble_eq_true rfl)) (Nat.le_of_ble_eq_true rfl) rfl rfl ?_
  intro _ _ hq
  rw [hq.1, hq.2]
  show mGo w kX7_layRows 0 0 5 [some (va_rf v0), some (va_rf v1), some (.int v2), none] [] x1 Q
  refine mGo.iconst (n := 6) (v := (0 : Int32)) dX7_layRows_5 (by decide) rfl ?_
  refine mGo.istore_n (n := 7) (ls' := [some (va_rf v0), some (va_rf v1), some (.int v2), some (.int (0 : Int32))]) dX7_layRows_6 rfl (Nat.le_of_ble_eq_true rfl) rfl ?_
  refine mGo.mk [true, true, true, true] ?_
  exact g_X7_layRows_l7 v0 v1 v2 (0 : Int32) x1 e q
theorem e_X7_layRows {w : mWp} (v0 : Option Nat) (v1 : Option Nat) (v2 : Int32) (h : mH) {res : mH} (e : f_X7_layRows v0 v1 v2 h = some res) : mEx w zX7_layRows (mRoom 3 0 0) [va_rf v0, va_rf v1, .int v2] h (fun r h2 => r = none ∧ h2 = res) := by
  refine mEx.of (by decide +kernel) (show mEnt [va_rf v0, va_rf v1, .int v2] 4 = [some (va_rf v0), some (va_rf v1), some (.int v2), none] by rw [mEnt_r, mEnt_r, mEnt_i] <;> rfl) (by simp only [List.map_cons, List.map_nil, mRfc, mCi, mCj, List.sum_cons, List.sum_nil]; exact Nat.le_of_ble_eq_true rfl) ?_
  refine g_X7_layRows v0 v1 v2 h e ?_
  exact ⟨rfl, rfl⟩
theorem s_X7_layRows (v0 : Option Nat) (v1 : Option Nat) (v2 : Int32) (h : mH) {res : mH} (e : f_X7_layRows v0 v1 v2 h = some res) : mIs h v0 6 = some () := by
  unfold f_X7_layRows at e
  obtain ⟨u, e1, _⟩ := mBind e
  cases u
  exact e1
-- X7_has
def kX7_has : mK := (cX7_has, RX7, 2, some (.boolean), "has", mRoom 1 0 0)
def zX7_has : mY := (yX7_has, cX7_has, 2, some (.boolean))
def f_X7_has (v0 : Option Nat) (v1 : Int32) (h : mH) : Option (Int32) :=
  (mIs h v0 6).bind fun _ =>
  if v1 < 0 then
    some (0 : Int32)
  else
    (mGI h v0 6 0).bind fun x1 =>
    if x1 ≤ v1 then
      some (0 : Int32)
    else
      some (1 : Int32)
set_option maxRecDepth 100000 in
set_option maxHeartbeats 4000000 in
theorem g_X7_has {w : mWp} {Q : Option Value → mH → Prop} (v0 : Option Nat) (v1 : Int32) (h : mH) {res : Int32} (e : f_X7_has v0 v1 h = some res) (q : (fun r : Int32 => Q (some (.int r)) h) res) : mGo w kX7_has 0 0 0 [some (va_rf v0), some (.int v1)] [] h Q := by
  unfold f_X7_has at e
  obtain ⟨_, _, e⟩ := mBind e
  refine mGo.iload_n (n := 1) (x := v1) dX7_has_0 rfl rfl ?_
  refine mGo.if_lt (tgt := 16) (n := 4) dX7_has_1 (by decide) rfl (fun hc => ?_) (fun hc => ?_)
  · replace e := mIft hc e
    refine mGo.iconst (n := 17) (v := (0 : Int32)) dX7_has_16 (by decide) rfl ?_
    cases e
    exact mGo.zret dX7_has_17 rfl (by decide) (Nat.le_of_ble_eq_true rfl) (Nat.le_of_ble_eq_true rfl) q
  · replace e := mIff hc e
    refine mGo.iload_n (n := 5) (x := v1) dX7_has_4 rfl rfl ?_
    refine mGo.aload_n (n := 6) (r := v0) dX7_has_5 rfl rfl ?_
    obtain ⟨x1, e_x1, e⟩ := mBind e
    refine mGo.getI (n := 9) dX7_has_6 sf_RX7_21 e_x1 rfl ?_
    refine mGo.icmp_ge (tgt := 16) (n := 12) dX7_has_9 (by decide) rfl (fun hc => ?_) (fun hc => ?_)
    · replace e := mIft hc e
      refine mGo.iconst (n := 17) (v := (0 : Int32)) dX7_has_16 (by decide) rfl ?_
      cases e
      exact mGo.zret dX7_has_17 rfl (by decide) (Nat.le_of_ble_eq_true rfl) (Nat.le_of_ble_eq_true rfl) q
    · replace e := mIff hc e
      refine mGo.iconst (n := 13) (v := (1 : Int32)) dX7_has_12 (by decide) rfl ?_
      refine mGo.goto (tgt := 17) dX7_has_13 (by decide) ?_
      cases e
      exact mGo.zret dX7_has_17 rfl (by decide) (Nat.le_of_ble_eq_true rfl) (Nat.le_of_ble_eq_true rfl) q
theorem e_X7_has {w : mWp} (v0 : Option Nat) (v1 : Int32) (h : mH) {res : Int32} (e : f_X7_has v0 v1 h = some res) : mEx w zX7_has (mRoom 1 0 0) [va_rf v0, .int v1] h (fun r h2 => r = some (.int res) ∧ h2 = h) := by
  refine mEx.of (by decide +kernel) (show mEnt [va_rf v0, .int v1] 2 = [some (va_rf v0), some (.int v1)] by rw [mEnt_r, mEnt_i] <;> rfl) (by simp only [List.map_cons, List.map_nil, mRfc, mCi, mCj, List.sum_cons, List.sum_nil]; exact Nat.le_of_ble_eq_true rfl) ?_
  refine g_X7_has v0 v1 h e ?_
  exact ⟨rfl, rfl⟩
theorem s_X7_has (v0 : Option Nat) (v1 : Int32) (h : mH) {res : Int32} (e : f_X7_has v0 v1 h = some res) : mIs h v0 6 = some () := by
  unfold f_X7_has at e
  obtain ⟨u, e1, _⟩ := mBind e
  cases u
  exact e1
-- X7_setMinus
def kX7_setMinus : mK := (cX7_setMinus, RX7, 3, none, "setMinus", mRoom 1 0 0)
def zX7_setMinus : mY := (yX7_setMinus, cX7_setMinus, 3, none)
def f_X7_setMinus (v0 : Option Nat) (v1 : Int32) (v2 : Int32) (h : mH) : Option (mH) :=
  (mIs h v0 6).bind fun _ =>
  (mGR h v0 6 1).bind fun x1 =>
  (mAI h x1 v1).bind fun x2 =>
  (mSI h x1 v1 (x2 ||| ((1 : Int32) <<< (v2 &&& 31)))).bind fun h3 =>
  some h3
set_option maxRecDepth 100000 in
set_option maxHeartbeats 4000000 in
theorem g_X7_setMinus {w : mWp} {Q : Option Value → mH → Prop} (v0 : Option Nat) (v1 : Int32) (v2 : Int32) (h : mH) {res : mH} (e : f_X7_setMinus v0 v1 v2 h = some res) (q : (fun r : mH => Q none r) res) : mGo w kX7_setMinus 0 0 0 [some (va_rf v0), some (.int v1), some (.int v2)] [] h Q := by
  unfold f_X7_setMinus at e
  obtain ⟨_, _, e⟩ := mBind e
  refine mGo.aload_n (n := 1) (r := v0) dX7_setMinus_0 rfl rfl ?_
  obtain ⟨x1, e_x1, e⟩ := mBind e
  refine mGo.getR (n := 4) dX7_setMinus_1 sf_RX7_9 e_x1 rfl ?_
  refine mGo.iload_n (n := 5) (x := v1) dX7_setMinus_4 rfl rfl ?_
  refine mGo.dup2 (n := 6) dX7_setMinus_5 rfl (mRfc _) rfl ?_
  obtain ⟨x2, e_x2, e⟩ := mBind e
  refine mGo.iald (n := 7) dX7_setMinus_6 e_x2 rfl ?_
  refine mGo.iconst (n := 8) (v := (1 : Int32)) dX7_setMinus_7 (by decide) rfl ?_
  refine mGo.iload_n (n := 9) (x := v2) dX7_setMinus_8 rfl rfl ?_
  refine mGo.ishl (n := 10) dX7_setMinus_9 rfl ?_
  refine mGo.ior (n := 11) dX7_setMinus_10 rfl ?_
  obtain ⟨h3, e_h3, e⟩ := mBind e
  refine mGo.iast (n := 12) dX7_setMinus_11 e_h3 rfl ?_
  cases e
  exact mGo.vret dX7_setMinus_12 rfl (Nat.le_of_ble_eq_true rfl) (Nat.le_of_ble_eq_true rfl) q
theorem e_X7_setMinus {w : mWp} (v0 : Option Nat) (v1 : Int32) (v2 : Int32) (h : mH) {res : mH} (e : f_X7_setMinus v0 v1 v2 h = some res) : mEx w zX7_setMinus (mRoom 1 0 0) [va_rf v0, .int v1, .int v2] h (fun r h2 => r = none ∧ h2 = res) := by
  refine mEx.of (by decide +kernel) (show mEnt [va_rf v0, .int v1, .int v2] 3 = [some (va_rf v0), some (.int v1), some (.int v2)] by rw [mEnt_r, mEnt_i, mEnt_i] <;> rfl) (by simp only [List.map_cons, List.map_nil, mRfc, mCi, mCj, List.sum_cons, List.sum_nil]; exact Nat.le_of_ble_eq_true rfl) ?_
  refine g_X7_setMinus v0 v1 v2 h e ?_
  exact ⟨rfl, rfl⟩
theorem s_X7_setMinus (v0 : Option Nat) (v1 : Int32) (v2 : Int32) (h : mH) {res : mH} (e : f_X7_setMinus v0 v1 v2 h = some res) : mIs h v0 6 = some () := by
  unfold f_X7_setMinus at e
  obtain ⟨u, e1, _⟩ := mBind e
  cases u
  exact e1
-- X7_line
def kX7_line : mK := (cX7_line, RX7, 5, some (.int), "line", mRoom 1 0 0)
def zX7_line : mY := (yX7_line, cX7_line, 5, some (.int))
def f_X7_line_b16 (v0 : Option Nat) (v2 : Int32) (v3 : Int32) (v4 : Int32) (h : mH) : Option ((Int32 × Int32) ⊕ (Int32)) :=
  (mGI h v0 6 0).bind fun x1 =>
  if x1 ≤ v4 then
    some (Sum.inr v3)
  else
    (mGR h v0 6 1).bind fun x2 =>
    (mAI h x2 v4).bind fun x3 =>
    some (Sum.inl ((v3 ||| (((x3 >>> (v2 &&& 31)) &&& (1 : Int32)) <<< (v4 &&& 31))), (v4 + 1)))
set_option maxRecDepth 100000 in
set_option maxHeartbeats 4000000 in
theorem g_X7_line_b16 {w : mWp} {Q : Option Value → mH → Prop} (v0 : Option Nat) (v2 : Int32) (v3 : Int32) (v4 : Int32) (h : mH) {res : (Int32 × Int32) ⊕ (Int32)} (e : f_X7_line_b16 v0 v2 v3 v4 h = some res) (q : (Sum.elim (fun x : Int32 × Int32 => mGo w kX7_line 0 0 16 [some (va_rf v0), none, some (.int v2), some (.int x.1), some (.int x.2)] [] h Q) (fun r : Int32 => Q (some (.int r)) h)) res) : mGo w kX7_line 0 0 16 [some (va_rf v0), none, some (.int v2), some (.int v3), some (.int v4)] [] h Q := by
  unfold f_X7_line_b16 at e
  refine mGo.iload (n := 18) (x := v4) dX7_line_16 rfl rfl ?_
  refine mGo.aload_n (n := 19) (r := v0) dX7_line_18 rfl rfl ?_
  obtain ⟨x1, e_x1, e⟩ := mBind e
  refine mGo.getI (n := 22) dX7_line_19 sf_RX7_21 e_x1 rfl ?_
  refine mGo.icmp_ge (tgt := 48) (n := 25) dX7_line_22 (by decide) rfl (fun hc => ?_) (fun hc => ?_)
  · replace e := mIft hc e
    refine mGo.iload_n (n := 49) (x := v3) dX7_line_48 rfl rfl ?_
    cases e
    exact mGo.iret dX7_line_49 rfl (Nat.le_of_ble_eq_true rfl) (Nat.le_of_ble_eq_true rfl) q
  · replace e := mIff hc e
    refine mGo.iload_n (n := 26) (x := v3) dX7_line_25 rfl rfl ?_
    refine mGo.aload_n (n := 27) (r := v0) dX7_line_26 rfl rfl ?_
    obtain ⟨x2, e_x2, e⟩ := mBind e
    refine mGo.getR (n := 30) dX7_line_27 sf_RX7_9 e_x2 rfl ?_
    refine mGo.iload (n := 32) (x := v4) dX7_line_30 rfl rfl ?_
    obtain ⟨x3, e_x3, e⟩ := mBind e
    refine mGo.iald (n := 33) dX7_line_32 e_x3 rfl ?_
    refine mGo.iload_n (n := 34) (x := v2) dX7_line_33 rfl rfl ?_
    refine mGo.ishr (n := 35) dX7_line_34 rfl ?_
    refine mGo.iconst (n := 36) (v := (1 : Int32)) dX7_line_35 (by decide) rfl ?_
    refine mGo.iand (n := 37) dX7_line_36 rfl ?_
    refine mGo.iload (n := 39) (x := v4) dX7_line_37 rfl rfl ?_
    refine mGo.ishl (n := 40) dX7_line_39 rfl ?_
    refine mGo.ior (n := 41) dX7_line_40 rfl ?_
    refine mGo.istore_n (n := 42) (ls' := [some (va_rf v0), none, some (.int v2), some (.int (v3 ||| (((x3 >>> (v2 &&& 31)) &&& (1 : Int32)) <<< (v4 &&& 31)))), some (.int v4)]) dX7_line_41 rfl (Nat.le_of_ble_eq_true rfl) rfl ?_
    refine mGo.iinc (n := 45) (x := v4) (v := (v4 + 1)) (ls' := [some (va_rf v0), none, some (.int v2), some (.int (v3 ||| (((x3 >>> (v2 &&& 31)) &&& (1 : Int32)) <<< (v4 &&& 31)))), some (.int (v4 + 1))]) dX7_line_42 rfl rfl rfl (Nat.le_of_ble_eq_true rfl) rfl ?_
    refine mGo.goto (tgt := 16) dX7_line_45 (by decide) ?_
    cases e
    refine mGo.mk [true, false, true, true, true] ?_
    exact q
noncomputable def f_X7_line_l16 (v0 : Option Nat) (v2 : Int32) (v3 : Int32) (v4 : Int32) (h : mH) : Option (Int32) :=
  mLoop (fun x : Int32 × Int32 => f_X7_line_b16 v0 v2 x.1 x.2 h) (v3, v4)
set_option maxRecDepth 100000 in
set_option maxHeartbeats 4000000 in
theorem g_X7_line_l16 {w : mWp} {Q : Option Value → mH → Prop} (v0 : Option Nat) (v2 : Int32) (v3 : Int32) (v4 : Int32) (h : mH) {res : Int32} (e : f_X7_line_l16 v0 v2 v3 v4 h = some res) (q : (fun r : Int32 => Q (some (.int r)) h) res) : mGo w kX7_line 0 0 16 [some (va_rf v0), none, some (.int v2), some (.int v3), some (.int v4)] [] h Q := by
  unfold f_X7_line_l16 at e
  refine mLoop_go (x := (v3, v4)) (fun x : Int32 × Int32 => mGo w kX7_line 0 0 16 [some (va_rf v0), none, some (.int v2), some (.int x.1), some (.int x.2)] [] h Q) (fun r : Int32 => Q (some (.int r)) h) ?_ e q
  rintro ⟨v3, v4⟩ res e q
  exact g_X7_line_b16 v0 v2 v3 v4 h e q
noncomputable def f_X7_line (v0 : Option Nat) (v1 : Int32) (v2 : Int32) (h : mH) : Option (Int32) :=
  (mIs h v0 6).bind fun _ =>
  if v1 = 0 then
    f_X7_line_l16 v0 v2 (0 : Int32) (0 : Int32) h
  else
    (mGR h v0 6 1).bind fun x1 =>
    (mAI h x1 v2).bind fun x2 =>
    some x2
set_option maxRecDepth 100000 in
set_option maxHeartbeats 4000000 in
theorem g_X7_line {w : mWp} {Q : Option Value → mH → Prop} (v0 : Option Nat) (v1 : Int32) (v2 : Int32) (h : mH) {res : Int32} (e : f_X7_line v0 v1 v2 h = some res) (q : (fun r : Int32 => Q (some (.int r)) h) res) : mGo w kX7_line 0 0 0 [some (va_rf v0), some (.int v1), some (.int v2), none, none] [] h Q := by
  unfold f_X7_line at e
  obtain ⟨_, _, e⟩ := mBind e
  refine mGo.iload_n (n := 1) (x := v1) dX7_line_0 rfl rfl ?_
  refine mGo.if_eq (tgt := 11) (n := 4) dX7_line_1 (by decide) rfl (fun hc => ?_) (fun hc => ?_)
  · replace e := mIft hc e
    refine mGo.iconst (n := 12) (v := (0 : Int32)) dX7_line_11 (by decide) rfl ?_
    refine mGo.istore_n (n := 13) (ls' := [some (va_rf v0), some (.int v1), some (.int v2), some (.int (0 : Int32)), none]) dX7_line_12 rfl (Nat.le_of_ble_eq_true rfl) rfl ?_
    refine mGo.iconst (n := 14) (v := (0 : Int32)) dX7_line_13 (by decide) rfl ?_
    refine mGo.istore (n := 16) (ls' := [some (va_rf v0), some (.int v1), some (.int v2), some (.int (0 : Int32)), some (.int (0 : Int32))]) dX7_line_14 rfl (Nat.le_of_ble_eq_true rfl) rfl ?_
    refine mGo.mk [true, false, true, true, true] ?_
    exact g_X7_line_l16 v0 v2 (0 : Int32) (0 : Int32) h e q
  · replace e := mIff hc e
    refine mGo.aload_n (n := 5) (r := v0) dX7_line_4 rfl rfl ?_
    obtain ⟨x1, e_x1, e⟩ := mBind e
    refine mGo.getR (n := 8) dX7_line_5 sf_RX7_9 e_x1 rfl ?_
    refine mGo.iload_n (n := 9) (x := v2) dX7_line_8 rfl rfl ?_
    obtain ⟨x2, e_x2, e⟩ := mBind e
    refine mGo.iald (n := 10) dX7_line_9 e_x2 rfl ?_
    cases e
    exact mGo.iret dX7_line_10 rfl (Nat.le_of_ble_eq_true rfl) (Nat.le_of_ble_eq_true rfl) q
theorem e_X7_line {w : mWp} (v0 : Option Nat) (v1 : Int32) (v2 : Int32) (h : mH) {res : Int32} (e : f_X7_line v0 v1 v2 h = some res) : mEx w zX7_line (mRoom 1 0 0) [va_rf v0, .int v1, .int v2] h (fun r h2 => r = some (.int res) ∧ h2 = h) := by
  refine mEx.of (by decide +kernel) (show mEnt [va_rf v0, .int v1, .int v2] 5 = [some (va_rf v0), some (.int v1), some (.int v2), none, none] by rw [mEnt_r, mEnt_i, mEnt_i] <;> rfl) (by simp only [List.map_cons, List.map_nil, mRfc, mCi, mCj, List.sum_cons, List.sum_nil]; exact Nat.le_of_ble_eq_true rfl) ?_
  refine g_X7_line v0 v1 v2 h e ?_
  exact ⟨rfl, rfl⟩
theorem s_X7_line (v0 : Option Nat) (v1 : Int32) (v2 : Int32) (h : mH) {res : Int32} (e : f_X7_line v0 v1 v2 h = some res) : mIs h v0 6 = some () := by
  unfold f_X7_line at e
  obtain ⟨u, e1, _⟩ := mBind e
  cases u
  exact e1
-- X7_copyLines
def kX7_copyLines : mK := (cX7_copyLines, RX7, 4, none, "copyLines", mRoom 2 0 0)
def zX7_copyLines : mY := (yX7_copyLines, cX7_copyLines, 4, none)
set_option maxRecDepth 100000 in
theorem sc_RX7_49 : mSV RX7 49 zX7_line 2 6 := ⟨Or.inl (mT_at 579 (by decide +kernel) rfl), mT_at 513 (by decide +kernel) rfl, mT_at 16 (by decide +kernel) rfl, mT_at 84 (by decide +kernel) rfl, mT_at 514 (by decide +kernel) rfl, ⟨by decide +kernel, by decide +kernel, by decide +kernel⟩, by decide, rfl⟩
noncomputable def f_X7_copyLines_b2 (v0 : Option Nat) (v1 : Int32) (v2 : Option Nat) (v3 : Int32) (h : mH) : Option ((Int32 × mH) ⊕ (mH)) :=
  (mGI h v0 6 0).bind fun x1 =>
  if x1 ≤ v3 then
    some (Sum.inr h)
  else
    (mLn h v2).bind fun x2 =>
    if x2 ≤ v3 then
      some (Sum.inr h)
    else
      (f_X7_line v0 v1 v3 h).bind fun x3 =>
      (mSI h v2 v3 x3).bind fun h4 =>
      some (Sum.inl ((v3 + 1), h4))
set_option maxRecDepth 100000 in
set_option maxHeartbeats 4000000 in
theorem g_X7_copyLines_b2 {w : mWp} {Q : Option Value → mH → Prop} (v0 : Option Nat) (v1 : Int32) (v2 : Option Nat) (v3 : Int32) (h : mH) {res : (Int32 × mH) ⊕ (mH)} (e : f_X7_copyLines_b2 v0 v1 v2 v3 h = some res) (q : (Sum.elim (fun x : Int32 × mH => mGo w kX7_copyLines 0 0 2 [some (va_rf v0), some (.int v1), some (va_rf v2), some (.int x.1)] [] x.2 Q) (fun r : mH => Q none r)) res) : mGo w kX7_copyLines 0 0 2 [some (va_rf v0), some (.int v1), some (va_rf v2), some (.int v3)] [] h Q := by
  unfold f_X7_copyLines_b2 at e
  refine mGo.iload_n (n := 3) (x := v3) dX7_copyLines_2 rfl rfl ?_
  refine mGo.aload_n (n := 4) (r := v0) dX7_copyLines_3 rfl rfl ?_
  obtain ⟨x1, e_x1, e⟩ := mBind e
  refine mGo.getI (n := 7) dX7_copyLines_4 sf_RX7_21 e_x1 rfl ?_
  refine mGo.icmp_ge (tgt := 31) (n := 10) dX7_copyLines_7 (by decide) rfl (fun hc => ?_) (fun hc => ?_)
  · replace e := mIft hc e
    cases e
    exact mGo.vret dX7_copyLines_31 rfl (Nat.le_of_ble_eq_true rfl) (Nat.le_of_ble_eq_true rfl) q
  · replace e := mIff hc e
    refine mGo.iload_n (n := 11) (x := v3) dX7_copyLines_10 rfl rfl ?_
    refine mGo.aload_n (n := 12) (r := v2) dX7_copyLines_11 rfl rfl ?_
    obtain ⟨x2, e_x2, e⟩ := mBind e
    refine mGo.alen (n := 13) dX7_copyLines_12 e_x2 rfl ?_
    refine mGo.icmp_ge (tgt := 31) (n := 16) dX7_copyLines_13 (by decide) rfl (fun hc => ?_) (fun hc => ?_)
    · replace e := mIft hc e
      cases e
      exact mGo.vret dX7_copyLines_31 rfl (Nat.le_of_ble_eq_true rfl) (Nat.le_of_ble_eq_true rfl) q
    · replace e := mIff hc e
      refine mGo.aload_n (n := 17) (r := v2) dX7_copyLines_16 rfl rfl ?_
      refine mGo.iload_n (n := 18) (x := v3) dX7_copyLines_17 rfl rfl ?_
      refine mGo.aload_n (n := 19) (r := v0) dX7_copyLines_18 rfl rfl ?_
      refine mGo.iload_n (n := 20) (x := v1) dX7_copyLines_19 rfl rfl ?_
      refine mGo.iload_n (n := 21) (x := v3) dX7_copyLines_20 rfl rfl ?_
      obtain ⟨x3, e_x3, e⟩ := mBind e
      refine mGo.callV (n := 24) (y := zX7_line) (R' := (mRoom (1) 0 0)) (as := [.int v1, .int v3]) (st := [.int v3, va_rf v2]) (r0 := v0) dX7_copyLines_21 sc_RX7_49 rfl (s_X7_line v0 v1 v3 h e_x3) (e_X7_line v0 v1 v3 h e_x3) (mFit_of rfl (Nat.le_of_ble_eq_true rfl) (by decide) (Nat.le_of_ble_eq_true rfl) (Nat.le_of_ble_eq_true rfl)) (mCat8 (Nat.le_of_ble_eq_true rfl)) rfl rfl ?_
      intro _ _ hq
      rw [hq.1, hq.2]
      show mGo w kX7_copyLines 0 0 24 [some (va_rf v0), some (.int v1), some (va_rf v2), some (.int v3)] [.int x3, .int v3, va_rf v2] h Q
      obtain ⟨h4, e_h4, e⟩ := mBind e
      refine mGo.iast (n := 25) dX7_copyLines_24 e_h4 rfl ?_
      refine mGo.iinc (n := 28) (x := v3) (v := (v3 + 1)) (ls' := [some (va_rf v0), some (.int v1), some (va_rf v2), some (.int (v3 + 1))]) dX7_copyLines_25 rfl rfl ((mSt_set (fun u _ hu => by cases hu; exact mRfc _)).trans rfl) (Nat.le_of_ble_eq_true rfl) rfl ?_
      refine mGo.goto (tgt := 2) dX7_copyLines_28 (by decide) ?_
      cases e
      refine mGo.mk [true, true, true, true] ?_
      exact q
noncomputable def f_X7_copyLines_l2 (v0 : Option Nat) (v1 : Int32) (v2 : Option Nat) (v3 : Int32) (h : mH) : Option (mH) :=
  mLoop (fun x : Int32 × mH => f_X7_copyLines_b2 v0 v1 v2 x.1 x.2) (v3, h)
set_option maxRecDepth 100000 in
set_option maxHeartbeats 4000000 in
theorem g_X7_copyLines_l2 {w : mWp} {Q : Option Value → mH → Prop} (v0 : Option Nat) (v1 : Int32) (v2 : Option Nat) (v3 : Int32) (h : mH) {res : mH} (e : f_X7_copyLines_l2 v0 v1 v2 v3 h = some res) (q : (fun r : mH => Q none r) res) : mGo w kX7_copyLines 0 0 2 [some (va_rf v0), some (.int v1), some (va_rf v2), some (.int v3)] [] h Q := by
  unfold f_X7_copyLines_l2 at e
  refine mLoop_go (x := (v3, h)) (fun x : Int32 × mH => mGo w kX7_copyLines 0 0 2 [some (va_rf v0), some (.int v1), some (va_rf v2), some (.int x.1)] [] x.2 Q) (fun r : mH => Q none r) ?_ e q
  rintro ⟨v3, h1⟩ res e q
  exact g_X7_copyLines_b2 v0 v1 v2 v3 h1 e q
noncomputable def f_X7_copyLines (v0 : Option Nat) (v1 : Int32) (v2 : Option Nat) (h : mH) : Option (mH) :=
  (mIs h v0 6).bind fun _ =>
  f_X7_copyLines_l2 v0 v1 v2 (0 : Int32) h
set_option maxRecDepth 100000 in
set_option maxHeartbeats 4000000 in
theorem g_X7_copyLines {w : mWp} {Q : Option Value → mH → Prop} (v0 : Option Nat) (v1 : Int32) (v2 : Option Nat) (h : mH) {res : mH} (e : f_X7_copyLines v0 v1 v2 h = some res) (q : (fun r : mH => Q none r) res) : mGo w kX7_copyLines 0 0 0 [some (va_rf v0), some (.int v1), some (va_rf v2), none] [] h Q := by
  unfold f_X7_copyLines at e
  obtain ⟨_, _, e⟩ := mBind e
  refine mGo.iconst (n := 1) (v := (0 : Int32)) dX7_copyLines_0 (by decide) rfl ?_
  refine mGo.istore_n (n := 2) (ls' := [some (va_rf v0), some (.int v1), some (va_rf v2), some (.int (0 : Int32))]) dX7_copyLines_1 ((mSt_set (fun u _ hu => by cases hu; exact mRfc _)).trans rfl) (Nat.le_of_ble_eq_true rfl) rfl ?_
  refine mGo.mk [true, true, true, true] ?_
  exact g_X7_copyLines_l2 v0 v1 v2 (0 : Int32) h e q
theorem e_X7_copyLines {w : mWp} (v0 : Option Nat) (v1 : Int32) (v2 : Option Nat) (h : mH) {res : mH} (e : f_X7_copyLines v0 v1 v2 h = some res) : mEx w zX7_copyLines (mRoom 2 0 0) [va_rf v0, .int v1, va_rf v2] h (fun r h2 => r = none ∧ h2 = res) := by
  refine mEx.of (by decide +kernel) (show mEnt [va_rf v0, .int v1, va_rf v2] 4 = [some (va_rf v0), some (.int v1), some (va_rf v2), none] by rw [mEnt_r, mEnt_i, mEnt_r] <;> rfl) (by simp only [List.map_cons, List.map_nil, mRfc, mCi, mCj, List.sum_cons, List.sum_nil]; exact Nat.le_of_ble_eq_true rfl) ?_
  refine g_X7_copyLines v0 v1 v2 h e ?_
  exact ⟨rfl, rfl⟩
theorem s_X7_copyLines (v0 : Option Nat) (v1 : Int32) (v2 : Option Nat) (h : mH) {res : mH} (e : f_X7_copyLines v0 v1 v2 h = some res) : mIs h v0 6 = some () := by
  unfold f_X7_copyLines at e
  obtain ⟨u, e1, _⟩ := mBind e
  cases u
  exact e1
-- X7_signLine
def kX7_signLine : mK := (cX7_signLine, RX7, 4, none, "signLine", mRoom 2 0 0)
def zX7_signLine : mY := (yX7_signLine, cX7_signLine, 4, none)
set_option maxRecDepth 100000 in
theorem sc_RX7_53 : mSV RX7 53 zX7_mask 0 6 := ⟨Or.inl (mT_at 464 (by decide +kernel) rfl), mT_at 392 (by decide +kernel) rfl, mT_at 7 (by decide +kernel) rfl, mT_at 84 (by decide +kernel) rfl, mT_at 393 (by decide +kernel) rfl, ⟨by decide +kernel, by decide +kernel, by decide +kernel⟩, by decide, rfl⟩
def f_X7_signLine_b35 (v0 : Option Nat) (v2 : Int32) (v3 : Int32) (h : mH) : Option ((Int32 × mH) ⊕ (mH)) :=
  (mGI h v0 6 0).bind fun x1 =>
  if x1 ≤ v3 then
    (mGR h v0 6 3).bind fun x2 =>
    (mAI h x2 v2).bind fun x3 =>
    (mSI h x2 v2 (x3 ^^^ (1 : Int32))).bind fun h4 =>
    some (Sum.inr h4)
  else
    (mGR h v0 6 1).bind fun x5 =>
    (mAI h x5 v3).bind fun x6 =>
    (mSI h x5 v3 (x6 ^^^ ((1 : Int32) <<< (v2 &&& 31)))).bind fun h7 =>
    some (Sum.inl ((v3 + 1), h7))
set_option maxRecDepth 100000 in
set_option maxHeartbeats 4000000 in
theorem g_X7_signLine_b35 {w : mWp} {Q : Option Value → mH → Prop} (v0 : Option Nat) (v2 : Int32) (v3 : Int32) (h : mH) {res : (Int32 × mH) ⊕ (mH)} (e : f_X7_signLine_b35 v0 v2 v3 h = some res) (q : (Sum.elim (fun x : Int32 × mH => mGo w kX7_signLine 0 0 35 [some (va_rf v0), none, some (.int v2), some (.int x.1)] [] x.2 Q) (fun r : mH => Q none r)) res) : mGo w kX7_signLine 0 0 35 [some (va_rf v0), none, some (.int v2), some (.int v3)] [] h Q := by
  unfold f_X7_signLine_b35 at e
  refine mGo.iload_n (n := 36) (x := v3) dX7_signLine_35 rfl rfl ?_
  refine mGo.aload_n (n := 37) (r := v0) dX7_signLine_36 rfl rfl ?_
  obtain ⟨x1, e_x1, e⟩ := mBind e
  refine mGo.getI (n := 40) dX7_signLine_37 sf_RX7_21 e_x1 rfl ?_
  refine mGo.icmp_ge (tgt := 61) (n := 43) dX7_signLine_40 (by decide) rfl (fun hc => ?_) (fun hc => ?_)
  · replace e := mIft hc e
    refine mGo.aload_n (n := 62) (r := v0) dX7_signLine_61 rfl rfl ?_
    obtain ⟨x2, e_x2, e⟩ := mBind e
    refine mGo.getR (n := 65) dX7_signLine_62 sf_RX7_18 e_x2 rfl ?_
    refine mGo.iload_n (n := 66) (x := v2) dX7_signLine_65 rfl rfl ?_
    refine mGo.dup2 (n := 67) dX7_signLine_66 rfl (mRfc _) rfl ?_
    obtain ⟨x3, e_x3, e⟩ := mBind e
    refine mGo.iald (n := 68) dX7_signLine_67 e_x3 rfl ?_
    refine mGo.iconst (n := 69) (v := (1 : Int32)) dX7_signLine_68 (by decide) rfl ?_
    refine mGo.ixor (n := 70) dX7_signLine_69 rfl ?_
    obtain ⟨h4, e_h4, e⟩ := mBind e
    refine mGo.iast (n := 71) dX7_signLine_70 e_h4 rfl ?_
    cases e
    exact mGo.vret dX7_signLine_71 rfl (Nat.le_of_ble_eq_true rfl) (Nat.le_of_ble_eq_true rfl) q
  · replace e := mIff hc e
    refine mGo.aload_n (n := 44) (r := v0) dX7_signLine_43 rfl rfl ?_
    obtain ⟨x5, e_x5, e⟩ := mBind e
    refine mGo.getR (n := 47) dX7_signLine_44 sf_RX7_9 e_x5 rfl ?_
    refine mGo.iload_n (n := 48) (x := v3) dX7_signLine_47 rfl rfl ?_
    refine mGo.dup2 (n := 49) dX7_signLine_48 rfl (mRfc _) rfl ?_
    obtain ⟨x6, e_x6, e⟩ := mBind e
    refine mGo.iald (n := 50) dX7_signLine_49 e_x6 rfl ?_
    refine mGo.iconst (n := 51) (v := (1 : Int32)) dX7_signLine_50 (by decide) rfl ?_
    refine mGo.iload_n (n := 52) (x := v2) dX7_signLine_51 rfl rfl ?_
    refine mGo.ishl (n := 53) dX7_signLine_52 rfl ?_
    refine mGo.ixor (n := 54) dX7_signLine_53 rfl ?_
    obtain ⟨h7, e_h7, e⟩ := mBind e
    refine mGo.iast (n := 55) dX7_signLine_54 e_h7 rfl ?_
    refine mGo.iinc (n := 58) (x := v3) (v := (v3 + 1)) (ls' := [some (va_rf v0), none, some (.int v2), some (.int (v3 + 1))]) dX7_signLine_55 rfl rfl rfl (Nat.le_of_ble_eq_true rfl) rfl ?_
    refine mGo.goto (tgt := 35) dX7_signLine_58 (by decide) ?_
    cases e
    refine mGo.mk [true, false, true, true] ?_
    exact q
noncomputable def f_X7_signLine_l35 (v0 : Option Nat) (v2 : Int32) (v3 : Int32) (h : mH) : Option (mH) :=
  mLoop (fun x : Int32 × mH => f_X7_signLine_b35 v0 v2 x.1 x.2) (v3, h)
set_option maxRecDepth 100000 in
set_option maxHeartbeats 4000000 in
theorem g_X7_signLine_l35 {w : mWp} {Q : Option Value → mH → Prop} (v0 : Option Nat) (v2 : Int32) (v3 : Int32) (h : mH) {res : mH} (e : f_X7_signLine_l35 v0 v2 v3 h = some res) (q : (fun r : mH => Q none r) res) : mGo w kX7_signLine 0 0 35 [some (va_rf v0), none, some (.int v2), some (.int v3)] [] h Q := by
  unfold f_X7_signLine_l35 at e
  refine mLoop_go (x := (v3, h)) (fun x : Int32 × mH => mGo w kX7_signLine 0 0 35 [some (va_rf v0), none, some (.int v2), some (.int x.1)] [] x.2 Q) (fun r : mH => Q none r) ?_ e q
  rintro ⟨v3, h1⟩ res e q
  exact g_X7_signLine_b35 v0 v2 v3 h1 e q
noncomputable def f_X7_signLine (v0 : Option Nat) (v1 : Int32) (v2 : Int32) (h : mH) : Option (mH) :=
  (mIs h v0 6).bind fun _ =>
  (mPF h v0 6 5 (.int (0 : Int32))).bind fun h1 =>
  if v1 = 0 then
    f_X7_signLine_l35 v0 v2 (0 : Int32) h1
  else
    (mGR h1 v0 6 1).bind fun x2 =>
    (mAI h1 x2 v2).bind fun x3 =>
    (f_X7_mask v0 h1).bind fun x4 =>
    (mSI h1 x2 v2 (x3 ^^^ x4)).bind fun h5 =>
    (mGR h5 v0 6 2).bind fun x6 =>
    (mAI h5 x6 v2).bind fun x7 =>
    (mSI h5 x6 v2 (x7 ^^^ (1 : Int32))).bind fun h8 =>
    some h8
set_option maxRecDepth 100000 in
set_option maxHeartbeats 4000000 in
theorem g_X7_signLine {w : mWp} {Q : Option Value → mH → Prop} (v0 : Option Nat) (v1 : Int32) (v2 : Int32) (h : mH) {res : mH} (e : f_X7_signLine v0 v1 v2 h = some res) (q : (fun r : mH => Q none r) res) : mGo w kX7_signLine 0 0 0 [some (va_rf v0), some (.int v1), some (.int v2), none] [] h Q := by
  unfold f_X7_signLine at e
  obtain ⟨_, _, e⟩ := mBind e
  refine mGo.aload_n (n := 1) (r := v0) dX7_signLine_0 rfl rfl ?_
  refine mGo.iconst (n := 2) (v := (0 : Int32)) dX7_signLine_1 (by decide) rfl ?_
  obtain ⟨h1, e_h1, e⟩ := mBind e
  refine mGo.putZ (n := 5) dX7_signLine_2 sf_RX7_38 rfl rfl (by decide) e_h1 rfl ?_
  refine mGo.iload_n (n := 6) (x := v1) dX7_signLine_5 rfl rfl ?_
  refine mGo.if_eq (tgt := 33) (n := 9) dX7_signLine_6 (by decide) rfl (fun hc => ?_) (fun hc => ?_)
  · replace e := mIft hc e
    refine mGo.iconst (n := 34) (v := (0 : Int32)) dX7_signLine_33 (by decide) rfl ?_
    refine mGo.istore_n (n := 35) (ls' := [some (va_rf v0), some (.int v1), some (.int v2), some (.int (0 : Int32))]) dX7_signLine_34 rfl (Nat.le_of_ble_eq_true rfl) rfl ?_
    refine mGo.mk [true, false, true, true] ?_
    exact g_X7_signLine_l35 v0 v2 (0 : Int32) h1 e q
  · replace e := mIff hc e
    refine mGo.aload_n (n := 10) (r := v0) dX7_signLine_9 rfl rfl ?_
    obtain ⟨x2, e_x2, e⟩ := mBind e
    refine mGo.getR (n := 13) dX7_signLine_10 sf_RX7_9 e_x2 rfl ?_
    refine mGo.iload_n (n := 14) (x := v2) dX7_signLine_13 rfl rfl ?_
    refine mGo.dup2 (n := 15) dX7_signLine_14 rfl (mRfc _) rfl ?_
    obtain ⟨x3, e_x3, e⟩ := mBind e
    refine mGo.iald (n := 16) dX7_signLine_15 e_x3 rfl ?_
    refine mGo.aload_n (n := 17) (r := v0) dX7_signLine_16 rfl rfl ?_
    obtain ⟨x4, e_x4, e⟩ := mBind e
    refine mGo.callV (n := 20) (y := zX7_mask) (R' := (mRoom (1) 0 0)) (as := []) (st := [.int x3, .int v2, va_rf x2]) (r0 := v0) dX7_signLine_17 sc_RX7_53 rfl (s_X7_mask v0 h1 e_x4) (e_X7_mask v0 h1 e_x4) (mFit_of rfl (Nat.le_of_ble_eq_true rfl) (by decide) (Nat.le_of_ble_eq_true rfl) (Nat.le_of_ble_eq_true rfl)) (mCat8 (Nat.le_of_ble_eq_true rfl)) rfl rfl ?_
    intro _ _ hq
    rw [hq.1, hq.2]
    show mGo w kX7_signLine 0 0 20 [some (va_rf v0), some (.int v1), some (.int v2), none] [.int x4, .int x3, .int v2, va_rf x2] h1 Q
    refine mGo.ixor (n := 21) dX7_signLine_20 rfl ?_
    obtain ⟨h5, e_h5, e⟩ := mBind e
    refine mGo.iast (n := 22) dX7_signLine_21 e_h5 rfl ?_
    refine mGo.aload_n (n := 23) (r := v0) dX7_signLine_22 rfl rfl ?_
    obtain ⟨x6, e_x6, e⟩ := mBind e
    refine mGo.getR (n := 26) dX7_signLine_23 sf_RX7_15 e_x6 rfl ?_
    refine mGo.iload_n (n := 27) (x := v2) dX7_signLine_26 rfl rfl ?_
    refine mGo.dup2 (n := 28) dX7_signLine_27 rfl (mRfc _) rfl ?_
    obtain ⟨x7, e_x7, e⟩ := mBind e
    refine mGo.iald (n := 29) dX7_signLine_28 e_x7 rfl ?_
    refine mGo.iconst (n := 30) (v := (1 : Int32)) dX7_signLine_29 (by decide) rfl ?_
    refine mGo.ixor (n := 31) dX7_signLine_30 rfl ?_
    obtain ⟨h8, e_h8, e⟩ := mBind e
    refine mGo.iast (n := 32) dX7_signLine_31 e_h8 rfl ?_
    cases e
    exact mGo.vret dX7_signLine_32 rfl (Nat.le_of_ble_eq_true rfl) (Nat.le_of_ble_eq_true rfl) q
theorem e_X7_signLine {w : mWp} (v0 : Option Nat) (v1 : Int32) (v2 : Int32) (h : mH) {res : mH} (e : f_X7_signLine v0 v1 v2 h = some res) : mEx w zX7_signLine (mRoom 2 0 0) [va_rf v0, .int v1, .int v2] h (fun r h2 => r = none ∧ h2 = res) := by
  refine mEx.of (by decide +kernel) (show mEnt [va_rf v0, .int v1, .int v2] 4 = [some (va_rf v0), some (.int v1), some (.int v2), none] by rw [mEnt_r, mEnt_i, mEnt_i] <;> rfl) (by simp only [List.map_cons, List.map_nil, mRfc, mCi, mCj, List.sum_cons, List.sum_nil]; exact Nat.le_of_ble_eq_true rfl) ?_
  refine g_X7_signLine v0 v1 v2 h e ?_
  exact ⟨rfl, rfl⟩
theorem s_X7_signLine (v0 : Option Nat) (v1 : Int32) (v2 : Int32) (h : mH) {res : mH} (e : f_X7_signLine v0 v1 v2 h = some res) : mIs h v0 6 = some () := by
  unfold f_X7_signLine at e
  obtain ⟨u, e1, _⟩ := mBind e
  cases u
  exact e1
-- X7_exchangeNumbers
def kX7_exchangeNumbers : mK := (cX7_exchangeNumbers, RX7, 4, none, "exchangeNumbers", mRoom 1 0 0)
def zX7_exchangeNumbers : mY := (yX7_exchangeNumbers, cX7_exchangeNumbers, 4, none)
def f_X7_exchangeNumbers (v0 : Option Nat) (v1 : Int32) (v2 : Int32) (h : mH) : Option (mH) :=
  (mAI h v0 v1).bind fun x1 =>
  (mAI h v0 v2).bind fun x2 =>
  (mSI h v0 v1 x2).bind fun h3 =>
  (mSI h3 v0 v2 x1).bind fun h4 =>
  some h4
set_option maxRecDepth 100000 in
set_option maxHeartbeats 4000000 in
theorem g_X7_exchangeNumbers {w : mWp} {Q : Option Value → mH → Prop} (v0 : Option Nat) (v1 : Int32) (v2 : Int32) (h : mH) {res : mH} (e : f_X7_exchangeNumbers v0 v1 v2 h = some res) (q : (fun r : mH => Q none r) res) : mGo w kX7_exchangeNumbers 0 0 0 [some (va_rf v0), some (.int v1), some (.int v2), none] [] h Q := by
  unfold f_X7_exchangeNumbers at e
  refine mGo.aload_n (n := 1) (r := v0) dX7_exchangeNumbers_0 rfl rfl ?_
  refine mGo.iload_n (n := 2) (x := v1) dX7_exchangeNumbers_1 rfl rfl ?_
  obtain ⟨x1, e_x1, e⟩ := mBind e
  refine mGo.iald (n := 3) dX7_exchangeNumbers_2 e_x1 rfl ?_
  refine mGo.istore_n (n := 4) (ls' := [some (va_rf v0), some (.int v1), some (.int v2), some (.int x1)]) dX7_exchangeNumbers_3 rfl (Nat.le_of_ble_eq_true rfl) rfl ?_
  refine mGo.aload_n (n := 5) (r := v0) dX7_exchangeNumbers_4 rfl rfl ?_
  refine mGo.iload_n (n := 6) (x := v1) dX7_exchangeNumbers_5 rfl rfl ?_
  refine mGo.aload_n (n := 7) (r := v0) dX7_exchangeNumbers_6 rfl rfl ?_
  refine mGo.iload_n (n := 8) (x := v2) dX7_exchangeNumbers_7 rfl rfl ?_
  obtain ⟨x2, e_x2, e⟩ := mBind e
  refine mGo.iald (n := 9) dX7_exchangeNumbers_8 e_x2 rfl ?_
  obtain ⟨h3, e_h3, e⟩ := mBind e
  refine mGo.iast (n := 10) dX7_exchangeNumbers_9 e_h3 rfl ?_
  refine mGo.aload_n (n := 11) (r := v0) dX7_exchangeNumbers_10 rfl rfl ?_
  refine mGo.iload_n (n := 12) (x := v2) dX7_exchangeNumbers_11 rfl rfl ?_
  refine mGo.iload_n (n := 13) (x := x1) dX7_exchangeNumbers_12 rfl rfl ?_
  obtain ⟨h4, e_h4, e⟩ := mBind e
  refine mGo.iast (n := 14) dX7_exchangeNumbers_13 e_h4 rfl ?_
  cases e
  exact mGo.vret dX7_exchangeNumbers_14 rfl (Nat.le_of_ble_eq_true rfl) (Nat.le_of_ble_eq_true rfl) q
theorem e_X7_exchangeNumbers {w : mWp} (v0 : Option Nat) (v1 : Int32) (v2 : Int32) (h : mH) {res : mH} (e : f_X7_exchangeNumbers v0 v1 v2 h = some res) : mEx w zX7_exchangeNumbers (mRoom 1 0 0) [va_rf v0, .int v1, .int v2] h (fun r h2 => r = none ∧ h2 = res) := by
  refine mEx.of (by decide +kernel) (show mEnt [va_rf v0, .int v1, .int v2] 4 = [some (va_rf v0), some (.int v1), some (.int v2), none] by rw [mEnt_r, mEnt_i, mEnt_i] <;> rfl) (by simp only [List.map_cons, List.map_nil, mRfc, mCi, mCj, List.sum_cons, List.sum_nil]; exact Nat.le_of_ble_eq_true rfl) ?_
  refine g_X7_exchangeNumbers v0 v1 v2 h e ?_
  exact ⟨rfl, rfl⟩
-- X7_exchangeLines
def kX7_exchangeLines : mK := (cX7_exchangeLines, RX7, 6, none, "exchangeLines", mRoom 2 0 0)
def zX7_exchangeLines : mY := (yX7_exchangeLines, cX7_exchangeLines, 6, none)
set_option maxRecDepth 100000 in
theorem sc_RX7_57 : mSS RX7 57 zX7_exchangeNumbers 3 := ⟨Or.inl (mT_at 473 (by decide +kernel) rfl), mT_at 474 (by decide +kernel) rfl, mT_at 84 (by decide +kernel) rfl, mT_at 475 (by decide +kernel) rfl, ⟨by decide +kernel, by decide +kernel, by decide +kernel⟩⟩
def f_X7_exchangeLines_b31 (v0 : Option Nat) (v2 : Int32) (v3 : Int32) (v4 : Int32) (h : mH) : Option ((Int32 × mH) ⊕ (mH)) :=
  (mGI h v0 6 0).bind fun x1 =>
  if x1 ≤ v4 then
    (mGR h v0 6 3).bind fun x2 =>
    (f_X7_exchangeNumbers x2 v2 v3 h).bind fun x3 =>
    some (Sum.inr x3)
  else
    (mGR h v0 6 1).bind fun x4 =>
    (mAI h x4 v4).bind fun x5 =>
    (mGR h v0 6 1).bind fun x6 =>
    (mAI h x6 v4).bind fun x7 =>
    (mGR h v0 6 1).bind fun x8 =>
    (mAI h x8 v4).bind fun x9 =>
    (mSI h x8 v4 (x9 ^^^ (((((x5 >>> (v2 &&& 31)) ^^^ (x7 >>> (v3 &&& 31))) &&& (1 : Int32)) <<< (v2 &&& 31)) ||| ((((x5 >>> (v2 &&& 31)) ^^^ (x7 >>> (v3 &&& 31))) &&& (1 : Int32)) <<< (v3 &&& 31))))).bind fun h10 =>
    some (Sum.inl ((v4 + 1), h10))
set_option maxRecDepth 100000 in
set_option maxHeartbeats 4000000 in
theorem g_X7_exchangeLines_b31 {w : mWp} {Q : Option Value → mH → Prop} (v0 : Option Nat) (v2 : Int32) (v3 : Int32) (v4 : Int32) (h : mH) {res : (Int32 × mH) ⊕ (mH)} (e : f_X7_exchangeLines_b31 v0 v2 v3 v4 h = some res) (q : (Sum.elim (fun x : Int32 × mH => mGo w kX7_exchangeLines 0 0 31 [some (va_rf v0), none, some (.int v2), some (.int v3), some (.int x.1), none] [] x.2 Q) (fun r : mH => Q none r)) res) : mGo w kX7_exchangeLines 0 0 31 [some (va_rf v0), none, some (.int v2), some (.int v3), some (.int v4), none] [] h Q := by
  unfold f_X7_exchangeLines_b31 at e
  refine mGo.iload (n := 33) (x := v4) dX7_exchangeLines_31 rfl rfl ?_
  refine mGo.aload_n (n := 34) (r := v0) dX7_exchangeLines_33 rfl rfl ?_
  obtain ⟨x1, e_x1, e⟩ := mBind e
  refine mGo.getI (n := 37) dX7_exchangeLines_34 sf_RX7_21 e_x1 rfl ?_
  refine mGo.icmp_ge (tgt := 88) (n := 40) dX7_exchangeLines_37 (by decide) rfl (fun hc => ?_) (fun hc => ?_)
  · replace e := mIft hc e
    refine mGo.aload_n (n := 89) (r := v0) dX7_exchangeLines_88 rfl rfl ?_
    obtain ⟨x2, e_x2, e⟩ := mBind e
    refine mGo.getR (n := 92) dX7_exchangeLines_89 sf_RX7_18 e_x2 rfl ?_
    refine mGo.iload_n (n := 93) (x := v2) dX7_exchangeLines_92 rfl rfl ?_
    refine mGo.iload_n (n := 94) (x := v3) dX7_exchangeLines_93 rfl rfl ?_
    obtain ⟨x3, e_x3, e⟩ := mBind e
    refine mGo.callS (n := 97) (y := zX7_exchangeNumbers) (R' := (mRoom (1) 0 0)) (as := [va_rf x2, .int v2, .int v3]) (st := []) dX7_exchangeLines_94 sc_RX7_57 rfl (e_X7_exchangeNumbers x2 v2 v3 h e_x3) (mFit_of rfl (Nat.le_of_ble_eq_true rfl) (by decide) (Nat.le_of_ble_eq_true rfl) (Nat.le_of_ble_eq_true rfl)) (Nat.le_of_ble_eq_true rfl) rfl rfl ?_
    intro _ _ hq
    rw [hq.1, hq.2]
    show mGo w kX7_exchangeLines 0 0 97 [some (va_rf v0), none, some (.int v2), some (.int v3), some (.int v4), none] [] x3 Q
    cases e
    exact mGo.vret dX7_exchangeLines_97 rfl (Nat.le_of_ble_eq_true rfl) (Nat.le_of_ble_eq_true rfl) q
  · replace e := mIff hc e
    refine mGo.aload_n (n := 41) (r := v0) dX7_exchangeLines_40 rfl rfl ?_
    obtain ⟨x4, e_x4, e⟩ := mBind e
    refine mGo.getR (n := 44) dX7_exchangeLines_41 sf_RX7_9 e_x4 rfl ?_
    refine mGo.iload (n := 46) (x := v4) dX7_exchangeLines_44 rfl rfl ?_
    obtain ⟨x5, e_x5, e⟩ := mBind e
    refine mGo.iald (n := 47) dX7_exchangeLines_46 e_x5 rfl ?_
    refine mGo.iload_n (n := 48) (x := v2) dX7_exchangeLines_47 rfl rfl ?_
    refine mGo.ishr (n := 49) dX7_exchangeLines_48 rfl ?_
    refine mGo.aload_n (n := 50) (r := v0) dX7_exchangeLines_49 rfl rfl ?_
    obtain ⟨x6, e_x6, e⟩ := mBind e
    refine mGo.getR (n := 53) dX7_exchangeLines_50 sf_RX7_9 e_x6 rfl ?_
    refine mGo.iload (n := 55) (x := v4) dX7_exchangeLines_53 rfl rfl ?_
    obtain ⟨x7, e_x7, e⟩ := mBind e
    refine mGo.iald (n := 56) dX7_exchangeLines_55 e_x7 rfl ?_
    refine mGo.iload_n (n := 57) (x := v3) dX7_exchangeLines_56 rfl rfl ?_
    refine mGo.ishr (n := 58) dX7_exchangeLines_57 rfl ?_
    refine mGo.ixor (n := 59) dX7_exchangeLines_58 rfl ?_
    refine mGo.iconst (n := 60) (v := (1 : Int32)) dX7_exchangeLines_59 (by decide) rfl ?_
    refine mGo.iand (n := 61) dX7_exchangeLines_60 rfl ?_
    refine mGo.istore (n := 63) (ls' := [some (va_rf v0), none, some (.int v2), some (.int v3), some (.int v4), some (.int (((x5 >>> (v2 &&& 31)) ^^^ (x7 >>> (v3 &&& 31))) &&& (1 : Int32)))]) dX7_exchangeLines_61 rfl (Nat.le_of_ble_eq_true rfl) rfl ?_
    refine mGo.aload_n (n := 64) (r := v0) dX7_exchangeLines_63 rfl rfl ?_
    obtain ⟨x8, e_x8, e⟩ := mBind e
    refine mGo.getR (n := 67) dX7_exchangeLines_64 sf_RX7_9 e_x8 rfl ?_
    refine mGo.iload (n := 69) (x := v4) dX7_exchangeLines_67 rfl rfl ?_
    refine mGo.dup2 (n := 70) dX7_exchangeLines_69 rfl (mRfc _) rfl ?_
    obtain ⟨x9, e_x9, e⟩ := mBind e
    refine mGo.iald (n := 71) dX7_exchangeLines_70 e_x9 rfl ?_
    refine mGo.iload (n := 73) (x := (((x5 >>> (v2 &&& 31)) ^^^ (x7 >>> (v3 &&& 31))) &&& (1 : Int32))) dX7_exchangeLines_71 rfl rfl ?_
    refine mGo.iload_n (n := 74) (x := v2) dX7_exchangeLines_73 rfl rfl ?_
    refine mGo.ishl (n := 75) dX7_exchangeLines_74 rfl ?_
    refine mGo.iload (n := 77) (x := (((x5 >>> (v2 &&& 31)) ^^^ (x7 >>> (v3 &&& 31))) &&& (1 : Int32))) dX7_exchangeLines_75 rfl rfl ?_
    refine mGo.iload_n (n := 78) (x := v3) dX7_exchangeLines_77 rfl rfl ?_
    refine mGo.ishl (n := 79) dX7_exchangeLines_78 rfl ?_
    refine mGo.ior (n := 80) dX7_exchangeLines_79 rfl ?_
    refine mGo.ixor (n := 81) dX7_exchangeLines_80 rfl ?_
    obtain ⟨h10, e_h10, e⟩ := mBind e
    refine mGo.iast (n := 82) dX7_exchangeLines_81 e_h10 rfl ?_
    refine mGo.iinc (n := 85) (x := v4) (v := (v4 + 1)) (ls' := [some (va_rf v0), none, some (.int v2), some (.int v3), some (.int (v4 + 1)), some (.int (((x5 >>> (v2 &&& 31)) ^^^ (x7 >>> (v3 &&& 31))) &&& (1 : Int32)))]) dX7_exchangeLines_82 rfl rfl rfl (Nat.le_of_ble_eq_true rfl) rfl ?_
    refine mGo.goto (tgt := 31) dX7_exchangeLines_85 (by decide) ?_
    cases e
    refine mGo.mk [true, false, true, true, true, false] ?_
    exact q
noncomputable def f_X7_exchangeLines_l31 (v0 : Option Nat) (v2 : Int32) (v3 : Int32) (v4 : Int32) (h : mH) : Option (mH) :=
  mLoop (fun x : Int32 × mH => f_X7_exchangeLines_b31 v0 v2 v3 x.1 x.2) (v4, h)
set_option maxRecDepth 100000 in
set_option maxHeartbeats 4000000 in
theorem g_X7_exchangeLines_l31 {w : mWp} {Q : Option Value → mH → Prop} (v0 : Option Nat) (v2 : Int32) (v3 : Int32) (v4 : Int32) (h : mH) {res : mH} (e : f_X7_exchangeLines_l31 v0 v2 v3 v4 h = some res) (q : (fun r : mH => Q none r) res) : mGo w kX7_exchangeLines 0 0 31 [some (va_rf v0), none, some (.int v2), some (.int v3), some (.int v4), none] [] h Q := by
  unfold f_X7_exchangeLines_l31 at e
  refine mLoop_go (x := (v4, h)) (fun x : Int32 × mH => mGo w kX7_exchangeLines 0 0 31 [some (va_rf v0), none, some (.int v2), some (.int v3), some (.int x.1), none] [] x.2 Q) (fun r : mH => Q none r) ?_ e q
  rintro ⟨v4, h1⟩ res e q
  exact g_X7_exchangeLines_b31 v0 v2 v3 v4 h1 e q
noncomputable def f_X7_exchangeLines (v0 : Option Nat) (v1 : Int32) (v2 : Int32) (v3 : Int32) (h : mH) : Option (mH) :=
  (mIs h v0 6).bind fun _ =>
  (mPF h v0 6 5 (.int (0 : Int32))).bind fun h1 =>
  if v1 = 0 then
    f_X7_exchangeLines_l31 v0 v2 v3 (0 : Int32) h1
  else
    (mGR h1 v0 6 1).bind fun x2 =>
    (f_X7_exchangeNumbers x2 v2 v3 h1).bind fun x3 =>
    (mGR x3 v0 6 2).bind fun x4 =>
    (f_X7_exchangeNumbers x4 v2 v3 x3).bind fun x5 =>
    some x5
set_option maxRecDepth 100000 in
set_option maxHeartbeats 4000000 in
theorem g_X7_exchangeLines {w : mWp} {Q : Option Value → mH → Prop} (v0 : Option Nat) (v1 : Int32) (v2 : Int32) (v3 : Int32) (h : mH) {res : mH} (e : f_X7_exchangeLines v0 v1 v2 v3 h = some res) (q : (fun r : mH => Q none r) res) : mGo w kX7_exchangeLines 0 0 0 [some (va_rf v0), some (.int v1), some (.int v2), some (.int v3), none, none] [] h Q := by
  unfold f_X7_exchangeLines at e
  obtain ⟨_, _, e⟩ := mBind e
  refine mGo.aload_n (n := 1) (r := v0) dX7_exchangeLines_0 rfl rfl ?_
  refine mGo.iconst (n := 2) (v := (0 : Int32)) dX7_exchangeLines_1 (by decide) rfl ?_
  obtain ⟨h1, e_h1, e⟩ := mBind e
  refine mGo.putZ (n := 5) dX7_exchangeLines_2 sf_RX7_38 rfl rfl (by decide) e_h1 rfl ?_
  refine mGo.iload_n (n := 6) (x := v1) dX7_exchangeLines_5 rfl rfl ?_
  refine mGo.if_eq (tgt := 28) (n := 9) dX7_exchangeLines_6 (by decide) rfl (fun hc => ?_) (fun hc => ?_)
  · replace e := mIft hc e
    refine mGo.iconst (n := 29) (v := (0 : Int32)) dX7_exchangeLines_28 (by decide) rfl ?_
    refine mGo.istore (n := 31) (ls' := [some (va_rf v0), some (.int v1), some (.int v2), some (.int v3), some (.int (0 : Int32)), none]) dX7_exchangeLines_29 rfl (Nat.le_of_ble_eq_true rfl) rfl ?_
    refine mGo.mk [true, false, true, true, true, false] ?_
    exact g_X7_exchangeLines_l31 v0 v2 v3 (0 : Int32) h1 e q
  · replace e := mIff hc e
    refine mGo.aload_n (n := 10) (r := v0) dX7_exchangeLines_9 rfl rfl ?_
    obtain ⟨x2, e_x2, e⟩ := mBind e
    refine mGo.getR (n := 13) dX7_exchangeLines_10 sf_RX7_9 e_x2 rfl ?_
    refine mGo.iload_n (n := 14) (x := v2) dX7_exchangeLines_13 rfl rfl ?_
    refine mGo.iload_n (n := 15) (x := v3) dX7_exchangeLines_14 rfl rfl ?_
    obtain ⟨x3, e_x3, e⟩ := mBind e
    refine mGo.callS (n := 18) (y := zX7_exchangeNumbers) (R' := (mRoom (1) 0 0)) (as := [va_rf x2, .int v2, .int v3]) (st := []) dX7_exchangeLines_15 sc_RX7_57 rfl (e_X7_exchangeNumbers x2 v2 v3 h1 e_x3) (mFit_of rfl (Nat.le_of_ble_eq_true rfl) (by decide) (Nat.le_of_ble_eq_true rfl) (Nat.le_of_ble_eq_true rfl)) (Nat.le_of_ble_eq_true rfl) rfl rfl ?_
    intro _ _ hq
    rw [hq.1, hq.2]
    show mGo w kX7_exchangeLines 0 0 18 [some (va_rf v0), some (.int v1), some (.int v2), some (.int v3), none, none] [] x3 Q
    refine mGo.aload_n (n := 19) (r := v0) dX7_exchangeLines_18 rfl rfl ?_
    obtain ⟨x4, e_x4, e⟩ := mBind e
    refine mGo.getR (n := 22) dX7_exchangeLines_19 sf_RX7_15 e_x4 rfl ?_
    refine mGo.iload_n (n := 23) (x := v2) dX7_exchangeLines_22 rfl rfl ?_
    refine mGo.iload_n (n := 24) (x := v3) dX7_exchangeLines_23 rfl rfl ?_
    obtain ⟨x5, e_x5, e⟩ := mBind e
    refine mGo.callS (n := 27) (y := zX7_exchangeNumbers) (R' := (mRoom (1) 0 0)) (as := [va_rf x4, .int v2, .int v3]) (st := []) dX7_exchangeLines_24 sc_RX7_57 rfl (e_X7_exchangeNumbers x4 v2 v3 x3 e_x5) (mFit_of rfl (Nat.le_of_ble_eq_true rfl) (by decide) (Nat.le_of_ble_eq_true rfl) (Nat.le_of_ble_eq_true rfl)) (Nat.le_of_ble_eq_true rfl) rfl rfl ?_
    intro _ _ hq
    rw [hq.1, hq.2]
    show mGo w kX7_exchangeLines 0 0 27 [some (va_rf v0), some (.int v1), some (.int v2), some (.int v3), none, none] [] x5 Q
    cases e
    exact mGo.vret dX7_exchangeLines_27 rfl (Nat.le_of_ble_eq_true rfl) (Nat.le_of_ble_eq_true rfl) q
theorem e_X7_exchangeLines {w : mWp} (v0 : Option Nat) (v1 : Int32) (v2 : Int32) (v3 : Int32) (h : mH) {res : mH} (e : f_X7_exchangeLines v0 v1 v2 v3 h = some res) : mEx w zX7_exchangeLines (mRoom 2 0 0) [va_rf v0, .int v1, .int v2, .int v3] h (fun r h2 => r = none ∧ h2 = res) := by
  refine mEx.of (by decide +kernel) (show mEnt [va_rf v0, .int v1, .int v2, .int v3] 6 = [some (va_rf v0), some (.int v1), some (.int v2), some (.int v3), none, none] by rw [mEnt_r, mEnt_i, mEnt_i, mEnt_i] <;> rfl) (by simp only [List.map_cons, List.map_nil, mRfc, mCi, mCj, List.sum_cons, List.sum_nil]; exact Nat.le_of_ble_eq_true rfl) ?_
  refine g_X7_exchangeLines v0 v1 v2 v3 h e ?_
  exact ⟨rfl, rfl⟩
theorem s_X7_exchangeLines (v0 : Option Nat) (v1 : Int32) (v2 : Int32) (v3 : Int32) (h : mH) {res : mH} (e : f_X7_exchangeLines v0 v1 v2 v3 h = some res) : mIs h v0 6 = some () := by
  unfold f_X7_exchangeLines at e
  obtain ⟨u, e1, _⟩ := mBind e
  cases u
  exact e1
-- X7_transpose
def kX7_transpose : mK := (cX7_transpose, RX7, 4, none, "transpose", mRoom 1 0 0)
def zX7_transpose : mY := (yX7_transpose, cX7_transpose, 4, none)
def f_X7_transpose_c104 (v0 : Option Nat) (s0 : Option Nat) (s1 : Int32) (h : mH) : Option (mH) :=
  if ¬ (s1 = 0 ∨ s1 = 1) then none else
  (mPF h s0 6 4 (.int s1)).bind fun h1 =>
  (mPF h1 v0 6 5 (.int (0 : Int32))).bind fun h3 =>
  some h3
set_option maxRecDepth 100000 in
set_option maxHeartbeats 4000000 in
theorem g_X7_transpose_c104 {w : mWp} {Q : Option Value → mH → Prop} (v0 : Option Nat) (s0 : Option Nat) (s1 : Int32) (h : mH) {res : mH} (e : f_X7_transpose_c104 v0 s0 s1 h = some res) (q : (fun r : mH => Q none r) res) : mGo w kX7_transpose 0 0 104 [some (va_rf v0), none, none, none] [.int s1, va_rf s0] h Q := by
  unfold f_X7_transpose_c104 at e
  obtain ⟨z2, e⟩ := mIfN e
  obtain ⟨h1, e_h1, e⟩ := mBind e
  refine mGo.putZ (n := 107) dX7_transpose_104 sf_RX7_34 rfl rfl (Classical.not_not.mp z2) e_h1 rfl ?_
  refine mGo.aload_n (n := 108) (r := v0) dX7_transpose_107 rfl rfl ?_
  refine mGo.iconst (n := 109) (v := (0 : Int32)) dX7_transpose_108 (by decide) rfl ?_
  obtain ⟨h3, e_h3, e⟩ := mBind e
  refine mGo.putZ (n := 112) dX7_transpose_109 sf_RX7_38 rfl rfl (by decide) e_h3 rfl ?_
  cases e
  exact mGo.vret dX7_transpose_112 rfl (Nat.le_of_ble_eq_true rfl) (Nat.le_of_ble_eq_true rfl) q
def f_X7_transpose_b12 (v0 : Option Nat) (v1 : Int32) (v2 : Int32) (h : mH) : Option ((Int32 × mH) ⊕ ((Int32 × mH) ⊕ (mH))) :=
  if v1 ≤ v2 then
    some (Sum.inr (Sum.inl ((v1 + 1), h)))
  else
    (mGR h v0 6 1).bind fun x1 =>
    (mAI h x1 v1).bind fun x2 =>
    (mGR h v0 6 1).bind fun x3 =>
    (mAI h x3 v2).bind fun x4 =>
    (mGR h v0 6 1).bind fun x5 =>
    (mAI h x5 v1).bind fun x6 =>
    (mSI h x5 v1 (x6 ^^^ ((((x2 >>> (v2 &&& 31)) ^^^ (x4 >>> (v1 &&& 31))) &&& (1 : Int32)) <<< (v2 &&& 31)))).bind fun h7 =>
    (mGR h7 v0 6 1).bind fun x8 =>
    (mAI h7 x8 v2).bind fun x9 =>
    (mSI h7 x8 v2 (x9 ^^^ ((((x2 >>> (v2 &&& 31)) ^^^ (x4 >>> (v1 &&& 31))) &&& (1 : Int32)) <<< (v1 &&& 31)))).bind fun h10 =>
    some (Sum.inl ((v2 + 1), h10))
set_option maxRecDepth 100000 in
set_option maxHeartbeats 4000000 in
theorem g_X7_transpose_b12 {w : mWp} {Q : Option Value → mH → Prop} (v0 : Option Nat) (v1 : Int32) (v2 : Int32) (h : mH) {res : (Int32 × mH) ⊕ ((Int32 × mH) ⊕ (mH))} (e : f_X7_transpose_b12 v0 v1 v2 h = some res) (q : (Sum.elim (fun x : Int32 × mH => mGo w kX7_transpose 0 0 12 [some (va_rf v0), some (.int v1), some (.int x.1), none] [] x.2 Q) (Sum.elim (fun x : Int32 × mH => mGo w kX7_transpose 0 0 2 [some (va_rf v0), some (.int x.1), none, none] [] x.2 Q) (fun r : mH => Q none r))) res) : mGo w kX7_transpose 0 0 12 [some (va_rf v0), some (.int v1), some (.int v2), none] [] h Q := by
  unfold f_X7_transpose_b12 at e
  refine mGo.iload_n (n := 13) (x := v2) dX7_transpose_12 rfl rfl ?_
  refine mGo.iload_n (n := 14) (x := v1) dX7_transpose_13 rfl rfl ?_
  refine mGo.icmp_ge (tgt := 67) (n := 17) dX7_transpose_14 (by decide) rfl (fun hc => ?_) (fun hc => ?_)
  · replace e := mIft hc e
    refine mGo.iinc (n := 70) (x := v1) (v := (v1 + 1)) (ls' := [some (va_rf v0), some (.int (v1 + 1)), some (.int v2), none]) dX7_transpose_67 rfl rfl ((mSt_set (fun u _ hu => by cases hu; exact mRfc _)).trans rfl) (Nat.le_of_ble_eq_true rfl) rfl ?_
    refine mGo.goto (tgt := 2) dX7_transpose_70 (by decide) ?_
    cases e
    refine mGo.mk [true, true, false, false] ?_
    exact q
  · replace e := mIff hc e
    refine mGo.aload_n (n := 18) (r := v0) dX7_transpose_17 rfl rfl ?_
    obtain ⟨x1, e_x1, e⟩ := mBind e
    refine mGo.getR (n := 21) dX7_transpose_18 sf_RX7_9 e_x1 rfl ?_
    refine mGo.iload_n (n := 22) (x := v1) dX7_transpose_21 rfl rfl ?_
    obtain ⟨x2, e_x2, e⟩ := mBind e
    refine mGo.iald (n := 23) dX7_transpose_22 e_x2 rfl ?_
    refine mGo.iload_n (n := 24) (x := v2) dX7_transpose_23 rfl rfl ?_
    refine mGo.ishr (n := 25) dX7_transpose_24 rfl ?_
    refine mGo.aload_n (n := 26) (r := v0) dX7_transpose_25 rfl rfl ?_
    obtain ⟨x3, e_x3, e⟩ := mBind e
    refine mGo.getR (n := 29) dX7_transpose_26 sf_RX7_9 e_x3 rfl ?_
    refine mGo.iload_n (n := 30) (x := v2) dX7_transpose_29 rfl rfl ?_
    obtain ⟨x4, e_x4, e⟩ := mBind e
    refine mGo.iald (n := 31) dX7_transpose_30 e_x4 rfl ?_
    refine mGo.iload_n (n := 32) (x := v1) dX7_transpose_31 rfl rfl ?_
    refine mGo.ishr (n := 33) dX7_transpose_32 rfl ?_
    refine mGo.ixor (n := 34) dX7_transpose_33 rfl ?_
    refine mGo.iconst (n := 35) (v := (1 : Int32)) dX7_transpose_34 (by decide) rfl ?_
    refine mGo.iand (n := 36) dX7_transpose_35 rfl ?_
    refine mGo.istore_n (n := 37) (ls' := [some (va_rf v0), some (.int v1), some (.int v2), some (.int (((x2 >>> (v2 &&& 31)) ^^^ (x4 >>> (v1 &&& 31))) &&& (1 : Int32)))]) dX7_transpose_36 rfl (Nat.le_of_ble_eq_true rfl) rfl ?_
    refine mGo.aload_n (n := 38) (r := v0) dX7_transpose_37 rfl rfl ?_
    obtain ⟨x5, e_x5, e⟩ := mBind e
    refine mGo.getR (n := 41) dX7_transpose_38 sf_RX7_9 e_x5 rfl ?_
    refine mGo.iload_n (n := 42) (x := v1) dX7_transpose_41 rfl rfl ?_
    refine mGo.dup2 (n := 43) dX7_transpose_42 rfl (mRfc _) rfl ?_
    obtain ⟨x6, e_x6, e⟩ := mBind e
    refine mGo.iald (n := 44) dX7_transpose_43 e_x6 rfl ?_
    refine mGo.iload_n (n := 45) (x := (((x2 >>> (v2 &&& 31)) ^^^ (x4 >>> (v1 &&& 31))) &&& (1 : Int32))) dX7_transpose_44 rfl rfl ?_
    refine mGo.iload_n (n := 46) (x := v2) dX7_transpose_45 rfl rfl ?_
    refine mGo.ishl (n := 47) dX7_transpose_46 rfl ?_
    refine mGo.ixor (n := 48) dX7_transpose_47 rfl ?_
    obtain ⟨h7, e_h7, e⟩ := mBind e
    refine mGo.iast (n := 49) dX7_transpose_48 e_h7 rfl ?_
    refine mGo.aload_n (n := 50) (r := v0) dX7_transpose_49 rfl rfl ?_
    obtain ⟨x8, e_x8, e⟩ := mBind e
    refine mGo.getR (n := 53) dX7_transpose_50 sf_RX7_9 e_x8 rfl ?_
    refine mGo.iload_n (n := 54) (x := v2) dX7_transpose_53 rfl rfl ?_
    refine mGo.dup2 (n := 55) dX7_transpose_54 rfl (mRfc _) rfl ?_
    obtain ⟨x9, e_x9, e⟩ := mBind e
    refine mGo.iald (n := 56) dX7_transpose_55 e_x9 rfl ?_
    refine mGo.iload_n (n := 57) (x := (((x2 >>> (v2 &&& 31)) ^^^ (x4 >>> (v1 &&& 31))) &&& (1 : Int32))) dX7_transpose_56 rfl rfl ?_
    refine mGo.iload_n (n := 58) (x := v1) dX7_transpose_57 rfl rfl ?_
    refine mGo.ishl (n := 59) dX7_transpose_58 rfl ?_
    refine mGo.ixor (n := 60) dX7_transpose_59 rfl ?_
    obtain ⟨h10, e_h10, e⟩ := mBind e
    refine mGo.iast (n := 61) dX7_transpose_60 e_h10 rfl ?_
    refine mGo.iinc (n := 64) (x := v2) (v := (v2 + 1)) (ls' := [some (va_rf v0), some (.int v1), some (.int (v2 + 1)), some (.int (((x2 >>> (v2 &&& 31)) ^^^ (x4 >>> (v1 &&& 31))) &&& (1 : Int32)))]) dX7_transpose_61 rfl rfl rfl (Nat.le_of_ble_eq_true rfl) rfl ?_
    refine mGo.goto (tgt := 12) dX7_transpose_64 (by decide) ?_
    cases e
    refine mGo.mk [true, true, true, false] ?_
    exact q
noncomputable def f_X7_transpose_l12 (v0 : Option Nat) (v1 : Int32) (v2 : Int32) (h : mH) : Option ((Int32 × mH) ⊕ (mH)) :=
  mLoop (fun x : Int32 × mH => f_X7_transpose_b12 v0 v1 x.1 x.2) (v2, h)
set_option maxRecDepth 100000 in
set_option maxHeartbeats 4000000 in
theorem g_X7_transpose_l12 {w : mWp} {Q : Option Value → mH → Prop} (v0 : Option Nat) (v1 : Int32) (v2 : Int32) (h : mH) {res : (Int32 × mH) ⊕ (mH)} (e : f_X7_transpose_l12 v0 v1 v2 h = some res) (q : (Sum.elim (fun x : Int32 × mH => mGo w kX7_transpose 0 0 2 [some (va_rf v0), some (.int x.1), none, none] [] x.2 Q) (fun r : mH => Q none r)) res) : mGo w kX7_transpose 0 0 12 [some (va_rf v0), some (.int v1), some (.int v2), none] [] h Q := by
  unfold f_X7_transpose_l12 at e
  refine mLoop_go (x := (v2, h)) (fun x : Int32 × mH => mGo w kX7_transpose 0 0 12 [some (va_rf v0), some (.int v1), some (.int x.1), none] [] x.2 Q) (Sum.elim (fun x : Int32 × mH => mGo w kX7_transpose 0 0 2 [some (va_rf v0), some (.int x.1), none, none] [] x.2 Q) (fun r : mH => Q none r)) ?_ e q
  rintro ⟨v2, h1⟩ res e q
  exact g_X7_transpose_b12 v0 v1 v2 h1 e q
noncomputable def f_X7_transpose_b2 (v0 : Option Nat) (v1 : Int32) (h : mH) : Option ((Int32 × mH) ⊕ (mH)) :=
  (mGI h v0 6 0).bind fun x1 =>
  if x1 ≤ v1 then
    (mGR h v0 6 2).bind fun x2 =>
    (mGR h v0 6 3).bind fun x3 =>
    (mPF h v0 6 2 (va_rf x3)).bind fun h4 =>
    (mPF h4 v0 6 3 (va_rf x2)).bind fun h5 =>
    (mGI h5 v0 6 4).bind fun x6 =>
    if x6 = 0 then
      (f_X7_transpose_c104 v0 v0 (1 : Int32) h5).map (fun r => (Sum.inr r))
    else
      (f_X7_transpose_c104 v0 v0 (0 : Int32) h5).map (fun r => (Sum.inr r))
  else
    f_X7_transpose_l12 v0 v1 (0 : Int32) h
set_option maxRecDepth 100000 in
set_option maxHeartbeats 4000000 in
theorem g_X7_transpose_b2 {w : mWp} {Q : Option Value → mH → Prop} (v0 : Option Nat) (v1 : Int32) (h : mH) {res : (Int32 × mH) ⊕ (mH)} (e : f_X7_transpose_b2 v0 v1 h = some res) (q : (Sum.elim (fun x : Int32 × mH => mGo w kX7_transpose 0 0 2 [some (va_rf v0), some (.int x.1), none, none] [] x.2 Q) (fun r : mH => Q none r)) res) : mGo w kX7_transpose 0 0 2 [some (va_rf v0), some (.int v1), none, none] [] h Q := by
  unfold f_X7_transpose_b2 at e
  refine mGo.iload_n (n := 3) (x := v1) dX7_transpose_2 rfl rfl ?_
  refine mGo.aload_n (n := 4) (r := v0) dX7_transpose_3 rfl rfl ?_
  obtain ⟨x1, e_x1, e⟩ := mBind e
  refine mGo.getI (n := 7) dX7_transpose_4 sf_RX7_21 e_x1 rfl ?_
  refine mGo.icmp_ge (tgt := 73) (n := 10) dX7_transpose_7 (by decide) rfl (fun hc => ?_) (fun hc => ?_)
  · replace e := mIft hc e
    refine mGo.aload_n (n := 74) (r := v0) dX7_transpose_73 rfl rfl ?_
    obtain ⟨x2, e_x2, e⟩ := mBind e
    refine mGo.getR (n := 77) dX7_transpose_74 sf_RX7_15 e_x2 rfl ?_
    refine mGo.astore_n (n := 78) (ls' := [some (va_rf v0), some (va_rf x2), none, none]) dX7_transpose_77 ((mSt_set (fun u _ hu => by cases hu; exact mRfc _)).trans rfl) (Nat.le_of_ble_eq_true rfl) rfl ?_
    refine mGo.aload_n (n := 79) (r := v0) dX7_transpose_78 rfl rfl ?_
    refine mGo.aload_n (n := 80) (r := v0) dX7_transpose_79 rfl rfl ?_
    obtain ⟨x3, e_x3, e⟩ := mBind e
    refine mGo.getR (n := 83) dX7_transpose_80 sf_RX7_18 e_x3 rfl ?_
    obtain ⟨h4, e_h4, e⟩ := mBind e
    refine mGo.putR (n := 86) dX7_transpose_83 sf_RX7_15 (Or.inl rfl) rfl e_h4 rfl ?_
    refine mGo.aload_n (n := 87) (r := v0) dX7_transpose_86 rfl rfl ?_
    refine mGo.aload_n (n := 88) (r := x2) dX7_transpose_87 rfl rfl ?_
    obtain ⟨h5, e_h5, e⟩ := mBind e
    refine mGo.putR (n := 91) dX7_transpose_88 sf_RX7_18 (Or.inl rfl) rfl e_h5 rfl ?_
    refine mGo.aload_n (n := 92) (r := v0) dX7_transpose_91 rfl rfl ?_
    refine mGo.aload_n (n := 93) (r := v0) dX7_transpose_92 rfl rfl ?_
    obtain ⟨x6, e_x6, e⟩ := mBind e
    refine mGo.getI (n := 96) dX7_transpose_93 sf_RX7_34 e_x6 rfl ?_
    refine mGo.if_ne (tgt := 103) (n := 99) dX7_transpose_96 (by decide) rfl (fun hc => ?_) (fun hc => ?_)
    · replace e := mIff hc e
      refine mGo.iconst (n := 104) (v := (0 : Int32)) dX7_transpose_103 (by decide) rfl ?_
      obtain ⟨r7, e2, rfl⟩ := mMap e
      refine mGo.mk [true, false, false, false] ?_
      exact g_X7_transpose_c104 v0 v0 (0 : Int32) h5 e2 q
    · replace e := mIft hc e
      refine mGo.iconst (n := 100) (v := (1 : Int32)) dX7_transpose_99 (by decide) rfl ?_
      refine mGo.goto (tgt := 104) dX7_transpose_100 (by decide) ?_
      obtain ⟨r8, e2, rfl⟩ := mMap e
      refine mGo.mk [true, false, false, false] ?_
      exact g_X7_transpose_c104 v0 v0 (1 : Int32) h5 e2 q
  · replace e := mIff hc e
    refine mGo.iconst (n := 11) (v := (0 : Int32)) dX7_transpose_10 (by decide) rfl ?_
    refine mGo.istore_n (n := 12) (ls' := [some (va_rf v0), some (.int v1), some (.int (0 : Int32)), none]) dX7_transpose_11 rfl (Nat.le_of_ble_eq_true rfl) rfl ?_
    refine mGo.mk [true, true, true, false] ?_
    exact g_X7_transpose_l12 v0 v1 (0 : Int32) h e q
noncomputable def f_X7_transpose_l2 (v0 : Option Nat) (v1 : Int32) (h : mH) : Option (mH) :=
  mLoop (fun x : Int32 × mH => f_X7_transpose_b2 v0 x.1 x.2) (v1, h)
set_option maxRecDepth 100000 in
set_option maxHeartbeats 4000000 in
theorem g_X7_transpose_l2 {w : mWp} {Q : Option Value → mH → Prop} (v0 : Option Nat) (v1 : Int32) (h : mH) {res : mH} (e : f_X7_transpose_l2 v0 v1 h = some res) (q : (fun r : mH => Q none r) res) : mGo w kX7_transpose 0 0 2 [some (va_rf v0), some (.int v1), none, none] [] h Q := by
  unfold f_X7_transpose_l2 at e
  refine mLoop_go (x := (v1, h)) (fun x : Int32 × mH => mGo w kX7_transpose 0 0 2 [some (va_rf v0), some (.int x.1), none, none] [] x.2 Q) (fun r : mH => Q none r) ?_ e q
  rintro ⟨v1, h1⟩ res e q
  exact g_X7_transpose_b2 v0 v1 h1 e q
noncomputable def f_X7_transpose (v0 : Option Nat) (h : mH) : Option (mH) :=
  (mIs h v0 6).bind fun _ =>
  f_X7_transpose_l2 v0 (0 : Int32) h
set_option maxRecDepth 100000 in
set_option maxHeartbeats 4000000 in
theorem g_X7_transpose {w : mWp} {Q : Option Value → mH → Prop} (v0 : Option Nat) (h : mH) {res : mH} (e : f_X7_transpose v0 h = some res) (q : (fun r : mH => Q none r) res) : mGo w kX7_transpose 0 0 0 [some (va_rf v0), none, none, none] [] h Q := by
  unfold f_X7_transpose at e
  obtain ⟨_, _, e⟩ := mBind e
  refine mGo.iconst (n := 1) (v := (0 : Int32)) dX7_transpose_0 (by decide) rfl ?_
  refine mGo.istore_n (n := 2) (ls' := [some (va_rf v0), some (.int (0 : Int32)), none, none]) dX7_transpose_1 ((mSt_set (fun u _ hu => by cases hu; exact mRfc _)).trans rfl) (Nat.le_of_ble_eq_true rfl) rfl ?_
  refine mGo.mk [true, true, false, false] ?_
  exact g_X7_transpose_l2 v0 (0 : Int32) h e q
theorem e_X7_transpose {w : mWp} (v0 : Option Nat) (h : mH) {res : mH} (e : f_X7_transpose v0 h = some res) : mEx w zX7_transpose (mRoom 1 0 0) [va_rf v0] h (fun r h2 => r = none ∧ h2 = res) := by
  refine mEx.of (by decide +kernel) (show mEnt [va_rf v0] 4 = [some (va_rf v0), none, none, none] by rw [mEnt_r] <;> rfl) (by simp only [List.map_cons, List.map_nil, mRfc, mCi, mCj, List.sum_cons, List.sum_nil]; exact Nat.le_of_ble_eq_true rfl) ?_
  refine g_X7_transpose v0 h e ?_
  exact ⟨rfl, rfl⟩
theorem s_X7_transpose (v0 : Option Nat) (h : mH) {res : mH} (e : f_X7_transpose v0 h = some res) : mIs h v0 6 = some () := by
  unfold f_X7_transpose at e
  obtain ⟨u, e1, _⟩ := mBind e
  cases u
  exact e1
-- J9_abs_0f7a4
def kJ9_abs_0f7a4 : mK := (cJ9_abs_0f7a4, RJ9, 1, some (.int), "abs", mRoom 1 0 0)
def zJ9_abs_0f7a4 : mY := (yJ9_abs_0f7a4, cJ9_abs_0f7a4, 1, some (.int))
def f_J9_abs_0f7a4 (v0 : Int32)  : Option (Int32) :=
  if 0 ≤ v0 then
    some v0
  else
    some (-v0)
set_option maxRecDepth 100000 in
set_option maxHeartbeats 4000000 in
theorem g_J9_abs_0f7a4 {w : mWp} {Q : Option Value → mH → Prop} (v0 : Int32) (h : mH) {res : Int32} (e : f_J9_abs_0f7a4 v0 = some res) (q : (fun r : Int32 => Q (some (.int r)) h) res) : mGo w kJ9_abs_0f7a4 0 0 0 [some (.int v0)] [] h Q := by
  unfold f_J9_abs_0f7a4 at e
  refine mGo.iload_n (n := 1) (x := v0) dJ9_abs_0f7a4_0 rfl rfl ?_
  refine mGo.if_ge (tgt := 9) (n := 4) dJ9_abs_0f7a4_1 (by decide) rfl (fun hc => ?_) (fun hc => ?_)
  · replace e := mIft hc e
    refine mGo.iload_n (n := 10) (x := v0) dJ9_abs_0f7a4_9 rfl rfl ?_
    cases e
    exact mGo.iret dJ9_abs_0f7a4_10 rfl (Nat.le_of_ble_eq_true rfl) (Nat.le_of_ble_eq_true rfl) q
  · replace e := mIff hc e
    refine mGo.iload_n (n := 5) (x := v0) dJ9_abs_0f7a4_4 rfl rfl ?_
    refine mGo.ineg (n := 6) dJ9_abs_0f7a4_5 rfl ?_
    refine mGo.goto (tgt := 10) dJ9_abs_0f7a4_6 (by decide) ?_
    cases e
    exact mGo.iret dJ9_abs_0f7a4_10 rfl (Nat.le_of_ble_eq_true rfl) (Nat.le_of_ble_eq_true rfl) q
theorem e_J9_abs_0f7a4 {w : mWp} (v0 : Int32) (h : mH) {res : Int32} (e : f_J9_abs_0f7a4 v0 = some res) : mEx w zJ9_abs_0f7a4 (mRoom 1 0 0) [.int v0] h (fun r h2 => r = some (.int res) ∧ h2 = h) := by
  refine mEx.of (by decide +kernel) rfl (Nat.le_of_ble_eq_true rfl) ?_
  refine g_J9_abs_0f7a4 v0 h e ?_
  exact ⟨rfl, rfl⟩
-- X8_alikeAt
def kX8_alikeAt : mK := (cX8_alikeAt, RX8, 2, some (.int), "alikeAt", mRoom 2 0 0)
def zX8_alikeAt : mY := (yX8_alikeAt, cX8_alikeAt, 2, some (.int))
def f_X8_alikeAt (v0 : Int32) (v1 : Int32)  : Option (Int32) :=
  (f_X8_inSet v0 v1).bind fun x1 =>
  if x1 = 0 then
    some (v0 ^^^ (-1 : Int32))
  else
    some v0
set_option maxRecDepth 100000 in
set_option maxHeartbeats 4000000 in
theorem g_X8_alikeAt {w : mWp} {Q : Option Value → mH → Prop} (v0 : Int32) (v1 : Int32) (h : mH) {res : Int32} (e : f_X8_alikeAt v0 v1 = some res) (q : (fun r : Int32 => Q (some (.int r)) h) res) : mGo w kX8_alikeAt 0 0 0 [some (.int v0), some (.int v1)] [] h Q := by
  unfold f_X8_alikeAt at e
  refine mGo.iload_n (n := 1) (x := v0) dX8_alikeAt_0 rfl rfl ?_
  refine mGo.iload_n (n := 2) (x := v1) dX8_alikeAt_1 rfl rfl ?_
  obtain ⟨x1, e_x1, e⟩ := mBind e
  refine mGo.callS (n := 5) (y := zX8_inSet) (R' := (mRoom (1) 0 0)) (as := [.int v0, .int v1]) (st := []) dX8_alikeAt_2 sc_RX8_106 rfl (e_X8_inSet v0 v1 h e_x1) (mFit_of rfl (Nat.le_of_ble_eq_true rfl) (by decide) (Nat.le_of_ble_eq_true rfl) (Nat.le_of_ble_eq_true rfl)) (Nat.le_of_ble_eq_true rfl) rfl rfl ?_
  intro _ _ hq
  rw [hq.1, hq.2]
  show mGo w kX8_alikeAt 0 0 5 [some (.int v0), some (.int v1)] [.int x1] h Q
  refine mGo.if_eq (tgt := 12) (n := 8) dX8_alikeAt_5 (by decide) rfl (fun hc => ?_) (fun hc => ?_)
  · replace e := mIft hc e
    refine mGo.iload_n (n := 13) (x := v0) dX8_alikeAt_12 rfl rfl ?_
    refine mGo.iconst (n := 14) (v := (-1 : Int32)) dX8_alikeAt_13 (by decide) rfl ?_
    refine mGo.ixor (n := 15) dX8_alikeAt_14 rfl ?_
    cases e
    exact mGo.iret dX8_alikeAt_15 rfl (Nat.le_of_ble_eq_true rfl) (Nat.le_of_ble_eq_true rfl) q
  · replace e := mIff hc e
    refine mGo.iload_n (n := 9) (x := v0) dX8_alikeAt_8 rfl rfl ?_
    refine mGo.goto (tgt := 15) dX8_alikeAt_9 (by decide) ?_
    cases e
    exact mGo.iret dX8_alikeAt_15 rfl (Nat.le_of_ble_eq_true rfl) (Nat.le_of_ble_eq_true rfl) q
theorem e_X8_alikeAt {w : mWp} (v0 : Int32) (v1 : Int32) (h : mH) {res : Int32} (e : f_X8_alikeAt v0 v1 = some res) : mEx w zX8_alikeAt (mRoom 2 0 0) [.int v0, .int v1] h (fun r h2 => r = some (.int res) ∧ h2 = h) := by
  refine mEx.of (by decide +kernel) rfl (Nat.le_of_ble_eq_true rfl) ?_
  refine g_X8_alikeAt v0 v1 h e ?_
  exact ⟨rfl, rfl⟩
-- X7_switchRows
def kX7_switchRows : mK := (cX7_switchRows, RX7, 8, some (.boolean), "switchRows", mRoom 3 0 0)
def zX7_switchRows : mY := (yX7_switchRows, cX7_switchRows, 8, some (.boolean))
set_option maxRecDepth 100000 in
theorem sc_RX7_61 : mSS RX7 61 zX8_signSum 2 := ⟨Or.inr ⟨_, mNest_at 410 (x := Cond.methodLinkNest RX7 61 yX8_signSum "SignTables") (by decide +kernel) rfl⟩, mT_at 433 (by decide +kernel) rfl, mT_at 83 (by decide +kernel) rfl, mT_at 434 (by decide +kernel) rfl, ⟨by decide +kernel, by decide +kernel, by decide +kernel⟩⟩
set_option maxRecDepth 100000 in
theorem sc_RX7_65 : mSS RX7 65 zJ9_abs_0f7a4 1 := ⟨Or.inl (mT_at 493 (by decide +kernel) rfl), mT_at 494 (by decide +kernel) rfl, mT_at 94 (by decide +kernel) rfl, mT_at 495 (by decide +kernel) rfl, ⟨by decide +kernel, by decide +kernel, by decide +kernel⟩⟩
set_option maxRecDepth 100000 in
theorem sc_RX7_71 : mSS RX7 71 zX8_alikeAt 2 := ⟨Or.inr ⟨_, mNest_at 414 (x := Cond.methodLinkNest RX7 71 yX8_alikeAt "SignTables") (by decide +kernel) rfl⟩, mT_at 497 (by decide +kernel) rfl, mT_at 83 (by decide +kernel) rfl, mT_at 498 (by decide +kernel) rfl, ⟨by decide +kernel, by decide +kernel, by decide +kernel⟩⟩
noncomputable def f_X7_switchRows (v0 : Option Nat) (v1 : Int32) (v2 : Int32) (v3 : Int32) (v4 : Int32) (v5 : Int32) (h : mH) : Option (Int32 × mH) :=
  (mIs h v0 6).bind fun _ =>
  (mGR h v0 6 1).bind fun x1 =>
  (mAI h x1 v1).bind fun x2 =>
  (mGR h v0 6 1).bind fun x3 =>
  (mAI h x3 v2).bind fun x4 =>
  (mGR h v0 6 1).bind fun x5 =>
  (mAI h x5 v3).bind fun x6 =>
  (mGR h v0 6 1).bind fun x7 =>
  (mAI h x7 v4).bind fun x8 =>
  (mGI h v0 6 0).bind fun x9 =>
  (f_X8_signSum (((x2 ^^^ x4) ^^^ x6) ^^^ x8) x9).bind fun x10 =>
  (f_J9_abs_0f7a4 x10).bind fun x11 =>
  (mGI h v0 6 0).bind fun x12 =>
  if x11 = x12 then
    (f_X7_mask v0 h).bind fun x13 =>
    (mGR h v0 6 1).bind fun x14 =>
    (mAI h x14 v1).bind fun x15 =>
    (mGR h v0 6 1).bind fun x16 =>
    (mAI h x16 v2).bind fun x17 =>
    (f_X8_alikeAt (x15 ^^^ x17) v5).bind fun x18 =>
    (mGR h v0 6 1).bind fun x19 =>
    (mAI h x19 v1).bind fun x20 =>
    (mGR h v0 6 1).bind fun x21 =>
    (mAI h x21 v3).bind fun x22 =>
    (f_X8_alikeAt (x20 ^^^ x22) v5).bind fun x23 =>
    (mGR h v0 6 1).bind fun x24 =>
    (mAI h x24 v1).bind fun x25 =>
    (mGR h v0 6 1).bind fun x26 =>
    (mAI h x26 v4).bind fun x27 =>
    (f_X8_alikeAt (x25 ^^^ x27) v5).bind fun x28 =>
    (mGR h v0 6 1).bind fun x29 =>
    (mAI h x29 v1).bind fun x30 =>
    (mSI h x29 v1 (x30 ^^^ (((x13 &&& x18) &&& x23) &&& x28))).bind fun h31 =>
    (mGR h31 v0 6 1).bind fun x32 =>
    (mAI h31 x32 v2).bind fun x33 =>
    (mSI h31 x32 v2 (x33 ^^^ (((x13 &&& x18) &&& x23) &&& x28))).bind fun h34 =>
    (mGR h34 v0 6 1).bind fun x35 =>
    (mAI h34 x35 v3).bind fun x36 =>
    (mSI h34 x35 v3 (x36 ^^^ (((x13 &&& x18) &&& x23) &&& x28))).bind fun h37 =>
    (mGR h37 v0 6 1).bind fun x38 =>
    (mAI h37 x38 v4).bind fun x39 =>
    (mSI h37 x38 v4 (x39 ^^^ (((x13 &&& x18) &&& x23) &&& x28))).bind fun h40 =>
    (f_X7_beginTrail v0 h40).bind fun x41 =>
    some ((1 : Int32), x41)
  else
    some ((0 : Int32), h)
set_option maxRecDepth 100000 in
set_option maxHeartbeats 4000000 in
theorem g_X7_switchRows {w : mWp} {Q : Option Value → mH → Prop} (v0 : Option Nat) (v1 : Int32) (v2 : Int32) (v3 : Int32) (v4 : Int32) (v5 : Int32) (h : mH) {res : Int32 × mH} (e : f_X7_switchRows v0 v1 v2 v3 v4 v5 h = some res) (q : (fun r : Int32 × mH => Q (some (.int r.1)) r.2) res) : mGo w kX7_switchRows 0 0 0 [some (va_rf v0), some (.int v1), some (.int v2), some (.int v3), some (.int v4), some (.int v5), none, none] [] h Q := by
  unfold f_X7_switchRows at e
  obtain ⟨_, _, e⟩ := mBind e
  refine mGo.aload_n (n := 1) (r := v0) dX7_switchRows_0 rfl rfl ?_
  obtain ⟨x1, e_x1, e⟩ := mBind e
  refine mGo.getR (n := 4) dX7_switchRows_1 sf_RX7_9 e_x1 rfl ?_
  refine mGo.iload_n (n := 5) (x := v1) dX7_switchRows_4 rfl rfl ?_
  obtain ⟨x2, e_x2, e⟩ := mBind e
  refine mGo.iald (n := 6) dX7_switchRows_5 e_x2 rfl ?_
  refine mGo.aload_n (n := 7) (r := v0) dX7_switchRows_6 rfl rfl ?_
  obtain ⟨x3, e_x3, e⟩ := mBind e
  refine mGo.getR (n := 10) dX7_switchRows_7 sf_RX7_9 e_x3 rfl ?_
  refine mGo.iload_n (n := 11) (x := v2) dX7_switchRows_10 rfl rfl ?_
  obtain ⟨x4, e_x4, e⟩ := mBind e
  refine mGo.iald (n := 12) dX7_switchRows_11 e_x4 rfl ?_
  refine mGo.ixor (n := 13) dX7_switchRows_12 rfl ?_
  refine mGo.aload_n (n := 14) (r := v0) dX7_switchRows_13 rfl rfl ?_
  obtain ⟨x5, e_x5, e⟩ := mBind e
  refine mGo.getR (n := 17) dX7_switchRows_14 sf_RX7_9 e_x5 rfl ?_
  refine mGo.iload_n (n := 18) (x := v3) dX7_switchRows_17 rfl rfl ?_
  obtain ⟨x6, e_x6, e⟩ := mBind e
  refine mGo.iald (n := 19) dX7_switchRows_18 e_x6 rfl ?_
  refine mGo.ixor (n := 20) dX7_switchRows_19 rfl ?_
  refine mGo.aload_n (n := 21) (r := v0) dX7_switchRows_20 rfl rfl ?_
  obtain ⟨x7, e_x7, e⟩ := mBind e
  refine mGo.getR (n := 24) dX7_switchRows_21 sf_RX7_9 e_x7 rfl ?_
  refine mGo.iload (n := 26) (x := v4) dX7_switchRows_24 rfl rfl ?_
  obtain ⟨x8, e_x8, e⟩ := mBind e
  refine mGo.iald (n := 27) dX7_switchRows_26 e_x8 rfl ?_
  refine mGo.ixor (n := 28) dX7_switchRows_27 rfl ?_
  refine mGo.istore (n := 30) (ls' := [some (va_rf v0), some (.int v1), some (.int v2), some (.int v3), some (.int v4), some (.int v5), some (.int (((x2 ^^^ x4) ^^^ x6) ^^^ x8)), none]) dX7_switchRows_28 rfl (Nat.le_of_ble_eq_true rfl) rfl ?_
  refine mGo.iload (n := 32) (x := (((x2 ^^^ x4) ^^^ x6) ^^^ x8)) dX7_switchRows_30 rfl rfl ?_
  refine mGo.aload_n (n := 33) (r := v0) dX7_switchRows_32 rfl rfl ?_
  obtain ⟨x9, e_x9, e⟩ := mBind e
  refine mGo.getI (n := 36) dX7_switchRows_33 sf_RX7_21 e_x9 rfl ?_
  obtain ⟨x10, e_x10, e⟩ := mBind e
  refine mGo.callS (n := 39) (y := zX8_signSum) (R' := (mRoom (2) 0 0)) (as := [.int (((x2 ^^^ x4) ^^^ x6) ^^^ x8), .int x9]) (st := []) dX7_switchRows_36 sc_RX7_61 rfl (e_X8_signSum (((x2 ^^^ x4) ^^^ x6) ^^^ x8) x9 h e_x10) (mFit_of rfl (Nat.le_of_ble_eq_true rfl) (by decide) (Nat.le_of_ble_eq_true rfl) (Nat.le_of_ble_eq_true rfl)) (Nat.le_of_ble_eq_true rfl) rfl rfl ?_
  intro _ _ hq
  rw [hq.1, hq.2]
  show mGo w kX7_switchRows 0 0 39 [some (va_rf v0), some (.int v1), some (.int v2), some (.int v3), some (.int v4), some (.int v5), some (.int (((x2 ^^^ x4) ^^^ x6) ^^^ x8)), none] [.int x10] h Q
  obtain ⟨x11, e_x11, e⟩ := mBind e
  refine mGo.callS (n := 42) (y := zJ9_abs_0f7a4) (R' := (mRoom (1) 0 0)) (as := [.int x10]) (st := []) dX7_switchRows_39 sc_RX7_65 rfl (e_J9_abs_0f7a4 x10 h e_x11) (mFit_of rfl (Nat.le_of_ble_eq_true rfl) (by decide) (Nat.le_of_ble_eq_true rfl) (Nat.le_of_ble_eq_true rfl)) (Nat.le_of_ble_eq_true rfl) rfl rfl ?_
  intro _ _ hq
  rw [hq.1, hq.2]
  show mGo w kX7_switchRows 0 0 42 [some (va_rf v0), some (.int v1), some (.int v2), some (.int v3), some (.int v4), some (.int v5), some (.int (((x2 ^^^ x4) ^^^ x6) ^^^ x8)), none] [.int x11] h Q
  refine mGo.aload_n (n := 43) (r := v0) dX7_switchRows_42 rfl rfl ?_
  obtain ⟨x12, e_x12, e⟩ := mBind e
  refine mGo.getI (n := 46) dX7_switchRows_43 sf_RX7_21 e_x12 rfl ?_
  refine mGo.icmp_eq (tgt := 51) (n := 49) dX7_switchRows_46 (by decide) rfl (fun hc => ?_) (fun hc => ?_)
  · replace e := mIft hc e
    refine mGo.aload_n (n := 52) (r := v0) dX7_switchRows_51 rfl rfl ?_
    obtain ⟨x13, e_x13, e⟩ := mBind e
    refine mGo.callV (n := 55) (y := zX7_mask) (R' := (mRoom (1) 0 0)) (as := []) (st := []) (r0 := v0) dX7_switchRows_52 sc_RX7_53 rfl (s_X7_mask v0 h e_x13) (e_X7_mask v0 h e_x13) (mFit_of rfl (Nat.le_of_ble_eq_true rfl) (by decide) (Nat.le_of_ble_eq_true rfl) (Nat.le_of_ble_eq_true rfl)) (Nat.le_of_ble_eq_true rfl) rfl rfl ?_
    intro _ _ hq
    rw [hq.1, hq.2]
    show mGo w kX7_switchRows 0 0 55 [some (va_rf v0), some (.int v1), some (.int v2), some (.int v3), some (.int v4), some (.int v5), some (.int (((x2 ^^^ x4) ^^^ x6) ^^^ x8)), none] [.int x13] h Q
    refine mGo.aload_n (n := 56) (r := v0) dX7_switchRows_55 rfl rfl ?_
    obtain ⟨x14, e_x14, e⟩ := mBind e
    refine mGo.getR (n := 59) dX7_switchRows_56 sf_RX7_9 e_x14 rfl ?_
    refine mGo.iload_n (n := 60) (x := v1) dX7_switchRows_59 rfl rfl ?_
    obtain ⟨x15, e_x15, e⟩ := mBind e
    refine mGo.iald (n := 61) dX7_switchRows_60 e_x15 rfl ?_
    refine mGo.aload_n (n := 62) (r := v0) dX7_switchRows_61 rfl rfl ?_
    obtain ⟨x16, e_x16, e⟩ := mBind e
    refine mGo.getR (n := 65) dX7_switchRows_62 sf_RX7_9 e_x16 rfl ?_
    refine mGo.iload_n (n := 66) (x := v2) dX7_switchRows_65 rfl rfl ?_
    obtain ⟨x17, e_x17, e⟩ := mBind e
    refine mGo.iald (n := 67) dX7_switchRows_66 e_x17 rfl ?_
    refine mGo.ixor (n := 68) dX7_switchRows_67 rfl ?_
    refine mGo.iload (n := 70) (x := v5) dX7_switchRows_68 rfl rfl ?_
    obtain ⟨x18, e_x18, e⟩ := mBind e
    refine mGo.callS (n := 73) (y := zX8_alikeAt) (R' := (mRoom (2) 0 0)) (as := [.int (x15 ^^^ x17), .int v5]) (st := [.int x13]) dX7_switchRows_70 sc_RX7_71 rfl (e_X8_alikeAt (x15 ^^^ x17) v5 h e_x18) (mFit_of rfl (Nat.le_of_ble_eq_true rfl) (by decide) (Nat.le_of_ble_eq_true rfl) (Nat.le_of_ble_eq_true rfl)) (Nat.le_of_ble_eq_true rfl) rfl rfl ?_
    intro _ _ hq
    rw [hq.1, hq.2]
    show mGo w kX7_switchRows 0 0 73 [some (va_rf v0), some (.int v1), some (.int v2), some (.int v3), some (.int v4), some (.int v5), some (.int (((x2 ^^^ x4) ^^^ x6) ^^^ x8)), none] [.int x18, .int x13] h Q
    refine mGo.iand (n := 74) dX7_switchRows_73 rfl ?_
    refine mGo.aload_n (n := 75) (r := v0) dX7_switchRows_74 rfl rfl ?_
    obtain ⟨x19, e_x19, e⟩ := mBind e
    refine mGo.getR (n := 78) dX7_switchRows_75 sf_RX7_9 e_x19 rfl ?_
    refine mGo.iload_n (n := 79) (x := v1) dX7_switchRows_78 rfl rfl ?_
    obtain ⟨x20, e_x20, e⟩ := mBind e
    refine mGo.iald (n := 80) dX7_switchRows_79 e_x20 rfl ?_
    refine mGo.aload_n (n := 81) (r := v0) dX7_switchRows_80 rfl rfl ?_
    obtain ⟨x21, e_x21, e⟩ := mBind e
    refine mGo.getR (n := 84) dX7_switchRows_81 sf_RX7_9 e_x21 rfl ?_
    refine mGo.iload_n (n := 85) (x := v3) dX7_switchRows_84 rfl rfl ?_
    obtain ⟨x22, e_x22, e⟩ := mBind e
    refine mGo.iald (n := 86) dX7_switchRows_85 e_x22 rfl ?_
    refine mGo.ixor (n := 87) dX7_switchRows_86 rfl ?_
    refine mGo.iload (n := 89) (x := v5) dX7_switchRows_87 rfl rfl ?_
    obtain ⟨x23, e_x23, e⟩ := mBind e
    refine mGo.callS (n := 92) (y := zX8_alikeAt) (R' := (mRoom (2) 0 0)) (as := [.int (x20 ^^^ x22), .int v5]) (st := [.int (x13 &&& x18)]) dX7_switchRows_89 sc_RX7_71 rfl (e_X8_alikeAt (x20 ^^^ x22) v5 h e_x23) (mFit_of rfl (Nat.le_of_ble_eq_true rfl) (by decide) (Nat.le_of_ble_eq_true rfl) (Nat.le_of_ble_eq_true rfl)) (Nat.le_of_ble_eq_true rfl) rfl rfl ?_
    intro _ _ hq
    rw [hq.1, hq.2]
    show mGo w kX7_switchRows 0 0 92 [some (va_rf v0), some (.int v1), some (.int v2), some (.int v3), some (.int v4), some (.int v5), some (.int (((x2 ^^^ x4) ^^^ x6) ^^^ x8)), none] [.int x23, .int (x13 &&& x18)] h Q
    refine mGo.iand (n := 93) dX7_switchRows_92 rfl ?_
    refine mGo.aload_n (n := 94) (r := v0) dX7_switchRows_93 rfl rfl ?_
    obtain ⟨x24, e_x24, e⟩ := mBind e
    refine mGo.getR (n := 97) dX7_switchRows_94 sf_RX7_9 e_x24 rfl ?_
    refine mGo.iload_n (n := 98) (x := v1) dX7_switchRows_97 rfl rfl ?_
    obtain ⟨x25, e_x25, e⟩ := mBind e
    refine mGo.iald (n := 99) dX7_switchRows_98 e_x25 rfl ?_
    refine mGo.aload_n (n := 100) (r := v0) dX7_switchRows_99 rfl rfl ?_
    obtain ⟨x26, e_x26, e⟩ := mBind e
    refine mGo.getR (n := 103) dX7_switchRows_100 sf_RX7_9 e_x26 rfl ?_
    refine mGo.iload (n := 105) (x := v4) dX7_switchRows_103 rfl rfl ?_
    obtain ⟨x27, e_x27, e⟩ := mBind e
    refine mGo.iald (n := 106) dX7_switchRows_105 e_x27 rfl ?_
    refine mGo.ixor (n := 107) dX7_switchRows_106 rfl ?_
    refine mGo.iload (n := 109) (x := v5) dX7_switchRows_107 rfl rfl ?_
    obtain ⟨x28, e_x28, e⟩ := mBind e
    refine mGo.callS (n := 112) (y := zX8_alikeAt) (R' := (mRoom (2) 0 0)) (as := [.int (x25 ^^^ x27), .int v5]) (st := [.int ((x13 &&& x18) &&& x23)]) dX7_switchRows_109 sc_RX7_71 rfl (e_X8_alikeAt (x25 ^^^ x27) v5 h e_x28) (mFit_of rfl (Nat.le_of_ble_eq_true rfl) (by decide) (Nat.le_of_ble_eq_true rfl) (Nat.le_of_ble_eq_true rfl)) (Nat.le_of_ble_eq_true rfl) rfl rfl ?_
    intro _ _ hq
    rw [hq.1, hq.2]
    show mGo w kX7_switchRows 0 0 112 [some (va_rf v0), some (.int v1), some (.int v2), some (.int v3), some (.int v4), some (.int v5), some (.int (((x2 ^^^ x4) ^^^ x6) ^^^ x8)), none] [.int x28, .int ((x13 &&& x18) &&& x23)] h Q
    refine mGo.iand (n := 113) dX7_switchRows_112 rfl ?_
    refine mGo.istore (n := 115) (ls' := [some (va_rf v0), some (.int v1), some (.int v2), some (.int v3), some (.int v4), some (.int v5), some (.int (((x2 ^^^ x4) ^^^ x6) ^^^ x8)), some (.int (((x13 &&& x18) &&& x23) &&& x28))]) dX7_switchRows_113 rfl (Nat.le_of_ble_eq_true rfl) rfl ?_
    refine mGo.aload_n (n := 116) (r := v0) dX7_switchRows_115 rfl rfl ?_
    obtain ⟨x29, e_x29, e⟩ := mBind e
    refine mGo.getR (n := 119) dX7_switchRows_116 sf_RX7_9 e_x29 rfl ?_
    refine mGo.iload_n (n := 120) (x := v1) dX7_switchRows_119 rfl rfl ?_
    refine mGo.dup2 (n := 121) dX7_switchRows_120 rfl (mRfc _) rfl ?_
    obtain ⟨x30, e_x30, e⟩ := mBind e
    refine mGo.iald (n := 122) dX7_switchRows_121 e_x30 rfl ?_
    refine mGo.iload (n := 124) (x := (((x13 &&& x18) &&& x23) &&& x28)) dX7_switchRows_122 rfl rfl ?_
    refine mGo.ixor (n := 125) dX7_switchRows_124 rfl ?_
    obtain ⟨h31, e_h31, e⟩ := mBind e
    refine mGo.iast (n := 126) dX7_switchRows_125 e_h31 rfl ?_
    refine mGo.aload_n (n := 127) (r := v0) dX7_switchRows_126 rfl rfl ?_
    obtain ⟨x32, e_x32, e⟩ := mBind e
    refine mGo.getR (n := 130) dX7_switchRows_127 sf_RX7_9 e_x32 rfl ?_
    refine mGo.iload_n (n := 131) (x := v2) dX7_switchRows_130 rfl rfl ?_
    refine mGo.dup2 (n := 132) dX7_switchRows_131 rfl (mRfc _) rfl ?_
    obtain ⟨x33, e_x33, e⟩ := mBind e
    refine mGo.iald (n := 133) dX7_switchRows_132 e_x33 rfl ?_
    refine mGo.iload (n := 135) (x := (((x13 &&& x18) &&& x23) &&& x28)) dX7_switchRows_133 rfl rfl ?_
    refine mGo.ixor (n := 136) dX7_switchRows_135 rfl ?_
    obtain ⟨h34, e_h34, e⟩ := mBind e
    refine mGo.iast (n := 137) dX7_switchRows_136 e_h34 rfl ?_
    refine mGo.aload_n (n := 138) (r := v0) dX7_switchRows_137 rfl rfl ?_
    obtain ⟨x35, e_x35, e⟩ := mBind e
    refine mGo.getR (n := 141) dX7_switchRows_138 sf_RX7_9 e_x35 rfl ?_
    refine mGo.iload_n (n := 142) (x := v3) dX7_switchRows_141 rfl rfl ?_
    refine mGo.dup2 (n := 143) dX7_switchRows_142 rfl (mRfc _) rfl ?_
    obtain ⟨x36, e_x36, e⟩ := mBind e
    refine mGo.iald (n := 144) dX7_switchRows_143 e_x36 rfl ?_
    refine mGo.iload (n := 146) (x := (((x13 &&& x18) &&& x23) &&& x28)) dX7_switchRows_144 rfl rfl ?_
    refine mGo.ixor (n := 147) dX7_switchRows_146 rfl ?_
    obtain ⟨h37, e_h37, e⟩ := mBind e
    refine mGo.iast (n := 148) dX7_switchRows_147 e_h37 rfl ?_
    refine mGo.aload_n (n := 149) (r := v0) dX7_switchRows_148 rfl rfl ?_
    obtain ⟨x38, e_x38, e⟩ := mBind e
    refine mGo.getR (n := 152) dX7_switchRows_149 sf_RX7_9 e_x38 rfl ?_
    refine mGo.iload (n := 154) (x := v4) dX7_switchRows_152 rfl rfl ?_
    refine mGo.dup2 (n := 155) dX7_switchRows_154 rfl (mRfc _) rfl ?_
    obtain ⟨x39, e_x39, e⟩ := mBind e
    refine mGo.iald (n := 156) dX7_switchRows_155 e_x39 rfl ?_
    refine mGo.iload (n := 158) (x := (((x13 &&& x18) &&& x23) &&& x28)) dX7_switchRows_156 rfl rfl ?_
    refine mGo.ixor (n := 159) dX7_switchRows_158 rfl ?_
    obtain ⟨h40, e_h40, e⟩ := mBind e
    refine mGo.iast (n := 160) dX7_switchRows_159 e_h40 rfl ?_
    refine mGo.aload_n (n := 161) (r := v0) dX7_switchRows_160 rfl rfl ?_
    obtain ⟨x41, e_x41, e⟩ := mBind e
    refine mGo.callV (n := 164) (y := zX7_beginTrail) (R' := (mRoom (1) 0 0)) (as := []) (st := []) (r0 := v0) dX7_switchRows_161 sc_RX7_31 rfl (s_X7_beginTrail v0 h40 e_x41) (e_X7_beginTrail v0 h40 e_x41) (mFit_of rfl (Nat.le_of_ble_eq_true rfl) (by decide) (Nat.le_of_ble_eq_true rfl) (Nat.le_of_ble_eq_true rfl)) (Nat.le_of_ble_eq_true rfl) rfl rfl ?_
    intro _ _ hq
    rw [hq.1, hq.2]
    show mGo w kX7_switchRows 0 0 164 [some (va_rf v0), some (.int v1), some (.int v2), some (.int v3), some (.int v4), some (.int v5), some (.int (((x2 ^^^ x4) ^^^ x6) ^^^ x8)), some (.int (((x13 &&& x18) &&& x23) &&& x28))] [] x41 Q
    refine mGo.iconst (n := 165) (v := (1 : Int32)) dX7_switchRows_164 (by decide) rfl ?_
    cases e
    exact mGo.zret dX7_switchRows_165 rfl (by decide) (Nat.le_of_ble_eq_true rfl) (Nat.le_of_ble_eq_true rfl) q
  · replace e := mIff hc e
    refine mGo.iconst (n := 50) (v := (0 : Int32)) dX7_switchRows_49 (by decide) rfl ?_
    cases e
    exact mGo.zret dX7_switchRows_50 rfl (by decide) (Nat.le_of_ble_eq_true rfl) (Nat.le_of_ble_eq_true rfl) q
theorem e_X7_switchRows {w : mWp} (v0 : Option Nat) (v1 : Int32) (v2 : Int32) (v3 : Int32) (v4 : Int32) (v5 : Int32) (h : mH) {res : Int32 × mH} (e : f_X7_switchRows v0 v1 v2 v3 v4 v5 h = some res) : mEx w zX7_switchRows (mRoom 3 0 0) [va_rf v0, .int v1, .int v2, .int v3, .int v4, .int v5] h (fun r h2 => r = some (.int res.1) ∧ h2 = res.2) := by
  refine mEx.of (by decide +kernel) (show mEnt [va_rf v0, .int v1, .int v2, .int v3, .int v4, .int v5] 8 = [some (va_rf v0), some (.int v1), some (.int v2), some (.int v3), some (.int v4), some (.int v5), none, none] by rw [mEnt_r, mEnt_i, mEnt_i, mEnt_i, mEnt_i, mEnt_i] <;> rfl) (by simp only [List.map_cons, List.map_nil, mRfc, mCi, mCj, List.sum_cons, List.sum_nil]; exact Nat.le_of_ble_eq_true rfl) ?_
  refine g_X7_switchRows v0 v1 v2 v3 v4 v5 h e ?_
  exact ⟨rfl, rfl⟩
theorem s_X7_switchRows (v0 : Option Nat) (v1 : Int32) (v2 : Int32) (v3 : Int32) (v4 : Int32) (v5 : Int32) (h : mH) {res : Int32 × mH} (e : f_X7_switchRows v0 v1 v2 v3 v4 v5 h = some res) : mIs h v0 6 = some () := by
  unfold f_X7_switchRows at e
  obtain ⟨u, e1, _⟩ := mBind e
  cases u
  exact e1
-- X7_firstSlantPair
def kX7_firstSlantPair : mK := (cX7_firstSlantPair, RX7, 3, some (.int), "firstSlantPair", mRoom 3 0 0)
def zX7_firstSlantPair : mY := (yX7_firstSlantPair, cX7_firstSlantPair, 3, some (.int))
def f_X7_firstSlantPair_b14 (v0 : Option Nat) (v1 : Int32) (v2 : Int32) (h : mH) : Option ((Int32) ⊕ ((Int32) ⊕ (Int32))) :=
  (mGI h v0 6 0).bind fun x1 =>
  if x1 ≤ v2 then
    some (Sum.inr (Sum.inl (v1 + 1)))
  else
    (mGR h v0 6 1).bind fun x2 =>
    (mAI h x2 v1).bind fun x3 =>
    (mGR h v0 6 1).bind fun x4 =>
    (mAI h x4 v2).bind fun x5 =>
    (mGI h v0 6 0).bind fun x6 =>
    (f_X8_signSum (x3 ^^^ x5) x6).bind fun x7 =>
    if x7 = 0 then
      some (Sum.inl (v2 + 1))
    else
      some (Sum.inr (Sum.inr (((28 : Int32) * v1) + v2)))
set_option maxRecDepth 100000 in
set_option maxHeartbeats 4000000 in
theorem g_X7_firstSlantPair_b14 {w : mWp} {Q : Option Value → mH → Prop} (v0 : Option Nat) (v1 : Int32) (v2 : Int32) (h : mH) {res : (Int32) ⊕ ((Int32) ⊕ (Int32))} (e : f_X7_firstSlantPair_b14 v0 v1 v2 h = some res) (q : (Sum.elim (fun x : Int32 => mGo w kX7_firstSlantPair 0 0 14 [some (va_rf v0), some (.int v1), some (.int x)] [] h Q) (Sum.elim (fun x : Int32 => mGo w kX7_firstSlantPair 0 0 2 [some (va_rf v0), some (.int x), none] [] h Q) (fun r : Int32 => Q (some (.int r)) h))) res) : mGo w kX7_firstSlantPair 0 0 14 [some (va_rf v0), some (.int v1), some (.int v2)] [] h Q := by
  unfold f_X7_firstSlantPair_b14 at e
  refine mGo.iload_n (n := 15) (x := v2) dX7_firstSlantPair_14 rfl rfl ?_
  refine mGo.aload_n (n := 16) (r := v0) dX7_firstSlantPair_15 rfl rfl ?_
  obtain ⟨x1, e_x1, e⟩ := mBind e
  refine mGo.getI (n := 19) dX7_firstSlantPair_16 sf_RX7_21 e_x1 rfl ?_
  refine mGo.icmp_ge (tgt := 58) (n := 22) dX7_firstSlantPair_19 (by decide) rfl (fun hc => ?_) (fun hc => ?_)
  · replace e := mIft hc e
    refine mGo.iinc (n := 61) (x := v1) (v := (v1 + 1)) (ls' := [some (va_rf v0), some (.int (v1 + 1)), some (.int v2)]) dX7_firstSlantPair_58 rfl rfl ((mSt_set (fun u _ hu => by cases hu; exact mRfc _)).trans rfl) (Nat.le_of_ble_eq_true rfl) rfl ?_
    refine mGo.goto (tgt := 2) dX7_firstSlantPair_61 (by decide) ?_
    cases e
    refine mGo.mk [true, true, false] ?_
    exact q
  · replace e := mIff hc e
    refine mGo.aload_n (n := 23) (r := v0) dX7_firstSlantPair_22 rfl rfl ?_
    obtain ⟨x2, e_x2, e⟩ := mBind e
    refine mGo.getR (n := 26) dX7_firstSlantPair_23 sf_RX7_9 e_x2 rfl ?_
    refine mGo.iload_n (n := 27) (x := v1) dX7_firstSlantPair_26 rfl rfl ?_
    obtain ⟨x3, e_x3, e⟩ := mBind e
    refine mGo.iald (n := 28) dX7_firstSlantPair_27 e_x3 rfl ?_
    refine mGo.aload_n (n := 29) (r := v0) dX7_firstSlantPair_28 rfl rfl ?_
    obtain ⟨x4, e_x4, e⟩ := mBind e
    refine mGo.getR (n := 32) dX7_firstSlantPair_29 sf_RX7_9 e_x4 rfl ?_
    refine mGo.iload_n (n := 33) (x := v2) dX7_firstSlantPair_32 rfl rfl ?_
    obtain ⟨x5, e_x5, e⟩ := mBind e
    refine mGo.iald (n := 34) dX7_firstSlantPair_33 e_x5 rfl ?_
    refine mGo.ixor (n := 35) dX7_firstSlantPair_34 rfl ?_
    refine mGo.aload_n (n := 36) (r := v0) dX7_firstSlantPair_35 rfl rfl ?_
    obtain ⟨x6, e_x6, e⟩ := mBind e
    refine mGo.getI (n := 39) dX7_firstSlantPair_36 sf_RX7_21 e_x6 rfl ?_
    obtain ⟨x7, e_x7, e⟩ := mBind e
    refine mGo.callS (n := 42) (y := zX8_signSum) (R' := (mRoom (2) 0 0)) (as := [.int (x3 ^^^ x5), .int x6]) (st := []) dX7_firstSlantPair_39 sc_RX7_61 rfl (e_X8_signSum (x3 ^^^ x5) x6 h e_x7) (mFit_of rfl (Nat.le_of_ble_eq_true rfl) (by decide) (Nat.le_of_ble_eq_true rfl) (Nat.le_of_ble_eq_true rfl)) (Nat.le_of_ble_eq_true rfl) rfl rfl ?_
    intro _ _ hq
    rw [hq.1, hq.2]
    show mGo w kX7_firstSlantPair 0 0 42 [some (va_rf v0), some (.int v1), some (.int v2)] [.int x7] h Q
    refine mGo.if_eq (tgt := 52) (n := 45) dX7_firstSlantPair_42 (by decide) rfl (fun hc => ?_) (fun hc => ?_)
    · replace e := mIft hc e
      refine mGo.iinc (n := 55) (x := v2) (v := (v2 + 1)) (ls' := [some (va_rf v0), some (.int v1), some (.int (v2 + 1))]) dX7_firstSlantPair_52 rfl rfl rfl (Nat.le_of_ble_eq_true rfl) rfl ?_
      refine mGo.goto (tgt := 14) dX7_firstSlantPair_55 (by decide) ?_
      cases e
      refine mGo.mk [true, true, true] ?_
      exact q
    · replace e := mIff hc e
      refine mGo.bipush (n := 47) (v := (28 : Int32)) dX7_firstSlantPair_45 (by decide) rfl ?_
      refine mGo.iload_n (n := 48) (x := v1) dX7_firstSlantPair_47 rfl rfl ?_
      refine mGo.imul (n := 49) dX7_firstSlantPair_48 rfl ?_
      refine mGo.iload_n (n := 50) (x := v2) dX7_firstSlantPair_49 rfl rfl ?_
      refine mGo.iadd (n := 51) dX7_firstSlantPair_50 rfl ?_
      cases e
      exact mGo.iret dX7_firstSlantPair_51 rfl (Nat.le_of_ble_eq_true rfl) (Nat.le_of_ble_eq_true rfl) q
noncomputable def f_X7_firstSlantPair_l14 (v0 : Option Nat) (v1 : Int32) (v2 : Int32) (h : mH) : Option ((Int32) ⊕ (Int32)) :=
  mLoop (fun x : Int32 => f_X7_firstSlantPair_b14 v0 v1 x h) (v2)
set_option maxRecDepth 100000 in
set_option maxHeartbeats 4000000 in
theorem g_X7_firstSlantPair_l14 {w : mWp} {Q : Option Value → mH → Prop} (v0 : Option Nat) (v1 : Int32) (v2 : Int32) (h : mH) {res : (Int32) ⊕ (Int32)} (e : f_X7_firstSlantPair_l14 v0 v1 v2 h = some res) (q : (Sum.elim (fun x : Int32 => mGo w kX7_firstSlantPair 0 0 2 [some (va_rf v0), some (.int x), none] [] h Q) (fun r : Int32 => Q (some (.int r)) h)) res) : mGo w kX7_firstSlantPair 0 0 14 [some (va_rf v0), some (.int v1), some (.int v2)] [] h Q := by
  unfold f_X7_firstSlantPair_l14 at e
  refine mLoop_go (x := (v2)) (fun x : Int32 => mGo w kX7_firstSlantPair 0 0 14 [some (va_rf v0), some (.int v1), some (.int x)] [] h Q) (Sum.elim (fun x : Int32 => mGo w kX7_firstSlantPair 0 0 2 [some (va_rf v0), some (.int x), none] [] h Q) (fun r : Int32 => Q (some (.int r)) h)) ?_ e q
  rintro v2 res e q
  exact g_X7_firstSlantPair_b14 v0 v1 v2 h e q
noncomputable def f_X7_firstSlantPair_b2 (v0 : Option Nat) (v1 : Int32) (h : mH) : Option ((Int32) ⊕ (Int32)) :=
  (mGI h v0 6 0).bind fun x1 =>
  if x1 ≤ v1 then
    some (Sum.inr (-2 : Int32))
  else
    f_X7_firstSlantPair_l14 v0 v1 (v1 + (1 : Int32)) h
set_option maxRecDepth 100000 in
set_option maxHeartbeats 4000000 in
theorem g_X7_firstSlantPair_b2 {w : mWp} {Q : Option Value → mH → Prop} (v0 : Option Nat) (v1 : Int32) (h : mH) {res : (Int32) ⊕ (Int32)} (e : f_X7_firstSlantPair_b2 v0 v1 h = some res) (q : (Sum.elim (fun x : Int32 => mGo w kX7_firstSlantPair 0 0 2 [some (va_rf v0), some (.int x), none] [] h Q) (fun r : Int32 => Q (some (.int r)) h)) res) : mGo w kX7_firstSlantPair 0 0 2 [some (va_rf v0), some (.int v1), none] [] h Q := by
  unfold f_X7_firstSlantPair_b2 at e
  refine mGo.iload_n (n := 3) (x := v1) dX7_firstSlantPair_2 rfl rfl ?_
  refine mGo.aload_n (n := 4) (r := v0) dX7_firstSlantPair_3 rfl rfl ?_
  obtain ⟨x1, e_x1, e⟩ := mBind e
  refine mGo.getI (n := 7) dX7_firstSlantPair_4 sf_RX7_21 e_x1 rfl ?_
  refine mGo.icmp_ge (tgt := 64) (n := 10) dX7_firstSlantPair_7 (by decide) rfl (fun hc => ?_) (fun hc => ?_)
  · replace e := mIft hc e
    refine mGo.bipush (n := 66) (v := (-2 : Int32)) dX7_firstSlantPair_64 (by decide) rfl ?_
    cases e
    exact mGo.iret dX7_firstSlantPair_66 rfl (Nat.le_of_ble_eq_true rfl) (Nat.le_of_ble_eq_true rfl) q
  · replace e := mIff hc e
    refine mGo.iload_n (n := 11) (x := v1) dX7_firstSlantPair_10 rfl rfl ?_
    refine mGo.iconst (n := 12) (v := (1 : Int32)) dX7_firstSlantPair_11 (by decide) rfl ?_
    refine mGo.iadd (n := 13) dX7_firstSlantPair_12 rfl ?_
    refine mGo.istore_n (n := 14) (ls' := [some (va_rf v0), some (.int v1), some (.int (v1 + (1 : Int32)))]) dX7_firstSlantPair_13 rfl (Nat.le_of_ble_eq_true rfl) rfl ?_
    refine mGo.mk [true, true, true] ?_
    exact g_X7_firstSlantPair_l14 v0 v1 (v1 + (1 : Int32)) h e q
noncomputable def f_X7_firstSlantPair_l2 (v0 : Option Nat) (v1 : Int32) (h : mH) : Option (Int32) :=
  mLoop (fun x : Int32 => f_X7_firstSlantPair_b2 v0 x h) (v1)
set_option maxRecDepth 100000 in
set_option maxHeartbeats 4000000 in
theorem g_X7_firstSlantPair_l2 {w : mWp} {Q : Option Value → mH → Prop} (v0 : Option Nat) (v1 : Int32) (h : mH) {res : Int32} (e : f_X7_firstSlantPair_l2 v0 v1 h = some res) (q : (fun r : Int32 => Q (some (.int r)) h) res) : mGo w kX7_firstSlantPair 0 0 2 [some (va_rf v0), some (.int v1), none] [] h Q := by
  unfold f_X7_firstSlantPair_l2 at e
  refine mLoop_go (x := (v1)) (fun x : Int32 => mGo w kX7_firstSlantPair 0 0 2 [some (va_rf v0), some (.int x), none] [] h Q) (fun r : Int32 => Q (some (.int r)) h) ?_ e q
  rintro v1 res e q
  exact g_X7_firstSlantPair_b2 v0 v1 h e q
noncomputable def f_X7_firstSlantPair (v0 : Option Nat) (h : mH) : Option (Int32) :=
  (mIs h v0 6).bind fun _ =>
  f_X7_firstSlantPair_l2 v0 (0 : Int32) h
set_option maxRecDepth 100000 in
set_option maxHeartbeats 4000000 in
theorem g_X7_firstSlantPair {w : mWp} {Q : Option Value → mH → Prop} (v0 : Option Nat) (h : mH) {res : Int32} (e : f_X7_firstSlantPair v0 h = some res) (q : (fun r : Int32 => Q (some (.int r)) h) res) : mGo w kX7_firstSlantPair 0 0 0 [some (va_rf v0), none, none] [] h Q := by
  unfold f_X7_firstSlantPair at e
  obtain ⟨_, _, e⟩ := mBind e
  refine mGo.iconst (n := 1) (v := (0 : Int32)) dX7_firstSlantPair_0 (by decide) rfl ?_
  refine mGo.istore_n (n := 2) (ls' := [some (va_rf v0), some (.int (0 : Int32)), none]) dX7_firstSlantPair_1 ((mSt_set (fun u _ hu => by cases hu; exact mRfc _)).trans rfl) (Nat.le_of_ble_eq_true rfl) rfl ?_
  refine mGo.mk [true, true, false] ?_
  exact g_X7_firstSlantPair_l2 v0 (0 : Int32) h e q
theorem e_X7_firstSlantPair {w : mWp} (v0 : Option Nat) (h : mH) {res : Int32} (e : f_X7_firstSlantPair v0 h = some res) : mEx w zX7_firstSlantPair (mRoom 3 0 0) [va_rf v0] h (fun r h2 => r = some (.int res) ∧ h2 = h) := by
  refine mEx.of (by decide +kernel) (show mEnt [va_rf v0] 3 = [some (va_rf v0), none, none] by rw [mEnt_r] <;> rfl) (by simp only [List.map_cons, List.map_nil, mRfc, mCi, mCj, List.sum_cons, List.sum_nil]; exact Nat.le_of_ble_eq_true rfl) ?_
  refine g_X7_firstSlantPair v0 h e ?_
  exact ⟨rfl, rfl⟩
theorem s_X7_firstSlantPair (v0 : Option Nat) (h : mH) {res : Int32} (e : f_X7_firstSlantPair v0 h = some res) : mIs h v0 6 = some () := by
  unfold f_X7_firstSlantPair at e
  obtain ⟨u, e1, _⟩ := mBind e
  cases u
  exact e1
-- X7_countSlantPairs
def kX7_countSlantPairs : mK := (cX7_countSlantPairs, RX7, 4, some (.int), "countSlantPairs", mRoom 3 0 0)
def zX7_countSlantPairs : mY := (yX7_countSlantPairs, cX7_countSlantPairs, 4, some (.int))
def f_X7_countSlantPairs_b16 (v0 : Option Nat) (v2 : Int32) (v1 : Int32) (v3 : Int32) (h : mH) : Option ((Int32 × Int32) ⊕ ((Int32 × Int32) ⊕ (Int32))) :=
  (mGI h v0 6 0).bind fun x1 =>
  if x1 ≤ v3 then
    some (Sum.inr (Sum.inl (v1, (v2 + 1))))
  else
    (mGR h v0 6 1).bind fun x2 =>
    (mAI h x2 v2).bind fun x3 =>
    (mGR h v0 6 1).bind fun x4 =>
    (mAI h x4 v3).bind fun x5 =>
    (mGI h v0 6 0).bind fun x6 =>
    (f_X8_signSum (x3 ^^^ x5) x6).bind fun x7 =>
    if x7 = 0 then
      some (Sum.inl (v1, (v3 + 1)))
    else
      some (Sum.inl ((v1 + 1), (v3 + 1)))
set_option maxRecDepth 100000 in
set_option maxHeartbeats 4000000 in
theorem g_X7_countSlantPairs_b16 {w : mWp} {Q : Option Value → mH → Prop} (v0 : Option Nat) (v2 : Int32) (v1 : Int32) (v3 : Int32) (h : mH) {res : (Int32 × Int32) ⊕ ((Int32 × Int32) ⊕ (Int32))} (e : f_X7_countSlantPairs_b16 v0 v2 v1 v3 h = some res) (q : (Sum.elim (fun x : Int32 × Int32 => mGo w kX7_countSlantPairs 0 0 16 [some (va_rf v0), some (.int x.1), some (.int v2), some (.int x.2)] [] h Q) (Sum.elim (fun x : Int32 × Int32 => mGo w kX7_countSlantPairs 0 0 4 [some (va_rf v0), some (.int x.1), some (.int x.2), none] [] h Q) (fun r : Int32 => Q (some (.int r)) h))) res) : mGo w kX7_countSlantPairs 0 0 16 [some (va_rf v0), some (.int v1), some (.int v2), some (.int v3)] [] h Q := by
  unfold f_X7_countSlantPairs_b16 at e
  refine mGo.iload_n (n := 17) (x := v3) dX7_countSlantPairs_16 rfl rfl ?_
  refine mGo.aload_n (n := 18) (r := v0) dX7_countSlantPairs_17 rfl rfl ?_
  obtain ⟨x1, e_x1, e⟩ := mBind e
  refine mGo.getI (n := 21) dX7_countSlantPairs_18 sf_RX7_21 e_x1 rfl ?_
  refine mGo.icmp_ge (tgt := 56) (n := 24) dX7_countSlantPairs_21 (by decide) rfl (fun hc => ?_) (fun hc => ?_)
  · replace e := mIft hc e
    refine mGo.iinc (n := 59) (x := v2) (v := (v2 + 1)) (ls' := [some (va_rf v0), some (.int v1), some (.int (v2 + 1)), some (.int v3)]) dX7_countSlantPairs_56 rfl rfl rfl (Nat.le_of_ble_eq_true rfl) rfl ?_
    refine mGo.goto (tgt := 4) dX7_countSlantPairs_59 (by decide) ?_
    cases e
    refine mGo.mk [true, true, true, false] ?_
    exact q
  · replace e := mIff hc e
    refine mGo.aload_n (n := 25) (r := v0) dX7_countSlantPairs_24 rfl rfl ?_
    obtain ⟨x2, e_x2, e⟩ := mBind e
    refine mGo.getR (n := 28) dX7_countSlantPairs_25 sf_RX7_9 e_x2 rfl ?_
    refine mGo.iload_n (n := 29) (x := v2) dX7_countSlantPairs_28 rfl rfl ?_
    obtain ⟨x3, e_x3, e⟩ := mBind e
    refine mGo.iald (n := 30) dX7_countSlantPairs_29 e_x3 rfl ?_
    refine mGo.aload_n (n := 31) (r := v0) dX7_countSlantPairs_30 rfl rfl ?_
    obtain ⟨x4, e_x4, e⟩ := mBind e
    refine mGo.getR (n := 34) dX7_countSlantPairs_31 sf_RX7_9 e_x4 rfl ?_
    refine mGo.iload_n (n := 35) (x := v3) dX7_countSlantPairs_34 rfl rfl ?_
    obtain ⟨x5, e_x5, e⟩ := mBind e
    refine mGo.iald (n := 36) dX7_countSlantPairs_35 e_x5 rfl ?_
    refine mGo.ixor (n := 37) dX7_countSlantPairs_36 rfl ?_
    refine mGo.aload_n (n := 38) (r := v0) dX7_countSlantPairs_37 rfl rfl ?_
    obtain ⟨x6, e_x6, e⟩ := mBind e
    refine mGo.getI (n := 41) dX7_countSlantPairs_38 sf_RX7_21 e_x6 rfl ?_
    obtain ⟨x7, e_x7, e⟩ := mBind e
    refine mGo.callS (n := 44) (y := zX8_signSum) (R' := (mRoom (2) 0 0)) (as := [.int (x3 ^^^ x5), .int x6]) (st := []) dX7_countSlantPairs_41 sc_RX7_61 rfl (e_X8_signSum (x3 ^^^ x5) x6 h e_x7) (mFit_of rfl (Nat.le_of_ble_eq_true rfl) (by decide) (Nat.le_of_ble_eq_true rfl) (Nat.le_of_ble_eq_true rfl)) (Nat.le_of_ble_eq_true rfl) rfl rfl ?_
    intro _ _ hq
    rw [hq.1, hq.2]
    show mGo w kX7_countSlantPairs 0 0 44 [some (va_rf v0), some (.int v1), some (.int v2), some (.int v3)] [.int x7] h Q
    refine mGo.if_eq (tgt := 50) (n := 47) dX7_countSlantPairs_44 (by decide) rfl (fun hc => ?_) (fun hc => ?_)
    · replace e := mIft hc e
      refine mGo.iinc (n := 53) (x := v3) (v := (v3 + 1)) (ls' := [some (va_rf v0), some (.int v1), some (.int v2), some (.int (v3 + 1))]) dX7_countSlantPairs_50 rfl rfl rfl (Nat.le_of_ble_eq_true rfl) rfl ?_
      refine mGo.goto (tgt := 16) dX7_countSlantPairs_53 (by decide) ?_
      cases e
      refine mGo.mk [true, true, true, true] ?_
      exact q
    · replace e := mIff hc e
      refine mGo.iinc (n := 50) (x := v1) (v := (v1 + 1)) (ls' := [some (va_rf v0), some (.int (v1 + 1)), some (.int v2), some (.int v3)]) dX7_countSlantPairs_47 rfl rfl ((mSt_set (fun u _ hu => by cases hu; exact mRfc _)).trans rfl) (Nat.le_of_ble_eq_true rfl) rfl ?_
      refine mGo.iinc (n := 53) (x := v3) (v := (v3 + 1)) (ls' := [some (va_rf v0), some (.int (v1 + 1)), some (.int v2), some (.int (v3 + 1))]) dX7_countSlantPairs_50 rfl rfl rfl (Nat.le_of_ble_eq_true rfl) rfl ?_
      refine mGo.goto (tgt := 16) dX7_countSlantPairs_53 (by decide) ?_
      cases e
      refine mGo.mk [true, true, true, true] ?_
      exact q
noncomputable def f_X7_countSlantPairs_l16 (v0 : Option Nat) (v1 : Int32) (v2 : Int32) (v3 : Int32) (h : mH) : Option ((Int32 × Int32) ⊕ (Int32)) :=
  mLoop (fun x : Int32 × Int32 => f_X7_countSlantPairs_b16 v0 v2 x.1 x.2 h) (v1, v3)
set_option maxRecDepth 100000 in
set_option maxHeartbeats 4000000 in
theorem g_X7_countSlantPairs_l16 {w : mWp} {Q : Option Value → mH → Prop} (v0 : Option Nat) (v1 : Int32) (v2 : Int32) (v3 : Int32) (h : mH) {res : (Int32 × Int32) ⊕ (Int32)} (e : f_X7_countSlantPairs_l16 v0 v1 v2 v3 h = some res) (q : (Sum.elim (fun x : Int32 × Int32 => mGo w kX7_countSlantPairs 0 0 4 [some (va_rf v0), some (.int x.1), some (.int x.2), none] [] h Q) (fun r : Int32 => Q (some (.int r)) h)) res) : mGo w kX7_countSlantPairs 0 0 16 [some (va_rf v0), some (.int v1), some (.int v2), some (.int v3)] [] h Q := by
  unfold f_X7_countSlantPairs_l16 at e
  refine mLoop_go (x := (v1, v3)) (fun x : Int32 × Int32 => mGo w kX7_countSlantPairs 0 0 16 [some (va_rf v0), some (.int x.1), some (.int v2), some (.int x.2)] [] h Q) (Sum.elim (fun x : Int32 × Int32 => mGo w kX7_countSlantPairs 0 0 4 [some (va_rf v0), some (.int x.1), some (.int x.2), none] [] h Q) (fun r : Int32 => Q (some (.int r)) h)) ?_ e q
  rintro ⟨v1, v3⟩ res e q
  exact g_X7_countSlantPairs_b16 v0 v2 v1 v3 h e q
noncomputable def f_X7_countSlantPairs_b4 (v0 : Option Nat) (v1 : Int32) (v2 : Int32) (h : mH) : Option ((Int32 × Int32) ⊕ (Int32)) :=
  (mGI h v0 6 0).bind fun x1 =>
  if x1 ≤ v2 then
    some (Sum.inr v1)
  else
    f_X7_countSlantPairs_l16 v0 v1 v2 (v2 + (1 : Int32)) h
set_option maxRecDepth 100000 in
set_option maxHeartbeats 4000000 in
theorem g_X7_countSlantPairs_b4 {w : mWp} {Q : Option Value → mH → Prop} (v0 : Option Nat) (v1 : Int32) (v2 : Int32) (h : mH) {res : (Int32 × Int32) ⊕ (Int32)} (e : f_X7_countSlantPairs_b4 v0 v1 v2 h = some res) (q : (Sum.elim (fun x : Int32 × Int32 => mGo w kX7_countSlantPairs 0 0 4 [some (va_rf v0), some (.int x.1), some (.int x.2), none] [] h Q) (fun r : Int32 => Q (some (.int r)) h)) res) : mGo w kX7_countSlantPairs 0 0 4 [some (va_rf v0), some (.int v1), some (.int v2), none] [] h Q := by
  unfold f_X7_countSlantPairs_b4 at e
  refine mGo.iload_n (n := 5) (x := v2) dX7_countSlantPairs_4 rfl rfl ?_
  refine mGo.aload_n (n := 6) (r := v0) dX7_countSlantPairs_5 rfl rfl ?_
  obtain ⟨x1, e_x1, e⟩ := mBind e
  refine mGo.getI (n := 9) dX7_countSlantPairs_6 sf_RX7_21 e_x1 rfl ?_
  refine mGo.icmp_ge (tgt := 62) (n := 12) dX7_countSlantPairs_9 (by decide) rfl (fun hc => ?_) (fun hc => ?_)
  · replace e := mIft hc e
    refine mGo.iload_n (n := 63) (x := v1) dX7_countSlantPairs_62 rfl rfl ?_
    cases e
    exact mGo.iret dX7_countSlantPairs_63 rfl (Nat.le_of_ble_eq_true rfl) (Nat.le_of_ble_eq_true rfl) q
  · replace e := mIff hc e
    refine mGo.iload_n (n := 13) (x := v2) dX7_countSlantPairs_12 rfl rfl ?_
    refine mGo.iconst (n := 14) (v := (1 : Int32)) dX7_countSlantPairs_13 (by decide) rfl ?_
    refine mGo.iadd (n := 15) dX7_countSlantPairs_14 rfl ?_
    refine mGo.istore_n (n := 16) (ls' := [some (va_rf v0), some (.int v1), some (.int v2), some (.int (v2 + (1 : Int32)))]) dX7_countSlantPairs_15 rfl (Nat.le_of_ble_eq_true rfl) rfl ?_
    refine mGo.mk [true, true, true, true] ?_
    exact g_X7_countSlantPairs_l16 v0 v1 v2 (v2 + (1 : Int32)) h e q
noncomputable def f_X7_countSlantPairs_l4 (v0 : Option Nat) (v1 : Int32) (v2 : Int32) (h : mH) : Option (Int32) :=
  mLoop (fun x : Int32 × Int32 => f_X7_countSlantPairs_b4 v0 x.1 x.2 h) (v1, v2)
set_option maxRecDepth 100000 in
set_option maxHeartbeats 4000000 in
theorem g_X7_countSlantPairs_l4 {w : mWp} {Q : Option Value → mH → Prop} (v0 : Option Nat) (v1 : Int32) (v2 : Int32) (h : mH) {res : Int32} (e : f_X7_countSlantPairs_l4 v0 v1 v2 h = some res) (q : (fun r : Int32 => Q (some (.int r)) h) res) : mGo w kX7_countSlantPairs 0 0 4 [some (va_rf v0), some (.int v1), some (.int v2), none] [] h Q := by
  unfold f_X7_countSlantPairs_l4 at e
  refine mLoop_go (x := (v1, v2)) (fun x : Int32 × Int32 => mGo w kX7_countSlantPairs 0 0 4 [some (va_rf v0), some (.int x.1), some (.int x.2), none] [] h Q) (fun r : Int32 => Q (some (.int r)) h) ?_ e q
  rintro ⟨v1, v2⟩ res e q
  exact g_X7_countSlantPairs_b4 v0 v1 v2 h e q
noncomputable def f_X7_countSlantPairs (v0 : Option Nat) (h : mH) : Option (Int32) :=
  (mIs h v0 6).bind fun _ =>
  f_X7_countSlantPairs_l4 v0 (0 : Int32) (0 : Int32) h
set_option maxRecDepth 100000 in
set_option maxHeartbeats 4000000 in
theorem g_X7_countSlantPairs {w : mWp} {Q : Option Value → mH → Prop} (v0 : Option Nat) (h : mH) {res : Int32} (e : f_X7_countSlantPairs v0 h = some res) (q : (fun r : Int32 => Q (some (.int r)) h) res) : mGo w kX7_countSlantPairs 0 0 0 [some (va_rf v0), none, none, none] [] h Q := by
  unfold f_X7_countSlantPairs at e
  obtain ⟨_, _, e⟩ := mBind e
  refine mGo.iconst (n := 1) (v := (0 : Int32)) dX7_countSlantPairs_0 (by decide) rfl ?_
  refine mGo.istore_n (n := 2) (ls' := [some (va_rf v0), some (.int (0 : Int32)), none, none]) dX7_countSlantPairs_1 ((mSt_set (fun u _ hu => by cases hu; exact mRfc _)).trans rfl) (Nat.le_of_ble_eq_true rfl) rfl ?_
  refine mGo.iconst (n := 3) (v := (0 : Int32)) dX7_countSlantPairs_2 (by decide) rfl ?_
  refine mGo.istore_n (n := 4) (ls' := [some (va_rf v0), some (.int (0 : Int32)), some (.int (0 : Int32)), none]) dX7_countSlantPairs_3 rfl (Nat.le_of_ble_eq_true rfl) rfl ?_
  refine mGo.mk [true, true, true, false] ?_
  exact g_X7_countSlantPairs_l4 v0 (0 : Int32) (0 : Int32) h e q
theorem e_X7_countSlantPairs {w : mWp} (v0 : Option Nat) (h : mH) {res : Int32} (e : f_X7_countSlantPairs v0 h = some res) : mEx w zX7_countSlantPairs (mRoom 3 0 0) [va_rf v0] h (fun r h2 => r = some (.int res) ∧ h2 = h) := by
  refine mEx.of (by decide +kernel) (show mEnt [va_rf v0] 4 = [some (va_rf v0), none, none, none] by rw [mEnt_r] <;> rfl) (by simp only [List.map_cons, List.map_nil, mRfc, mCi, mCj, List.sum_cons, List.sum_nil]; exact Nat.le_of_ble_eq_true rfl) ?_
  refine g_X7_countSlantPairs v0 h e ?_
  exact ⟨rfl, rfl⟩
theorem s_X7_countSlantPairs (v0 : Option Nat) (h : mH) {res : Int32} (e : f_X7_countSlantPairs v0 h = some res) : mIs h v0 6 = some () := by
  unfold f_X7_countSlantPairs at e
  obtain ⟨u, e1, _⟩ := mBind e
  cases u
  exact e1
-- X7_designBlock
def kX7_designBlock : mK := (cX7_designBlock, RX7, 4, some (.int), "designBlock", mRoom 3 0 0)
def zX7_designBlock : mY := (yX7_designBlock, cX7_designBlock, 4, some (.int))
def f_X7_designBlock (v0 : Option Nat) (v1 : Int32) (v2 : Int32) (v3 : Int32) (h : mH) : Option (Int32) :=
  (mIs h v0 6).bind fun _ =>
  (mGR h v0 6 1).bind fun x1 =>
  (mAI h x1 v3).bind fun x2 =>
  (mGR h v0 6 1).bind fun x3 =>
  (mAI h x3 v1).bind fun x4 =>
  (f_X8_alikeAt (x2 ^^^ x4) v2).bind fun x5 =>
  (f_X7_mask v0 h).bind fun x6 =>
  some ((x5 &&& x6) &&& (((1 : Int32) <<< (v2 &&& 31)) ^^^ (-1 : Int32)))
set_option maxRecDepth 100000 in
set_option maxHeartbeats 4000000 in
theorem g_X7_designBlock {w : mWp} {Q : Option Value → mH → Prop} (v0 : Option Nat) (v1 : Int32) (v2 : Int32) (v3 : Int32) (h : mH) {res : Int32} (e : f_X7_designBlock v0 v1 v2 v3 h = some res) (q : (fun r : Int32 => Q (some (.int r)) h) res) : mGo w kX7_designBlock 0 0 0 [some (va_rf v0), some (.int v1), some (.int v2), some (.int v3)] [] h Q := by
  unfold f_X7_designBlock at e
  obtain ⟨_, _, e⟩ := mBind e
  refine mGo.aload_n (n := 1) (r := v0) dX7_designBlock_0 rfl rfl ?_
  obtain ⟨x1, e_x1, e⟩ := mBind e
  refine mGo.getR (n := 4) dX7_designBlock_1 sf_RX7_9 e_x1 rfl ?_
  refine mGo.iload_n (n := 5) (x := v3) dX7_designBlock_4 rfl rfl ?_
  obtain ⟨x2, e_x2, e⟩ := mBind e
  refine mGo.iald (n := 6) dX7_designBlock_5 e_x2 rfl ?_
  refine mGo.aload_n (n := 7) (r := v0) dX7_designBlock_6 rfl rfl ?_
  obtain ⟨x3, e_x3, e⟩ := mBind e
  refine mGo.getR (n := 10) dX7_designBlock_7 sf_RX7_9 e_x3 rfl ?_
  refine mGo.iload_n (n := 11) (x := v1) dX7_designBlock_10 rfl rfl ?_
  obtain ⟨x4, e_x4, e⟩ := mBind e
  refine mGo.iald (n := 12) dX7_designBlock_11 e_x4 rfl ?_
  refine mGo.ixor (n := 13) dX7_designBlock_12 rfl ?_
  refine mGo.iload_n (n := 14) (x := v2) dX7_designBlock_13 rfl rfl ?_
  obtain ⟨x5, e_x5, e⟩ := mBind e
  refine mGo.callS (n := 17) (y := zX8_alikeAt) (R' := (mRoom (2) 0 0)) (as := [.int (x2 ^^^ x4), .int v2]) (st := []) dX7_designBlock_14 sc_RX7_71 rfl (e_X8_alikeAt (x2 ^^^ x4) v2 h e_x5) (mFit_of rfl (Nat.le_of_ble_eq_true rfl) (by decide) (Nat.le_of_ble_eq_true rfl) (Nat.le_of_ble_eq_true rfl)) (Nat.le_of_ble_eq_true rfl) rfl rfl ?_
  intro _ _ hq
  rw [hq.1, hq.2]
  show mGo w kX7_designBlock 0 0 17 [some (va_rf v0), some (.int v1), some (.int v2), some (.int v3)] [.int x5] h Q
  refine mGo.aload_n (n := 18) (r := v0) dX7_designBlock_17 rfl rfl ?_
  obtain ⟨x6, e_x6, e⟩ := mBind e
  refine mGo.callV (n := 21) (y := zX7_mask) (R' := (mRoom (1) 0 0)) (as := []) (st := [.int x5]) (r0 := v0) dX7_designBlock_18 sc_RX7_53 rfl (s_X7_mask v0 h e_x6) (e_X7_mask v0 h e_x6) (mFit_of rfl (Nat.le_of_ble_eq_true rfl) (by decide) (Nat.le_of_ble_eq_true rfl) (Nat.le_of_ble_eq_true rfl)) (Nat.le_of_ble_eq_true rfl) rfl rfl ?_
  intro _ _ hq
  rw [hq.1, hq.2]
  show mGo w kX7_designBlock 0 0 21 [some (va_rf v0), some (.int v1), some (.int v2), some (.int v3)] [.int x6, .int x5] h Q
  refine mGo.iand (n := 22) dX7_designBlock_21 rfl ?_
  refine mGo.iconst (n := 23) (v := (1 : Int32)) dX7_designBlock_22 (by decide) rfl ?_
  refine mGo.iload_n (n := 24) (x := v2) dX7_designBlock_23 rfl rfl ?_
  refine mGo.ishl (n := 25) dX7_designBlock_24 rfl ?_
  refine mGo.iconst (n := 26) (v := (-1 : Int32)) dX7_designBlock_25 (by decide) rfl ?_
  refine mGo.ixor (n := 27) dX7_designBlock_26 rfl ?_
  refine mGo.iand (n := 28) dX7_designBlock_27 rfl ?_
  cases e
  exact mGo.iret dX7_designBlock_28 rfl (Nat.le_of_ble_eq_true rfl) (Nat.le_of_ble_eq_true rfl) q
theorem e_X7_designBlock {w : mWp} (v0 : Option Nat) (v1 : Int32) (v2 : Int32) (v3 : Int32) (h : mH) {res : Int32} (e : f_X7_designBlock v0 v1 v2 v3 h = some res) : mEx w zX7_designBlock (mRoom 3 0 0) [va_rf v0, .int v1, .int v2, .int v3] h (fun r h2 => r = some (.int res) ∧ h2 = h) := by
  refine mEx.of (by decide +kernel) (show mEnt [va_rf v0, .int v1, .int v2, .int v3] 4 = [some (va_rf v0), some (.int v1), some (.int v2), some (.int v3)] by rw [mEnt_r, mEnt_i, mEnt_i, mEnt_i] <;> rfl) (by simp only [List.map_cons, List.map_nil, mRfc, mCi, mCj, List.sum_cons, List.sum_nil]; exact Nat.le_of_ble_eq_true rfl) ?_
  refine g_X7_designBlock v0 v1 v2 v3 h e ?_
  exact ⟨rfl, rfl⟩
theorem s_X7_designBlock (v0 : Option Nat) (v1 : Int32) (v2 : Int32) (v3 : Int32) (h : mH) {res : Int32} (e : f_X7_designBlock v0 v1 v2 v3 h = some res) : mIs h v0 6 = some () := by
  unfold f_X7_designBlock at e
  obtain ⟨u, e1, _⟩ := mBind e
  cases u
  exact e1
-- X8_init
def kX8_init : mK := (cX8_init, RX8, 2, none, "<init>", mRoom 3 49 2866)
def zX8_init : mY := (yX8_init, cX8_init, 2, none)
set_option maxRecDepth 100000 in
theorem sf_RX8_11 : mFld RX8 11 7 0 := ⟨by decide, by decide, Or.inl (mT_at 272 (by decide +kernel) rfl)⟩
set_option maxRecDepth 100000 in
theorem sc_RX8_15 : mSI' RX8 15 zX7_init 0 := ⟨Or.inr ⟨_, mNest_at 25 (x := Cond.methodLinkNest RX8 15 yX7_init "SignTables") (by decide +kernel) rfl⟩, mT_at 108 (by decide +kernel) rfl, mT_at 84 (by decide +kernel) rfl, mT_at 109 (by decide +kernel) rfl, ⟨by decide +kernel, by decide +kernel, by decide +kernel⟩, rfl, rfl⟩
set_option maxRecDepth 100000 in
theorem sf_RX8_16 : mFld RX8 16 7 1 := ⟨by decide, by decide, Or.inl (mT_at 273 (by decide +kernel) rfl)⟩
set_option maxRecDepth 100000 in
theorem sf_RX8_20 : mFld RX8 20 7 3 := ⟨by decide, by decide, Or.inl (mT_at 275 (by decide +kernel) rfl)⟩
set_option maxRecDepth 100000 in
theorem sf_RX8_23 : mFld RX8 23 7 4 := ⟨by decide, by decide, Or.inl (mT_at 276 (by decide +kernel) rfl)⟩
set_option maxRecDepth 100000 in
theorem sc_RX8_28 : mSI' RX8 28 zX0_init 0 := ⟨Or.inr ⟨_, mNest_at 73 (x := Cond.methodLinkNest RX8 28 yX0_init "SignTables") (by decide +kernel) rfl⟩, mT_at 156 (by decide +kernel) rfl, mT_at 85 (by decide +kernel) rfl, mT_at 157 (by decide +kernel) rfl, ⟨by decide +kernel, by decide +kernel, by decide +kernel⟩, rfl, rfl⟩
set_option maxRecDepth 100000 in
theorem sf_RX8_29 : mFld RX8 29 7 5 := ⟨by decide, by decide, Or.inl (mT_at 277 (by decide +kernel) rfl)⟩
set_option maxRecDepth 100000 in
theorem sc_RX8_35 : mSI' RX8 35 zX4_init 0 := ⟨Or.inr ⟨_, mNest_at 87 (x := Cond.methodLinkNest RX8 35 yX4_init "SignTables") (by decide +kernel) rfl⟩, mT_at 170 (by decide +kernel) rfl, mT_at 86 (by decide +kernel) rfl, mT_at 171 (by decide +kernel) rfl, ⟨by decide +kernel, by decide +kernel, by decide +kernel⟩, rfl, rfl⟩
set_option maxRecDepth 100000 in
theorem sf_RX8_36 : mFld RX8 36 7 6 := ⟨by decide, by decide, Or.inl (mT_at 278 (by decide +kernel) rfl)⟩
set_option maxRecDepth 100000 in
theorem sc_RX8_42 : mSI' RX8 42 zX3_init 0 := ⟨Or.inr ⟨_, mNest_at 122 (x := Cond.methodLinkNest RX8 42 yX3_init "SignTables") (by decide +kernel) rfl⟩, mT_at 205 (by decide +kernel) rfl, mT_at 87 (by decide +kernel) rfl, mT_at 206 (by decide +kernel) rfl, ⟨by decide +kernel, by decide +kernel, by decide +kernel⟩, rfl, rfl⟩
set_option maxRecDepth 100000 in
theorem sf_RX8_43 : mFld RX8 43 7 7 := ⟨by decide, by decide, Or.inl (mT_at 279 (by decide +kernel) rfl)⟩
set_option maxRecDepth 100000 in
theorem sc_RX8_49 : mSI' RX8 49 zX6_init 0 := ⟨Or.inr ⟨_, mNest_at 148 (x := Cond.methodLinkNest RX8 49 yX6_init "SignTables") (by decide +kernel) rfl⟩, mT_at 231 (by decide +kernel) rfl, mT_at 88 (by decide +kernel) rfl, mT_at 232 (by decide +kernel) rfl, ⟨by decide +kernel, by decide +kernel, by decide +kernel⟩, rfl, rfl⟩
set_option maxRecDepth 100000 in
theorem sf_RX8_50 : mFld RX8 50 7 8 := ⟨by decide, by decide, Or.inl (mT_at 280 (by decide +kernel) rfl)⟩
set_option maxRecDepth 100000 in
theorem sc_RX8_56 : mSI' RX8 56 zX1_init 0 := ⟨Or.inr ⟨_, mNest_at 162 (x := Cond.methodLinkNest RX8 56 yX1_init "SignTables") (by decide +kernel) rfl⟩, mT_at 245 (by decide +kernel) rfl, mT_at 89 (by decide +kernel) rfl, mT_at 246 (by decide +kernel) rfl, ⟨by decide +kernel, by decide +kernel, by decide +kernel⟩, rfl, rfl⟩
set_option maxRecDepth 100000 in
theorem sf_RX8_57 : mFld RX8 57 7 9 := ⟨by decide, by decide, Or.inl (mT_at 281 (by decide +kernel) rfl)⟩
set_option maxRecDepth 100000 in
theorem sc_RX8_63 : mSI' RX8 63 zX5_init 0 := ⟨Or.inr ⟨_, mNest_at 172 (x := Cond.methodLinkNest RX8 63 yX5_init "SignTables") (by decide +kernel) rfl⟩, mT_at 255 (by decide +kernel) rfl, mT_at 90 (by decide +kernel) rfl, mT_at 256 (by decide +kernel) rfl, ⟨by decide +kernel, by decide +kernel, by decide +kernel⟩, rfl, rfl⟩
set_option maxRecDepth 100000 in
theorem sf_RX8_64 : mFld RX8 64 7 10 := ⟨by decide, by decide, Or.inl (mT_at 282 (by decide +kernel) rfl)⟩
def f_X8_init (v0 : Nat) (h : mH) : Option (mH) :=
  (mIs h (some v0) 7).bind fun _ =>
  (some (mNew h (.inl (6, .inr (.inr (fun _ => none)))))).bind fun h1 =>
  (mPF h1 (some v0) 7 0 (va_rf (some (h.1 + 1)))).bind fun h2 =>
  (mGR h2 (some v0) 7 0).bind fun x3 =>
  (some (mNew h2 (.inr (6, [.int 0, .null, .null, .null, .int 0, .int 0, .int 0, .int 0])))).bind fun h4 =>
  (f_X7_init (h2.1 + 1) h4).bind fun x5 =>
  (mSR x5 x3 (0 : Int32) (some (h2.1 + 1))).bind fun h6 =>
  (mGR h6 (some v0) 7 0).bind fun x7 =>
  (some (mNew h6 (.inr (6, [.int 0, .null, .null, .null, .int 0, .int 0, .int 0, .int 0])))).bind fun h8 =>
  (f_X7_init (h6.1 + 1) h8).bind fun x9 =>
  (mSR x9 x7 (1 : Int32) (some (h6.1 + 1))).bind fun h10 =>
  (mGR h10 (some v0) 7 0).bind fun x11 =>
  (some (mNew h10 (.inr (6, [.int 0, .null, .null, .null, .int 0, .int 0, .int 0, .int 0])))).bind fun h12 =>
  (f_X7_init (h10.1 + 1) h12).bind fun x13 =>
  (mSR x13 x11 (2 : Int32) (some (h10.1 + 1))).bind fun h14 =>
  (mGR h14 (some v0) 7 0).bind fun x15 =>
  (some (mNew h14 (.inr (6, [.int 0, .null, .null, .null, .int 0, .int 0, .int 0, .int 0])))).bind fun h16 =>
  (f_X7_init (h14.1 + 1) h16).bind fun x17 =>
  (mSR x17 x15 (3 : Int32) (some (h14.1 + 1))).bind fun h18 =>
  (mGR h18 (some v0) 7 0).bind fun x19 =>
  (some (mNew h18 (.inr (6, [.int 0, .null, .null, .null, .int 0, .int 0, .int 0, .int 0])))).bind fun h20 =>
  (f_X7_init (h18.1 + 1) h20).bind fun x21 =>
  (mSR x21 x19 (4 : Int32) (some (h18.1 + 1))).bind fun h22 =>
  (mGR h22 (some v0) 7 0).bind fun x23 =>
  (some (mNew h22 (.inr (6, [.int 0, .null, .null, .null, .int 0, .int 0, .int 0, .int 0])))).bind fun h24 =>
  (f_X7_init (h22.1 + 1) h24).bind fun x25 =>
  (mSR x25 x23 (5 : Int32) (some (h22.1 + 1))).bind fun h26 =>
  (some (mNew h26 (.inl (28, .inl (fun _ => 0))))).bind fun h27 =>
  (mPF h27 (some v0) 7 1 (va_rf (some (h26.1 + 1)))).bind fun h28 =>
  (some (mNew h28 (.inl (28, .inl (fun _ => 0))))).bind fun h29 =>
  (mPF h29 (some v0) 7 3 (va_rf (some (h28.1 + 1)))).bind fun h30 =>
  (some (mNew h30 (.inl (28, .inl (fun _ => 0))))).bind fun h31 =>
  (mPF h31 (some v0) 7 4 (va_rf (some (h30.1 + 1)))).bind fun h32 =>
  (some (mNew h32 (.inr (0, [.null, .null])))).bind fun h33 =>
  (f_X0_init (h32.1 + 1) h33).bind fun x34 =>
  (mPF x34 (some v0) 7 5 (va_rf (some (h32.1 + 1)))).bind fun h35 =>
  (some (mNew h35 (.inr (3, [.int 0, .null, .null, .int 0, .int 0, .null, .null, .null, .null])))).bind fun h36 =>
  (f_X4_init (h35.1 + 1) h36).bind fun x37 =>
  (mPF x37 (some v0) 7 6 (va_rf (some (h35.1 + 1)))).bind fun h38 =>
  (some (mNew h38 (.inr (2, [.int 0, .null, .int 0, .null, .null, .null])))).bind fun h39 =>
  (f_X3_init (h38.1 + 1) h39).bind fun x40 =>
  (mPF x40 (some v0) 7 7 (va_rf (some (h38.1 + 1)))).bind fun h41 =>
  (some (mNew h41 (.inr (5, [.null, .null])))).bind fun h42 =>
  (f_X6_init (h41.1 + 1) h42).bind fun x43 =>
  (mPF x43 (some v0) 7 8 (va_rf (some (h41.1 + 1)))).bind fun h44 =>
  (some (mNew h44 (.inr (1, [.null])))).bind fun h45 =>
  (f_X1_init (h44.1 + 1) h45).bind fun x46 =>
  (mPF x46 (some v0) 7 9 (va_rf (some (h44.1 + 1)))).bind fun h47 =>
  (some (mNew h47 (.inr (4, [.null, .null, .int 0, .null])))).bind fun h48 =>
  (f_X5_init (h47.1 + 1) h48).bind fun x49 =>
  (mPF x49 (some v0) 7 10 (va_rf (some (h47.1 + 1)))).bind fun h50 =>
  some h50
set_option maxRecDepth 100000 in
set_option maxHeartbeats 4000000 in
theorem g_X8_init {w : mWp} {Q : Option Value → mH → Prop} (v0 : Nat) (h : mH) {res : mH} (e : f_X8_init v0 h = some res) (q : (fun r : mH => Q none r) res) : mGo w kX8_init 0 0 0 [some (va_rf (some v0)), none] [] h Q := by
  unfold f_X8_init at e
  obtain ⟨_, _, e⟩ := mBind e
  refine mGo.aload_n (n := 1) (r := (some v0)) dX8_init_0 rfl rfl ?_
  refine mGo.objI (n := 4) dX8_init_1 (mT_at 101 (by decide +kernel) rfl) (mT_at 102 (by decide +kernel) rfl) (mT_at 103 (by decide +kernel) rfl) (Nat.le_of_ble_eq_true rfl) (Nat.le_of_ble_eq_true rfl) rfl ?_
  refine mGo.aload_n (n := 5) (r := (some v0)) dX8_init_4 rfl rfl ?_
  refine mGo.bipush (n := 7) (v := (6 : Int32)) dX8_init_5 (by decide) rfl ?_
  obtain ⟨h1, e_h1, e⟩ := mBind e
  refine mGo.newR' (n := 10) (N := 6) dX8_init_7 (mT_at 104 (by decide +kernel) rfl) (by decide) (by decide) (by decide) (Nat.le_of_ble_eq_true rfl) (Nat.le_of_ble_eq_true rfl) rfl e_h1 ?_
  show mGo w kX8_init 1 6 10 [some (va_rf (some v0)), none] [va_rf (some (h.1 + 1)), va_rf (some v0)] h1 Q
  obtain ⟨h2, e_h2, e⟩ := mBind e
  refine mGo.putR (n := 13) dX8_init_10 sf_RX8_11 (Or.inr ⟨rfl, rfl, rfl, mT_at 272 (by decide +kernel) rfl⟩) rfl e_h2 rfl ?_
  refine mGo.iconst (n := 14) (v := (0 : Int32)) dX8_init_13 (by decide) rfl ?_
  refine mGo.istore_n (n := 15) (ls' := [some (va_rf (some v0)), some (.int (0 : Int32))]) dX8_init_14 ((mSt_set (fun u _ hu => by cases hu; exact mRfc _)).trans rfl) (Nat.le_of_ble_eq_true rfl) rfl ?_
  refine mGo.iload_n (n := 16) (x := (0 : Int32)) dX8_init_15 rfl rfl ?_
  refine mGo.bipush (n := 18) (v := (6 : Int32)) dX8_init_16 (by decide) rfl ?_
  refine mGo.icmp_ge (tgt := 40) (n := 21) dX8_init_18 (by decide) rfl (fun hc => absurd hc (by decide)) (fun _ => ?_)
  refine mGo.aload_n (n := 22) (r := (some v0)) dX8_init_21 rfl rfl ?_
  obtain ⟨x3, e_x3, e⟩ := mBind e
  refine mGo.getR (n := 25) dX8_init_22 sf_RX8_11 e_x3 rfl ?_
  refine mGo.iload_n (n := 26) (x := (0 : Int32)) dX8_init_25 rfl rfl ?_
  obtain ⟨h4, e_h4, e⟩ := mBind e
  refine mGo.newO' (n := 29) (ci := 6) (fs := [.int 0, .null, .null, .null, .int 0, .int 0, .int 0, .int 0]) dX8_init_26 (by decide) (mT_at 104 (by decide +kernel) rfl) (mT_at 106 (by decide +kernel) rfl) (mT_at 84 (by decide +kernel) rfl) (by decide) (Nat.le_of_ble_eq_true rfl) (Nat.le_of_ble_eq_true rfl) rfl e_h4 ?_
  show mGo w kX8_init 2 14 29 [some (va_rf (some v0)), some (.int (0 : Int32))] [va_rf (some (h2.1 + 1)), .int (0 : Int32), va_rf x3] h4 Q
  refine mGo.dup (n := 30) dX8_init_29 (mRfc _) rfl ?_
  obtain ⟨x5, e_x5, e⟩ := mBind e
  refine mGo.callI (n := 33) (y := (yX7_init, cX7_init, 1)) (R' := (mRoom (2) 3 84)) (as := []) (st := [va_rf (some (h2.1 + 1)), .int (0 : Int32), va_rf x3]) (b := (h2.1 + 1)) dX8_init_30 sc_RX8_15 rfl (e_X7_init (h2.1 + 1) h4 e_x5) (mFit_of rfl (Nat.le_of_ble_eq_true rfl) (by decide) (Nat.le_of_ble_eq_true rfl) (Nat.le_of_ble_eq_true rfl)) (mCat8 (Nat.le_of_ble_eq_true rfl)) rfl rfl ?_
  intro _ _ hq
  rw [hq.1, hq.2]
  show mGo w kX8_init 5 98 33 [some (va_rf (some v0)), some (.int (0 : Int32))] [va_rf (some (h2.1 + 1)), .int (0 : Int32), va_rf x3] x5 Q
  obtain ⟨h6, e_h6, e⟩ := mBind e
  refine mGo.aast (n := 34) dX8_init_33 e_h6 rfl ?_
  refine mGo.iinc (n := 37) (x := (0 : Int32)) (v := (1 : Int32)) (ls' := [some (va_rf (some v0)), some (.int (1 : Int32))]) dX8_init_34 rfl (by decide) ((mSt_set (fun u _ hu => by cases hu; exact mRfc _)).trans rfl) (Nat.le_of_ble_eq_true rfl) rfl ?_
  refine mGo.goto (tgt := 15) dX8_init_37 (by decide) ?_
  refine mGo.iload_n (n := 16) (x := (1 : Int32)) dX8_init_15 rfl rfl ?_
  refine mGo.bipush (n := 18) (v := (6 : Int32)) dX8_init_16 (by decide) rfl ?_
  refine mGo.icmp_ge (tgt := 40) (n := 21) dX8_init_18 (by decide) rfl (fun hc => absurd hc (by decide)) (fun _ => ?_)
  refine mGo.aload_n (n := 22) (r := (some v0)) dX8_init_21 rfl rfl ?_
  obtain ⟨x7, e_x7, e⟩ := mBind e
  refine mGo.getR (n := 25) dX8_init_22 sf_RX8_11 e_x7 rfl ?_
  refine mGo.iload_n (n := 26) (x := (1 : Int32)) dX8_init_25 rfl rfl ?_
  obtain ⟨h8, e_h8, e⟩ := mBind e
  refine mGo.newO' (n := 29) (ci := 6) (fs := [.int 0, .null, .null, .null, .int 0, .int 0, .int 0, .int 0]) dX8_init_26 (by decide) (mT_at 104 (by decide +kernel) rfl) (mT_at 106 (by decide +kernel) rfl) (mT_at 84 (by decide +kernel) rfl) (by decide) (Nat.le_of_ble_eq_true rfl) (Nat.le_of_ble_eq_true rfl) rfl e_h8 ?_
  show mGo w kX8_init 6 106 29 [some (va_rf (some v0)), some (.int (1 : Int32))] [va_rf (some (h6.1 + 1)), .int (1 : Int32), va_rf x7] h8 Q
  refine mGo.dup (n := 30) dX8_init_29 (mRfc _) rfl ?_
  obtain ⟨x9, e_x9, e⟩ := mBind e
  refine mGo.callI (n := 33) (y := (yX7_init, cX7_init, 1)) (R' := (mRoom (2) 3 84)) (as := []) (st := [va_rf (some (h6.1 + 1)), .int (1 : Int32), va_rf x7]) (b := (h6.1 + 1)) dX8_init_30 sc_RX8_15 rfl (e_X7_init (h6.1 + 1) h8 e_x9) (mFit_of rfl (Nat.le_of_ble_eq_true rfl) (by decide) (Nat.le_of_ble_eq_true rfl) (Nat.le_of_ble_eq_true rfl)) (mCat8 (Nat.le_of_ble_eq_true rfl)) rfl rfl ?_
  intro _ _ hq
  rw [hq.1, hq.2]
  show mGo w kX8_init 9 190 33 [some (va_rf (some v0)), some (.int (1 : Int32))] [va_rf (some (h6.1 + 1)), .int (1 : Int32), va_rf x7] x9 Q
  obtain ⟨h10, e_h10, e⟩ := mBind e
  refine mGo.aast (n := 34) dX8_init_33 e_h10 rfl ?_
  refine mGo.iinc (n := 37) (x := (1 : Int32)) (v := (2 : Int32)) (ls' := [some (va_rf (some v0)), some (.int (2 : Int32))]) dX8_init_34 rfl (by decide) ((mSt_set (fun u _ hu => by cases hu; exact mRfc _)).trans rfl) (Nat.le_of_ble_eq_true rfl) rfl ?_
  refine mGo.goto (tgt := 15) dX8_init_37 (by decide) ?_
  refine mGo.iload_n (n := 16) (x := (2 : Int32)) dX8_init_15 rfl rfl ?_
  refine mGo.bipush (n := 18) (v := (6 : Int32)) dX8_init_16 (by decide) rfl ?_
  refine mGo.icmp_ge (tgt := 40) (n := 21) dX8_init_18 (by decide) rfl (fun hc => absurd hc (by decide)) (fun _ => ?_)
  refine mGo.aload_n (n := 22) (r := (some v0)) dX8_init_21 rfl rfl ?_
  obtain ⟨x11, e_x11, e⟩ := mBind e
  refine mGo.getR (n := 25) dX8_init_22 sf_RX8_11 e_x11 rfl ?_
  refine mGo.iload_n (n := 26) (x := (2 : Int32)) dX8_init_25 rfl rfl ?_
  obtain ⟨h12, e_h12, e⟩ := mBind e
  refine mGo.newO' (n := 29) (ci := 6) (fs := [.int 0, .null, .null, .null, .int 0, .int 0, .int 0, .int 0]) dX8_init_26 (by decide) (mT_at 104 (by decide +kernel) rfl) (mT_at 106 (by decide +kernel) rfl) (mT_at 84 (by decide +kernel) rfl) (by decide) (Nat.le_of_ble_eq_true rfl) (Nat.le_of_ble_eq_true rfl) rfl e_h12 ?_
  show mGo w kX8_init 10 198 29 [some (va_rf (some v0)), some (.int (2 : Int32))] [va_rf (some (h10.1 + 1)), .int (2 : Int32), va_rf x11] h12 Q
  refine mGo.dup (n := 30) dX8_init_29 (mRfc _) rfl ?_
  obtain ⟨x13, e_x13, e⟩ := mBind e
  refine mGo.callI (n := 33) (y := (yX7_init, cX7_init, 1)) (R' := (mRoom (2) 3 84)) (as := []) (st := [va_rf (some (h10.1 + 1)), .int (2 : Int32), va_rf x11]) (b := (h10.1 + 1)) dX8_init_30 sc_RX8_15 rfl (e_X7_init (h10.1 + 1) h12 e_x13) (mFit_of rfl (Nat.le_of_ble_eq_true rfl) (by decide) (Nat.le_of_ble_eq_true rfl) (Nat.le_of_ble_eq_true rfl)) (mCat8 (Nat.le_of_ble_eq_true rfl)) rfl rfl ?_
  intro _ _ hq
  rw [hq.1, hq.2]
  show mGo w kX8_init 13 282 33 [some (va_rf (some v0)), some (.int (2 : Int32))] [va_rf (some (h10.1 + 1)), .int (2 : Int32), va_rf x11] x13 Q
  obtain ⟨h14, e_h14, e⟩ := mBind e
  refine mGo.aast (n := 34) dX8_init_33 e_h14 rfl ?_
  refine mGo.iinc (n := 37) (x := (2 : Int32)) (v := (3 : Int32)) (ls' := [some (va_rf (some v0)), some (.int (3 : Int32))]) dX8_init_34 rfl (by decide) ((mSt_set (fun u _ hu => by cases hu; exact mRfc _)).trans rfl) (Nat.le_of_ble_eq_true rfl) rfl ?_
  refine mGo.goto (tgt := 15) dX8_init_37 (by decide) ?_
  refine mGo.iload_n (n := 16) (x := (3 : Int32)) dX8_init_15 rfl rfl ?_
  refine mGo.bipush (n := 18) (v := (6 : Int32)) dX8_init_16 (by decide) rfl ?_
  refine mGo.icmp_ge (tgt := 40) (n := 21) dX8_init_18 (by decide) rfl (fun hc => absurd hc (by decide)) (fun _ => ?_)
  refine mGo.aload_n (n := 22) (r := (some v0)) dX8_init_21 rfl rfl ?_
  obtain ⟨x15, e_x15, e⟩ := mBind e
  refine mGo.getR (n := 25) dX8_init_22 sf_RX8_11 e_x15 rfl ?_
  refine mGo.iload_n (n := 26) (x := (3 : Int32)) dX8_init_25 rfl rfl ?_
  obtain ⟨h16, e_h16, e⟩ := mBind e
  refine mGo.newO' (n := 29) (ci := 6) (fs := [.int 0, .null, .null, .null, .int 0, .int 0, .int 0, .int 0]) dX8_init_26 (by decide) (mT_at 104 (by decide +kernel) rfl) (mT_at 106 (by decide +kernel) rfl) (mT_at 84 (by decide +kernel) rfl) (by decide) (Nat.le_of_ble_eq_true rfl) (Nat.le_of_ble_eq_true rfl) rfl e_h16 ?_
  show mGo w kX8_init 14 290 29 [some (va_rf (some v0)), some (.int (3 : Int32))] [va_rf (some (h14.1 + 1)), .int (3 : Int32), va_rf x15] h16 Q
  refine mGo.dup (n := 30) dX8_init_29 (mRfc _) rfl ?_
  obtain ⟨x17, e_x17, e⟩ := mBind e
  refine mGo.callI (n := 33) (y := (yX7_init, cX7_init, 1)) (R' := (mRoom (2) 3 84)) (as := []) (st := [va_rf (some (h14.1 + 1)), .int (3 : Int32), va_rf x15]) (b := (h14.1 + 1)) dX8_init_30 sc_RX8_15 rfl (e_X7_init (h14.1 + 1) h16 e_x17) (mFit_of rfl (Nat.le_of_ble_eq_true rfl) (by decide) (Nat.le_of_ble_eq_true rfl) (Nat.le_of_ble_eq_true rfl)) (mCat8 (Nat.le_of_ble_eq_true rfl)) rfl rfl ?_
  intro _ _ hq
  rw [hq.1, hq.2]
  show mGo w kX8_init 17 374 33 [some (va_rf (some v0)), some (.int (3 : Int32))] [va_rf (some (h14.1 + 1)), .int (3 : Int32), va_rf x15] x17 Q
  obtain ⟨h18, e_h18, e⟩ := mBind e
  refine mGo.aast (n := 34) dX8_init_33 e_h18 rfl ?_
  refine mGo.iinc (n := 37) (x := (3 : Int32)) (v := (4 : Int32)) (ls' := [some (va_rf (some v0)), some (.int (4 : Int32))]) dX8_init_34 rfl (by decide) ((mSt_set (fun u _ hu => by cases hu; exact mRfc _)).trans rfl) (Nat.le_of_ble_eq_true rfl) rfl ?_
  refine mGo.goto (tgt := 15) dX8_init_37 (by decide) ?_
  refine mGo.iload_n (n := 16) (x := (4 : Int32)) dX8_init_15 rfl rfl ?_
  refine mGo.bipush (n := 18) (v := (6 : Int32)) dX8_init_16 (by decide) rfl ?_
  refine mGo.icmp_ge (tgt := 40) (n := 21) dX8_init_18 (by decide) rfl (fun hc => absurd hc (by decide)) (fun _ => ?_)
  refine mGo.aload_n (n := 22) (r := (some v0)) dX8_init_21 rfl rfl ?_
  obtain ⟨x19, e_x19, e⟩ := mBind e
  refine mGo.getR (n := 25) dX8_init_22 sf_RX8_11 e_x19 rfl ?_
  refine mGo.iload_n (n := 26) (x := (4 : Int32)) dX8_init_25 rfl rfl ?_
  obtain ⟨h20, e_h20, e⟩ := mBind e
  refine mGo.newO' (n := 29) (ci := 6) (fs := [.int 0, .null, .null, .null, .int 0, .int 0, .int 0, .int 0]) dX8_init_26 (by decide) (mT_at 104 (by decide +kernel) rfl) (mT_at 106 (by decide +kernel) rfl) (mT_at 84 (by decide +kernel) rfl) (by decide) (Nat.le_of_ble_eq_true rfl) (Nat.le_of_ble_eq_true rfl) rfl e_h20 ?_
  show mGo w kX8_init 18 382 29 [some (va_rf (some v0)), some (.int (4 : Int32))] [va_rf (some (h18.1 + 1)), .int (4 : Int32), va_rf x19] h20 Q
  refine mGo.dup (n := 30) dX8_init_29 (mRfc _) rfl ?_
  obtain ⟨x21, e_x21, e⟩ := mBind e
  refine mGo.callI (n := 33) (y := (yX7_init, cX7_init, 1)) (R' := (mRoom (2) 3 84)) (as := []) (st := [va_rf (some (h18.1 + 1)), .int (4 : Int32), va_rf x19]) (b := (h18.1 + 1)) dX8_init_30 sc_RX8_15 rfl (e_X7_init (h18.1 + 1) h20 e_x21) (mFit_of rfl (Nat.le_of_ble_eq_true rfl) (by decide) (Nat.le_of_ble_eq_true rfl) (Nat.le_of_ble_eq_true rfl)) (mCat8 (Nat.le_of_ble_eq_true rfl)) rfl rfl ?_
  intro _ _ hq
  rw [hq.1, hq.2]
  show mGo w kX8_init 21 466 33 [some (va_rf (some v0)), some (.int (4 : Int32))] [va_rf (some (h18.1 + 1)), .int (4 : Int32), va_rf x19] x21 Q
  obtain ⟨h22, e_h22, e⟩ := mBind e
  refine mGo.aast (n := 34) dX8_init_33 e_h22 rfl ?_
  refine mGo.iinc (n := 37) (x := (4 : Int32)) (v := (5 : Int32)) (ls' := [some (va_rf (some v0)), some (.int (5 : Int32))]) dX8_init_34 rfl (by decide) ((mSt_set (fun u _ hu => by cases hu; exact mRfc _)).trans rfl) (Nat.le_of_ble_eq_true rfl) rfl ?_
  refine mGo.goto (tgt := 15) dX8_init_37 (by decide) ?_
  refine mGo.iload_n (n := 16) (x := (5 : Int32)) dX8_init_15 rfl rfl ?_
  refine mGo.bipush (n := 18) (v := (6 : Int32)) dX8_init_16 (by decide) rfl ?_
  refine mGo.icmp_ge (tgt := 40) (n := 21) dX8_init_18 (by decide) rfl (fun hc => absurd hc (by decide)) (fun _ => ?_)
  refine mGo.aload_n (n := 22) (r := (some v0)) dX8_init_21 rfl rfl ?_
  obtain ⟨x23, e_x23, e⟩ := mBind e
  refine mGo.getR (n := 25) dX8_init_22 sf_RX8_11 e_x23 rfl ?_
  refine mGo.iload_n (n := 26) (x := (5 : Int32)) dX8_init_25 rfl rfl ?_
  obtain ⟨h24, e_h24, e⟩ := mBind e
  refine mGo.newO' (n := 29) (ci := 6) (fs := [.int 0, .null, .null, .null, .int 0, .int 0, .int 0, .int 0]) dX8_init_26 (by decide) (mT_at 104 (by decide +kernel) rfl) (mT_at 106 (by decide +kernel) rfl) (mT_at 84 (by decide +kernel) rfl) (by decide) (Nat.le_of_ble_eq_true rfl) (Nat.le_of_ble_eq_true rfl) rfl e_h24 ?_
  show mGo w kX8_init 22 474 29 [some (va_rf (some v0)), some (.int (5 : Int32))] [va_rf (some (h22.1 + 1)), .int (5 : Int32), va_rf x23] h24 Q
  refine mGo.dup (n := 30) dX8_init_29 (mRfc _) rfl ?_
  obtain ⟨x25, e_x25, e⟩ := mBind e
  refine mGo.callI (n := 33) (y := (yX7_init, cX7_init, 1)) (R' := (mRoom (2) 3 84)) (as := []) (st := [va_rf (some (h22.1 + 1)), .int (5 : Int32), va_rf x23]) (b := (h22.1 + 1)) dX8_init_30 sc_RX8_15 rfl (e_X7_init (h22.1 + 1) h24 e_x25) (mFit_of rfl (Nat.le_of_ble_eq_true rfl) (by decide) (Nat.le_of_ble_eq_true rfl) (Nat.le_of_ble_eq_true rfl)) (mCat8 (Nat.le_of_ble_eq_true rfl)) rfl rfl ?_
  intro _ _ hq
  rw [hq.1, hq.2]
  show mGo w kX8_init 25 558 33 [some (va_rf (some v0)), some (.int (5 : Int32))] [va_rf (some (h22.1 + 1)), .int (5 : Int32), va_rf x23] x25 Q
  obtain ⟨h26, e_h26, e⟩ := mBind e
  refine mGo.aast (n := 34) dX8_init_33 e_h26 rfl ?_
  refine mGo.iinc (n := 37) (x := (5 : Int32)) (v := (6 : Int32)) (ls' := [some (va_rf (some v0)), some (.int (6 : Int32))]) dX8_init_34 rfl (by decide) ((mSt_set (fun u _ hu => by cases hu; exact mRfc _)).trans rfl) (Nat.le_of_ble_eq_true rfl) rfl ?_
  refine mGo.goto (tgt := 15) dX8_init_37 (by decide) ?_
  refine mGo.iload_n (n := 16) (x := (6 : Int32)) dX8_init_15 rfl rfl ?_
  refine mGo.bipush (n := 18) (v := (6 : Int32)) dX8_init_16 (by decide) rfl ?_
  refine mGo.icmp_ge (tgt := 40) (n := 21) dX8_init_18 (by decide) rfl (fun _ => ?_) (fun hc => absurd hc (by decide))
  refine mGo.aload_n (n := 41) (r := (some v0)) dX8_init_40 rfl rfl ?_
  refine mGo.bipush (n := 43) (v := (28 : Int32)) dX8_init_41 (by decide) rfl ?_
  obtain ⟨h27, e_h27, e⟩ := mBind e
  refine mGo.newI' (n := 45) (N := 28) dX8_init_43 (by decide) (by decide) (by decide) (mT_at 152 (by decide +kernel) rfl) (Nat.le_of_ble_eq_true rfl) (Nat.le_of_ble_eq_true rfl) rfl e_h27 ?_
  show mGo w kX8_init 26 586 45 [some (va_rf (some v0)), some (.int (6 : Int32))] [va_rf (some (h26.1 + 1)), va_rf (some v0)] h27 Q
  obtain ⟨h28, e_h28, e⟩ := mBind e
  refine mGo.putR (n := 48) dX8_init_45 sf_RX8_16 (Or.inr ⟨rfl, rfl, rfl, mT_at 273 (by decide +kernel) rfl⟩) rfl e_h28 rfl ?_
  refine mGo.aload_n (n := 49) (r := (some v0)) dX8_init_48 rfl rfl ?_
  refine mGo.bipush (n := 51) (v := (28 : Int32)) dX8_init_49 (by decide) rfl ?_
  obtain ⟨h29, e_h29, e⟩ := mBind e
  refine mGo.newI' (n := 53) (N := 28) dX8_init_51 (by decide) (by decide) (by decide) (mT_at 152 (by decide +kernel) rfl) (Nat.le_of_ble_eq_true rfl) (Nat.le_of_ble_eq_true rfl) rfl e_h29 ?_
  show mGo w kX8_init 27 614 53 [some (va_rf (some v0)), some (.int (6 : Int32))] [va_rf (some (h28.1 + 1)), va_rf (some v0)] h29 Q
  obtain ⟨h30, e_h30, e⟩ := mBind e
  refine mGo.putR (n := 56) dX8_init_53 sf_RX8_20 (Or.inr ⟨rfl, rfl, rfl, mT_at 275 (by decide +kernel) rfl⟩) rfl e_h30 rfl ?_
  refine mGo.aload_n (n := 57) (r := (some v0)) dX8_init_56 rfl rfl ?_
  refine mGo.bipush (n := 59) (v := (28 : Int32)) dX8_init_57 (by decide) rfl ?_
  obtain ⟨h31, e_h31, e⟩ := mBind e
  refine mGo.newI' (n := 61) (N := 28) dX8_init_59 (by decide) (by decide) (by decide) (mT_at 152 (by decide +kernel) rfl) (Nat.le_of_ble_eq_true rfl) (Nat.le_of_ble_eq_true rfl) rfl e_h31 ?_
  show mGo w kX8_init 28 642 61 [some (va_rf (some v0)), some (.int (6 : Int32))] [va_rf (some (h30.1 + 1)), va_rf (some v0)] h31 Q
  obtain ⟨h32, e_h32, e⟩ := mBind e
  refine mGo.putR (n := 64) dX8_init_61 sf_RX8_23 (Or.inr ⟨rfl, rfl, rfl, mT_at 276 (by decide +kernel) rfl⟩) rfl e_h32 rfl ?_
  refine mGo.aload_n (n := 65) (r := (some v0)) dX8_init_64 rfl rfl ?_
  obtain ⟨h33, e_h33, e⟩ := mBind e
  refine mGo.newO' (n := 68) (ci := 0) (fs := [.null, .null]) dX8_init_65 (by decide) (mT_at 153 (by decide +kernel) rfl) (mT_at 154 (by decide +kernel) rfl) (mT_at 85 (by decide +kernel) rfl) (by decide) (Nat.le_of_ble_eq_true rfl) (Nat.le_of_ble_eq_true rfl) rfl e_h33 ?_
  show mGo w kX8_init 29 644 68 [some (va_rf (some v0)), some (.int (6 : Int32))] [va_rf (some (h32.1 + 1)), va_rf (some v0)] h33 Q
  refine mGo.dup (n := 69) dX8_init_68 (mRfc _) rfl ?_
  obtain ⟨x34, e_x34, e⟩ := mBind e
  refine mGo.callI (n := 72) (y := (yX0_init, cX0_init, 1)) (R' := (mRoom (2) 2 1612)) (as := []) (st := [va_rf (some (h32.1 + 1)), va_rf (some v0)]) (b := (h32.1 + 1)) dX8_init_69 sc_RX8_28 rfl (e_X0_init (h32.1 + 1) h33 e_x34) (mFit_of rfl (Nat.le_of_ble_eq_true rfl) (by decide) (Nat.le_of_ble_eq_true rfl) (Nat.le_of_ble_eq_true rfl)) (mCat8 (Nat.le_of_ble_eq_true rfl)) rfl rfl ?_
  intro _ _ hq
  rw [hq.1, hq.2]
  show mGo w kX8_init 31 2256 72 [some (va_rf (some v0)), some (.int (6 : Int32))] [va_rf (some (h32.1 + 1)), va_rf (some v0)] x34 Q
  obtain ⟨h35, e_h35, e⟩ := mBind e
  refine mGo.putR (n := 75) dX8_init_72 sf_RX8_29 (Or.inr ⟨rfl, rfl, rfl, mT_at 277 (by decide +kernel) rfl⟩) rfl e_h35 rfl ?_
  refine mGo.aload_n (n := 76) (r := (some v0)) dX8_init_75 rfl rfl ?_
  obtain ⟨h36, e_h36, e⟩ := mBind e
  refine mGo.newO' (n := 79) (ci := 3) (fs := [.int 0, .null, .null, .int 0, .int 0, .null, .null, .null, .null]) dX8_init_76 (by decide) (mT_at 167 (by decide +kernel) rfl) (mT_at 168 (by decide +kernel) rfl) (mT_at 86 (by decide +kernel) rfl) (by decide) (Nat.le_of_ble_eq_true rfl) (Nat.le_of_ble_eq_true rfl) rfl e_h36 ?_
  show mGo w kX8_init 32 2265 79 [some (va_rf (some v0)), some (.int (6 : Int32))] [va_rf (some (h35.1 + 1)), va_rf (some v0)] h36 Q
  refine mGo.dup (n := 80) dX8_init_79 (mRfc _) rfl ?_
  obtain ⟨x37, e_x37, e⟩ := mBind e
  refine mGo.callI (n := 83) (y := (yX4_init, cX4_init, 1)) (R' := (mRoom (2) 4 337)) (as := []) (st := [va_rf (some (h35.1 + 1)), va_rf (some v0)]) (b := (h35.1 + 1)) dX8_init_80 sc_RX8_35 rfl (e_X4_init (h35.1 + 1) h36 e_x37) (mFit_of rfl (Nat.le_of_ble_eq_true rfl) (by decide) (Nat.le_of_ble_eq_true rfl) (Nat.le_of_ble_eq_true rfl)) (mCat8 (Nat.le_of_ble_eq_true rfl)) rfl rfl ?_
  intro _ _ hq
  rw [hq.1, hq.2]
  show mGo w kX8_init 36 2602 83 [some (va_rf (some v0)), some (.int (6 : Int32))] [va_rf (some (h35.1 + 1)), va_rf (some v0)] x37 Q
  obtain ⟨h38, e_h38, e⟩ := mBind e
  refine mGo.putR (n := 86) dX8_init_83 sf_RX8_36 (Or.inr ⟨rfl, rfl, rfl, mT_at 278 (by decide +kernel) rfl⟩) rfl e_h38 rfl ?_
  refine mGo.aload_n (n := 87) (r := (some v0)) dX8_init_86 rfl rfl ?_
  obtain ⟨h39, e_h39, e⟩ := mBind e
  refine mGo.newO' (n := 90) (ci := 2) (fs := [.int 0, .null, .int 0, .null, .null, .null]) dX8_init_87 (by decide) (mT_at 202 (by decide +kernel) rfl) (mT_at 203 (by decide +kernel) rfl) (mT_at 87 (by decide +kernel) rfl) (by decide) (Nat.le_of_ble_eq_true rfl) (Nat.le_of_ble_eq_true rfl) rfl e_h39 ?_
  show mGo w kX8_init 37 2608 90 [some (va_rf (some v0)), some (.int (6 : Int32))] [va_rf (some (h38.1 + 1)), va_rf (some v0)] h39 Q
  refine mGo.dup (n := 91) dX8_init_90 (mRfc _) rfl ?_
  obtain ⟨x40, e_x40, e⟩ := mBind e
  refine mGo.callI (n := 94) (y := (yX3_init, cX3_init, 1)) (R' := (mRoom (2) 3 55)) (as := []) (st := [va_rf (some (h38.1 + 1)), va_rf (some v0)]) (b := (h38.1 + 1)) dX8_init_91 sc_RX8_42 rfl (e_X3_init (h38.1 + 1) h39 e_x40) (mFit_of rfl (Nat.le_of_ble_eq_true rfl) (by decide) (Nat.le_of_ble_eq_true rfl) (Nat.le_of_ble_eq_true rfl)) (mCat8 (Nat.le_of_ble_eq_true rfl)) rfl rfl ?_
  intro _ _ hq
  rw [hq.1, hq.2]
  show mGo w kX8_init 40 2663 94 [some (va_rf (some v0)), some (.int (6 : Int32))] [va_rf (some (h38.1 + 1)), va_rf (some v0)] x40 Q
  obtain ⟨h41, e_h41, e⟩ := mBind e
  refine mGo.putR (n := 97) dX8_init_94 sf_RX8_43 (Or.inr ⟨rfl, rfl, rfl, mT_at 279 (by decide +kernel) rfl⟩) rfl e_h41 rfl ?_
  refine mGo.aload_n (n := 98) (r := (some v0)) dX8_init_97 rfl rfl ?_
  obtain ⟨h42, e_h42, e⟩ := mBind e
  refine mGo.newO' (n := 101) (ci := 5) (fs := [.null, .null]) dX8_init_98 (by decide) (mT_at 228 (by decide +kernel) rfl) (mT_at 229 (by decide +kernel) rfl) (mT_at 88 (by decide +kernel) rfl) (by decide) (Nat.le_of_ble_eq_true rfl) (Nat.le_of_ble_eq_true rfl) rfl e_h42 ?_
  show mGo w kX8_init 41 2665 101 [some (va_rf (some v0)), some (.int (6 : Int32))] [va_rf (some (h41.1 + 1)), va_rf (some v0)] h42 Q
  refine mGo.dup (n := 102) dX8_init_101 (mRfc _) rfl ?_
  obtain ⟨x43, e_x43, e⟩ := mBind e
  refine mGo.callI (n := 105) (y := (yX6_init, cX6_init, 1)) (R' := (mRoom (2) 2 32)) (as := []) (st := [va_rf (some (h41.1 + 1)), va_rf (some v0)]) (b := (h41.1 + 1)) dX8_init_102 sc_RX8_49 rfl (e_X6_init (h41.1 + 1) h42 e_x43) (mFit_of rfl (Nat.le_of_ble_eq_true rfl) (by decide) (Nat.le_of_ble_eq_true rfl) (Nat.le_of_ble_eq_true rfl)) (mCat8 (Nat.le_of_ble_eq_true rfl)) rfl rfl ?_
  intro _ _ hq
  rw [hq.1, hq.2]
  show mGo w kX8_init 43 2697 105 [some (va_rf (some v0)), some (.int (6 : Int32))] [va_rf (some (h41.1 + 1)), va_rf (some v0)] x43 Q
  obtain ⟨h44, e_h44, e⟩ := mBind e
  refine mGo.putR (n := 108) dX8_init_105 sf_RX8_50 (Or.inr ⟨rfl, rfl, rfl, mT_at 280 (by decide +kernel) rfl⟩) rfl e_h44 rfl ?_
  refine mGo.aload_n (n := 109) (r := (some v0)) dX8_init_108 rfl rfl ?_
  obtain ⟨h45, e_h45, e⟩ := mBind e
  refine mGo.newO' (n := 112) (ci := 1) (fs := [.null]) dX8_init_109 (by decide) (mT_at 242 (by decide +kernel) rfl) (mT_at 243 (by decide +kernel) rfl) (mT_at 89 (by decide +kernel) rfl) (by decide) (Nat.le_of_ble_eq_true rfl) (Nat.le_of_ble_eq_true rfl) rfl e_h45 ?_
  show mGo w kX8_init 44 2698 112 [some (va_rf (some v0)), some (.int (6 : Int32))] [va_rf (some (h44.1 + 1)), va_rf (some v0)] h45 Q
  refine mGo.dup (n := 113) dX8_init_112 (mRfc _) rfl ?_
  obtain ⟨x46, e_x46, e⟩ := mBind e
  refine mGo.callI (n := 116) (y := (yX1_init, cX1_init, 1)) (R' := (mRoom (2) 1 144)) (as := []) (st := [va_rf (some (h44.1 + 1)), va_rf (some v0)]) (b := (h44.1 + 1)) dX8_init_113 sc_RX8_56 rfl (e_X1_init (h44.1 + 1) h45 e_x46) (mFit_of rfl (Nat.le_of_ble_eq_true rfl) (by decide) (Nat.le_of_ble_eq_true rfl) (Nat.le_of_ble_eq_true rfl)) (mCat8 (Nat.le_of_ble_eq_true rfl)) rfl rfl ?_
  intro _ _ hq
  rw [hq.1, hq.2]
  show mGo w kX8_init 45 2842 116 [some (va_rf (some v0)), some (.int (6 : Int32))] [va_rf (some (h44.1 + 1)), va_rf (some v0)] x46 Q
  obtain ⟨h47, e_h47, e⟩ := mBind e
  refine mGo.putR (n := 119) dX8_init_116 sf_RX8_57 (Or.inr ⟨rfl, rfl, rfl, mT_at 281 (by decide +kernel) rfl⟩) rfl e_h47 rfl ?_
  refine mGo.aload_n (n := 120) (r := (some v0)) dX8_init_119 rfl rfl ?_
  obtain ⟨h48, e_h48, e⟩ := mBind e
  refine mGo.newO' (n := 123) (ci := 4) (fs := [.null, .null, .int 0, .null]) dX8_init_120 (by decide) (mT_at 252 (by decide +kernel) rfl) (mT_at 253 (by decide +kernel) rfl) (mT_at 90 (by decide +kernel) rfl) (by decide) (Nat.le_of_ble_eq_true rfl) (Nat.le_of_ble_eq_true rfl) rfl e_h48 ?_
  show mGo w kX8_init 46 2846 123 [some (va_rf (some v0)), some (.int (6 : Int32))] [va_rf (some (h47.1 + 1)), va_rf (some v0)] h48 Q
  refine mGo.dup (n := 124) dX8_init_123 (mRfc _) rfl ?_
  obtain ⟨x49, e_x49, e⟩ := mBind e
  refine mGo.callI (n := 127) (y := (yX5_init, cX5_init, 1)) (R' := (mRoom (2) 3 20)) (as := []) (st := [va_rf (some (h47.1 + 1)), va_rf (some v0)]) (b := (h47.1 + 1)) dX8_init_124 sc_RX8_63 rfl (e_X5_init (h47.1 + 1) h48 e_x49) (mFit_of rfl (Nat.le_of_ble_eq_true rfl) (by decide) (Nat.le_of_ble_eq_true rfl) (Nat.le_of_ble_eq_true rfl)) (mCat8 (Nat.le_of_ble_eq_true rfl)) rfl rfl ?_
  intro _ _ hq
  rw [hq.1, hq.2]
  show mGo w kX8_init 49 2866 127 [some (va_rf (some v0)), some (.int (6 : Int32))] [va_rf (some (h47.1 + 1)), va_rf (some v0)] x49 Q
  obtain ⟨h50, e_h50, e⟩ := mBind e
  refine mGo.putR (n := 130) dX8_init_127 sf_RX8_64 (Or.inr ⟨rfl, rfl, rfl, mT_at 282 (by decide +kernel) rfl⟩) rfl e_h50 rfl ?_
  cases e
  exact mGo.vret dX8_init_130 rfl (Nat.le_of_ble_eq_true rfl) (Nat.le_of_ble_eq_true rfl) q
theorem e_X8_init {w : mWp} (v0 : Nat) (h : mH) {res : mH} (e : f_X8_init v0 h = some res) : mEx w zX8_init (mRoom 3 49 2866) [va_rf (some v0)] h (fun r h2 => r = none ∧ h2 = res) := by
  refine mEx.of (by decide +kernel) (show mEnt [va_rf (some v0)] 2 = [some (va_rf (some v0)), none] by rw [mEnt_r] <;> rfl) (by simp only [List.map_cons, List.map_nil, mRfc, mCi, mCj, List.sum_cons, List.sum_nil]; exact Nat.le_of_ble_eq_true rfl) ?_
  refine g_X8_init v0 h e ?_
  exact ⟨rfl, rfl⟩
theorem s_X8_init (v0 : Nat) (h : mH) {res : mH} (e : f_X8_init v0 h = some res) : mIs h (some v0) 7 = some () := by
  unfold f_X8_init at e
  obtain ⟨u, e1, _⟩ := mBind e
  cases u
  exact e1
-- X8_tell
def kX8_tell : mK := (cX8_tell, RX8, 2, some (.int), "tell", mRoom 1 0 0)
def zX8_tell : mY := (yX8_tell, cX8_tell, 2, some (.int))
set_option maxRecDepth 100000 in
theorem sf_RX8_68 : mFld RX8 68 7 2 := ⟨by decide, by decide, Or.inl (mT_at 274 (by decide +kernel) rfl)⟩
def f_X8_tell (v0 : Option Nat) (v1 : Int32) (h : mH) : Option (Int32 × mH) :=
  (mIs h v0 7).bind fun _ =>
  (mGI h v0 7 2).bind fun x1 =>
  if (28 : Int32) ≤ x1 then
    some ((-1 : Int32), h)
  else
    if v1 < 0 then
      some ((-1 : Int32), h)
    else
      if v1 < (268435456 : Int32) then
        (mGR h v0 7 1).bind fun x2 =>
        (mGI h v0 7 2).bind fun x3 =>
        (mSI h x2 x3 v1).bind fun h4 =>
        (mGI h4 v0 7 2).bind fun x5 =>
        (mPF h4 v0 7 2 (.int (x5 + (1 : Int32)))).bind fun h6 =>
        (mGI h6 v0 7 2).bind fun x7 =>
        some (x7, h6)
      else
        some ((-1 : Int32), h)
set_option maxRecDepth 100000 in
set_option maxHeartbeats 4000000 in
theorem g_X8_tell {w : mWp} {Q : Option Value → mH → Prop} (v0 : Option Nat) (v1 : Int32) (h : mH) {res : Int32 × mH} (e : f_X8_tell v0 v1 h = some res) (q : (fun r : Int32 × mH => Q (some (.int r.1)) r.2) res) : mGo w kX8_tell 0 0 0 [some (va_rf v0), some (.int v1)] [] h Q := by
  unfold f_X8_tell at e
  obtain ⟨_, _, e⟩ := mBind e
  refine mGo.aload_n (n := 1) (r := v0) dX8_tell_0 rfl rfl ?_
  obtain ⟨x1, e_x1, e⟩ := mBind e
  refine mGo.getI (n := 4) dX8_tell_1 sf_RX8_68 e_x1 rfl ?_
  refine mGo.bipush (n := 6) (v := (28 : Int32)) dX8_tell_4 (by decide) rfl ?_
  refine mGo.icmp_ge (tgt := 19) (n := 9) dX8_tell_6 (by decide) rfl (fun hc => ?_) (fun hc => ?_)
  · replace e := mIft hc e
    refine mGo.iconst (n := 20) (v := (-1 : Int32)) dX8_tell_19 (by decide) rfl ?_
    cases e
    exact mGo.iret dX8_tell_20 rfl (Nat.le_of_ble_eq_true rfl) (Nat.le_of_ble_eq_true rfl) q
  · replace e := mIff hc e
    refine mGo.iload_n (n := 10) (x := v1) dX8_tell_9 rfl rfl ?_
    refine mGo.if_lt (tgt := 19) (n := 13) dX8_tell_10 (by decide) rfl (fun hc => ?_) (fun hc => ?_)
    · replace e := mIft hc e
      refine mGo.iconst (n := 20) (v := (-1 : Int32)) dX8_tell_19 (by decide) rfl ?_
      cases e
      exact mGo.iret dX8_tell_20 rfl (Nat.le_of_ble_eq_true rfl) (Nat.le_of_ble_eq_true rfl) q
    · replace e := mIff hc e
      refine mGo.iload_n (n := 14) (x := v1) dX8_tell_13 rfl rfl ?_
      refine mGo.ldc (n := 16) (v := (268435456 : Int32)) dX8_tell_14 (mT_at 310 (by decide +kernel) rfl) rfl ?_
      refine mGo.icmp_lt (tgt := 21) (n := 19) dX8_tell_16 (by decide) rfl (fun hc => ?_) (fun hc => ?_)
      · replace e := mIft hc e
        refine mGo.aload_n (n := 22) (r := v0) dX8_tell_21 rfl rfl ?_
        obtain ⟨x2, e_x2, e⟩ := mBind e
        refine mGo.getR (n := 25) dX8_tell_22 sf_RX8_16 e_x2 rfl ?_
        refine mGo.aload_n (n := 26) (r := v0) dX8_tell_25 rfl rfl ?_
        obtain ⟨x3, e_x3, e⟩ := mBind e
        refine mGo.getI (n := 29) dX8_tell_26 sf_RX8_68 e_x3 rfl ?_
        refine mGo.iload_n (n := 30) (x := v1) dX8_tell_29 rfl rfl ?_
        obtain ⟨h4, e_h4, e⟩ := mBind e
        refine mGo.iast (n := 31) dX8_tell_30 e_h4 rfl ?_
        refine mGo.aload_n (n := 32) (r := v0) dX8_tell_31 rfl rfl ?_
        refine mGo.dup (n := 33) dX8_tell_32 (mRfc _) rfl ?_
        obtain ⟨x5, e_x5, e⟩ := mBind e
        refine mGo.getI (n := 36) dX8_tell_33 sf_RX8_68 e_x5 rfl ?_
        refine mGo.iconst (n := 37) (v := (1 : Int32)) dX8_tell_36 (by decide) rfl ?_
        refine mGo.iadd (n := 38) dX8_tell_37 rfl ?_
        obtain ⟨h6, e_h6, e⟩ := mBind e
        refine mGo.putI (n := 41) dX8_tell_38 sf_RX8_68 rfl rfl e_h6 rfl ?_
        refine mGo.aload_n (n := 42) (r := v0) dX8_tell_41 rfl rfl ?_
        obtain ⟨x7, e_x7, e⟩ := mBind e
        refine mGo.getI (n := 45) dX8_tell_42 sf_RX8_68 e_x7 rfl ?_
        cases e
        exact mGo.iret dX8_tell_45 rfl (Nat.le_of_ble_eq_true rfl) (Nat.le_of_ble_eq_true rfl) q
      · replace e := mIff hc e
        refine mGo.iconst (n := 20) (v := (-1 : Int32)) dX8_tell_19 (by decide) rfl ?_
        cases e
        exact mGo.iret dX8_tell_20 rfl (Nat.le_of_ble_eq_true rfl) (Nat.le_of_ble_eq_true rfl) q
theorem e_X8_tell {w : mWp} (v0 : Option Nat) (v1 : Int32) (h : mH) {res : Int32 × mH} (e : f_X8_tell v0 v1 h = some res) : mEx w zX8_tell (mRoom 1 0 0) [va_rf v0, .int v1] h (fun r h2 => r = some (.int res.1) ∧ h2 = res.2) := by
  refine mEx.of (by decide +kernel) (show mEnt [va_rf v0, .int v1] 2 = [some (va_rf v0), some (.int v1)] by rw [mEnt_r, mEnt_i] <;> rfl) (by simp only [List.map_cons, List.map_nil, mRfc, mCi, mCj, List.sum_cons, List.sum_nil]; exact Nat.le_of_ble_eq_true rfl) ?_
  refine g_X8_tell v0 v1 h e ?_
  exact ⟨rfl, rfl⟩
theorem s_X8_tell (v0 : Option Nat) (v1 : Int32) (h : mH) {res : Int32 × mH} (e : f_X8_tell v0 v1 h = some res) : mIs h v0 7 = some () := by
  unfold f_X8_tell at e
  obtain ⟨u, e1, _⟩ := mBind e
  cases u
  exact e1
-- X8_emptyPlace
def kX8_emptyPlace : mK := (cX8_emptyPlace, RX8, 2, some (.int), "emptyPlace", mRoom 1 0 0)
def zX8_emptyPlace : mY := (yX8_emptyPlace, cX8_emptyPlace, 2, some (.int))
set_option maxRecDepth 100000 in
theorem sf_RX8_122 : mFld RX8 122 6 0 := ⟨by decide, by decide, Or.inr ⟨_, mNest_at 34 (x := Cond.fieldLinkNest RX8 122 (mCR 6) (mCT 6 0).2.1 (mCT 6 0).2.2.1 "SignTables") (by decide +kernel) rfl⟩⟩
def f_X8_emptyPlace_b2 (v0 : Option Nat) (v1 : Int32) (h : mH) : Option ((Int32) ⊕ (Int32)) :=
  if (6 : Int32) ≤ v1 then
    some (Sum.inr (-1 : Int32))
  else
    (mGR h v0 7 0).bind fun x1 =>
    (mAR h x1 v1).bind fun x2 =>
    (mGI h x2 6 0).bind fun x3 =>
    if x3 = 0 then
      some (Sum.inr v1)
    else
      some (Sum.inl (v1 + 1))
set_option maxRecDepth 100000 in
set_option maxHeartbeats 4000000 in
theorem g_X8_emptyPlace_b2 {w : mWp} {Q : Option Value → mH → Prop} (v0 : Option Nat) (v1 : Int32) (h : mH) {res : (Int32) ⊕ (Int32)} (e : f_X8_emptyPlace_b2 v0 v1 h = some res) (q : (Sum.elim (fun x : Int32 => mGo w kX8_emptyPlace 0 0 2 [some (va_rf v0), some (.int x)] [] h Q) (fun r : Int32 => Q (some (.int r)) h)) res) : mGo w kX8_emptyPlace 0 0 2 [some (va_rf v0), some (.int v1)] [] h Q := by
  unfold f_X8_emptyPlace_b2 at e
  refine mGo.iload_n (n := 3) (x := v1) dX8_emptyPlace_2 rfl rfl ?_
  refine mGo.bipush (n := 5) (v := (6 : Int32)) dX8_emptyPlace_3 (by decide) rfl ?_
  refine mGo.icmp_ge (tgt := 28) (n := 8) dX8_emptyPlace_5 (by decide) rfl (fun hc => ?_) (fun hc => ?_)
  · replace e := mIft hc e
    refine mGo.iconst (n := 29) (v := (-1 : Int32)) dX8_emptyPlace_28 (by decide) rfl ?_
    cases e
    exact mGo.iret dX8_emptyPlace_29 rfl (Nat.le_of_ble_eq_true rfl) (Nat.le_of_ble_eq_true rfl) q
  · replace e := mIff hc e
    refine mGo.aload_n (n := 9) (r := v0) dX8_emptyPlace_8 rfl rfl ?_
    obtain ⟨x1, e_x1, e⟩ := mBind e
    refine mGo.getR (n := 12) dX8_emptyPlace_9 sf_RX8_11 e_x1 rfl ?_
    refine mGo.iload_n (n := 13) (x := v1) dX8_emptyPlace_12 rfl rfl ?_
    obtain ⟨x2, e_x2, e⟩ := mBind e
    refine mGo.aald (n := 14) dX8_emptyPlace_13 e_x2 rfl ?_
    obtain ⟨x3, e_x3, e⟩ := mBind e
    refine mGo.getI (n := 17) dX8_emptyPlace_14 sf_RX8_122 e_x3 rfl ?_
    refine mGo.if_ne (tgt := 22) (n := 20) dX8_emptyPlace_17 (by decide) rfl (fun hc => ?_) (fun hc => ?_)
    · replace e := mIff hc e
      refine mGo.iinc (n := 25) (x := v1) (v := (v1 + 1)) (ls' := [some (va_rf v0), some (.int (v1 + 1))]) dX8_emptyPlace_22 rfl rfl ((mSt_set (fun u _ hu => by cases hu; exact mRfc _)).trans rfl) (Nat.le_of_ble_eq_true rfl) rfl ?_
      refine mGo.goto (tgt := 2) dX8_emptyPlace_25 (by decide) ?_
      cases e
      refine mGo.mk [true, true] ?_
      exact q
    · replace e := mIft hc e
      refine mGo.iload_n (n := 21) (x := v1) dX8_emptyPlace_20 rfl rfl ?_
      cases e
      exact mGo.iret dX8_emptyPlace_21 rfl (Nat.le_of_ble_eq_true rfl) (Nat.le_of_ble_eq_true rfl) q
noncomputable def f_X8_emptyPlace_l2 (v0 : Option Nat) (v1 : Int32) (h : mH) : Option (Int32) :=
  mLoop (fun x : Int32 => f_X8_emptyPlace_b2 v0 x h) (v1)
set_option maxRecDepth 100000 in
set_option maxHeartbeats 4000000 in
theorem g_X8_emptyPlace_l2 {w : mWp} {Q : Option Value → mH → Prop} (v0 : Option Nat) (v1 : Int32) (h : mH) {res : Int32} (e : f_X8_emptyPlace_l2 v0 v1 h = some res) (q : (fun r : Int32 => Q (some (.int r)) h) res) : mGo w kX8_emptyPlace 0 0 2 [some (va_rf v0), some (.int v1)] [] h Q := by
  unfold f_X8_emptyPlace_l2 at e
  refine mLoop_go (x := (v1)) (fun x : Int32 => mGo w kX8_emptyPlace 0 0 2 [some (va_rf v0), some (.int x)] [] h Q) (fun r : Int32 => Q (some (.int r)) h) ?_ e q
  rintro v1 res e q
  exact g_X8_emptyPlace_b2 v0 v1 h e q
noncomputable def f_X8_emptyPlace (v0 : Option Nat) (h : mH) : Option (Int32) :=
  (mIs h v0 7).bind fun _ =>
  f_X8_emptyPlace_l2 v0 (0 : Int32) h
set_option maxRecDepth 100000 in
set_option maxHeartbeats 4000000 in
theorem g_X8_emptyPlace {w : mWp} {Q : Option Value → mH → Prop} (v0 : Option Nat) (h : mH) {res : Int32} (e : f_X8_emptyPlace v0 h = some res) (q : (fun r : Int32 => Q (some (.int r)) h) res) : mGo w kX8_emptyPlace 0 0 0 [some (va_rf v0), none] [] h Q := by
  unfold f_X8_emptyPlace at e
  obtain ⟨_, _, e⟩ := mBind e
  refine mGo.iconst (n := 1) (v := (0 : Int32)) dX8_emptyPlace_0 (by decide) rfl ?_
  refine mGo.istore_n (n := 2) (ls' := [some (va_rf v0), some (.int (0 : Int32))]) dX8_emptyPlace_1 ((mSt_set (fun u _ hu => by cases hu; exact mRfc _)).trans rfl) (Nat.le_of_ble_eq_true rfl) rfl ?_
  refine mGo.mk [true, true] ?_
  exact g_X8_emptyPlace_l2 v0 (0 : Int32) h e q
theorem e_X8_emptyPlace {w : mWp} (v0 : Option Nat) (h : mH) {res : Int32} (e : f_X8_emptyPlace v0 h = some res) : mEx w zX8_emptyPlace (mRoom 1 0 0) [va_rf v0] h (fun r h2 => r = some (.int res) ∧ h2 = h) := by
  refine mEx.of (by decide +kernel) (show mEnt [va_rf v0] 2 = [some (va_rf v0), none] by rw [mEnt_r] <;> rfl) (by simp only [List.map_cons, List.map_nil, mRfc, mCi, mCj, List.sum_cons, List.sum_nil]; exact Nat.le_of_ble_eq_true rfl) ?_
  refine g_X8_emptyPlace v0 h e ?_
  exact ⟨rfl, rfl⟩
theorem s_X8_emptyPlace (v0 : Option Nat) (h : mH) {res : Int32} (e : f_X8_emptyPlace v0 h = some res) : mIs h v0 7 = some () := by
  unfold f_X8_emptyPlace at e
  obtain ⟨u, e1, _⟩ := mBind e
  cases u
  exact e1
-- X8_isWord
def kX8_isWord : mK := (cX8_isWord, RX8, 2, some (.boolean), "isWord", mRoom 1 0 0)
def zX8_isWord : mY := (yX8_isWord, cX8_isWord, 2, some (.boolean))
def f_X8_isWord (v0 : Int32) (v1 : Int32)  : Option (Int32) :=
  if v0 < 0 then
    some (0 : Int32)
  else
    if ((1 : Int32) <<< (v1 &&& 31)) ≤ v0 then
      some (0 : Int32)
    else
      some (1 : Int32)
set_option maxRecDepth 100000 in
set_option maxHeartbeats 4000000 in
theorem g_X8_isWord {w : mWp} {Q : Option Value → mH → Prop} (v0 : Int32) (v1 : Int32) (h : mH) {res : Int32} (e : f_X8_isWord v0 v1 = some res) (q : (fun r : Int32 => Q (some (.int r)) h) res) : mGo w kX8_isWord 0 0 0 [some (.int v0), some (.int v1)] [] h Q := by
  unfold f_X8_isWord at e
  refine mGo.iload_n (n := 1) (x := v0) dX8_isWord_0 rfl rfl ?_
  refine mGo.if_lt (tgt := 15) (n := 4) dX8_isWord_1 (by decide) rfl (fun hc => ?_) (fun hc => ?_)
  · replace e := mIft hc e
    refine mGo.iconst (n := 16) (v := (0 : Int32)) dX8_isWord_15 (by decide) rfl ?_
    cases e
    exact mGo.zret dX8_isWord_16 rfl (by decide) (Nat.le_of_ble_eq_true rfl) (Nat.le_of_ble_eq_true rfl) q
  · replace e := mIff hc e
    refine mGo.iload_n (n := 5) (x := v0) dX8_isWord_4 rfl rfl ?_
    refine mGo.iconst (n := 6) (v := (1 : Int32)) dX8_isWord_5 (by decide) rfl ?_
    refine mGo.iload_n (n := 7) (x := v1) dX8_isWord_6 rfl rfl ?_
    refine mGo.ishl (n := 8) dX8_isWord_7 rfl ?_
    refine mGo.icmp_ge (tgt := 15) (n := 11) dX8_isWord_8 (by decide) rfl (fun hc => ?_) (fun hc => ?_)
    · replace e := mIft hc e
      refine mGo.iconst (n := 16) (v := (0 : Int32)) dX8_isWord_15 (by decide) rfl ?_
      cases e
      exact mGo.zret dX8_isWord_16 rfl (by decide) (Nat.le_of_ble_eq_true rfl) (Nat.le_of_ble_eq_true rfl) q
    · replace e := mIff hc e
      refine mGo.iconst (n := 12) (v := (1 : Int32)) dX8_isWord_11 (by decide) rfl ?_
      refine mGo.goto (tgt := 16) dX8_isWord_12 (by decide) ?_
      cases e
      exact mGo.zret dX8_isWord_16 rfl (by decide) (Nat.le_of_ble_eq_true rfl) (Nat.le_of_ble_eq_true rfl) q
theorem e_X8_isWord {w : mWp} (v0 : Int32) (v1 : Int32) (h : mH) {res : Int32} (e : f_X8_isWord v0 v1 = some res) : mEx w zX8_isWord (mRoom 1 0 0) [.int v0, .int v1] h (fun r h2 => r = some (.int res) ∧ h2 = h) := by
  refine mEx.of (by decide +kernel) rfl (Nat.le_of_ble_eq_true rfl) ?_
  refine g_X8_isWord v0 v1 h e ?_
  exact ⟨rfl, rfl⟩
-- X8_toldFits
def kX8_toldFits : mK := (cX8_toldFits, RX8, 3, some (.boolean), "toldFits", mRoom 2 0 0)
def zX8_toldFits : mY := (yX8_toldFits, cX8_toldFits, 3, some (.boolean))
set_option maxRecDepth 100000 in
theorem sc_RX8_135 : mSS RX8 135 zX8_isWord 2 := ⟨Or.inl (mT_at 323 (by decide +kernel) rfl), mT_at 324 (by decide +kernel) rfl, mT_at 83 (by decide +kernel) rfl, mT_at 325 (by decide +kernel) rfl, ⟨by decide +kernel, by decide +kernel, by decide +kernel⟩⟩
def f_X8_toldFits_b2 (v0 : Option Nat) (v1 : Int32) (v2 : Int32) (h : mH) : Option ((Int32) ⊕ (Int32)) :=
  (mGI h v0 7 2).bind fun x1 =>
  if x1 ≤ v2 then
    some (Sum.inr (1 : Int32))
  else
    (mGR h v0 7 1).bind fun x2 =>
    (mAI h x2 v2).bind fun x3 =>
    (f_X8_isWord x3 v1).bind fun x4 =>
    if x4 = 0 then
      some (Sum.inr (0 : Int32))
    else
      some (Sum.inl (v2 + 1))
set_option maxRecDepth 100000 in
set_option maxHeartbeats 4000000 in
theorem g_X8_toldFits_b2 {w : mWp} {Q : Option Value → mH → Prop} (v0 : Option Nat) (v1 : Int32) (v2 : Int32) (h : mH) {res : (Int32) ⊕ (Int32)} (e : f_X8_toldFits_b2 v0 v1 v2 h = some res) (q : (Sum.elim (fun x : Int32 => mGo w kX8_toldFits 0 0 2 [some (va_rf v0), some (.int v1), some (.int x)] [] h Q) (fun r : Int32 => Q (some (.int r)) h)) res) : mGo w kX8_toldFits 0 0 2 [some (va_rf v0), some (.int v1), some (.int v2)] [] h Q := by
  unfold f_X8_toldFits_b2 at e
  refine mGo.iload_n (n := 3) (x := v2) dX8_toldFits_2 rfl rfl ?_
  refine mGo.aload_n (n := 4) (r := v0) dX8_toldFits_3 rfl rfl ?_
  obtain ⟨x1, e_x1, e⟩ := mBind e
  refine mGo.getI (n := 7) dX8_toldFits_4 sf_RX8_68 e_x1 rfl ?_
  refine mGo.icmp_ge (tgt := 31) (n := 10) dX8_toldFits_7 (by decide) rfl (fun hc => ?_) (fun hc => ?_)
  · replace e := mIft hc e
    refine mGo.iconst (n := 32) (v := (1 : Int32)) dX8_toldFits_31 (by decide) rfl ?_
    cases e
    exact mGo.zret dX8_toldFits_32 rfl (by decide) (Nat.le_of_ble_eq_true rfl) (Nat.le_of_ble_eq_true rfl) q
  · replace e := mIff hc e
    refine mGo.aload_n (n := 11) (r := v0) dX8_toldFits_10 rfl rfl ?_
    obtain ⟨x2, e_x2, e⟩ := mBind e
    refine mGo.getR (n := 14) dX8_toldFits_11 sf_RX8_16 e_x2 rfl ?_
    refine mGo.iload_n (n := 15) (x := v2) dX8_toldFits_14 rfl rfl ?_
    obtain ⟨x3, e_x3, e⟩ := mBind e
    refine mGo.iald (n := 16) dX8_toldFits_15 e_x3 rfl ?_
    refine mGo.iload_n (n := 17) (x := v1) dX8_toldFits_16 rfl rfl ?_
    obtain ⟨x4, e_x4, e⟩ := mBind e
    refine mGo.callS (n := 20) (y := zX8_isWord) (R' := (mRoom (1) 0 0)) (as := [.int x3, .int v1]) (st := []) dX8_toldFits_17 sc_RX8_135 rfl (e_X8_isWord x3 v1 h e_x4) (mFit_of rfl (Nat.le_of_ble_eq_true rfl) (by decide) (Nat.le_of_ble_eq_true rfl) (Nat.le_of_ble_eq_true rfl)) (Nat.le_of_ble_eq_true rfl) rfl rfl ?_
    intro _ _ hq
    rw [hq.1, hq.2]
    show mGo w kX8_toldFits 0 0 20 [some (va_rf v0), some (.int v1), some (.int v2)] [.int x4] h Q
    refine mGo.if_ne (tgt := 25) (n := 23) dX8_toldFits_20 (by decide) rfl (fun hc => ?_) (fun hc => ?_)
    · replace e := mIff hc e
      refine mGo.iinc (n := 28) (x := v2) (v := (v2 + 1)) (ls' := [some (va_rf v0), some (.int v1), some (.int (v2 + 1))]) dX8_toldFits_25 rfl rfl rfl (Nat.le_of_ble_eq_true rfl) rfl ?_
      refine mGo.goto (tgt := 2) dX8_toldFits_28 (by decide) ?_
      cases e
      refine mGo.mk [true, true, true] ?_
      exact q
    · replace e := mIft hc e
      refine mGo.iconst (n := 24) (v := (0 : Int32)) dX8_toldFits_23 (by decide) rfl ?_
      cases e
      exact mGo.zret dX8_toldFits_24 rfl (by decide) (Nat.le_of_ble_eq_true rfl) (Nat.le_of_ble_eq_true rfl) q
noncomputable def f_X8_toldFits_l2 (v0 : Option Nat) (v1 : Int32) (v2 : Int32) (h : mH) : Option (Int32) :=
  mLoop (fun x : Int32 => f_X8_toldFits_b2 v0 v1 x h) (v2)
set_option maxRecDepth 100000 in
set_option maxHeartbeats 4000000 in
theorem g_X8_toldFits_l2 {w : mWp} {Q : Option Value → mH → Prop} (v0 : Option Nat) (v1 : Int32) (v2 : Int32) (h : mH) {res : Int32} (e : f_X8_toldFits_l2 v0 v1 v2 h = some res) (q : (fun r : Int32 => Q (some (.int r)) h) res) : mGo w kX8_toldFits 0 0 2 [some (va_rf v0), some (.int v1), some (.int v2)] [] h Q := by
  unfold f_X8_toldFits_l2 at e
  refine mLoop_go (x := (v2)) (fun x : Int32 => mGo w kX8_toldFits 0 0 2 [some (va_rf v0), some (.int v1), some (.int x)] [] h Q) (fun r : Int32 => Q (some (.int r)) h) ?_ e q
  rintro v2 res e q
  exact g_X8_toldFits_b2 v0 v1 v2 h e q
noncomputable def f_X8_toldFits (v0 : Option Nat) (v1 : Int32) (h : mH) : Option (Int32) :=
  (mIs h v0 7).bind fun _ =>
  f_X8_toldFits_l2 v0 v1 (0 : Int32) h
set_option maxRecDepth 100000 in
set_option maxHeartbeats 4000000 in
theorem g_X8_toldFits {w : mWp} {Q : Option Value → mH → Prop} (v0 : Option Nat) (v1 : Int32) (h : mH) {res : Int32} (e : f_X8_toldFits v0 v1 h = some res) (q : (fun r : Int32 => Q (some (.int r)) h) res) : mGo w kX8_toldFits 0 0 0 [some (va_rf v0), some (.int v1), none] [] h Q := by
  unfold f_X8_toldFits at e
  obtain ⟨_, _, e⟩ := mBind e
  refine mGo.iconst (n := 1) (v := (0 : Int32)) dX8_toldFits_0 (by decide) rfl ?_
  refine mGo.istore_n (n := 2) (ls' := [some (va_rf v0), some (.int v1), some (.int (0 : Int32))]) dX8_toldFits_1 rfl (Nat.le_of_ble_eq_true rfl) rfl ?_
  refine mGo.mk [true, true, true] ?_
  exact g_X8_toldFits_l2 v0 v1 (0 : Int32) h e q
theorem e_X8_toldFits {w : mWp} (v0 : Option Nat) (v1 : Int32) (h : mH) {res : Int32} (e : f_X8_toldFits v0 v1 h = some res) : mEx w zX8_toldFits (mRoom 2 0 0) [va_rf v0, .int v1] h (fun r h2 => r = some (.int res) ∧ h2 = h) := by
  refine mEx.of (by decide +kernel) (show mEnt [va_rf v0, .int v1] 3 = [some (va_rf v0), some (.int v1), none] by rw [mEnt_r, mEnt_i] <;> rfl) (by simp only [List.map_cons, List.map_nil, mRfc, mCi, mCj, List.sum_cons, List.sum_nil]; exact Nat.le_of_ble_eq_true rfl) ?_
  refine g_X8_toldFits v0 v1 h e ?_
  exact ⟨rfl, rfl⟩
theorem s_X8_toldFits (v0 : Option Nat) (v1 : Int32) (h : mH) {res : Int32} (e : f_X8_toldFits v0 v1 h = some res) : mIs h v0 7 = some () := by
  unfold f_X8_toldFits at e
  obtain ⟨u, e1, _⟩ := mBind e
  cases u
  exact e1
-- X8_take
def kX8_take : mK := (cX8_take, RX8, 2, some (.int), "take", mRoom 4 0 0)
def zX8_take : mY := (yX8_take, cX8_take, 2, some (.int))
set_option maxRecDepth 100000 in
theorem sc_RX8_73 : mSV RX8 73 zX8_emptyPlace 0 7 := ⟨Or.inl (mT_at 315 (by decide +kernel) rfl), mT_at 317 (by decide +kernel) rfl, mT_at 0 (by decide +kernel) rfl, mT_at 83 (by decide +kernel) rfl, mT_at 318 (by decide +kernel) rfl, ⟨by decide +kernel, by decide +kernel, by decide +kernel⟩, by decide, rfl⟩
set_option maxRecDepth 100000 in
theorem sc_RX8_77 : mSV RX8 77 zX8_toldFits 1 7 := ⟨Or.inl (mT_at 319 (by decide +kernel) rfl), mT_at 321 (by decide +kernel) rfl, mT_at 1 (by decide +kernel) rfl, mT_at 83 (by decide +kernel) rfl, mT_at 322 (by decide +kernel) rfl, ⟨by decide +kernel, by decide +kernel, by decide +kernel⟩, by decide, rfl⟩
set_option maxRecDepth 100000 in
theorem sc_RX8_81 : mSV RX8 81 zX7_layRows 2 6 := ⟨Or.inr ⟨_, mNest_at 244 (x := Cond.methodLinkNest RX8 81 yX7_layRows "SignTables") (by decide +kernel) rfl⟩, mT_at 328 (by decide +kernel) rfl, mT_at 2 (by decide +kernel) rfl, mT_at 84 (by decide +kernel) rfl, mT_at 329 (by decide +kernel) rfl, ⟨by decide +kernel, by decide +kernel, by decide +kernel⟩, by decide, rfl⟩
noncomputable def f_X8_take (v0 : Option Nat) (h : mH) : Option (Int32 × mH) :=
  (mIs h v0 7).bind fun _ =>
  (f_X8_emptyPlace v0 h).bind fun x1 =>
  if x1 = (-1 : Int32) then
    some ((-1 : Int32), h)
  else
    (mGI h v0 7 2).bind fun x2 =>
    if x2 = 0 then
      some ((-1 : Int32), h)
    else
      (mGI h v0 7 2).bind fun x3 =>
      (f_X8_toldFits v0 x3 h).bind fun x4 =>
      if x4 = 0 then
        some ((-1 : Int32), h)
      else
        (mGR h v0 7 0).bind fun x5 =>
        (mAR h x5 x1).bind fun x6 =>
        (mGR h v0 7 1).bind fun x7 =>
        (mGI h v0 7 2).bind fun x8 =>
        (f_X7_layRows x6 x7 x8 h).bind fun x9 =>
        (mPF x9 v0 7 2 (.int (0 : Int32))).bind fun h10 =>
        some (x1, h10)
set_option maxRecDepth 100000 in
set_option maxHeartbeats 4000000 in
theorem g_X8_take {w : mWp} {Q : Option Value → mH → Prop} (v0 : Option Nat) (h : mH) {res : Int32 × mH} (e : f_X8_take v0 h = some res) (q : (fun r : Int32 × mH => Q (some (.int r.1)) r.2) res) : mGo w kX8_take 0 0 0 [some (va_rf v0), none] [] h Q := by
  unfold f_X8_take at e
  obtain ⟨_, _, e⟩ := mBind e
  refine mGo.aload_n (n := 1) (r := v0) dX8_take_0 rfl rfl ?_
  obtain ⟨x1, e_x1, e⟩ := mBind e
  refine mGo.callV (n := 4) (y := zX8_emptyPlace) (R' := (mRoom (1) 0 0)) (as := []) (st := []) (r0 := v0) dX8_take_1 sc_RX8_73 rfl (s_X8_emptyPlace v0 h e_x1) (e_X8_emptyPlace v0 h e_x1) (mFit_of rfl (Nat.le_of_ble_eq_true rfl) (by decide) (Nat.le_of_ble_eq_true rfl) (Nat.le_of_ble_eq_true rfl)) (Nat.le_of_ble_eq_true rfl) rfl rfl ?_
  intro _ _ hq
  rw [hq.1, hq.2]
  show mGo w kX8_take 0 0 4 [some (va_rf v0), none] [.int x1] h Q
  refine mGo.istore_n (n := 5) (ls' := [some (va_rf v0), some (.int x1)]) dX8_take_4 ((mSt_set (fun u _ hu => by cases hu; exact mRfc _)).trans rfl) (Nat.le_of_ble_eq_true rfl) rfl ?_
  refine mGo.iload_n (n := 6) (x := x1) dX8_take_5 rfl rfl ?_
  refine mGo.iconst (n := 7) (v := (-1 : Int32)) dX8_take_6 (by decide) rfl ?_
  refine mGo.icmp_eq (tgt := 28) (n := 10) dX8_take_7 (by decide) rfl (fun hc => ?_) (fun hc => ?_)
  · replace e := mIft hc e
    refine mGo.iconst (n := 29) (v := (-1 : Int32)) dX8_take_28 (by decide) rfl ?_
    cases e
    exact mGo.iret dX8_take_29 rfl (Nat.le_of_ble_eq_true rfl) (Nat.le_of_ble_eq_true rfl) q
  · replace e := mIff hc e
    refine mGo.aload_n (n := 11) (r := v0) dX8_take_10 rfl rfl ?_
    obtain ⟨x2, e_x2, e⟩ := mBind e
    refine mGo.getI (n := 14) dX8_take_11 sf_RX8_68 e_x2 rfl ?_
    refine mGo.if_eq (tgt := 28) (n := 17) dX8_take_14 (by decide) rfl (fun hc => ?_) (fun hc => ?_)
    · replace e := mIft hc e
      refine mGo.iconst (n := 29) (v := (-1 : Int32)) dX8_take_28 (by decide) rfl ?_
      cases e
      exact mGo.iret dX8_take_29 rfl (Nat.le_of_ble_eq_true rfl) (Nat.le_of_ble_eq_true rfl) q
    · replace e := mIff hc e
      refine mGo.aload_n (n := 18) (r := v0) dX8_take_17 rfl rfl ?_
      refine mGo.aload_n (n := 19) (r := v0) dX8_take_18 rfl rfl ?_
      obtain ⟨x3, e_x3, e⟩ := mBind e
      refine mGo.getI (n := 22) dX8_take_19 sf_RX8_68 e_x3 rfl ?_
      obtain ⟨x4, e_x4, e⟩ := mBind e
      refine mGo.callV (n := 25) (y := zX8_toldFits) (R' := (mRoom (2) 0 0)) (as := [.int x3]) (st := []) (r0 := v0) dX8_take_22 sc_RX8_77 rfl (s_X8_toldFits v0 x3 h e_x4) (e_X8_toldFits v0 x3 h e_x4) (mFit_of rfl (Nat.le_of_ble_eq_true rfl) (by decide) (Nat.le_of_ble_eq_true rfl) (Nat.le_of_ble_eq_true rfl)) (Nat.le_of_ble_eq_true rfl) rfl rfl ?_
      intro _ _ hq
      rw [hq.1, hq.2]
      show mGo w kX8_take 0 0 25 [some (va_rf v0), some (.int x1)] [.int x4] h Q
      refine mGo.if_ne (tgt := 30) (n := 28) dX8_take_25 (by decide) rfl (fun hc => ?_) (fun hc => ?_)
      · replace e := mIff hc e
        refine mGo.aload_n (n := 31) (r := v0) dX8_take_30 rfl rfl ?_
        obtain ⟨x5, e_x5, e⟩ := mBind e
        refine mGo.getR (n := 34) dX8_take_31 sf_RX8_11 e_x5 rfl ?_
        refine mGo.iload_n (n := 35) (x := x1) dX8_take_34 rfl rfl ?_
        obtain ⟨x6, e_x6, e⟩ := mBind e
        refine mGo.aald (n := 36) dX8_take_35 e_x6 rfl ?_
        refine mGo.aload_n (n := 37) (r := v0) dX8_take_36 rfl rfl ?_
        obtain ⟨x7, e_x7, e⟩ := mBind e
        refine mGo.getR (n := 40) dX8_take_37 sf_RX8_16 e_x7 rfl ?_
        refine mGo.aload_n (n := 41) (r := v0) dX8_take_40 rfl rfl ?_
        obtain ⟨x8, e_x8, e⟩ := mBind e
        refine mGo.getI (n := 44) dX8_take_41 sf_RX8_68 e_x8 rfl ?_
        obtain ⟨x9, e_x9, e⟩ := mBind e
        refine mGo.callV (n := 47) (y := zX7_layRows) (R' := (mRoom (3) 0 0)) (as := [va_rf x7, .int x8]) (st := []) (r0 := x6) dX8_take_44 sc_RX8_81 rfl (s_X7_layRows x6 x7 x8 h e_x9) (e_X7_layRows x6 x7 x8 h e_x9) (mFit_of rfl (Nat.le_of_ble_eq_true rfl) (by decide) (Nat.le_of_ble_eq_true rfl) (Nat.le_of_ble_eq_true rfl)) (Nat.le_of_ble_eq_true rfl) rfl rfl ?_
        intro _ _ hq
        rw [hq.1, hq.2]
        show mGo w kX8_take 0 0 47 [some (va_rf v0), some (.int x1)] [] x9 Q
        refine mGo.aload_n (n := 48) (r := v0) dX8_take_47 rfl rfl ?_
        refine mGo.iconst (n := 49) (v := (0 : Int32)) dX8_take_48 (by decide) rfl ?_
        obtain ⟨h10, e_h10, e⟩ := mBind e
        refine mGo.putI (n := 52) dX8_take_49 sf_RX8_68 rfl rfl e_h10 rfl ?_
        refine mGo.iload_n (n := 53) (x := x1) dX8_take_52 rfl rfl ?_
        cases e
        exact mGo.iret dX8_take_53 rfl (Nat.le_of_ble_eq_true rfl) (Nat.le_of_ble_eq_true rfl) q
      · replace e := mIft hc e
        refine mGo.iconst (n := 29) (v := (-1 : Int32)) dX8_take_28 (by decide) rfl ?_
        cases e
        exact mGo.iret dX8_take_29 rfl (Nat.le_of_ble_eq_true rfl) (Nat.le_of_ble_eq_true rfl) q
theorem e_X8_take {w : mWp} (v0 : Option Nat) (h : mH) {res : Int32 × mH} (e : f_X8_take v0 h = some res) : mEx w zX8_take (mRoom 4 0 0) [va_rf v0] h (fun r h2 => r = some (.int res.1) ∧ h2 = res.2) := by
  refine mEx.of (by decide +kernel) (show mEnt [va_rf v0] 2 = [some (va_rf v0), none] by rw [mEnt_r] <;> rfl) (by simp only [List.map_cons, List.map_nil, mRfc, mCi, mCj, List.sum_cons, List.sum_nil]; exact Nat.le_of_ble_eq_true rfl) ?_
  refine g_X8_take v0 h e ?_
  exact ⟨rfl, rfl⟩
theorem s_X8_take (v0 : Option Nat) (h : mH) {res : Int32 × mH} (e : f_X8_take v0 h = some res) : mIs h v0 7 = some () := by
  unfold f_X8_take at e
  obtain ⟨u, e1, _⟩ := mBind e
  cases u
  exact e1
