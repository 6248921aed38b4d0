-- X0_init
def kX0_init : mK := (cX0_init, RX0, 1, none, "<init>", mRoom 2 2 1612)
def zX0_init : mY := (yX0_init, cX0_init, 1, none)
set_option maxRecDepth 100000 in
theorem sf_RX0_9 : mFld RX0 9 0 0 := ⟨by decide, by decide, Or.inl (mT_at 159 (by decide +kernel) rfl)⟩
set_option maxRecDepth 100000 in
theorem sf_RX0_15 : mFld RX0 15 0 1 := ⟨by decide, by decide, Or.inl (mT_at 161 (by decide +kernel) rfl)⟩
def f_X0_init (v0 : Nat) (h : mH) : Option (mH) :=
  (mIs h (some v0) 0).bind fun _ =>
  (some (mNew h (.inl (12, .inl (fun _ => 0))))).bind fun h1 =>
  (mPF h1 (some v0) 0 0 (va_rf (some (h.1 + 1)))).bind fun h2 =>
  (some (mNew h2 (.inl (1600, .inl (fun _ => 0))))).bind fun h3 =>
  (mPF h3 (some v0) 0 1 (va_rf (some (h2.1 + 1)))).bind fun h4 =>
  some h4
set_option maxRecDepth 100000 in
set_option maxHeartbeats 4000000 in
theorem g_X0_init {w : mWp} {Q : Option Value → mH → Prop} (v0 : Nat) (h : mH) {res : mH} (e : f_X0_init v0 h = some res) (q : (fun r : mH => Q none r) res) : mGo w kX0_init 0 0 0 [some (va_rf (some v0))] [] h Q := by
  unfold f_X0_init at e
  obtain ⟨_, _, e⟩ := mBind e
  refine mGo.aload_n (n := 1) (r := (some v0)) dX0_init_0 rfl rfl ?_
  refine mGo.objI (n := 4) dX0_init_1 (mT_at 158 (by decide +kernel) rfl) (mT_at 102 (by decide +kernel) rfl) (mT_at 103 (by decide +kernel) rfl) (Nat.le_of_ble_eq_true rfl) (Nat.le_of_ble_eq_true rfl) rfl ?_
  refine mGo.aload_n (n := 5) (r := (some v0)) dX0_init_4 rfl rfl ?_
  refine mGo.bipush (n := 7) (v := (12 : Int32)) dX0_init_5 (by decide) rfl ?_
  obtain ⟨h1, e_h1, e⟩ := mBind e
  refine mGo.newI' (n := 9) (N := 12) dX0_init_7 (by decide) (by decide) (by decide) (mT_at 152 (by decide +kernel) rfl) (Nat.le_of_ble_eq_true rfl) (Nat.le_of_ble_eq_true rfl) rfl e_h1 ?_
  show mGo w kX0_init 1 12 9 [some (va_rf (some v0))] [va_rf (some (h.1 + 1)), va_rf (some v0)] h1 Q
  obtain ⟨h2, e_h2, e⟩ := mBind e
  refine mGo.putR (n := 12) dX0_init_9 sf_RX0_9 (Or.inr ⟨rfl, rfl, rfl, mT_at 159 (by decide +kernel) rfl⟩) rfl e_h2 rfl ?_
  refine mGo.aload_n (n := 13) (r := (some v0)) dX0_init_12 rfl rfl ?_
  refine mGo.sipush (n := 16) (v := (1600 : Int32)) dX0_init_13 (by decide) rfl ?_
  obtain ⟨h3, e_h3, e⟩ := mBind e
  refine mGo.newI' (n := 18) (N := 1600) dX0_init_16 (by decide) (by decide) (by decide) (mT_at 152 (by decide +kernel) rfl) (Nat.le_of_ble_eq_true rfl) (Nat.le_of_ble_eq_true rfl) rfl e_h3 ?_
  show mGo w kX0_init 2 1612 18 [some (va_rf (some v0))] [va_rf (some (h2.1 + 1)), va_rf (some v0)] h3 Q
  obtain ⟨h4, e_h4, e⟩ := mBind e
  refine mGo.putR (n := 21) dX0_init_18 sf_RX0_15 (Or.inr ⟨rfl, rfl, rfl, mT_at 161 (by decide +kernel) rfl⟩) rfl e_h4 rfl ?_
  cases e
  exact mGo.vret dX0_init_21 rfl (Nat.le_of_ble_eq_true rfl) (Nat.le_of_ble_eq_true rfl) q
theorem e_X0_init {w : mWp} (v0 : Nat) (h : mH) {res : mH} (e : f_X0_init v0 h = some res) : mEx w zX0_init (mRoom 2 2 1612) [va_rf (some v0)] h (fun r h2 => r = none ∧ h2 = res) := by
  refine mEx.of (by decide +kernel) (show mEnt [va_rf (some v0)] 1 = [some (va_rf (some v0))] by rw [mEnt_r] <;> rfl) (by simp only [List.map_cons, List.map_nil, mRfc, mCi, mCj, List.sum_cons, List.sum_nil]; exact Nat.le_of_ble_eq_true rfl) ?_
  refine g_X0_init v0 h e ?_
  exact ⟨rfl, rfl⟩
theorem s_X0_init (v0 : Nat) (h : mH) {res : mH} (e : f_X0_init v0 h = some res) : mIs h (some v0) 0 = some () := by
  unfold f_X0_init at e
  obtain ⟨u, e1, _⟩ := mBind e
  cases u
  exact e1
-- J6_bitCount_0f7a4
def kJ6_bitCount_0f7a4 : mK := (cJ6_bitCount_0f7a4, RJ6, 1, some (.int), "bitCount", mRoom 1 0 0)
def zJ6_bitCount_0f7a4 : mY := (yJ6_bitCount_0f7a4, cJ6_bitCount_0f7a4, 1, some (.int))
def f_J6_bitCount_0f7a4_c48 (v0 : Int32)  : Option (Int32) :=
  some (v0 &&& (63 : Int32))
set_option maxRecDepth 100000 in
set_option maxHeartbeats 4000000 in
theorem g_J6_bitCount_0f7a4_c48 {w : mWp} {Q : Option Value → mH → Prop} (v0 : Int32) (h : mH) {res : Int32} (e : f_J6_bitCount_0f7a4_c48 v0 = some res) (q : (fun r : Int32 => Q (some (.int r)) h) res) : mGo w kJ6_bitCount_0f7a4 0 0 48 [some (.int v0)] [] h Q := by
  unfold f_J6_bitCount_0f7a4_c48 at e
  refine mGo.iload_n (n := 49) (x := v0) dJ6_bitCount_0f7a4_48 rfl rfl ?_
  refine mGo.bipush (n := 51) (v := (63 : Int32)) dJ6_bitCount_0f7a4_49 (by decide) rfl ?_
  refine mGo.iand (n := 52) dJ6_bitCount_0f7a4_51 rfl ?_
  cases e
  exact mGo.iret dJ6_bitCount_0f7a4_52 rfl (Nat.le_of_ble_eq_true rfl) (Nat.le_of_ble_eq_true rfl) q
def f_J6_bitCount_0f7a4_c41 (v0 : Int32)  : Option (Int32) :=
  f_J6_bitCount_0f7a4_c48 (v0 + (mUshr v0 (16 : Int32)))
set_option maxRecDepth 100000 in
set_option maxHeartbeats 4000000 in
theorem g_J6_bitCount_0f7a4_c41 {w : mWp} {Q : Option Value → mH → Prop} (v0 : Int32) (h : mH) {res : Int32} (e : f_J6_bitCount_0f7a4_c41 v0 = some res) (q : (fun r : Int32 => Q (some (.int r)) h) res) : mGo w kJ6_bitCount_0f7a4 0 0 41 [some (.int v0)] [] h Q := by
  unfold f_J6_bitCount_0f7a4_c41 at e
  refine mGo.iload_n (n := 42) (x := v0) dJ6_bitCount_0f7a4_41 rfl rfl ?_
  refine mGo.iload_n (n := 43) (x := v0) dJ6_bitCount_0f7a4_42 rfl rfl ?_
  refine mGo.bipush (n := 45) (v := (16 : Int32)) dJ6_bitCount_0f7a4_43 (by decide) rfl ?_
  refine mGo.iushr (n := 46) dJ6_bitCount_0f7a4_45 rfl ?_
  refine mGo.iadd (n := 47) dJ6_bitCount_0f7a4_46 rfl ?_
  refine mGo.istore_n (n := 48) (ls' := [some (.int (v0 + (mUshr v0 (16 : Int32))))]) dJ6_bitCount_0f7a4_47 rfl (Nat.le_of_ble_eq_true rfl) rfl ?_
  refine mGo.mk [true] ?_
  exact g_J6_bitCount_0f7a4_c48 (v0 + (mUshr v0 (16 : Int32))) h e q
def f_J6_bitCount_0f7a4_c34 (v0 : Int32)  : Option (Int32) :=
  f_J6_bitCount_0f7a4_c41 (v0 + (mUshr v0 (8 : Int32)))
set_option maxRecDepth 100000 in
set_option maxHeartbeats 4000000 in
theorem g_J6_bitCount_0f7a4_c34 {w : mWp} {Q : Option Value → mH → Prop} (v0 : Int32) (h : mH) {res : Int32} (e : f_J6_bitCount_0f7a4_c34 v0 = some res) (q : (fun r : Int32 => Q (some (.int r)) h) res) : mGo w kJ6_bitCount_0f7a4 0 0 34 [some (.int v0)] [] h Q := by
  unfold f_J6_bitCount_0f7a4_c34 at e
  refine mGo.iload_n (n := 35) (x := v0) dJ6_bitCount_0f7a4_34 rfl rfl ?_
  refine mGo.iload_n (n := 36) (x := v0) dJ6_bitCount_0f7a4_35 rfl rfl ?_
  refine mGo.bipush (n := 38) (v := (8 : Int32)) dJ6_bitCount_0f7a4_36 (by decide) rfl ?_
  refine mGo.iushr (n := 39) dJ6_bitCount_0f7a4_38 rfl ?_
  refine mGo.iadd (n := 40) dJ6_bitCount_0f7a4_39 rfl ?_
  refine mGo.istore_n (n := 41) (ls' := [some (.int (v0 + (mUshr v0 (8 : Int32))))]) dJ6_bitCount_0f7a4_40 rfl (Nat.le_of_ble_eq_true rfl) rfl ?_
  refine mGo.mk [true] ?_
  exact g_J6_bitCount_0f7a4_c41 (v0 + (mUshr v0 (8 : Int32))) h e q
def f_J6_bitCount_0f7a4_c24 (v0 : Int32)  : Option (Int32) :=
  f_J6_bitCount_0f7a4_c34 ((v0 + (mUshr v0 (4 : Int32))) &&& (252645135 : Int32))
set_option maxRecDepth 100000 in
set_option maxHeartbeats 4000000 in
theorem g_J6_bitCount_0f7a4_c24 {w : mWp} {Q : Option Value → mH → Prop} (v0 : Int32) (h : mH) {res : Int32} (e : f_J6_bitCount_0f7a4_c24 v0 = some res) (q : (fun r : Int32 => Q (some (.int r)) h) res) : mGo w kJ6_bitCount_0f7a4 0 0 24 [some (.int v0)] [] h Q := by
  unfold f_J6_bitCount_0f7a4_c24 at e
  refine mGo.iload_n (n := 25) (x := v0) dJ6_bitCount_0f7a4_24 rfl rfl ?_
  refine mGo.iload_n (n := 26) (x := v0) dJ6_bitCount_0f7a4_25 rfl rfl ?_
  refine mGo.iconst (n := 27) (v := (4 : Int32)) dJ6_bitCount_0f7a4_26 (by decide) rfl ?_
  refine mGo.iushr (n := 28) dJ6_bitCount_0f7a4_27 rfl ?_
  refine mGo.iadd (n := 29) dJ6_bitCount_0f7a4_28 rfl ?_
  refine mGo.ldc_w (n := 32) (v := (252645135 : Int32)) dJ6_bitCount_0f7a4_29 (mT_at 440 (by decide +kernel) rfl) rfl ?_
  refine mGo.iand (n := 33) dJ6_bitCount_0f7a4_32 rfl ?_
  refine mGo.istore_n (n := 34) (ls' := [some (.int ((v0 + (mUshr v0 (4 : Int32))) &&& (252645135 : Int32)))]) dJ6_bitCount_0f7a4_33 rfl (Nat.le_of_ble_eq_true rfl) rfl ?_
  refine mGo.mk [true] ?_
  exact g_J6_bitCount_0f7a4_c34 ((v0 + (mUshr v0 (4 : Int32))) &&& (252645135 : Int32)) h e q
def f_J6_bitCount_0f7a4_c10 (v0 : Int32)  : Option (Int32) :=
  f_J6_bitCount_0f7a4_c24 ((v0 &&& (858993459 : Int32)) + ((mUshr v0 (2 : Int32)) &&& (858993459 : Int32)))
set_option maxRecDepth 100000 in
set_option maxHeartbeats 4000000 in
theorem g_J6_bitCount_0f7a4_c10 {w : mWp} {Q : Option Value → mH → Prop} (v0 : Int32) (h : mH) {res : Int32} (e : f_J6_bitCount_0f7a4_c10 v0 = some res) (q : (fun r : Int32 => Q (some (.int r)) h) res) : mGo w kJ6_bitCount_0f7a4 0 0 10 [some (.int v0)] [] h Q := by
  unfold f_J6_bitCount_0f7a4_c10 at e
  refine mGo.iload_n (n := 11) (x := v0) dJ6_bitCount_0f7a4_10 rfl rfl ?_
  refine mGo.ldc_w (n := 14) (v := (858993459 : Int32)) dJ6_bitCount_0f7a4_11 (mT_at 439 (by decide +kernel) rfl) rfl ?_
  refine mGo.iand (n := 15) dJ6_bitCount_0f7a4_14 rfl ?_
  refine mGo.iload_n (n := 16) (x := v0) dJ6_bitCount_0f7a4_15 rfl rfl ?_
  refine mGo.iconst (n := 17) (v := (2 : Int32)) dJ6_bitCount_0f7a4_16 (by decide) rfl ?_
  refine mGo.iushr (n := 18) dJ6_bitCount_0f7a4_17 rfl ?_
  refine mGo.ldc_w (n := 21) (v := (858993459 : Int32)) dJ6_bitCount_0f7a4_18 (mT_at 439 (by decide +kernel) rfl) rfl ?_
  refine mGo.iand (n := 22) dJ6_bitCount_0f7a4_21 rfl ?_
  refine mGo.iadd (n := 23) dJ6_bitCount_0f7a4_22 rfl ?_
  refine mGo.istore_n (n := 24) (ls' := [some (.int ((v0 &&& (858993459 : Int32)) + ((mUshr v0 (2 : Int32)) &&& (858993459 : Int32))))]) dJ6_bitCount_0f7a4_23 rfl (Nat.le_of_ble_eq_true rfl) rfl ?_
  refine mGo.mk [true] ?_
  exact g_J6_bitCount_0f7a4_c24 ((v0 &&& (858993459 : Int32)) + ((mUshr v0 (2 : Int32)) &&& (858993459 : Int32))) h e q
def f_J6_bitCount_0f7a4 (v0 : Int32)  : Option (Int32) :=
  f_J6_bitCount_0f7a4_c10 (v0 - ((mUshr v0 (1 : Int32)) &&& (1431655765 : Int32)))
set_option maxRecDepth 100000 in
set_option maxHeartbeats 4000000 in
theorem g_J6_bitCount_0f7a4 {w : mWp} {Q : Option Value → mH → Prop} (v0 : Int32) (h : mH) {res : Int32} (e : f_J6_bitCount_0f7a4 v0 = some res) (q : (fun r : Int32 => Q (some (.int r)) h) res) : mGo w kJ6_bitCount_0f7a4 0 0 0 [some (.int v0)] [] h Q := by
  unfold f_J6_bitCount_0f7a4 at e
  refine mGo.iload_n (n := 1) (x := v0) dJ6_bitCount_0f7a4_0 rfl rfl ?_
  refine mGo.iload_n (n := 2) (x := v0) dJ6_bitCount_0f7a4_1 rfl rfl ?_
  refine mGo.iconst (n := 3) (v := (1 : Int32)) dJ6_bitCount_0f7a4_2 (by decide) rfl ?_
  refine mGo.iushr (n := 4) dJ6_bitCount_0f7a4_3 rfl ?_
  refine mGo.ldc_w (n := 7) (v := (1431655765 : Int32)) dJ6_bitCount_0f7a4_4 (mT_at 438 (by decide +kernel) rfl) rfl ?_
  refine mGo.iand (n := 8) dJ6_bitCount_0f7a4_7 rfl ?_
  refine mGo.isub (n := 9) dJ6_bitCount_0f7a4_8 rfl ?_
  refine mGo.istore_n (n := 10) (ls' := [some (.int (v0 - ((mUshr v0 (1 : Int32)) &&& (1431655765 : Int32))))]) dJ6_bitCount_0f7a4_9 rfl (Nat.le_of_ble_eq_true rfl) rfl ?_
  refine mGo.mk [true] ?_
  exact g_J6_bitCount_0f7a4_c10 (v0 - ((mUshr v0 (1 : Int32)) &&& (1431655765 : Int32))) h e q
theorem e_J6_bitCount_0f7a4 {w : mWp} (v0 : Int32) (h : mH) {res : Int32} (e : f_J6_bitCount_0f7a4 v0 = some res) : mEx w zJ6_bitCount_0f7a4 (mRoom 1 0 0) [.int v0] h (fun r h2 => r = some (.int res) ∧ h2 = h) := by
  refine mEx.of (by decide +kernel) rfl (Nat.le_of_ble_eq_true rfl) ?_
  refine g_J6_bitCount_0f7a4 v0 h e ?_
  exact ⟨rfl, rfl⟩
-- X8_signSum
def kX8_signSum : mK := (cX8_signSum, RX8, 2, some (.int), "signSum", mRoom 2 0 0)
def zX8_signSum : mY := (yX8_signSum, cX8_signSum, 2, some (.int))
set_option maxRecDepth 100000 in
theorem sc_RX8_258 : mSS RX8 258 zJ6_bitCount_0f7a4 1 := ⟨Or.inl (mT_at 435 (by decide +kernel) rfl), mT_at 436 (by decide +kernel) rfl, mT_at 95 (by decide +kernel) rfl, mT_at 437 (by decide +kernel) rfl, ⟨by decide +kernel, by decide +kernel, by decide +kernel⟩⟩
def f_X8_signSum (v0 : Int32) (v1 : Int32)  : Option (Int32) :=
  (f_J6_bitCount_0f7a4 v0).bind fun x1 =>
  some (v1 - ((2 : Int32) * x1))
set_option maxRecDepth 100000 in
set_option maxHeartbeats 4000000 in
theorem g_X8_signSum {w : mWp} {Q : Option Value → mH → Prop} (v0 : Int32) (v1 : Int32) (h : mH) {res : Int32} (e : f_X8_signSum v0 v1 = some res) (q : (fun r : Int32 => Q (some (.int r)) h) res) : mGo w kX8_signSum 0 0 0 [some (.int v0), some (.int v1)] [] h Q := by
  unfold f_X8_signSum at e
  refine mGo.iload_n (n := 1) (x := v1) dX8_signSum_0 rfl rfl ?_
  refine mGo.iconst (n := 2) (v := (2 : Int32)) dX8_signSum_1 (by decide) rfl ?_
  refine mGo.iload_n (n := 3) (x := v0) dX8_signSum_2 rfl rfl ?_
  obtain ⟨x1, e_x1, e⟩ := mBind e
  refine mGo.callS (n := 6) (y := zJ6_bitCount_0f7a4) (R' := (mRoom (1) 0 0)) (as := [.int v0]) (st := [.int (2 : Int32), .int v1]) dX8_signSum_3 sc_RX8_258 rfl (e_J6_bitCount_0f7a4 v0 h e_x1) (mFit_of rfl (Nat.le_of_ble_eq_true rfl) (by decide) (Nat.le_of_ble_eq_true rfl) (Nat.le_of_ble_eq_true rfl)) (Nat.le_of_ble_eq_true rfl) rfl rfl ?_
  intro _ _ hq
  rw [hq.1, hq.2]
  show mGo w kX8_signSum 0 0 6 [some (.int v0), some (.int v1)] [.int x1, .int (2 : Int32), .int v1] h Q
  refine mGo.imul (n := 7) dX8_signSum_6 rfl ?_
  refine mGo.isub (n := 8) dX8_signSum_7 rfl ?_
  cases e
  exact mGo.iret dX8_signSum_8 rfl (Nat.le_of_ble_eq_true rfl) (Nat.le_of_ble_eq_true rfl) q
theorem e_X8_signSum {w : mWp} (v0 : Int32) (v1 : Int32) (h : mH) {res : Int32} (e : f_X8_signSum v0 v1 = some res) : mEx w zX8_signSum (mRoom 2 0 0) [.int v0, .int v1] h (fun r h2 => r = some (.int res) ∧ h2 = h) := by
  refine mEx.of (by decide +kernel) rfl (Nat.le_of_ble_eq_true rfl) ?_
  refine g_X8_signSum v0 v1 h e ?_
  exact ⟨rfl, rfl⟩
-- X0_extend
def kX0_extend (nf : Nat) : mK := (cX0_extend, RX0, 10, some (.boolean), "extend", mRoom (3 + nf) 0 0)
def zX0_extend : mY := (yX0_extend, cX0_extend, 10, some (.boolean))
set_option maxRecDepth 100000 in
theorem sc_RX0_26 : mSS RX0 26 zX8_signSum 2 := ⟨Or.inr ⟨_, mNest_at 350 (x := Cond.methodLinkNest RX0 26 yX8_signSum "SignTables") (by decide +kernel) rfl⟩, mT_at 433 (by decide +kernel) rfl, mT_at 83 (by decide +kernel) rfl, mT_at 434 (by decide +kernel) rfl, ⟨by decide +kernel, by decide +kernel, by decide +kernel⟩⟩
set_option maxRecDepth 100000 in
theorem sc_RX0_22 : mSS RX0 22 zX0_extend 5 := ⟨Or.inl (mT_at 441 (by decide +kernel) rfl), mT_at 442 (by decide +kernel) rfl, mT_at 85 (by decide +kernel) rfl, mT_at 443 (by decide +kernel) rfl, ⟨by decide +kernel, by decide +kernel, by decide +kernel⟩⟩
def f_X0_extend_c114 (F : Option Nat → Int32 → Int32 → Int32 → Int32 → mH → Option (Int32 × mH)) (v0 : Option Nat) (v1 : Int32) (v2 : Int32) (v4 : Int32) (v5 : Option Nat) (v6 : Int32) (v8 : Int32) (h : mH) : Option ((Int32 × mH) ⊕ (Int32 × mH)) :=
  (F v0 v1 (v2 + (1 : Int32)) v4 v8 h).bind fun x1 =>
  if x1.1 = 0 then
    some (Sum.inl ((v6 + 1), x1.2))
  else
    some (Sum.inr ((1 : Int32), x1.2))
set_option maxRecDepth 100000 in
set_option maxHeartbeats 4000000 in
theorem g_X0_extend_c114 {w : mWp} {Q : Option Value → mH → Prop} {nf : Nat} {F : Option Nat → Int32 → Int32 → Int32 → Int32 → mH → Option (Int32 × mH)} (hF : ∀ (v0 : Option Nat) (v1 : Int32) (v2 : Int32) (v3 : Int32) (v4 : Int32) (h : mH) {res : Int32 × mH}, F v0 v1 v2 v3 v4 h = some res → mEx w zX0_extend (mRoom (3 + nf) 0 0) [va_rf v0, .int v1, .int v2, .int v3, .int v4] h (fun r h2 => r = some (.int res.1) ∧ h2 = res.2)) (v0 : Option Nat) (v1 : Int32) (v2 : Int32) (v4 : Int32) (v5 : Option Nat) (v6 : Int32) (v8 : Int32) (h : mH) {res : (Int32 × mH) ⊕ (Int32 × mH)} (e : f_X0_extend_c114 F v0 v1 v2 v4 v5 v6 v8 h = some res) (q : (Sum.elim (fun x : Int32 × mH => mGo w (kX0_extend (nf + 1)) 0 0 22 [some (va_rf v0), some (.int v1), some (.int v2), none, some (.int v4), some (va_rf v5), some (.int x.1), none, none, none] [] x.2 Q) (fun r : Int32 × mH => Q (some (.int r.1)) r.2)) res) : mGo w (kX0_extend (nf + 1)) 0 0 114 [some (va_rf v0), some (.int v1), some (.int v2), none, some (.int v4), some (va_rf v5), some (.int v6), none, some (.int v8), none] [] h Q := by
  unfold f_X0_extend_c114 at e
  refine mGo.aload_n (n := 115) (r := v0) dX0_extend_114 rfl rfl ?_
  refine mGo.iload_n (n := 116) (x := v1) dX0_extend_115 rfl rfl ?_
  refine mGo.iload_n (n := 117) (x := v2) dX0_extend_116 rfl rfl ?_
  refine mGo.iconst (n := 118) (v := (1 : Int32)) dX0_extend_117 (by decide) rfl ?_
  refine mGo.iadd (n := 119) dX0_extend_118 rfl ?_
  refine mGo.iload (n := 121) (x := v4) dX0_extend_119 rfl rfl ?_
  refine mGo.iload (n := 123) (x := v8) dX0_extend_121 rfl rfl ?_
  obtain ⟨x1, e_x1, e⟩ := mBind e
  refine mGo.callS (n := 126) (y := zX0_extend) (R' := (mRoom (3 + nf) 0 0)) (as := [va_rf v0, .int v1, .int (v2 + (1 : Int32)), .int v4, .int v8]) (st := []) dX0_extend_123 sc_RX0_22 rfl (hF v0 v1 (v2 + (1 : Int32)) v4 v8 h e_x1) (mFit_of rfl (by omega) (by decide) (Nat.le_of_ble_eq_true rfl) (Nat.le_of_ble_eq_true rfl)) (Nat.le_of_ble_eq_true rfl) rfl rfl ?_
  intro _ _ hq
  rw [hq.1, hq.2]
  show mGo w (kX0_extend (nf + 1)) 0 0 126 [some (va_rf v0), some (.int v1), some (.int v2), none, some (.int v4), some (va_rf v5), some (.int v6), none, some (.int v8), none] [.int x1.1] x1.2 Q
  refine mGo.if_eq (tgt := 131) (n := 129) dX0_extend_126 (by decide) rfl (fun hc => ?_) (fun hc => ?_)
  · replace e := mIft hc e
    refine mGo.iinc (n := 134) (x := v6) (v := (v6 + 1)) (ls' := [some (va_rf v0), some (.int v1), some (.int v2), none, some (.int v4), some (va_rf v5), some (.int (v6 + 1)), none, some (.int v8), none]) dX0_extend_131 rfl rfl ((mSt_set (fun u _ hu => by cases hu; exact mRfc _)).trans rfl) (Nat.le_of_ble_eq_true rfl) rfl ?_
    refine mGo.goto (tgt := 22) dX0_extend_134 (by decide) ?_
    cases e
    refine mGo.mk [true, true, true, false, true, true, true, false, false, false] ?_
    exact q
  · replace e := mIff hc e
    refine mGo.iconst (n := 130) (v := (1 : Int32)) dX0_extend_129 (by decide) rfl ?_
    cases e
    exact mGo.zret dX0_extend_130 rfl (by decide) (Nat.le_of_ble_eq_true rfl) (Nat.le_of_ble_eq_true rfl) q
def f_X0_extend_b65 (F : Option Nat → Int32 → Int32 → Int32 → Int32 → mH → Option (Int32 × mH)) (v0 : Option Nat) (v1 : Int32) (v2 : Int32) (v4 : Int32) (v5 : Option Nat) (v6 : Int32) (v7 : Int32) (v8 : Int32) (v9 : Int32) (h : mH) : Option ((Int32 × Int32 × mH) ⊕ ((Int32 × mH) ⊕ (Int32 × mH))) :=
  if v4 ≤ v9 then
    (f_X0_extend_c114 F v0 v1 v2 v4 v5 v6 v8 h).map (fun r => (Sum.inr r))
  else
    if (1600 : Int32) ≤ v8 then
      (f_X0_extend_c114 F v0 v1 v2 v4 v5 v6 v8 h).map (fun r => (Sum.inr r))
    else
      (mAI h v5 v9).bind fun x3 =>
      (f_X8_signSum (v7 ^^^ x3) v1).bind fun x4 =>
      if x4 = 0 then
        (mAI h v5 v9).bind fun x5 =>
        (mSI h v5 v8 x5).bind fun h6 =>
        some (Sum.inl ((v8 + 1), (v9 + 1), h6))
      else
        some (Sum.inl (v8, (v9 + 1), h))
set_option maxRecDepth 100000 in
set_option maxHeartbeats 4000000 in
theorem g_X0_extend_b65 {w : mWp} {Q : Option Value → mH → Prop} {nf : Nat} {F : Option Nat → Int32 → Int32 → Int32 → Int32 → mH → Option (Int32 × mH)} (hF : ∀ (v0 : Option Nat) (v1 : Int32) (v2 : Int32) (v3 : Int32) (v4 : Int32) (h : mH) {res : Int32 × mH}, F v0 v1 v2 v3 v4 h = some res → mEx w zX0_extend (mRoom (3 + nf) 0 0) [va_rf v0, .int v1, .int v2, .int v3, .int v4] h (fun r h2 => r = some (.int res.1) ∧ h2 = res.2)) (v0 : Option Nat) (v1 : Int32) (v2 : Int32) (v4 : Int32) (v5 : Option Nat) (v6 : Int32) (v7 : Int32) (v8 : Int32) (v9 : Int32) (h : mH) {res : (Int32 × Int32 × mH) ⊕ ((Int32 × mH) ⊕ (Int32 × mH))} (e : f_X0_extend_b65 F v0 v1 v2 v4 v5 v6 v7 v8 v9 h = some res) (q : (Sum.elim (fun x : Int32 × Int32 × mH => mGo w (kX0_extend (nf + 1)) 0 0 65 [some (va_rf v0), some (.int v1), some (.int v2), none, some (.int v4), some (va_rf v5), some (.int v6), some (.int v7), some (.int x.1), some (.int x.2.1)] [] x.2.2 Q) (Sum.elim (fun x : Int32 × mH => mGo w (kX0_extend (nf + 1)) 0 0 22 [some (va_rf v0), some (.int v1), some (.int v2), none, some (.int v4), some (va_rf v5), some (.int x.1), none, none, none] [] x.2 Q) (fun r : Int32 × mH => Q (some (.int r.1)) r.2))) res) : mGo w (kX0_extend (nf + 1)) 0 0 65 [some (va_rf v0), some (.int v1), some (.int v2), none, some (.int v4), some (va_rf v5), some (.int v6), some (.int v7), some (.int v8), some (.int v9)] [] h Q := by
  unfold f_X0_extend_b65 at e
  refine mGo.iload (n := 67) (x := v9) dX0_extend_65 rfl rfl ?_
  refine mGo.iload (n := 69) (x := v4) dX0_extend_67 rfl rfl ?_
  refine mGo.icmp_ge (tgt := 114) (n := 72) dX0_extend_69 (by decide) rfl (fun hc => ?_) (fun hc => ?_)
  · replace e := mIft hc e
    obtain ⟨r1, e2, rfl⟩ := mMap e
    refine mGo.mk [true, true, true, false, true, true, true, false, true, false] ?_
    exact g_X0_extend_c114 hF v0 v1 v2 v4 v5 v6 v8 h e2 q
  · replace e := mIff hc e
    refine mGo.iload (n := 74) (x := v8) dX0_extend_72 rfl rfl ?_
    refine mGo.sipush (n := 77) (v := (1600 : Int32)) dX0_extend_74 (by decide) rfl ?_
    refine mGo.icmp_ge (tgt := 114) (n := 80) dX0_extend_77 (by decide) rfl (fun hc => ?_) (fun hc => ?_)
    · replace e := mIft hc e
      obtain ⟨r2, e2, rfl⟩ := mMap e
      refine mGo.mk [true, true, true, false, true, true, true, false, true, false] ?_
      exact g_X0_extend_c114 hF v0 v1 v2 v4 v5 v6 v8 h e2 q
    · replace e := mIff hc e
      refine mGo.iload (n := 82) (x := v7) dX0_extend_80 rfl rfl ?_
      refine mGo.aload (n := 84) (r := v5) dX0_extend_82 rfl rfl ?_
      refine mGo.iload (n := 86) (x := v9) dX0_extend_84 rfl rfl ?_
      obtain ⟨x3, e_x3, e⟩ := mBind e
      refine mGo.iald (n := 87) dX0_extend_86 e_x3 rfl ?_
      refine mGo.ixor (n := 88) dX0_extend_87 rfl ?_
      refine mGo.iload_n (n := 89) (x := v1) dX0_extend_88 rfl rfl ?_
      obtain ⟨x4, e_x4, e⟩ := mBind e
      refine mGo.callS (n := 92) (y := zX8_signSum) (R' := (mRoom (2) 0 0)) (as := [.int (v7 ^^^ x3), .int v1]) (st := []) dX0_extend_89 sc_RX0_26 rfl (e_X8_signSum (v7 ^^^ x3) v1 h e_x4) (mFit_of rfl (by omega) (by decide) (Nat.le_of_ble_eq_true rfl) (Nat.le_of_ble_eq_true rfl)) (Nat.le_of_ble_eq_true rfl) rfl rfl ?_
      intro _ _ hq
      rw [hq.1, hq.2]
      show mGo w (kX0_extend (nf + 1)) 0 0 92 [some (va_rf v0), some (.int v1), some (.int v2), none, some (.int v4), some (va_rf v5), some (.int v6), some (.int v7), some (.int v8), some (.int v9)] [.int x4] h Q
      refine mGo.if_ne (tgt := 108) (n := 95) dX0_extend_92 (by decide) rfl (fun hc => ?_) (fun hc => ?_)
      · replace e := mIff hc e
        refine mGo.iinc (n := 111) (x := v9) (v := (v9 + 1)) (ls' := [some (va_rf v0), some (.int v1), some (.int v2), none, some (.int v4), some (va_rf v5), some (.int v6), some (.int v7), some (.int v8), some (.int (v9 + 1))]) dX0_extend_108 rfl rfl rfl (Nat.le_of_ble_eq_true rfl) rfl ?_
        refine mGo.goto (tgt := 65) dX0_extend_111 (by decide) ?_
        cases e
        refine mGo.mk [true, true, true, false, true, true, true, true, true, true] ?_
        exact q
      · replace e := mIft hc e
        refine mGo.aload (n := 97) (r := v5) dX0_extend_95 rfl rfl ?_
        refine mGo.iload (n := 99) (x := v8) dX0_extend_97 rfl rfl ?_
        refine mGo.aload (n := 101) (r := v5) dX0_extend_99 rfl rfl ?_
        refine mGo.iload (n := 103) (x := v9) dX0_extend_101 rfl rfl ?_
        obtain ⟨x5, e_x5, e⟩ := mBind e
        refine mGo.iald (n := 104) dX0_extend_103 e_x5 rfl ?_
        obtain ⟨h6, e_h6, e⟩ := mBind e
        refine mGo.iast (n := 105) dX0_extend_104 e_h6 rfl ?_
        refine mGo.iinc (n := 108) (x := v8) (v := (v8 + 1)) (ls' := [some (va_rf v0), some (.int v1), some (.int v2), none, some (.int v4), some (va_rf v5), some (.int v6), some (.int v7), some (.int (v8 + 1)), some (.int v9)]) dX0_extend_105 rfl rfl rfl (Nat.le_of_ble_eq_true rfl) rfl ?_
        refine mGo.iinc (n := 111) (x := v9) (v := (v9 + 1)) (ls' := [some (va_rf v0), some (.int v1), some (.int v2), none, some (.int v4), some (va_rf v5), some (.int v6), some (.int v7), some (.int (v8 + 1)), some (.int (v9 + 1))]) dX0_extend_108 rfl rfl rfl (Nat.le_of_ble_eq_true rfl) rfl ?_
        refine mGo.goto (tgt := 65) dX0_extend_111 (by decide) ?_
        cases e
        refine mGo.mk [true, true, true, false, true, true, true, true, true, true] ?_
        exact q
noncomputable def f_X0_extend_l65 (F : Option Nat → Int32 → Int32 → Int32 → Int32 → mH → Option (Int32 × mH)) (v0 : Option Nat) (v1 : Int32) (v2 : Int32) (v4 : Int32) (v5 : Option Nat) (v6 : Int32) (v7 : Int32) (v8 : Int32) (v9 : Int32) (h : mH) : Option ((Int32 × mH) ⊕ (Int32 × mH)) :=
  mLoop (fun x : Int32 × Int32 × mH => f_X0_extend_b65 F v0 v1 v2 v4 v5 v6 v7 x.1 x.2.1 x.2.2) (v8, v9, h)
set_option maxRecDepth 100000 in
set_option maxHeartbeats 4000000 in
theorem g_X0_extend_l65 {w : mWp} {Q : Option Value → mH → Prop} {nf : Nat} {F : Option Nat → Int32 → Int32 → Int32 → Int32 → mH → Option (Int32 × mH)} (hF : ∀ (v0 : Option Nat) (v1 : Int32) (v2 : Int32) (v3 : Int32) (v4 : Int32) (h : mH) {res : Int32 × mH}, F v0 v1 v2 v3 v4 h = some res → mEx w zX0_extend (mRoom (3 + nf) 0 0) [va_rf v0, .int v1, .int v2, .int v3, .int v4] h (fun r h2 => r = some (.int res.1) ∧ h2 = res.2)) (v0 : Option Nat) (v1 : Int32) (v2 : Int32) (v4 : Int32) (v5 : Option Nat) (v6 : Int32) (v7 : Int32) (v8 : Int32) (v9 : Int32) (h : mH) {res : (Int32 × mH) ⊕ (Int32 × mH)} (e : f_X0_extend_l65 F v0 v1 v2 v4 v5 v6 v7 v8 v9 h = some res) (q : (Sum.elim (fun x : Int32 × mH => mGo w (kX0_extend (nf + 1)) 0 0 22 [some (va_rf v0), some (.int v1), some (.int v2), none, some (.int v4), some (va_rf v5), some (.int x.1), none, none, none] [] x.2 Q) (fun r : Int32 × mH => Q (some (.int r.1)) r.2)) res) : mGo w (kX0_extend (nf + 1)) 0 0 65 [some (va_rf v0), some (.int v1), some (.int v2), none, some (.int v4), some (va_rf v5), some (.int v6), some (.int v7), some (.int v8), some (.int v9)] [] h Q := by
  unfold f_X0_extend_l65 at e
  refine mLoop_go (x := (v8, v9, h)) (fun x : Int32 × Int32 × mH => mGo w (kX0_extend (nf + 1)) 0 0 65 [some (va_rf v0), some (.int v1), some (.int v2), none, some (.int v4), some (va_rf v5), some (.int v6), some (.int v7), some (.int x.1), some (.int x.2.1)] [] x.2.2 Q) (Sum.elim (fun x : Int32 × mH => mGo w (kX0_extend (nf + 1)) 0 0 22 [some (va_rf v0), some (.int v1), some (.int v2), none, some (.int v4), some (va_rf v5), some (.int x.1), none, none, none] [] x.2 Q) (fun r : Int32 × mH => Q (some (.int r.1)) r.2)) ?_ e q
  rintro ⟨v8, v9, h1⟩ res e q
  exact g_X0_extend_b65 hF v0 v1 v2 v4 v5 v6 v7 v8 v9 h1 e q
noncomputable def f_X0_extend_b22 (F : Option Nat → Int32 → Int32 → Int32 → Int32 → mH → Option (Int32 × mH)) (v0 : Option Nat) (v1 : Int32) (v2 : Int32) (v4 : Int32) (v5 : Option Nat) (v6 : Int32) (h : mH) : Option ((Int32 × mH) ⊕ (Int32 × mH)) :=
  if v4 ≤ v6 then
    some (Sum.inr ((0 : Int32), h))
  else
    if (v4 - v6) < (v1 - v2) then
      some (Sum.inr ((0 : Int32), h))
    else
      (mAI h v5 v6).bind fun x1 =>
      (mGR h v0 0 0).bind fun x2 =>
      (mSI h x2 v2 x1).bind fun h3 =>
      f_X0_extend_l65 F v0 v1 v2 v4 v5 v6 x1 v4 (v6 + (1 : Int32)) h3
set_option maxRecDepth 100000 in
set_option maxHeartbeats 4000000 in
theorem g_X0_extend_b22 {w : mWp} {Q : Option Value → mH → Prop} {nf : Nat} {F : Option Nat → Int32 → Int32 → Int32 → Int32 → mH → Option (Int32 × mH)} (hF : ∀ (v0 : Option Nat) (v1 : Int32) (v2 : Int32) (v3 : Int32) (v4 : Int32) (h : mH) {res : Int32 × mH}, F v0 v1 v2 v3 v4 h = some res → mEx w zX0_extend (mRoom (3 + nf) 0 0) [va_rf v0, .int v1, .int v2, .int v3, .int v4] h (fun r h2 => r = some (.int res.1) ∧ h2 = res.2)) (v0 : Option Nat) (v1 : Int32) (v2 : Int32) (v4 : Int32) (v5 : Option Nat) (v6 : Int32) (h : mH) {res : (Int32 × mH) ⊕ (Int32 × mH)} (e : f_X0_extend_b22 F v0 v1 v2 v4 v5 v6 h = some res) (q : (Sum.elim (fun x : Int32 × mH => mGo w (kX0_extend (nf + 1)) 0 0 22 [some (va_rf v0), some (.int v1), some (.int v2), none, some (.int v4), some (va_rf v5), some (.int x.1), none, none, none] [] x.2 Q) (fun r : Int32 × mH => Q (some (.int r.1)) r.2)) res) : mGo w (kX0_extend (nf + 1)) 0 0 22 [some (va_rf v0), some (.int v1), some (.int v2), none, some (.int v4), some (va_rf v5), some (.int v6), none, none, none] [] h Q := by
  unfold f_X0_extend_b22 at e
  refine mGo.iload (n := 24) (x := v6) dX0_extend_22 rfl rfl ?_
  refine mGo.iload (n := 26) (x := v4) dX0_extend_24 rfl rfl ?_
  refine mGo.icmp_ge (tgt := 137) (n := 29) dX0_extend_26 (by decide) rfl (fun hc => ?_) (fun hc => ?_)
  · replace e := mIft hc e
    refine mGo.iconst (n := 138) (v := (0 : Int32)) dX0_extend_137 (by decide) rfl ?_
    cases e
    exact mGo.zret dX0_extend_138 rfl (by decide) (Nat.le_of_ble_eq_true rfl) (Nat.le_of_ble_eq_true rfl) q
  · replace e := mIff hc e
    refine mGo.iload (n := 31) (x := v4) dX0_extend_29 rfl rfl ?_
    refine mGo.iload (n := 33) (x := v6) dX0_extend_31 rfl rfl ?_
    refine mGo.isub (n := 34) dX0_extend_33 rfl ?_
    refine mGo.iload_n (n := 35) (x := v1) dX0_extend_34 rfl rfl ?_
    refine mGo.iload_n (n := 36) (x := v2) dX0_extend_35 rfl rfl ?_
    refine mGo.isub (n := 37) dX0_extend_36 rfl ?_
    refine mGo.icmp_lt (tgt := 137) (n := 40) dX0_extend_37 (by decide) rfl (fun hc => ?_) (fun hc => ?_)
    · replace e := mIft hc e
      refine mGo.iconst (n := 138) (v := (0 : Int32)) dX0_extend_137 (by decide) rfl ?_
      cases e
      exact mGo.zret dX0_extend_138 rfl (by decide) (Nat.le_of_ble_eq_true rfl) (Nat.le_of_ble_eq_true rfl) q
    · replace e := mIff hc e
      refine mGo.aload (n := 42) (r := v5) dX0_extend_40 rfl rfl ?_
      refine mGo.iload (n := 44) (x := v6) dX0_extend_42 rfl rfl ?_
      obtain ⟨x1, e_x1, e⟩ := mBind e
      refine mGo.iald (n := 45) dX0_extend_44 e_x1 rfl ?_
      refine mGo.istore (n := 47) (ls' := [some (va_rf v0), some (.int v1), some (.int v2), none, some (.int v4), some (va_rf v5), some (.int v6), some (.int x1), none, none]) dX0_extend_45 rfl (Nat.le_of_ble_eq_true rfl) rfl ?_
      refine mGo.aload_n (n := 48) (r := v0) dX0_extend_47 rfl rfl ?_
      obtain ⟨x2, e_x2, e⟩ := mBind e
      refine mGo.getR (n := 51) dX0_extend_48 sf_RX0_9 e_x2 rfl ?_
      refine mGo.iload_n (n := 52) (x := v2) dX0_extend_51 rfl rfl ?_
      refine mGo.iload (n := 54) (x := x1) dX0_extend_52 rfl rfl ?_
      obtain ⟨h3, e_h3, e⟩ := mBind e
      refine mGo.iast (n := 55) dX0_extend_54 e_h3 rfl ?_
      refine mGo.iload (n := 57) (x := v4) dX0_extend_55 rfl rfl ?_
      refine mGo.istore (n := 59) (ls' := [some (va_rf v0), some (.int v1), some (.int v2), none, some (.int v4), some (va_rf v5), some (.int v6), some (.int x1), some (.int v4), none]) dX0_extend_57 rfl (Nat.le_of_ble_eq_true rfl) rfl ?_
      refine mGo.iload (n := 61) (x := v6) dX0_extend_59 rfl rfl ?_
      refine mGo.iconst (n := 62) (v := (1 : Int32)) dX0_extend_61 (by decide) rfl ?_
      refine mGo.iadd (n := 63) dX0_extend_62 rfl ?_
      refine mGo.istore (n := 65) (ls' := [some (va_rf v0), some (.int v1), some (.int v2), none, some (.int v4), some (va_rf v5), some (.int v6), some (.int x1), some (.int v4), some (.int (v6 + (1 : Int32)))]) dX0_extend_63 rfl (Nat.le_of_ble_eq_true rfl) rfl ?_
      refine mGo.mk [true, true, true, false, true, true, true, true, true, true] ?_
      exact g_X0_extend_l65 hF v0 v1 v2 v4 v5 v6 x1 v4 (v6 + (1 : Int32)) h3 e q
noncomputable def f_X0_extend_l22 (F : Option Nat → Int32 → Int32 → Int32 → Int32 → mH → Option (Int32 × mH)) (v0 : Option Nat) (v1 : Int32) (v2 : Int32) (v4 : Int32) (v5 : Option Nat) (v6 : Int32) (h : mH) : Option (Int32 × mH) :=
  mLoop (fun x : Int32 × mH => f_X0_extend_b22 F v0 v1 v2 v4 v5 x.1 x.2) (v6, h)
set_option maxRecDepth 100000 in
set_option maxHeartbeats 4000000 in
theorem g_X0_extend_l22 {w : mWp} {Q : Option Value → mH → Prop} {nf : Nat} {F : Option Nat → Int32 → Int32 → Int32 → Int32 → mH → Option (Int32 × mH)} (hF : ∀ (v0 : Option Nat) (v1 : Int32) (v2 : Int32) (v3 : Int32) (v4 : Int32) (h : mH) {res : Int32 × mH}, F v0 v1 v2 v3 v4 h = some res → mEx w zX0_extend (mRoom (3 + nf) 0 0) [va_rf v0, .int v1, .int v2, .int v3, .int v4] h (fun r h2 => r = some (.int res.1) ∧ h2 = res.2)) (v0 : Option Nat) (v1 : Int32) (v2 : Int32) (v4 : Int32) (v5 : Option Nat) (v6 : Int32) (h : mH) {res : Int32 × mH} (e : f_X0_extend_l22 F v0 v1 v2 v4 v5 v6 h = some res) (q : (fun r : Int32 × mH => Q (some (.int r.1)) r.2) res) : mGo w (kX0_extend (nf + 1)) 0 0 22 [some (va_rf v0), some (.int v1), some (.int v2), none, some (.int v4), some (va_rf v5), some (.int v6), none, none, none] [] h Q := by
  unfold f_X0_extend_l22 at e
  refine mLoop_go (x := (v6, h)) (fun x : Int32 × mH => mGo w (kX0_extend (nf + 1)) 0 0 22 [some (va_rf v0), some (.int v1), some (.int v2), none, some (.int v4), some (va_rf v5), some (.int x.1), none, none, none] [] x.2 Q) (fun r : Int32 × mH => Q (some (.int r.1)) r.2) ?_ e q
  rintro ⟨v6, h1⟩ res e q
  exact g_X0_extend_b22 hF v0 v1 v2 v4 v5 v6 h1 e q
noncomputable def f_X0_extend_r (F : Option Nat → Int32 → Int32 → Int32 → Int32 → mH → Option (Int32 × mH)) (v0 : Option Nat) (v1 : Int32) (v2 : Int32) (v3 : Int32) (v4 : Int32) (h : mH) : Option (Int32 × mH) :=
  if v1 ≤ v2 then
    some ((1 : Int32), h)
  else
    if v2 < (12 : Int32) then
      (mGR h v0 0 1).bind fun x1 =>
      f_X0_extend_l22 F v0 v1 v2 v4 x1 v3 h
    else
      some ((1 : Int32), h)
set_option maxRecDepth 100000 in
set_option maxHeartbeats 4000000 in
theorem g_X0_extend_r {w : mWp} {Q : Option Value → mH → Prop} {nf : Nat} {F : Option Nat → Int32 → Int32 → Int32 → Int32 → mH → Option (Int32 × mH)} (hF : ∀ (v0 : Option Nat) (v1 : Int32) (v2 : Int32) (v3 : Int32) (v4 : Int32) (h : mH) {res : Int32 × mH}, F v0 v1 v2 v3 v4 h = some res → mEx w zX0_extend (mRoom (3 + nf) 0 0) [va_rf v0, .int v1, .int v2, .int v3, .int v4] h (fun r h2 => r = some (.int res.1) ∧ h2 = res.2)) (v0 : Option Nat) (v1 : Int32) (v2 : Int32) (v3 : Int32) (v4 : Int32) (h : mH) {res : Int32 × mH} (e : f_X0_extend_r F v0 v1 v2 v3 v4 h = some res) (q : (fun r : Int32 × mH => Q (some (.int r.1)) r.2) res) : mGo w (kX0_extend (nf + 1)) 0 0 0 [some (va_rf v0), some (.int v1), some (.int v2), some (.int v3), some (.int v4), none, none, none, none, none] [] h Q := by
  unfold f_X0_extend_r at e
  refine mGo.iload_n (n := 1) (x := v2) dX0_extend_0 rfl rfl ?_
  refine mGo.iload_n (n := 2) (x := v1) dX0_extend_1 rfl rfl ?_
  refine mGo.icmp_ge (tgt := 11) (n := 5) dX0_extend_2 (by decide) rfl (fun hc => ?_) (fun hc => ?_)
  · replace e := mIft hc e
    refine mGo.iconst (n := 12) (v := (1 : Int32)) dX0_extend_11 (by decide) rfl ?_
    cases e
    exact mGo.zret dX0_extend_12 rfl (by decide) (Nat.le_of_ble_eq_true rfl) (Nat.le_of_ble_eq_true rfl) q
  · replace e := mIff hc e
    refine mGo.iload_n (n := 6) (x := v2) dX0_extend_5 rfl rfl ?_
    refine mGo.bipush (n := 8) (v := (12 : Int32)) dX0_extend_6 (by decide) rfl ?_
    refine mGo.icmp_lt (tgt := 13) (n := 11) dX0_extend_8 (by decide) rfl (fun hc => ?_) (fun hc => ?_)
    · replace e := mIft hc e
      refine mGo.aload_n (n := 14) (r := v0) dX0_extend_13 rfl rfl ?_
      obtain ⟨x1, e_x1, e⟩ := mBind e
      refine mGo.getR (n := 17) dX0_extend_14 sf_RX0_15 e_x1 rfl ?_
      refine mGo.astore (n := 19) (ls' := [some (va_rf v0), some (.int v1), some (.int v2), some (.int v3), some (.int v4), some (va_rf x1), none, none, none, none]) dX0_extend_17 rfl (Nat.le_of_ble_eq_true rfl) rfl ?_
      refine mGo.iload_n (n := 20) (x := v3) dX0_extend_19 rfl rfl ?_
      refine mGo.istore (n := 22) (ls' := [some (va_rf v0), some (.int v1), some (.int v2), some (.int v3), some (.int v4), some (va_rf x1), some (.int v3), none, none, none]) dX0_extend_20 ((mSt_set (fun u _ hu => by cases hu; exact mRfc _)).trans rfl) (Nat.le_of_ble_eq_true rfl) rfl ?_
      refine mGo.mk [true, true, true, false, true, true, true, false, false, false] ?_
      exact g_X0_extend_l22 hF v0 v1 v2 v4 x1 v3 h e q
    · replace e := mIff hc e
      refine mGo.iconst (n := 12) (v := (1 : Int32)) dX0_extend_11 (by decide) rfl ?_
      cases e
      exact mGo.zret dX0_extend_12 rfl (by decide) (Nat.le_of_ble_eq_true rfl) (Nat.le_of_ble_eq_true rfl) q
noncomputable def f_X0_extend : Nat → Option Nat → Int32 → Int32 → Int32 → Int32 → mH → Option (Int32 × mH)
  | 0 => fun _ _ _ _ _ _ => none
  | nf + 1 => f_X0_extend_r (f_X0_extend nf)
theorem e_X0_extend {w : mWp} : ∀ (nf : Nat) (v0 : Option Nat) (v1 : Int32) (v2 : Int32) (v3 : Int32) (v4 : Int32) (h : mH) {res : Int32 × mH}, f_X0_extend nf v0 v1 v2 v3 v4 h = some res → mEx w zX0_extend (mRoom (3 + nf) 0 0) [va_rf v0, .int v1, .int v2, .int v3, .int v4] h (fun r h2 => r = some (.int res.1) ∧ h2 = res.2) := by
  intro nf
  induction nf with
  | zero => intros; rename_i e; cases e
  | succ nf ih =>
    intro v0 v1 v2 v3 v4 h res e
    refine mEx.of (by decide +kernel) (show mEnt [va_rf v0, .int v1, .int v2, .int v3, .int v4] 10 = [some (va_rf v0), some (.int v1), some (.int v2), some (.int v3), some (.int v4), none, none, none, none, none] by rw [mEnt_r, mEnt_i, mEnt_i, mEnt_i, mEnt_i] <;> rfl) (by simp only [List.map_cons, List.map_nil, mRfc, mCi, mCj, List.sum_cons, List.sum_nil]; exact Nat.le_of_ble_eq_true rfl) ?_
    refine g_X0_extend_r (F := f_X0_extend nf) ih v0 v1 v2 v3 v4 h e ?_
    exact ⟨rfl, rfl⟩
-- X0_isPerpendicularToFirst
def kX0_isPerpendicularToFirst : mK := (cX0_isPerpendicularToFirst, RX0, 5, some (.boolean), "isPerpendicularToFirst", mRoom 3 0 0)
def zX0_isPerpendicularToFirst : mY := (yX0_isPerpendicularToFirst, cX0_isPerpendicularToFirst, 5, some (.boolean))
def f_X0_isPerpendicularToFirst_b3 (v0 : Option Nat) (v1 : Int32) (v2 : Int32) (v3 : Int32) (v4 : Int32) (h : mH) : Option ((Int32) ⊕ (Int32)) :=
  if v2 ≤ v4 then
    some (Sum.inr (1 : Int32))
  else
    (mGR h v0 0 0).bind fun x1 =>
    (mAI h x1 v4).bind fun x2 =>
    (f_X8_signSum (v1 ^^^ x2) v3).bind fun x3 =>
    if x3 = 0 then
      some (Sum.inl (v4 + 1))
    else
      some (Sum.inr (0 : Int32))
set_option maxRecDepth 100000 in
set_option maxHeartbeats 4000000 in
theorem g_X0_isPerpendicularToFirst_b3 {w : mWp} {Q : Option Value → mH → Prop} (v0 : Option Nat) (v1 : Int32) (v2 : Int32) (v3 : Int32) (v4 : Int32) (h : mH) {res : (Int32) ⊕ (Int32)} (e : f_X0_isPerpendicularToFirst_b3 v0 v1 v2 v3 v4 h = some res) (q : (Sum.elim (fun x : Int32 => mGo w kX0_isPerpendicularToFirst 0 0 3 [some (va_rf v0), some (.int v1), some (.int v2), some (.int v3), some (.int x)] [] h Q) (fun r : Int32 => Q (some (.int r)) h)) res) : mGo w kX0_isPerpendicularToFirst 0 0 3 [some (va_rf v0), some (.int v1), some (.int v2), some (.int v3), some (.int v4)] [] h Q := by
  unfold f_X0_isPerpendicularToFirst_b3 at e
  refine mGo.iload (n := 5) (x := v4) dX0_isPerpendicularToFirst_3 rfl rfl ?_
  refine mGo.iload_n (n := 6) (x := v2) dX0_isPerpendicularToFirst_5 rfl rfl ?_
  refine mGo.icmp_ge (tgt := 33) (n := 9) dX0_isPerpendicularToFirst_6 (by decide) rfl (fun hc => ?_) (fun hc => ?_)
  · replace e := mIft hc e
    refine mGo.iconst (n := 34) (v := (1 : Int32)) dX0_isPerpendicularToFirst_33 (by decide) rfl ?_
    cases e
    exact mGo.zret dX0_isPerpendicularToFirst_34 rfl (by decide) (Nat.le_of_ble_eq_true rfl) (Nat.le_of_ble_eq_true rfl) q
  · replace e := mIff hc e
    refine mGo.iload_n (n := 10) (x := v1) dX0_isPerpendicularToFirst_9 rfl rfl ?_
    refine mGo.aload_n (n := 11) (r := v0) dX0_isPerpendicularToFirst_10 rfl rfl ?_
    obtain ⟨x1, e_x1, e⟩ := mBind e
    refine mGo.getR (n := 14) dX0_isPerpendicularToFirst_11 sf_RX0_9 e_x1 rfl ?_
    refine mGo.iload (n := 16) (x := v4) dX0_isPerpendicularToFirst_14 rfl rfl ?_
    obtain ⟨x2, e_x2, e⟩ := mBind e
    refine mGo.iald (n := 17) dX0_isPerpendicularToFirst_16 e_x2 rfl ?_
    refine mGo.ixor (n := 18) dX0_isPerpendicularToFirst_17 rfl ?_
    refine mGo.iload_n (n := 19) (x := v3) dX0_isPerpendicularToFirst_18 rfl rfl ?_
    obtain ⟨x3, e_x3, e⟩ := mBind e
    refine mGo.callS (n := 22) (y := zX8_signSum) (R' := (mRoom (2) 0 0)) (as := [.int (v1 ^^^ x2), .int v3]) (st := []) dX0_isPerpendicularToFirst_19 sc_RX0_26 rfl (e_X8_signSum (v1 ^^^ x2) v3 h e_x3) (mFit_of rfl (Nat.le_of_ble_eq_true rfl) (by decide) (Nat.le_of_ble_eq_true rfl) (Nat.le_of_ble_eq_true rfl)) (Nat.le_of_ble_eq_true rfl) rfl rfl ?_
    intro _ _ hq
    rw [hq.1, hq.2]
    show mGo w kX0_isPerpendicularToFirst 0 0 22 [some (va_rf v0), some (.int v1), some (.int v2), some (.int v3), some (.int v4)] [.int x3] h Q
    refine mGo.if_eq (tgt := 27) (n := 25) dX0_isPerpendicularToFirst_22 (by decide) rfl (fun hc => ?_) (fun hc => ?_)
    · replace e := mIft hc e
      refine mGo.iinc (n := 30) (x := v4) (v := (v4 + 1)) (ls' := [some (va_rf v0), some (.int v1), some (.int v2), some (.int v3), some (.int (v4 + 1))]) dX0_isPerpendicularToFirst_27 rfl rfl rfl (Nat.le_of_ble_eq_true rfl) rfl ?_
      refine mGo.goto (tgt := 3) dX0_isPerpendicularToFirst_30 (by decide) ?_
      cases e
      refine mGo.mk [true, true, true, true, true] ?_
      exact q
    · replace e := mIff hc e
      refine mGo.iconst (n := 26) (v := (0 : Int32)) dX0_isPerpendicularToFirst_25 (by decide) rfl ?_
      cases e
      exact mGo.zret dX0_isPerpendicularToFirst_26 rfl (by decide) (Nat.le_of_ble_eq_true rfl) (Nat.le_of_ble_eq_true rfl) q
noncomputable def f_X0_isPerpendicularToFirst_l3 (v0 : Option Nat) (v1 : Int32) (v2 : Int32) (v3 : Int32) (v4 : Int32) (h : mH) : Option (Int32) :=
  mLoop (fun x : Int32 => f_X0_isPerpendicularToFirst_b3 v0 v1 v2 v3 x h) (v4)
set_option maxRecDepth 100000 in
set_option maxHeartbeats 4000000 in
theorem g_X0_isPerpendicularToFirst_l3 {w : mWp} {Q : Option Value → mH → Prop} (v0 : Option Nat) (v1 : Int32) (v2 : Int32) (v3 : Int32) (v4 : Int32) (h : mH) {res : Int32} (e : f_X0_isPerpendicularToFirst_l3 v0 v1 v2 v3 v4 h = some res) (q : (fun r : Int32 => Q (some (.int r)) h) res) : mGo w kX0_isPerpendicularToFirst 0 0 3 [some (va_rf v0), some (.int v1), some (.int v2), some (.int v3), some (.int v4)] [] h Q := by
  unfold f_X0_isPerpendicularToFirst_l3 at e
  refine mLoop_go (x := (v4)) (fun x : Int32 => mGo w kX0_isPerpendicularToFirst 0 0 3 [some (va_rf v0), some (.int v1), some (.int v2), some (.int v3), some (.int x)] [] h Q) (fun r : Int32 => Q (some (.int r)) h) ?_ e q
  rintro v4 res e q
  exact g_X0_isPerpendicularToFirst_b3 v0 v1 v2 v3 v4 h e q
noncomputable def f_X0_isPerpendicularToFirst (v0 : Option Nat) (v1 : Int32) (v2 : Int32) (v3 : Int32) (h : mH) : Option (Int32) :=
  (mIs h v0 0).bind fun _ =>
  f_X0_isPerpendicularToFirst_l3 v0 v1 v2 v3 (0 : Int32) h
set_option maxRecDepth 100000 in
set_option maxHeartbeats 4000000 in
theorem g_X0_isPerpendicularToFirst {w : mWp} {Q : Option Value → mH → Prop} (v0 : Option Nat) (v1 : Int32) (v2 : Int32) (v3 : Int32) (h : mH) {res : Int32} (e : f_X0_isPerpendicularToFirst v0 v1 v2 v3 h = some res) (q : (fun r : Int32 => Q (some (.int r)) h) res) : mGo w kX0_isPerpendicularToFirst 0 0 0 [some (va_rf v0), some (.int v1), some (.int v2), some (.int v3), none] [] h Q := by
  unfold f_X0_isPerpendicularToFirst at e
  obtain ⟨_, _, e⟩ := mBind e
  refine mGo.iconst (n := 1) (v := (0 : Int32)) dX0_isPerpendicularToFirst_0 (by decide) rfl ?_
  refine mGo.istore (n := 3) (ls' := [some (va_rf v0), some (.int v1), some (.int v2), some (.int v3), some (.int (0 : Int32))]) dX0_isPerpendicularToFirst_1 rfl (Nat.le_of_ble_eq_true rfl) rfl ?_
  refine mGo.mk [true, true, true, true, true] ?_
  exact g_X0_isPerpendicularToFirst_l3 v0 v1 v2 v3 (0 : Int32) h e q
theorem e_X0_isPerpendicularToFirst {w : mWp} (v0 : Option Nat) (v1 : Int32) (v2 : Int32) (v3 : Int32) (h : mH) {res : Int32} (e : f_X0_isPerpendicularToFirst v0 v1 v2 v3 h = some res) : mEx w zX0_isPerpendicularToFirst (mRoom 3 0 0) [va_rf v0, .int v1, .int v2, .int v3] h (fun r h2 => r = some (.int res) ∧ h2 = h) := by
  refine mEx.of (by decide +kernel) (show mEnt [va_rf v0, .int v1, .int v2, .int v3] 5 = [some (va_rf v0), some (.int v1), some (.int v2), some (.int v3), none] by rw [mEnt_r, mEnt_i, mEnt_i, mEnt_i] <;> rfl) (by simp only [List.map_cons, List.map_nil, mRfc, mCi, mCj, List.sum_cons, List.sum_nil]; exact Nat.le_of_ble_eq_true rfl) ?_
  refine g_X0_isPerpendicularToFirst v0 v1 v2 v3 h e ?_
  exact ⟨rfl, rfl⟩
theorem s_X0_isPerpendicularToFirst (v0 : Option Nat) (v1 : Int32) (v2 : Int32) (v3 : Int32) (h : mH) {res : Int32} (e : f_X0_isPerpendicularToFirst v0 v1 v2 v3 h = some res) : mIs h v0 0 = some () := by
  unfold f_X0_isPerpendicularToFirst at e
  obtain ⟨u, e1, _⟩ := mBind e
  cases u
  exact e1
-- X0_find
def kX0_find : mK := (cX0_find, RX0, 7, some (.boolean), "find", mRoom 24 0 0)
def zX0_find : mY := (yX0_find, cX0_find, 7, some (.boolean))
set_option maxRecDepth 100000 in
theorem sc_RX0_18 : mSV RX0 18 zX0_isPerpendicularToFirst 3 0 := ⟨Or.inl (mT_at 428 (by decide +kernel) rfl), mT_at 430 (by decide +kernel) rfl, mT_at 10 (by decide +kernel) rfl, mT_at 85 (by decide +kernel) rfl, mT_at 431 (by decide +kernel) rfl, ⟨by decide +kernel, by decide +kernel, by decide +kernel⟩, by decide, rfl⟩
noncomputable def f_X0_find_c136 (v0 : Option Nat) (v3 : Int32) (v4 : Int32) (v5 : Int32) (h : mH) : Option (Int32 × mH) :=
  (f_X0_extend 20 v0 v3 v4 (0 : Int32) v5 h).bind fun x1 =>
  if x1.1 = 0 ∨ x1.1 = 1 then some (x1.1, x1.2) else none
set_option maxRecDepth 100000 in
set_option maxHeartbeats 4000000 in
theorem g_X0_find_c136 {w : mWp} {Q : Option Value → mH → Prop} (v0 : Option Nat) (v3 : Int32) (v4 : Int32) (v5 : Int32) (h : mH) {res : Int32 × mH} (e : f_X0_find_c136 v0 v3 v4 v5 h = some res) (q : (fun r : Int32 × mH => Q (some (.int r.1)) r.2) res) : mGo w kX0_find 0 0 136 [some (va_rf v0), none, none, some (.int v3), some (.int v4), some (.int v5), none] [] h Q := by
  unfold f_X0_find_c136 at e
  refine mGo.aload_n (n := 137) (r := v0) dX0_find_136 rfl rfl ?_
  refine mGo.iload_n (n := 138) (x := v3) dX0_find_137 rfl rfl ?_
  refine mGo.iload (n := 140) (x := v4) dX0_find_138 rfl rfl ?_
  refine mGo.iconst (n := 141) (v := (0 : Int32)) dX0_find_140 (by decide) rfl ?_
  refine mGo.iload (n := 143) (x := v5) dX0_find_141 rfl rfl ?_
  obtain ⟨x1, e_x1, e⟩ := mBind e
  refine mGo.callS (n := 146) (y := zX0_extend) (R' := (mRoom (3 + 20) 0 0)) (as := [va_rf v0, .int v3, .int v4, .int (0 : Int32), .int v5]) (st := []) dX0_find_143 sc_RX0_22 rfl (e_X0_extend 20 v0 v3 v4 (0 : Int32) v5 h e_x1) (mFit_of rfl (Nat.le_of_ble_eq_true rfl) (by decide) (Nat.le_of_ble_eq_true rfl) (Nat.le_of_ble_eq_true rfl)) (Nat.le_of_ble_eq_true rfl) rfl rfl ?_
  intro _ _ hq
  rw [hq.1, hq.2]
  show mGo w kX0_find 0 0 146 [some (va_rf v0), none, none, some (.int v3), some (.int v4), some (.int v5), none] [.int x1.1] x1.2 Q
  obtain ⟨hz, e⟩ := mIfP e
  cases e
  exact mGo.zret dX0_find_146 rfl hz (Nat.le_of_ble_eq_true rfl) (Nat.le_of_ble_eq_true rfl) q
noncomputable def f_X0_find_b88 (v0 : Option Nat) (v3 : Int32) (v4 : Int32) (v5 : Int32) (v6 : Int32) (h : mH) : Option ((Int32 × Int32 × mH) ⊕ (Int32 × mH)) :=
  if ((1 : Int32) <<< ((v3 - (1 : Int32)) &&& 31)) ≤ v6 then
    (f_X0_find_c136 v0 v3 v4 v5 h).map (fun r => (Sum.inr r))
  else
    if (1600 : Int32) ≤ v5 then
      (f_X0_find_c136 v0 v3 v4 v5 h).map (fun r => (Sum.inr r))
    else
      (f_X0_isPerpendicularToFirst v0 v6 v4 v3 h).bind fun x3 =>
      if x3 = 0 then
        some (Sum.inl (v5, (v6 + 1), h))
      else
        (mGR h v0 0 1).bind fun x4 =>
        (mSI h x4 v5 v6).bind fun h5 =>
        some (Sum.inl ((v5 + 1), (v6 + 1), h5))
set_option maxRecDepth 100000 in
set_option maxHeartbeats 4000000 in
theorem g_X0_find_b88 {w : mWp} {Q : Option Value → mH → Prop} (v0 : Option Nat) (v3 : Int32) (v4 : Int32) (v5 : Int32) (v6 : Int32) (h : mH) {res : (Int32 × Int32 × mH) ⊕ (Int32 × mH)} (e : f_X0_find_b88 v0 v3 v4 v5 v6 h = some res) (q : (Sum.elim (fun x : Int32 × Int32 × mH => mGo w kX0_find 0 0 88 [some (va_rf v0), none, none, some (.int v3), some (.int v4), some (.int x.1), some (.int x.2.1)] [] x.2.2 Q) (fun r : Int32 × mH => Q (some (.int r.1)) r.2)) res) : mGo w kX0_find 0 0 88 [some (va_rf v0), none, none, some (.int v3), some (.int v4), some (.int v5), some (.int v6)] [] h Q := by
  unfold f_X0_find_b88 at e
  refine mGo.iload (n := 90) (x := v6) dX0_find_88 rfl rfl ?_
  refine mGo.iconst (n := 91) (v := (1 : Int32)) dX0_find_90 (by decide) rfl ?_
  refine mGo.iload_n (n := 92) (x := v3) dX0_find_91 rfl rfl ?_
  refine mGo.iconst (n := 93) (v := (1 : Int32)) dX0_find_92 (by decide) rfl ?_
  refine mGo.isub (n := 94) dX0_find_93 rfl ?_
  refine mGo.ishl (n := 95) dX0_find_94 rfl ?_
  refine mGo.icmp_ge (tgt := 136) (n := 98) dX0_find_95 (by decide) rfl (fun hc => ?_) (fun hc => ?_)
  · replace e := mIft hc e
    obtain ⟨r1, e2, rfl⟩ := mMap e
    refine mGo.mk [true, false, false, true, true, true, false] ?_
    exact g_X0_find_c136 v0 v3 v4 v5 h e2 q
  · replace e := mIff hc e
    refine mGo.iload (n := 100) (x := v5) dX0_find_98 rfl rfl ?_
    refine mGo.sipush (n := 103) (v := (1600 : Int32)) dX0_find_100 (by decide) rfl ?_
    refine mGo.icmp_ge (tgt := 136) (n := 106) dX0_find_103 (by decide) rfl (fun hc => ?_) (fun hc => ?_)
    · replace e := mIft hc e
      obtain ⟨r2, e2, rfl⟩ := mMap e
      refine mGo.mk [true, false, false, true, true, true, false] ?_
      exact g_X0_find_c136 v0 v3 v4 v5 h e2 q
    · replace e := mIff hc e
      refine mGo.aload_n (n := 107) (r := v0) dX0_find_106 rfl rfl ?_
      refine mGo.iload (n := 109) (x := v6) dX0_find_107 rfl rfl ?_
      refine mGo.iload (n := 111) (x := v4) dX0_find_109 rfl rfl ?_
      refine mGo.iload_n (n := 112) (x := v3) dX0_find_111 rfl rfl ?_
      obtain ⟨x3, e_x3, e⟩ := mBind e
      refine mGo.callV (n := 115) (y := zX0_isPerpendicularToFirst) (R' := (mRoom (3) 0 0)) (as := [.int v6, .int v4, .int v3]) (st := []) (r0 := v0) dX0_find_112 sc_RX0_18 rfl (s_X0_isPerpendicularToFirst v0 v6 v4 v3 h e_x3) (e_X0_isPerpendicularToFirst v0 v6 v4 v3 h e_x3) (mFit_of rfl (Nat.le_of_ble_eq_true rfl) (by decide) (Nat.le_of_ble_eq_true rfl) (Nat.le_of_ble_eq_true rfl)) (Nat.le_of_ble_eq_true rfl) rfl rfl ?_
      intro _ _ hq
      rw [hq.1, hq.2]
      show mGo w kX0_find 0 0 115 [some (va_rf v0), none, none, some (.int v3), some (.int v4), some (.int v5), some (.int v6)] [.int x3] h Q
      refine mGo.if_eq (tgt := 130) (n := 118) dX0_find_115 (by decide) rfl (fun hc => ?_) (fun hc => ?_)
      · replace e := mIft hc e
        refine mGo.iinc (n := 133) (x := v6) (v := (v6 + 1)) (ls' := [some (va_rf v0), none, none, some (.int v3), some (.int v4), some (.int v5), some (.int (v6 + 1))]) dX0_find_130 rfl rfl rfl (Nat.le_of_ble_eq_true rfl) rfl ?_
        refine mGo.goto (tgt := 88) dX0_find_133 (by decide) ?_
        cases e
        refine mGo.mk [true, false, false, true, true, true, true] ?_
        exact q
      · replace e := mIff hc e
        refine mGo.aload_n (n := 119) (r := v0) dX0_find_118 rfl rfl ?_
        obtain ⟨x4, e_x4, e⟩ := mBind e
        refine mGo.getR (n := 122) dX0_find_119 sf_RX0_15 e_x4 rfl ?_
        refine mGo.iload (n := 124) (x := v5) dX0_find_122 rfl rfl ?_
        refine mGo.iload (n := 126) (x := v6) dX0_find_124 rfl rfl ?_
        obtain ⟨h5, e_h5, e⟩ := mBind e
        refine mGo.iast (n := 127) dX0_find_126 e_h5 rfl ?_
        refine mGo.iinc (n := 130) (x := v5) (v := (v5 + 1)) (ls' := [some (va_rf v0), none, none, some (.int v3), some (.int v4), some (.int (v5 + 1)), some (.int v6)]) dX0_find_127 rfl rfl rfl (Nat.le_of_ble_eq_true rfl) rfl ?_
        refine mGo.iinc (n := 133) (x := v6) (v := (v6 + 1)) (ls' := [some (va_rf v0), none, none, some (.int v3), some (.int v4), some (.int (v5 + 1)), some (.int (v6 + 1))]) dX0_find_130 rfl rfl rfl (Nat.le_of_ble_eq_true rfl) rfl ?_
        refine mGo.goto (tgt := 88) dX0_find_133 (by decide) ?_
        cases e
        refine mGo.mk [true, false, false, true, true, true, true] ?_
        exact q
noncomputable def f_X0_find_l88 (v0 : Option Nat) (v3 : Int32) (v4 : Int32) (v5 : Int32) (v6 : Int32) (h : mH) : Option (Int32 × mH) :=
  mLoop (fun x : Int32 × Int32 × mH => f_X0_find_b88 v0 v3 v4 x.1 x.2.1 x.2.2) (v5, v6, h)
set_option maxRecDepth 100000 in
set_option maxHeartbeats 4000000 in
theorem g_X0_find_l88 {w : mWp} {Q : Option Value → mH → Prop} (v0 : Option Nat) (v3 : Int32) (v4 : Int32) (v5 : Int32) (v6 : Int32) (h : mH) {res : Int32 × mH} (e : f_X0_find_l88 v0 v3 v4 v5 v6 h = some res) (q : (fun r : Int32 × mH => Q (some (.int r.1)) r.2) res) : mGo w kX0_find 0 0 88 [some (va_rf v0), none, none, some (.int v3), some (.int v4), some (.int v5), some (.int v6)] [] h Q := by
  unfold f_X0_find_l88 at e
  refine mLoop_go (x := (v5, v6, h)) (fun x : Int32 × Int32 × mH => mGo w kX0_find 0 0 88 [some (va_rf v0), none, none, some (.int v3), some (.int v4), some (.int x.1), some (.int x.2.1)] [] x.2.2 Q) (fun r : Int32 × mH => Q (some (.int r.1)) r.2) ?_ e q
  rintro ⟨v5, v6, h1⟩ res e q
  exact g_X0_find_b88 v0 v3 v4 v5 v6 h1 e q
noncomputable def f_X0_find_b22 (v0 : Option Nat) (v1 : Option Nat) (v2 : Int32) (v3 : Int32) (v4 : Int32) (h : mH) : Option ((Int32 × mH) ⊕ (Int32 × mH)) :=
  if v2 ≤ v4 then
    if v2 = 0 then
      (mGR h v0 0 0).bind fun x2 =>
      (mSI h x2 (0 : Int32) (0 : Int32)).bind fun h3 =>
      (f_X0_find_l88 v0 v3 (1 : Int32) (0 : Int32) (0 : Int32) h3).map (fun r => (Sum.inr r))
    else
      (f_X0_find_l88 v0 v3 v2 (0 : Int32) (0 : Int32) h).map (fun r => (Sum.inr r))
  else
    (mGR h v0 0 0).bind fun x5 =>
    (mAI h v1 v4).bind fun x6 =>
    (mSI h x5 v4 x6).bind fun h7 =>
    (mGR h7 v0 0 0).bind fun x8 =>
    (mAI h7 x8 v4).bind fun x9 =>
    (f_X0_isPerpendicularToFirst v0 x9 v4 v3 h7).bind fun x10 =>
    if x10 = 0 then
      some (Sum.inr ((0 : Int32), h7))
    else
      some (Sum.inl ((v4 + 1), h7))
set_option maxRecDepth 100000 in
set_option maxHeartbeats 4000000 in
theorem g_X0_find_b22 {w : mWp} {Q : Option Value → mH → Prop} (v0 : Option Nat) (v1 : Option Nat) (v2 : Int32) (v3 : Int32) (v4 : Int32) (h : mH) {res : (Int32 × mH) ⊕ (Int32 × mH)} (e : f_X0_find_b22 v0 v1 v2 v3 v4 h = some res) (q : (Sum.elim (fun x : Int32 × mH => mGo w kX0_find 0 0 22 [some (va_rf v0), some (va_rf v1), some (.int v2), some (.int v3), some (.int x.1), none, none] [] x.2 Q) (fun r : Int32 × mH => Q (some (.int r.1)) r.2)) res) : mGo w kX0_find 0 0 22 [some (va_rf v0), some (va_rf v1), some (.int v2), some (.int v3), some (.int v4), none, none] [] h Q := by
  unfold f_X0_find_b22 at e
  refine mGo.iload (n := 24) (x := v4) dX0_find_22 rfl rfl ?_
  refine mGo.iload_n (n := 25) (x := v2) dX0_find_24 rfl rfl ?_
  refine mGo.icmp_ge (tgt := 64) (n := 28) dX0_find_25 (by decide) rfl (fun hc => ?_) (fun hc => ?_)
  · replace e := mIft hc e
    refine mGo.iload_n (n := 65) (x := v2) dX0_find_64 rfl rfl ?_
    refine mGo.istore (n := 67) (ls' := [some (va_rf v0), some (va_rf v1), some (.int v2), some (.int v3), some (.int v2), none, none]) dX0_find_65 rfl (Nat.le_of_ble_eq_true rfl) rfl ?_
    refine mGo.iload (n := 69) (x := v2) dX0_find_67 rfl rfl ?_
    refine mGo.if_ne (tgt := 82) (n := 72) dX0_find_69 (by decide) rfl (fun hc => ?_) (fun hc => ?_)
    · replace e := mIff hc e
      refine mGo.iconst (n := 83) (v := (0 : Int32)) dX0_find_82 (by decide) rfl ?_
      refine mGo.istore (n := 85) (ls' := [some (va_rf v0), some (va_rf v1), some (.int v2), some (.int v3), some (.int v2), some (.int (0 : Int32)), none]) dX0_find_83 rfl (Nat.le_of_ble_eq_true rfl) rfl ?_
      refine mGo.iconst (n := 86) (v := (0 : Int32)) dX0_find_85 (by decide) rfl ?_
      refine mGo.istore (n := 88) (ls' := [some (va_rf v0), some (va_rf v1), some (.int v2), some (.int v3), some (.int v2), some (.int (0 : Int32)), some (.int (0 : Int32))]) dX0_find_86 rfl (Nat.le_of_ble_eq_true rfl) rfl ?_
      obtain ⟨r1, e2, rfl⟩ := mMap e
      refine mGo.mk [true, false, false, true, true, true, true] ?_
      exact g_X0_find_l88 v0 v3 v2 (0 : Int32) (0 : Int32) h e2 q
    · replace e := mIft hc e
      refine mGo.aload_n (n := 73) (r := v0) dX0_find_72 rfl rfl ?_
      obtain ⟨x2, e_x2, e⟩ := mBind e
      refine mGo.getR (n := 76) dX0_find_73 sf_RX0_9 e_x2 rfl ?_
      refine mGo.iconst (n := 77) (v := (0 : Int32)) dX0_find_76 (by decide) rfl ?_
      refine mGo.iconst (n := 78) (v := (0 : Int32)) dX0_find_77 (by decide) rfl ?_
      obtain ⟨h3, e_h3, e⟩ := mBind e
      refine mGo.iast (n := 79) dX0_find_78 e_h3 rfl ?_
      refine mGo.iconst (n := 80) (v := (1 : Int32)) dX0_find_79 (by decide) rfl ?_
      refine mGo.istore (n := 82) (ls' := [some (va_rf v0), some (va_rf v1), some (.int v2), some (.int v3), some (.int (1 : Int32)), none, none]) dX0_find_80 rfl (Nat.le_of_ble_eq_true rfl) rfl ?_
      refine mGo.iconst (n := 83) (v := (0 : Int32)) dX0_find_82 (by decide) rfl ?_
      refine mGo.istore (n := 85) (ls' := [some (va_rf v0), some (va_rf v1), some (.int v2), some (.int v3), some (.int (1 : Int32)), some (.int (0 : Int32)), none]) dX0_find_83 rfl (Nat.le_of_ble_eq_true rfl) rfl ?_
      refine mGo.iconst (n := 86) (v := (0 : Int32)) dX0_find_85 (by decide) rfl ?_
      refine mGo.istore (n := 88) (ls' := [some (va_rf v0), some (va_rf v1), some (.int v2), some (.int v3), some (.int (1 : Int32)), some (.int (0 : Int32)), some (.int (0 : Int32))]) dX0_find_86 rfl (Nat.le_of_ble_eq_true rfl) rfl ?_
      obtain ⟨r4, e2, rfl⟩ := mMap e
      refine mGo.mk [true, false, false, true, true, true, true] ?_
      exact g_X0_find_l88 v0 v3 (1 : Int32) (0 : Int32) (0 : Int32) h3 e2 q
  · replace e := mIff hc e
    refine mGo.aload_n (n := 29) (r := v0) dX0_find_28 rfl rfl ?_
    obtain ⟨x5, e_x5, e⟩ := mBind e
    refine mGo.getR (n := 32) dX0_find_29 sf_RX0_9 e_x5 rfl ?_
    refine mGo.iload (n := 34) (x := v4) dX0_find_32 rfl rfl ?_
    refine mGo.aload_n (n := 35) (r := v1) dX0_find_34 rfl rfl ?_
    refine mGo.iload (n := 37) (x := v4) dX0_find_35 rfl rfl ?_
    obtain ⟨x6, e_x6, e⟩ := mBind e
    refine mGo.iald (n := 38) dX0_find_37 e_x6 rfl ?_
    obtain ⟨h7, e_h7, e⟩ := mBind e
    refine mGo.iast (n := 39) dX0_find_38 e_h7 rfl ?_
    refine mGo.aload_n (n := 40) (r := v0) dX0_find_39 rfl rfl ?_
    refine mGo.aload_n (n := 41) (r := v0) dX0_find_40 rfl rfl ?_
    obtain ⟨x8, e_x8, e⟩ := mBind e
    refine mGo.getR (n := 44) dX0_find_41 sf_RX0_9 e_x8 rfl ?_
    refine mGo.iload (n := 46) (x := v4) dX0_find_44 rfl rfl ?_
    obtain ⟨x9, e_x9, e⟩ := mBind e
    refine mGo.iald (n := 47) dX0_find_46 e_x9 rfl ?_
    refine mGo.iload (n := 49) (x := v4) dX0_find_47 rfl rfl ?_
    refine mGo.iload_n (n := 50) (x := v3) dX0_find_49 rfl rfl ?_
    obtain ⟨x10, e_x10, e⟩ := mBind e
    refine mGo.callV (n := 53) (y := zX0_isPerpendicularToFirst) (R' := (mRoom (3) 0 0)) (as := [.int x9, .int v4, .int v3]) (st := []) (r0 := v0) dX0_find_50 sc_RX0_18 rfl (s_X0_isPerpendicularToFirst v0 x9 v4 v3 h7 e_x10) (e_X0_isPerpendicularToFirst v0 x9 v4 v3 h7 e_x10) (mFit_of rfl (Nat.le_of_ble_eq_true rfl) (by decide) (Nat.le_of_ble_eq_true rfl) (Nat.le_of_ble_eq_true rfl)) (Nat.le_of_ble_eq_true rfl) rfl rfl ?_
    intro _ _ hq
    rw [hq.1, hq.2]
    show mGo w kX0_find 0 0 53 [some (va_rf v0), some (va_rf v1), some (.int v2), some (.int v3), some (.int v4), none, none] [.int x10] h7 Q
    refine mGo.if_ne (tgt := 58) (n := 56) dX0_find_53 (by decide) rfl (fun hc => ?_) (fun hc => ?_)
    · replace e := mIff hc e
      refine mGo.iinc (n := 61) (x := v4) (v := (v4 + 1)) (ls' := [some (va_rf v0), some (va_rf v1), some (.int v2), some (.int v3), some (.int (v4 + 1)), none, none]) dX0_find_58 rfl rfl rfl (Nat.le_of_ble_eq_true rfl) rfl ?_
      refine mGo.goto (tgt := 22) dX0_find_61 (by decide) ?_
      cases e
      refine mGo.mk [true, true, true, true, true, false, false] ?_
      exact q
    · replace e := mIft hc e
      refine mGo.iconst (n := 57) (v := (0 : Int32)) dX0_find_56 (by decide) rfl ?_
      cases e
      exact mGo.zret dX0_find_57 rfl (by decide) (Nat.le_of_ble_eq_true rfl) (Nat.le_of_ble_eq_true rfl) q
noncomputable def f_X0_find_l22 (v0 : Option Nat) (v1 : Option Nat) (v2 : Int32) (v3 : Int32) (v4 : Int32) (h : mH) : Option (Int32 × mH) :=
  mLoop (fun x : Int32 × mH => f_X0_find_b22 v0 v1 v2 v3 x.1 x.2) (v4, h)
set_option maxRecDepth 100000 in
set_option maxHeartbeats 4000000 in
theorem g_X0_find_l22 {w : mWp} {Q : Option Value → mH → Prop} (v0 : Option Nat) (v1 : Option Nat) (v2 : Int32) (v3 : Int32) (v4 : Int32) (h : mH) {res : Int32 × mH} (e : f_X0_find_l22 v0 v1 v2 v3 v4 h = some res) (q : (fun r : Int32 × mH => Q (some (.int r.1)) r.2) res) : mGo w kX0_find 0 0 22 [some (va_rf v0), some (va_rf v1), some (.int v2), some (.int v3), some (.int v4), none, none] [] h Q := by
  unfold f_X0_find_l22 at e
  refine mLoop_go (x := (v4, h)) (fun x : Int32 × mH => mGo w kX0_find 0 0 22 [some (va_rf v0), some (va_rf v1), some (.int v2), some (.int v3), some (.int x.1), none, none] [] x.2 Q) (fun r : Int32 × mH => Q (some (.int r.1)) r.2) ?_ e q
  rintro ⟨v4, h1⟩ res e q
  exact g_X0_find_b22 v0 v1 v2 v3 v4 h1 e q
noncomputable def f_X0_find (v0 : Option Nat) (v1 : Option Nat) (v2 : Int32) (v3 : Int32) (h : mH) : Option (Int32 × mH) :=
  (mIs h v0 0).bind fun _ =>
  if (12 : Int32) < v3 then
    some ((0 : Int32), h)
  else
    if v3 < v2 then
      some ((0 : Int32), h)
    else
      (mLn h v1).bind fun x1 =>
      if v2 ≤ x1 then
        f_X0_find_l22 v0 v1 v2 v3 (0 : Int32) h
      else
        some ((0 : Int32), h)
set_option maxRecDepth 100000 in
set_option maxHeartbeats 4000000 in
theorem g_X0_find {w : mWp} {Q : Option Value → mH → Prop} (v0 : Option Nat) (v1 : Option Nat) (v2 : Int32) (v3 : Int32) (h : mH) {res : Int32 × mH} (e : f_X0_find v0 v1 v2 v3 h = some res) (q : (fun r : Int32 × mH => Q (some (.int r.1)) r.2) res) : mGo w kX0_find 0 0 0 [some (va_rf v0), some (va_rf v1), some (.int v2), some (.int v3), none, none, none] [] h Q := by
  unfold f_X0_find at e
  obtain ⟨_, _, e⟩ := mBind e
  refine mGo.iload_n (n := 1) (x := v3) dX0_find_0 rfl rfl ?_
  refine mGo.bipush (n := 3) (v := (12 : Int32)) dX0_find_1 (by decide) rfl ?_
  refine mGo.icmp_gt (tgt := 17) (n := 6) dX0_find_3 (by decide) rfl (fun hc => ?_) (fun hc => ?_)
  · replace e := mIft hc e
    refine mGo.iconst (n := 18) (v := (0 : Int32)) dX0_find_17 (by decide) rfl ?_
    cases e
    exact mGo.zret dX0_find_18 rfl (by decide) (Nat.le_of_ble_eq_true rfl) (Nat.le_of_ble_eq_true rfl) q
  · replace e := mIff hc e
    refine mGo.iload_n (n := 7) (x := v2) dX0_find_6 rfl rfl ?_
    refine mGo.iload_n (n := 8) (x := v3) dX0_find_7 rfl rfl ?_
    refine mGo.icmp_gt (tgt := 17) (n := 11) dX0_find_8 (by decide) rfl (fun hc => ?_) (fun hc => ?_)
    · replace e := mIft hc e
      refine mGo.iconst (n := 18) (v := (0 : Int32)) dX0_find_17 (by decide) rfl ?_
      cases e
      exact mGo.zret dX0_find_18 rfl (by decide) (Nat.le_of_ble_eq_true rfl) (Nat.le_of_ble_eq_true rfl) q
    · replace e := mIff hc e
      refine mGo.iload_n (n := 12) (x := v2) dX0_find_11 rfl rfl ?_
      refine mGo.aload_n (n := 13) (r := v1) dX0_find_12 rfl rfl ?_
      obtain ⟨x1, e_x1, e⟩ := mBind e
      refine mGo.alen (n := 14) dX0_find_13 e_x1 rfl ?_
      refine mGo.icmp_le (tgt := 19) (n := 17) dX0_find_14 (by decide) rfl (fun hc => ?_) (fun hc => ?_)
      · replace e := mIft hc e
        refine mGo.iconst (n := 20) (v := (0 : Int32)) dX0_find_19 (by decide) rfl ?_
        refine mGo.istore (n := 22) (ls' := [some (va_rf v0), some (va_rf v1), some (.int v2), some (.int v3), some (.int (0 : Int32)), none, none]) dX0_find_20 rfl (Nat.le_of_ble_eq_true rfl) rfl ?_
        refine mGo.mk [true, true, true, true, true, false, false] ?_
        exact g_X0_find_l22 v0 v1 v2 v3 (0 : Int32) h e q
      · replace e := mIff hc e
        refine mGo.iconst (n := 18) (v := (0 : Int32)) dX0_find_17 (by decide) rfl ?_
        cases e
        exact mGo.zret dX0_find_18 rfl (by decide) (Nat.le_of_ble_eq_true rfl) (Nat.le_of_ble_eq_true rfl) q
theorem e_X0_find {w : mWp} (v0 : Option Nat) (v1 : Option Nat) (v2 : Int32) (v3 : Int32) (h : mH) {res : Int32 × mH} (e : f_X0_find v0 v1 v2 v3 h = some res) : mEx w zX0_find (mRoom 24 0 0) [va_rf v0, va_rf v1, .int v2, .int v3] h (fun r h2 => r = some (.int res.1) ∧ h2 = res.2) := by
  refine mEx.of (by decide +kernel) (show mEnt [va_rf v0, va_rf v1, .int v2, .int v3] 7 = [some (va_rf v0), some (va_rf v1), some (.int v2), some (.int v3), none, none, none] by rw [mEnt_r, mEnt_r, mEnt_i, mEnt_i] <;> rfl) (by simp only [List.map_cons, List.map_nil, mRfc, mCi, mCj, List.sum_cons, List.sum_nil]; exact Nat.le_of_ble_eq_true rfl) ?_
  refine g_X0_find v0 v1 v2 v3 h e ?_
  exact ⟨rfl, rfl⟩
theorem s_X0_find (v0 : Option Nat) (v1 : Option Nat) (v2 : Int32) (v3 : Int32) (h : mH) {res : Int32 × mH} (e : f_X0_find v0 v1 v2 v3 h = some res) : mIs h v0 0 = some () := by
  unfold f_X0_find at e
  obtain ⟨u, e1, _⟩ := mBind e
  cases u
  exact e1
-- X1_init
def kX1_init : mK := (cX1_init, RX1, 1, none, "<init>", mRoom 2 1 144)
def zX1_init : mY := (yX1_init, cX1_init, 1, none)
set_option maxRecDepth 100000 in
theorem sf_RX1_9 : mFld RX1 9 1 0 := ⟨by decide, by decide, Or.inl (mT_at 248 (by decide +kernel) rfl)⟩
def f_X1_init (v0 : Nat) (h : mH) : Option (mH) :=
  (mIs h (some v0) 1).bind fun _ =>
  (some (mNew h (.inl (144, .inr (.inl (fun _ => 0)))))).bind fun h1 =>
  (mPF h1 (some v0) 1 0 (va_rf (some (h.1 + 1)))).bind fun h2 =>
  some h2
set_option maxRecDepth 100000 in
set_option maxHeartbeats 4000000 in
theorem g_X1_init {w : mWp} {Q : Option Value → mH → Prop} (v0 : Nat) (h : mH) {res : mH} (e : f_X1_init v0 h = some res) (q : (fun r : mH => Q none r) res) : mGo w kX1_init 0 0 0 [some (va_rf (some v0))] [] h Q := by
  unfold f_X1_init at e
  obtain ⟨_, _, e⟩ := mBind e
  refine mGo.aload_n (n := 1) (r := (some v0)) dX1_init_0 rfl rfl ?_
  refine mGo.objI (n := 4) dX1_init_1 (mT_at 247 (by decide +kernel) rfl) (mT_at 102 (by decide +kernel) rfl) (mT_at 103 (by decide +kernel) rfl) (Nat.le_of_ble_eq_true rfl) (Nat.le_of_ble_eq_true rfl) rfl ?_
  refine mGo.aload_n (n := 5) (r := (some v0)) dX1_init_4 rfl rfl ?_
  refine mGo.sipush (n := 8) (v := (144 : Int32)) dX1_init_5 (by decide) rfl ?_
  obtain ⟨h1, e_h1, e⟩ := mBind e
  refine mGo.newL' (n := 10) (N := 144) dX1_init_8 (by decide) (by decide) (by decide) (mT_at 241 (by decide +kernel) rfl) (Nat.le_of_ble_eq_true rfl) (Nat.le_of_ble_eq_true rfl) rfl e_h1 ?_
  show mGo w kX1_init 1 144 10 [some (va_rf (some v0))] [va_rf (some (h.1 + 1)), va_rf (some v0)] h1 Q
  obtain ⟨h2, e_h2, e⟩ := mBind e
  refine mGo.putR (n := 13) dX1_init_10 sf_RX1_9 (Or.inr ⟨rfl, rfl, rfl, mT_at 248 (by decide +kernel) rfl⟩) rfl e_h2 rfl ?_
  cases e
  exact mGo.vret dX1_init_13 rfl (Nat.le_of_ble_eq_true rfl) (Nat.le_of_ble_eq_true rfl) q
theorem e_X1_init {w : mWp} (v0 : Nat) (h : mH) {res : mH} (e : f_X1_init v0 h = some res) : mEx w zX1_init (mRoom 2 1 144) [va_rf (some v0)] h (fun r h2 => r = none ∧ h2 = res) := by
  refine mEx.of (by decide +kernel) (show mEnt [va_rf (some v0)] 1 = [some (va_rf (some v0))] by rw [mEnt_r] <;> rfl) (by simp only [List.map_cons, List.map_nil, mRfc, mCi, mCj, List.sum_cons, List.sum_nil]; exact Nat.le_of_ble_eq_true rfl) ?_
  refine g_X1_init v0 h e ?_
  exact ⟨rfl, rfl⟩
theorem s_X1_init (v0 : Nat) (h : mH) {res : mH} (e : f_X1_init v0 h = some res) : mIs h (some v0) 1 = some () := by
  unfold f_X1_init at e
  obtain ⟨u, e1, _⟩ := mBind e
  cases u
  exact e1
-- X1_clearBelow
def kX1_clearBelow : mK := (cX1_clearBelow, RX1, 9, none, "clearBelow", mRoom 1 0 0)
def zX1_clearBelow : mY := (yX1_clearBelow, cX1_clearBelow, 9, none)
def f_X1_clearBelow_b23 (v0 : Option Nat) (v1 : Int32) (v2 : Int32) (v3 : Int64) (v5 : Int32) (v6 : Int32) (h : mH) : Option ((Int32 × mH) ⊕ ((Int32 × mH) ⊕ (mH))) :=
  if v1 ≤ v6 then
    some (Sum.inr (Sum.inl ((v5 + 1), h)))
  else
    (mGR h v0 1 0).bind fun x1 =>
    (mAL h x1 ((v5 * v1) + v6)).bind fun x2 =>
    (mGR h v0 1 0).bind fun x3 =>
    (mAL h x3 ((v2 * v1) + v2)).bind fun x4 =>
    (mGR h v0 1 0).bind fun x5 =>
    (mAL h x5 ((v5 * v1) + v2)).bind fun x6 =>
    (mGR h v0 1 0).bind fun x7 =>
    (mAL h x7 ((v2 * v1) + v6)).bind fun x8 =>
    (mGR h v0 1 0).bind fun x9 =>
    if v3 = 0 then none else
    (mSL h x9 ((v5 * v1) + v6) (((x2 * x4) - (x6 * x8)) / v3)).bind fun h11 =>
    some (Sum.inl ((v6 + 1), h11))
set_option maxRecDepth 100000 in
set_option maxHeartbeats 4000000 in
theorem g_X1_clearBelow_b23 {w : mWp} {Q : Option Value → mH → Prop} (v0 : Option Nat) (v1 : Int32) (v2 : Int32) (v3 : Int64) (v5 : Int32) (v6 : Int32) (h : mH) {res : (Int32 × mH) ⊕ ((Int32 × mH) ⊕ (mH))} (e : f_X1_clearBelow_b23 v0 v1 v2 v3 v5 v6 h = some res) (q : (Sum.elim (fun x : Int32 × mH => mGo w kX1_clearBelow 0 0 23 [some (va_rf v0), some (.int v1), some (.int v2), some (.long v3), none, some (.int v5), some (.int x.1), none, none] [] x.2 Q) (Sum.elim (fun x : Int32 × mH => mGo w kX1_clearBelow 0 0 12 [some (va_rf v0), some (.int v1), some (.int v2), some (.long v3), none, some (.int x.1), none, none, none] [] x.2 Q) (fun r : mH => Q none r))) res) : mGo w kX1_clearBelow 0 0 23 [some (va_rf v0), some (.int v1), some (.int v2), some (.long v3), none, some (.int v5), some (.int v6), none, none] [] h Q := by
  unfold f_X1_clearBelow_b23 at e
  refine mGo.iload (n := 25) (x := v6) dX1_clearBelow_23 rfl rfl ?_
  refine mGo.iload_n (n := 26) (x := v1) dX1_clearBelow_25 rfl rfl ?_
  refine mGo.icmp_ge (tgt := 100) (n := 29) dX1_clearBelow_26 (by decide) rfl (fun hc => ?_) (fun hc => ?_)
  · replace e := mIft hc e
    refine mGo.iinc (n := 103) (x := v5) (v := (v5 + 1)) (ls' := [some (va_rf v0), some (.int v1), some (.int v2), some (.long v3), none, some (.int (v5 + 1)), some (.int v6), none, none]) dX1_clearBelow_100 rfl rfl rfl (Nat.le_of_ble_eq_true rfl) rfl ?_
    refine mGo.goto (tgt := 12) dX1_clearBelow_103 (by decide) ?_
    cases e
    refine mGo.mk [true, true, true, true, false, true, false, false, false] ?_
    exact q
  · replace e := mIff hc e
    refine mGo.aload_n (n := 30) (r := v0) dX1_clearBelow_29 rfl rfl ?_
    obtain ⟨x1, e_x1, e⟩ := mBind e
    refine mGo.getR (n := 33) dX1_clearBelow_30 sf_RX1_9 e_x1 rfl ?_
    refine mGo.iload (n := 35) (x := v5) dX1_clearBelow_33 rfl rfl ?_
    refine mGo.iload_n (n := 36) (x := v1) dX1_clearBelow_35 rfl rfl ?_
    refine mGo.imul (n := 37) dX1_clearBelow_36 rfl ?_
    refine mGo.iload (n := 39) (x := v6) dX1_clearBelow_37 rfl rfl ?_
    refine mGo.iadd (n := 40) dX1_clearBelow_39 rfl ?_
    obtain ⟨x2, e_x2, e⟩ := mBind e
    refine mGo.lald (n := 41) dX1_clearBelow_40 e_x2 rfl ?_
    refine mGo.aload_n (n := 42) (r := v0) dX1_clearBelow_41 rfl rfl ?_
    obtain ⟨x3, e_x3, e⟩ := mBind e
    refine mGo.getR (n := 45) dX1_clearBelow_42 sf_RX1_9 e_x3 rfl ?_
    refine mGo.iload_n (n := 46) (x := v2) dX1_clearBelow_45 rfl rfl ?_
    refine mGo.iload_n (n := 47) (x := v1) dX1_clearBelow_46 rfl rfl ?_
    refine mGo.imul (n := 48) dX1_clearBelow_47 rfl ?_
    refine mGo.iload_n (n := 49) (x := v2) dX1_clearBelow_48 rfl rfl ?_
    refine mGo.iadd (n := 50) dX1_clearBelow_49 rfl ?_
    obtain ⟨x4, e_x4, e⟩ := mBind e
    refine mGo.lald (n := 51) dX1_clearBelow_50 e_x4 rfl ?_
    refine mGo.lmul (n := 52) dX1_clearBelow_51 rfl ?_
    refine mGo.aload_n (n := 53) (r := v0) dX1_clearBelow_52 rfl rfl ?_
    obtain ⟨x5, e_x5, e⟩ := mBind e
    refine mGo.getR (n := 56) dX1_clearBelow_53 sf_RX1_9 e_x5 rfl ?_
    refine mGo.iload (n := 58) (x := v5) dX1_clearBelow_56 rfl rfl ?_
    refine mGo.iload_n (n := 59) (x := v1) dX1_clearBelow_58 rfl rfl ?_
    refine mGo.imul (n := 60) dX1_clearBelow_59 rfl ?_
    refine mGo.iload_n (n := 61) (x := v2) dX1_clearBelow_60 rfl rfl ?_
    refine mGo.iadd (n := 62) dX1_clearBelow_61 rfl ?_
    obtain ⟨x6, e_x6, e⟩ := mBind e
    refine mGo.lald (n := 63) dX1_clearBelow_62 e_x6 rfl ?_
    refine mGo.aload_n (n := 64) (r := v0) dX1_clearBelow_63 rfl rfl ?_
    obtain ⟨x7, e_x7, e⟩ := mBind e
    refine mGo.getR (n := 67) dX1_clearBelow_64 sf_RX1_9 e_x7 rfl ?_
    refine mGo.iload_n (n := 68) (x := v2) dX1_clearBelow_67 rfl rfl ?_
    refine mGo.iload_n (n := 69) (x := v1) dX1_clearBelow_68 rfl rfl ?_
    refine mGo.imul (n := 70) dX1_clearBelow_69 rfl ?_
    refine mGo.iload (n := 72) (x := v6) dX1_clearBelow_70 rfl rfl ?_
    refine mGo.iadd (n := 73) dX1_clearBelow_72 rfl ?_
    obtain ⟨x8, e_x8, e⟩ := mBind e
    refine mGo.lald (n := 74) dX1_clearBelow_73 e_x8 rfl ?_
    refine mGo.lmul (n := 75) dX1_clearBelow_74 rfl ?_
    refine mGo.lsub (n := 76) dX1_clearBelow_75 rfl ?_
    refine mGo.lstore (n := 78) (ls' := [some (va_rf v0), some (.int v1), some (.int v2), some (.long v3), none, some (.int v5), some (.int v6), some (.long ((x2 * x4) - (x6 * x8))), none]) dX1_clearBelow_76 rfl (Nat.le_of_ble_eq_true rfl) rfl ?_
    refine mGo.aload_n (n := 79) (r := v0) dX1_clearBelow_78 rfl rfl ?_
    obtain ⟨x9, e_x9, e⟩ := mBind e
    refine mGo.getR (n := 82) dX1_clearBelow_79 sf_RX1_9 e_x9 rfl ?_
    refine mGo.iload (n := 84) (x := v5) dX1_clearBelow_82 rfl rfl ?_
    refine mGo.iload_n (n := 85) (x := v1) dX1_clearBelow_84 rfl rfl ?_
    refine mGo.imul (n := 86) dX1_clearBelow_85 rfl ?_
    refine mGo.iload (n := 88) (x := v6) dX1_clearBelow_86 rfl rfl ?_
    refine mGo.iadd (n := 89) dX1_clearBelow_88 rfl ?_
    refine mGo.lload (n := 91) (x := ((x2 * x4) - (x6 * x8))) dX1_clearBelow_89 rfl rfl ?_
    refine mGo.lload_n (n := 92) (x := v3) dX1_clearBelow_91 rfl rfl ?_
    obtain ⟨z10, e⟩ := mIfN e
    refine mGo.ldiv (n := 93) dX1_clearBelow_92 z10 rfl ?_
    obtain ⟨h11, e_h11, e⟩ := mBind e
    refine mGo.last (n := 94) dX1_clearBelow_93 e_h11 rfl ?_
    refine mGo.iinc (n := 97) (x := v6) (v := (v6 + 1)) (ls' := [some (va_rf v0), some (.int v1), some (.int v2), some (.long v3), none, some (.int v5), some (.int (v6 + 1)), some (.long ((x2 * x4) - (x6 * x8))), none]) dX1_clearBelow_94 rfl rfl rfl (Nat.le_of_ble_eq_true rfl) rfl ?_
    refine mGo.goto (tgt := 23) dX1_clearBelow_97 (by decide) ?_
    cases e
    refine mGo.mk [true, true, true, true, false, true, true, false, false] ?_
    exact q
noncomputable def f_X1_clearBelow_l23 (v0 : Option Nat) (v1 : Int32) (v2 : Int32) (v3 : Int64) (v5 : Int32) (v6 : Int32) (h : mH) : Option ((Int32 × mH) ⊕ (mH)) :=
  mLoop (fun x : Int32 × mH => f_X1_clearBelow_b23 v0 v1 v2 v3 v5 x.1 x.2) (v6, h)
set_option maxRecDepth 100000 in
set_option maxHeartbeats 4000000 in
theorem g_X1_clearBelow_l23 {w : mWp} {Q : Option Value → mH → Prop} (v0 : Option Nat) (v1 : Int32) (v2 : Int32) (v3 : Int64) (v5 : Int32) (v6 : Int32) (h : mH) {res : (Int32 × mH) ⊕ (mH)} (e : f_X1_clearBelow_l23 v0 v1 v2 v3 v5 v6 h = some res) (q : (Sum.elim (fun x : Int32 × mH => mGo w kX1_clearBelow 0 0 12 [some (va_rf v0), some (.int v1), some (.int v2), some (.long v3), none, some (.int x.1), none, none, none] [] x.2 Q) (fun r : mH => Q none r)) res) : mGo w kX1_clearBelow 0 0 23 [some (va_rf v0), some (.int v1), some (.int v2), some (.long v3), none, some (.int v5), some (.int v6), none, none] [] h Q := by
  unfold f_X1_clearBelow_l23 at e
  refine mLoop_go (x := (v6, h)) (fun x : Int32 × mH => mGo w kX1_clearBelow 0 0 23 [some (va_rf v0), some (.int v1), some (.int v2), some (.long v3), none, some (.int v5), some (.int x.1), none, none] [] x.2 Q) (Sum.elim (fun x : Int32 × mH => mGo w kX1_clearBelow 0 0 12 [some (va_rf v0), some (.int v1), some (.int v2), some (.long v3), none, some (.int x.1), none, none, none] [] x.2 Q) (fun r : mH => Q none r)) ?_ e q
  rintro ⟨v6, h1⟩ res e q
  exact g_X1_clearBelow_b23 v0 v1 v2 v3 v5 v6 h1 e q
noncomputable def f_X1_clearBelow_b12 (v0 : Option Nat) (v1 : Int32) (v2 : Int32) (v3 : Int64) (v5 : Int32) (h : mH) : Option ((Int32 × mH) ⊕ (mH)) :=
  if v1 ≤ v5 then
    some (Sum.inr h)
  else
    f_X1_clearBelow_l23 v0 v1 v2 v3 v5 (v2 + (1 : Int32)) h
set_option maxRecDepth 100000 in
set_option maxHeartbeats 4000000 in
theorem g_X1_clearBelow_b12 {w : mWp} {Q : Option Value → mH → Prop} (v0 : Option Nat) (v1 : Int32) (v2 : Int32) (v3 : Int64) (v5 : Int32) (h : mH) {res : (Int32 × mH) ⊕ (mH)} (e : f_X1_clearBelow_b12 v0 v1 v2 v3 v5 h = some res) (q : (Sum.elim (fun x : Int32 × mH => mGo w kX1_clearBelow 0 0 12 [some (va_rf v0), some (.int v1), some (.int v2), some (.long v3), none, some (.int x.1), none, none, none] [] x.2 Q) (fun r : mH => Q none r)) res) : mGo w kX1_clearBelow 0 0 12 [some (va_rf v0), some (.int v1), some (.int v2), some (.long v3), none, some (.int v5), none, none, none] [] h Q := by
  unfold f_X1_clearBelow_b12 at e
  refine mGo.iload (n := 14) (x := v5) dX1_clearBelow_12 rfl rfl ?_
  refine mGo.iload_n (n := 15) (x := v1) dX1_clearBelow_14 rfl rfl ?_
  refine mGo.icmp_ge (tgt := 106) (n := 18) dX1_clearBelow_15 (by decide) rfl (fun hc => ?_) (fun hc => ?_)
  · replace e := mIft hc e
    cases e
    exact mGo.vret dX1_clearBelow_106 rfl (Nat.le_of_ble_eq_true rfl) (Nat.le_of_ble_eq_true rfl) q
  · replace e := mIff hc e
    refine mGo.iload_n (n := 19) (x := v2) dX1_clearBelow_18 rfl rfl ?_
    refine mGo.iconst (n := 20) (v := (1 : Int32)) dX1_clearBelow_19 (by decide) rfl ?_
    refine mGo.iadd (n := 21) dX1_clearBelow_20 rfl ?_
    refine mGo.istore (n := 23) (ls' := [some (va_rf v0), some (.int v1), some (.int v2), some (.long v3), none, some (.int v5), some (.int (v2 + (1 : Int32))), none, none]) dX1_clearBelow_21 rfl (Nat.le_of_ble_eq_true rfl) rfl ?_
    refine mGo.mk [true, true, true, true, false, true, true, false, false] ?_
    exact g_X1_clearBelow_l23 v0 v1 v2 v3 v5 (v2 + (1 : Int32)) h e q
noncomputable def f_X1_clearBelow_l12 (v0 : Option Nat) (v1 : Int32) (v2 : Int32) (v3 : Int64) (v5 : Int32) (h : mH) : Option (mH) :=
  mLoop (fun x : Int32 × mH => f_X1_clearBelow_b12 v0 v1 v2 v3 x.1 x.2) (v5, h)
set_option maxRecDepth 100000 in
set_option maxHeartbeats 4000000 in
theorem g_X1_clearBelow_l12 {w : mWp} {Q : Option Value → mH → Prop} (v0 : Option Nat) (v1 : Int32) (v2 : Int32) (v3 : Int64) (v5 : Int32) (h : mH) {res : mH} (e : f_X1_clearBelow_l12 v0 v1 v2 v3 v5 h = some res) (q : (fun r : mH => Q none r) res) : mGo w kX1_clearBelow 0 0 12 [some (va_rf v0), some (.int v1), some (.int v2), some (.long v3), none, some (.int v5), none, none, none] [] h Q := by
  unfold f_X1_clearBelow_l12 at e
  refine mLoop_go (x := (v5, h)) (fun x : Int32 × mH => mGo w kX1_clearBelow 0 0 12 [some (va_rf v0), some (.int v1), some (.int v2), some (.long v3), none, some (.int x.1), none, none, none] [] x.2 Q) (fun r : mH => Q none r) ?_ e q
  rintro ⟨v5, h1⟩ res e q
  exact g_X1_clearBelow_b12 v0 v1 v2 v3 v5 h1 e q
noncomputable def f_X1_clearBelow (v0 : Option Nat) (v1 : Int32) (v2 : Int32) (v3 : Int64) (h : mH) : Option (mH) :=
  (mIs h v0 1).bind fun _ =>
  if (lg_cmp v3 (0 : Int64)) = 0 then
    some h
  else
    f_X1_clearBelow_l12 v0 v1 v2 v3 (v2 + (1 : Int32)) h
set_option maxRecDepth 100000 in
set_option maxHeartbeats 4000000 in
theorem g_X1_clearBelow {w : mWp} {Q : Option Value → mH → Prop} (v0 : Option Nat) (v1 : Int32) (v2 : Int32) (v3 : Int64) (h : mH) {res : mH} (e : f_X1_clearBelow v0 v1 v2 v3 h = some res) (q : (fun r : mH => Q none r) res) : mGo w kX1_clearBelow 0 0 0 [some (va_rf v0), some (.int v1), some (.int v2), some (.long v3), none, none, none, none, none] [] h Q := by
  unfold f_X1_clearBelow at e
  obtain ⟨_, _, e⟩ := mBind e
  refine mGo.lload_n (n := 1) (x := v3) dX1_clearBelow_0 rfl rfl ?_
  refine mGo.lconst (n := 2) (v := (0 : Int64)) dX1_clearBelow_1 (by decide) rfl ?_
  refine mGo.lcmp (n := 3) dX1_clearBelow_2 rfl ?_
  refine mGo.if_ne (tgt := 7) (n := 6) dX1_clearBelow_3 (by decide) rfl (fun hc => ?_) (fun hc => ?_)
  · replace e := mIff hc e
    refine mGo.iload_n (n := 8) (x := v2) dX1_clearBelow_7 rfl rfl ?_
    refine mGo.iconst (n := 9) (v := (1 : Int32)) dX1_clearBelow_8 (by decide) rfl ?_
    refine mGo.iadd (n := 10) dX1_clearBelow_9 rfl ?_
    refine mGo.istore (n := 12) (ls' := [some (va_rf v0), some (.int v1), some (.int v2), some (.long v3), none, some (.int (v2 + (1 : Int32))), none, none, none]) dX1_clearBelow_10 rfl (Nat.le_of_ble_eq_true rfl) rfl ?_
    refine mGo.mk [true, true, true, true, false, true, false, false, false] ?_
    exact g_X1_clearBelow_l12 v0 v1 v2 v3 (v2 + (1 : Int32)) h e q
  · replace e := mIft hc e
    cases e
    exact mGo.vret dX1_clearBelow_6 rfl (Nat.le_of_ble_eq_true rfl) (Nat.le_of_ble_eq_true rfl) q
theorem e_X1_clearBelow {w : mWp} (v0 : Option Nat) (v1 : Int32) (v2 : Int32) (v3 : Int64) (h : mH) {res : mH} (e : f_X1_clearBelow v0 v1 v2 v3 h = some res) : mEx w zX1_clearBelow (mRoom 1 0 0) [va_rf v0, .int v1, .int v2, .long v3] h (fun r h2 => r = none ∧ h2 = res) := by
  refine mEx.of (by decide +kernel) (show mEnt [va_rf v0, .int v1, .int v2, .long v3] 9 = [some (va_rf v0), some (.int v1), some (.int v2), some (.long v3), none, none, none, none, none] by rw [mEnt_r, mEnt_i, mEnt_i, mEnt_l] <;> rfl) (by simp only [List.map_cons, List.map_nil, mRfc, mCi, mCj, List.sum_cons, List.sum_nil]; exact Nat.le_of_ble_eq_true rfl) ?_
  refine g_X1_clearBelow v0 v1 v2 v3 h e ?_
  exact ⟨rfl, rfl⟩
theorem s_X1_clearBelow (v0 : Option Nat) (v1 : Int32) (v2 : Int32) (v3 : Int64) (h : mH) {res : mH} (e : f_X1_clearBelow v0 v1 v2 v3 h = some res) : mIs h v0 1 = some () := by
  unfold f_X1_clearBelow at e
  obtain ⟨u, e1, _⟩ := mBind e
  cases u
  exact e1
-- X1_exchangeCells
def kX1_exchangeCells : mK := (cX1_exchangeCells, RX1, 7, none, "exchangeCells", mRoom 1 0 0)
def zX1_exchangeCells : mY := (yX1_exchangeCells, cX1_exchangeCells, 7, none)
def f_X1_exchangeCells_b3 (v0 : Option Nat) (v1 : Int32) (v2 : Int32) (v3 : Int32) (v4 : Int32) (h : mH) : Option ((Int32 × mH) ⊕ (mH)) :=
  if v1 ≤ v4 then
    some (Sum.inr h)
  else
    (mGR h v0 1 0).bind fun x1 =>
    (mAL h x1 ((v2 * v1) + v4)).bind fun x2 =>
    (mGR h v0 1 0).bind fun x3 =>
    (mGR h v0 1 0).bind fun x4 =>
    (mAL h x4 ((v3 * v1) + v4)).bind fun x5 =>
    (mSL h x3 ((v2 * v1) + v4) x5).bind fun h6 =>
    (mGR h6 v0 1 0).bind fun x7 =>
    (mSL h6 x7 ((v3 * v1) + v4) x2).bind fun h8 =>
    some (Sum.inl ((v4 + 1), h8))
set_option maxRecDepth 100000 in
set_option maxHeartbeats 4000000 in
theorem g_X1_exchangeCells_b3 {w : mWp} {Q : Option Value → mH → Prop} (v0 : Option Nat) (v1 : Int32) (v2 : Int32) (v3 : Int32) (v4 : Int32) (h : mH) {res : (Int32 × mH) ⊕ (mH)} (e : f_X1_exchangeCells_b3 v0 v1 v2 v3 v4 h = some res) (q : (Sum.elim (fun x : Int32 × mH => mGo w kX1_exchangeCells 0 0 3 [some (va_rf v0), some (.int v1), some (.int v2), some (.int v3), some (.int x.1), none, none] [] x.2 Q) (fun r : mH => Q none r)) res) : mGo w kX1_exchangeCells 0 0 3 [some (va_rf v0), some (.int v1), some (.int v2), some (.int v3), some (.int v4), none, none] [] h Q := by
  unfold f_X1_exchangeCells_b3 at e
  refine mGo.iload (n := 5) (x := v4) dX1_exchangeCells_3 rfl rfl ?_
  refine mGo.iload_n (n := 6) (x := v1) dX1_exchangeCells_5 rfl rfl ?_
  refine mGo.icmp_ge (tgt := 63) (n := 9) dX1_exchangeCells_6 (by decide) rfl (fun hc => ?_) (fun hc => ?_)
  · replace e := mIft hc e
    cases e
    exact mGo.vret dX1_exchangeCells_63 rfl (Nat.le_of_ble_eq_true rfl) (Nat.le_of_ble_eq_true rfl) q
  · replace e := mIff hc e
    refine mGo.aload_n (n := 10) (r := v0) dX1_exchangeCells_9 rfl rfl ?_
    obtain ⟨x1, e_x1, e⟩ := mBind e
    refine mGo.getR (n := 13) dX1_exchangeCells_10 sf_RX1_9 e_x1 rfl ?_
    refine mGo.iload_n (n := 14) (x := v2) dX1_exchangeCells_13 rfl rfl ?_
    refine mGo.iload_n (n := 15) (x := v1) dX1_exchangeCells_14 rfl rfl ?_
    refine mGo.imul (n := 16) dX1_exchangeCells_15 rfl ?_
    refine mGo.iload (n := 18) (x := v4) dX1_exchangeCells_16 rfl rfl ?_
    refine mGo.iadd (n := 19) dX1_exchangeCells_18 rfl ?_
    obtain ⟨x2, e_x2, e⟩ := mBind e
    refine mGo.lald (n := 20) dX1_exchangeCells_19 e_x2 rfl ?_
    refine mGo.lstore (n := 22) (ls' := [some (va_rf v0), some (.int v1), some (.int v2), some (.int v3), some (.int v4), some (.long x2), none]) dX1_exchangeCells_20 rfl (Nat.le_of_ble_eq_true rfl) rfl ?_
    refine mGo.aload_n (n := 23) (r := v0) dX1_exchangeCells_22 rfl rfl ?_
    obtain ⟨x3, e_x3, e⟩ := mBind e
    refine mGo.getR (n := 26) dX1_exchangeCells_23 sf_RX1_9 e_x3 rfl ?_
    refine mGo.iload_n (n := 27) (x := v2) dX1_exchangeCells_26 rfl rfl ?_
    refine mGo.iload_n (n := 28) (x := v1) dX1_exchangeCells_27 rfl rfl ?_
    refine mGo.imul (n := 29) dX1_exchangeCells_28 rfl ?_
    refine mGo.iload (n := 31) (x := v4) dX1_exchangeCells_29 rfl rfl ?_
    refine mGo.iadd (n := 32) dX1_exchangeCells_31 rfl ?_
    refine mGo.aload_n (n := 33) (r := v0) dX1_exchangeCells_32 rfl rfl ?_
    obtain ⟨x4, e_x4, e⟩ := mBind e
    refine mGo.getR (n := 36) dX1_exchangeCells_33 sf_RX1_9 e_x4 rfl ?_
    refine mGo.iload_n (n := 37) (x := v3) dX1_exchangeCells_36 rfl rfl ?_
    refine mGo.iload_n (n := 38) (x := v1) dX1_exchangeCells_37 rfl rfl ?_
    refine mGo.imul (n := 39) dX1_exchangeCells_38 rfl ?_
    refine mGo.iload (n := 41) (x := v4) dX1_exchangeCells_39 rfl rfl ?_
    refine mGo.iadd (n := 42) dX1_exchangeCells_41 rfl ?_
    obtain ⟨x5, e_x5, e⟩ := mBind e
    refine mGo.lald (n := 43) dX1_exchangeCells_42 e_x5 rfl ?_
    obtain ⟨h6, e_h6, e⟩ := mBind e
    refine mGo.last (n := 44) dX1_exchangeCells_43 e_h6 rfl ?_
    refine mGo.aload_n (n := 45) (r := v0) dX1_exchangeCells_44 rfl rfl ?_
    obtain ⟨x7, e_x7, e⟩ := mBind e
    refine mGo.getR (n := 48) dX1_exchangeCells_45 sf_RX1_9 e_x7 rfl ?_
    refine mGo.iload_n (n := 49) (x := v3) dX1_exchangeCells_48 rfl rfl ?_
    refine mGo.iload_n (n := 50) (x := v1) dX1_exchangeCells_49 rfl rfl ?_
    refine mGo.imul (n := 51) dX1_exchangeCells_50 rfl ?_
    refine mGo.iload (n := 53) (x := v4) dX1_exchangeCells_51 rfl rfl ?_
    refine mGo.iadd (n := 54) dX1_exchangeCells_53 rfl ?_
    refine mGo.lload (n := 56) (x := x2) dX1_exchangeCells_54 rfl rfl ?_
    obtain ⟨h8, e_h8, e⟩ := mBind e
    refine mGo.last (n := 57) dX1_exchangeCells_56 e_h8 rfl ?_
    refine mGo.iinc (n := 60) (x := v4) (v := (v4 + 1)) (ls' := [some (va_rf v0), some (.int v1), some (.int v2), some (.int v3), some (.int (v4 + 1)), some (.long x2), none]) dX1_exchangeCells_57 rfl rfl rfl (Nat.le_of_ble_eq_true rfl) rfl ?_
    refine mGo.goto (tgt := 3) dX1_exchangeCells_60 (by decide) ?_
    cases e
    refine mGo.mk [true, true, true, true, true, false, false] ?_
    exact q
noncomputable def f_X1_exchangeCells_l3 (v0 : Option Nat) (v1 : Int32) (v2 : Int32) (v3 : Int32) (v4 : Int32) (h : mH) : Option (mH) :=
  mLoop (fun x : Int32 × mH => f_X1_exchangeCells_b3 v0 v1 v2 v3 x.1 x.2) (v4, h)
set_option maxRecDepth 100000 in
set_option maxHeartbeats 4000000 in
theorem g_X1_exchangeCells_l3 {w : mWp} {Q : Option Value → mH → Prop} (v0 : Option Nat) (v1 : Int32) (v2 : Int32) (v3 : Int32) (v4 : Int32) (h : mH) {res : mH} (e : f_X1_exchangeCells_l3 v0 v1 v2 v3 v4 h = some res) (q : (fun r : mH => Q none r) res) : mGo w kX1_exchangeCells 0 0 3 [some (va_rf v0), some (.int v1), some (.int v2), some (.int v3), some (.int v4), none, none] [] h Q := by
  unfold f_X1_exchangeCells_l3 at e
  refine mLoop_go (x := (v4, h)) (fun x : Int32 × mH => mGo w kX1_exchangeCells 0 0 3 [some (va_rf v0), some (.int v1), some (.int v2), some (.int v3), some (.int x.1), none, none] [] x.2 Q) (fun r : mH => Q none r) ?_ e q
  rintro ⟨v4, h1⟩ res e q
  exact g_X1_exchangeCells_b3 v0 v1 v2 v3 v4 h1 e q
noncomputable def f_X1_exchangeCells (v0 : Option Nat) (v1 : Int32) (v2 : Int32) (v3 : Int32) (h : mH) : Option (mH) :=
  (mIs h v0 1).bind fun _ =>
  f_X1_exchangeCells_l3 v0 v1 v2 v3 (0 : Int32) h
set_option maxRecDepth 100000 in
set_option maxHeartbeats 4000000 in
theorem g_X1_exchangeCells {w : mWp} {Q : Option Value → mH → Prop} (v0 : Option Nat) (v1 : Int32) (v2 : Int32) (v3 : Int32) (h : mH) {res : mH} (e : f_X1_exchangeCells v0 v1 v2 v3 h = some res) (q : (fun r : mH => Q none r) res) : mGo w kX1_exchangeCells 0 0 0 [some (va_rf v0), some (.int v1), some (.int v2), some (.int v3), none, none, none] [] h Q := by
  unfold f_X1_exchangeCells at e
  obtain ⟨_, _, e⟩ := mBind e
  refine mGo.iconst (n := 1) (v := (0 : Int32)) dX1_exchangeCells_0 (by decide) rfl ?_
  refine mGo.istore (n := 3) (ls' := [some (va_rf v0), some (.int v1), some (.int v2), some (.int v3), some (.int (0 : Int32)), none, none]) dX1_exchangeCells_1 rfl (Nat.le_of_ble_eq_true rfl) rfl ?_
  refine mGo.mk [true, true, true, true, true, false, false] ?_
  exact g_X1_exchangeCells_l3 v0 v1 v2 v3 (0 : Int32) h e q
theorem e_X1_exchangeCells {w : mWp} (v0 : Option Nat) (v1 : Int32) (v2 : Int32) (v3 : Int32) (h : mH) {res : mH} (e : f_X1_exchangeCells v0 v1 v2 v3 h = some res) : mEx w zX1_exchangeCells (mRoom 1 0 0) [va_rf v0, .int v1, .int v2, .int v3] h (fun r h2 => r = none ∧ h2 = res) := by
  refine mEx.of (by decide +kernel) (show mEnt [va_rf v0, .int v1, .int v2, .int v3] 7 = [some (va_rf v0), some (.int v1), some (.int v2), some (.int v3), none, none, none] by rw [mEnt_r, mEnt_i, mEnt_i, mEnt_i] <;> rfl) (by simp only [List.map_cons, List.map_nil, mRfc, mCi, mCj, List.sum_cons, List.sum_nil]; exact Nat.le_of_ble_eq_true rfl) ?_
  refine g_X1_exchangeCells v0 v1 v2 v3 h e ?_
  exact ⟨rfl, rfl⟩
theorem s_X1_exchangeCells (v0 : Option Nat) (v1 : Int32) (v2 : Int32) (v3 : Int32) (h : mH) {res : mH} (e : f_X1_exchangeCells v0 v1 v2 v3 h = some res) : mIs h v0 1 = some () := by
  unfold f_X1_exchangeCells at e
  obtain ⟨u, e1, _⟩ := mBind e
  cases u
  exact e1
-- X1_pivotRow
def kX1_pivotRow : mK := (cX1_pivotRow, RX1, 4, some (.int), "pivotRow", mRoom 1 0 0)
def zX1_pivotRow : mY := (yX1_pivotRow, cX1_pivotRow, 4, some (.int))
def f_X1_pivotRow_b2 (v0 : Option Nat) (v1 : Int32) (v2 : Int32) (v3 : Int32) (h : mH) : Option ((Int32) ⊕ (Int32)) :=
  if v1 ≤ v3 then
    some (Sum.inr (-1 : Int32))
  else
    (mGR h v0 1 0).bind fun x1 =>
    (mAL h x1 ((v3 * v1) + v2)).bind fun x2 =>
    if (lg_cmp x2 (0 : Int64)) = 0 then
      some (Sum.inl (v3 + 1))
    else
      some (Sum.inr v3)
set_option maxRecDepth 100000 in
set_option maxHeartbeats 4000000 in
theorem g_X1_pivotRow_b2 {w : mWp} {Q : Option Value → mH → Prop} (v0 : Option Nat) (v1 : Int32) (v2 : Int32) (v3 : Int32) (h : mH) {res : (Int32) ⊕ (Int32)} (e : f_X1_pivotRow_b2 v0 v1 v2 v3 h = some res) (q : (Sum.elim (fun x : Int32 => mGo w kX1_pivotRow 0 0 2 [some (va_rf v0), some (.int v1), some (.int v2), some (.int x)] [] h Q) (fun r : Int32 => Q (some (.int r)) h)) res) : mGo w kX1_pivotRow 0 0 2 [some (va_rf v0), some (.int v1), some (.int v2), some (.int v3)] [] h Q := by
  unfold f_X1_pivotRow_b2 at e
  refine mGo.iload_n (n := 3) (x := v3) dX1_pivotRow_2 rfl rfl ?_
  refine mGo.iload_n (n := 4) (x := v1) dX1_pivotRow_3 rfl rfl ?_
  refine mGo.icmp_ge (tgt := 30) (n := 7) dX1_pivotRow_4 (by decide) rfl (fun hc => ?_) (fun hc => ?_)
  · replace e := mIft hc e
    refine mGo.iconst (n := 31) (v := (-1 : Int32)) dX1_pivotRow_30 (by decide) rfl ?_
    cases e
    exact mGo.iret dX1_pivotRow_31 rfl (Nat.le_of_ble_eq_true rfl) (Nat.le_of_ble_eq_true rfl) q
  · replace e := mIff hc e
    refine mGo.aload_n (n := 8) (r := v0) dX1_pivotRow_7 rfl rfl ?_
    obtain ⟨x1, e_x1, e⟩ := mBind e
    refine mGo.getR (n := 11) dX1_pivotRow_8 sf_RX1_9 e_x1 rfl ?_
    refine mGo.iload_n (n := 12) (x := v3) dX1_pivotRow_11 rfl rfl ?_
    refine mGo.iload_n (n := 13) (x := v1) dX1_pivotRow_12 rfl rfl ?_
    refine mGo.imul (n := 14) dX1_pivotRow_13 rfl ?_
    refine mGo.iload_n (n := 15) (x := v2) dX1_pivotRow_14 rfl rfl ?_
    refine mGo.iadd (n := 16) dX1_pivotRow_15 rfl ?_
    obtain ⟨x2, e_x2, e⟩ := mBind e
    refine mGo.lald (n := 17) dX1_pivotRow_16 e_x2 rfl ?_
    refine mGo.lconst (n := 18) (v := (0 : Int64)) dX1_pivotRow_17 (by decide) rfl ?_
    refine mGo.lcmp (n := 19) dX1_pivotRow_18 rfl ?_
    refine mGo.if_eq (tgt := 24) (n := 22) dX1_pivotRow_19 (by decide) rfl (fun hc => ?_) (fun hc => ?_)
    · replace e := mIft hc e
      refine mGo.iinc (n := 27) (x := v3) (v := (v3 + 1)) (ls' := [some (va_rf v0), some (.int v1), some (.int v2), some (.int (v3 + 1))]) dX1_pivotRow_24 rfl rfl rfl (Nat.le_of_ble_eq_true rfl) rfl ?_
      refine mGo.goto (tgt := 2) dX1_pivotRow_27 (by decide) ?_
      cases e
      refine mGo.mk [true, true, true, true] ?_
      exact q
    · replace e := mIff hc e
      refine mGo.iload_n (n := 23) (x := v3) dX1_pivotRow_22 rfl rfl ?_
      cases e
      exact mGo.iret dX1_pivotRow_23 rfl (Nat.le_of_ble_eq_true rfl) (Nat.le_of_ble_eq_true rfl) q
noncomputable def f_X1_pivotRow_l2 (v0 : Option Nat) (v1 : Int32) (v2 : Int32) (v3 : Int32) (h : mH) : Option (Int32) :=
  mLoop (fun x : Int32 => f_X1_pivotRow_b2 v0 v1 v2 x h) (v3)
set_option maxRecDepth 100000 in
set_option maxHeartbeats 4000000 in
theorem g_X1_pivotRow_l2 {w : mWp} {Q : Option Value → mH → Prop} (v0 : Option Nat) (v1 : Int32) (v2 : Int32) (v3 : Int32) (h : mH) {res : Int32} (e : f_X1_pivotRow_l2 v0 v1 v2 v3 h = some res) (q : (fun r : Int32 => Q (some (.int r)) h) res) : mGo w kX1_pivotRow 0 0 2 [some (va_rf v0), some (.int v1), some (.int v2), some (.int v3)] [] h Q := by
  unfold f_X1_pivotRow_l2 at e
  refine mLoop_go (x := (v3)) (fun x : Int32 => mGo w kX1_pivotRow 0 0 2 [some (va_rf v0), some (.int v1), some (.int v2), some (.int x)] [] h Q) (fun r : Int32 => Q (some (.int r)) h) ?_ e q
  rintro v3 res e q
  exact g_X1_pivotRow_b2 v0 v1 v2 v3 h e q
noncomputable def f_X1_pivotRow (v0 : Option Nat) (v1 : Int32) (v2 : Int32) (h : mH) : Option (Int32) :=
  (mIs h v0 1).bind fun _ =>
  f_X1_pivotRow_l2 v0 v1 v2 v2 h
set_option maxRecDepth 100000 in
set_option maxHeartbeats 4000000 in
theorem g_X1_pivotRow {w : mWp} {Q : Option Value → mH → Prop} (v0 : Option Nat) (v1 : Int32) (v2 : Int32) (h : mH) {res : Int32} (e : f_X1_pivotRow v0 v1 v2 h = some res) (q : (fun r : Int32 => Q (some (.int r)) h) res) : mGo w kX1_pivotRow 0 0 0 [some (va_rf v0), some (.int v1), some (.int v2), none] [] h Q := by
  unfold f_X1_pivotRow at e
  obtain ⟨_, _, e⟩ := mBind e
  refine mGo.iload_n (n := 1) (x := v2) dX1_pivotRow_0 rfl rfl ?_
  refine mGo.istore_n (n := 2) (ls' := [some (va_rf v0), some (.int v1), some (.int v2), some (.int v2)]) dX1_pivotRow_1 rfl (Nat.le_of_ble_eq_true rfl) rfl ?_
  refine mGo.mk [true, true, true, true] ?_
  exact g_X1_pivotRow_l2 v0 v1 v2 v2 h e q
theorem e_X1_pivotRow {w : mWp} (v0 : Option Nat) (v1 : Int32) (v2 : Int32) (h : mH) {res : Int32} (e : f_X1_pivotRow v0 v1 v2 h = some res) : mEx w zX1_pivotRow (mRoom 1 0 0) [va_rf v0, .int v1, .int v2] h (fun r h2 => r = some (.int res) ∧ h2 = h) := by
  refine mEx.of (by decide +kernel) (show mEnt [va_rf v0, .int v1, .int v2] 4 = [some (va_rf v0), some (.int v1), some (.int v2), none] by rw [mEnt_r, mEnt_i, mEnt_i] <;> rfl) (by simp only [List.map_cons, List.map_nil, mRfc, mCi, mCj, List.sum_cons, List.sum_nil]; exact Nat.le_of_ble_eq_true rfl) ?_
  refine g_X1_pivotRow v0 v1 v2 h e ?_
  exact ⟨rfl, rfl⟩
theorem s_X1_pivotRow (v0 : Option Nat) (v1 : Int32) (v2 : Int32) (h : mH) {res : Int32} (e : f_X1_pivotRow v0 v1 v2 h = some res) : mIs h v0 1 = some () := by
  unfold f_X1_pivotRow at e
  obtain ⟨u, e1, _⟩ := mBind e
  cases u
  exact e1
-- X8_inSet
def kX8_inSet : mK := (cX8_inSet, RX8, 2, some (.boolean), "inSet", mRoom 1 0 0)
def zX8_inSet : mY := (yX8_inSet, cX8_inSet, 2, some (.boolean))
def f_X8_inSet (v0 : Int32) (v1 : Int32)  : Option (Int32) :=
  if ((v0 >>> (v1 &&& 31)) &&& (1 : Int32)) = 0 then
    some (0 : Int32)
  else
    some (1 : Int32)
set_option maxRecDepth 100000 in
set_option maxHeartbeats 4000000 in
theorem g_X8_inSet {w : mWp} {Q : Option Value → mH → Prop} (v0 : Int32) (v1 : Int32) (h : mH) {res : Int32} (e : f_X8_inSet v0 v1 = some res) (q : (fun r : Int32 => Q (some (.int r)) h) res) : mGo w kX8_inSet 0 0 0 [some (.int v0), some (.int v1)] [] h Q := by
  unfold f_X8_inSet at e
  refine mGo.iload_n (n := 1) (x := v0) dX8_inSet_0 rfl rfl ?_
  refine mGo.iload_n (n := 2) (x := v1) dX8_inSet_1 rfl rfl ?_
  refine mGo.ishr (n := 3) dX8_inSet_2 rfl ?_
  refine mGo.iconst (n := 4) (v := (1 : Int32)) dX8_inSet_3 (by decide) rfl ?_
  refine mGo.iand (n := 5) dX8_inSet_4 rfl ?_
  refine mGo.if_eq (tgt := 12) (n := 8) dX8_inSet_5 (by decide) rfl (fun hc => ?_) (fun hc => ?_)
  · replace e := mIft hc e
    refine mGo.iconst (n := 13) (v := (0 : Int32)) dX8_inSet_12 (by decide) rfl ?_
    cases e
    exact mGo.zret dX8_inSet_13 rfl (by decide) (Nat.le_of_ble_eq_true rfl) (Nat.le_of_ble_eq_true rfl) q
  · replace e := mIff hc e
    refine mGo.iconst (n := 9) (v := (1 : Int32)) dX8_inSet_8 (by decide) rfl ?_
    refine mGo.goto (tgt := 13) dX8_inSet_9 (by decide) ?_
    cases e
    exact mGo.zret dX8_inSet_13 rfl (by decide) (Nat.le_of_ble_eq_true rfl) (Nat.le_of_ble_eq_true rfl) q
theorem e_X8_inSet {w : mWp} (v0 : Int32) (v1 : Int32) (h : mH) {res : Int32} (e : f_X8_inSet v0 v1 = some res) : mEx w zX8_inSet (mRoom 1 0 0) [.int v0, .int v1] h (fun r h2 => r = some (.int res) ∧ h2 = h) := by
  refine mEx.of (by decide +kernel) rfl (Nat.le_of_ble_eq_true rfl) ?_
  refine g_X8_inSet v0 v1 h e ?_
  exact ⟨rfl, rfl⟩
-- X7_isMinus
def kX7_isMinus : mK := (cX7_isMinus, RX7, 3, some (.boolean), "isMinus", mRoom 2 0 0)
def zX7_isMinus : mY := (yX7_isMinus, cX7_isMinus, 3, some (.boolean))
set_option maxRecDepth 100000 in
theorem sf_RX7_9 : mFld RX7 9 6 1 := ⟨by decide, by decide, Or.inl (mT_at 117 (by decide +kernel) rfl)⟩
set_option maxRecDepth 100000 in
theorem sc_RX7_45 : mSS RX7 45 zX8_inSet 2 := ⟨Or.inr ⟨_, mNest_at 323 (x := Cond.methodLinkNest RX7 45 yX8_inSet "SignTables") (by decide +kernel) rfl⟩, mT_at 370 (by decide +kernel) rfl, mT_at 83 (by decide +kernel) rfl, mT_at 371 (by decide +kernel) rfl, ⟨by decide +kernel, by decide +kernel, by decide +kernel⟩⟩
def f_X7_isMinus (v0 : Option Nat) (v1 : Int32) (v2 : Int32) (h : mH) : Option (Int32) :=
  (mIs h v0 6).bind fun _ =>
  (mGR h v0 6 1).bind fun x1 =>
  (mAI h x1 v1).bind fun x2 =>
  (f_X8_inSet x2 v2).bind fun x3 =>
  if x3 = 0 ∨ x3 = 1 then some x3 else none
set_option maxRecDepth 100000 in
set_option maxHeartbeats 4000000 in
theorem g_X7_isMinus {w : mWp} {Q : Option Value → mH → Prop} (v0 : Option Nat) (v1 : Int32) (v2 : Int32) (h : mH) {res : Int32} (e : f_X7_isMinus v0 v1 v2 h = some res) (q : (fun r : Int32 => Q (some (.int r)) h) res) : mGo w kX7_isMinus 0 0 0 [some (va_rf v0), some (.int v1), some (.int v2)] [] h Q := by
  unfold f_X7_isMinus at e
  obtain ⟨_, _, e⟩ := mBind e
  refine mGo.aload_n (n := 1) (r := v0) dX7_isMinus_0 rfl rfl ?_
  obtain ⟨x1, e_x1, e⟩ := mBind e
  refine mGo.getR (n := 4) dX7_isMinus_1 sf_RX7_9 e_x1 rfl ?_
  refine mGo.iload_n (n := 5) (x := v1) dX7_isMinus_4 rfl rfl ?_
  obtain ⟨x2, e_x2, e⟩ := mBind e
  refine mGo.iald (n := 6) dX7_isMinus_5 e_x2 rfl ?_
  refine mGo.iload_n (n := 7) (x := v2) dX7_isMinus_6 rfl rfl ?_
  obtain ⟨x3, e_x3, e⟩ := mBind e
  refine mGo.callS (n := 10) (y := zX8_inSet) (R' := (mRoom (1) 0 0)) (as := [.int x2, .int v2]) (st := []) dX7_isMinus_7 sc_RX7_45 rfl (e_X8_inSet x2 v2 h e_x3) (mFit_of rfl (Nat.le_of_ble_eq_true rfl) (by decide) (Nat.le_of_ble_eq_true rfl) (Nat.le_of_ble_eq_true rfl)) (Nat.le_of_ble_eq_true rfl) rfl rfl ?_
  intro _ _ hq
  rw [hq.1, hq.2]
  show mGo w kX7_isMinus 0 0 10 [some (va_rf v0), some (.int v1), some (.int v2)] [.int x3] h Q
  obtain ⟨hz, e⟩ := mIfP e
  cases e
  exact mGo.zret dX7_isMinus_10 rfl hz (Nat.le_of_ble_eq_true rfl) (Nat.le_of_ble_eq_true rfl) q
theorem e_X7_isMinus {w : mWp} (v0 : Option Nat) (v1 : Int32) (v2 : Int32) (h : mH) {res : Int32} (e : f_X7_isMinus v0 v1 v2 h = some res) : mEx w zX7_isMinus (mRoom 2 0 0) [va_rf v0, .int v1, .int v2] h (fun r h2 => r = some (.int res) ∧ h2 = h) := by
  refine mEx.of (by decide +kernel) (show mEnt [va_rf v0, .int v1, .int v2] 3 = [some (va_rf v0), some (.int v1), some (.int v2)] by rw [mEnt_r, mEnt_i, mEnt_i] <;> rfl) (by simp only [List.map_cons, List.map_nil, mRfc, mCi, mCj, List.sum_cons, List.sum_nil]; exact Nat.le_of_ble_eq_true rfl) ?_
  refine g_X7_isMinus v0 v1 v2 h e ?_
  exact ⟨rfl, rfl⟩
theorem s_X7_isMinus (v0 : Option Nat) (v1 : Int32) (v2 : Int32) (h : mH) {res : Int32} (e : f_X7_isMinus v0 v1 v2 h = some res) : mIs h v0 6 = some () := by
  unfold f_X7_isMinus at e
  obtain ⟨u, e1, _⟩ := mBind e
  cases u
  exact e1
-- X1_value
def kX1_value : mK := (cX1_value, RX1, 8, some (.long), "value", mRoom 3 0 0)
def zX1_value : mY := (yX1_value, cX1_value, 8, some (.long))
set_option maxRecDepth 100000 in
theorem sf_RX1_15 : mFld RX1 15 6 0 := ⟨by decide, by decide, Or.inr ⟨_, mNest_at 30 (x := Cond.fieldLinkNest RX1 15 (mCR 6) (mCT 6 0).2.1 (mCT 6 0).2.2.1 "SignTables") (by decide +kernel) rfl⟩⟩
set_option maxRecDepth 100000 in
theorem sc_RX1_21 : mSV RX1 21 zX7_isMinus 2 6 := ⟨Or.inr ⟨_, mNest_at 548 (x := Cond.methodLinkNest RX1 21 yX7_isMinus "SignTables") (by decide +kernel) rfl⟩, mT_at 403 (by decide +kernel) rfl, mT_at 8 (by decide +kernel) rfl, mT_at 84 (by decide +kernel) rfl, mT_at 404 (by decide +kernel) rfl, ⟨by decide +kernel, by decide +kernel, by decide +kernel⟩, by decide, rfl⟩
set_option maxRecDepth 100000 in
theorem sc_RX1_27 : mSV RX1 27 zX1_pivotRow 2 1 := ⟨Or.inl (mT_at 632 (by decide +kernel) rfl), mT_at 634 (by decide +kernel) rfl, mT_at 26 (by decide +kernel) rfl, mT_at 89 (by decide +kernel) rfl, mT_at 635 (by decide +kernel) rfl, ⟨by decide +kernel, by decide +kernel, by decide +kernel⟩, by decide, rfl⟩
set_option maxRecDepth 100000 in
theorem sc_RX1_31 : mSV RX1 31 zX1_exchangeCells 3 1 := ⟨Or.inl (mT_at 636 (by decide +kernel) rfl), mT_at 638 (by decide +kernel) rfl, mT_at 27 (by decide +kernel) rfl, mT_at 89 (by decide +kernel) rfl, mT_at 639 (by decide +kernel) rfl, ⟨by decide +kernel, by decide +kernel, by decide +kernel⟩, by decide, rfl⟩
set_option maxRecDepth 100000 in
theorem sc_RX1_35 : mSV RX1 35 zX1_clearBelow 3 1 := ⟨Or.inl (mT_at 640 (by decide +kernel) rfl), mT_at 642 (by decide +kernel) rfl, mT_at 28 (by decide +kernel) rfl, mT_at 89 (by decide +kernel) rfl, mT_at 643 (by decide +kernel) rfl, ⟨by decide +kernel, by decide +kernel, by decide +kernel⟩, by decide, rfl⟩
noncomputable def f_X1_value_c139 (v0 : Option Nat) (v2 : Int32) (v3 : Int64) (v5 : Int32) (v6 : Int32) (h : mH) : Option ((Int64 × Int32 × Int32 × mH) ⊕ (Int64 × mH)) :=
  (f_X1_clearBelow v0 v2 v6 v3 h).bind fun x1 =>
  (mGR x1 v0 1 0).bind fun x2 =>
  (mAL x1 x2 ((v6 * v2) + v6)).bind fun x3 =>
  some (Sum.inl (x3, v5, (v6 + 1), x1))
set_option maxRecDepth 100000 in
set_option maxHeartbeats 4000000 in
theorem g_X1_value_c139 {w : mWp} {Q : Option Value → mH → Prop} (v0 : Option Nat) (v2 : Int32) (v3 : Int64) (v5 : Int32) (v6 : Int32) (h : mH) {res : (Int64 × Int32 × Int32 × mH) ⊕ (Int64 × mH)} (e : f_X1_value_c139 v0 v2 v3 v5 v6 h = some res) (q : (Sum.elim (fun x : Int64 × Int32 × Int32 × mH => mGo w kX1_value 0 0 82 [some (va_rf v0), none, some (.int v2), some (.long x.1), none, some (.int x.2.1), some (.int x.2.2.1), none] [] x.2.2.2 Q) (fun r : Int64 × mH => Q (some (.long r.1)) r.2)) res) : mGo w kX1_value 0 0 139 [some (va_rf v0), none, some (.int v2), some (.long v3), none, some (.int v5), some (.int v6), none] [] h Q := by
  unfold f_X1_value_c139 at e
  refine mGo.aload_n (n := 140) (r := v0) dX1_value_139 rfl rfl ?_
  refine mGo.iload_n (n := 141) (x := v2) dX1_value_140 rfl rfl ?_
  refine mGo.iload (n := 143) (x := v6) dX1_value_141 rfl rfl ?_
  refine mGo.lload_n (n := 144) (x := v3) dX1_value_143 rfl rfl ?_
  obtain ⟨x1, e_x1, e⟩ := mBind e
  refine mGo.callV (n := 147) (y := zX1_clearBelow) (R' := (mRoom (1) 0 0)) (as := [.int v2, .int v6, .long v3]) (st := []) (r0 := v0) dX1_value_144 sc_RX1_35 rfl (s_X1_clearBelow v0 v2 v6 v3 h e_x1) (e_X1_clearBelow v0 v2 v6 v3 h e_x1) (mFit_of rfl (Nat.le_of_ble_eq_true rfl) (by decide) (Nat.le_of_ble_eq_true rfl) (Nat.le_of_ble_eq_true rfl)) (Nat.le_of_ble_eq_true rfl) rfl rfl ?_
  intro _ _ hq
  rw [hq.1, hq.2]
  show mGo w kX1_value 0 0 147 [some (va_rf v0), none, some (.int v2), some (.long v3), none, some (.int v5), some (.int v6), none] [] x1 Q
  refine mGo.aload_n (n := 148) (r := v0) dX1_value_147 rfl rfl ?_
  obtain ⟨x2, e_x2, e⟩ := mBind e
  refine mGo.getR (n := 151) dX1_value_148 sf_RX1_9 e_x2 rfl ?_
  refine mGo.iload (n := 153) (x := v6) dX1_value_151 rfl rfl ?_
  refine mGo.iload_n (n := 154) (x := v2) dX1_value_153 rfl rfl ?_
  refine mGo.imul (n := 155) dX1_value_154 rfl ?_
  refine mGo.iload (n := 157) (x := v6) dX1_value_155 rfl rfl ?_
  refine mGo.iadd (n := 158) dX1_value_157 rfl ?_
  obtain ⟨x3, e_x3, e⟩ := mBind e
  refine mGo.lald (n := 159) dX1_value_158 e_x3 rfl ?_
  refine mGo.lstore_n (n := 160) (ls' := [some (va_rf v0), none, some (.int v2), some (.long x3), none, some (.int v5), some (.int v6), none]) dX1_value_159 rfl (Nat.le_of_ble_eq_true rfl) rfl ?_
  refine mGo.iinc (n := 163) (x := v6) (v := (v6 + 1)) (ls' := [some (va_rf v0), none, some (.int v2), some (.long x3), none, some (.int v5), some (.int (v6 + 1)), none]) dX1_value_160 rfl rfl rfl (Nat.le_of_ble_eq_true rfl) rfl ?_
  refine mGo.goto (tgt := 82) dX1_value_163 (by decide) ?_
  cases e
  refine mGo.mk [true, false, true, true, false, true, true, false] ?_
  exact q
noncomputable def f_X1_value_c137 (v0 : Option Nat) (v2 : Int32) (v3 : Int64) (v6 : Int32) (s0 : Int32) (h : mH) : Option ((Int64 × Int32 × Int32 × mH) ⊕ (Int64 × mH)) :=
  f_X1_value_c139 v0 v2 v3 s0 v6 h
set_option maxRecDepth 100000 in
set_option maxHeartbeats 4000000 in
theorem g_X1_value_c137 {w : mWp} {Q : Option Value → mH → Prop} (v0 : Option Nat) (v2 : Int32) (v3 : Int64) (v6 : Int32) (s0 : Int32) (h : mH) {res : (Int64 × Int32 × Int32 × mH) ⊕ (Int64 × mH)} (e : f_X1_value_c137 v0 v2 v3 v6 s0 h = some res) (q : (Sum.elim (fun x : Int64 × Int32 × Int32 × mH => mGo w kX1_value 0 0 82 [some (va_rf v0), none, some (.int v2), some (.long x.1), none, some (.int x.2.1), some (.int x.2.2.1), none] [] x.2.2.2 Q) (fun r : Int64 × mH => Q (some (.long r.1)) r.2)) res) : mGo w kX1_value 0 0 137 [some (va_rf v0), none, some (.int v2), some (.long v3), none, none, some (.int v6), none] [.int s0] h Q := by
  unfold f_X1_value_c137 at e
  refine mGo.istore (n := 139) (ls' := [some (va_rf v0), none, some (.int v2), some (.long v3), none, some (.int s0), some (.int v6), none]) dX1_value_137 rfl (Nat.le_of_ble_eq_true rfl) rfl ?_
  refine mGo.mk [true, false, true, true, false, true, true, false] ?_
  exact g_X1_value_c139 v0 v2 v3 s0 v6 h e q
noncomputable def f_X1_value_b82 (v0 : Option Nat) (v2 : Int32) (v3 : Int64) (v5 : Int32) (v6 : Int32) (h : mH) : Option ((Int64 × Int32 × Int32 × mH) ⊕ (Int64 × mH)) :=
  if v2 ≤ v6 then
    if v5 = 0 then
      some (Sum.inr (v3, h))
    else
      some (Sum.inr ((-v3), h))
  else
    (f_X1_pivotRow v0 v2 v6 h).bind fun x1 =>
    if x1 = (-1 : Int32) then
      some (Sum.inr ((0 : Int64), h))
    else
      if (lg_cmp v3 (0 : Int64)) = 0 then
        some (Sum.inr ((0 : Int64), h))
      else
        if x1 = v6 then
          f_X1_value_c139 v0 v2 v3 v5 v6 h
        else
          (f_X1_exchangeCells v0 v2 v6 x1 h).bind fun x2 =>
          if v5 = 0 then
            f_X1_value_c137 v0 v2 v3 v6 (1 : Int32) x2
          else
            f_X1_value_c137 v0 v2 v3 v6 (0 : Int32) x2
set_option maxRecDepth 100000 in
set_option maxHeartbeats 4000000 in
theorem g_X1_value_b82 {w : mWp} {Q : Option Value → mH → Prop} (v0 : Option Nat) (v2 : Int32) (v3 : Int64) (v5 : Int32) (v6 : Int32) (h : mH) {res : (Int64 × Int32 × Int32 × mH) ⊕ (Int64 × mH)} (e : f_X1_value_b82 v0 v2 v3 v5 v6 h = some res) (q : (Sum.elim (fun x : Int64 × Int32 × Int32 × mH => mGo w kX1_value 0 0 82 [some (va_rf v0), none, some (.int v2), some (.long x.1), none, some (.int x.2.1), some (.int x.2.2.1), none] [] x.2.2.2 Q) (fun r : Int64 × mH => Q (some (.long r.1)) r.2)) res) : mGo w kX1_value 0 0 82 [some (va_rf v0), none, some (.int v2), some (.long v3), none, some (.int v5), some (.int v6), none] [] h Q := by
  unfold f_X1_value_b82 at e
  refine mGo.iload (n := 84) (x := v6) dX1_value_82 rfl rfl ?_
  refine mGo.iload_n (n := 85) (x := v2) dX1_value_84 rfl rfl ?_
  refine mGo.icmp_ge (tgt := 166) (n := 88) dX1_value_85 (by decide) rfl (fun hc => ?_) (fun hc => ?_)
  · replace e := mIft hc e
    refine mGo.iload (n := 168) (x := v5) dX1_value_166 rfl rfl ?_
    refine mGo.if_eq (tgt := 176) (n := 171) dX1_value_168 (by decide) rfl (fun hc => ?_) (fun hc => ?_)
    · replace e := mIft hc e
      refine mGo.lload_n (n := 177) (x := v3) dX1_value_176 rfl rfl ?_
      cases e
      exact mGo.lret dX1_value_177 rfl (Nat.le_of_ble_eq_true rfl) (Nat.le_of_ble_eq_true rfl) q
    · replace e := mIff hc e
      refine mGo.lload_n (n := 172) (x := v3) dX1_value_171 rfl rfl ?_
      refine mGo.lneg (n := 173) dX1_value_172 rfl ?_
      refine mGo.goto (tgt := 177) dX1_value_173 (by decide) ?_
      cases e
      exact mGo.lret dX1_value_177 rfl (Nat.le_of_ble_eq_true rfl) (Nat.le_of_ble_eq_true rfl) q
  · replace e := mIff hc e
    refine mGo.aload_n (n := 89) (r := v0) dX1_value_88 rfl rfl ?_
    refine mGo.iload_n (n := 90) (x := v2) dX1_value_89 rfl rfl ?_
    refine mGo.iload (n := 92) (x := v6) dX1_value_90 rfl rfl ?_
    obtain ⟨x1, e_x1, e⟩ := mBind e
    refine mGo.callV (n := 95) (y := zX1_pivotRow) (R' := (mRoom (1) 0 0)) (as := [.int v2, .int v6]) (st := []) (r0 := v0) dX1_value_92 sc_RX1_27 rfl (s_X1_pivotRow v0 v2 v6 h e_x1) (e_X1_pivotRow v0 v2 v6 h e_x1) (mFit_of rfl (Nat.le_of_ble_eq_true rfl) (by decide) (Nat.le_of_ble_eq_true rfl) (Nat.le_of_ble_eq_true rfl)) (Nat.le_of_ble_eq_true rfl) rfl rfl ?_
    intro _ _ hq
    rw [hq.1, hq.2]
    show mGo w kX1_value 0 0 95 [some (va_rf v0), none, some (.int v2), some (.long v3), none, some (.int v5), some (.int v6), none] [.int x1] h Q
    refine mGo.istore (n := 97) (ls' := [some (va_rf v0), none, some (.int v2), some (.long v3), none, some (.int v5), some (.int v6), some (.int x1)]) dX1_value_95 rfl (Nat.le_of_ble_eq_true rfl) rfl ?_
    refine mGo.iload (n := 99) (x := x1) dX1_value_97 rfl rfl ?_
    refine mGo.iconst (n := 100) (v := (-1 : Int32)) dX1_value_99 (by decide) rfl ?_
    refine mGo.icmp_eq (tgt := 109) (n := 103) dX1_value_100 (by decide) rfl (fun hc => ?_) (fun hc => ?_)
    · replace e := mIft hc e
      refine mGo.lconst (n := 110) (v := (0 : Int64)) dX1_value_109 (by decide) rfl ?_
      cases e
      exact mGo.lret dX1_value_110 rfl (Nat.le_of_ble_eq_true rfl) (Nat.le_of_ble_eq_true rfl) q
    · replace e := mIff hc e
      refine mGo.lload_n (n := 104) (x := v3) dX1_value_103 rfl rfl ?_
      refine mGo.lconst (n := 105) (v := (0 : Int64)) dX1_value_104 (by decide) rfl ?_
      refine mGo.lcmp (n := 106) dX1_value_105 rfl ?_
      refine mGo.if_ne (tgt := 111) (n := 109) dX1_value_106 (by decide) rfl (fun hc => ?_) (fun hc => ?_)
      · replace e := mIff hc e
        refine mGo.iload (n := 113) (x := x1) dX1_value_111 rfl rfl ?_
        refine mGo.iload (n := 115) (x := v6) dX1_value_113 rfl rfl ?_
        refine mGo.icmp_eq (tgt := 139) (n := 118) dX1_value_115 (by decide) rfl (fun hc => ?_) (fun hc => ?_)
        · replace e := mIft hc e
          refine mGo.mk [true, false, true, true, false, true, true, false] ?_
          exact g_X1_value_c139 v0 v2 v3 v5 v6 h e q
        · replace e := mIff hc e
          refine mGo.aload_n (n := 119) (r := v0) dX1_value_118 rfl rfl ?_
          refine mGo.iload_n (n := 120) (x := v2) dX1_value_119 rfl rfl ?_
          refine mGo.iload (n := 122) (x := v6) dX1_value_120 rfl rfl ?_
          refine mGo.iload (n := 124) (x := x1) dX1_value_122 rfl rfl ?_
          obtain ⟨x2, e_x2, e⟩ := mBind e
          refine mGo.callV (n := 127) (y := zX1_exchangeCells) (R' := (mRoom (1) 0 0)) (as := [.int v2, .int v6, .int x1]) (st := []) (r0 := v0) dX1_value_124 sc_RX1_31 rfl (s_X1_exchangeCells v0 v2 v6 x1 h e_x2) (e_X1_exchangeCells v0 v2 v6 x1 h e_x2) (mFit_of rfl (Nat.le_of_ble_eq_true rfl) (by decide) (Nat.le_of_ble_eq_true rfl) (Nat.le_of_ble_eq_true rfl)) (Nat.le_of_ble_eq_true rfl) rfl rfl ?_
          intro _ _ hq
          rw [hq.1, hq.2]
          show mGo w kX1_value 0 0 127 [some (va_rf v0), none, some (.int v2), some (.long v3), none, some (.int v5), some (.int v6), some (.int x1)] [] x2 Q
          refine mGo.iload (n := 129) (x := v5) dX1_value_127 rfl rfl ?_
          refine mGo.if_ne (tgt := 136) (n := 132) dX1_value_129 (by decide) rfl (fun hc => ?_) (fun hc => ?_)
          · replace e := mIff hc e
            refine mGo.iconst (n := 137) (v := (0 : Int32)) dX1_value_136 (by decide) rfl ?_
            refine mGo.mk [true, false, true, true, false, false, true, false] ?_
            exact g_X1_value_c137 v0 v2 v3 v6 (0 : Int32) x2 e q
          · replace e := mIft hc e
            refine mGo.iconst (n := 133) (v := (1 : Int32)) dX1_value_132 (by decide) rfl ?_
            refine mGo.goto (tgt := 137) dX1_value_133 (by decide) ?_
            refine mGo.mk [true, false, true, true, false, false, true, false] ?_
            exact g_X1_value_c137 v0 v2 v3 v6 (1 : Int32) x2 e q
      · replace e := mIft hc e
        refine mGo.lconst (n := 110) (v := (0 : Int64)) dX1_value_109 (by decide) rfl ?_
        cases e
        exact mGo.lret dX1_value_110 rfl (Nat.le_of_ble_eq_true rfl) (Nat.le_of_ble_eq_true rfl) q
noncomputable def f_X1_value_l82 (v0 : Option Nat) (v2 : Int32) (v3 : Int64) (v5 : Int32) (v6 : Int32) (h : mH) : Option (Int64 × mH) :=
  mLoop (fun x : Int64 × Int32 × Int32 × mH => f_X1_value_b82 v0 v2 x.1 x.2.1 x.2.2.1 x.2.2.2) (v3, v5, v6, h)
set_option maxRecDepth 100000 in
set_option maxHeartbeats 4000000 in
theorem g_X1_value_l82 {w : mWp} {Q : Option Value → mH → Prop} (v0 : Option Nat) (v2 : Int32) (v3 : Int64) (v5 : Int32) (v6 : Int32) (h : mH) {res : Int64 × mH} (e : f_X1_value_l82 v0 v2 v3 v5 v6 h = some res) (q : (fun r : Int64 × mH => Q (some (.long r.1)) r.2) res) : mGo w kX1_value 0 0 82 [some (va_rf v0), none, some (.int v2), some (.long v3), none, some (.int v5), some (.int v6), none] [] h Q := by
  unfold f_X1_value_l82 at e
  refine mLoop_go (x := (v3, v5, v6, h)) (fun x : Int64 × Int32 × Int32 × mH => mGo w kX1_value 0 0 82 [some (va_rf v0), none, some (.int v2), some (.long x.1), none, some (.int x.2.1), some (.int x.2.2.1), none] [] x.2.2.2 Q) (fun r : Int64 × mH => Q (some (.long r.1)) r.2) ?_ e q
  rintro ⟨v3, v5, v6, h1⟩ res e q
  exact g_X1_value_b82 v0 v2 v3 v5 v6 h1 e q
def f_X1_value_c61 (v0 : Option Nat) (v1 : Option Nat) (v2 : Int32) (v3 : Int32) (v4 : Int32) (s0 : Option Nat) (s1 : Int32) (s2 : Int64) (h : mH) : Option ((Int32 × mH) ⊕ ((Int32 × mH) ⊕ (Int64 × mH))) :=
  (mSL h s0 s1 s2).bind fun h1 =>
  some (Sum.inl ((v4 + 1), h1))
set_option maxRecDepth 100000 in
set_option maxHeartbeats 4000000 in
theorem g_X1_value_c61 {w : mWp} {Q : Option Value → mH → Prop} (v0 : Option Nat) (v1 : Option Nat) (v2 : Int32) (v3 : Int32) (v4 : Int32) (s0 : Option Nat) (s1 : Int32) (s2 : Int64) (h : mH) {res : (Int32 × mH) ⊕ ((Int32 × mH) ⊕ (Int64 × mH))} (e : f_X1_value_c61 v0 v1 v2 v3 v4 s0 s1 s2 h = some res) (q : (Sum.elim (fun x : Int32 × mH => mGo w kX1_value 0 0 28 [some (va_rf v0), some (va_rf v1), some (.int v2), some (.int v3), some (.int x.1), none, none, none] [] x.2 Q) (Sum.elim (fun x : Int32 × mH => mGo w kX1_value 0 0 20 [some (va_rf v0), some (va_rf v1), some (.int v2), some (.int x.1), none, none, none, none] [] x.2 Q) (fun r : Int64 × mH => Q (some (.long r.1)) r.2))) res) : mGo w kX1_value 0 0 61 [some (va_rf v0), some (va_rf v1), some (.int v2), some (.int v3), some (.int v4), none, none, none] [.long s2, .int s1, va_rf s0] h Q := by
  unfold f_X1_value_c61 at e
  obtain ⟨h1, e_h1, e⟩ := mBind e
  refine mGo.last (n := 62) dX1_value_61 e_h1 rfl ?_
  refine mGo.iinc (n := 65) (x := v4) (v := (v4 + 1)) (ls' := [some (va_rf v0), some (va_rf v1), some (.int v2), some (.int v3), some (.int (v4 + 1)), none, none, none]) dX1_value_62 rfl rfl rfl (Nat.le_of_ble_eq_true rfl) rfl ?_
  refine mGo.goto (tgt := 28) dX1_value_65 (by decide) ?_
  cases e
  refine mGo.mk [true, true, true, true, true, false, false, false] ?_
  exact q
def f_X1_value_b28 (v0 : Option Nat) (v1 : Option Nat) (v2 : Int32) (v3 : Int32) (v4 : Int32) (h : mH) : Option ((Int32 × mH) ⊕ ((Int32 × mH) ⊕ (Int64 × mH))) :=
  if v2 ≤ v4 then
    some (Sum.inr (Sum.inl ((v3 + 1), h)))
  else
    (mGR h v0 1 0).bind fun x1 =>
    (f_X7_isMinus v1 v3 v4 h).bind fun x2 =>
    if x2 = 0 then
      f_X1_value_c61 v0 v1 v2 v3 v4 x1 ((v3 * v2) + v4) (1 : Int64) h
    else
      f_X1_value_c61 v0 v1 v2 v3 v4 x1 ((v3 * v2) + v4) (-1 : Int64) h
set_option maxRecDepth 100000 in
set_option maxHeartbeats 4000000 in
theorem g_X1_value_b28 {w : mWp} {Q : Option Value → mH → Prop} (v0 : Option Nat) (v1 : Option Nat) (v2 : Int32) (v3 : Int32) (v4 : Int32) (h : mH) {res : (Int32 × mH) ⊕ ((Int32 × mH) ⊕ (Int64 × mH))} (e : f_X1_value_b28 v0 v1 v2 v3 v4 h = some res) (q : (Sum.elim (fun x : Int32 × mH => mGo w kX1_value 0 0 28 [some (va_rf v0), some (va_rf v1), some (.int v2), some (.int v3), some (.int x.1), none, none, none] [] x.2 Q) (Sum.elim (fun x : Int32 × mH => mGo w kX1_value 0 0 20 [some (va_rf v0), some (va_rf v1), some (.int v2), some (.int x.1), none, none, none, none] [] x.2 Q) (fun r : Int64 × mH => Q (some (.long r.1)) r.2))) res) : mGo w kX1_value 0 0 28 [some (va_rf v0), some (va_rf v1), some (.int v2), some (.int v3), some (.int v4), none, none, none] [] h Q := by
  unfold f_X1_value_b28 at e
  refine mGo.iload (n := 30) (x := v4) dX1_value_28 rfl rfl ?_
  refine mGo.iload_n (n := 31) (x := v2) dX1_value_30 rfl rfl ?_
  refine mGo.icmp_ge (tgt := 68) (n := 34) dX1_value_31 (by decide) rfl (fun hc => ?_) (fun hc => ?_)
  · replace e := mIft hc e
    refine mGo.iinc (n := 71) (x := v3) (v := (v3 + 1)) (ls' := [some (va_rf v0), some (va_rf v1), some (.int v2), some (.int (v3 + 1)), some (.int v4), none, none, none]) dX1_value_68 rfl rfl rfl (Nat.le_of_ble_eq_true rfl) rfl ?_
    refine mGo.goto (tgt := 20) dX1_value_71 (by decide) ?_
    cases e
    refine mGo.mk [true, true, true, true, false, false, false, false] ?_
    exact q
  · replace e := mIff hc e
    refine mGo.aload_n (n := 35) (r := v0) dX1_value_34 rfl rfl ?_
    obtain ⟨x1, e_x1, e⟩ := mBind e
    refine mGo.getR (n := 38) dX1_value_35 sf_RX1_9 e_x1 rfl ?_
    refine mGo.iload_n (n := 39) (x := v3) dX1_value_38 rfl rfl ?_
    refine mGo.iload_n (n := 40) (x := v2) dX1_value_39 rfl rfl ?_
    refine mGo.imul (n := 41) dX1_value_40 rfl ?_
    refine mGo.iload (n := 43) (x := v4) dX1_value_41 rfl rfl ?_
    refine mGo.iadd (n := 44) dX1_value_43 rfl ?_
    refine mGo.aload_n (n := 45) (r := v1) dX1_value_44 rfl rfl ?_
    refine mGo.iload_n (n := 46) (x := v3) dX1_value_45 rfl rfl ?_
    refine mGo.iload (n := 48) (x := v4) dX1_value_46 rfl rfl ?_
    obtain ⟨x2, e_x2, e⟩ := mBind e
    refine mGo.callV (n := 51) (y := zX7_isMinus) (R' := (mRoom (2) 0 0)) (as := [.int v3, .int v4]) (st := [.int ((v3 * v2) + v4), va_rf x1]) (r0 := v1) dX1_value_48 sc_RX1_21 rfl (s_X7_isMinus v1 v3 v4 h e_x2) (e_X7_isMinus v1 v3 v4 h e_x2) (mFit_of rfl (Nat.le_of_ble_eq_true rfl) (by decide) (Nat.le_of_ble_eq_true rfl) (Nat.le_of_ble_eq_true rfl)) (mCat8 (Nat.le_of_ble_eq_true rfl)) rfl rfl ?_
    intro _ _ hq
    rw [hq.1, hq.2]
    show mGo w kX1_value 0 0 51 [some (va_rf v0), some (va_rf v1), some (.int v2), some (.int v3), some (.int v4), none, none, none] [.int x2, .int ((v3 * v2) + v4), va_rf x1] h Q
    refine mGo.if_eq (tgt := 60) (n := 54) dX1_value_51 (by decide) rfl (fun hc => ?_) (fun hc => ?_)
    · replace e := mIft hc e
      refine mGo.lconst (n := 61) (v := (1 : Int64)) dX1_value_60 (by decide) rfl ?_
      refine mGo.mk [true, true, true, true, true, false, false, false] ?_
      exact g_X1_value_c61 v0 v1 v2 v3 v4 x1 ((v3 * v2) + v4) (1 : Int64) h e q
    · replace e := mIff hc e
      refine mGo.ldc2_w (n := 57) (v := (-1 : Int64)) dX1_value_54 (mT_at 631 (by decide +kernel) rfl) rfl ?_
      refine mGo.goto (tgt := 61) dX1_value_57 (by decide) ?_
      refine mGo.mk [true, true, true, true, true, false, false, false] ?_
      exact g_X1_value_c61 v0 v1 v2 v3 v4 x1 ((v3 * v2) + v4) (-1 : Int64) h e q
noncomputable def f_X1_value_l28 (v0 : Option Nat) (v1 : Option Nat) (v2 : Int32) (v3 : Int32) (v4 : Int32) (h : mH) : Option ((Int32 × mH) ⊕ (Int64 × mH)) :=
  mLoop (fun x : Int32 × mH => f_X1_value_b28 v0 v1 v2 v3 x.1 x.2) (v4, h)
set_option maxRecDepth 100000 in
set_option maxHeartbeats 4000000 in
theorem g_X1_value_l28 {w : mWp} {Q : Option Value → mH → Prop} (v0 : Option Nat) (v1 : Option Nat) (v2 : Int32) (v3 : Int32) (v4 : Int32) (h : mH) {res : (Int32 × mH) ⊕ (Int64 × mH)} (e : f_X1_value_l28 v0 v1 v2 v3 v4 h = some res) (q : (Sum.elim (fun x : Int32 × mH => mGo w kX1_value 0 0 20 [some (va_rf v0), some (va_rf v1), some (.int v2), some (.int x.1), none, none, none, none] [] x.2 Q) (fun r : Int64 × mH => Q (some (.long r.1)) r.2)) res) : mGo w kX1_value 0 0 28 [some (va_rf v0), some (va_rf v1), some (.int v2), some (.int v3), some (.int v4), none, none, none] [] h Q := by
  unfold f_X1_value_l28 at e
  refine mLoop_go (x := (v4, h)) (fun x : Int32 × mH => mGo w kX1_value 0 0 28 [some (va_rf v0), some (va_rf v1), some (.int v2), some (.int v3), some (.int x.1), none, none, none] [] x.2 Q) (Sum.elim (fun x : Int32 × mH => mGo w kX1_value 0 0 20 [some (va_rf v0), some (va_rf v1), some (.int v2), some (.int x.1), none, none, none, none] [] x.2 Q) (fun r : Int64 × mH => Q (some (.long r.1)) r.2)) ?_ e q
  rintro ⟨v4, h1⟩ res e q
  exact g_X1_value_b28 v0 v1 v2 v3 v4 h1 e q
noncomputable def f_X1_value_b20 (v0 : Option Nat) (v1 : Option Nat) (v2 : Int32) (v3 : Int32) (h : mH) : Option ((Int32 × mH) ⊕ (Int64 × mH)) :=
  if v2 ≤ v3 then
    (f_X1_value_l82 v0 v2 (1 : Int64) (0 : Int32) (0 : Int32) h).map (fun r => (Sum.inr r))
  else
    f_X1_value_l28 v0 v1 v2 v3 (0 : Int32) h
set_option maxRecDepth 100000 in
set_option maxHeartbeats 4000000 in
theorem g_X1_value_b20 {w : mWp} {Q : Option Value → mH → Prop} (v0 : Option Nat) (v1 : Option Nat) (v2 : Int32) (v3 : Int32) (h : mH) {res : (Int32 × mH) ⊕ (Int64 × mH)} (e : f_X1_value_b20 v0 v1 v2 v3 h = some res) (q : (Sum.elim (fun x : Int32 × mH => mGo w kX1_value 0 0 20 [some (va_rf v0), some (va_rf v1), some (.int v2), some (.int x.1), none, none, none, none] [] x.2 Q) (fun r : Int64 × mH => Q (some (.long r.1)) r.2)) res) : mGo w kX1_value 0 0 20 [some (va_rf v0), some (va_rf v1), some (.int v2), some (.int v3), none, none, none, none] [] h Q := by
  unfold f_X1_value_b20 at e
  refine mGo.iload_n (n := 21) (x := v3) dX1_value_20 rfl rfl ?_
  refine mGo.iload_n (n := 22) (x := v2) dX1_value_21 rfl rfl ?_
  refine mGo.icmp_ge (tgt := 74) (n := 25) dX1_value_22 (by decide) rfl (fun hc => ?_) (fun hc => ?_)
  · replace e := mIft hc e
    refine mGo.lconst (n := 75) (v := (1 : Int64)) dX1_value_74 (by decide) rfl ?_
    refine mGo.lstore_n (n := 76) (ls' := [some (va_rf v0), some (va_rf v1), some (.int v2), some (.long (1 : Int64)), none, none, none, none]) dX1_value_75 rfl (Nat.le_of_ble_eq_true rfl) rfl ?_
    refine mGo.iconst (n := 77) (v := (0 : Int32)) dX1_value_76 (by decide) rfl ?_
    refine mGo.istore (n := 79) (ls' := [some (va_rf v0), some (va_rf v1), some (.int v2), some (.long (1 : Int64)), none, some (.int (0 : Int32)), none, none]) dX1_value_77 rfl (Nat.le_of_ble_eq_true rfl) rfl ?_
    refine mGo.iconst (n := 80) (v := (0 : Int32)) dX1_value_79 (by decide) rfl ?_
    refine mGo.istore (n := 82) (ls' := [some (va_rf v0), some (va_rf v1), some (.int v2), some (.long (1 : Int64)), none, some (.int (0 : Int32)), some (.int (0 : Int32)), none]) dX1_value_80 rfl (Nat.le_of_ble_eq_true rfl) rfl ?_
    obtain ⟨r1, e2, rfl⟩ := mMap e
    refine mGo.mk [true, false, true, true, false, true, true, false] ?_
    exact g_X1_value_l82 v0 v2 (1 : Int64) (0 : Int32) (0 : Int32) h e2 q
  · replace e := mIff hc e
    refine mGo.iconst (n := 26) (v := (0 : Int32)) dX1_value_25 (by decide) rfl ?_
    refine mGo.istore (n := 28) (ls' := [some (va_rf v0), some (va_rf v1), some (.int v2), some (.int v3), some (.int (0 : Int32)), none, none, none]) dX1_value_26 rfl (Nat.le_of_ble_eq_true rfl) rfl ?_
    refine mGo.mk [true, true, true, true, true, false, false, false] ?_
    exact g_X1_value_l28 v0 v1 v2 v3 (0 : Int32) h e q
noncomputable def f_X1_value_l20 (v0 : Option Nat) (v1 : Option Nat) (v2 : Int32) (v3 : Int32) (h : mH) : Option (Int64 × mH) :=
  mLoop (fun x : Int32 × mH => f_X1_value_b20 v0 v1 v2 x.1 x.2) (v3, h)
set_option maxRecDepth 100000 in
set_option maxHeartbeats 4000000 in
theorem g_X1_value_l20 {w : mWp} {Q : Option Value → mH → Prop} (v0 : Option Nat) (v1 : Option Nat) (v2 : Int32) (v3 : Int32) (h : mH) {res : Int64 × mH} (e : f_X1_value_l20 v0 v1 v2 v3 h = some res) (q : (fun r : Int64 × mH => Q (some (.long r.1)) r.2) res) : mGo w kX1_value 0 0 20 [some (va_rf v0), some (va_rf v1), some (.int v2), some (.int v3), none, none, none, none] [] h Q := by
  unfold f_X1_value_l20 at e
  refine mLoop_go (x := (v3, h)) (fun x : Int32 × mH => mGo w kX1_value 0 0 20 [some (va_rf v0), some (va_rf v1), some (.int v2), some (.int x.1), none, none, none, none] [] x.2 Q) (fun r : Int64 × mH => Q (some (.long r.1)) r.2) ?_ e q
  rintro ⟨v3, h1⟩ res e q
  exact g_X1_value_b20 v0 v1 v2 v3 h1 e q
noncomputable def f_X1_value (v0 : Option Nat) (v1 : Option Nat) (h : mH) : Option (Int64 × mH) :=
  (mIs h v0 1).bind fun _ =>
  (mGI h v1 6 0).bind fun x1 =>
  if x1 < (1 : Int32) then
    some ((0 : Int64), h)
  else
    if x1 ≤ (12 : Int32) then
      f_X1_value_l20 v0 v1 x1 (0 : Int32) h
    else
      some ((0 : Int64), h)
set_option maxRecDepth 100000 in
set_option maxHeartbeats 4000000 in
theorem g_X1_value {w : mWp} {Q : Option Value → mH → Prop} (v0 : Option Nat) (v1 : Option Nat) (h : mH) {res : Int64 × mH} (e : f_X1_value v0 v1 h = some res) (q : (fun r : Int64 × mH => Q (some (.long r.1)) r.2) res) : mGo w kX1_value 0 0 0 [some (va_rf v0), some (va_rf v1), none, none, none, none, none, none] [] h Q := by
  unfold f_X1_value at e
  obtain ⟨_, _, e⟩ := mBind e
  refine mGo.aload_n (n := 1) (r := v1) dX1_value_0 rfl rfl ?_
  obtain ⟨x1, e_x1, e⟩ := mBind e
  refine mGo.getI (n := 4) dX1_value_1 sf_RX1_15 e_x1 rfl ?_
  refine mGo.istore_n (n := 5) (ls' := [some (va_rf v0), some (va_rf v1), some (.int x1), none, none, none, none, none]) dX1_value_4 ((mSt_set (fun u _ hu => by cases hu; exact mRfc _)).trans rfl) (Nat.le_of_ble_eq_true rfl) rfl ?_
  refine mGo.iload_n (n := 6) (x := x1) dX1_value_5 rfl rfl ?_
  refine mGo.iconst (n := 7) (v := (1 : Int32)) dX1_value_6 (by decide) rfl ?_
  refine mGo.icmp_lt (tgt := 16) (n := 10) dX1_value_7 (by decide) rfl (fun hc => ?_) (fun hc => ?_)
  · replace e := mIft hc e
    refine mGo.lconst (n := 17) (v := (0 : Int64)) dX1_value_16 (by decide) rfl ?_
    cases e
    exact mGo.lret dX1_value_17 rfl (Nat.le_of_ble_eq_true rfl) (Nat.le_of_ble_eq_true rfl) q
  · replace e := mIff hc e
    refine mGo.iload_n (n := 11) (x := x1) dX1_value_10 rfl rfl ?_
    refine mGo.bipush (n := 13) (v := (12 : Int32)) dX1_value_11 (by decide) rfl ?_
    refine mGo.icmp_le (tgt := 18) (n := 16) dX1_value_13 (by decide) rfl (fun hc => ?_) (fun hc => ?_)
    · replace e := mIft hc e
      refine mGo.iconst (n := 19) (v := (0 : Int32)) dX1_value_18 (by decide) rfl ?_
      refine mGo.istore_n (n := 20) (ls' := [some (va_rf v0), some (va_rf v1), some (.int x1), some (.int (0 : Int32)), none, none, none, none]) dX1_value_19 rfl (Nat.le_of_ble_eq_true rfl) rfl ?_
      refine mGo.mk [true, true, true, true, false, false, false, false] ?_
      exact g_X1_value_l20 v0 v1 x1 (0 : Int32) h e q
    · replace e := mIff hc e
      refine mGo.lconst (n := 17) (v := (0 : Int64)) dX1_value_16 (by decide) rfl ?_
      cases e
      exact mGo.lret dX1_value_17 rfl (Nat.le_of_ble_eq_true rfl) (Nat.le_of_ble_eq_true rfl) q
theorem e_X1_value {w : mWp} (v0 : Option Nat) (v1 : Option Nat) (h : mH) {res : Int64 × mH} (e : f_X1_value v0 v1 h = some res) : mEx w zX1_value (mRoom 3 0 0) [va_rf v0, va_rf v1] h (fun r h2 => r = some (.long res.1) ∧ h2 = res.2) := by
  refine mEx.of (by decide +kernel) (show mEnt [va_rf v0, va_rf v1] 8 = [some (va_rf v0), some (va_rf v1), none, none, none, none, none, none] by rw [mEnt_r, mEnt_r] <;> rfl) (by simp only [List.map_cons, List.map_nil, mRfc, mCi, mCj, List.sum_cons, List.sum_nil]; exact Nat.le_of_ble_eq_true rfl) ?_
  refine g_X1_value v0 v1 h e ?_
  exact ⟨rfl, rfl⟩
theorem s_X1_value (v0 : Option Nat) (v1 : Option Nat) (h : mH) {res : Int64 × mH} (e : f_X1_value v0 v1 h = some res) : mIs h v0 1 = some () := by
  unfold f_X1_value at e
  obtain ⟨u, e1, _⟩ := mBind e
  cases u
  exact e1
-- X2_prime
def kX2_prime : mK := (cX2_prime, RX2, 1, some (.int), "prime", mRoom 1 0 0)
def zX2_prime : mY := (yX2_prime, cX2_prime, 1, some (.int))
def f_X2_prime (v0 : Int32)  : Option (Int32) :=
  if v0 = 3 then
    some v0
  else
  if v0 = 5 then
    some v0
  else
  if v0 = 7 then
    some v0
  else
  if v0 = 9 then
    some (3 : Int32)
  else
  if v0 = 11 then
    some v0
  else
  if v0 = 13 then
    some v0
  else
  if v0 = 17 then
    some v0
  else
  if v0 = 19 then
    some v0
  else
  if v0 = 23 then
    some v0
  else
  if v0 = 25 then
    some (5 : Int32)
  else
  if v0 = 27 then
    some (3 : Int32)
  else
  some (0 : Int32)
set_option maxRecDepth 100000 in
set_option maxHeartbeats 4000000 in
theorem g_X2_prime {w : mWp} {Q : Option Value → mH → Prop} (v0 : Int32) (h : mH) {res : Int32} (e : f_X2_prime v0 = some res) (q : (fun r : Int32 => Q (some (.int r)) h) res) : mGo w kX2_prime 0 0 0 [some (.int v0)] [] h Q := by
  unfold f_X2_prime at e
  refine mGo.iload_n (n := 1) (x := v0) dX2_prime_0 rfl rfl ?_
  by_cases hc1 : v0 = 3
  · replace e := mIft hc1 e
    refine mGo.tcase (v := 3) (tgt := 116) hc1 dX2_prime_1 (by decide) (by decide) (off := 115) (by decide) (by decide) ?_
    refine mGo.iload_n (n := 117) (x := v0) dX2_prime_116 rfl rfl ?_
    cases e
    exact mGo.iret dX2_prime_117 rfl (Nat.le_of_ble_eq_true rfl) (Nat.le_of_ble_eq_true rfl) q
  replace e := mIff hc1 e
  by_cases hc2 : v0 = 5
  · replace e := mIft hc2 e
    refine mGo.tcase (v := 5) (tgt := 116) hc2 dX2_prime_1 (by decide) (by decide) (off := 115) (by decide) (by decide) ?_
    refine mGo.iload_n (n := 117) (x := v0) dX2_prime_116 rfl rfl ?_
    cases e
    exact mGo.iret dX2_prime_117 rfl (Nat.le_of_ble_eq_true rfl) (Nat.le_of_ble_eq_true rfl) q
  replace e := mIff hc2 e
  by_cases hc3 : v0 = 7
  · replace e := mIft hc3 e
    refine mGo.tcase (v := 7) (tgt := 116) hc3 dX2_prime_1 (by decide) (by decide) (off := 115) (by decide) (by decide) ?_
    refine mGo.iload_n (n := 117) (x := v0) dX2_prime_116 rfl rfl ?_
    cases e
    exact mGo.iret dX2_prime_117 rfl (Nat.le_of_ble_eq_true rfl) (Nat.le_of_ble_eq_true rfl) q
  replace e := mIff hc3 e
  by_cases hc4 : v0 = 9
  · replace e := mIft hc4 e
    refine mGo.tcase (v := 9) (tgt := 118) hc4 dX2_prime_1 (by decide) (by decide) (off := 117) (by decide) (by decide) ?_
    refine mGo.iconst (n := 119) (v := (3 : Int32)) dX2_prime_118 (by decide) rfl ?_
    cases e
    exact mGo.iret dX2_prime_119 rfl (Nat.le_of_ble_eq_true rfl) (Nat.le_of_ble_eq_true rfl) q
  replace e := mIff hc4 e
  by_cases hc5 : v0 = 11
  · replace e := mIft hc5 e
    refine mGo.tcase (v := 11) (tgt := 116) hc5 dX2_prime_1 (by decide) (by decide) (off := 115) (by decide) (by decide) ?_
    refine mGo.iload_n (n := 117) (x := v0) dX2_prime_116 rfl rfl ?_
    cases e
    exact mGo.iret dX2_prime_117 rfl (Nat.le_of_ble_eq_true rfl) (Nat.le_of_ble_eq_true rfl) q
  replace e := mIff hc5 e
  by_cases hc6 : v0 = 13
  · replace e := mIft hc6 e
    refine mGo.tcase (v := 13) (tgt := 116) hc6 dX2_prime_1 (by decide) (by decide) (off := 115) (by decide) (by decide) ?_
    refine mGo.iload_n (n := 117) (x := v0) dX2_prime_116 rfl rfl ?_
    cases e
    exact mGo.iret dX2_prime_117 rfl (Nat.le_of_ble_eq_true rfl) (Nat.le_of_ble_eq_true rfl) q
  replace e := mIff hc6 e
  by_cases hc7 : v0 = 17
  · replace e := mIft hc7 e
    refine mGo.tcase (v := 17) (tgt := 116) hc7 dX2_prime_1 (by decide) (by decide) (off := 115) (by decide) (by decide) ?_
    refine mGo.iload_n (n := 117) (x := v0) dX2_prime_116 rfl rfl ?_
    cases e
    exact mGo.iret dX2_prime_117 rfl (Nat.le_of_ble_eq_true rfl) (Nat.le_of_ble_eq_true rfl) q
  replace e := mIff hc7 e
  by_cases hc8 : v0 = 19
  · replace e := mIft hc8 e
    refine mGo.tcase (v := 19) (tgt := 116) hc8 dX2_prime_1 (by decide) (by decide) (off := 115) (by decide) (by decide) ?_
    refine mGo.iload_n (n := 117) (x := v0) dX2_prime_116 rfl rfl ?_
    cases e
    exact mGo.iret dX2_prime_117 rfl (Nat.le_of_ble_eq_true rfl) (Nat.le_of_ble_eq_true rfl) q
  replace e := mIff hc8 e
  by_cases hc9 : v0 = 23
  · replace e := mIft hc9 e
    refine mGo.tcase (v := 23) (tgt := 116) hc9 dX2_prime_1 (by decide) (by decide) (off := 115) (by decide) (by decide) ?_
    refine mGo.iload_n (n := 117) (x := v0) dX2_prime_116 rfl rfl ?_
    cases e
    exact mGo.iret dX2_prime_117 rfl (Nat.le_of_ble_eq_true rfl) (Nat.le_of_ble_eq_true rfl) q
  replace e := mIff hc9 e
  by_cases hc10 : v0 = 25
  · replace e := mIft hc10 e
    refine mGo.tcase (v := 25) (tgt := 120) hc10 dX2_prime_1 (by decide) (by decide) (off := 119) (by decide) (by decide) ?_
    refine mGo.iconst (n := 121) (v := (5 : Int32)) dX2_prime_120 (by decide) rfl ?_
    cases e
    exact mGo.iret dX2_prime_121 rfl (Nat.le_of_ble_eq_true rfl) (Nat.le_of_ble_eq_true rfl) q
  replace e := mIff hc10 e
  by_cases hc11 : v0 = 27
  · replace e := mIft hc11 e
    refine mGo.tcase (v := 27) (tgt := 118) hc11 dX2_prime_1 (by decide) (by decide) (off := 117) (by decide) (by decide) ?_
    refine mGo.iconst (n := 119) (v := (3 : Int32)) dX2_prime_118 (by decide) rfl ?_
    cases e
    exact mGo.iret dX2_prime_119 rfl (Nat.le_of_ble_eq_true rfl) (Nat.le_of_ble_eq_true rfl) q
  replace e := mIff hc11 e
  refine mGo.tdef (tgt := 122) [3, 5, 7, 9, 11, 13, 17, 19, 23, 25, 27] dX2_prime_1 (List.forall_mem_cons.mpr ⟨hc1, (List.forall_mem_cons.mpr ⟨hc2, (List.forall_mem_cons.mpr ⟨hc3, (List.forall_mem_cons.mpr ⟨hc4, (List.forall_mem_cons.mpr ⟨hc5, (List.forall_mem_cons.mpr ⟨hc6, (List.forall_mem_cons.mpr ⟨hc7, (List.forall_mem_cons.mpr ⟨hc8, (List.forall_mem_cons.mpr ⟨hc9, (List.forall_mem_cons.mpr ⟨hc10, (List.forall_mem_cons.mpr ⟨hc11, (fun _ hm => absurd hm List.not_mem_nil)⟩)⟩)⟩)⟩)⟩)⟩)⟩)⟩)⟩)⟩)⟩) (by decide) (by decide +kernel) (by decide) ?_
  refine mGo.iconst (n := 123) (v := (0 : Int32)) dX2_prime_122 (by decide) rfl ?_
  cases e
  exact mGo.iret dX2_prime_123 rfl (Nat.le_of_ble_eq_true rfl) (Nat.le_of_ble_eq_true rfl) q
theorem e_X2_prime {w : mWp} (v0 : Int32) (h : mH) {res : Int32} (e : f_X2_prime v0 = some res) : mEx w zX2_prime (mRoom 1 0 0) [.int v0] h (fun r h2 => r = some (.int res) ∧ h2 = h) := by
  refine mEx.of (by decide +kernel) rfl (Nat.le_of_ble_eq_true rfl) ?_
  refine g_X2_prime v0 h e ?_
  exact ⟨rfl, rfl⟩
-- J9_floorMod_7cf53
def kJ9_floorMod_7cf53 : mK := (cJ9_floorMod_7cf53, RJ9, 3, some (.int), "floorMod", mRoom 1 0 0)
def zJ9_floorMod_7cf53 : mY := (yJ9_floorMod_7cf53, cJ9_floorMod_7cf53, 3, some (.int))
def f_J9_floorMod_7cf53 (v0 : Int32) (v1 : Int32)  : Option (Int32) :=
  if v1 = 0 then none else
  if 0 ≤ (v0 ^^^ v1) then
    some (mRem v0 v1)
  else
    if (mRem v0 v1) = 0 then
      some (mRem v0 v1)
    else
      some ((mRem v0 v1) + v1)
set_option maxRecDepth 100000 in
set_option maxHeartbeats 4000000 in
theorem g_J9_floorMod_7cf53 {w : mWp} {Q : Option Value → mH → Prop} (v0 : Int32) (v1 : Int32) (h : mH) {res : Int32} (e : f_J9_floorMod_7cf53 v0 v1 = some res) (q : (fun r : Int32 => Q (some (.int r)) h) res) : mGo w kJ9_floorMod_7cf53 0 0 0 [some (.int v0), some (.int v1), none] [] h Q := by
  unfold f_J9_floorMod_7cf53 at e
  refine mGo.iload_n (n := 1) (x := v0) dJ9_floorMod_7cf53_0 rfl rfl ?_
  refine mGo.iload_n (n := 2) (x := v1) dJ9_floorMod_7cf53_1 rfl rfl ?_
  obtain ⟨z1, e⟩ := mIfN e
  refine mGo.irem (n := 3) dJ9_floorMod_7cf53_2 z1 rfl ?_
  refine mGo.istore_n (n := 4) (ls' := [some (.int v0), some (.int v1), some (.int (mRem v0 v1))]) dJ9_floorMod_7cf53_3 rfl (Nat.le_of_ble_eq_true rfl) rfl ?_
  refine mGo.iload_n (n := 5) (x := v0) dJ9_floorMod_7cf53_4 rfl rfl ?_
  refine mGo.iload_n (n := 6) (x := v1) dJ9_floorMod_7cf53_5 rfl rfl ?_
  refine mGo.ixor (n := 7) dJ9_floorMod_7cf53_6 rfl ?_
  refine mGo.if_ge (tgt := 18) (n := 10) dJ9_floorMod_7cf53_7 (by decide) rfl (fun hc => ?_) (fun hc => ?_)
  · replace e := mIft hc e
    refine mGo.iload_n (n := 19) (x := (mRem v0 v1)) dJ9_floorMod_7cf53_18 rfl rfl ?_
    cases e
    exact mGo.iret dJ9_floorMod_7cf53_19 rfl (Nat.le_of_ble_eq_true rfl) (Nat.le_of_ble_eq_true rfl) q
  · replace e := mIff hc e
    refine mGo.iload_n (n := 11) (x := (mRem v0 v1)) dJ9_floorMod_7cf53_10 rfl rfl ?_
    refine mGo.if_eq (tgt := 18) (n := 14) dJ9_floorMod_7cf53_11 (by decide) rfl (fun hc => ?_) (fun hc => ?_)
    · replace e := mIft hc e
      refine mGo.iload_n (n := 19) (x := (mRem v0 v1)) dJ9_floorMod_7cf53_18 rfl rfl ?_
      cases e
      exact mGo.iret dJ9_floorMod_7cf53_19 rfl (Nat.le_of_ble_eq_true rfl) (Nat.le_of_ble_eq_true rfl) q
    · replace e := mIff hc e
      refine mGo.iload_n (n := 15) (x := (mRem v0 v1)) dJ9_floorMod_7cf53_14 rfl rfl ?_
      refine mGo.iload_n (n := 16) (x := v1) dJ9_floorMod_7cf53_15 rfl rfl ?_
      refine mGo.iadd (n := 17) dJ9_floorMod_7cf53_16 rfl ?_
      cases e
      exact mGo.iret dJ9_floorMod_7cf53_17 rfl (Nat.le_of_ble_eq_true rfl) (Nat.le_of_ble_eq_true rfl) q
theorem e_J9_floorMod_7cf53 {w : mWp} (v0 : Int32) (v1 : Int32) (h : mH) {res : Int32} (e : f_J9_floorMod_7cf53 v0 v1 = some res) : mEx w zJ9_floorMod_7cf53 (mRoom 1 0 0) [.int v0, .int v1] h (fun r h2 => r = some (.int res) ∧ h2 = h) := by
  refine mEx.of (by decide +kernel) rfl (Nat.le_of_ble_eq_true rfl) ?_
  refine g_J9_floorMod_7cf53 v0 v1 h e ?_
  exact ⟨rfl, rfl⟩
-- X2_element
def kX2_element : mK := (cX2_element, RX2, 4, some (.int), "element", mRoom 2 0 0)
def zX2_element : mY := (yX2_element, cX2_element, 4, some (.int))
set_option maxRecDepth 100000 in
theorem sc_RX2_21 : mSS RX2 21 zJ9_floorMod_7cf53 2 := ⟨Or.inl (mT_at 359 (by decide +kernel) rfl), mT_at 360 (by decide +kernel) rfl, mT_at 94 (by decide +kernel) rfl, mT_at 361 (by decide +kernel) rfl, ⟨by decide +kernel, by decide +kernel, by decide +kernel⟩⟩
def f_X2_element (v0 : Int32) (v1 : Int32) (v2 : Int32) (v3 : Int32)  : Option (Int32) :=
  if 0 < v0 then
    (f_J9_floorMod_7cf53 v1 v0).bind fun x1 =>
    (f_J9_floorMod_7cf53 v2 v0).bind fun x2 =>
    (f_J9_floorMod_7cf53 v3 v0).bind fun x3 =>
    some ((x1 + (v0 * x2)) + ((v0 * v0) * x3))
  else
    some (0 : Int32)
set_option maxRecDepth 100000 in
set_option maxHeartbeats 4000000 in
theorem g_X2_element {w : mWp} {Q : Option Value → mH → Prop} (v0 : Int32) (v1 : Int32) (v2 : Int32) (v3 : Int32) (h : mH) {res : Int32} (e : f_X2_element v0 v1 v2 v3 = some res) (q : (fun r : Int32 => Q (some (.int r)) h) res) : mGo w kX2_element 0 0 0 [some (.int v0), some (.int v1), some (.int v2), some (.int v3)] [] h Q := by
  unfold f_X2_element at e
  refine mGo.iload_n (n := 1) (x := v0) dX2_element_0 rfl rfl ?_
  refine mGo.if_gt (tgt := 6) (n := 4) dX2_element_1 (by decide) rfl (fun hc => ?_) (fun hc => ?_)
  · replace e := mIft hc e
    refine mGo.iload_n (n := 7) (x := v1) dX2_element_6 rfl rfl ?_
    refine mGo.iload_n (n := 8) (x := v0) dX2_element_7 rfl rfl ?_
    obtain ⟨x1, e_x1, e⟩ := mBind e
    refine mGo.callS (n := 11) (y := zJ9_floorMod_7cf53) (R' := (mRoom (1) 0 0)) (as := [.int v1, .int v0]) (st := []) dX2_element_8 sc_RX2_21 rfl (e_J9_floorMod_7cf53 v1 v0 h e_x1) (mFit_of rfl (Nat.le_of_ble_eq_true rfl) (by decide) (Nat.le_of_ble_eq_true rfl) (Nat.le_of_ble_eq_true rfl)) (Nat.le_of_ble_eq_true rfl) rfl rfl ?_
    intro _ _ hq
    rw [hq.1, hq.2]
    show mGo w kX2_element 0 0 11 [some (.int v0), some (.int v1), some (.int v2), some (.int v3)] [.int x1] h Q
    refine mGo.iload_n (n := 12) (x := v0) dX2_element_11 rfl rfl ?_
    refine mGo.iload_n (n := 13) (x := v2) dX2_element_12 rfl rfl ?_
    refine mGo.iload_n (n := 14) (x := v0) dX2_element_13 rfl rfl ?_
    obtain ⟨x2, e_x2, e⟩ := mBind e
    refine mGo.callS (n := 17) (y := zJ9_floorMod_7cf53) (R' := (mRoom (1) 0 0)) (as := [.int v2, .int v0]) (st := [.int v0, .int x1]) dX2_element_14 sc_RX2_21 rfl (e_J9_floorMod_7cf53 v2 v0 h e_x2) (mFit_of rfl (Nat.le_of_ble_eq_true rfl) (by decide) (Nat.le_of_ble_eq_true rfl) (Nat.le_of_ble_eq_true rfl)) (Nat.le_of_ble_eq_true rfl) rfl rfl ?_
    intro _ _ hq
    rw [hq.1, hq.2]
    show mGo w kX2_element 0 0 17 [some (.int v0), some (.int v1), some (.int v2), some (.int v3)] [.int x2, .int v0, .int x1] h Q
    refine mGo.imul (n := 18) dX2_element_17 rfl ?_
    refine mGo.iadd (n := 19) dX2_element_18 rfl ?_
    refine mGo.iload_n (n := 20) (x := v0) dX2_element_19 rfl rfl ?_
    refine mGo.iload_n (n := 21) (x := v0) dX2_element_20 rfl rfl ?_
    refine mGo.imul (n := 22) dX2_element_21 rfl ?_
    refine mGo.iload_n (n := 23) (x := v3) dX2_element_22 rfl rfl ?_
    refine mGo.iload_n (n := 24) (x := v0) dX2_element_23 rfl rfl ?_
    obtain ⟨x3, e_x3, e⟩ := mBind e
    refine mGo.callS (n := 27) (y := zJ9_floorMod_7cf53) (R' := (mRoom (1) 0 0)) (as := [.int v3, .int v0]) (st := [.int (v0 * v0), .int (x1 + (v0 * x2))]) dX2_element_24 sc_RX2_21 rfl (e_J9_floorMod_7cf53 v3 v0 h e_x3) (mFit_of rfl (Nat.le_of_ble_eq_true rfl) (by decide) (Nat.le_of_ble_eq_true rfl) (Nat.le_of_ble_eq_true rfl)) (Nat.le_of_ble_eq_true rfl) rfl rfl ?_
    intro _ _ hq
    rw [hq.1, hq.2]
    show mGo w kX2_element 0 0 27 [some (.int v0), some (.int v1), some (.int v2), some (.int v3)] [.int x3, .int (v0 * v0), .int (x1 + (v0 * x2))] h Q
    refine mGo.imul (n := 28) dX2_element_27 rfl ?_
    refine mGo.iadd (n := 29) dX2_element_28 rfl ?_
    cases e
    exact mGo.iret dX2_element_29 rfl (Nat.le_of_ble_eq_true rfl) (Nat.le_of_ble_eq_true rfl) q
  · replace e := mIff hc e
    refine mGo.iconst (n := 5) (v := (0 : Int32)) dX2_element_4 (by decide) rfl ?_
    cases e
    exact mGo.iret dX2_element_5 rfl (Nat.le_of_ble_eq_true rfl) (Nat.le_of_ble_eq_true rfl) q
theorem e_X2_element {w : mWp} (v0 : Int32) (v1 : Int32) (v2 : Int32) (v3 : Int32) (h : mH) {res : Int32} (e : f_X2_element v0 v1 v2 v3 = some res) : mEx w zX2_element (mRoom 2 0 0) [.int v0, .int v1, .int v2, .int v3] h (fun r h2 => r = some (.int res) ∧ h2 = h) := by
  refine mEx.of (by decide +kernel) rfl (Nat.le_of_ble_eq_true rfl) ?_
  refine g_X2_element v0 v1 v2 v3 h e ?_
  exact ⟨rfl, rfl⟩
-- X2_total
def kX2_total : mK := (cX2_total, RX2, 4, some (.int), "total", mRoom 3 0 0)
def zX2_total : mY := (yX2_total, cX2_total, 4, some (.int))
set_option maxRecDepth 100000 in
theorem sc_RX2_7 : mSS RX2 7 zX2_prime 1 := ⟨Or.inl (mT_at 355 (by decide +kernel) rfl), mT_at 346 (by decide +kernel) rfl, mT_at 93 (by decide +kernel) rfl, mT_at 347 (by decide +kernel) rfl, ⟨by decide +kernel, by decide +kernel, by decide +kernel⟩⟩
set_option maxRecDepth 100000 in
theorem sc_RX2_13 : mSS RX2 13 zX2_element 4 := ⟨Or.inl (mT_at 356 (by decide +kernel) rfl), mT_at 357 (by decide +kernel) rfl, mT_at 93 (by decide +kernel) rfl, mT_at 358 (by decide +kernel) rfl, ⟨by decide +kernel, by decide +kernel, by decide +kernel⟩⟩
def f_X2_total (v0 : Int32) (v1 : Int32) (v2 : Int32)  : Option (Int32) :=
  (f_X2_prime v0).bind fun x1 =>
  if x1 = 0 then
    some (0 : Int32)
  else
    if x1 = 0 then none else
    if x1 = 0 then none else
    if x1 = 0 then none else
    if x1 = 0 then none else
    if x1 = 0 then none else
    if x1 = 0 then none else
    (f_X2_element x1 (v1 + v2) ((v1 / x1) + (v2 / x1)) (((v1 / x1) / x1) + ((v2 / x1) / x1))).bind fun x8 =>
    some x8
set_option maxRecDepth 100000 in
set_option maxHeartbeats 4000000 in
theorem g_X2_total {w : mWp} {Q : Option Value → mH → Prop} (v0 : Int32) (v1 : Int32) (v2 : Int32) (h : mH) {res : Int32} (e : f_X2_total v0 v1 v2 = some res) (q : (fun r : Int32 => Q (some (.int r)) h) res) : mGo w kX2_total 0 0 0 [some (.int v0), some (.int v1), some (.int v2), none] [] h Q := by
  unfold f_X2_total at e
  refine mGo.iload_n (n := 1) (x := v0) dX2_total_0 rfl rfl ?_
  obtain ⟨x1, e_x1, e⟩ := mBind e
  refine mGo.callS (n := 4) (y := zX2_prime) (R' := (mRoom (1) 0 0)) (as := [.int v0]) (st := []) dX2_total_1 sc_RX2_7 rfl (e_X2_prime v0 h e_x1) (mFit_of rfl (Nat.le_of_ble_eq_true rfl) (by decide) (Nat.le_of_ble_eq_true rfl) (Nat.le_of_ble_eq_true rfl)) (Nat.le_of_ble_eq_true rfl) rfl rfl ?_
  intro _ _ hq
  rw [hq.1, hq.2]
  show mGo w kX2_total 0 0 4 [some (.int v0), some (.int v1), some (.int v2), none] [.int x1] h Q
  refine mGo.istore_n (n := 5) (ls' := [some (.int v0), some (.int v1), some (.int v2), some (.int x1)]) dX2_total_4 rfl (Nat.le_of_ble_eq_true rfl) rfl ?_
  refine mGo.iload_n (n := 6) (x := x1) dX2_total_5 rfl rfl ?_
  refine mGo.if_ne (tgt := 11) (n := 9) dX2_total_6 (by decide) rfl (fun hc => ?_) (fun hc => ?_)
  · replace e := mIff hc e
    refine mGo.iload_n (n := 12) (x := x1) dX2_total_11 rfl rfl ?_
    refine mGo.iload_n (n := 13) (x := v1) dX2_total_12 rfl rfl ?_
    refine mGo.iload_n (n := 14) (x := v2) dX2_total_13 rfl rfl ?_
    refine mGo.iadd (n := 15) dX2_total_14 rfl ?_
    refine mGo.iload_n (n := 16) (x := v1) dX2_total_15 rfl rfl ?_
    refine mGo.iload_n (n := 17) (x := x1) dX2_total_16 rfl rfl ?_
    obtain ⟨z2, e⟩ := mIfN e
    refine mGo.idiv (n := 18) dX2_total_17 z2 rfl ?_
    refine mGo.iload_n (n := 19) (x := v2) dX2_total_18 rfl rfl ?_
    refine mGo.iload_n (n := 20) (x := x1) dX2_total_19 rfl rfl ?_
    obtain ⟨z3, e⟩ := mIfN e
    refine mGo.idiv (n := 21) dX2_total_20 z3 rfl ?_
    refine mGo.iadd (n := 22) dX2_total_21 rfl ?_
    refine mGo.iload_n (n := 23) (x := v1) dX2_total_22 rfl rfl ?_
    refine mGo.iload_n (n := 24) (x := x1) dX2_total_23 rfl rfl ?_
    obtain ⟨z4, e⟩ := mIfN e
    refine mGo.idiv (n := 25) dX2_total_24 z4 rfl ?_
    refine mGo.iload_n (n := 26) (x := x1) dX2_total_25 rfl rfl ?_
    obtain ⟨z5, e⟩ := mIfN e
    refine mGo.idiv (n := 27) dX2_total_26 z5 rfl ?_
    refine mGo.iload_n (n := 28) (x := v2) dX2_total_27 rfl rfl ?_
    refine mGo.iload_n (n := 29) (x := x1) dX2_total_28 rfl rfl ?_
    obtain ⟨z6, e⟩ := mIfN e
    refine mGo.idiv (n := 30) dX2_total_29 z6 rfl ?_
    refine mGo.iload_n (n := 31) (x := x1) dX2_total_30 rfl rfl ?_
    obtain ⟨z7, e⟩ := mIfN e
    refine mGo.idiv (n := 32) dX2_total_31 z7 rfl ?_
    refine mGo.iadd (n := 33) dX2_total_32 rfl ?_
    obtain ⟨x8, e_x8, e⟩ := mBind e
    refine mGo.callS (n := 36) (y := zX2_element) (R' := (mRoom (2) 0 0)) (as := [.int x1, .int (v1 + v2), .int ((v1 / x1) + (v2 / x1)), .int (((v1 / x1) / x1) + ((v2 / x1) / x1))]) (st := []) dX2_total_33 sc_RX2_13 rfl (e_X2_element x1 (v1 + v2) ((v1 / x1) + (v2 / x1)) (((v1 / x1) / x1) + ((v2 / x1) / x1)) h e_x8) (mFit_of rfl (Nat.le_of_ble_eq_true rfl) (by decide) (Nat.le_of_ble_eq_true rfl) (Nat.le_of_ble_eq_true rfl)) (Nat.le_of_ble_eq_true rfl) rfl rfl ?_
    intro _ _ hq
    rw [hq.1, hq.2]
    show mGo w kX2_total 0 0 36 [some (.int v0), some (.int v1), some (.int v2), some (.int x1)] [.int x8] h Q
    cases e
    exact mGo.iret dX2_total_36 rfl (Nat.le_of_ble_eq_true rfl) (Nat.le_of_ble_eq_true rfl) q
  · replace e := mIft hc e
    refine mGo.iconst (n := 10) (v := (0 : Int32)) dX2_total_9 (by decide) rfl ?_
    cases e
    exact mGo.iret dX2_total_10 rfl (Nat.le_of_ble_eq_true rfl) (Nat.le_of_ble_eq_true rfl) q
theorem e_X2_total {w : mWp} (v0 : Int32) (v1 : Int32) (v2 : Int32) (h : mH) {res : Int32} (e : f_X2_total v0 v1 v2 = some res) : mEx w zX2_total (mRoom 3 0 0) [.int v0, .int v1, .int v2] h (fun r h2 => r = some (.int res) ∧ h2 = h) := by
  refine mEx.of (by decide +kernel) rfl (Nat.le_of_ble_eq_true rfl) ?_
  refine g_X2_total v0 v1 v2 h e ?_
  exact ⟨rfl, rfl⟩
-- X2_difference
def kX2_difference : mK := (cX2_difference, RX2, 4, some (.int), "difference", mRoom 3 0 0)
def zX2_difference : mY := (yX2_difference, cX2_difference, 4, some (.int))
def f_X2_difference (v0 : Int32) (v1 : Int32) (v2 : Int32)  : Option (Int32) :=
  (f_X2_prime v0).bind fun x1 =>
  if x1 = 0 then
    some (0 : Int32)
  else
    if x1 = 0 then none else
    if x1 = 0 then none else
    if x1 = 0 then none else
    if x1 = 0 then none else
    if x1 = 0 then none else
    if x1 = 0 then none else
    (f_X2_element x1 (v1 - v2) ((v1 / x1) - (v2 / x1)) (((v1 / x1) / x1) - ((v2 / x1) / x1))).bind fun x8 =>
    some x8
set_option maxRecDepth 100000 in
set_option maxHeartbeats 4000000 in
theorem g_X2_difference {w : mWp} {Q : Option Value → mH → Prop} (v0 : Int32) (v1 : Int32) (v2 : Int32) (h : mH) {res : Int32} (e : f_X2_difference v0 v1 v2 = some res) (q : (fun r : Int32 => Q (some (.int r)) h) res) : mGo w kX2_difference 0 0 0 [some (.int v0), some (.int v1), some (.int v2), none] [] h Q := by
  unfold f_X2_difference at e
  refine mGo.iload_n (n := 1) (x := v0) dX2_difference_0 rfl rfl ?_
  obtain ⟨x1, e_x1, e⟩ := mBind e
  refine mGo.callS (n := 4) (y := zX2_prime) (R' := (mRoom (1) 0 0)) (as := [.int v0]) (st := []) dX2_difference_1 sc_RX2_7 rfl (e_X2_prime v0 h e_x1) (mFit_of rfl (Nat.le_of_ble_eq_true rfl) (by decide) (Nat.le_of_ble_eq_true rfl) (Nat.le_of_ble_eq_true rfl)) (Nat.le_of_ble_eq_true rfl) rfl rfl ?_
  intro _ _ hq
  rw [hq.1, hq.2]
  show mGo w kX2_difference 0 0 4 [some (.int v0), some (.int v1), some (.int v2), none] [.int x1] h Q
  refine mGo.istore_n (n := 5) (ls' := [some (.int v0), some (.int v1), some (.int v2), some (.int x1)]) dX2_difference_4 rfl (Nat.le_of_ble_eq_true rfl) rfl ?_
  refine mGo.iload_n (n := 6) (x := x1) dX2_difference_5 rfl rfl ?_
  refine mGo.if_ne (tgt := 11) (n := 9) dX2_difference_6 (by decide) rfl (fun hc => ?_) (fun hc => ?_)
  · replace e := mIff hc e
    refine mGo.iload_n (n := 12) (x := x1) dX2_difference_11 rfl rfl ?_
    refine mGo.iload_n (n := 13) (x := v1) dX2_difference_12 rfl rfl ?_
    refine mGo.iload_n (n := 14) (x := v2) dX2_difference_13 rfl rfl ?_
    refine mGo.isub (n := 15) dX2_difference_14 rfl ?_
    refine mGo.iload_n (n := 16) (x := v1) dX2_difference_15 rfl rfl ?_
    refine mGo.iload_n (n := 17) (x := x1) dX2_difference_16 rfl rfl ?_
    obtain ⟨z2, e⟩ := mIfN e
    refine mGo.idiv (n := 18) dX2_difference_17 z2 rfl ?_
    refine mGo.iload_n (n := 19) (x := v2) dX2_difference_18 rfl rfl ?_
    refine mGo.iload_n (n := 20) (x := x1) dX2_difference_19 rfl rfl ?_
    obtain ⟨z3, e⟩ := mIfN e
    refine mGo.idiv (n := 21) dX2_difference_20 z3 rfl ?_
    refine mGo.isub (n := 22) dX2_difference_21 rfl ?_
    refine mGo.iload_n (n := 23) (x := v1) dX2_difference_22 rfl rfl ?_
    refine mGo.iload_n (n := 24) (x := x1) dX2_difference_23 rfl rfl ?_
    obtain ⟨z4, e⟩ := mIfN e
    refine mGo.idiv (n := 25) dX2_difference_24 z4 rfl ?_
    refine mGo.iload_n (n := 26) (x := x1) dX2_difference_25 rfl rfl ?_
    obtain ⟨z5, e⟩ := mIfN e
    refine mGo.idiv (n := 27) dX2_difference_26 z5 rfl ?_
    refine mGo.iload_n (n := 28) (x := v2) dX2_difference_27 rfl rfl ?_
    refine mGo.iload_n (n := 29) (x := x1) dX2_difference_28 rfl rfl ?_
    obtain ⟨z6, e⟩ := mIfN e
    refine mGo.idiv (n := 30) dX2_difference_29 z6 rfl ?_
    refine mGo.iload_n (n := 31) (x := x1) dX2_difference_30 rfl rfl ?_
    obtain ⟨z7, e⟩ := mIfN e
    refine mGo.idiv (n := 32) dX2_difference_31 z7 rfl ?_
    refine mGo.isub (n := 33) dX2_difference_32 rfl ?_
    obtain ⟨x8, e_x8, e⟩ := mBind e
    refine mGo.callS (n := 36) (y := zX2_element) (R' := (mRoom (2) 0 0)) (as := [.int x1, .int (v1 - v2), .int ((v1 / x1) - (v2 / x1)), .int (((v1 / x1) / x1) - ((v2 / x1) / x1))]) (st := []) dX2_difference_33 sc_RX2_13 rfl (e_X2_element x1 (v1 - v2) ((v1 / x1) - (v2 / x1)) (((v1 / x1) / x1) - ((v2 / x1) / x1)) h e_x8) (mFit_of rfl (Nat.le_of_ble_eq_true rfl) (by decide) (Nat.le_of_ble_eq_true rfl) (Nat.le_of_ble_eq_true rfl)) (Nat.le_of_ble_eq_true rfl) rfl rfl ?_
    intro _ _ hq
    rw [hq.1, hq.2]
    show mGo w kX2_difference 0 0 36 [some (.int v0), some (.int v1), some (.int v2), some (.int x1)] [.int x8] h Q
    cases e
    exact mGo.iret dX2_difference_36 rfl (Nat.le_of_ble_eq_true rfl) (Nat.le_of_ble_eq_true rfl) q
  · replace e := mIft hc e
    refine mGo.iconst (n := 10) (v := (0 : Int32)) dX2_difference_9 (by decide) rfl ?_
    cases e
    exact mGo.iret dX2_difference_10 rfl (Nat.le_of_ble_eq_true rfl) (Nat.le_of_ble_eq_true rfl) q
theorem e_X2_difference {w : mWp} (v0 : Int32) (v1 : Int32) (v2 : Int32) (h : mH) {res : Int32} (e : f_X2_difference v0 v1 v2 = some res) : mEx w zX2_difference (mRoom 3 0 0) [.int v0, .int v1, .int v2] h (fun r h2 => r = some (.int res) ∧ h2 = h) := by
  refine mEx.of (by decide +kernel) rfl (Nat.le_of_ble_eq_true rfl) ?_
  refine g_X2_difference v0 v1 v2 h e ?_
  exact ⟨rfl, rfl⟩
-- X2_times
def kX2_times : mK := (cX2_times, RX2, 15, some (.int), "times", mRoom 3 0 0)
def zX2_times : mY := (yX2_times, cX2_times, 15, some (.int))
def f_X2_times (v0 : Int32) (v1 : Int32) (v2 : Int32)  : Option (Int32) :=
  (f_X2_prime v0).bind fun x1 =>
  if x1 = 0 then
    some (0 : Int32)
  else
    if x1 = 0 then none else
    if x1 = 0 then none else
    if x1 = 0 then none else
    if x1 = 0 then none else
    if x1 = 0 then none else
    if x1 = 0 then none else
    if x1 = 0 then none else
    if x1 = 0 then none else
    if x1 = 0 then none else
    if x1 = 0 then none else
    if v0 = (27 : Int32) then
      (f_X2_element x1 (((mRem v1 x1) * (mRem v2 x1)) + (((mRem (v1 / x1) x1) * ((v2 / x1) / x1)) + (((v1 / x1) / x1) * (mRem (v2 / x1) x1)))) (((((mRem v1 x1) * (mRem (v2 / x1) x1)) + ((mRem (v1 / x1) x1) * (mRem v2 x1))) + (((mRem (v1 / x1) x1) * ((v2 / x1) / x1)) + (((v1 / x1) / x1) * (mRem (v2 / x1) x1)))) + (((v1 / x1) / x1) * ((v2 / x1) / x1))) (((((mRem v1 x1) * ((v2 / x1) / x1)) + ((mRem (v1 / x1) x1) * (mRem (v2 / x1) x1))) + (((v1 / x1) / x1) * (mRem v2 x1))) + (((v1 / x1) / x1) * ((v2 / x1) / x1)))).bind fun x12 =>
      some x12
    else
      (f_X2_element x1 (((mRem v1 x1) * (mRem v2 x1)) + ((2 : Int32) * ((((mRem v1 x1) * ((v2 / x1) / x1)) + ((mRem (v1 / x1) x1) * (mRem (v2 / x1) x1))) + (((v1 / x1) / x1) * (mRem v2 x1))))) (((mRem v1 x1) * (mRem (v2 / x1) x1)) + ((mRem (v1 / x1) x1) * (mRem v2 x1))) (0 : Int32)).bind fun x13 =>
      some x13
set_option maxRecDepth 100000 in
set_option maxHeartbeats 4000000 in
theorem g_X2_times {w : mWp} {Q : Option Value → mH → Prop} (v0 : Int32) (v1 : Int32) (v2 : Int32) (h : mH) {res : Int32} (e : f_X2_times v0 v1 v2 = some res) (q : (fun r : Int32 => Q (some (.int r)) h) res) : mGo w kX2_times 0 0 0 [some (.int v0), some (.int v1), some (.int v2), none, none, none, none, none, none, none, none, none, none, none, none] [] h Q := by
  unfold f_X2_times at e
  refine mGo.iload_n (n := 1) (x := v0) dX2_times_0 rfl rfl ?_
  obtain ⟨x1, e_x1, e⟩ := mBind e
  refine mGo.callS (n := 4) (y := zX2_prime) (R' := (mRoom (1) 0 0)) (as := [.int v0]) (st := []) dX2_times_1 sc_RX2_7 rfl (e_X2_prime v0 h e_x1) (mFit_of rfl (Nat.le_of_ble_eq_true rfl) (by decide) (Nat.le_of_ble_eq_true rfl) (Nat.le_of_ble_eq_true rfl)) (Nat.le_of_ble_eq_true rfl) rfl rfl ?_
  intro _ _ hq
  rw [hq.1, hq.2]
  show mGo w kX2_times 0 0 4 [some (.int v0), some (.int v1), some (.int v2), none, none, none, none, none, none, none, none, none, none, none, none] [.int x1] h Q
  refine mGo.istore_n (n := 5) (ls' := [some (.int v0), some (.int v1), some (.int v2), some (.int x1), none, none, none, none, none, none, none, none, none, none, none]) dX2_times_4 rfl (Nat.le_of_ble_eq_true rfl) rfl ?_
  refine mGo.iload_n (n := 6) (x := x1) dX2_times_5 rfl rfl ?_
  refine mGo.if_ne (tgt := 11) (n := 9) dX2_times_6 (by decide) rfl (fun hc => ?_) (fun hc => ?_)
  · replace e := mIff hc e
    refine mGo.iload_n (n := 12) (x := v1) dX2_times_11 rfl rfl ?_
    refine mGo.iload_n (n := 13) (x := x1) dX2_times_12 rfl rfl ?_
    obtain ⟨z2, e⟩ := mIfN e
    refine mGo.irem (n := 14) dX2_times_13 z2 rfl ?_
    refine mGo.istore (n := 16) (ls' := [some (.int v0), some (.int v1), some (.int v2), some (.int x1), some (.int (mRem v1 x1)), none, none, none, none, none, none, none, none, none, none]) dX2_times_14 rfl (Nat.le_of_ble_eq_true rfl) rfl ?_
    refine mGo.iload_n (n := 17) (x := v1) dX2_times_16 rfl rfl ?_
    refine mGo.iload_n (n := 18) (x := x1) dX2_times_17 rfl rfl ?_
    obtain ⟨z3, e⟩ := mIfN e
    refine mGo.idiv (n := 19) dX2_times_18 z3 rfl ?_
    refine mGo.iload_n (n := 20) (x := x1) dX2_times_19 rfl rfl ?_
    obtain ⟨z4, e⟩ := mIfN e
    refine mGo.irem (n := 21) dX2_times_20 z4 rfl ?_
    refine mGo.istore (n := 23) (ls' := [some (.int v0), some (.int v1), some (.int v2), some (.int x1), some (.int (mRem v1 x1)), some (.int (mRem (v1 / x1) x1)), none, none, none, none, none, none, none, none, none]) dX2_times_21 rfl (Nat.le_of_ble_eq_true rfl) rfl ?_
    refine mGo.iload_n (n := 24) (x := v1) dX2_times_23 rfl rfl ?_
    refine mGo.iload_n (n := 25) (x := x1) dX2_times_24 rfl rfl ?_
    obtain ⟨z5, e⟩ := mIfN e
    refine mGo.idiv (n := 26) dX2_times_25 z5 rfl ?_
    refine mGo.iload_n (n := 27) (x := x1) dX2_times_26 rfl rfl ?_
    obtain ⟨z6, e⟩ := mIfN e
    refine mGo.idiv (n := 28) dX2_times_27 z6 rfl ?_
    refine mGo.istore (n := 30) (ls' := [some (.int v0), some (.int v1), some (.int v2), some (.int x1), some (.int (mRem v1 x1)), some (.int (mRem (v1 / x1) x1)), some (.int ((v1 / x1) / x1)), none, none, none, none, none, none, none, none]) dX2_times_28 rfl (Nat.le_of_ble_eq_true rfl) rfl ?_
    refine mGo.iload_n (n := 31) (x := v2) dX2_times_30 rfl rfl ?_
    refine mGo.iload_n (n := 32) (x := x1) dX2_times_31 rfl rfl ?_
    obtain ⟨z7, e⟩ := mIfN e
    refine mGo.irem (n := 33) dX2_times_32 z7 rfl ?_
    refine mGo.istore (n := 35) (ls' := [some (.int v0), some (.int v1), some (.int v2), some (.int x1), some (.int (mRem v1 x1)), some (.int (mRem (v1 / x1) x1)), some (.int ((v1 / x1) / x1)), some (.int (mRem v2 x1)), none, none, none, none, none, none, none]) dX2_times_33 rfl (Nat.le_of_ble_eq_true rfl) rfl ?_
    refine mGo.iload_n (n := 36) (x := v2) dX2_times_35 rfl rfl ?_
    refine mGo.iload_n (n := 37) (x := x1) dX2_times_36 rfl rfl ?_
    obtain ⟨z8, e⟩ := mIfN e
    refine mGo.idiv (n := 38) dX2_times_37 z8 rfl ?_
    refine mGo.iload_n (n := 39) (x := x1) dX2_times_38 rfl rfl ?_
    obtain ⟨z9, e⟩ := mIfN e
    refine mGo.irem (n := 40) dX2_times_39 z9 rfl ?_
    refine mGo.istore (n := 42) (ls' := [some (.int v0), some (.int v1), some (.int v2), some (.int x1), some (.int (mRem v1 x1)), some (.int (mRem (v1 / x1) x1)), some (.int ((v1 / x1) / x1)), some (.int (mRem v2 x1)), some (.int (mRem (v2 / x1) x1)), none, none, none, none, none, none]) dX2_times_40 rfl (Nat.le_of_ble_eq_true rfl) rfl ?_
    refine mGo.iload_n (n := 43) (x := v2) dX2_times_42 rfl rfl ?_
    refine mGo.iload_n (n := 44) (x := x1) dX2_times_43 rfl rfl ?_
    obtain ⟨z10, e⟩ := mIfN e
    refine mGo.idiv (n := 45) dX2_times_44 z10 rfl ?_
    refine mGo.iload_n (n := 46) (x := x1) dX2_times_45 rfl rfl ?_
    obtain ⟨z11, e⟩ := mIfN e
    refine mGo.idiv (n := 47) dX2_times_46 z11 rfl ?_
    refine mGo.istore (n := 49) (ls' := [some (.int v0), some (.int v1), some (.int v2), some (.int x1), some (.int (mRem v1 x1)), some (.int (mRem (v1 / x1) x1)), some (.int ((v1 / x1) / x1)), some (.int (mRem v2 x1)), some (.int (mRem (v2 / x1) x1)), some (.int ((v2 / x1) / x1)), none, none, none, none, none]) dX2_times_47 rfl (Nat.le_of_ble_eq_true rfl) rfl ?_
    refine mGo.iload (n := 51) (x := (mRem v1 x1)) dX2_times_49 rfl rfl ?_
    refine mGo.iload (n := 53) (x := (mRem v2 x1)) dX2_times_51 rfl rfl ?_
    refine mGo.imul (n := 54) dX2_times_53 rfl ?_
    refine mGo.istore (n := 56) (ls' := [some (.int v0), some (.int v1), some (.int v2), some (.int x1), some (.int (mRem v1 x1)), some (.int (mRem (v1 / x1) x1)), some (.int ((v1 / x1) / x1)), some (.int (mRem v2 x1)), some (.int (mRem (v2 / x1) x1)), some (.int ((v2 / x1) / x1)), some (.int ((mRem v1 x1) * (mRem v2 x1))), none, none, none, none]) dX2_times_54 rfl (Nat.le_of_ble_eq_true rfl) rfl ?_
    refine mGo.iload (n := 58) (x := (mRem v1 x1)) dX2_times_56 rfl rfl ?_
    refine mGo.iload (n := 60) (x := (mRem (v2 / x1) x1)) dX2_times_58 rfl rfl ?_
    refine mGo.imul (n := 61) dX2_times_60 rfl ?_
    refine mGo.iload (n := 63) (x := (mRem (v1 / x1) x1)) dX2_times_61 rfl rfl ?_
    refine mGo.iload (n := 65) (x := (mRem v2 x1)) dX2_times_63 rfl rfl ?_
    refine mGo.imul (n := 66) dX2_times_65 rfl ?_
    refine mGo.iadd (n := 67) dX2_times_66 rfl ?_
    refine mGo.istore (n := 69) (ls' := [some (.int v0), some (.int v1), some (.int v2), some (.int x1), some (.int (mRem v1 x1)), some (.int (mRem (v1 / x1) x1)), some (.int ((v1 / x1) / x1)), some (.int (mRem v2 x1)), some (.int (mRem (v2 / x1) x1)), some (.int ((v2 / x1) / x1)), some (.int ((mRem v1 x1) * (mRem v2 x1))), some (.int (((mRem v1 x1) * (mRem (v2 / x1) x1)) + ((mRem (v1 / x1) x1) * (mRem v2 x1)))), none, none, none]) dX2_times_67 rfl (Nat.le_of_ble_eq_true rfl) rfl ?_
    refine mGo.iload (n := 71) (x := (mRem v1 x1)) dX2_times_69 rfl rfl ?_
    refine mGo.iload (n := 73) (x := ((v2 / x1) / x1)) dX2_times_71 rfl rfl ?_
    refine mGo.imul (n := 74) dX2_times_73 rfl ?_
    refine mGo.iload (n := 76) (x := (mRem (v1 / x1) x1)) dX2_times_74 rfl rfl ?_
    refine mGo.iload (n := 78) (x := (mRem (v2 / x1) x1)) dX2_times_76 rfl rfl ?_
    refine mGo.imul (n := 79) dX2_times_78 rfl ?_
    refine mGo.iadd (n := 80) dX2_times_79 rfl ?_
    refine mGo.iload (n := 82) (x := ((v1 / x1) / x1)) dX2_times_80 rfl rfl ?_
    refine mGo.iload (n := 84) (x := (mRem v2 x1)) dX2_times_82 rfl rfl ?_
    refine mGo.imul (n := 85) dX2_times_84 rfl ?_
    refine mGo.iadd (n := 86) dX2_times_85 rfl ?_
    refine mGo.istore (n := 88) (ls' := [some (.int v0), some (.int v1), some (.int v2), some (.int x1), some (.int (mRem v1 x1)), some (.int (mRem (v1 / x1) x1)), some (.int ((v1 / x1) / x1)), some (.int (mRem v2 x1)), some (.int (mRem (v2 / x1) x1)), some (.int ((v2 / x1) / x1)), some (.int ((mRem v1 x1) * (mRem v2 x1))), some (.int (((mRem v1 x1) * (mRem (v2 / x1) x1)) + ((mRem (v1 / x1) x1) * (mRem v2 x1)))), some (.int ((((mRem v1 x1) * ((v2 / x1) / x1)) + ((mRem (v1 / x1) x1) * (mRem (v2 / x1) x1))) + (((v1 / x1) / x1) * (mRem v2 x1)))), none, none]) dX2_times_86 rfl (Nat.le_of_ble_eq_true rfl) rfl ?_
    refine mGo.iload_n (n := 89) (x := v0) dX2_times_88 rfl rfl ?_
    refine mGo.bipush (n := 91) (v := (27 : Int32)) dX2_times_89 (by decide) rfl ?_
    refine mGo.icmp_eq (tgt := 109) (n := 94) dX2_times_91 (by decide) rfl (fun hc => ?_) (fun hc => ?_)
    · replace e := mIft hc e
      refine mGo.iload (n := 111) (x := (mRem (v1 / x1) x1)) dX2_times_109 rfl rfl ?_
      refine mGo.iload (n := 113) (x := ((v2 / x1) / x1)) dX2_times_111 rfl rfl ?_
      refine mGo.imul (n := 114) dX2_times_113 rfl ?_
      refine mGo.iload (n := 116) (x := ((v1 / x1) / x1)) dX2_times_114 rfl rfl ?_
      refine mGo.iload (n := 118) (x := (mRem (v2 / x1) x1)) dX2_times_116 rfl rfl ?_
      refine mGo.imul (n := 119) dX2_times_118 rfl ?_
      refine mGo.iadd (n := 120) dX2_times_119 rfl ?_
      refine mGo.istore (n := 122) (ls' := [some (.int v0), some (.int v1), some (.int v2), some (.int x1), some (.int (mRem v1 x1)), some (.int (mRem (v1 / x1) x1)), some (.int ((v1 / x1) / x1)), some (.int (mRem v2 x1)), some (.int (mRem (v2 / x1) x1)), some (.int ((v2 / x1) / x1)), some (.int ((mRem v1 x1) * (mRem v2 x1))), some (.int (((mRem v1 x1) * (mRem (v2 / x1) x1)) + ((mRem (v1 / x1) x1) * (mRem v2 x1)))), some (.int ((((mRem v1 x1) * ((v2 / x1) / x1)) + ((mRem (v1 / x1) x1) * (mRem (v2 / x1) x1))) + (((v1 / x1) / x1) * (mRem v2 x1)))), some (.int (((mRem (v1 / x1) x1) * ((v2 / x1) / x1)) + (((v1 / x1) / x1) * (mRem (v2 / x1) x1)))), none]) dX2_times_120 rfl (Nat.le_of_ble_eq_true rfl) rfl ?_
      refine mGo.iload (n := 124) (x := ((v1 / x1) / x1)) dX2_times_122 rfl rfl ?_
      refine mGo.iload (n := 126) (x := ((v2 / x1) / x1)) dX2_times_124 rfl rfl ?_
      refine mGo.imul (n := 127) dX2_times_126 rfl ?_
      refine mGo.istore (n := 129) (ls' := [some (.int v0), some (.int v1), some (.int v2), some (.int x1), some (.int (mRem v1 x1)), some (.int (mRem (v1 / x1) x1)), some (.int ((v1 / x1) / x1)), some (.int (mRem v2 x1)), some (.int (mRem (v2 / x1) x1)), some (.int ((v2 / x1) / x1)), some (.int ((mRem v1 x1) * (mRem v2 x1))), some (.int (((mRem v1 x1) * (mRem (v2 / x1) x1)) + ((mRem (v1 / x1) x1) * (mRem v2 x1)))), some (.int ((((mRem v1 x1) * ((v2 / x1) / x1)) + ((mRem (v1 / x1) x1) * (mRem (v2 / x1) x1))) + (((v1 / x1) / x1) * (mRem v2 x1)))), some (.int (((mRem (v1 / x1) x1) * ((v2 / x1) / x1)) + (((v1 / x1) / x1) * (mRem (v2 / x1) x1)))), some (.int (((v1 / x1) / x1) * ((v2 / x1) / x1)))]) dX2_times_127 rfl (Nat.le_of_ble_eq_true rfl) rfl ?_
      refine mGo.iload_n (n := 130) (x := x1) dX2_times_129 rfl rfl ?_
      refine mGo.iload (n := 132) (x := ((mRem v1 x1) * (mRem v2 x1))) dX2_times_130 rfl rfl ?_
      refine mGo.iload (n := 134) (x := (((mRem (v1 / x1) x1) * ((v2 / x1) / x1)) + (((v1 / x1) / x1) * (mRem (v2 / x1) x1)))) dX2_times_132 rfl rfl ?_
      refine mGo.iadd (n := 135) dX2_times_134 rfl ?_
      refine mGo.iload (n := 137) (x := (((mRem v1 x1) * (mRem (v2 / x1) x1)) + ((mRem (v1 / x1) x1) * (mRem v2 x1)))) dX2_times_135 rfl rfl ?_
      refine mGo.iload (n := 139) (x := (((mRem (v1 / x1) x1) * ((v2 / x1) / x1)) + (((v1 / x1) / x1) * (mRem (v2 / x1) x1)))) dX2_times_137 rfl rfl ?_
      refine mGo.iadd (n := 140) dX2_times_139 rfl ?_
      refine mGo.iload (n := 142) (x := (((v1 / x1) / x1) * ((v2 / x1) / x1))) dX2_times_140 rfl rfl ?_
      refine mGo.iadd (n := 143) dX2_times_142 rfl ?_
      refine mGo.iload (n := 145) (x := ((((mRem v1 x1) * ((v2 / x1) / x1)) + ((mRem (v1 / x1) x1) * (mRem (v2 / x1) x1))) + (((v1 / x1) / x1) * (mRem v2 x1)))) dX2_times_143 rfl rfl ?_
      refine mGo.iload (n := 147) (x := (((v1 / x1) / x1) * ((v2 / x1) / x1))) dX2_times_145 rfl rfl ?_
      refine mGo.iadd (n := 148) dX2_times_147 rfl ?_
      obtain ⟨x12, e_x12, e⟩ := mBind e
      refine mGo.callS (n := 151) (y := zX2_element) (R' := (mRoom (2) 0 0)) (as := [.int x1, .int (((mRem v1 x1) * (mRem v2 x1)) + (((mRem (v1 / x1) x1) * ((v2 / x1) / x1)) + (((v1 / x1) / x1) * (mRem (v2 / x1) x1)))), .int (((((mRem v1 x1) * (mRem (v2 / x1) x1)) + ((mRem (v1 / x1) x1) * (mRem v2 x1))) + (((mRem (v1 / x1) x1) * ((v2 / x1) / x1)) + (((v1 / x1) / x1) * (mRem (v2 / x1) x1)))) + (((v1 / x1) / x1) * ((v2 / x1) / x1))), .int (((((mRem v1 x1) * ((v2 / x1) / x1)) + ((mRem (v1 / x1) x1) * (mRem (v2 / x1) x1))) + (((v1 / x1) / x1) * (mRem v2 x1))) + (((v1 / x1) / x1) * ((v2 / x1) / x1)))]) (st := []) dX2_times_148 sc_RX2_13 rfl (e_X2_element x1 (((mRem v1 x1) * (mRem v2 x1)) + (((mRem (v1 / x1) x1) * ((v2 / x1) / x1)) + (((v1 / x1) / x1) * (mRem (v2 / x1) x1)))) (((((mRem v1 x1) * (mRem (v2 / x1) x1)) + ((mRem (v1 / x1) x1) * (mRem v2 x1))) + (((mRem (v1 / x1) x1) * ((v2 / x1) / x1)) + (((v1 / x1) / x1) * (mRem (v2 / x1) x1)))) + (((v1 / x1) / x1) * ((v2 / x1) / x1))) (((((mRem v1 x1) * ((v2 / x1) / x1)) + ((mRem (v1 / x1) x1) * (mRem (v2 / x1) x1))) + (((v1 / x1) / x1) * (mRem v2 x1))) + (((v1 / x1) / x1) * ((v2 / x1) / x1))) h e_x12) (mFit_of rfl (Nat.le_of_ble_eq_true rfl) (by decide) (Nat.le_of_ble_eq_true rfl) (Nat.le_of_ble_eq_true rfl)) (Nat.le_of_ble_eq_true rfl) rfl rfl ?_
      intro _ _ hq
      rw [hq.1, hq.2]
      show mGo w kX2_times 0 0 151 [some (.int v0), some (.int v1), some (.int v2), some (.int x1), some (.int (mRem v1 x1)), some (.int (mRem (v1 / x1) x1)), some (.int ((v1 / x1) / x1)), some (.int (mRem v2 x1)), some (.int (mRem (v2 / x1) x1)), some (.int ((v2 / x1) / x1)), some (.int ((mRem v1 x1) * (mRem v2 x1))), some (.int (((mRem v1 x1) * (mRem (v2 / x1) x1)) + ((mRem (v1 / x1) x1) * (mRem v2 x1)))), some (.int ((((mRem v1 x1) * ((v2 / x1) / x1)) + ((mRem (v1 / x1) x1) * (mRem (v2 / x1) x1))) + (((v1 / x1) / x1) * (mRem v2 x1)))), some (.int (((mRem (v1 / x1) x1) * ((v2 / x1) / x1)) + (((v1 / x1) / x1) * (mRem (v2 / x1) x1)))), some (.int (((v1 / x1) / x1) * ((v2 / x1) / x1)))] [.int x12] h Q
      cases e
      exact mGo.iret dX2_times_151 rfl (Nat.le_of_ble_eq_true rfl) (Nat.le_of_ble_eq_true rfl) q
    · replace e := mIff hc e
      refine mGo.iload_n (n := 95) (x := x1) dX2_times_94 rfl rfl ?_
      refine mGo.iload (n := 97) (x := ((mRem v1 x1) * (mRem v2 x1))) dX2_times_95 rfl rfl ?_
      refine mGo.iconst (n := 98) (v := (2 : Int32)) dX2_times_97 (by decide) rfl ?_
      refine mGo.iload (n := 100) (x := ((((mRem v1 x1) * ((v2 / x1) / x1)) + ((mRem (v1 / x1) x1) * (mRem (v2 / x1) x1))) + (((v1 / x1) / x1) * (mRem v2 x1)))) dX2_times_98 rfl rfl ?_
      refine mGo.imul (n := 101) dX2_times_100 rfl ?_
      refine mGo.iadd (n := 102) dX2_times_101 rfl ?_
      refine mGo.iload (n := 104) (x := (((mRem v1 x1) * (mRem (v2 / x1) x1)) + ((mRem (v1 / x1) x1) * (mRem v2 x1)))) dX2_times_102 rfl rfl ?_
      refine mGo.iconst (n := 105) (v := (0 : Int32)) dX2_times_104 (by decide) rfl ?_
      obtain ⟨x13, e_x13, e⟩ := mBind e
      refine mGo.callS (n := 108) (y := zX2_element) (R' := (mRoom (2) 0 0)) (as := [.int x1, .int (((mRem v1 x1) * (mRem v2 x1)) + ((2 : Int32) * ((((mRem v1 x1) * ((v2 / x1) / x1)) + ((mRem (v1 / x1) x1) * (mRem (v2 / x1) x1))) + (((v1 / x1) / x1) * (mRem v2 x1))))), .int (((mRem v1 x1) * (mRem (v2 / x1) x1)) + ((mRem (v1 / x1) x1) * (mRem v2 x1))), .int (0 : Int32)]) (st := []) dX2_times_105 sc_RX2_13 rfl (e_X2_element x1 (((mRem v1 x1) * (mRem v2 x1)) + ((2 : Int32) * ((((mRem v1 x1) * ((v2 / x1) / x1)) + ((mRem (v1 / x1) x1) * (mRem (v2 / x1) x1))) + (((v1 / x1) / x1) * (mRem v2 x1))))) (((mRem v1 x1) * (mRem (v2 / x1) x1)) + ((mRem (v1 / x1) x1) * (mRem v2 x1))) (0 : Int32) h e_x13) (mFit_of rfl (Nat.le_of_ble_eq_true rfl) (by decide) (Nat.le_of_ble_eq_true rfl) (Nat.le_of_ble_eq_true rfl)) (Nat.le_of_ble_eq_true rfl) rfl rfl ?_
      intro _ _ hq
      rw [hq.1, hq.2]
      show mGo w kX2_times 0 0 108 [some (.int v0), some (.int v1), some (.int v2), some (.int x1), some (.int (mRem v1 x1)), some (.int (mRem (v1 / x1) x1)), some (.int ((v1 / x1) / x1)), some (.int (mRem v2 x1)), some (.int (mRem (v2 / x1) x1)), some (.int ((v2 / x1) / x1)), some (.int ((mRem v1 x1) * (mRem v2 x1))), some (.int (((mRem v1 x1) * (mRem (v2 / x1) x1)) + ((mRem (v1 / x1) x1) * (mRem v2 x1)))), some (.int ((((mRem v1 x1) * ((v2 / x1) / x1)) + ((mRem (v1 / x1) x1) * (mRem (v2 / x1) x1))) + (((v1 / x1) / x1) * (mRem v2 x1)))), none, none] [.int x13] h Q
      cases e
      exact mGo.iret dX2_times_108 rfl (Nat.le_of_ble_eq_true rfl) (Nat.le_of_ble_eq_true rfl) q
  · replace e := mIft hc e
    refine mGo.iconst (n := 10) (v := (0 : Int32)) dX2_times_9 (by decide) rfl ?_
    cases e
    exact mGo.iret dX2_times_10 rfl (Nat.le_of_ble_eq_true rfl) (Nat.le_of_ble_eq_true rfl) q
theorem e_X2_times {w : mWp} (v0 : Int32) (v1 : Int32) (v2 : Int32) (h : mH) {res : Int32} (e : f_X2_times v0 v1 v2 = some res) : mEx w zX2_times (mRoom 3 0 0) [.int v0, .int v1, .int v2] h (fun r h2 => r = some (.int res) ∧ h2 = h) := by
  refine mEx.of (by decide +kernel) rfl (Nat.le_of_ble_eq_true rfl) ?_
  refine g_X2_times v0 v1 v2 h e ?_
  exact ⟨rfl, rfl⟩
