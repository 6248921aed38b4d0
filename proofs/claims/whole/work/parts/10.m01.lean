-- X2_squares
def kX2_squares : mK := (cX2_squares, RX2, 3, some (.int), "squares", mRoom 4 0 0)
def zX2_squares : mY := (yX2_squares, cX2_squares, 3, some (.int))
set_option maxRecDepth 100000 in
theorem sc_RX2_17 : mSS RX2 17 zX2_times 3 := ⟨Or.inl (mT_at 352 (by decide +kernel) rfl), mT_at 353 (by decide +kernel) rfl, mT_at 93 (by decide +kernel) rfl, mT_at 354 (by decide +kernel) rfl, ⟨by decide +kernel, by decide +kernel, by decide +kernel⟩⟩
def f_X2_squares_b4 (v0 : Int32) (v1 : Int32) (v2 : Int32)  : Option ((Int32 × Int32) ⊕ (Int32)) :=
  if v0 ≤ v2 then
    some (Sum.inr v1)
  else
    (f_X2_times v0 v2 v2).bind fun x1 =>
    some (Sum.inl ((v1 ||| ((1 : Int32) <<< (x1 &&& 31))), (v2 + 1)))
set_option maxRecDepth 100000 in
set_option maxHeartbeats 4000000 in
theorem g_X2_squares_b4 {w : mWp} {Q : Option Value → mH → Prop} (v0 : Int32) (v1 : Int32) (v2 : Int32) (h : mH) {res : (Int32 × Int32) ⊕ (Int32)} (e : f_X2_squares_b4 v0 v1 v2 = some res) (q : (Sum.elim (fun x : Int32 × Int32 => mGo w kX2_squares 0 0 4 [some (.int v0), some (.int x.1), some (.int x.2)] [] h Q) (fun r : Int32 => Q (some (.int r)) h)) res) : mGo w kX2_squares 0 0 4 [some (.int v0), some (.int v1), some (.int v2)] [] h Q := by
  unfold f_X2_squares_b4 at e
  refine mGo.iload_n (n := 5) (x := v2) dX2_squares_4 rfl rfl ?_
  refine mGo.iload_n (n := 6) (x := v0) dX2_squares_5 rfl rfl ?_
  refine mGo.icmp_ge (tgt := 26) (n := 9) dX2_squares_6 (by decide) rfl (fun hc => ?_) (fun hc => ?_)
  · replace e := mIft hc e
    refine mGo.iload_n (n := 27) (x := v1) dX2_squares_26 rfl rfl ?_
    cases e
    exact mGo.iret dX2_squares_27 rfl (Nat.le_of_ble_eq_true rfl) (Nat.le_of_ble_eq_true rfl) q
  · replace e := mIff hc e
    refine mGo.iload_n (n := 10) (x := v1) dX2_squares_9 rfl rfl ?_
    refine mGo.iconst (n := 11) (v := (1 : Int32)) dX2_squares_10 (by decide) rfl ?_
    refine mGo.iload_n (n := 12) (x := v0) dX2_squares_11 rfl rfl ?_
    refine mGo.iload_n (n := 13) (x := v2) dX2_squares_12 rfl rfl ?_
    refine mGo.iload_n (n := 14) (x := v2) dX2_squares_13 rfl rfl ?_
    obtain ⟨x1, e_x1, e⟩ := mBind e
    refine mGo.callS (n := 17) (y := zX2_times) (R' := (mRoom (3) 0 0)) (as := [.int v0, .int v2, .int v2]) (st := [.int (1 : Int32), .int v1]) dX2_squares_14 sc_RX2_17 rfl (e_X2_times v0 v2 v2 h e_x1) (mFit_of rfl (Nat.le_of_ble_eq_true rfl) (by decide) (Nat.le_of_ble_eq_true rfl) (Nat.le_of_ble_eq_true rfl)) (Nat.le_of_ble_eq_true rfl) rfl rfl ?_
    intro _ _ hq
    rw [hq.1, hq.2]
    show mGo w kX2_squares 0 0 17 [some (.int v0), some (.int v1), some (.int v2)] [.int x1, .int (1 : Int32), .int v1] h Q
    refine mGo.ishl (n := 18) dX2_squares_17 rfl ?_
    refine mGo.ior (n := 19) dX2_squares_18 rfl ?_
    refine mGo.istore_n (n := 20) (ls' := [some (.int v0), some (.int (v1 ||| ((1 : Int32) <<< (x1 &&& 31)))), some (.int v2)]) dX2_squares_19 rfl (Nat.le_of_ble_eq_true rfl) rfl ?_
    refine mGo.iinc (n := 23) (x := v2) (v := (v2 + 1)) (ls' := [some (.int v0), some (.int (v1 ||| ((1 : Int32) <<< (x1 &&& 31)))), some (.int (v2 + 1))]) dX2_squares_20 rfl rfl rfl (Nat.le_of_ble_eq_true rfl) rfl ?_
    refine mGo.goto (tgt := 4) dX2_squares_23 (by decide) ?_
    cases e
    refine mGo.mk [true, true, true] ?_
    exact q
noncomputable def f_X2_squares_l4 (v0 : Int32) (v1 : Int32) (v2 : Int32)  : Option (Int32) :=
  mLoop (fun x : Int32 × Int32 => f_X2_squares_b4 v0 x.1 x.2) (v1, v2)
set_option maxRecDepth 100000 in
set_option maxHeartbeats 4000000 in
theorem g_X2_squares_l4 {w : mWp} {Q : Option Value → mH → Prop} (v0 : Int32) (v1 : Int32) (v2 : Int32) (h : mH) {res : Int32} (e : f_X2_squares_l4 v0 v1 v2 = some res) (q : (fun r : Int32 => Q (some (.int r)) h) res) : mGo w kX2_squares 0 0 4 [some (.int v0), some (.int v1), some (.int v2)] [] h Q := by
  unfold f_X2_squares_l4 at e
  refine mLoop_go (x := (v1, v2)) (fun x : Int32 × Int32 => mGo w kX2_squares 0 0 4 [some (.int v0), some (.int x.1), some (.int x.2)] [] h Q) (fun r : Int32 => Q (some (.int r)) h) ?_ e q
  rintro ⟨v1, v2⟩ res e q
  exact g_X2_squares_b4 v0 v1 v2 h e q
noncomputable def f_X2_squares (v0 : Int32)  : Option (Int32) :=
  f_X2_squares_l4 v0 (0 : Int32) (1 : Int32)
set_option maxRecDepth 100000 in
set_option maxHeartbeats 4000000 in
theorem g_X2_squares {w : mWp} {Q : Option Value → mH → Prop} (v0 : Int32) (h : mH) {res : Int32} (e : f_X2_squares v0 = some res) (q : (fun r : Int32 => Q (some (.int r)) h) res) : mGo w kX2_squares 0 0 0 [some (.int v0), none, none] [] h Q := by
  unfold f_X2_squares at e
  refine mGo.iconst (n := 1) (v := (0 : Int32)) dX2_squares_0 (by decide) rfl ?_
  refine mGo.istore_n (n := 2) (ls' := [some (.int v0), some (.int (0 : Int32)), none]) dX2_squares_1 rfl (Nat.le_of_ble_eq_true rfl) rfl ?_
  refine mGo.iconst (n := 3) (v := (1 : Int32)) dX2_squares_2 (by decide) rfl ?_
  refine mGo.istore_n (n := 4) (ls' := [some (.int v0), some (.int (0 : Int32)), some (.int (1 : Int32))]) dX2_squares_3 rfl (Nat.le_of_ble_eq_true rfl) rfl ?_
  refine mGo.mk [true, true, true] ?_
  exact g_X2_squares_l4 v0 (0 : Int32) (1 : Int32) h e q
theorem e_X2_squares {w : mWp} (v0 : Int32) (h : mH) {res : Int32} (e : f_X2_squares v0 = some res) : mEx w zX2_squares (mRoom 4 0 0) [.int v0] h (fun r h2 => r = some (.int res) ∧ h2 = h) := by
  refine mEx.of (by decide +kernel) rfl (Nat.le_of_ble_eq_true rfl) ?_
  refine g_X2_squares v0 h e ?_
  exact ⟨rfl, rfl⟩
-- X3_init
def kX3_init : mK := (cX3_init, RX3, 1, none, "<init>", mRoom 2 3 55)
def zX3_init : mY := (yX3_init, cX3_init, 1, none)
set_option maxRecDepth 100000 in
theorem sf_RX3_9 : mFld RX3 9 2 3 := ⟨by decide, by decide, Or.inl (mT_at 211 (by decide +kernel) rfl)⟩
set_option maxRecDepth 100000 in
theorem sf_RX3_15 : mFld RX3 15 2 4 := ⟨by decide, by decide, Or.inl (mT_at 213 (by decide +kernel) rfl)⟩
set_option maxRecDepth 100000 in
theorem sf_RX3_18 : mFld RX3 18 2 5 := ⟨by decide, by decide, Or.inl (mT_at 214 (by decide +kernel) rfl)⟩
def f_X3_init (v0 : Nat) (h : mH) : Option (mH) :=
  (mIs h (some v0) 2).bind fun _ =>
  (some (mNew h (.inl (6, .inl (fun _ => 0))))).bind fun h1 =>
  (mPF h1 (some v0) 2 3 (va_rf (some (h.1 + 1)))).bind fun h2 =>
  (some (mNew h2 (.inl (42, .inl (fun _ => 0))))).bind fun h3 =>
  (mPF h3 (some v0) 2 4 (va_rf (some (h2.1 + 1)))).bind fun h4 =>
  (some (mNew h4 (.inl (7, .inl (fun _ => 0))))).bind fun h5 =>
  (mPF h5 (some v0) 2 5 (va_rf (some (h4.1 + 1)))).bind fun h6 =>
  some h6
set_option maxRecDepth 100000 in
set_option maxHeartbeats 4000000 in
theorem g_X3_init {w : mWp} {Q : Option Value → mH → Prop} (v0 : Nat) (h : mH) {res : mH} (e : f_X3_init v0 h = some res) (q : (fun r : mH => Q none r) res) : mGo w kX3_init 0 0 0 [some (va_rf (some v0))] [] h Q := by
  unfold f_X3_init at e
  obtain ⟨_, _, e⟩ := mBind e
  refine mGo.aload_n (n := 1) (r := (some v0)) dX3_init_0 rfl rfl ?_
  refine mGo.objI (n := 4) dX3_init_1 (mT_at 207 (by decide +kernel) rfl) (mT_at 102 (by decide +kernel) rfl) (mT_at 103 (by decide +kernel) rfl) (Nat.le_of_ble_eq_true rfl) (Nat.le_of_ble_eq_true rfl) rfl ?_
  refine mGo.aload_n (n := 5) (r := (some v0)) dX3_init_4 rfl rfl ?_
  refine mGo.bipush (n := 7) (v := (6 : Int32)) dX3_init_5 (by decide) rfl ?_
  obtain ⟨h1, e_h1, e⟩ := mBind e
  refine mGo.newI' (n := 9) (N := 6) dX3_init_7 (by decide) (by decide) (by decide) (mT_at 152 (by decide +kernel) rfl) (Nat.le_of_ble_eq_true rfl) (Nat.le_of_ble_eq_true rfl) rfl e_h1 ?_
  show mGo w kX3_init 1 6 9 [some (va_rf (some v0))] [va_rf (some (h.1 + 1)), va_rf (some v0)] h1 Q
  obtain ⟨h2, e_h2, e⟩ := mBind e
  refine mGo.putR (n := 12) dX3_init_9 sf_RX3_9 (Or.inr ⟨rfl, rfl, rfl, mT_at 211 (by decide +kernel) rfl⟩) rfl e_h2 rfl ?_
  refine mGo.aload_n (n := 13) (r := (some v0)) dX3_init_12 rfl rfl ?_
  refine mGo.bipush (n := 15) (v := (42 : Int32)) dX3_init_13 (by decide) rfl ?_
  obtain ⟨h3, e_h3, e⟩ := mBind e
  refine mGo.newI' (n := 17) (N := 42) dX3_init_15 (by decide) (by decide) (by decide) (mT_at 152 (by decide +kernel) rfl) (Nat.le_of_ble_eq_true rfl) (Nat.le_of_ble_eq_true rfl) rfl e_h3 ?_
  show mGo w kX3_init 2 48 17 [some (va_rf (some v0))] [va_rf (some (h2.1 + 1)), va_rf (some v0)] h3 Q
  obtain ⟨h4, e_h4, e⟩ := mBind e
  refine mGo.putR (n := 20) dX3_init_17 sf_RX3_15 (Or.inr ⟨rfl, rfl, rfl, mT_at 213 (by decide +kernel) rfl⟩) rfl e_h4 rfl ?_
  refine mGo.aload_n (n := 21) (r := (some v0)) dX3_init_20 rfl rfl ?_
  refine mGo.bipush (n := 23) (v := (7 : Int32)) dX3_init_21 (by decide) rfl ?_
  obtain ⟨h5, e_h5, e⟩ := mBind e
  refine mGo.newI' (n := 25) (N := 7) dX3_init_23 (by decide) (by decide) (by decide) (mT_at 152 (by decide +kernel) rfl) (Nat.le_of_ble_eq_true rfl) (Nat.le_of_ble_eq_true rfl) rfl e_h5 ?_
  show mGo w kX3_init 3 55 25 [some (va_rf (some v0))] [va_rf (some (h4.1 + 1)), va_rf (some v0)] h5 Q
  obtain ⟨h6, e_h6, e⟩ := mBind e
  refine mGo.putR (n := 28) dX3_init_25 sf_RX3_18 (Or.inr ⟨rfl, rfl, rfl, mT_at 214 (by decide +kernel) rfl⟩) rfl e_h6 rfl ?_
  cases e
  exact mGo.vret dX3_init_28 rfl (Nat.le_of_ble_eq_true rfl) (Nat.le_of_ble_eq_true rfl) q
theorem e_X3_init {w : mWp} (v0 : Nat) (h : mH) {res : mH} (e : f_X3_init v0 h = some res) : mEx w zX3_init (mRoom 2 3 55) [va_rf (some v0)] h (fun r h2 => r = none ∧ h2 = res) := by
  refine mEx.of (by decide +kernel) (show mEnt [va_rf (some v0)] 1 = [some (va_rf (some v0))] by rw [mEnt_r] <;> rfl) (by simp only [List.map_cons, List.map_nil, mRfc, mCi, mCj, List.sum_cons, List.sum_nil]; exact Nat.le_of_ble_eq_true rfl) ?_
  refine g_X3_init v0 h e ?_
  exact ⟨rfl, rfl⟩
theorem s_X3_init (v0 : Nat) (h : mH) {res : mH} (e : f_X3_init v0 h = some res) : mIs h (some v0) 2 = some () := by
  unfold f_X3_init at e
  obtain ⟨u, e1, _⟩ := mBind e
  cases u
  exact e1
-- J7_fill_53178
def kJ7_fill_53178 : mK := (cJ7_fill_53178, RJ7, 4, none, "fill", mRoom 1 0 0)
def zJ7_fill_53178 : mY := (yJ7_fill_53178, cJ7_fill_53178, 4, none)
def f_J7_fill_53178_b5 (v0 : Option Nat) (v1 : Int32) (v3 : Int32) (v2 : Int32) (h : mH) : Option ((Int32 × mH) ⊕ (mH)) :=
  if v3 ≤ v2 then
    some (Sum.inr h)
  else
    (mSI h v0 v2 v1).bind fun h1 =>
    some (Sum.inl ((v2 + 1), h1))
set_option maxRecDepth 100000 in
set_option maxHeartbeats 4000000 in
theorem g_J7_fill_53178_b5 {w : mWp} {Q : Option Value → mH → Prop} (v0 : Option Nat) (v1 : Int32) (v3 : Int32) (v2 : Int32) (h : mH) {res : (Int32 × mH) ⊕ (mH)} (e : f_J7_fill_53178_b5 v0 v1 v3 v2 h = some res) (q : (Sum.elim (fun x : Int32 × mH => mGo w kJ7_fill_53178 0 0 5 [some (va_rf v0), some (.int v1), some (.int x.1), some (.int v3)] [] x.2 Q) (fun r : mH => Q none r)) res) : mGo w kJ7_fill_53178 0 0 5 [some (va_rf v0), some (.int v1), some (.int v2), some (.int v3)] [] h Q := by
  unfold f_J7_fill_53178_b5 at e
  refine mGo.iload_n (n := 6) (x := v2) dJ7_fill_53178_5 rfl rfl ?_
  refine mGo.iload_n (n := 7) (x := v3) dJ7_fill_53178_6 rfl rfl ?_
  refine mGo.icmp_ge (tgt := 20) (n := 10) dJ7_fill_53178_7 (by decide) rfl (fun hc => ?_) (fun hc => ?_)
  · replace e := mIft hc e
    cases e
    exact mGo.vret dJ7_fill_53178_20 rfl (Nat.le_of_ble_eq_true rfl) (Nat.le_of_ble_eq_true rfl) q
  · replace e := mIff hc e
    refine mGo.aload_n (n := 11) (r := v0) dJ7_fill_53178_10 rfl rfl ?_
    refine mGo.iload_n (n := 12) (x := v2) dJ7_fill_53178_11 rfl rfl ?_
    refine mGo.iload_n (n := 13) (x := v1) dJ7_fill_53178_12 rfl rfl ?_
    obtain ⟨h1, e_h1, e⟩ := mBind e
    refine mGo.iast (n := 14) dJ7_fill_53178_13 e_h1 rfl ?_
    refine mGo.iinc (n := 17) (x := v2) (v := (v2 + 1)) (ls' := [some (va_rf v0), some (.int v1), some (.int (v2 + 1)), some (.int v3)]) dJ7_fill_53178_14 rfl rfl rfl (Nat.le_of_ble_eq_true rfl) rfl ?_
    refine mGo.goto (tgt := 5) dJ7_fill_53178_17 (by decide) ?_
    cases e
    refine mGo.mk [true, true, true, true] ?_
    exact q
noncomputable def f_J7_fill_53178_l5 (v0 : Option Nat) (v1 : Int32) (v2 : Int32) (v3 : Int32) (h : mH) : Option (mH) :=
  mLoop (fun x : Int32 × mH => f_J7_fill_53178_b5 v0 v1 v3 x.1 x.2) (v2, h)
set_option maxRecDepth 100000 in
set_option maxHeartbeats 4000000 in
theorem g_J7_fill_53178_l5 {w : mWp} {Q : Option Value → mH → Prop} (v0 : Option Nat) (v1 : Int32) (v2 : Int32) (v3 : Int32) (h : mH) {res : mH} (e : f_J7_fill_53178_l5 v0 v1 v2 v3 h = some res) (q : (fun r : mH => Q none r) res) : mGo w kJ7_fill_53178 0 0 5 [some (va_rf v0), some (.int v1), some (.int v2), some (.int v3)] [] h Q := by
  unfold f_J7_fill_53178_l5 at e
  refine mLoop_go (x := (v2, h)) (fun x : Int32 × mH => mGo w kJ7_fill_53178 0 0 5 [some (va_rf v0), some (.int v1), some (.int x.1), some (.int v3)] [] x.2 Q) (fun r : mH => Q none r) ?_ e q
  rintro ⟨v2, h1⟩ res e q
  exact g_J7_fill_53178_b5 v0 v1 v3 v2 h1 e q
noncomputable def f_J7_fill_53178 (v0 : Option Nat) (v1 : Int32) (h : mH) : Option (mH) :=
  (mLn h v0).bind fun x1 =>
  f_J7_fill_53178_l5 v0 v1 (0 : Int32) x1 h
set_option maxRecDepth 100000 in
set_option maxHeartbeats 4000000 in
theorem g_J7_fill_53178 {w : mWp} {Q : Option Value → mH → Prop} (v0 : Option Nat) (v1 : Int32) (h : mH) {res : mH} (e : f_J7_fill_53178 v0 v1 h = some res) (q : (fun r : mH => Q none r) res) : mGo w kJ7_fill_53178 0 0 0 [some (va_rf v0), some (.int v1), none, none] [] h Q := by
  unfold f_J7_fill_53178 at e
  refine mGo.iconst (n := 1) (v := (0 : Int32)) dJ7_fill_53178_0 (by decide) rfl ?_
  refine mGo.istore_n (n := 2) (ls' := [some (va_rf v0), some (.int v1), some (.int (0 : Int32)), none]) dJ7_fill_53178_1 rfl (Nat.le_of_ble_eq_true rfl) rfl ?_
  refine mGo.aload_n (n := 3) (r := v0) dJ7_fill_53178_2 rfl rfl ?_
  obtain ⟨x1, e_x1, e⟩ := mBind e
  refine mGo.alen (n := 4) dJ7_fill_53178_3 e_x1 rfl ?_
  refine mGo.istore_n (n := 5) (ls' := [some (va_rf v0), some (.int v1), some (.int (0 : Int32)), some (.int x1)]) dJ7_fill_53178_4 rfl (Nat.le_of_ble_eq_true rfl) rfl ?_
  refine mGo.mk [true, true, true, true] ?_
  exact g_J7_fill_53178_l5 v0 v1 (0 : Int32) x1 h e q
theorem e_J7_fill_53178 {w : mWp} (v0 : Option Nat) (v1 : Int32) (h : mH) {res : mH} (e : f_J7_fill_53178 v0 v1 h = some res) : mEx w zJ7_fill_53178 (mRoom 1 0 0) [va_rf v0, .int v1] h (fun r h2 => r = none ∧ h2 = res) := by
  refine mEx.of (by decide +kernel) (show mEnt [va_rf v0, .int v1] 4 = [some (va_rf v0), some (.int v1), none, none] by rw [mEnt_r, mEnt_i] <;> rfl) (by simp only [List.map_cons, List.map_nil, mRfc, mCi, mCj, List.sum_cons, List.sum_nil]; exact Nat.le_of_ble_eq_true rfl) ?_
  refine g_J7_fill_53178 v0 v1 h e ?_
  exact ⟨rfl, rfl⟩
-- J7_rangeCheck_23922
def kJ7_rangeCheck_23922 : mK := (cJ7_rangeCheck_23922, RJ7, 3, none, "rangeCheck", mRoom 1 0 0)
def zJ7_rangeCheck_23922 : mY := (yJ7_rangeCheck_23922, cJ7_rangeCheck_23922, 3, none)
def f_J7_rangeCheck_23922 (v0 : Int32) (v1 : Int32) (v2 : Int32)  : Option (Unit) :=
  if v1 ≤ v2 then
    if 0 ≤ v1 then
      if v2 ≤ v0 then
        some ()
      else
        none
    else
      none
  else
    none
set_option maxRecDepth 100000 in
set_option maxHeartbeats 4000000 in
theorem g_J7_rangeCheck_23922 {w : mWp} {Q : Option Value → mH → Prop} (v0 : Int32) (v1 : Int32) (v2 : Int32) (h : mH) {res : Unit} (e : f_J7_rangeCheck_23922 v0 v1 v2 = some res) (q : (fun _ : Unit => Q none h) res) : mGo w kJ7_rangeCheck_23922 0 0 0 [some (.int v0), some (.int v1), some (.int v2)] [] h Q := by
  unfold f_J7_rangeCheck_23922 at e
  refine mGo.iload_n (n := 1) (x := v1) dJ7_rangeCheck_23922_0 rfl rfl ?_
  refine mGo.iload_n (n := 2) (x := v2) dJ7_rangeCheck_23922_1 rfl rfl ?_
  refine mGo.icmp_le (tgt := 46) (n := 5) dJ7_rangeCheck_23922_2 (by decide) rfl (fun hc => ?_) (fun hc => ?_)
  · replace e := mIft hc e
    refine mGo.iload_n (n := 47) (x := v1) dJ7_rangeCheck_23922_46 rfl rfl ?_
    refine mGo.if_ge (tgt := 59) (n := 50) dJ7_rangeCheck_23922_47 (by decide) rfl (fun hc => ?_) (fun hc => ?_)
    · replace e := mIft hc e
      refine mGo.iload_n (n := 60) (x := v2) dJ7_rangeCheck_23922_59 rfl rfl ?_
      refine mGo.iload_n (n := 61) (x := v0) dJ7_rangeCheck_23922_60 rfl rfl ?_
      refine mGo.icmp_le (tgt := 73) (n := 64) dJ7_rangeCheck_23922_61 (by decide) rfl (fun hc => ?_) (fun hc => ?_)
      · replace e := mIft hc e
        cases e
        exact mGo.vret dJ7_rangeCheck_23922_73 rfl (Nat.le_of_ble_eq_true rfl) (Nat.le_of_ble_eq_true rfl) q
      · replace e := mIff hc e
        cases e
    · replace e := mIff hc e
      cases e
  · replace e := mIff hc e
    cases e
theorem e_J7_rangeCheck_23922 {w : mWp} (v0 : Int32) (v1 : Int32) (v2 : Int32) (h : mH) {res : Unit} (e : f_J7_rangeCheck_23922 v0 v1 v2 = some res) : mEx w zJ7_rangeCheck_23922 (mRoom 1 0 0) [.int v0, .int v1, .int v2] h (fun r h2 => r = none ∧ h2 = h) := by
  refine mEx.of (by decide +kernel) rfl (Nat.le_of_ble_eq_true rfl) ?_
  refine g_J7_rangeCheck_23922 v0 v1 v2 h e ?_
  exact ⟨rfl, rfl⟩
-- J7_fill_fda19
def kJ7_fill_fda19 : mK := (cJ7_fill_fda19, RJ7, 5, none, "fill", mRoom 2 0 0)
def zJ7_fill_fda19 : mY := (yJ7_fill_fda19, cJ7_fill_fda19, 5, none)
set_option maxRecDepth 100000 in
theorem sc_RJ7_13 : mSS RJ7 13 zJ7_rangeCheck_23922 3 := ⟨Or.inl (mT_at 618 (by decide +kernel) rfl), mT_at 619 (by decide +kernel) rfl, mT_at 92 (by decide +kernel) rfl, mT_at 620 (by decide +kernel) rfl, ⟨by decide +kernel, by decide +kernel, by decide +kernel⟩⟩
def f_J7_fill_fda19_b10 (v0 : Option Nat) (v2 : Int32) (v3 : Int32) (v4 : Int32) (h : mH) : Option ((Int32 × mH) ⊕ (mH)) :=
  if v2 ≤ v4 then
    some (Sum.inr h)
  else
    (mSI h v0 v4 v3).bind fun h1 =>
    some (Sum.inl ((v4 + 1), h1))
set_option maxRecDepth 100000 in
set_option maxHeartbeats 4000000 in
theorem g_J7_fill_fda19_b10 {w : mWp} {Q : Option Value → mH → Prop} (v0 : Option Nat) (v2 : Int32) (v3 : Int32) (v4 : Int32) (h : mH) {res : (Int32 × mH) ⊕ (mH)} (e : f_J7_fill_fda19_b10 v0 v2 v3 v4 h = some res) (q : (Sum.elim (fun x : Int32 × mH => mGo w kJ7_fill_fda19 0 0 10 [some (va_rf v0), none, some (.int v2), some (.int v3), some (.int x.1)] [] x.2 Q) (fun r : mH => Q none r)) res) : mGo w kJ7_fill_fda19 0 0 10 [some (va_rf v0), none, some (.int v2), some (.int v3), some (.int v4)] [] h Q := by
  unfold f_J7_fill_fda19_b10 at e
  refine mGo.iload (n := 12) (x := v4) dJ7_fill_fda19_10 rfl rfl ?_
  refine mGo.iload_n (n := 13) (x := v2) dJ7_fill_fda19_12 rfl rfl ?_
  refine mGo.icmp_ge (tgt := 27) (n := 16) dJ7_fill_fda19_13 (by decide) rfl (fun hc => ?_) (fun hc => ?_)
  · replace e := mIft hc e
    cases e
    exact mGo.vret dJ7_fill_fda19_27 rfl (Nat.le_of_ble_eq_true rfl) (Nat.le_of_ble_eq_true rfl) q
  · replace e := mIff hc e
    refine mGo.aload_n (n := 17) (r := v0) dJ7_fill_fda19_16 rfl rfl ?_
    refine mGo.iload (n := 19) (x := v4) dJ7_fill_fda19_17 rfl rfl ?_
    refine mGo.iload_n (n := 20) (x := v3) dJ7_fill_fda19_19 rfl rfl ?_
    obtain ⟨h1, e_h1, e⟩ := mBind e
    refine mGo.iast (n := 21) dJ7_fill_fda19_20 e_h1 rfl ?_
    refine mGo.iinc (n := 24) (x := v4) (v := (v4 + 1)) (ls' := [some (va_rf v0), none, some (.int v2), some (.int v3), some (.int (v4 + 1))]) dJ7_fill_fda19_21 rfl rfl rfl (Nat.le_of_ble_eq_true rfl) rfl ?_
    refine mGo.goto (tgt := 10) dJ7_fill_fda19_24 (by decide) ?_
    cases e
    refine mGo.mk [true, false, true, true, true] ?_
    exact q
noncomputable def f_J7_fill_fda19_l10 (v0 : Option Nat) (v2 : Int32) (v3 : Int32) (v4 : Int32) (h : mH) : Option (mH) :=
  mLoop (fun x : Int32 × mH => f_J7_fill_fda19_b10 v0 v2 v3 x.1 x.2) (v4, h)
set_option maxRecDepth 100000 in
set_option maxHeartbeats 4000000 in
theorem g_J7_fill_fda19_l10 {w : mWp} {Q : Option Value → mH → Prop} (v0 : Option Nat) (v2 : Int32) (v3 : Int32) (v4 : Int32) (h : mH) {res : mH} (e : f_J7_fill_fda19_l10 v0 v2 v3 v4 h = some res) (q : (fun r : mH => Q none r) res) : mGo w kJ7_fill_fda19 0 0 10 [some (va_rf v0), none, some (.int v2), some (.int v3), some (.int v4)] [] h Q := by
  unfold f_J7_fill_fda19_l10 at e
  refine mLoop_go (x := (v4, h)) (fun x : Int32 × mH => mGo w kJ7_fill_fda19 0 0 10 [some (va_rf v0), none, some (.int v2), some (.int v3), some (.int x.1)] [] x.2 Q) (fun r : mH => Q none r) ?_ e q
  rintro ⟨v4, h1⟩ res e q
  exact g_J7_fill_fda19_b10 v0 v2 v3 v4 h1 e q
noncomputable def f_J7_fill_fda19 (v0 : Option Nat) (v1 : Int32) (v2 : Int32) (v3 : Int32) (h : mH) : Option (mH) :=
  (mLn h v0).bind fun x1 =>
  (f_J7_rangeCheck_23922 x1 v1 v2).bind fun x2 =>
  f_J7_fill_fda19_l10 v0 v2 v3 v1 h
set_option maxRecDepth 100000 in
set_option maxHeartbeats 4000000 in
theorem g_J7_fill_fda19 {w : mWp} {Q : Option Value → mH → Prop} (v0 : Option Nat) (v1 : Int32) (v2 : Int32) (v3 : Int32) (h : mH) {res : mH} (e : f_J7_fill_fda19 v0 v1 v2 v3 h = some res) (q : (fun r : mH => Q none r) res) : mGo w kJ7_fill_fda19 0 0 0 [some (va_rf v0), some (.int v1), some (.int v2), some (.int v3), none] [] h Q := by
  unfold f_J7_fill_fda19 at e
  refine mGo.aload_n (n := 1) (r := v0) dJ7_fill_fda19_0 rfl rfl ?_
  obtain ⟨x1, e_x1, e⟩ := mBind e
  refine mGo.alen (n := 2) dJ7_fill_fda19_1 e_x1 rfl ?_
  refine mGo.iload_n (n := 3) (x := v1) dJ7_fill_fda19_2 rfl rfl ?_
  refine mGo.iload_n (n := 4) (x := v2) dJ7_fill_fda19_3 rfl rfl ?_
  obtain ⟨x2, e_x2, e⟩ := mBind e
  refine mGo.callS (n := 7) (y := zJ7_rangeCheck_23922) (R' := (mRoom (1) 0 0)) (as := [.int x1, .int v1, .int v2]) (st := []) dJ7_fill_fda19_4 sc_RJ7_13 rfl (e_J7_rangeCheck_23922 x1 v1 v2 h e_x2) (mFit_of rfl (Nat.le_of_ble_eq_true rfl) (by decide) (Nat.le_of_ble_eq_true rfl) (Nat.le_of_ble_eq_true rfl)) (Nat.le_of_ble_eq_true rfl) rfl rfl ?_
  intro _ _ hq
  rw [hq.1, hq.2]
  show mGo w kJ7_fill_fda19 0 0 7 [some (va_rf v0), some (.int v1), some (.int v2), some (.int v3), none] [] h Q
  refine mGo.iload_n (n := 8) (x := v1) dJ7_fill_fda19_7 rfl rfl ?_
  refine mGo.istore (n := 10) (ls' := [some (va_rf v0), some (.int v1), some (.int v2), some (.int v3), some (.int v1)]) dJ7_fill_fda19_8 rfl (Nat.le_of_ble_eq_true rfl) rfl ?_
  refine mGo.mk [true, false, true, true, true] ?_
  exact g_J7_fill_fda19_l10 v0 v2 v3 v1 h e q
theorem e_J7_fill_fda19 {w : mWp} (v0 : Option Nat) (v1 : Int32) (v2 : Int32) (v3 : Int32) (h : mH) {res : mH} (e : f_J7_fill_fda19 v0 v1 v2 v3 h = some res) : mEx w zJ7_fill_fda19 (mRoom 2 0 0) [va_rf v0, .int v1, .int v2, .int v3] h (fun r h2 => r = none ∧ h2 = res) := by
  refine mEx.of (by decide +kernel) (show mEnt [va_rf v0, .int v1, .int v2, .int v3] 5 = [some (va_rf v0), some (.int v1), some (.int v2), some (.int v3), none] by rw [mEnt_r, mEnt_i, mEnt_i, mEnt_i] <;> rfl) (by simp only [List.map_cons, List.map_nil, mRfc, mCi, mCj, List.sum_cons, List.sum_nil]; exact Nat.le_of_ble_eq_true rfl) ?_
  refine g_J7_fill_fda19 v0 v1 v2 v3 h e ?_
  exact ⟨rfl, rfl⟩
-- X3_addBlock
def kX3_addBlock : mK := (cX3_addBlock, RX3, 3, some (.int), "addBlock", mRoom 1 0 0)
def zX3_addBlock : mY := (yX3_addBlock, cX3_addBlock, 3, some (.int))
def f_X3_addBlock (v0 : Option Nat) (v1 : Int32) (v2 : Int32) (h : mH) : Option (Int32 × mH) :=
  (mIs h v0 2).bind fun _ =>
  if v2 = 0 then
    some (v1, h)
  else
    (mGR h v0 2 4).bind fun x1 =>
    (mLn h x1).bind fun x2 =>
    if v1 < x2 then
      (mGR h v0 2 4).bind fun x3 =>
      (mSI h x3 v1 v2).bind fun h4 =>
      some ((v1 + (1 : Int32)), h4)
    else
      some (v1, h)
set_option maxRecDepth 100000 in
set_option maxHeartbeats 4000000 in
theorem g_X3_addBlock {w : mWp} {Q : Option Value → mH → Prop} (v0 : Option Nat) (v1 : Int32) (v2 : Int32) (h : mH) {res : Int32 × mH} (e : f_X3_addBlock v0 v1 v2 h = some res) (q : (fun r : Int32 × mH => Q (some (.int r.1)) r.2) res) : mGo w kX3_addBlock 0 0 0 [some (va_rf v0), some (.int v1), some (.int v2)] [] h Q := by
  unfold f_X3_addBlock at e
  obtain ⟨_, _, e⟩ := mBind e
  refine mGo.iload_n (n := 1) (x := v2) dX3_addBlock_0 rfl rfl ?_
  refine mGo.if_eq (tgt := 13) (n := 4) dX3_addBlock_1 (by decide) rfl (fun hc => ?_) (fun hc => ?_)
  · replace e := mIft hc e
    refine mGo.iload_n (n := 14) (x := v1) dX3_addBlock_13 rfl rfl ?_
    cases e
    exact mGo.iret dX3_addBlock_14 rfl (Nat.le_of_ble_eq_true rfl) (Nat.le_of_ble_eq_true rfl) q
  · replace e := mIff hc e
    refine mGo.iload_n (n := 5) (x := v1) dX3_addBlock_4 rfl rfl ?_
    refine mGo.aload_n (n := 6) (r := v0) dX3_addBlock_5 rfl rfl ?_
    obtain ⟨x1, e_x1, e⟩ := mBind e
    refine mGo.getR (n := 9) dX3_addBlock_6 sf_RX3_15 e_x1 rfl ?_
    obtain ⟨x2, e_x2, e⟩ := mBind e
    refine mGo.alen (n := 10) dX3_addBlock_9 e_x2 rfl ?_
    refine mGo.icmp_lt (tgt := 15) (n := 13) dX3_addBlock_10 (by decide) rfl (fun hc => ?_) (fun hc => ?_)
    · replace e := mIft hc e
      refine mGo.aload_n (n := 16) (r := v0) dX3_addBlock_15 rfl rfl ?_
      obtain ⟨x3, e_x3, e⟩ := mBind e
      refine mGo.getR (n := 19) dX3_addBlock_16 sf_RX3_15 e_x3 rfl ?_
      refine mGo.iload_n (n := 20) (x := v1) dX3_addBlock_19 rfl rfl ?_
      refine mGo.iload_n (n := 21) (x := v2) dX3_addBlock_20 rfl rfl ?_
      obtain ⟨h4, e_h4, e⟩ := mBind e
      refine mGo.iast (n := 22) dX3_addBlock_21 e_h4 rfl ?_
      refine mGo.iload_n (n := 23) (x := v1) dX3_addBlock_22 rfl rfl ?_
      refine mGo.iconst (n := 24) (v := (1 : Int32)) dX3_addBlock_23 (by decide) rfl ?_
      refine mGo.iadd (n := 25) dX3_addBlock_24 rfl ?_
      cases e
      exact mGo.iret dX3_addBlock_25 rfl (Nat.le_of_ble_eq_true rfl) (Nat.le_of_ble_eq_true rfl) q
    · replace e := mIff hc e
      refine mGo.iload_n (n := 14) (x := v1) dX3_addBlock_13 rfl rfl ?_
      cases e
      exact mGo.iret dX3_addBlock_14 rfl (Nat.le_of_ble_eq_true rfl) (Nat.le_of_ble_eq_true rfl) q
theorem e_X3_addBlock {w : mWp} (v0 : Option Nat) (v1 : Int32) (v2 : Int32) (h : mH) {res : Int32 × mH} (e : f_X3_addBlock v0 v1 v2 h = some res) : mEx w zX3_addBlock (mRoom 1 0 0) [va_rf v0, .int v1, .int v2] h (fun r h2 => r = some (.int res.1) ∧ h2 = res.2) := by
  refine mEx.of (by decide +kernel) (show mEnt [va_rf v0, .int v1, .int v2] 3 = [some (va_rf v0), some (.int v1), some (.int v2)] by rw [mEnt_r, mEnt_i, mEnt_i] <;> rfl) (by simp only [List.map_cons, List.map_nil, mRfc, mCi, mCj, List.sum_cons, List.sum_nil]; exact Nat.le_of_ble_eq_true rfl) ?_
  refine g_X3_addBlock v0 v1 v2 h e ?_
  exact ⟨rfl, rfl⟩
theorem s_X3_addBlock (v0 : Option Nat) (v1 : Int32) (v2 : Int32) (h : mH) {res : Int32 × mH} (e : f_X3_addBlock v0 v1 v2 h = some res) : mIs h v0 2 = some () := by
  unfold f_X3_addBlock at e
  obtain ⟨u, e1, _⟩ := mBind e
  cases u
  exact e1
-- X3_splitBlocks
def kX3_splitBlocks : mK := (cX3_splitBlocks, RX3, 10, some (.int), "splitBlocks", mRoom 2 0 0)
def zX3_splitBlocks : mY := (yX3_splitBlocks, cX3_splitBlocks, 10, some (.int))
set_option maxRecDepth 100000 in
theorem sc_RX3_66 : mSS RX3 66 zJ6_bitCount_0f7a4 1 := ⟨Or.inl (mT_at 610 (by decide +kernel) rfl), mT_at 436 (by decide +kernel) rfl, mT_at 95 (by decide +kernel) rfl, mT_at 437 (by decide +kernel) rfl, ⟨by decide +kernel, by decide +kernel, by decide +kernel⟩⟩
set_option maxRecDepth 100000 in
theorem sc_RX3_72 : mSV RX3 72 zX3_addBlock 2 2 := ⟨Or.inl (mT_at 611 (by decide +kernel) rfl), mT_at 613 (by decide +kernel) rfl, mT_at 24 (by decide +kernel) rfl, mT_at 87 (by decide +kernel) rfl, mT_at 614 (by decide +kernel) rfl, ⟨by decide +kernel, by decide +kernel, by decide +kernel⟩, by decide, rfl⟩
def f_X3_splitBlocks_b20 (v0 : Option Nat) (v1 : Int32) (v2 : Int32) (v3 : Int32) (v4 : Int32) (v5 : Int32) (v6 : Int32) (v7 : Int32) (h : mH) : Option ((Int32 × Int32 × Int32 × Int32 × mH) ⊕ (Int32 × mH)) :=
  (mGR h v0 2 5).bind fun x1 =>
  (mAI h x1 v1).bind fun x2 =>
  if (v3 + x2) ≤ v7 then
    (mGR h v0 2 5).bind fun x3 =>
    (mSI h x3 (v1 + (1 : Int32)) ((v4 - v3) - (6 : Int32))).bind fun h4 =>
    some (Sum.inr (v6, h4))
  else
    (mGR h v0 2 4).bind fun x5 =>
    (mAI h x5 v7).bind fun x6 =>
    (mGR h v0 2 4).bind fun x7 =>
    (mAI h x7 v7).bind fun x8 =>
    (f_J6_bitCount_0f7a4 (x6 &&& v2)).bind fun x9 =>
    (mGR h v0 2 4).bind fun x10 =>
    (mAI h x10 v7).bind fun x11 =>
    (f_J6_bitCount_0f7a4 x11).bind fun x12 =>
    (f_X3_addBlock v0 v4 (x6 &&& v2) h).bind fun x13 =>
    (f_X3_addBlock v0 x13.1 (x8 &&& (v2 ^^^ (-1 : Int32))) x13.2).bind fun x14 =>
    some (Sum.inl (x14.1, (v5 + x12), (v6 ||| ((((1 : Int32) <<< (x9 &&& 31)) - (1 : Int32)) <<< (v5 &&& 31))), (v7 + 1), x14.2))
set_option maxRecDepth 100000 in
set_option maxHeartbeats 4000000 in
theorem g_X3_splitBlocks_b20 {w : mWp} {Q : Option Value → mH → Prop} (v0 : Option Nat) (v1 : Int32) (v2 : Int32) (v3 : Int32) (v4 : Int32) (v5 : Int32) (v6 : Int32) (v7 : Int32) (h : mH) {res : (Int32 × Int32 × Int32 × Int32 × mH) ⊕ (Int32 × mH)} (e : f_X3_splitBlocks_b20 v0 v1 v2 v3 v4 v5 v6 v7 h = some res) (q : (Sum.elim (fun x : Int32 × Int32 × Int32 × Int32 × mH => mGo w kX3_splitBlocks 0 0 20 [some (va_rf v0), some (.int v1), some (.int v2), some (.int v3), some (.int x.1), some (.int x.2.1), some (.int x.2.2.1), some (.int x.2.2.2.1), none, none] [] x.2.2.2.2 Q) (fun r : Int32 × mH => Q (some (.int r.1)) r.2)) res) : mGo w kX3_splitBlocks 0 0 20 [some (va_rf v0), some (.int v1), some (.int v2), some (.int v3), some (.int v4), some (.int v5), some (.int v6), some (.int v7), none, none] [] h Q := by
  unfold f_X3_splitBlocks_b20 at e
  refine mGo.iload (n := 22) (x := v7) dX3_splitBlocks_20 rfl rfl ?_
  refine mGo.iload_n (n := 23) (x := v3) dX3_splitBlocks_22 rfl rfl ?_
  refine mGo.aload_n (n := 24) (r := v0) dX3_splitBlocks_23 rfl rfl ?_
  obtain ⟨x1, e_x1, e⟩ := mBind e
  refine mGo.getR (n := 27) dX3_splitBlocks_24 sf_RX3_18 e_x1 rfl ?_
  refine mGo.iload_n (n := 28) (x := v1) dX3_splitBlocks_27 rfl rfl ?_
  obtain ⟨x2, e_x2, e⟩ := mBind e
  refine mGo.iald (n := 29) dX3_splitBlocks_28 e_x2 rfl ?_
  refine mGo.iadd (n := 30) dX3_splitBlocks_29 rfl ?_
  refine mGo.icmp_ge (tgt := 115) (n := 33) dX3_splitBlocks_30 (by decide) rfl (fun hc => ?_) (fun hc => ?_)
  · replace e := mIft hc e
    refine mGo.aload_n (n := 116) (r := v0) dX3_splitBlocks_115 rfl rfl ?_
    obtain ⟨x3, e_x3, e⟩ := mBind e
    refine mGo.getR (n := 119) dX3_splitBlocks_116 sf_RX3_18 e_x3 rfl ?_
    refine mGo.iload_n (n := 120) (x := v1) dX3_splitBlocks_119 rfl rfl ?_
    refine mGo.iconst (n := 121) (v := (1 : Int32)) dX3_splitBlocks_120 (by decide) rfl ?_
    refine mGo.iadd (n := 122) dX3_splitBlocks_121 rfl ?_
    refine mGo.iload (n := 124) (x := v4) dX3_splitBlocks_122 rfl rfl ?_
    refine mGo.iload_n (n := 125) (x := v3) dX3_splitBlocks_124 rfl rfl ?_
    refine mGo.isub (n := 126) dX3_splitBlocks_125 rfl ?_
    refine mGo.bipush (n := 128) (v := (6 : Int32)) dX3_splitBlocks_126 (by decide) rfl ?_
    refine mGo.isub (n := 129) dX3_splitBlocks_128 rfl ?_
    obtain ⟨h4, e_h4, e⟩ := mBind e
    refine mGo.iast (n := 130) dX3_splitBlocks_129 e_h4 rfl ?_
    refine mGo.iload (n := 132) (x := v6) dX3_splitBlocks_130 rfl rfl ?_
    cases e
    exact mGo.iret dX3_splitBlocks_132 rfl (Nat.le_of_ble_eq_true rfl) (Nat.le_of_ble_eq_true rfl) q
  · replace e := mIff hc e
    refine mGo.aload_n (n := 34) (r := v0) dX3_splitBlocks_33 rfl rfl ?_
    obtain ⟨x5, e_x5, e⟩ := mBind e
    refine mGo.getR (n := 37) dX3_splitBlocks_34 sf_RX3_15 e_x5 rfl ?_
    refine mGo.iload (n := 39) (x := v7) dX3_splitBlocks_37 rfl rfl ?_
    obtain ⟨x6, e_x6, e⟩ := mBind e
    refine mGo.iald (n := 40) dX3_splitBlocks_39 e_x6 rfl ?_
    refine mGo.iload_n (n := 41) (x := v2) dX3_splitBlocks_40 rfl rfl ?_
    refine mGo.iand (n := 42) dX3_splitBlocks_41 rfl ?_
    refine mGo.istore (n := 44) (ls' := [some (va_rf v0), some (.int v1), some (.int v2), some (.int v3), some (.int v4), some (.int v5), some (.int v6), some (.int v7), some (.int (x6 &&& v2)), none]) dX3_splitBlocks_42 rfl (Nat.le_of_ble_eq_true rfl) rfl ?_
    refine mGo.aload_n (n := 45) (r := v0) dX3_splitBlocks_44 rfl rfl ?_
    obtain ⟨x7, e_x7, e⟩ := mBind e
    refine mGo.getR (n := 48) dX3_splitBlocks_45 sf_RX3_15 e_x7 rfl ?_
    refine mGo.iload (n := 50) (x := v7) dX3_splitBlocks_48 rfl rfl ?_
    obtain ⟨x8, e_x8, e⟩ := mBind e
    refine mGo.iald (n := 51) dX3_splitBlocks_50 e_x8 rfl ?_
    refine mGo.iload_n (n := 52) (x := v2) dX3_splitBlocks_51 rfl rfl ?_
    refine mGo.iconst (n := 53) (v := (-1 : Int32)) dX3_splitBlocks_52 (by decide) rfl ?_
    refine mGo.ixor (n := 54) dX3_splitBlocks_53 rfl ?_
    refine mGo.iand (n := 55) dX3_splitBlocks_54 rfl ?_
    refine mGo.istore (n := 57) (ls' := [some (va_rf v0), some (.int v1), some (.int v2), some (.int v3), some (.int v4), some (.int v5), some (.int v6), some (.int v7), some (.int (x6 &&& v2)), some (.int (x8 &&& (v2 ^^^ (-1 : Int32))))]) dX3_splitBlocks_55 rfl (Nat.le_of_ble_eq_true rfl) rfl ?_
    refine mGo.iload (n := 59) (x := v6) dX3_splitBlocks_57 rfl rfl ?_
    refine mGo.iconst (n := 60) (v := (1 : Int32)) dX3_splitBlocks_59 (by decide) rfl ?_
    refine mGo.iload (n := 62) (x := (x6 &&& v2)) dX3_splitBlocks_60 rfl rfl ?_
    obtain ⟨x9, e_x9, e⟩ := mBind e
    refine mGo.callS (n := 65) (y := zJ6_bitCount_0f7a4) (R' := (mRoom (1) 0 0)) (as := [.int (x6 &&& v2)]) (st := [.int (1 : Int32), .int v6]) dX3_splitBlocks_62 sc_RX3_66 rfl (e_J6_bitCount_0f7a4 (x6 &&& v2) h e_x9) (mFit_of rfl (Nat.le_of_ble_eq_true rfl) (by decide) (Nat.le_of_ble_eq_true rfl) (Nat.le_of_ble_eq_true rfl)) (Nat.le_of_ble_eq_true rfl) rfl rfl ?_
    intro _ _ hq
    rw [hq.1, hq.2]
    show mGo w kX3_splitBlocks 0 0 65 [some (va_rf v0), some (.int v1), some (.int v2), some (.int v3), some (.int v4), some (.int v5), some (.int v6), some (.int v7), some (.int (x6 &&& v2)), some (.int (x8 &&& (v2 ^^^ (-1 : Int32))))] [.int x9, .int (1 : Int32), .int v6] h Q
    refine mGo.ishl (n := 66) dX3_splitBlocks_65 rfl ?_
    refine mGo.iconst (n := 67) (v := (1 : Int32)) dX3_splitBlocks_66 (by decide) rfl ?_
    refine mGo.isub (n := 68) dX3_splitBlocks_67 rfl ?_
    refine mGo.iload (n := 70) (x := v5) dX3_splitBlocks_68 rfl rfl ?_
    refine mGo.ishl (n := 71) dX3_splitBlocks_70 rfl ?_
    refine mGo.ior (n := 72) dX3_splitBlocks_71 rfl ?_
    refine mGo.istore (n := 74) (ls' := [some (va_rf v0), some (.int v1), some (.int v2), some (.int v3), some (.int v4), some (.int v5), some (.int (v6 ||| ((((1 : Int32) <<< (x9 &&& 31)) - (1 : Int32)) <<< (v5 &&& 31)))), some (.int v7), some (.int (x6 &&& v2)), some (.int (x8 &&& (v2 ^^^ (-1 : Int32))))]) dX3_splitBlocks_72 rfl (Nat.le_of_ble_eq_true rfl) rfl ?_
    refine mGo.iload (n := 76) (x := v5) dX3_splitBlocks_74 rfl rfl ?_
    refine mGo.aload_n (n := 77) (r := v0) dX3_splitBlocks_76 rfl rfl ?_
    obtain ⟨x10, e_x10, e⟩ := mBind e
    refine mGo.getR (n := 80) dX3_splitBlocks_77 sf_RX3_15 e_x10 rfl ?_
    refine mGo.iload (n := 82) (x := v7) dX3_splitBlocks_80 rfl rfl ?_
    obtain ⟨x11, e_x11, e⟩ := mBind e
    refine mGo.iald (n := 83) dX3_splitBlocks_82 e_x11 rfl ?_
    obtain ⟨x12, e_x12, e⟩ := mBind e
    refine mGo.callS (n := 86) (y := zJ6_bitCount_0f7a4) (R' := (mRoom (1) 0 0)) (as := [.int x11]) (st := [.int v5]) dX3_splitBlocks_83 sc_RX3_66 rfl (e_J6_bitCount_0f7a4 x11 h e_x12) (mFit_of rfl (Nat.le_of_ble_eq_true rfl) (by decide) (Nat.le_of_ble_eq_true rfl) (Nat.le_of_ble_eq_true rfl)) (Nat.le_of_ble_eq_true rfl) rfl rfl ?_
    intro _ _ hq
    rw [hq.1, hq.2]
    show mGo w kX3_splitBlocks 0 0 86 [some (va_rf v0), some (.int v1), some (.int v2), some (.int v3), some (.int v4), some (.int v5), some (.int (v6 ||| ((((1 : Int32) <<< (x9 &&& 31)) - (1 : Int32)) <<< (v5 &&& 31)))), some (.int v7), some (.int (x6 &&& v2)), some (.int (x8 &&& (v2 ^^^ (-1 : Int32))))] [.int x12, .int v5] h Q
    refine mGo.iadd (n := 87) dX3_splitBlocks_86 rfl ?_
    refine mGo.istore (n := 89) (ls' := [some (va_rf v0), some (.int v1), some (.int v2), some (.int v3), some (.int v4), some (.int (v5 + x12)), some (.int (v6 ||| ((((1 : Int32) <<< (x9 &&& 31)) - (1 : Int32)) <<< (v5 &&& 31)))), some (.int v7), some (.int (x6 &&& v2)), some (.int (x8 &&& (v2 ^^^ (-1 : Int32))))]) dX3_splitBlocks_87 rfl (Nat.le_of_ble_eq_true rfl) rfl ?_
    refine mGo.aload_n (n := 90) (r := v0) dX3_splitBlocks_89 rfl rfl ?_
    refine mGo.iload (n := 92) (x := v4) dX3_splitBlocks_90 rfl rfl ?_
    refine mGo.iload (n := 94) (x := (x6 &&& v2)) dX3_splitBlocks_92 rfl rfl ?_
    obtain ⟨x13, e_x13, e⟩ := mBind e
    refine mGo.callV (n := 97) (y := zX3_addBlock) (R' := (mRoom (1) 0 0)) (as := [.int v4, .int (x6 &&& v2)]) (st := []) (r0 := v0) dX3_splitBlocks_94 sc_RX3_72 rfl (s_X3_addBlock v0 v4 (x6 &&& v2) h e_x13) (e_X3_addBlock v0 v4 (x6 &&& v2) h e_x13) (mFit_of rfl (Nat.le_of_ble_eq_true rfl) (by decide) (Nat.le_of_ble_eq_true rfl) (Nat.le_of_ble_eq_true rfl)) (Nat.le_of_ble_eq_true rfl) rfl rfl ?_
    intro _ _ hq
    rw [hq.1, hq.2]
    show mGo w kX3_splitBlocks 0 0 97 [some (va_rf v0), some (.int v1), some (.int v2), some (.int v3), some (.int v4), some (.int (v5 + x12)), some (.int (v6 ||| ((((1 : Int32) <<< (x9 &&& 31)) - (1 : Int32)) <<< (v5 &&& 31)))), some (.int v7), some (.int (x6 &&& v2)), some (.int (x8 &&& (v2 ^^^ (-1 : Int32))))] [.int x13.1] x13.2 Q
    refine mGo.istore (n := 99) (ls' := [some (va_rf v0), some (.int v1), some (.int v2), some (.int v3), some (.int x13.1), some (.int (v5 + x12)), some (.int (v6 ||| ((((1 : Int32) <<< (x9 &&& 31)) - (1 : Int32)) <<< (v5 &&& 31)))), some (.int v7), some (.int (x6 &&& v2)), some (.int (x8 &&& (v2 ^^^ (-1 : Int32))))]) dX3_splitBlocks_97 rfl (Nat.le_of_ble_eq_true rfl) rfl ?_
    refine mGo.aload_n (n := 100) (r := v0) dX3_splitBlocks_99 rfl rfl ?_
    refine mGo.iload (n := 102) (x := x13.1) dX3_splitBlocks_100 rfl rfl ?_
    refine mGo.iload (n := 104) (x := (x8 &&& (v2 ^^^ (-1 : Int32)))) dX3_splitBlocks_102 rfl rfl ?_
    obtain ⟨x14, e_x14, e⟩ := mBind e
    refine mGo.callV (n := 107) (y := zX3_addBlock) (R' := (mRoom (1) 0 0)) (as := [.int x13.1, .int (x8 &&& (v2 ^^^ (-1 : Int32)))]) (st := []) (r0 := v0) dX3_splitBlocks_104 sc_RX3_72 rfl (s_X3_addBlock v0 x13.1 (x8 &&& (v2 ^^^ (-1 : Int32))) x13.2 e_x14) (e_X3_addBlock v0 x13.1 (x8 &&& (v2 ^^^ (-1 : Int32))) x13.2 e_x14) (mFit_of rfl (Nat.le_of_ble_eq_true rfl) (by decide) (Nat.le_of_ble_eq_true rfl) (Nat.le_of_ble_eq_true rfl)) (Nat.le_of_ble_eq_true rfl) rfl rfl ?_
    intro _ _ hq
    rw [hq.1, hq.2]
    show mGo w kX3_splitBlocks 0 0 107 [some (va_rf v0), some (.int v1), some (.int v2), some (.int v3), some (.int x13.1), some (.int (v5 + x12)), some (.int (v6 ||| ((((1 : Int32) <<< (x9 &&& 31)) - (1 : Int32)) <<< (v5 &&& 31)))), some (.int v7), some (.int (x6 &&& v2)), some (.int (x8 &&& (v2 ^^^ (-1 : Int32))))] [.int x14.1] x14.2 Q
    refine mGo.istore (n := 109) (ls' := [some (va_rf v0), some (.int v1), some (.int v2), some (.int v3), some (.int x14.1), some (.int (v5 + x12)), some (.int (v6 ||| ((((1 : Int32) <<< (x9 &&& 31)) - (1 : Int32)) <<< (v5 &&& 31)))), some (.int v7), some (.int (x6 &&& v2)), some (.int (x8 &&& (v2 ^^^ (-1 : Int32))))]) dX3_splitBlocks_107 rfl (Nat.le_of_ble_eq_true rfl) rfl ?_
    refine mGo.iinc (n := 112) (x := v7) (v := (v7 + 1)) (ls' := [some (va_rf v0), some (.int v1), some (.int v2), some (.int v3), some (.int x14.1), some (.int (v5 + x12)), some (.int (v6 ||| ((((1 : Int32) <<< (x9 &&& 31)) - (1 : Int32)) <<< (v5 &&& 31)))), some (.int (v7 + 1)), some (.int (x6 &&& v2)), some (.int (x8 &&& (v2 ^^^ (-1 : Int32))))]) dX3_splitBlocks_109 rfl rfl rfl (Nat.le_of_ble_eq_true rfl) rfl ?_
    refine mGo.goto (tgt := 20) dX3_splitBlocks_112 (by decide) ?_
    cases e
    refine mGo.mk [true, true, true, true, true, true, true, true, false, false] ?_
    exact q
noncomputable def f_X3_splitBlocks_l20 (v0 : Option Nat) (v1 : Int32) (v2 : Int32) (v3 : Int32) (v4 : Int32) (v5 : Int32) (v6 : Int32) (v7 : Int32) (h : mH) : Option (Int32 × mH) :=
  mLoop (fun x : Int32 × Int32 × Int32 × Int32 × mH => f_X3_splitBlocks_b20 v0 v1 v2 v3 x.1 x.2.1 x.2.2.1 x.2.2.2.1 x.2.2.2.2) (v4, v5, v6, v7, h)
set_option maxRecDepth 100000 in
set_option maxHeartbeats 4000000 in
theorem g_X3_splitBlocks_l20 {w : mWp} {Q : Option Value → mH → Prop} (v0 : Option Nat) (v1 : Int32) (v2 : Int32) (v3 : Int32) (v4 : Int32) (v5 : Int32) (v6 : Int32) (v7 : Int32) (h : mH) {res : Int32 × mH} (e : f_X3_splitBlocks_l20 v0 v1 v2 v3 v4 v5 v6 v7 h = some res) (q : (fun r : Int32 × mH => Q (some (.int r.1)) r.2) res) : mGo w kX3_splitBlocks 0 0 20 [some (va_rf v0), some (.int v1), some (.int v2), some (.int v3), some (.int v4), some (.int v5), some (.int v6), some (.int v7), none, none] [] h Q := by
  unfold f_X3_splitBlocks_l20 at e
  refine mLoop_go (x := (v4, v5, v6, v7, h)) (fun x : Int32 × Int32 × Int32 × Int32 × mH => mGo w kX3_splitBlocks 0 0 20 [some (va_rf v0), some (.int v1), some (.int v2), some (.int v3), some (.int x.1), some (.int x.2.1), some (.int x.2.2.1), some (.int x.2.2.2.1), none, none] [] x.2.2.2.2 Q) (fun r : Int32 × mH => Q (some (.int r.1)) r.2) ?_ e q
  rintro ⟨v4, v5, v6, v7, h1⟩ res e q
  exact g_X3_splitBlocks_b20 v0 v1 v2 v3 v4 v5 v6 v7 h1 e q
noncomputable def f_X3_splitBlocks (v0 : Option Nat) (v1 : Int32) (v2 : Int32) (h : mH) : Option (Int32 × mH) :=
  (mIs h v0 2).bind fun _ =>
  f_X3_splitBlocks_l20 v0 v1 v2 (v1 * (6 : Int32)) ((v1 * (6 : Int32)) + (6 : Int32)) (0 : Int32) (0 : Int32) (v1 * (6 : Int32)) h
set_option maxRecDepth 100000 in
set_option maxHeartbeats 4000000 in
theorem g_X3_splitBlocks {w : mWp} {Q : Option Value → mH → Prop} (v0 : Option Nat) (v1 : Int32) (v2 : Int32) (h : mH) {res : Int32 × mH} (e : f_X3_splitBlocks v0 v1 v2 h = some res) (q : (fun r : Int32 × mH => Q (some (.int r.1)) r.2) res) : mGo w kX3_splitBlocks 0 0 0 [some (va_rf v0), some (.int v1), some (.int v2), none, none, none, none, none, none, none] [] h Q := by
  unfold f_X3_splitBlocks at e
  obtain ⟨_, _, e⟩ := mBind e
  refine mGo.iload_n (n := 1) (x := v1) dX3_splitBlocks_0 rfl rfl ?_
  refine mGo.bipush (n := 3) (v := (6 : Int32)) dX3_splitBlocks_1 (by decide) rfl ?_
  refine mGo.imul (n := 4) dX3_splitBlocks_3 rfl ?_
  refine mGo.istore_n (n := 5) (ls' := [some (va_rf v0), some (.int v1), some (.int v2), some (.int (v1 * (6 : Int32))), none, none, none, none, none, none]) dX3_splitBlocks_4 rfl (Nat.le_of_ble_eq_true rfl) rfl ?_
  refine mGo.iload_n (n := 6) (x := (v1 * (6 : Int32))) dX3_splitBlocks_5 rfl rfl ?_
  refine mGo.bipush (n := 8) (v := (6 : Int32)) dX3_splitBlocks_6 (by decide) rfl ?_
  refine mGo.iadd (n := 9) dX3_splitBlocks_8 rfl ?_
  refine mGo.istore (n := 11) (ls' := [some (va_rf v0), some (.int v1), some (.int v2), some (.int (v1 * (6 : Int32))), some (.int ((v1 * (6 : Int32)) + (6 : Int32))), none, none, none, none, none]) dX3_splitBlocks_9 rfl (Nat.le_of_ble_eq_true rfl) rfl ?_
  refine mGo.iconst (n := 12) (v := (0 : Int32)) dX3_splitBlocks_11 (by decide) rfl ?_
  refine mGo.istore (n := 14) (ls' := [some (va_rf v0), some (.int v1), some (.int v2), some (.int (v1 * (6 : Int32))), some (.int ((v1 * (6 : Int32)) + (6 : Int32))), some (.int (0 : Int32)), none, none, none, none]) dX3_splitBlocks_12 rfl (Nat.le_of_ble_eq_true rfl) rfl ?_
  refine mGo.iconst (n := 15) (v := (0 : Int32)) dX3_splitBlocks_14 (by decide) rfl ?_
  refine mGo.istore (n := 17) (ls' := [some (va_rf v0), some (.int v1), some (.int v2), some (.int (v1 * (6 : Int32))), some (.int ((v1 * (6 : Int32)) + (6 : Int32))), some (.int (0 : Int32)), some (.int (0 : Int32)), none, none, none]) dX3_splitBlocks_15 rfl (Nat.le_of_ble_eq_true rfl) rfl ?_
  refine mGo.iload_n (n := 18) (x := (v1 * (6 : Int32))) dX3_splitBlocks_17 rfl rfl ?_
  refine mGo.istore (n := 20) (ls' := [some (va_rf v0), some (.int v1), some (.int v2), some (.int (v1 * (6 : Int32))), some (.int ((v1 * (6 : Int32)) + (6 : Int32))), some (.int (0 : Int32)), some (.int (0 : Int32)), some (.int (v1 * (6 : Int32))), none, none]) dX3_splitBlocks_18 rfl (Nat.le_of_ble_eq_true rfl) rfl ?_
  refine mGo.mk [true, true, true, true, true, true, true, true, false, false] ?_
  exact g_X3_splitBlocks_l20 v0 v1 v2 (v1 * (6 : Int32)) ((v1 * (6 : Int32)) + (6 : Int32)) (0 : Int32) (0 : Int32) (v1 * (6 : Int32)) h e q
theorem e_X3_splitBlocks {w : mWp} (v0 : Option Nat) (v1 : Int32) (v2 : Int32) (h : mH) {res : Int32 × mH} (e : f_X3_splitBlocks v0 v1 v2 h = some res) : mEx w zX3_splitBlocks (mRoom 2 0 0) [va_rf v0, .int v1, .int v2] h (fun r h2 => r = some (.int res.1) ∧ h2 = res.2) := by
  refine mEx.of (by decide +kernel) (show mEnt [va_rf v0, .int v1, .int v2] 10 = [some (va_rf v0), some (.int v1), some (.int v2), none, none, none, none, none, none, none] by rw [mEnt_r, mEnt_i, mEnt_i] <;> rfl) (by simp only [List.map_cons, List.map_nil, mRfc, mCi, mCj, List.sum_cons, List.sum_nil]; exact Nat.le_of_ble_eq_true rfl) ?_
  refine g_X3_splitBlocks v0 v1 v2 h e ?_
  exact ⟨rfl, rfl⟩
theorem s_X3_splitBlocks (v0 : Option Nat) (v1 : Int32) (v2 : Int32) (h : mH) {res : Int32 × mH} (e : f_X3_splitBlocks v0 v1 v2 h = some res) : mIs h v0 2 = some () := by
  unfold f_X3_splitBlocks at e
  obtain ⟨u, e1, _⟩ := mBind e
  cases u
  exact e1
-- X8_isAgain
def kX8_isAgain : mK := (cX8_isAgain, RX8, 7, some (.boolean), "isAgain", mRoom 2 0 0)
def zX8_isAgain : mY := (yX8_isAgain, cX8_isAgain, 7, some (.boolean))
set_option maxRecDepth 100000 in
theorem sc_RX8_106 : mSS RX8 106 zX8_inSet 2 := ⟨Or.inl (mT_at 369 (by decide +kernel) rfl), mT_at 370 (by decide +kernel) rfl, mT_at 83 (by decide +kernel) rfl, mT_at 371 (by decide +kernel) rfl, ⟨by decide +kernel, by decide +kernel, by decide +kernel⟩⟩
def f_X8_isAgain_b10 (v0 : Option Nat) (v2 : Int32) (v3 : Int32) (v4 : Int32) (v5 : Int32) (h : mH) : Option ((Int32) ⊕ (Int32)) :=
  if v2 ≤ v5 then
    some (Sum.inr (0 : Int32))
  else
    (mLn h v0).bind fun x1 =>
    if x1 ≤ v2 then
      some (Sum.inr (0 : Int32))
    else
      (mAI h v0 v5).bind fun x2 =>
      (mAI h v0 v2).bind fun x3 =>
      (f_X8_inSet v3 v5).bind fun x4 =>
      if x4 = 0 then
        if (x2 ^^^ x3) = 0 then
          some (Sum.inr (1 : Int32))
        else
          if (x2 ^^^ x3) = v4 then
            some (Sum.inr (1 : Int32))
          else
            some (Sum.inl (v5 + 1))
      else
        some (Sum.inl (v5 + 1))
set_option maxRecDepth 100000 in
set_option maxHeartbeats 4000000 in
theorem g_X8_isAgain_b10 {w : mWp} {Q : Option Value → mH → Prop} (v0 : Option Nat) (v2 : Int32) (v3 : Int32) (v4 : Int32) (v5 : Int32) (h : mH) {res : (Int32) ⊕ (Int32)} (e : f_X8_isAgain_b10 v0 v2 v3 v4 v5 h = some res) (q : (Sum.elim (fun x : Int32 => mGo w kX8_isAgain 0 0 10 [some (va_rf v0), none, some (.int v2), some (.int v3), some (.int v4), some (.int x), none] [] h Q) (fun r : Int32 => Q (some (.int r)) h)) res) : mGo w kX8_isAgain 0 0 10 [some (va_rf v0), none, some (.int v2), some (.int v3), some (.int v4), some (.int v5), none] [] h Q := by
  unfold f_X8_isAgain_b10 at e
  refine mGo.iload (n := 12) (x := v5) dX8_isAgain_10 rfl rfl ?_
  refine mGo.iload_n (n := 13) (x := v2) dX8_isAgain_12 rfl rfl ?_
  refine mGo.icmp_ge (tgt := 61) (n := 16) dX8_isAgain_13 (by decide) rfl (fun hc => ?_) (fun hc => ?_)
  · replace e := mIft hc e
    refine mGo.iconst (n := 62) (v := (0 : Int32)) dX8_isAgain_61 (by decide) rfl ?_
    cases e
    exact mGo.zret dX8_isAgain_62 rfl (by decide) (Nat.le_of_ble_eq_true rfl) (Nat.le_of_ble_eq_true rfl) q
  · replace e := mIff hc e
    refine mGo.iload_n (n := 17) (x := v2) dX8_isAgain_16 rfl rfl ?_
    refine mGo.aload_n (n := 18) (r := v0) dX8_isAgain_17 rfl rfl ?_
    obtain ⟨x1, e_x1, e⟩ := mBind e
    refine mGo.alen (n := 19) dX8_isAgain_18 e_x1 rfl ?_
    refine mGo.icmp_ge (tgt := 61) (n := 22) dX8_isAgain_19 (by decide) rfl (fun hc => ?_) (fun hc => ?_)
    · replace e := mIft hc e
      refine mGo.iconst (n := 62) (v := (0 : Int32)) dX8_isAgain_61 (by decide) rfl ?_
      cases e
      exact mGo.zret dX8_isAgain_62 rfl (by decide) (Nat.le_of_ble_eq_true rfl) (Nat.le_of_ble_eq_true rfl) q
    · replace e := mIff hc e
      refine mGo.aload_n (n := 23) (r := v0) dX8_isAgain_22 rfl rfl ?_
      refine mGo.iload (n := 25) (x := v5) dX8_isAgain_23 rfl rfl ?_
      obtain ⟨x2, e_x2, e⟩ := mBind e
      refine mGo.iald (n := 26) dX8_isAgain_25 e_x2 rfl ?_
      refine mGo.aload_n (n := 27) (r := v0) dX8_isAgain_26 rfl rfl ?_
      refine mGo.iload_n (n := 28) (x := v2) dX8_isAgain_27 rfl rfl ?_
      obtain ⟨x3, e_x3, e⟩ := mBind e
      refine mGo.iald (n := 29) dX8_isAgain_28 e_x3 rfl ?_
      refine mGo.ixor (n := 30) dX8_isAgain_29 rfl ?_
      refine mGo.istore (n := 32) (ls' := [some (va_rf v0), none, some (.int v2), some (.int v3), some (.int v4), some (.int v5), some (.int (x2 ^^^ x3))]) dX8_isAgain_30 rfl (Nat.le_of_ble_eq_true rfl) rfl ?_
      refine mGo.iload_n (n := 33) (x := v3) dX8_isAgain_32 rfl rfl ?_
      refine mGo.iload (n := 35) (x := v5) dX8_isAgain_33 rfl rfl ?_
      obtain ⟨x4, e_x4, e⟩ := mBind e
      refine mGo.callS (n := 38) (y := zX8_inSet) (R' := (mRoom (1) 0 0)) (as := [.int v3, .int v5]) (st := []) dX8_isAgain_35 sc_RX8_106 rfl (e_X8_inSet v3 v5 h e_x4) (mFit_of rfl (Nat.le_of_ble_eq_true rfl) (by decide) (Nat.le_of_ble_eq_true rfl) (Nat.le_of_ble_eq_true rfl)) (Nat.le_of_ble_eq_true rfl) rfl rfl ?_
      intro _ _ hq
      rw [hq.1, hq.2]
      show mGo w kX8_isAgain 0 0 38 [some (va_rf v0), none, some (.int v2), some (.int v3), some (.int v4), some (.int v5), some (.int (x2 ^^^ x3))] [.int x4] h Q
      refine mGo.if_ne (tgt := 55) (n := 41) dX8_isAgain_38 (by decide) rfl (fun hc => ?_) (fun hc => ?_)
      · replace e := mIff hc e
        refine mGo.iinc (n := 58) (x := v5) (v := (v5 + 1)) (ls' := [some (va_rf v0), none, some (.int v2), some (.int v3), some (.int v4), some (.int (v5 + 1)), some (.int (x2 ^^^ x3))]) dX8_isAgain_55 rfl rfl rfl (Nat.le_of_ble_eq_true rfl) rfl ?_
        refine mGo.goto (tgt := 10) dX8_isAgain_58 (by decide) ?_
        cases e
        refine mGo.mk [true, false, true, true, true, true, false] ?_
        exact q
      · replace e := mIft hc e
        refine mGo.iload (n := 43) (x := (x2 ^^^ x3)) dX8_isAgain_41 rfl rfl ?_
        refine mGo.if_eq (tgt := 53) (n := 46) dX8_isAgain_43 (by decide) rfl (fun hc => ?_) (fun hc => ?_)
        · replace e := mIft hc e
          refine mGo.iconst (n := 54) (v := (1 : Int32)) dX8_isAgain_53 (by decide) rfl ?_
          cases e
          exact mGo.zret dX8_isAgain_54 rfl (by decide) (Nat.le_of_ble_eq_true rfl) (Nat.le_of_ble_eq_true rfl) q
        · replace e := mIff hc e
          refine mGo.iload (n := 48) (x := (x2 ^^^ x3)) dX8_isAgain_46 rfl rfl ?_
          refine mGo.iload (n := 50) (x := v4) dX8_isAgain_48 rfl rfl ?_
          refine mGo.icmp_ne (tgt := 55) (n := 53) dX8_isAgain_50 (by decide) rfl (fun hc => ?_) (fun hc => ?_)
          · replace e := mIff hc e
            refine mGo.iinc (n := 58) (x := v5) (v := (v5 + 1)) (ls' := [some (va_rf v0), none, some (.int v2), some (.int v3), some (.int v4), some (.int (v5 + 1)), some (.int (x2 ^^^ x3))]) dX8_isAgain_55 rfl rfl rfl (Nat.le_of_ble_eq_true rfl) rfl ?_
            refine mGo.goto (tgt := 10) dX8_isAgain_58 (by decide) ?_
            cases e
            refine mGo.mk [true, false, true, true, true, true, false] ?_
            exact q
          · replace e := mIft hc e
            refine mGo.iconst (n := 54) (v := (1 : Int32)) dX8_isAgain_53 (by decide) rfl ?_
            cases e
            exact mGo.zret dX8_isAgain_54 rfl (by decide) (Nat.le_of_ble_eq_true rfl) (Nat.le_of_ble_eq_true rfl) q
noncomputable def f_X8_isAgain_l10 (v0 : Option Nat) (v2 : Int32) (v3 : Int32) (v4 : Int32) (v5 : Int32) (h : mH) : Option (Int32) :=
  mLoop (fun x : Int32 => f_X8_isAgain_b10 v0 v2 v3 v4 x h) (v5)
set_option maxRecDepth 100000 in
set_option maxHeartbeats 4000000 in
theorem g_X8_isAgain_l10 {w : mWp} {Q : Option Value → mH → Prop} (v0 : Option Nat) (v2 : Int32) (v3 : Int32) (v4 : Int32) (v5 : Int32) (h : mH) {res : Int32} (e : f_X8_isAgain_l10 v0 v2 v3 v4 v5 h = some res) (q : (fun r : Int32 => Q (some (.int r)) h) res) : mGo w kX8_isAgain 0 0 10 [some (va_rf v0), none, some (.int v2), some (.int v3), some (.int v4), some (.int v5), none] [] h Q := by
  unfold f_X8_isAgain_l10 at e
  refine mLoop_go (x := (v5)) (fun x : Int32 => mGo w kX8_isAgain 0 0 10 [some (va_rf v0), none, some (.int v2), some (.int v3), some (.int v4), some (.int x), none] [] h Q) (fun r : Int32 => Q (some (.int r)) h) ?_ e q
  rintro v5 res e q
  exact g_X8_isAgain_b10 v0 v2 v3 v4 v5 h e q
noncomputable def f_X8_isAgain (v0 : Option Nat) (v1 : Int32) (v2 : Int32) (v3 : Int32) (h : mH) : Option (Int32) :=
  f_X8_isAgain_l10 v0 v2 v3 (((1 : Int32) <<< (v1 &&& 31)) - (1 : Int32)) (0 : Int32) h
set_option maxRecDepth 100000 in
set_option maxHeartbeats 4000000 in
theorem g_X8_isAgain {w : mWp} {Q : Option Value → mH → Prop} (v0 : Option Nat) (v1 : Int32) (v2 : Int32) (v3 : Int32) (h : mH) {res : Int32} (e : f_X8_isAgain v0 v1 v2 v3 h = some res) (q : (fun r : Int32 => Q (some (.int r)) h) res) : mGo w kX8_isAgain 0 0 0 [some (va_rf v0), some (.int v1), some (.int v2), some (.int v3), none, none, none] [] h Q := by
  unfold f_X8_isAgain at e
  refine mGo.iconst (n := 1) (v := (1 : Int32)) dX8_isAgain_0 (by decide) rfl ?_
  refine mGo.iload_n (n := 2) (x := v1) dX8_isAgain_1 rfl rfl ?_
  refine mGo.ishl (n := 3) dX8_isAgain_2 rfl ?_
  refine mGo.iconst (n := 4) (v := (1 : Int32)) dX8_isAgain_3 (by decide) rfl ?_
  refine mGo.isub (n := 5) dX8_isAgain_4 rfl ?_
  refine mGo.istore (n := 7) (ls' := [some (va_rf v0), some (.int v1), some (.int v2), some (.int v3), some (.int (((1 : Int32) <<< (v1 &&& 31)) - (1 : Int32))), none, none]) dX8_isAgain_5 rfl (Nat.le_of_ble_eq_true rfl) rfl ?_
  refine mGo.iconst (n := 8) (v := (0 : Int32)) dX8_isAgain_7 (by decide) rfl ?_
  refine mGo.istore (n := 10) (ls' := [some (va_rf v0), some (.int v1), some (.int v2), some (.int v3), some (.int (((1 : Int32) <<< (v1 &&& 31)) - (1 : Int32))), some (.int (0 : Int32)), none]) dX8_isAgain_8 rfl (Nat.le_of_ble_eq_true rfl) rfl ?_
  refine mGo.mk [true, false, true, true, true, true, false] ?_
  exact g_X8_isAgain_l10 v0 v2 v3 (((1 : Int32) <<< (v1 &&& 31)) - (1 : Int32)) (0 : Int32) h e q
theorem e_X8_isAgain {w : mWp} (v0 : Option Nat) (v1 : Int32) (v2 : Int32) (v3 : Int32) (h : mH) {res : Int32} (e : f_X8_isAgain v0 v1 v2 v3 h = some res) : mEx w zX8_isAgain (mRoom 2 0 0) [va_rf v0, .int v1, .int v2, .int v3] h (fun r h2 => r = some (.int res) ∧ h2 = h) := by
  refine mEx.of (by decide +kernel) (show mEnt [va_rf v0, .int v1, .int v2, .int v3] 7 = [some (va_rf v0), some (.int v1), some (.int v2), some (.int v3), none, none, none] by rw [mEnt_r, mEnt_i, mEnt_i, mEnt_i] <;> rfl) (by simp only [List.map_cons, List.map_nil, mRfc, mCi, mCj, List.sum_cons, List.sum_nil]; exact Nat.le_of_ble_eq_true rfl) ?_
  refine g_X8_isAgain v0 v1 v2 v3 h e ?_
  exact ⟨rfl, rfl⟩
-- X3_lower
def kX3_lower (nf : Nat) : mK := (cX3_lower, RX3, 7, none, "lower", mRoom (3 + nf) 0 0)
def zX3_lower : mY := (yX3_lower, cX3_lower, 7, none)
set_option maxRecDepth 100000 in
theorem sf_RX3_27 : mFld RX3 27 2 0 := ⟨by decide, by decide, Or.inl (mT_at 208 (by decide +kernel) rfl)⟩
set_option maxRecDepth 100000 in
theorem sc_RX3_51 : mSS RX3 51 zX8_inSet 2 := ⟨Or.inr ⟨_, mNest_at 520 (x := Cond.methodLinkNest RX3 51 yX8_inSet "SignTables") (by decide +kernel) rfl⟩, mT_at 370 (by decide +kernel) rfl, mT_at 83 (by decide +kernel) rfl, mT_at 371 (by decide +kernel) rfl, ⟨by decide +kernel, by decide +kernel, by decide +kernel⟩⟩
set_option maxRecDepth 100000 in
theorem sf_RX3_33 : mFld RX3 33 2 1 := ⟨by decide, by decide, Or.inl (mT_at 209 (by decide +kernel) rfl)⟩
set_option maxRecDepth 100000 in
theorem sc_RX3_55 : mSS RX3 55 zX8_isAgain 4 := ⟨Or.inr ⟨_, mNest_at 521 (x := Cond.methodLinkNest RX3 55 yX8_isAgain "SignTables") (by decide +kernel) rfl⟩, mT_at 604 (by decide +kernel) rfl, mT_at 83 (by decide +kernel) rfl, mT_at 605 (by decide +kernel) rfl, ⟨by decide +kernel, by decide +kernel, by decide +kernel⟩⟩
set_option maxRecDepth 100000 in
theorem sf_RX3_44 : mFld RX3 44 2 2 := ⟨by decide, by decide, Or.inl (mT_at 210 (by decide +kernel) rfl)⟩
set_option maxRecDepth 100000 in
theorem sc_RX3_59 : mSV RX3 59 zX3_splitBlocks 2 2 := ⟨Or.inl (mT_at 606 (by decide +kernel) rfl), mT_at 608 (by decide +kernel) rfl, mT_at 23 (by decide +kernel) rfl, mT_at 87 (by decide +kernel) rfl, mT_at 609 (by decide +kernel) rfl, ⟨by decide +kernel, by decide +kernel, by decide +kernel⟩, by decide, rfl⟩
set_option maxRecDepth 100000 in
theorem sc_RX3_63 : mSS RX3 63 zJ7_fill_fda19 4 := ⟨Or.inl (mT_at 615 (by decide +kernel) rfl), mT_at 616 (by decide +kernel) rfl, mT_at 92 (by decide +kernel) rfl, mT_at 617 (by decide +kernel) rfl, ⟨by decide +kernel, by decide +kernel, by decide +kernel⟩⟩
set_option maxRecDepth 100000 in
theorem sc_RX3_47 : mSS RX3 47 zX3_lower 3 := ⟨Or.inl (mT_at 599 (by decide +kernel) rfl), mT_at 600 (by decide +kernel) rfl, mT_at 87 (by decide +kernel) rfl, mT_at 601 (by decide +kernel) rfl, ⟨by decide +kernel, by decide +kernel, by decide +kernel⟩⟩
def f_X3_lower_c129 (F : Option Nat → Int32 → Int32 → mH → Option (mH)) (v0 : Option Nat) (v1 : Int32) (v2 : Int32) (v3 : Int32) (v4 : Int32) (v6 : Int32) (h : mH) : Option ((Int32 × mH) ⊕ (mH)) :=
  (mGR h v0 2 3).bind fun x1 =>
  (mAI h x1 v1).bind fun x2 =>
  if v6 = x2 then
    (F v0 (v1 + (1 : Int32)) (v2 ||| ((1 : Int32) <<< (v4 &&& 31))) h).bind fun x3 =>
    some (Sum.inl ((v3 + 1), x3))
  else
    some (Sum.inl ((v3 + 1), h))
set_option maxRecDepth 100000 in
set_option maxHeartbeats 4000000 in
theorem g_X3_lower_c129 {w : mWp} {Q : Option Value → mH → Prop} {nf : Nat} {F : Option Nat → Int32 → Int32 → mH → Option (mH)} (hF : ∀ (v0 : Option Nat) (v1 : Int32) (v2 : Int32) (h : mH) {res : mH}, F v0 v1 v2 h = some res → mEx w zX3_lower (mRoom (3 + nf) 0 0) [va_rf v0, .int v1, .int v2] h (fun r h2 => r = none ∧ h2 = res)) (v0 : Option Nat) (v1 : Int32) (v2 : Int32) (v3 : Int32) (v4 : Int32) (v6 : Int32) (h : mH) {res : (Int32 × mH) ⊕ (mH)} (e : f_X3_lower_c129 F v0 v1 v2 v3 v4 v6 h = some res) (q : (Sum.elim (fun x : Int32 × mH => mGo w (kX3_lower (nf + 1)) 0 0 17 [some (va_rf v0), some (.int v1), some (.int v2), some (.int x.1), none, none, none] [] x.2 Q) (fun r : mH => Q none r)) res) : mGo w (kX3_lower (nf + 1)) 0 0 129 [some (va_rf v0), some (.int v1), some (.int v2), some (.int v3), some (.int v4), none, some (.int v6)] [] h Q := by
  unfold f_X3_lower_c129 at e
  refine mGo.iload (n := 131) (x := v6) dX3_lower_129 rfl rfl ?_
  refine mGo.aload_n (n := 132) (r := v0) dX3_lower_131 rfl rfl ?_
  obtain ⟨x1, e_x1, e⟩ := mBind e
  refine mGo.getR (n := 135) dX3_lower_132 sf_RX3_9 e_x1 rfl ?_
  refine mGo.iload_n (n := 136) (x := v1) dX3_lower_135 rfl rfl ?_
  obtain ⟨x2, e_x2, e⟩ := mBind e
  refine mGo.iald (n := 137) dX3_lower_136 e_x2 rfl ?_
  refine mGo.icmp_ne (tgt := 153) (n := 140) dX3_lower_137 (by decide) rfl (fun hc => ?_) (fun hc => ?_)
  · replace e := mIff hc e
    refine mGo.iinc (n := 156) (x := v3) (v := (v3 + 1)) (ls' := [some (va_rf v0), some (.int v1), some (.int v2), some (.int (v3 + 1)), some (.int v4), none, some (.int v6)]) dX3_lower_153 rfl rfl rfl (Nat.le_of_ble_eq_true rfl) rfl ?_
    refine mGo.goto (tgt := 17) dX3_lower_156 (by decide) ?_
    cases e
    refine mGo.mk [true, true, true, true, false, false, false] ?_
    exact q
  · replace e := mIft hc e
    refine mGo.aload_n (n := 141) (r := v0) dX3_lower_140 rfl rfl ?_
    refine mGo.iload_n (n := 142) (x := v1) dX3_lower_141 rfl rfl ?_
    refine mGo.iconst (n := 143) (v := (1 : Int32)) dX3_lower_142 (by decide) rfl ?_
    refine mGo.iadd (n := 144) dX3_lower_143 rfl ?_
    refine mGo.iload_n (n := 145) (x := v2) dX3_lower_144 rfl rfl ?_
    refine mGo.iconst (n := 146) (v := (1 : Int32)) dX3_lower_145 (by decide) rfl ?_
    refine mGo.iload (n := 148) (x := v4) dX3_lower_146 rfl rfl ?_
    refine mGo.ishl (n := 149) dX3_lower_148 rfl ?_
    refine mGo.ior (n := 150) dX3_lower_149 rfl ?_
    obtain ⟨x3, e_x3, e⟩ := mBind e
    refine mGo.callS (n := 153) (y := zX3_lower) (R' := (mRoom (3 + nf) 0 0)) (as := [va_rf v0, .int (v1 + (1 : Int32)), .int (v2 ||| ((1 : Int32) <<< (v4 &&& 31)))]) (st := []) dX3_lower_150 sc_RX3_47 rfl (hF v0 (v1 + (1 : Int32)) (v2 ||| ((1 : Int32) <<< (v4 &&& 31))) h e_x3) (mFit_of rfl (by omega) (by decide) (Nat.le_of_ble_eq_true rfl) (Nat.le_of_ble_eq_true rfl)) (Nat.le_of_ble_eq_true rfl) rfl rfl ?_
    intro _ _ hq
    rw [hq.1, hq.2]
    show mGo w (kX3_lower (nf + 1)) 0 0 153 [some (va_rf v0), some (.int v1), some (.int v2), some (.int v3), some (.int v4), none, some (.int v6)] [] x3 Q
    refine mGo.iinc (n := 156) (x := v3) (v := (v3 + 1)) (ls' := [some (va_rf v0), some (.int v1), some (.int v2), some (.int (v3 + 1)), some (.int v4), none, some (.int v6)]) dX3_lower_153 rfl rfl rfl (Nat.le_of_ble_eq_true rfl) rfl ?_
    refine mGo.goto (tgt := 17) dX3_lower_156 (by decide) ?_
    cases e
    refine mGo.mk [true, true, true, true, false, false, false] ?_
    exact q
noncomputable def f_X3_lower_c87 (F : Option Nat → Int32 → Int32 → mH → Option (mH)) (v0 : Option Nat) (v1 : Int32) (v2 : Int32) (v3 : Int32) (v4 : Int32) (v5 : Int32) (h : mH) : Option ((Int32 × mH) ⊕ (mH)) :=
  (f_X3_splitBlocks v0 v1 v5 h).bind fun x1 =>
  (mGR x1.2 v0 2 3).bind fun x2 =>
  (mAI x1.2 x2 v1).bind fun x3 =>
  if x3 ≤ x1.1 then
    f_X3_lower_c129 F v0 v1 v2 v3 v4 x1.1 x1.2
  else
    (mGR x1.2 v0 2 3).bind fun x4 =>
    (mGI x1.2 v0 2 0).bind fun x5 =>
    (f_J7_fill_fda19 x4 v1 x5 (64 : Int32) x1.2).bind fun x6 =>
    (mGR x6 v0 2 3).bind fun x7 =>
    (mSI x6 x7 v1 x1.1).bind fun h8 =>
    f_X3_lower_c129 F v0 v1 v2 v3 v4 x1.1 h8
set_option maxRecDepth 100000 in
set_option maxHeartbeats 4000000 in
theorem g_X3_lower_c87 {w : mWp} {Q : Option Value → mH → Prop} {nf : Nat} {F : Option Nat → Int32 → Int32 → mH → Option (mH)} (hF : ∀ (v0 : Option Nat) (v1 : Int32) (v2 : Int32) (h : mH) {res : mH}, F v0 v1 v2 h = some res → mEx w zX3_lower (mRoom (3 + nf) 0 0) [va_rf v0, .int v1, .int v2] h (fun r h2 => r = none ∧ h2 = res)) (v0 : Option Nat) (v1 : Int32) (v2 : Int32) (v3 : Int32) (v4 : Int32) (v5 : Int32) (h : mH) {res : (Int32 × mH) ⊕ (mH)} (e : f_X3_lower_c87 F v0 v1 v2 v3 v4 v5 h = some res) (q : (Sum.elim (fun x : Int32 × mH => mGo w (kX3_lower (nf + 1)) 0 0 17 [some (va_rf v0), some (.int v1), some (.int v2), some (.int x.1), none, none, none] [] x.2 Q) (fun r : mH => Q none r)) res) : mGo w (kX3_lower (nf + 1)) 0 0 87 [some (va_rf v0), some (.int v1), some (.int v2), some (.int v3), some (.int v4), some (.int v5), none] [] h Q := by
  unfold f_X3_lower_c87 at e
  refine mGo.aload_n (n := 88) (r := v0) dX3_lower_87 rfl rfl ?_
  refine mGo.iload_n (n := 89) (x := v1) dX3_lower_88 rfl rfl ?_
  refine mGo.iload (n := 91) (x := v5) dX3_lower_89 rfl rfl ?_
  obtain ⟨x1, e_x1, e⟩ := mBind e
  refine mGo.callV (n := 94) (y := zX3_splitBlocks) (R' := (mRoom (2) 0 0)) (as := [.int v1, .int v5]) (st := []) (r0 := v0) dX3_lower_91 sc_RX3_59 rfl (s_X3_splitBlocks v0 v1 v5 h e_x1) (e_X3_splitBlocks v0 v1 v5 h e_x1) (mFit_of rfl (by omega) (by decide) (Nat.le_of_ble_eq_true rfl) (Nat.le_of_ble_eq_true rfl)) (Nat.le_of_ble_eq_true rfl) rfl rfl ?_
  intro _ _ hq
  rw [hq.1, hq.2]
  show mGo w (kX3_lower (nf + 1)) 0 0 94 [some (va_rf v0), some (.int v1), some (.int v2), some (.int v3), some (.int v4), some (.int v5), none] [.int x1.1] x1.2 Q
  refine mGo.istore (n := 96) (ls' := [some (va_rf v0), some (.int v1), some (.int v2), some (.int v3), some (.int v4), some (.int v5), some (.int x1.1)]) dX3_lower_94 rfl (Nat.le_of_ble_eq_true rfl) rfl ?_
  refine mGo.iload (n := 98) (x := x1.1) dX3_lower_96 rfl rfl ?_
  refine mGo.aload_n (n := 99) (r := v0) dX3_lower_98 rfl rfl ?_
  obtain ⟨x2, e_x2, e⟩ := mBind e
  refine mGo.getR (n := 102) dX3_lower_99 sf_RX3_9 e_x2 rfl ?_
  refine mGo.iload_n (n := 103) (x := v1) dX3_lower_102 rfl rfl ?_
  obtain ⟨x3, e_x3, e⟩ := mBind e
  refine mGo.iald (n := 104) dX3_lower_103 e_x3 rfl ?_
  refine mGo.icmp_ge (tgt := 129) (n := 107) dX3_lower_104 (by decide) rfl (fun hc => ?_) (fun hc => ?_)
  · replace e := mIft hc e
    refine mGo.mk [true, true, true, true, true, false, true] ?_
    exact g_X3_lower_c129 hF v0 v1 v2 v3 v4 x1.1 x1.2 e q
  · replace e := mIff hc e
    refine mGo.aload_n (n := 108) (r := v0) dX3_lower_107 rfl rfl ?_
    obtain ⟨x4, e_x4, e⟩ := mBind e
    refine mGo.getR (n := 111) dX3_lower_108 sf_RX3_9 e_x4 rfl ?_
    refine mGo.iload_n (n := 112) (x := v1) dX3_lower_111 rfl rfl ?_
    refine mGo.aload_n (n := 113) (r := v0) dX3_lower_112 rfl rfl ?_
    obtain ⟨x5, e_x5, e⟩ := mBind e
    refine mGo.getI (n := 116) dX3_lower_113 sf_RX3_27 e_x5 rfl ?_
    refine mGo.bipush (n := 118) (v := (64 : Int32)) dX3_lower_116 (by decide) rfl ?_
    obtain ⟨x6, e_x6, e⟩ := mBind e
    refine mGo.callS (n := 121) (y := zJ7_fill_fda19) (R' := (mRoom (2) 0 0)) (as := [va_rf x4, .int v1, .int x5, .int (64 : Int32)]) (st := []) dX3_lower_118 sc_RX3_63 rfl (e_J7_fill_fda19 x4 v1 x5 (64 : Int32) x1.2 e_x6) (mFit_of rfl (by omega) (by decide) (Nat.le_of_ble_eq_true rfl) (Nat.le_of_ble_eq_true rfl)) (Nat.le_of_ble_eq_true rfl) rfl rfl ?_
    intro _ _ hq
    rw [hq.1, hq.2]
    show mGo w (kX3_lower (nf + 1)) 0 0 121 [some (va_rf v0), some (.int v1), some (.int v2), some (.int v3), some (.int v4), some (.int v5), some (.int x1.1)] [] x6 Q
    refine mGo.aload_n (n := 122) (r := v0) dX3_lower_121 rfl rfl ?_
    obtain ⟨x7, e_x7, e⟩ := mBind e
    refine mGo.getR (n := 125) dX3_lower_122 sf_RX3_9 e_x7 rfl ?_
    refine mGo.iload_n (n := 126) (x := v1) dX3_lower_125 rfl rfl ?_
    refine mGo.iload (n := 128) (x := x1.1) dX3_lower_126 rfl rfl ?_
    obtain ⟨h8, e_h8, e⟩ := mBind e
    refine mGo.iast (n := 129) dX3_lower_128 e_h8 rfl ?_
    refine mGo.mk [true, true, true, true, true, false, true] ?_
    exact g_X3_lower_c129 hF v0 v1 v2 v3 v4 x1.1 h8 e q
noncomputable def f_X3_lower_b17 (F : Option Nat → Int32 → Int32 → mH → Option (mH)) (v0 : Option Nat) (v1 : Int32) (v2 : Int32) (v3 : Int32) (h : mH) : Option ((Int32 × mH) ⊕ (mH)) :=
  (mGI h v0 2 0).bind fun x1 =>
  if ((2 : Int32) * x1) ≤ v3 then
    some (Sum.inr h)
  else
    (f_X8_inSet v2 (v3 >>> ((1 : Int32) &&& 31))).bind fun x2 =>
    if x2 = 0 then
      (mGR h v0 2 1).bind fun x3 =>
      (mGI h v0 2 0).bind fun x4 =>
      (f_X8_isAgain x3 x4 (v3 >>> ((1 : Int32) &&& 31)) v2 h).bind fun x5 =>
      if x5 = 0 then
        (mGR h v0 2 1).bind fun x6 =>
        (mAI h x6 (v3 >>> ((1 : Int32) &&& 31))).bind fun x7 =>
        (mGI h v0 2 2).bind fun x8 =>
        if (v3 &&& (1 : Int32)) = 0 then
          f_X3_lower_c87 F v0 v1 v2 v3 (v3 >>> ((1 : Int32) &&& 31)) (x7 ^^^ x8) h
        else
          f_X3_lower_c87 F v0 v1 v2 v3 (v3 >>> ((1 : Int32) &&& 31)) ((x7 ^^^ x8) ^^^ (-1 : Int32)) h
      else
        some (Sum.inl ((v3 + 1), h))
    else
      some (Sum.inl ((v3 + 1), h))
set_option maxRecDepth 100000 in
set_option maxHeartbeats 4000000 in
theorem g_X3_lower_b17 {w : mWp} {Q : Option Value → mH → Prop} {nf : Nat} {F : Option Nat → Int32 → Int32 → mH → Option (mH)} (hF : ∀ (v0 : Option Nat) (v1 : Int32) (v2 : Int32) (h : mH) {res : mH}, F v0 v1 v2 h = some res → mEx w zX3_lower (mRoom (3 + nf) 0 0) [va_rf v0, .int v1, .int v2] h (fun r h2 => r = none ∧ h2 = res)) (v0 : Option Nat) (v1 : Int32) (v2 : Int32) (v3 : Int32) (h : mH) {res : (Int32 × mH) ⊕ (mH)} (e : f_X3_lower_b17 F v0 v1 v2 v3 h = some res) (q : (Sum.elim (fun x : Int32 × mH => mGo w (kX3_lower (nf + 1)) 0 0 17 [some (va_rf v0), some (.int v1), some (.int v2), some (.int x.1), none, none, none] [] x.2 Q) (fun r : mH => Q none r)) res) : mGo w (kX3_lower (nf + 1)) 0 0 17 [some (va_rf v0), some (.int v1), some (.int v2), some (.int v3), none, none, none] [] h Q := by
  unfold f_X3_lower_b17 at e
  refine mGo.iload_n (n := 18) (x := v3) dX3_lower_17 rfl rfl ?_
  refine mGo.iconst (n := 19) (v := (2 : Int32)) dX3_lower_18 (by decide) rfl ?_
  refine mGo.aload_n (n := 20) (r := v0) dX3_lower_19 rfl rfl ?_
  obtain ⟨x1, e_x1, e⟩ := mBind e
  refine mGo.getI (n := 23) dX3_lower_20 sf_RX3_27 e_x1 rfl ?_
  refine mGo.imul (n := 24) dX3_lower_23 rfl ?_
  refine mGo.icmp_ge (tgt := 159) (n := 27) dX3_lower_24 (by decide) rfl (fun hc => ?_) (fun hc => ?_)
  · replace e := mIft hc e
    cases e
    exact mGo.vret dX3_lower_159 rfl (Nat.le_of_ble_eq_true rfl) (Nat.le_of_ble_eq_true rfl) q
  · replace e := mIff hc e
    refine mGo.iload_n (n := 28) (x := v3) dX3_lower_27 rfl rfl ?_
    refine mGo.iconst (n := 29) (v := (1 : Int32)) dX3_lower_28 (by decide) rfl ?_
    refine mGo.ishr (n := 30) dX3_lower_29 rfl ?_
    refine mGo.istore (n := 32) (ls' := [some (va_rf v0), some (.int v1), some (.int v2), some (.int v3), some (.int (v3 >>> ((1 : Int32) &&& 31))), none, none]) dX3_lower_30 rfl (Nat.le_of_ble_eq_true rfl) rfl ?_
    refine mGo.iload_n (n := 33) (x := v2) dX3_lower_32 rfl rfl ?_
    refine mGo.iload (n := 35) (x := (v3 >>> ((1 : Int32) &&& 31))) dX3_lower_33 rfl rfl ?_
    obtain ⟨x2, e_x2, e⟩ := mBind e
    refine mGo.callS (n := 38) (y := zX8_inSet) (R' := (mRoom (1) 0 0)) (as := [.int v2, .int (v3 >>> ((1 : Int32) &&& 31))]) (st := []) dX3_lower_35 sc_RX3_51 rfl (e_X8_inSet v2 (v3 >>> ((1 : Int32) &&& 31)) h e_x2) (mFit_of rfl (by omega) (by decide) (Nat.le_of_ble_eq_true rfl) (Nat.le_of_ble_eq_true rfl)) (Nat.le_of_ble_eq_true rfl) rfl rfl ?_
    intro _ _ hq
    rw [hq.1, hq.2]
    show mGo w (kX3_lower (nf + 1)) 0 0 38 [some (va_rf v0), some (.int v1), some (.int v2), some (.int v3), some (.int (v3 >>> ((1 : Int32) &&& 31))), none, none] [.int x2] h Q
    refine mGo.if_ne (tgt := 153) (n := 41) dX3_lower_38 (by decide) rfl (fun hc => ?_) (fun hc => ?_)
    · replace e := mIff hc e
      refine mGo.iinc (n := 156) (x := v3) (v := (v3 + 1)) (ls' := [some (va_rf v0), some (.int v1), some (.int v2), some (.int (v3 + 1)), some (.int (v3 >>> ((1 : Int32) &&& 31))), none, none]) dX3_lower_153 rfl rfl rfl (Nat.le_of_ble_eq_true rfl) rfl ?_
      refine mGo.goto (tgt := 17) dX3_lower_156 (by decide) ?_
      cases e
      refine mGo.mk [true, true, true, true, false, false, false] ?_
      exact q
    · replace e := mIft hc e
      refine mGo.aload_n (n := 42) (r := v0) dX3_lower_41 rfl rfl ?_
      obtain ⟨x3, e_x3, e⟩ := mBind e
      refine mGo.getR (n := 45) dX3_lower_42 sf_RX3_33 e_x3 rfl ?_
      refine mGo.aload_n (n := 46) (r := v0) dX3_lower_45 rfl rfl ?_
      obtain ⟨x4, e_x4, e⟩ := mBind e
      refine mGo.getI (n := 49) dX3_lower_46 sf_RX3_27 e_x4 rfl ?_
      refine mGo.iload (n := 51) (x := (v3 >>> ((1 : Int32) &&& 31))) dX3_lower_49 rfl rfl ?_
      refine mGo.iload_n (n := 52) (x := v2) dX3_lower_51 rfl rfl ?_
      obtain ⟨x5, e_x5, e⟩ := mBind e
      refine mGo.callS (n := 55) (y := zX8_isAgain) (R' := (mRoom (2) 0 0)) (as := [va_rf x3, .int x4, .int (v3 >>> ((1 : Int32) &&& 31)), .int v2]) (st := []) dX3_lower_52 sc_RX3_55 rfl (e_X8_isAgain x3 x4 (v3 >>> ((1 : Int32) &&& 31)) v2 h e_x5) (mFit_of rfl (by omega) (by decide) (Nat.le_of_ble_eq_true rfl) (Nat.le_of_ble_eq_true rfl)) (Nat.le_of_ble_eq_true rfl) rfl rfl ?_
      intro _ _ hq
      rw [hq.1, hq.2]
      show mGo w (kX3_lower (nf + 1)) 0 0 55 [some (va_rf v0), some (.int v1), some (.int v2), some (.int v3), some (.int (v3 >>> ((1 : Int32) &&& 31))), none, none] [.int x5] h Q
      refine mGo.if_eq (tgt := 61) (n := 58) dX3_lower_55 (by decide) rfl (fun hc => ?_) (fun hc => ?_)
      · replace e := mIft hc e
        refine mGo.aload_n (n := 62) (r := v0) dX3_lower_61 rfl rfl ?_
        obtain ⟨x6, e_x6, e⟩ := mBind e
        refine mGo.getR (n := 65) dX3_lower_62 sf_RX3_33 e_x6 rfl ?_
        refine mGo.iload (n := 67) (x := (v3 >>> ((1 : Int32) &&& 31))) dX3_lower_65 rfl rfl ?_
        obtain ⟨x7, e_x7, e⟩ := mBind e
        refine mGo.iald (n := 68) dX3_lower_67 e_x7 rfl ?_
        refine mGo.aload_n (n := 69) (r := v0) dX3_lower_68 rfl rfl ?_
        obtain ⟨x8, e_x8, e⟩ := mBind e
        refine mGo.getI (n := 72) dX3_lower_69 sf_RX3_44 e_x8 rfl ?_
        refine mGo.ixor (n := 73) dX3_lower_72 rfl ?_
        refine mGo.istore (n := 75) (ls' := [some (va_rf v0), some (.int v1), some (.int v2), some (.int v3), some (.int (v3 >>> ((1 : Int32) &&& 31))), some (.int (x7 ^^^ x8)), none]) dX3_lower_73 rfl (Nat.le_of_ble_eq_true rfl) rfl ?_
        refine mGo.iload_n (n := 76) (x := v3) dX3_lower_75 rfl rfl ?_
        refine mGo.iconst (n := 77) (v := (1 : Int32)) dX3_lower_76 (by decide) rfl ?_
        refine mGo.iand (n := 78) dX3_lower_77 rfl ?_
        refine mGo.if_eq (tgt := 87) (n := 81) dX3_lower_78 (by decide) rfl (fun hc => ?_) (fun hc => ?_)
        · replace e := mIft hc e
          refine mGo.mk [true, true, true, true, true, true, false] ?_
          exact g_X3_lower_c87 hF v0 v1 v2 v3 (v3 >>> ((1 : Int32) &&& 31)) (x7 ^^^ x8) h e q
        · replace e := mIff hc e
          refine mGo.iload (n := 83) (x := (x7 ^^^ x8)) dX3_lower_81 rfl rfl ?_
          refine mGo.iconst (n := 84) (v := (-1 : Int32)) dX3_lower_83 (by decide) rfl ?_
          refine mGo.ixor (n := 85) dX3_lower_84 rfl ?_
          refine mGo.istore (n := 87) (ls' := [some (va_rf v0), some (.int v1), some (.int v2), some (.int v3), some (.int (v3 >>> ((1 : Int32) &&& 31))), some (.int ((x7 ^^^ x8) ^^^ (-1 : Int32))), none]) dX3_lower_85 rfl (Nat.le_of_ble_eq_true rfl) rfl ?_
          refine mGo.mk [true, true, true, true, true, true, false] ?_
          exact g_X3_lower_c87 hF v0 v1 v2 v3 (v3 >>> ((1 : Int32) &&& 31)) ((x7 ^^^ x8) ^^^ (-1 : Int32)) h e q
      · replace e := mIff hc e
        refine mGo.goto (tgt := 153) dX3_lower_58 (by decide) ?_
        refine mGo.iinc (n := 156) (x := v3) (v := (v3 + 1)) (ls' := [some (va_rf v0), some (.int v1), some (.int v2), some (.int (v3 + 1)), some (.int (v3 >>> ((1 : Int32) &&& 31))), none, none]) dX3_lower_153 rfl rfl rfl (Nat.le_of_ble_eq_true rfl) rfl ?_
        refine mGo.goto (tgt := 17) dX3_lower_156 (by decide) ?_
        cases e
        refine mGo.mk [true, true, true, true, false, false, false] ?_
        exact q
noncomputable def f_X3_lower_l17 (F : Option Nat → Int32 → Int32 → mH → Option (mH)) (v0 : Option Nat) (v1 : Int32) (v2 : Int32) (v3 : Int32) (h : mH) : Option (mH) :=
  mLoop (fun x : Int32 × mH => f_X3_lower_b17 F v0 v1 v2 x.1 x.2) (v3, h)
set_option maxRecDepth 100000 in
set_option maxHeartbeats 4000000 in
theorem g_X3_lower_l17 {w : mWp} {Q : Option Value → mH → Prop} {nf : Nat} {F : Option Nat → Int32 → Int32 → mH → Option (mH)} (hF : ∀ (v0 : Option Nat) (v1 : Int32) (v2 : Int32) (h : mH) {res : mH}, F v0 v1 v2 h = some res → mEx w zX3_lower (mRoom (3 + nf) 0 0) [va_rf v0, .int v1, .int v2] h (fun r h2 => r = none ∧ h2 = res)) (v0 : Option Nat) (v1 : Int32) (v2 : Int32) (v3 : Int32) (h : mH) {res : mH} (e : f_X3_lower_l17 F v0 v1 v2 v3 h = some res) (q : (fun r : mH => Q none r) res) : mGo w (kX3_lower (nf + 1)) 0 0 17 [some (va_rf v0), some (.int v1), some (.int v2), some (.int v3), none, none, none] [] h Q := by
  unfold f_X3_lower_l17 at e
  refine mLoop_go (x := (v3, h)) (fun x : Int32 × mH => mGo w (kX3_lower (nf + 1)) 0 0 17 [some (va_rf v0), some (.int v1), some (.int v2), some (.int x.1), none, none, none] [] x.2 Q) (fun r : mH => Q none r) ?_ e q
  rintro ⟨v3, h1⟩ res e q
  exact g_X3_lower_b17 hF v0 v1 v2 v3 h1 e q
noncomputable def f_X3_lower_r (F : Option Nat → Int32 → Int32 → mH → Option (mH)) (v0 : Option Nat) (v1 : Int32) (v2 : Int32) (h : mH) : Option (mH) :=
  (mGI h v0 2 0).bind fun x1 =>
  if x1 ≤ v1 then
    some h
  else
    if v1 < (6 : Int32) then
      f_X3_lower_l17 F v0 v1 v2 (0 : Int32) h
    else
      some h
set_option maxRecDepth 100000 in
set_option maxHeartbeats 4000000 in
theorem g_X3_lower_r {w : mWp} {Q : Option Value → mH → Prop} {nf : Nat} {F : Option Nat → Int32 → Int32 → mH → Option (mH)} (hF : ∀ (v0 : Option Nat) (v1 : Int32) (v2 : Int32) (h : mH) {res : mH}, F v0 v1 v2 h = some res → mEx w zX3_lower (mRoom (3 + nf) 0 0) [va_rf v0, .int v1, .int v2] h (fun r h2 => r = none ∧ h2 = res)) (v0 : Option Nat) (v1 : Int32) (v2 : Int32) (h : mH) {res : mH} (e : f_X3_lower_r F v0 v1 v2 h = some res) (q : (fun r : mH => Q none r) res) : mGo w (kX3_lower (nf + 1)) 0 0 0 [some (va_rf v0), some (.int v1), some (.int v2), none, none, none, none] [] h Q := by
  unfold f_X3_lower_r at e
  refine mGo.iload_n (n := 1) (x := v1) dX3_lower_0 rfl rfl ?_
  refine mGo.aload_n (n := 2) (r := v0) dX3_lower_1 rfl rfl ?_
  obtain ⟨x1, e_x1, e⟩ := mBind e
  refine mGo.getI (n := 5) dX3_lower_2 sf_RX3_27 e_x1 rfl ?_
  refine mGo.icmp_ge (tgt := 14) (n := 8) dX3_lower_5 (by decide) rfl (fun hc => ?_) (fun hc => ?_)
  · replace e := mIft hc e
    cases e
    exact mGo.vret dX3_lower_14 rfl (Nat.le_of_ble_eq_true rfl) (Nat.le_of_ble_eq_true rfl) q
  · replace e := mIff hc e
    refine mGo.iload_n (n := 9) (x := v1) dX3_lower_8 rfl rfl ?_
    refine mGo.bipush (n := 11) (v := (6 : Int32)) dX3_lower_9 (by decide) rfl ?_
    refine mGo.icmp_lt (tgt := 15) (n := 14) dX3_lower_11 (by decide) rfl (fun hc => ?_) (fun hc => ?_)
    · replace e := mIft hc e
      refine mGo.iconst (n := 16) (v := (0 : Int32)) dX3_lower_15 (by decide) rfl ?_
      refine mGo.istore_n (n := 17) (ls' := [some (va_rf v0), some (.int v1), some (.int v2), some (.int (0 : Int32)), none, none, none]) dX3_lower_16 rfl (Nat.le_of_ble_eq_true rfl) rfl ?_
      refine mGo.mk [true, true, true, true, false, false, false] ?_
      exact g_X3_lower_l17 hF v0 v1 v2 (0 : Int32) h e q
    · replace e := mIff hc e
      cases e
      exact mGo.vret dX3_lower_14 rfl (Nat.le_of_ble_eq_true rfl) (Nat.le_of_ble_eq_true rfl) q
noncomputable def f_X3_lower : Nat → Option Nat → Int32 → Int32 → mH → Option (mH)
  | 0 => fun _ _ _ _ => none
  | nf + 1 => f_X3_lower_r (f_X3_lower nf)
theorem e_X3_lower {w : mWp} : ∀ (nf : Nat) (v0 : Option Nat) (v1 : Int32) (v2 : Int32) (h : mH) {res : mH}, f_X3_lower nf v0 v1 v2 h = some res → mEx w zX3_lower (mRoom (3 + nf) 0 0) [va_rf v0, .int v1, .int v2] h (fun r h2 => r = none ∧ h2 = res) := by
  intro nf
  induction nf with
  | zero => intros; rename_i e; cases e
  | succ nf ih =>
    intro v0 v1 v2 h res e
    refine mEx.of (by decide +kernel) (show mEnt [va_rf v0, .int v1, .int v2] 7 = [some (va_rf v0), some (.int v1), some (.int v2), none, none, none, none] by rw [mEnt_r, mEnt_i, mEnt_i] <;> rfl) (by simp only [List.map_cons, List.map_nil, mRfc, mCi, mCj, List.sum_cons, List.sum_nil]; exact Nat.le_of_ble_eq_true rfl) ?_
    refine g_X3_lower_r (F := f_X3_lower nf) ih v0 v1 v2 h e ?_
    exact ⟨rfl, rfl⟩
-- X7_mask
def kX7_mask : mK := (cX7_mask, RX7, 1, some (.int), "mask", mRoom 1 0 0)
def zX7_mask : mY := (yX7_mask, cX7_mask, 1, some (.int))
set_option maxRecDepth 100000 in
theorem sf_RX7_21 : mFld RX7 21 6 0 := ⟨by decide, by decide, Or.inl (mT_at 113 (by decide +kernel) rfl)⟩
def f_X7_mask (v0 : Option Nat) (h : mH) : Option (Int32) :=
  (mIs h v0 6).bind fun _ =>
  (mGI h v0 6 0).bind fun x1 =>
  some (((1 : Int32) <<< (x1 &&& 31)) - (1 : Int32))
set_option maxRecDepth 100000 in
set_option maxHeartbeats 4000000 in
theorem g_X7_mask {w : mWp} {Q : Option Value → mH → Prop} (v0 : Option Nat) (h : mH) {res : Int32} (e : f_X7_mask v0 h = some res) (q : (fun r : Int32 => Q (some (.int r)) h) res) : mGo w kX7_mask 0 0 0 [some (va_rf v0)] [] h Q := by
  unfold f_X7_mask at e
  obtain ⟨_, _, e⟩ := mBind e
  refine mGo.iconst (n := 1) (v := (1 : Int32)) dX7_mask_0 (by decide) rfl ?_
  refine mGo.aload_n (n := 2) (r := v0) dX7_mask_1 rfl rfl ?_
  obtain ⟨x1, e_x1, e⟩ := mBind e
  refine mGo.getI (n := 5) dX7_mask_2 sf_RX7_21 e_x1 rfl ?_
  refine mGo.ishl (n := 6) dX7_mask_5 rfl ?_
  refine mGo.iconst (n := 7) (v := (1 : Int32)) dX7_mask_6 (by decide) rfl ?_
  refine mGo.isub (n := 8) dX7_mask_7 rfl ?_
  cases e
  exact mGo.iret dX7_mask_8 rfl (Nat.le_of_ble_eq_true rfl) (Nat.le_of_ble_eq_true rfl) q
theorem e_X7_mask {w : mWp} (v0 : Option Nat) (h : mH) {res : Int32} (e : f_X7_mask v0 h = some res) : mEx w zX7_mask (mRoom 1 0 0) [va_rf v0] h (fun r h2 => r = some (.int res) ∧ h2 = h) := by
  refine mEx.of (by decide +kernel) (show mEnt [va_rf v0] 1 = [some (va_rf v0)] by rw [mEnt_r] <;> rfl) (by simp only [List.map_cons, List.map_nil, mRfc, mCi, mCj, List.sum_cons, List.sum_nil]; exact Nat.le_of_ble_eq_true rfl) ?_
  refine g_X7_mask v0 h e ?_
  exact ⟨rfl, rfl⟩
theorem s_X7_mask (v0 : Option Nat) (h : mH) {res : Int32} (e : f_X7_mask v0 h = some res) : mIs h v0 6 = some () := by
  unfold f_X7_mask at e
  obtain ⟨u, e1, _⟩ := mBind e
  cases u
  exact e1
-- X3_find
def kX3_find : mK := (cX3_find, RX3, 3, none, "find", mRoom 24 0 0)
def zX3_find : mY := (yX3_find, cX3_find, 3, none)
set_option maxRecDepth 100000 in
theorem sf_RX3_21 : mFld RX3 21 6 0 := ⟨by decide, by decide, Or.inr ⟨_, mNest_at 32 (x := Cond.fieldLinkNest RX3 21 (mCR 6) (mCT 6 0).2.1 (mCT 6 0).2.2.1 "SignTables") (by decide +kernel) rfl⟩⟩
set_option maxRecDepth 100000 in
theorem sf_RX3_30 : mFld RX3 30 6 1 := ⟨by decide, by decide, Or.inr ⟨_, mNest_at 36 (x := Cond.fieldLinkNest RX3 30 (mCR 6) (mCT 6 1).2.1 (mCT 6 1).2.2.1 "SignTables") (by decide +kernel) rfl⟩⟩
set_option maxRecDepth 100000 in
theorem sc_RX3_34 : mSS RX3 34 zJ7_fill_53178 2 := ⟨Or.inl (mT_at 597 (by decide +kernel) rfl), mT_at 335 (by decide +kernel) rfl, mT_at 92 (by decide +kernel) rfl, mT_at 336 (by decide +kernel) rfl, ⟨by decide +kernel, by decide +kernel, by decide +kernel⟩⟩
set_option maxRecDepth 100000 in
theorem sc_RX3_40 : mSV RX3 40 zX7_mask 0 6 := ⟨Or.inr ⟨_, mNest_at 516 (x := Cond.methodLinkNest RX3 40 yX7_mask "SignTables") (by decide +kernel) rfl⟩, mT_at 392 (by decide +kernel) rfl, mT_at 7 (by decide +kernel) rfl, mT_at 84 (by decide +kernel) rfl, mT_at 393 (by decide +kernel) rfl, ⟨by decide +kernel, by decide +kernel, by decide +kernel⟩, by decide, rfl⟩
noncomputable def f_X3_find_b52 (v0 : Option Nat) (v2 : Int32) (h : mH) : Option ((Int32 × mH) ⊕ (mH)) :=
  (mGI h v0 2 0).bind fun x1 =>
  if x1 ≤ v2 then
    some (Sum.inr h)
  else
    (mGR h v0 2 1).bind fun x2 =>
    (mAI h x2 v2).bind fun x3 =>
    (mPF h v0 2 2 (.int x3)).bind fun h4 =>
    (f_X3_lower 20 v0 (1 : Int32) ((1 : Int32) <<< (v2 &&& 31)) h4).bind fun x5 =>
    some (Sum.inl ((v2 + 1), x5))
set_option maxRecDepth 100000 in
set_option maxHeartbeats 4000000 in
theorem g_X3_find_b52 {w : mWp} {Q : Option Value → mH → Prop} (v0 : Option Nat) (v2 : Int32) (h : mH) {res : (Int32 × mH) ⊕ (mH)} (e : f_X3_find_b52 v0 v2 h = some res) (q : (Sum.elim (fun x : Int32 × mH => mGo w kX3_find 0 0 52 [some (va_rf v0), none, some (.int x.1)] [] x.2 Q) (fun r : mH => Q none r)) res) : mGo w kX3_find 0 0 52 [some (va_rf v0), none, some (.int v2)] [] h Q := by
  unfold f_X3_find_b52 at e
  refine mGo.iload_n (n := 53) (x := v2) dX3_find_52 rfl rfl ?_
  refine mGo.aload_n (n := 54) (r := v0) dX3_find_53 rfl rfl ?_
  obtain ⟨x1, e_x1, e⟩ := mBind e
  refine mGo.getI (n := 57) dX3_find_54 sf_RX3_27 e_x1 rfl ?_
  refine mGo.icmp_ge (tgt := 84) (n := 60) dX3_find_57 (by decide) rfl (fun hc => ?_) (fun hc => ?_)
  · replace e := mIft hc e
    cases e
    exact mGo.vret dX3_find_84 rfl (Nat.le_of_ble_eq_true rfl) (Nat.le_of_ble_eq_true rfl) q
  · replace e := mIff hc e
    refine mGo.aload_n (n := 61) (r := v0) dX3_find_60 rfl rfl ?_
    refine mGo.aload_n (n := 62) (r := v0) dX3_find_61 rfl rfl ?_
    obtain ⟨x2, e_x2, e⟩ := mBind e
    refine mGo.getR (n := 65) dX3_find_62 sf_RX3_33 e_x2 rfl ?_
    refine mGo.iload_n (n := 66) (x := v2) dX3_find_65 rfl rfl ?_
    obtain ⟨x3, e_x3, e⟩ := mBind e
    refine mGo.iald (n := 67) dX3_find_66 e_x3 rfl ?_
    obtain ⟨h4, e_h4, e⟩ := mBind e
    refine mGo.putI (n := 70) dX3_find_67 sf_RX3_44 rfl rfl e_h4 rfl ?_
    refine mGo.aload_n (n := 71) (r := v0) dX3_find_70 rfl rfl ?_
    refine mGo.iconst (n := 72) (v := (1 : Int32)) dX3_find_71 (by decide) rfl ?_
    refine mGo.iconst (n := 73) (v := (1 : Int32)) dX3_find_72 (by decide) rfl ?_
    refine mGo.iload_n (n := 74) (x := v2) dX3_find_73 rfl rfl ?_
    refine mGo.ishl (n := 75) dX3_find_74 rfl ?_
    obtain ⟨x5, e_x5, e⟩ := mBind e
    refine mGo.callS (n := 78) (y := zX3_lower) (R' := (mRoom (3 + 20) 0 0)) (as := [va_rf v0, .int (1 : Int32), .int ((1 : Int32) <<< (v2 &&& 31))]) (st := []) dX3_find_75 sc_RX3_47 rfl (e_X3_lower 20 v0 (1 : Int32) ((1 : Int32) <<< (v2 &&& 31)) h4 e_x5) (mFit_of rfl (Nat.le_of_ble_eq_true rfl) (by decide) (Nat.le_of_ble_eq_true rfl) (Nat.le_of_ble_eq_true rfl)) (Nat.le_of_ble_eq_true rfl) rfl rfl ?_
    intro _ _ hq
    rw [hq.1, hq.2]
    show mGo w kX3_find 0 0 78 [some (va_rf v0), none, some (.int v2)] [] x5 Q
    refine mGo.iinc (n := 81) (x := v2) (v := (v2 + 1)) (ls' := [some (va_rf v0), none, some (.int (v2 + 1))]) dX3_find_78 rfl rfl rfl (Nat.le_of_ble_eq_true rfl) rfl ?_
    refine mGo.goto (tgt := 52) dX3_find_81 (by decide) ?_
    cases e
    refine mGo.mk [true, false, true] ?_
    exact q
noncomputable def f_X3_find_l52 (v0 : Option Nat) (v2 : Int32) (h : mH) : Option (mH) :=
  mLoop (fun x : Int32 × mH => f_X3_find_b52 v0 x.1 x.2) (v2, h)
set_option maxRecDepth 100000 in
set_option maxHeartbeats 4000000 in
theorem g_X3_find_l52 {w : mWp} {Q : Option Value → mH → Prop} (v0 : Option Nat) (v2 : Int32) (h : mH) {res : mH} (e : f_X3_find_l52 v0 v2 h = some res) (q : (fun r : mH => Q none r) res) : mGo w kX3_find 0 0 52 [some (va_rf v0), none, some (.int v2)] [] h Q := by
  unfold f_X3_find_l52 at e
  refine mLoop_go (x := (v2, h)) (fun x : Int32 × mH => mGo w kX3_find 0 0 52 [some (va_rf v0), none, some (.int x.1)] [] x.2 Q) (fun r : mH => Q none r) ?_ e q
  rintro ⟨v2, h1⟩ res e q
  exact g_X3_find_b52 v0 v2 h1 e q
noncomputable def f_X3_find (v0 : Option Nat) (v1 : Option Nat) (h : mH) : Option (mH) :=
  (mIs h v0 2).bind fun _ =>
  (mGI h v1 6 0).bind fun x1 =>
  (mPF h v0 2 0 (.int x1)).bind fun h2 =>
  (mGR h2 v1 6 1).bind fun x3 =>
  (mPF h2 v0 2 1 (va_rf x3)).bind fun h4 =>
  (mGR h4 v0 2 3).bind fun x5 =>
  (f_J7_fill_53178 x5 (64 : Int32) h4).bind fun x6 =>
  (mGR x6 v0 2 3).bind fun x7 =>
  (mSI x6 x7 (0 : Int32) (0 : Int32)).bind fun h8 =>
  (mGR h8 v0 2 4).bind fun x9 =>
  (f_X7_mask v1 h8).bind fun x10 =>
  (mSI h8 x9 (6 : Int32) x10).bind fun h11 =>
  (mGR h11 v0 2 5).bind fun x12 =>
  (mSI h11 x12 (1 : Int32) (1 : Int32)).bind fun h13 =>
  f_X3_find_l52 v0 (0 : Int32) h13
set_option maxRecDepth 100000 in
set_option maxHeartbeats 4000000 in
theorem g_X3_find {w : mWp} {Q : Option Value → mH → Prop} (v0 : Option Nat) (v1 : Option Nat) (h : mH) {res : mH} (e : f_X3_find v0 v1 h = some res) (q : (fun r : mH => Q none r) res) : mGo w kX3_find 0 0 0 [some (va_rf v0), some (va_rf v1), none] [] h Q := by
  unfold f_X3_find at e
  obtain ⟨_, _, e⟩ := mBind e
  refine mGo.aload_n (n := 1) (r := v0) dX3_find_0 rfl rfl ?_
  refine mGo.aload_n (n := 2) (r := v1) dX3_find_1 rfl rfl ?_
  obtain ⟨x1, e_x1, e⟩ := mBind e
  refine mGo.getI (n := 5) dX3_find_2 sf_RX3_21 e_x1 rfl ?_
  obtain ⟨h2, e_h2, e⟩ := mBind e
  refine mGo.putI (n := 8) dX3_find_5 sf_RX3_27 rfl rfl e_h2 rfl ?_
  refine mGo.aload_n (n := 9) (r := v0) dX3_find_8 rfl rfl ?_
  refine mGo.aload_n (n := 10) (r := v1) dX3_find_9 rfl rfl ?_
  obtain ⟨x3, e_x3, e⟩ := mBind e
  refine mGo.getR (n := 13) dX3_find_10 sf_RX3_30 e_x3 rfl ?_
  obtain ⟨h4, e_h4, e⟩ := mBind e
  refine mGo.putR (n := 16) dX3_find_13 sf_RX3_33 (Or.inl rfl) rfl e_h4 rfl ?_
  refine mGo.aload_n (n := 17) (r := v0) dX3_find_16 rfl rfl ?_
  obtain ⟨x5, e_x5, e⟩ := mBind e
  refine mGo.getR (n := 20) dX3_find_17 sf_RX3_9 e_x5 rfl ?_
  refine mGo.bipush (n := 22) (v := (64 : Int32)) dX3_find_20 (by decide) rfl ?_
  obtain ⟨x6, e_x6, e⟩ := mBind e
  refine mGo.callS (n := 25) (y := zJ7_fill_53178) (R' := (mRoom (1) 0 0)) (as := [va_rf x5, .int (64 : Int32)]) (st := []) dX3_find_22 sc_RX3_34 rfl (e_J7_fill_53178 x5 (64 : Int32) h4 e_x6) (mFit_of rfl (Nat.le_of_ble_eq_true rfl) (by decide) (Nat.le_of_ble_eq_true rfl) (Nat.le_of_ble_eq_true rfl)) (Nat.le_of_ble_eq_true rfl) rfl rfl ?_
  intro _ _ hq
  rw [hq.1, hq.2]
  show mGo w kX3_find 0 0 25 [some (va_rf v0), some (va_rf v1), none] [] x6 Q
  refine mGo.aload_n (n := 26) (r := v0) dX3_find_25 rfl rfl ?_
  obtain ⟨x7, e_x7, e⟩ := mBind e
  refine mGo.getR (n := 29) dX3_find_26 sf_RX3_9 e_x7 rfl ?_
  refine mGo.iconst (n := 30) (v := (0 : Int32)) dX3_find_29 (by decide) rfl ?_
  refine mGo.iconst (n := 31) (v := (0 : Int32)) dX3_find_30 (by decide) rfl ?_
  obtain ⟨h8, e_h8, e⟩ := mBind e
  refine mGo.iast (n := 32) dX3_find_31 e_h8 rfl ?_
  refine mGo.aload_n (n := 33) (r := v0) dX3_find_32 rfl rfl ?_
  obtain ⟨x9, e_x9, e⟩ := mBind e
  refine mGo.getR (n := 36) dX3_find_33 sf_RX3_15 e_x9 rfl ?_
  refine mGo.bipush (n := 38) (v := (6 : Int32)) dX3_find_36 (by decide) rfl ?_
  refine mGo.aload_n (n := 39) (r := v1) dX3_find_38 rfl rfl ?_
  obtain ⟨x10, e_x10, e⟩ := mBind e
  refine mGo.callV (n := 42) (y := zX7_mask) (R' := (mRoom (1) 0 0)) (as := []) (st := [.int (6 : Int32), va_rf x9]) (r0 := v1) dX3_find_39 sc_RX3_40 rfl (s_X7_mask v1 h8 e_x10) (e_X7_mask v1 h8 e_x10) (mFit_of rfl (Nat.le_of_ble_eq_true rfl) (by decide) (Nat.le_of_ble_eq_true rfl) (Nat.le_of_ble_eq_true rfl)) (mCat8 (Nat.le_of_ble_eq_true rfl)) rfl rfl ?_
  intro _ _ hq
  rw [hq.1, hq.2]
  show mGo w kX3_find 0 0 42 [some (va_rf v0), some (va_rf v1), none] [.int x10, .int (6 : Int32), va_rf x9] h8 Q
  obtain ⟨h11, e_h11, e⟩ := mBind e
  refine mGo.iast (n := 43) dX3_find_42 e_h11 rfl ?_
  refine mGo.aload_n (n := 44) (r := v0) dX3_find_43 rfl rfl ?_
  obtain ⟨x12, e_x12, e⟩ := mBind e
  refine mGo.getR (n := 47) dX3_find_44 sf_RX3_18 e_x12 rfl ?_
  refine mGo.iconst (n := 48) (v := (1 : Int32)) dX3_find_47 (by decide) rfl ?_
  refine mGo.iconst (n := 49) (v := (1 : Int32)) dX3_find_48 (by decide) rfl ?_
  obtain ⟨h13, e_h13, e⟩ := mBind e
  refine mGo.iast (n := 50) dX3_find_49 e_h13 rfl ?_
  refine mGo.iconst (n := 51) (v := (0 : Int32)) dX3_find_50 (by decide) rfl ?_
  refine mGo.istore_n (n := 52) (ls' := [some (va_rf v0), some (va_rf v1), some (.int (0 : Int32))]) dX3_find_51 ((mSt_set (fun u _ hu => by cases hu; exact mRfc _)).trans rfl) (Nat.le_of_ble_eq_true rfl) rfl ?_
  refine mGo.mk [true, false, true] ?_
  exact g_X3_find_l52 v0 (0 : Int32) h13 e q
theorem e_X3_find {w : mWp} (v0 : Option Nat) (v1 : Option Nat) (h : mH) {res : mH} (e : f_X3_find v0 v1 h = some res) : mEx w zX3_find (mRoom 24 0 0) [va_rf v0, va_rf v1] h (fun r h2 => r = none ∧ h2 = res) := by
  refine mEx.of (by decide +kernel) (show mEnt [va_rf v0, va_rf v1] 3 = [some (va_rf v0), some (va_rf v1), none] by rw [mEnt_r, mEnt_r] <;> rfl) (by simp only [List.map_cons, List.map_nil, mRfc, mCi, mCj, List.sum_cons, List.sum_nil]; exact Nat.le_of_ble_eq_true rfl) ?_
  refine g_X3_find v0 v1 h e ?_
  exact ⟨rfl, rfl⟩
theorem s_X3_find (v0 : Option Nat) (v1 : Option Nat) (h : mH) {res : mH} (e : f_X3_find v0 v1 h = some res) : mIs h v0 2 = some () := by
  unfold f_X3_find at e
  obtain ⟨u, e1, _⟩ := mBind e
  cases u
  exact e1
-- X4_init
def kX4_init : mK := (cX4_init, RX4, 1, none, "<init>", mRoom 2 4 337)
def zX4_init : mY := (yX4_init, cX4_init, 1, none)
set_option maxRecDepth 100000 in
theorem sf_RX4_9 : mFld RX4 9 3 5 := ⟨by decide, by decide, Or.inl (mT_at 178 (by decide +kernel) rfl)⟩
set_option maxRecDepth 100000 in
theorem sf_RX4_15 : mFld RX4 15 3 6 := ⟨by decide, by decide, Or.inl (mT_at 180 (by decide +kernel) rfl)⟩
set_option maxRecDepth 100000 in
theorem sf_RX4_18 : mFld RX4 18 3 7 := ⟨by decide, by decide, Or.inl (mT_at 181 (by decide +kernel) rfl)⟩
set_option maxRecDepth 100000 in
theorem sf_RX4_21 : mFld RX4 21 3 8 := ⟨by decide, by decide, Or.inl (mT_at 182 (by decide +kernel) rfl)⟩
def f_X4_init (v0 : Nat) (h : mH) : Option (mH) :=
  (mIs h (some v0) 3).bind fun _ =>
  (some (mNew h (.inl (12, .inl (fun _ => 0))))).bind fun h1 =>
  (mPF h1 (some v0) 3 5 (va_rf (some (h.1 + 1)))).bind fun h2 =>
  (some (mNew h2 (.inl (156, .inl (fun _ => 0))))).bind fun h3 =>
  (mPF h3 (some v0) 3 6 (va_rf (some (h2.1 + 1)))).bind fun h4 =>
  (some (mNew h4 (.inl (156, .inl (fun _ => 0))))).bind fun h5 =>
  (mPF h5 (some v0) 3 7 (va_rf (some (h4.1 + 1)))).bind fun h6 =>
  (some (mNew h6 (.inl (13, .inl (fun _ => 0))))).bind fun h7 =>
  (mPF h7 (some v0) 3 8 (va_rf (some (h6.1 + 1)))).bind fun h8 =>
  some h8
set_option maxRecDepth 100000 in
set_option maxHeartbeats 4000000 in
theorem g_X4_init {w : mWp} {Q : Option Value → mH → Prop} (v0 : Nat) (h : mH) {res : mH} (e : f_X4_init v0 h = some res) (q : (fun r : mH => Q none r) res) : mGo w kX4_init 0 0 0 [some (va_rf (some v0))] [] h Q := by
  unfold f_X4_init at e
  obtain ⟨_, _, e⟩ := mBind e
  refine mGo.aload_n (n := 1) (r := (some v0)) dX4_init_0 rfl rfl ?_
  refine mGo.objI (n := 4) dX4_init_1 (mT_at 172 (by decide +kernel) rfl) (mT_at 102 (by decide +kernel) rfl) (mT_at 103 (by decide +kernel) rfl) (Nat.le_of_ble_eq_true rfl) (Nat.le_of_ble_eq_true rfl) rfl ?_
  refine mGo.aload_n (n := 5) (r := (some v0)) dX4_init_4 rfl rfl ?_
  refine mGo.bipush (n := 7) (v := (12 : Int32)) dX4_init_5 (by decide) rfl ?_
  obtain ⟨h1, e_h1, e⟩ := mBind e
  refine mGo.newI' (n := 9) (N := 12) dX4_init_7 (by decide) (by decide) (by decide) (mT_at 152 (by decide +kernel) rfl) (Nat.le_of_ble_eq_true rfl) (Nat.le_of_ble_eq_true rfl) rfl e_h1 ?_
  show mGo w kX4_init 1 12 9 [some (va_rf (some v0))] [va_rf (some (h.1 + 1)), va_rf (some v0)] h1 Q
  obtain ⟨h2, e_h2, e⟩ := mBind e
  refine mGo.putR (n := 12) dX4_init_9 sf_RX4_9 (Or.inr ⟨rfl, rfl, rfl, mT_at 178 (by decide +kernel) rfl⟩) rfl e_h2 rfl ?_
  refine mGo.aload_n (n := 13) (r := (some v0)) dX4_init_12 rfl rfl ?_
  refine mGo.sipush (n := 16) (v := (156 : Int32)) dX4_init_13 (by decide) rfl ?_
  obtain ⟨h3, e_h3, e⟩ := mBind e
  refine mGo.newI' (n := 18) (N := 156) dX4_init_16 (by decide) (by decide) (by decide) (mT_at 152 (by decide +kernel) rfl) (Nat.le_of_ble_eq_true rfl) (Nat.le_of_ble_eq_true rfl) rfl e_h3 ?_
  show mGo w kX4_init 2 168 18 [some (va_rf (some v0))] [va_rf (some (h2.1 + 1)), va_rf (some v0)] h3 Q
  obtain ⟨h4, e_h4, e⟩ := mBind e
  refine mGo.putR (n := 21) dX4_init_18 sf_RX4_15 (Or.inr ⟨rfl, rfl, rfl, mT_at 180 (by decide +kernel) rfl⟩) rfl e_h4 rfl ?_
  refine mGo.aload_n (n := 22) (r := (some v0)) dX4_init_21 rfl rfl ?_
  refine mGo.sipush (n := 25) (v := (156 : Int32)) dX4_init_22 (by decide) rfl ?_
  obtain ⟨h5, e_h5, e⟩ := mBind e
  refine mGo.newI' (n := 27) (N := 156) dX4_init_25 (by decide) (by decide) (by decide) (mT_at 152 (by decide +kernel) rfl) (Nat.le_of_ble_eq_true rfl) (Nat.le_of_ble_eq_true rfl) rfl e_h5 ?_
  show mGo w kX4_init 3 324 27 [some (va_rf (some v0))] [va_rf (some (h4.1 + 1)), va_rf (some v0)] h5 Q
  obtain ⟨h6, e_h6, e⟩ := mBind e
  refine mGo.putR (n := 30) dX4_init_27 sf_RX4_18 (Or.inr ⟨rfl, rfl, rfl, mT_at 181 (by decide +kernel) rfl⟩) rfl e_h6 rfl ?_
  refine mGo.aload_n (n := 31) (r := (some v0)) dX4_init_30 rfl rfl ?_
  refine mGo.bipush (n := 33) (v := (13 : Int32)) dX4_init_31 (by decide) rfl ?_
  obtain ⟨h7, e_h7, e⟩ := mBind e
  refine mGo.newI' (n := 35) (N := 13) dX4_init_33 (by decide) (by decide) (by decide) (mT_at 152 (by decide +kernel) rfl) (Nat.le_of_ble_eq_true rfl) (Nat.le_of_ble_eq_true rfl) rfl e_h7 ?_
  show mGo w kX4_init 4 337 35 [some (va_rf (some v0))] [va_rf (some (h6.1 + 1)), va_rf (some v0)] h7 Q
  obtain ⟨h8, e_h8, e⟩ := mBind e
  refine mGo.putR (n := 38) dX4_init_35 sf_RX4_21 (Or.inr ⟨rfl, rfl, rfl, mT_at 182 (by decide +kernel) rfl⟩) rfl e_h8 rfl ?_
  cases e
  exact mGo.vret dX4_init_38 rfl (Nat.le_of_ble_eq_true rfl) (Nat.le_of_ble_eq_true rfl) q
theorem e_X4_init {w : mWp} (v0 : Nat) (h : mH) {res : mH} (e : f_X4_init v0 h = some res) : mEx w zX4_init (mRoom 2 4 337) [va_rf (some v0)] h (fun r h2 => r = none ∧ h2 = res) := by
  refine mEx.of (by decide +kernel) (show mEnt [va_rf (some v0)] 1 = [some (va_rf (some v0))] by rw [mEnt_r] <;> rfl) (by simp only [List.map_cons, List.map_nil, mRfc, mCi, mCj, List.sum_cons, List.sum_nil]; exact Nat.le_of_ble_eq_true rfl) ?_
  refine g_X4_init v0 h e ?_
  exact ⟨rfl, rfl⟩
theorem s_X4_init (v0 : Nat) (h : mH) {res : mH} (e : f_X4_init v0 h = some res) : mIs h (some v0) 3 = some () := by
  unfold f_X4_init at e
  obtain ⟨u, e1, _⟩ := mBind e
  cases u
  exact e1
-- X4_lay
def kX4_lay : mK := (cX4_lay, RX4, 3, none, "lay", mRoom 2 0 0)
def zX4_lay : mY := (yX4_lay, cX4_lay, 3, none)
set_option maxRecDepth 100000 in
theorem sf_RX4_32 : mFld RX4 32 6 0 := ⟨by decide, by decide, Or.inr ⟨_, mNest_at 33 (x := Cond.fieldLinkNest RX4 32 (mCR 6) (mCT 6 0).2.1 (mCT 6 0).2.2.1 "SignTables") (by decide +kernel) rfl⟩⟩
set_option maxRecDepth 100000 in
theorem sf_RX4_38 : mFld RX4 38 3 0 := ⟨by decide, by decide, Or.inl (mT_at 173 (by decide +kernel) rfl)⟩
set_option maxRecDepth 100000 in
theorem sf_RX4_41 : mFld RX4 41 6 1 := ⟨by decide, by decide, Or.inr ⟨_, mNest_at 37 (x := Cond.fieldLinkNest RX4 41 (mCR 6) (mCT 6 1).2.1 (mCT 6 1).2.2.1 "SignTables") (by decide +kernel) rfl⟩⟩
set_option maxRecDepth 100000 in
theorem sf_RX4_44 : mFld RX4 44 3 1 := ⟨by decide, by decide, Or.inl (mT_at 174 (by decide +kernel) rfl)⟩
set_option maxRecDepth 100000 in
theorem sf_RX4_47 : mFld RX4 47 3 2 := ⟨by decide, by decide, Or.inl (mT_at 175 (by decide +kernel) rfl)⟩
set_option maxRecDepth 100000 in
theorem sc_RX4_50 : mSV RX4 50 zX7_mask 0 6 := ⟨Or.inr ⟨_, mNest_at 577 (x := Cond.methodLinkNest RX4 50 yX7_mask "SignTables") (by decide +kernel) rfl⟩, mT_at 392 (by decide +kernel) rfl, mT_at 7 (by decide +kernel) rfl, mT_at 84 (by decide +kernel) rfl, mT_at 393 (by decide +kernel) rfl, ⟨by decide +kernel, by decide +kernel, by decide +kernel⟩, by decide, rfl⟩
def f_X4_lay (v0 : Option Nat) (v1 : Option Nat) (v2 : Option Nat) (h : mH) : Option (mH) :=
  (mIs h v0 3).bind fun _ =>
  (mGI h v1 6 0).bind fun x1 =>
  (mPF h v0 3 0 (.int x1)).bind fun h2 =>
  (mGR h2 v1 6 1).bind fun x3 =>
  (mPF h2 v0 3 1 (va_rf x3)).bind fun h4 =>
  (mGR h4 v2 6 1).bind fun x5 =>
  (mPF h4 v0 3 2 (va_rf x5)).bind fun h6 =>
  (mGR h6 v0 3 6).bind fun x7 =>
  (f_X7_mask v1 h6).bind fun x8 =>
  (mSI h6 x7 (0 : Int32) x8).bind fun h9 =>
  (mGR h9 v0 3 7).bind fun x10 =>
  (f_X7_mask v2 h9).bind fun x11 =>
  (mSI h9 x10 (0 : Int32) x11).bind fun h12 =>
  (mGR h12 v0 3 8).bind fun x13 =>
  (mSI h12 x13 (0 : Int32) (1 : Int32)).bind fun h14 =>
  some h14
set_option maxRecDepth 100000 in
set_option maxHeartbeats 4000000 in
theorem g_X4_lay {w : mWp} {Q : Option Value → mH → Prop} (v0 : Option Nat) (v1 : Option Nat) (v2 : Option Nat) (h : mH) {res : mH} (e : f_X4_lay v0 v1 v2 h = some res) (q : (fun r : mH => Q none r) res) : mGo w kX4_lay 0 0 0 [some (va_rf v0), some (va_rf v1), some (va_rf v2)] [] h Q := by
  unfold f_X4_lay at e
  obtain ⟨_, _, e⟩ := mBind e
  refine mGo.aload_n (n := 1) (r := v0) dX4_lay_0 rfl rfl ?_
  refine mGo.aload_n (n := 2) (r := v1) dX4_lay_1 rfl rfl ?_
  obtain ⟨x1, e_x1, e⟩ := mBind e
  refine mGo.getI (n := 5) dX4_lay_2 sf_RX4_32 e_x1 rfl ?_
  obtain ⟨h2, e_h2, e⟩ := mBind e
  refine mGo.putI (n := 8) dX4_lay_5 sf_RX4_38 rfl rfl e_h2 rfl ?_
  refine mGo.aload_n (n := 9) (r := v0) dX4_lay_8 rfl rfl ?_
  refine mGo.aload_n (n := 10) (r := v1) dX4_lay_9 rfl rfl ?_
  obtain ⟨x3, e_x3, e⟩ := mBind e
  refine mGo.getR (n := 13) dX4_lay_10 sf_RX4_41 e_x3 rfl ?_
  obtain ⟨h4, e_h4, e⟩ := mBind e
  refine mGo.putR (n := 16) dX4_lay_13 sf_RX4_44 (Or.inl rfl) rfl e_h4 rfl ?_
  refine mGo.aload_n (n := 17) (r := v0) dX4_lay_16 rfl rfl ?_
  refine mGo.aload_n (n := 18) (r := v2) dX4_lay_17 rfl rfl ?_
  obtain ⟨x5, e_x5, e⟩ := mBind e
  refine mGo.getR (n := 21) dX4_lay_18 sf_RX4_41 e_x5 rfl ?_
  obtain ⟨h6, e_h6, e⟩ := mBind e
  refine mGo.putR (n := 24) dX4_lay_21 sf_RX4_47 (Or.inl rfl) rfl e_h6 rfl ?_
  refine mGo.aload_n (n := 25) (r := v0) dX4_lay_24 rfl rfl ?_
  obtain ⟨x7, e_x7, e⟩ := mBind e
  refine mGo.getR (n := 28) dX4_lay_25 sf_RX4_15 e_x7 rfl ?_
  refine mGo.iconst (n := 29) (v := (0 : Int32)) dX4_lay_28 (by decide) rfl ?_
  refine mGo.aload_n (n := 30) (r := v1) dX4_lay_29 rfl rfl ?_
  obtain ⟨x8, e_x8, e⟩ := mBind e
  refine mGo.callV (n := 33) (y := zX7_mask) (R' := (mRoom (1) 0 0)) (as := []) (st := [.int (0 : Int32), va_rf x7]) (r0 := v1) dX4_lay_30 sc_RX4_50 rfl (s_X7_mask v1 h6 e_x8) (e_X7_mask v1 h6 e_x8) (mFit_of rfl (Nat.le_of_ble_eq_true rfl) (by decide) (Nat.le_of_ble_eq_true rfl) (Nat.le_of_ble_eq_true rfl)) (mCat8 (Nat.le_of_ble_eq_true rfl)) rfl rfl ?_
  intro _ _ hq
  rw [hq.1, hq.2]
  show mGo w kX4_lay 0 0 33 [some (va_rf v0), some (va_rf v1), some (va_rf v2)] [.int x8, .int (0 : Int32), va_rf x7] h6 Q
  obtain ⟨h9, e_h9, e⟩ := mBind e
  refine mGo.iast (n := 34) dX4_lay_33 e_h9 rfl ?_
  refine mGo.aload_n (n := 35) (r := v0) dX4_lay_34 rfl rfl ?_
  obtain ⟨x10, e_x10, e⟩ := mBind e
  refine mGo.getR (n := 38) dX4_lay_35 sf_RX4_18 e_x10 rfl ?_
  refine mGo.iconst (n := 39) (v := (0 : Int32)) dX4_lay_38 (by decide) rfl ?_
  refine mGo.aload_n (n := 40) (r := v2) dX4_lay_39 rfl rfl ?_
  obtain ⟨x11, e_x11, e⟩ := mBind e
  refine mGo.callV (n := 43) (y := zX7_mask) (R' := (mRoom (1) 0 0)) (as := []) (st := [.int (0 : Int32), va_rf x10]) (r0 := v2) dX4_lay_40 sc_RX4_50 rfl (s_X7_mask v2 h9 e_x11) (e_X7_mask v2 h9 e_x11) (mFit_of rfl (Nat.le_of_ble_eq_true rfl) (by decide) (Nat.le_of_ble_eq_true rfl) (Nat.le_of_ble_eq_true rfl)) (mCat8 (Nat.le_of_ble_eq_true rfl)) rfl rfl ?_
  intro _ _ hq
  rw [hq.1, hq.2]
  show mGo w kX4_lay 0 0 43 [some (va_rf v0), some (va_rf v1), some (va_rf v2)] [.int x11, .int (0 : Int32), va_rf x10] h9 Q
  obtain ⟨h12, e_h12, e⟩ := mBind e
  refine mGo.iast (n := 44) dX4_lay_43 e_h12 rfl ?_
  refine mGo.aload_n (n := 45) (r := v0) dX4_lay_44 rfl rfl ?_
  obtain ⟨x13, e_x13, e⟩ := mBind e
  refine mGo.getR (n := 48) dX4_lay_45 sf_RX4_21 e_x13 rfl ?_
  refine mGo.iconst (n := 49) (v := (0 : Int32)) dX4_lay_48 (by decide) rfl ?_
  refine mGo.iconst (n := 50) (v := (1 : Int32)) dX4_lay_49 (by decide) rfl ?_
  obtain ⟨h14, e_h14, e⟩ := mBind e
  refine mGo.iast (n := 51) dX4_lay_50 e_h14 rfl ?_
  cases e
  exact mGo.vret dX4_lay_51 rfl (Nat.le_of_ble_eq_true rfl) (Nat.le_of_ble_eq_true rfl) q
theorem e_X4_lay {w : mWp} (v0 : Option Nat) (v1 : Option Nat) (v2 : Option Nat) (h : mH) {res : mH} (e : f_X4_lay v0 v1 v2 h = some res) : mEx w zX4_lay (mRoom 2 0 0) [va_rf v0, va_rf v1, va_rf v2] h (fun r h2 => r = none ∧ h2 = res) := by
  refine mEx.of (by decide +kernel) (show mEnt [va_rf v0, va_rf v1, va_rf v2] 3 = [some (va_rf v0), some (va_rf v1), some (va_rf v2)] by rw [mEnt_r, mEnt_r, mEnt_r] <;> rfl) (by simp only [List.map_cons, List.map_nil, mRfc, mCi, mCj, List.sum_cons, List.sum_nil]; exact Nat.le_of_ble_eq_true rfl) ?_
  refine g_X4_lay v0 v1 v2 h e ?_
  exact ⟨rfl, rfl⟩
theorem s_X4_lay (v0 : Option Nat) (v1 : Option Nat) (v2 : Option Nat) (h : mH) {res : mH} (e : f_X4_lay v0 v1 v2 h = some res) : mIs h v0 3 = some () := by
  unfold f_X4_lay at e
  obtain ⟨u, e1, _⟩ := mBind e
  cases u
  exact e1
-- X4_addClass
def kX4_addClass : mK := (cX4_addClass, RX4, 4, some (.int), "addClass", mRoom 1 0 0)
def zX4_addClass : mY := (yX4_addClass, cX4_addClass, 4, some (.int))
def f_X4_addClass (v0 : Option Nat) (v1 : Int32) (v2 : Int32) (v3 : Int32) (h : mH) : Option (Int32 × mH) :=
  (mIs h v0 3).bind fun _ =>
  if v2 = 0 then
    some (v1, h)
  else
    (mGR h v0 3 6).bind fun x1 =>
    (mLn h x1).bind fun x2 =>
    if v1 < x2 then
      (mGR h v0 3 6).bind fun x3 =>
      (mSI h x3 v1 v2).bind fun h4 =>
      (mGR h4 v0 3 7).bind fun x5 =>
      (mSI h4 x5 v1 v3).bind fun h6 =>
      some ((v1 + (1 : Int32)), h6)
    else
      some (v1, h)
set_option maxRecDepth 100000 in
set_option maxHeartbeats 4000000 in
theorem g_X4_addClass {w : mWp} {Q : Option Value → mH → Prop} (v0 : Option Nat) (v1 : Int32) (v2 : Int32) (v3 : Int32) (h : mH) {res : Int32 × mH} (e : f_X4_addClass v0 v1 v2 v3 h = some res) (q : (fun r : Int32 × mH => Q (some (.int r.1)) r.2) res) : mGo w kX4_addClass 0 0 0 [some (va_rf v0), some (.int v1), some (.int v2), some (.int v3)] [] h Q := by
  unfold f_X4_addClass at e
  obtain ⟨_, _, e⟩ := mBind e
  refine mGo.iload_n (n := 1) (x := v2) dX4_addClass_0 rfl rfl ?_
  refine mGo.if_eq (tgt := 13) (n := 4) dX4_addClass_1 (by decide) rfl (fun hc => ?_) (fun hc => ?_)
  · replace e := mIft hc e
    refine mGo.iload_n (n := 14) (x := v1) dX4_addClass_13 rfl rfl ?_
    cases e
    exact mGo.iret dX4_addClass_14 rfl (Nat.le_of_ble_eq_true rfl) (Nat.le_of_ble_eq_true rfl) q
  · replace e := mIff hc e
    refine mGo.iload_n (n := 5) (x := v1) dX4_addClass_4 rfl rfl ?_
    refine mGo.aload_n (n := 6) (r := v0) dX4_addClass_5 rfl rfl ?_
    obtain ⟨x1, e_x1, e⟩ := mBind e
    refine mGo.getR (n := 9) dX4_addClass_6 sf_RX4_15 e_x1 rfl ?_
    obtain ⟨x2, e_x2, e⟩ := mBind e
    refine mGo.alen (n := 10) dX4_addClass_9 e_x2 rfl ?_
    refine mGo.icmp_lt (tgt := 15) (n := 13) dX4_addClass_10 (by decide) rfl (fun hc => ?_) (fun hc => ?_)
    · replace e := mIft hc e
      refine mGo.aload_n (n := 16) (r := v0) dX4_addClass_15 rfl rfl ?_
      obtain ⟨x3, e_x3, e⟩ := mBind e
      refine mGo.getR (n := 19) dX4_addClass_16 sf_RX4_15 e_x3 rfl ?_
      refine mGo.iload_n (n := 20) (x := v1) dX4_addClass_19 rfl rfl ?_
      refine mGo.iload_n (n := 21) (x := v2) dX4_addClass_20 rfl rfl ?_
      obtain ⟨h4, e_h4, e⟩ := mBind e
      refine mGo.iast (n := 22) dX4_addClass_21 e_h4 rfl ?_
      refine mGo.aload_n (n := 23) (r := v0) dX4_addClass_22 rfl rfl ?_
      obtain ⟨x5, e_x5, e⟩ := mBind e
      refine mGo.getR (n := 26) dX4_addClass_23 sf_RX4_18 e_x5 rfl ?_
      refine mGo.iload_n (n := 27) (x := v1) dX4_addClass_26 rfl rfl ?_
      refine mGo.iload_n (n := 28) (x := v3) dX4_addClass_27 rfl rfl ?_
      obtain ⟨h6, e_h6, e⟩ := mBind e
      refine mGo.iast (n := 29) dX4_addClass_28 e_h6 rfl ?_
      refine mGo.iload_n (n := 30) (x := v1) dX4_addClass_29 rfl rfl ?_
      refine mGo.iconst (n := 31) (v := (1 : Int32)) dX4_addClass_30 (by decide) rfl ?_
      refine mGo.iadd (n := 32) dX4_addClass_31 rfl ?_
      cases e
      exact mGo.iret dX4_addClass_32 rfl (Nat.le_of_ble_eq_true rfl) (Nat.le_of_ble_eq_true rfl) q
    · replace e := mIff hc e
      refine mGo.iload_n (n := 14) (x := v1) dX4_addClass_13 rfl rfl ?_
      cases e
      exact mGo.iret dX4_addClass_14 rfl (Nat.le_of_ble_eq_true rfl) (Nat.le_of_ble_eq_true rfl) q
theorem e_X4_addClass {w : mWp} (v0 : Option Nat) (v1 : Int32) (v2 : Int32) (v3 : Int32) (h : mH) {res : Int32 × mH} (e : f_X4_addClass v0 v1 v2 v3 h = some res) : mEx w zX4_addClass (mRoom 1 0 0) [va_rf v0, .int v1, .int v2, .int v3] h (fun r h2 => r = some (.int res.1) ∧ h2 = res.2) := by
  refine mEx.of (by decide +kernel) (show mEnt [va_rf v0, .int v1, .int v2, .int v3] 4 = [some (va_rf v0), some (.int v1), some (.int v2), some (.int v3)] by rw [mEnt_r, mEnt_i, mEnt_i, mEnt_i] <;> rfl) (by simp only [List.map_cons, List.map_nil, mRfc, mCi, mCj, List.sum_cons, List.sum_nil]; exact Nat.le_of_ble_eq_true rfl) ?_
  refine g_X4_addClass v0 v1 v2 v3 h e ?_
  exact ⟨rfl, rfl⟩
theorem s_X4_addClass (v0 : Option Nat) (v1 : Int32) (v2 : Int32) (v3 : Int32) (h : mH) {res : Int32 × mH} (e : f_X4_addClass v0 v1 v2 v3 h = some res) : mIs h v0 3 = some () := by
  unfold f_X4_addClass at e
  obtain ⟨u, e1, _⟩ := mBind e
  cases u
  exact e1
-- X4_fits
def kX4_fits : mK := (cX4_fits, RX4, 12, some (.boolean), "fits", mRoom 2 0 0)
def zX4_fits : mY := (yX4_fits, cX4_fits, 12, some (.boolean))
set_option maxRecDepth 100000 in
theorem sf_RX4_65 : mFld RX4 65 3 3 := ⟨by decide, by decide, Or.inl (mT_at 176 (by decide +kernel) rfl)⟩
set_option maxRecDepth 100000 in
theorem sf_RX4_68 : mFld RX4 68 3 4 := ⟨by decide, by decide, Or.inl (mT_at 177 (by decide +kernel) rfl)⟩
set_option maxRecDepth 100000 in
theorem sc_RX4_71 : mSS RX4 71 zJ6_bitCount_0f7a4 1 := ⟨Or.inl (mT_at 669 (by decide +kernel) rfl), mT_at 436 (by decide +kernel) rfl, mT_at 95 (by decide +kernel) rfl, mT_at 437 (by decide +kernel) rfl, ⟨by decide +kernel, by decide +kernel, by decide +kernel⟩⟩
set_option maxRecDepth 100000 in
theorem sc_RX4_77 : mSV RX4 77 zX4_addClass 3 3 := ⟨Or.inl (mT_at 670 (by decide +kernel) rfl), mT_at 672 (by decide +kernel) rfl, mT_at 32 (by decide +kernel) rfl, mT_at 86 (by decide +kernel) rfl, mT_at 673 (by decide +kernel) rfl, ⟨by decide +kernel, by decide +kernel, by decide +kernel⟩, by decide, rfl⟩
def f_X4_fits_b106 (v0 : Option Nat) (v1 : Int32) (v2 : Int32) (v4 : Int32) (v5 : Int32) (v6 : Int32) (v7 : Int32) (v8 : Int32) (v9 : Int32) (h : mH) : Option ((Int32 × Int32 × mH) ⊕ (Int32 × mH)) :=
  if v7 ≤ v9 then
    (mGR h v0 3 8).bind fun x1 =>
    (mSI h x1 (v1 + (1 : Int32)) ((v8 - v6) - (12 : Int32))).bind fun h2 =>
    (mGR h2 v0 3 5).bind fun x3 =>
    (mSI h2 x3 v1 v2).bind fun h4 =>
    some (Sum.inr ((1 : Int32), h4))
  else
    (mGR h v0 3 6).bind fun x5 =>
    (mAI h x5 v9).bind fun x6 =>
    (mGR h v0 3 7).bind fun x7 =>
    (mAI h x7 v9).bind fun x8 =>
    (f_J6_bitCount_0f7a4 (x6 &&& v4)).bind fun x9 =>
    (f_J6_bitCount_0f7a4 (x8 &&& v5)).bind fun x10 =>
    if x9 = x10 then
      (f_X4_addClass v0 v8 (x6 &&& v4) (x8 &&& v5) h).bind fun x11 =>
      (mGR x11.2 v0 3 6).bind fun x12 =>
      (mAI x11.2 x12 v9).bind fun x13 =>
      (mGR x11.2 v0 3 7).bind fun x14 =>
      (mAI x11.2 x14 v9).bind fun x15 =>
      (f_X4_addClass v0 x11.1 (x13 &&& (v4 ^^^ (-1 : Int32))) (x15 &&& (v5 ^^^ (-1 : Int32))) x11.2).bind fun x16 =>
      some (Sum.inl (x16.1, (v9 + 1), x16.2))
    else
      some (Sum.inr ((0 : Int32), h))
set_option maxRecDepth 100000 in
set_option maxHeartbeats 4000000 in
theorem g_X4_fits_b106 {w : mWp} {Q : Option Value → mH → Prop} (v0 : Option Nat) (v1 : Int32) (v2 : Int32) (v4 : Int32) (v5 : Int32) (v6 : Int32) (v7 : Int32) (v8 : Int32) (v9 : Int32) (h : mH) {res : (Int32 × Int32 × mH) ⊕ (Int32 × mH)} (e : f_X4_fits_b106 v0 v1 v2 v4 v5 v6 v7 v8 v9 h = some res) (q : (Sum.elim (fun x : Int32 × Int32 × mH => mGo w kX4_fits 0 0 106 [some (va_rf v0), some (.int v1), some (.int v2), none, some (.int v4), some (.int v5), some (.int v6), some (.int v7), some (.int x.1), some (.int x.2.1), none, none] [] x.2.2 Q) (fun r : Int32 × mH => Q (some (.int r.1)) r.2)) res) : mGo w kX4_fits 0 0 106 [some (va_rf v0), some (.int v1), some (.int v2), none, some (.int v4), some (.int v5), some (.int v6), some (.int v7), some (.int v8), some (.int v9), none, none] [] h Q := by
  unfold f_X4_fits_b106 at e
  refine mGo.iload (n := 108) (x := v9) dX4_fits_106 rfl rfl ?_
  refine mGo.iload (n := 110) (x := v7) dX4_fits_108 rfl rfl ?_
  refine mGo.icmp_ge (tgt := 202) (n := 113) dX4_fits_110 (by decide) rfl (fun hc => ?_) (fun hc => ?_)
  · replace e := mIft hc e
    refine mGo.aload_n (n := 203) (r := v0) dX4_fits_202 rfl rfl ?_
    obtain ⟨x1, e_x1, e⟩ := mBind e
    refine mGo.getR (n := 206) dX4_fits_203 sf_RX4_21 e_x1 rfl ?_
    refine mGo.iload_n (n := 207) (x := v1) dX4_fits_206 rfl rfl ?_
    refine mGo.iconst (n := 208) (v := (1 : Int32)) dX4_fits_207 (by decide) rfl ?_
    refine mGo.iadd (n := 209) dX4_fits_208 rfl ?_
    refine mGo.iload (n := 211) (x := v8) dX4_fits_209 rfl rfl ?_
    refine mGo.iload (n := 213) (x := v6) dX4_fits_211 rfl rfl ?_
    refine mGo.isub (n := 214) dX4_fits_213 rfl ?_
    refine mGo.bipush (n := 216) (v := (12 : Int32)) dX4_fits_214 (by decide) rfl ?_
    refine mGo.isub (n := 217) dX4_fits_216 rfl ?_
    obtain ⟨h2, e_h2, e⟩ := mBind e
    refine mGo.iast (n := 218) dX4_fits_217 e_h2 rfl ?_
    refine mGo.aload_n (n := 219) (r := v0) dX4_fits_218 rfl rfl ?_
    obtain ⟨x3, e_x3, e⟩ := mBind e
    refine mGo.getR (n := 222) dX4_fits_219 sf_RX4_9 e_x3 rfl ?_
    refine mGo.iload_n (n := 223) (x := v1) dX4_fits_222 rfl rfl ?_
    refine mGo.iload_n (n := 224) (x := v2) dX4_fits_223 rfl rfl ?_
    obtain ⟨h4, e_h4, e⟩ := mBind e
    refine mGo.iast (n := 225) dX4_fits_224 e_h4 rfl ?_
    refine mGo.iconst (n := 226) (v := (1 : Int32)) dX4_fits_225 (by decide) rfl ?_
    cases e
    exact mGo.zret dX4_fits_226 rfl (by decide) (Nat.le_of_ble_eq_true rfl) (Nat.le_of_ble_eq_true rfl) q
  · replace e := mIff hc e
    refine mGo.aload_n (n := 114) (r := v0) dX4_fits_113 rfl rfl ?_
    obtain ⟨x5, e_x5, e⟩ := mBind e
    refine mGo.getR (n := 117) dX4_fits_114 sf_RX4_15 e_x5 rfl ?_
    refine mGo.iload (n := 119) (x := v9) dX4_fits_117 rfl rfl ?_
    obtain ⟨x6, e_x6, e⟩ := mBind e
    refine mGo.iald (n := 120) dX4_fits_119 e_x6 rfl ?_
    refine mGo.iload (n := 122) (x := v4) dX4_fits_120 rfl rfl ?_
    refine mGo.iand (n := 123) dX4_fits_122 rfl ?_
    refine mGo.istore (n := 125) (ls' := [some (va_rf v0), some (.int v1), some (.int v2), none, some (.int v4), some (.int v5), some (.int v6), some (.int v7), some (.int v8), some (.int v9), some (.int (x6 &&& v4)), none]) dX4_fits_123 rfl (Nat.le_of_ble_eq_true rfl) rfl ?_
    refine mGo.aload_n (n := 126) (r := v0) dX4_fits_125 rfl rfl ?_
    obtain ⟨x7, e_x7, e⟩ := mBind e
    refine mGo.getR (n := 129) dX4_fits_126 sf_RX4_18 e_x7 rfl ?_
    refine mGo.iload (n := 131) (x := v9) dX4_fits_129 rfl rfl ?_
    obtain ⟨x8, e_x8, e⟩ := mBind e
    refine mGo.iald (n := 132) dX4_fits_131 e_x8 rfl ?_
    refine mGo.iload (n := 134) (x := v5) dX4_fits_132 rfl rfl ?_
    refine mGo.iand (n := 135) dX4_fits_134 rfl ?_
    refine mGo.istore (n := 137) (ls' := [some (va_rf v0), some (.int v1), some (.int v2), none, some (.int v4), some (.int v5), some (.int v6), some (.int v7), some (.int v8), some (.int v9), some (.int (x6 &&& v4)), some (.int (x8 &&& v5))]) dX4_fits_135 rfl (Nat.le_of_ble_eq_true rfl) rfl ?_
    refine mGo.iload (n := 139) (x := (x6 &&& v4)) dX4_fits_137 rfl rfl ?_
    obtain ⟨x9, e_x9, e⟩ := mBind e
    refine mGo.callS (n := 142) (y := zJ6_bitCount_0f7a4) (R' := (mRoom (1) 0 0)) (as := [.int (x6 &&& v4)]) (st := []) dX4_fits_139 sc_RX4_71 rfl (e_J6_bitCount_0f7a4 (x6 &&& v4) h e_x9) (mFit_of rfl (Nat.le_of_ble_eq_true rfl) (by decide) (Nat.le_of_ble_eq_true rfl) (Nat.le_of_ble_eq_true rfl)) (Nat.le_of_ble_eq_true rfl) rfl rfl ?_
    intro _ _ hq
    rw [hq.1, hq.2]
    show mGo w kX4_fits 0 0 142 [some (va_rf v0), some (.int v1), some (.int v2), none, some (.int v4), some (.int v5), some (.int v6), some (.int v7), some (.int v8), some (.int v9), some (.int (x6 &&& v4)), some (.int (x8 &&& v5))] [.int x9] h Q
    refine mGo.iload (n := 144) (x := (x8 &&& v5)) dX4_fits_142 rfl rfl ?_
    obtain ⟨x10, e_x10, e⟩ := mBind e
    refine mGo.callS (n := 147) (y := zJ6_bitCount_0f7a4) (R' := (mRoom (1) 0 0)) (as := [.int (x8 &&& v5)]) (st := [.int x9]) dX4_fits_144 sc_RX4_71 rfl (e_J6_bitCount_0f7a4 (x8 &&& v5) h e_x10) (mFit_of rfl (Nat.le_of_ble_eq_true rfl) (by decide) (Nat.le_of_ble_eq_true rfl) (Nat.le_of_ble_eq_true rfl)) (Nat.le_of_ble_eq_true rfl) rfl rfl ?_
    intro _ _ hq
    rw [hq.1, hq.2]
    show mGo w kX4_fits 0 0 147 [some (va_rf v0), some (.int v1), some (.int v2), none, some (.int v4), some (.int v5), some (.int v6), some (.int v7), some (.int v8), some (.int v9), some (.int (x6 &&& v4)), some (.int (x8 &&& v5))] [.int x10, .int x9] h Q
    refine mGo.icmp_eq (tgt := 152) (n := 150) dX4_fits_147 (by decide) rfl (fun hc => ?_) (fun hc => ?_)
    · replace e := mIft hc e
      refine mGo.aload_n (n := 153) (r := v0) dX4_fits_152 rfl rfl ?_
      refine mGo.iload (n := 155) (x := v8) dX4_fits_153 rfl rfl ?_
      refine mGo.iload (n := 157) (x := (x6 &&& v4)) dX4_fits_155 rfl rfl ?_
      refine mGo.iload (n := 159) (x := (x8 &&& v5)) dX4_fits_157 rfl rfl ?_
      obtain ⟨x11, e_x11, e⟩ := mBind e
      refine mGo.callV (n := 162) (y := zX4_addClass) (R' := (mRoom (1) 0 0)) (as := [.int v8, .int (x6 &&& v4), .int (x8 &&& v5)]) (st := []) (r0 := v0) dX4_fits_159 sc_RX4_77 rfl (s_X4_addClass v0 v8 (x6 &&& v4) (x8 &&& v5) h e_x11) (e_X4_addClass v0 v8 (x6 &&& v4) (x8 &&& v5) h e_x11) (mFit_of rfl (Nat.le_of_ble_eq_true rfl) (by decide) (Nat.le_of_ble_eq_true rfl) (Nat.le_of_ble_eq_true rfl)) (Nat.le_of_ble_eq_true rfl) rfl rfl ?_
      intro _ _ hq
      rw [hq.1, hq.2]
      show mGo w kX4_fits 0 0 162 [some (va_rf v0), some (.int v1), some (.int v2), none, some (.int v4), some (.int v5), some (.int v6), some (.int v7), some (.int v8), some (.int v9), some (.int (x6 &&& v4)), some (.int (x8 &&& v5))] [.int x11.1] x11.2 Q
      refine mGo.istore (n := 164) (ls' := [some (va_rf v0), some (.int v1), some (.int v2), none, some (.int v4), some (.int v5), some (.int v6), some (.int v7), some (.int x11.1), some (.int v9), some (.int (x6 &&& v4)), some (.int (x8 &&& v5))]) dX4_fits_162 rfl (Nat.le_of_ble_eq_true rfl) rfl ?_
      refine mGo.aload_n (n := 165) (r := v0) dX4_fits_164 rfl rfl ?_
      refine mGo.iload (n := 167) (x := x11.1) dX4_fits_165 rfl rfl ?_
      refine mGo.aload_n (n := 168) (r := v0) dX4_fits_167 rfl rfl ?_
      obtain ⟨x12, e_x12, e⟩ := mBind e
      refine mGo.getR (n := 171) dX4_fits_168 sf_RX4_15 e_x12 rfl ?_
      refine mGo.iload (n := 173) (x := v9) dX4_fits_171 rfl rfl ?_
      obtain ⟨x13, e_x13, e⟩ := mBind e
      refine mGo.iald (n := 174) dX4_fits_173 e_x13 rfl ?_
      refine mGo.iload (n := 176) (x := v4) dX4_fits_174 rfl rfl ?_
      refine mGo.iconst (n := 177) (v := (-1 : Int32)) dX4_fits_176 (by decide) rfl ?_
      refine mGo.ixor (n := 178) dX4_fits_177 rfl ?_
      refine mGo.iand (n := 179) dX4_fits_178 rfl ?_
      refine mGo.aload_n (n := 180) (r := v0) dX4_fits_179 rfl rfl ?_
      obtain ⟨x14, e_x14, e⟩ := mBind e
      refine mGo.getR (n := 183) dX4_fits_180 sf_RX4_18 e_x14 rfl ?_
      refine mGo.iload (n := 185) (x := v9) dX4_fits_183 rfl rfl ?_
      obtain ⟨x15, e_x15, e⟩ := mBind e
      refine mGo.iald (n := 186) dX4_fits_185 e_x15 rfl ?_
      refine mGo.iload (n := 188) (x := v5) dX4_fits_186 rfl rfl ?_
      refine mGo.iconst (n := 189) (v := (-1 : Int32)) dX4_fits_188 (by decide) rfl ?_
      refine mGo.ixor (n := 190) dX4_fits_189 rfl ?_
      refine mGo.iand (n := 191) dX4_fits_190 rfl ?_
      obtain ⟨x16, e_x16, e⟩ := mBind e
      refine mGo.callV (n := 194) (y := zX4_addClass) (R' := (mRoom (1) 0 0)) (as := [.int x11.1, .int (x13 &&& (v4 ^^^ (-1 : Int32))), .int (x15 &&& (v5 ^^^ (-1 : Int32)))]) (st := []) (r0 := v0) dX4_fits_191 sc_RX4_77 rfl (s_X4_addClass v0 x11.1 (x13 &&& (v4 ^^^ (-1 : Int32))) (x15 &&& (v5 ^^^ (-1 : Int32))) x11.2 e_x16) (e_X4_addClass v0 x11.1 (x13 &&& (v4 ^^^ (-1 : Int32))) (x15 &&& (v5 ^^^ (-1 : Int32))) x11.2 e_x16) (mFit_of rfl (Nat.le_of_ble_eq_true rfl) (by decide) (Nat.le_of_ble_eq_true rfl) (Nat.le_of_ble_eq_true rfl)) (Nat.le_of_ble_eq_true rfl) rfl rfl ?_
      intro _ _ hq
      rw [hq.1, hq.2]
      show mGo w kX4_fits 0 0 194 [some (va_rf v0), some (.int v1), some (.int v2), none, some (.int v4), some (.int v5), some (.int v6), some (.int v7), some (.int x11.1), some (.int v9), some (.int (x6 &&& v4)), some (.int (x8 &&& v5))] [.int x16.1] x16.2 Q
      refine mGo.istore (n := 196) (ls' := [some (va_rf v0), some (.int v1), some (.int v2), none, some (.int v4), some (.int v5), some (.int v6), some (.int v7), some (.int x16.1), some (.int v9), some (.int (x6 &&& v4)), some (.int (x8 &&& v5))]) dX4_fits_194 rfl (Nat.le_of_ble_eq_true rfl) rfl ?_
      refine mGo.iinc (n := 199) (x := v9) (v := (v9 + 1)) (ls' := [some (va_rf v0), some (.int v1), some (.int v2), none, some (.int v4), some (.int v5), some (.int v6), some (.int v7), some (.int x16.1), some (.int (v9 + 1)), some (.int (x6 &&& v4)), some (.int (x8 &&& v5))]) dX4_fits_196 rfl rfl rfl (Nat.le_of_ble_eq_true rfl) rfl ?_
      refine mGo.goto (tgt := 106) dX4_fits_199 (by decide) ?_
      cases e
      refine mGo.mk [true, true, true, false, true, true, true, true, true, true, false, false] ?_
      exact q
    · replace e := mIff hc e
      refine mGo.iconst (n := 151) (v := (0 : Int32)) dX4_fits_150 (by decide) rfl ?_
      cases e
      exact mGo.zret dX4_fits_151 rfl (by decide) (Nat.le_of_ble_eq_true rfl) (Nat.le_of_ble_eq_true rfl) q
noncomputable def f_X4_fits_l106 (v0 : Option Nat) (v1 : Int32) (v2 : Int32) (v4 : Int32) (v5 : Int32) (v6 : Int32) (v7 : Int32) (v8 : Int32) (v9 : Int32) (h : mH) : Option (Int32 × mH) :=
  mLoop (fun x : Int32 × Int32 × mH => f_X4_fits_b106 v0 v1 v2 v4 v5 v6 v7 x.1 x.2.1 x.2.2) (v8, v9, h)
set_option maxRecDepth 100000 in
set_option maxHeartbeats 4000000 in
theorem g_X4_fits_l106 {w : mWp} {Q : Option Value → mH → Prop} (v0 : Option Nat) (v1 : Int32) (v2 : Int32) (v4 : Int32) (v5 : Int32) (v6 : Int32) (v7 : Int32) (v8 : Int32) (v9 : Int32) (h : mH) {res : Int32 × mH} (e : f_X4_fits_l106 v0 v1 v2 v4 v5 v6 v7 v8 v9 h = some res) (q : (fun r : Int32 × mH => Q (some (.int r.1)) r.2) res) : mGo w kX4_fits 0 0 106 [some (va_rf v0), some (.int v1), some (.int v2), none, some (.int v4), some (.int v5), some (.int v6), some (.int v7), some (.int v8), some (.int v9), none, none] [] h Q := by
  unfold f_X4_fits_l106 at e
  refine mLoop_go (x := (v8, v9, h)) (fun x : Int32 × Int32 × mH => mGo w kX4_fits 0 0 106 [some (va_rf v0), some (.int v1), some (.int v2), none, some (.int v4), some (.int v5), some (.int v6), some (.int v7), some (.int x.1), some (.int x.2.1), none, none] [] x.2.2 Q) (fun r : Int32 × mH => Q (some (.int r.1)) r.2) ?_ e q
  rintro ⟨v8, v9, h1⟩ res e q
  exact g_X4_fits_b106 v0 v1 v2 v4 v5 v6 v7 v8 v9 h1 e q
noncomputable def f_X4_fits_c60 (v0 : Option Nat) (v1 : Int32) (v2 : Int32) (v4 : Int32) (v5 : Int32) (h : mH) : Option (Int32 × mH) :=
  (mGI h v0 3 3).bind fun x1 =>
  (mGI h v0 3 4).bind fun x2 =>
  (mGR h v0 3 8).bind fun x3 =>
  (mAI h x3 v1).bind fun x4 =>
  f_X4_fits_l106 v0 v1 v2 (v4 ^^^ x1) (v5 ^^^ x2) (v1 * (12 : Int32)) ((v1 * (12 : Int32)) + x4) ((v1 * (12 : Int32)) + (12 : Int32)) (v1 * (12 : Int32)) h
set_option maxRecDepth 100000 in
set_option maxHeartbeats 4000000 in
theorem g_X4_fits_c60 {w : mWp} {Q : Option Value → mH → Prop} (v0 : Option Nat) (v1 : Int32) (v2 : Int32) (v4 : Int32) (v5 : Int32) (h : mH) {res : Int32 × mH} (e : f_X4_fits_c60 v0 v1 v2 v4 v5 h = some res) (q : (fun r : Int32 × mH => Q (some (.int r.1)) r.2) res) : mGo w kX4_fits 0 0 60 [some (va_rf v0), some (.int v1), some (.int v2), none, some (.int v4), some (.int v5), none, none, none, none, none, none] [] h Q := by
  unfold f_X4_fits_c60 at e
  refine mGo.iload (n := 62) (x := v4) dX4_fits_60 rfl rfl ?_
  refine mGo.aload_n (n := 63) (r := v0) dX4_fits_62 rfl rfl ?_
  obtain ⟨x1, e_x1, e⟩ := mBind e
  refine mGo.getI (n := 66) dX4_fits_63 sf_RX4_65 e_x1 rfl ?_
  refine mGo.ixor (n := 67) dX4_fits_66 rfl ?_
  refine mGo.istore (n := 69) (ls' := [some (va_rf v0), some (.int v1), some (.int v2), none, some (.int (v4 ^^^ x1)), some (.int v5), none, none, none, none, none, none]) dX4_fits_67 rfl (Nat.le_of_ble_eq_true rfl) rfl ?_
  refine mGo.iload (n := 71) (x := v5) dX4_fits_69 rfl rfl ?_
  refine mGo.aload_n (n := 72) (r := v0) dX4_fits_71 rfl rfl ?_
  obtain ⟨x2, e_x2, e⟩ := mBind e
  refine mGo.getI (n := 75) dX4_fits_72 sf_RX4_68 e_x2 rfl ?_
  refine mGo.ixor (n := 76) dX4_fits_75 rfl ?_
  refine mGo.istore (n := 78) (ls' := [some (va_rf v0), some (.int v1), some (.int v2), none, some (.int (v4 ^^^ x1)), some (.int (v5 ^^^ x2)), none, none, none, none, none, none]) dX4_fits_76 rfl (Nat.le_of_ble_eq_true rfl) rfl ?_
  refine mGo.iload_n (n := 79) (x := v1) dX4_fits_78 rfl rfl ?_
  refine mGo.bipush (n := 81) (v := (12 : Int32)) dX4_fits_79 (by decide) rfl ?_
  refine mGo.imul (n := 82) dX4_fits_81 rfl ?_
  refine mGo.istore (n := 84) (ls' := [some (va_rf v0), some (.int v1), some (.int v2), none, some (.int (v4 ^^^ x1)), some (.int (v5 ^^^ x2)), some (.int (v1 * (12 : Int32))), none, none, none, none, none]) dX4_fits_82 rfl (Nat.le_of_ble_eq_true rfl) rfl ?_
  refine mGo.iload (n := 86) (x := (v1 * (12 : Int32))) dX4_fits_84 rfl rfl ?_
  refine mGo.aload_n (n := 87) (r := v0) dX4_fits_86 rfl rfl ?_
  obtain ⟨x3, e_x3, e⟩ := mBind e
  refine mGo.getR (n := 90) dX4_fits_87 sf_RX4_21 e_x3 rfl ?_
  refine mGo.iload_n (n := 91) (x := v1) dX4_fits_90 rfl rfl ?_
  obtain ⟨x4, e_x4, e⟩ := mBind e
  refine mGo.iald (n := 92) dX4_fits_91 e_x4 rfl ?_
  refine mGo.iadd (n := 93) dX4_fits_92 rfl ?_
  refine mGo.istore (n := 95) (ls' := [some (va_rf v0), some (.int v1), some (.int v2), none, some (.int (v4 ^^^ x1)), some (.int (v5 ^^^ x2)), some (.int (v1 * (12 : Int32))), some (.int ((v1 * (12 : Int32)) + x4)), none, none, none, none]) dX4_fits_93 rfl (Nat.le_of_ble_eq_true rfl) rfl ?_
  refine mGo.iload (n := 97) (x := (v1 * (12 : Int32))) dX4_fits_95 rfl rfl ?_
  refine mGo.bipush (n := 99) (v := (12 : Int32)) dX4_fits_97 (by decide) rfl ?_
  refine mGo.iadd (n := 100) dX4_fits_99 rfl ?_
  refine mGo.istore (n := 102) (ls' := [some (va_rf v0), some (.int v1), some (.int v2), none, some (.int (v4 ^^^ x1)), some (.int (v5 ^^^ x2)), some (.int (v1 * (12 : Int32))), some (.int ((v1 * (12 : Int32)) + x4)), some (.int ((v1 * (12 : Int32)) + (12 : Int32))), none, none, none]) dX4_fits_100 rfl (Nat.le_of_ble_eq_true rfl) rfl ?_
  refine mGo.iload (n := 104) (x := (v1 * (12 : Int32))) dX4_fits_102 rfl rfl ?_
  refine mGo.istore (n := 106) (ls' := [some (va_rf v0), some (.int v1), some (.int v2), none, some (.int (v4 ^^^ x1)), some (.int (v5 ^^^ x2)), some (.int (v1 * (12 : Int32))), some (.int ((v1 * (12 : Int32)) + x4)), some (.int ((v1 * (12 : Int32)) + (12 : Int32))), some (.int (v1 * (12 : Int32))), none, none]) dX4_fits_104 rfl (Nat.le_of_ble_eq_true rfl) rfl ?_
  refine mGo.mk [true, true, true, false, true, true, true, true, true, true, false, false] ?_
  exact g_X4_fits_l106 v0 v1 v2 (v4 ^^^ x1) (v5 ^^^ x2) (v1 * (12 : Int32)) ((v1 * (12 : Int32)) + x4) ((v1 * (12 : Int32)) + (12 : Int32)) (v1 * (12 : Int32)) h e q
noncomputable def f_X4_fits_c32 (v0 : Option Nat) (v1 : Int32) (v2 : Int32) (s0 : Int32) (h : mH) : Option (Int32 × mH) :=
  (mGR h v0 3 2).bind fun x1 =>
  (mAI h x1 (v2 >>> ((1 : Int32) &&& 31))).bind fun x2 =>
  if v1 = 0 then
    (mPF h v0 3 3 (.int s0)).bind fun h3 =>
    (mPF h3 v0 3 4 (.int x2)).bind fun h4 =>
    f_X4_fits_c60 v0 v1 v2 s0 x2 h4
  else
    f_X4_fits_c60 v0 v1 v2 s0 x2 h
set_option maxRecDepth 100000 in
set_option maxHeartbeats 4000000 in
theorem g_X4_fits_c32 {w : mWp} {Q : Option Value → mH → Prop} (v0 : Option Nat) (v1 : Int32) (v2 : Int32) (s0 : Int32) (h : mH) {res : Int32 × mH} (e : f_X4_fits_c32 v0 v1 v2 s0 h = some res) (q : (fun r : Int32 × mH => Q (some (.int r.1)) r.2) res) : mGo w kX4_fits 0 0 32 [some (va_rf v0), some (.int v1), some (.int v2), none, none, none, none, none, none, none, none, none] [.int s0] h Q := by
  unfold f_X4_fits_c32 at e
  refine mGo.istore (n := 34) (ls' := [some (va_rf v0), some (.int v1), some (.int v2), none, some (.int s0), none, none, none, none, none, none, none]) dX4_fits_32 rfl (Nat.le_of_ble_eq_true rfl) rfl ?_
  refine mGo.aload_n (n := 35) (r := v0) dX4_fits_34 rfl rfl ?_
  obtain ⟨x1, e_x1, e⟩ := mBind e
  refine mGo.getR (n := 38) dX4_fits_35 sf_RX4_47 e_x1 rfl ?_
  refine mGo.iload_n (n := 39) (x := v2) dX4_fits_38 rfl rfl ?_
  refine mGo.iconst (n := 40) (v := (1 : Int32)) dX4_fits_39 (by decide) rfl ?_
  refine mGo.ishr (n := 41) dX4_fits_40 rfl ?_
  obtain ⟨x2, e_x2, e⟩ := mBind e
  refine mGo.iald (n := 42) dX4_fits_41 e_x2 rfl ?_
  refine mGo.istore (n := 44) (ls' := [some (va_rf v0), some (.int v1), some (.int v2), none, some (.int s0), some (.int x2), none, none, none, none, none, none]) dX4_fits_42 rfl (Nat.le_of_ble_eq_true rfl) rfl ?_
  refine mGo.iload_n (n := 45) (x := v1) dX4_fits_44 rfl rfl ?_
  refine mGo.if_ne (tgt := 60) (n := 48) dX4_fits_45 (by decide) rfl (fun hc => ?_) (fun hc => ?_)
  · replace e := mIff hc e
    refine mGo.mk [true, true, true, false, true, true, false, false, false, false, false, false] ?_
    exact g_X4_fits_c60 v0 v1 v2 s0 x2 h e q
  · replace e := mIft hc e
    refine mGo.aload_n (n := 49) (r := v0) dX4_fits_48 rfl rfl ?_
    refine mGo.iload (n := 51) (x := s0) dX4_fits_49 rfl rfl ?_
    obtain ⟨h3, e_h3, e⟩ := mBind e
    refine mGo.putI (n := 54) dX4_fits_51 sf_RX4_65 rfl rfl e_h3 rfl ?_
    refine mGo.aload_n (n := 55) (r := v0) dX4_fits_54 rfl rfl ?_
    refine mGo.iload (n := 57) (x := x2) dX4_fits_55 rfl rfl ?_
    obtain ⟨h4, e_h4, e⟩ := mBind e
    refine mGo.putI (n := 60) dX4_fits_57 sf_RX4_68 rfl rfl e_h4 rfl ?_
    refine mGo.mk [true, true, true, false, true, true, false, false, false, false, false, false] ?_
    exact g_X4_fits_c60 v0 v1 v2 s0 x2 h4 e q
noncomputable def f_X4_fits (v0 : Option Nat) (v1 : Int32) (v2 : Int32) (h : mH) : Option (Int32 × mH) :=
  (mIs h v0 3).bind fun _ =>
  (mGI h v0 3 0).bind fun x1 =>
  if (v2 &&& (1 : Int32)) = 0 then
    (mGR h v0 3 1).bind fun x4 =>
    (mAI h x4 v1).bind fun x5 =>
    f_X4_fits_c32 v0 v1 v2 x5 h
  else
    (mGR h v0 3 1).bind fun x2 =>
    (mAI h x2 v1).bind fun x3 =>
    f_X4_fits_c32 v0 v1 v2 (x3 ^^^ (((1 : Int32) <<< (x1 &&& 31)) - (1 : Int32))) h
set_option maxRecDepth 100000 in
set_option maxHeartbeats 4000000 in
theorem g_X4_fits {w : mWp} {Q : Option Value → mH → Prop} (v0 : Option Nat) (v1 : Int32) (v2 : Int32) (h : mH) {res : Int32 × mH} (e : f_X4_fits v0 v1 v2 h = some res) (q : (fun r : Int32 × mH => Q (some (.int r.1)) r.2) res) : mGo w kX4_fits 0 0 0 [some (va_rf v0), some (.int v1), some (.int v2), none, none, none, none, none, none, none, none, none] [] h Q := by
  unfold f_X4_fits at e
  obtain ⟨_, _, e⟩ := mBind e
  refine mGo.iconst (n := 1) (v := (1 : Int32)) dX4_fits_0 (by decide) rfl ?_
  refine mGo.aload_n (n := 2) (r := v0) dX4_fits_1 rfl rfl ?_
  obtain ⟨x1, e_x1, e⟩ := mBind e
  refine mGo.getI (n := 5) dX4_fits_2 sf_RX4_38 e_x1 rfl ?_
  refine mGo.ishl (n := 6) dX4_fits_5 rfl ?_
  refine mGo.iconst (n := 7) (v := (1 : Int32)) dX4_fits_6 (by decide) rfl ?_
  refine mGo.isub (n := 8) dX4_fits_7 rfl ?_
  refine mGo.istore_n (n := 9) (ls' := [some (va_rf v0), some (.int v1), some (.int v2), some (.int (((1 : Int32) <<< (x1 &&& 31)) - (1 : Int32))), none, none, none, none, none, none, none, none]) dX4_fits_8 rfl (Nat.le_of_ble_eq_true rfl) rfl ?_
  refine mGo.iload_n (n := 10) (x := v2) dX4_fits_9 rfl rfl ?_
  refine mGo.iconst (n := 11) (v := (1 : Int32)) dX4_fits_10 (by decide) rfl ?_
  refine mGo.iand (n := 12) dX4_fits_11 rfl ?_
  refine mGo.if_ne (tgt := 24) (n := 15) dX4_fits_12 (by decide) rfl (fun hc => ?_) (fun hc => ?_)
  · replace e := mIff hc e
    refine mGo.aload_n (n := 25) (r := v0) dX4_fits_24 rfl rfl ?_
    obtain ⟨x2, e_x2, e⟩ := mBind e
    refine mGo.getR (n := 28) dX4_fits_25 sf_RX4_44 e_x2 rfl ?_
    refine mGo.iload_n (n := 29) (x := v1) dX4_fits_28 rfl rfl ?_
    obtain ⟨x3, e_x3, e⟩ := mBind e
    refine mGo.iald (n := 30) dX4_fits_29 e_x3 rfl ?_
    refine mGo.iload_n (n := 31) (x := (((1 : Int32) <<< (x1 &&& 31)) - (1 : Int32))) dX4_fits_30 rfl rfl ?_
    refine mGo.ixor (n := 32) dX4_fits_31 rfl ?_
    refine mGo.mk [true, true, true, false, false, false, false, false, false, false, false, false] ?_
    exact g_X4_fits_c32 v0 v1 v2 (x3 ^^^ (((1 : Int32) <<< (x1 &&& 31)) - (1 : Int32))) h e q
  · replace e := mIft hc e
    refine mGo.aload_n (n := 16) (r := v0) dX4_fits_15 rfl rfl ?_
    obtain ⟨x4, e_x4, e⟩ := mBind e
    refine mGo.getR (n := 19) dX4_fits_16 sf_RX4_44 e_x4 rfl ?_
    refine mGo.iload_n (n := 20) (x := v1) dX4_fits_19 rfl rfl ?_
    obtain ⟨x5, e_x5, e⟩ := mBind e
    refine mGo.iald (n := 21) dX4_fits_20 e_x5 rfl ?_
    refine mGo.goto (tgt := 32) dX4_fits_21 (by decide) ?_
    refine mGo.mk [true, true, true, false, false, false, false, false, false, false, false, false] ?_
    exact g_X4_fits_c32 v0 v1 v2 x5 h e q
theorem e_X4_fits {w : mWp} (v0 : Option Nat) (v1 : Int32) (v2 : Int32) (h : mH) {res : Int32 × mH} (e : f_X4_fits v0 v1 v2 h = some res) : mEx w zX4_fits (mRoom 2 0 0) [va_rf v0, .int v1, .int v2] h (fun r h2 => r = some (.int res.1) ∧ h2 = res.2) := by
  refine mEx.of (by decide +kernel) (show mEnt [va_rf v0, .int v1, .int v2] 12 = [some (va_rf v0), some (.int v1), some (.int v2), none, none, none, none, none, none, none, none, none] by rw [mEnt_r, mEnt_i, mEnt_i] <;> rfl) (by simp only [List.map_cons, List.map_nil, mRfc, mCi, mCj, List.sum_cons, List.sum_nil]; exact Nat.le_of_ble_eq_true rfl) ?_
  refine g_X4_fits v0 v1 v2 h e ?_
  exact ⟨rfl, rfl⟩
theorem s_X4_fits (v0 : Option Nat) (v1 : Int32) (v2 : Int32) (h : mH) {res : Int32 × mH} (e : f_X4_fits v0 v1 v2 h = some res) : mIs h v0 3 = some () := by
  unfold f_X4_fits at e
  obtain ⟨u, e1, _⟩ := mBind e
  cases u
  exact e1
-- X4_seek
def kX4_seek (nf : Nat) : mK := (cX4_seek, RX4, 5, some (.boolean), "seek", mRoom (3 + nf) 0 0)
def zX4_seek : mY := (yX4_seek, cX4_seek, 5, some (.boolean))
set_option maxRecDepth 100000 in
theorem sc_RX4_54 : mSS RX4 54 zX8_inSet 2 := ⟨Or.inr ⟨_, mNest_at 581 (x := Cond.methodLinkNest RX4 54 yX8_inSet "SignTables") (by decide +kernel) rfl⟩, mT_at 370 (by decide +kernel) rfl, mT_at 83 (by decide +kernel) rfl, mT_at 371 (by decide +kernel) rfl, ⟨by decide +kernel, by decide +kernel, by decide +kernel⟩⟩
set_option maxRecDepth 100000 in
theorem sc_RX4_58 : mSS RX4 58 zX8_isAgain 4 := ⟨Or.inr ⟨_, mNest_at 582 (x := Cond.methodLinkNest RX4 58 yX8_isAgain "SignTables") (by decide +kernel) rfl⟩, mT_at 604 (by decide +kernel) rfl, mT_at 83 (by decide +kernel) rfl, mT_at 605 (by decide +kernel) rfl, ⟨by decide +kernel, by decide +kernel, by decide +kernel⟩⟩
set_option maxRecDepth 100000 in
theorem sc_RX4_62 : mSV RX4 62 zX4_fits 2 3 := ⟨Or.inl (mT_at 665 (by decide +kernel) rfl), mT_at 667 (by decide +kernel) rfl, mT_at 31 (by decide +kernel) rfl, mT_at 86 (by decide +kernel) rfl, mT_at 668 (by decide +kernel) rfl, ⟨by decide +kernel, by decide +kernel, by decide +kernel⟩, by decide, rfl⟩
set_option maxRecDepth 100000 in
theorem sc_RX4_28 : mSS RX4 28 zX4_seek 3 := ⟨Or.inl (mT_at 660 (by decide +kernel) rfl), mT_at 661 (by decide +kernel) rfl, mT_at 86 (by decide +kernel) rfl, mT_at 662 (by decide +kernel) rfl, ⟨by decide +kernel, by decide +kernel, by decide +kernel⟩⟩
noncomputable def f_X4_seek_b18 (F : Option Nat → Int32 → Int32 → mH → Option (Int32 × mH)) (v0 : Option Nat) (v1 : Int32) (v2 : Int32) (v3 : Int32) (h : mH) : Option ((Int32 × mH) ⊕ (Int32 × mH)) :=
  (mGI h v0 3 0).bind fun x1 =>
  if ((2 : Int32) * x1) ≤ v3 then
    some (Sum.inr ((0 : Int32), h))
  else
    (f_X8_inSet v2 (v3 >>> ((1 : Int32) &&& 31))).bind fun x2 =>
    if x2 = 0 then
      (mGR h v0 3 2).bind fun x3 =>
      (mGI h v0 3 0).bind fun x4 =>
      (f_X8_isAgain x3 x4 (v3 >>> ((1 : Int32) &&& 31)) v2 h).bind fun x5 =>
      if x5 = 0 then
        (f_X4_fits v0 v1 v3 h).bind fun x6 =>
        if x6.1 = 0 then
          some (Sum.inl ((v3 + 1), x6.2))
        else
          (F v0 (v1 + (1 : Int32)) (v2 ||| ((1 : Int32) <<< ((v3 >>> ((1 : Int32) &&& 31)) &&& 31))) x6.2).bind fun x7 =>
          if x7.1 = 0 then
            some (Sum.inl ((v3 + 1), x7.2))
          else
            some (Sum.inr ((1 : Int32), x7.2))
      else
        some (Sum.inl ((v3 + 1), h))
    else
      some (Sum.inl ((v3 + 1), h))
set_option maxRecDepth 100000 in
set_option maxHeartbeats 4000000 in
theorem g_X4_seek_b18 {w : mWp} {Q : Option Value → mH → Prop} {nf : Nat} {F : Option Nat → Int32 → Int32 → mH → Option (Int32 × mH)} (hF : ∀ (v0 : Option Nat) (v1 : Int32) (v2 : Int32) (h : mH) {res : Int32 × mH}, F v0 v1 v2 h = some res → mEx w zX4_seek (mRoom (3 + nf) 0 0) [va_rf v0, .int v1, .int v2] h (fun r h2 => r = some (.int res.1) ∧ h2 = res.2)) (v0 : Option Nat) (v1 : Int32) (v2 : Int32) (v3 : Int32) (h : mH) {res : (Int32 × mH) ⊕ (Int32 × mH)} (e : f_X4_seek_b18 F v0 v1 v2 v3 h = some res) (q : (Sum.elim (fun x : Int32 × mH => mGo w (kX4_seek (nf + 1)) 0 0 18 [some (va_rf v0), some (.int v1), some (.int v2), some (.int x.1), none] [] x.2 Q) (fun r : Int32 × mH => Q (some (.int r.1)) r.2)) res) : mGo w (kX4_seek (nf + 1)) 0 0 18 [some (va_rf v0), some (.int v1), some (.int v2), some (.int v3), none] [] h Q := by
  unfold f_X4_seek_b18 at e
  refine mGo.iload_n (n := 19) (x := v3) dX4_seek_18 rfl rfl ?_
  refine mGo.iconst (n := 20) (v := (2 : Int32)) dX4_seek_19 (by decide) rfl ?_
  refine mGo.aload_n (n := 21) (r := v0) dX4_seek_20 rfl rfl ?_
  obtain ⟨x1, e_x1, e⟩ := mBind e
  refine mGo.getI (n := 24) dX4_seek_21 sf_RX4_38 e_x1 rfl ?_
  refine mGo.imul (n := 25) dX4_seek_24 rfl ?_
  refine mGo.icmp_ge (tgt := 92) (n := 28) dX4_seek_25 (by decide) rfl (fun hc => ?_) (fun hc => ?_)
  · replace e := mIft hc e
    refine mGo.iconst (n := 93) (v := (0 : Int32)) dX4_seek_92 (by decide) rfl ?_
    cases e
    exact mGo.zret dX4_seek_93 rfl (by decide) (Nat.le_of_ble_eq_true rfl) (Nat.le_of_ble_eq_true rfl) q
  · replace e := mIff hc e
    refine mGo.iload_n (n := 29) (x := v3) dX4_seek_28 rfl rfl ?_
    refine mGo.iconst (n := 30) (v := (1 : Int32)) dX4_seek_29 (by decide) rfl ?_
    refine mGo.ishr (n := 31) dX4_seek_30 rfl ?_
    refine mGo.istore (n := 33) (ls' := [some (va_rf v0), some (.int v1), some (.int v2), some (.int v3), some (.int (v3 >>> ((1 : Int32) &&& 31)))]) dX4_seek_31 rfl (Nat.le_of_ble_eq_true rfl) rfl ?_
    refine mGo.iload_n (n := 34) (x := v2) dX4_seek_33 rfl rfl ?_
    refine mGo.iload (n := 36) (x := (v3 >>> ((1 : Int32) &&& 31))) dX4_seek_34 rfl rfl ?_
    obtain ⟨x2, e_x2, e⟩ := mBind e
    refine mGo.callS (n := 39) (y := zX8_inSet) (R' := (mRoom (1) 0 0)) (as := [.int v2, .int (v3 >>> ((1 : Int32) &&& 31))]) (st := []) dX4_seek_36 sc_RX4_54 rfl (e_X8_inSet v2 (v3 >>> ((1 : Int32) &&& 31)) h e_x2) (mFit_of rfl (by omega) (by decide) (Nat.le_of_ble_eq_true rfl) (Nat.le_of_ble_eq_true rfl)) (Nat.le_of_ble_eq_true rfl) rfl rfl ?_
    intro _ _ hq
    rw [hq.1, hq.2]
    show mGo w (kX4_seek (nf + 1)) 0 0 39 [some (va_rf v0), some (.int v1), some (.int v2), some (.int v3), some (.int (v3 >>> ((1 : Int32) &&& 31)))] [.int x2] h Q
    refine mGo.if_ne (tgt := 86) (n := 42) dX4_seek_39 (by decide) rfl (fun hc => ?_) (fun hc => ?_)
    · replace e := mIff hc e
      refine mGo.iinc (n := 89) (x := v3) (v := (v3 + 1)) (ls' := [some (va_rf v0), some (.int v1), some (.int v2), some (.int (v3 + 1)), some (.int (v3 >>> ((1 : Int32) &&& 31)))]) dX4_seek_86 rfl rfl rfl (Nat.le_of_ble_eq_true rfl) rfl ?_
      refine mGo.goto (tgt := 18) dX4_seek_89 (by decide) ?_
      cases e
      refine mGo.mk [true, true, true, true, false] ?_
      exact q
    · replace e := mIft hc e
      refine mGo.aload_n (n := 43) (r := v0) dX4_seek_42 rfl rfl ?_
      obtain ⟨x3, e_x3, e⟩ := mBind e
      refine mGo.getR (n := 46) dX4_seek_43 sf_RX4_47 e_x3 rfl ?_
      refine mGo.aload_n (n := 47) (r := v0) dX4_seek_46 rfl rfl ?_
      obtain ⟨x4, e_x4, e⟩ := mBind e
      refine mGo.getI (n := 50) dX4_seek_47 sf_RX4_38 e_x4 rfl ?_
      refine mGo.iload (n := 52) (x := (v3 >>> ((1 : Int32) &&& 31))) dX4_seek_50 rfl rfl ?_
      refine mGo.iload_n (n := 53) (x := v2) dX4_seek_52 rfl rfl ?_
      obtain ⟨x5, e_x5, e⟩ := mBind e
      refine mGo.callS (n := 56) (y := zX8_isAgain) (R' := (mRoom (2) 0 0)) (as := [va_rf x3, .int x4, .int (v3 >>> ((1 : Int32) &&& 31)), .int v2]) (st := []) dX4_seek_53 sc_RX4_58 rfl (e_X8_isAgain x3 x4 (v3 >>> ((1 : Int32) &&& 31)) v2 h e_x5) (mFit_of rfl (by omega) (by decide) (Nat.le_of_ble_eq_true rfl) (Nat.le_of_ble_eq_true rfl)) (Nat.le_of_ble_eq_true rfl) rfl rfl ?_
      intro _ _ hq
      rw [hq.1, hq.2]
      show mGo w (kX4_seek (nf + 1)) 0 0 56 [some (va_rf v0), some (.int v1), some (.int v2), some (.int v3), some (.int (v3 >>> ((1 : Int32) &&& 31)))] [.int x5] h Q
      refine mGo.if_ne (tgt := 86) (n := 59) dX4_seek_56 (by decide) rfl (fun hc => ?_) (fun hc => ?_)
      · replace e := mIff hc e
        refine mGo.iinc (n := 89) (x := v3) (v := (v3 + 1)) (ls' := [some (va_rf v0), some (.int v1), some (.int v2), some (.int (v3 + 1)), some (.int (v3 >>> ((1 : Int32) &&& 31)))]) dX4_seek_86 rfl rfl rfl (Nat.le_of_ble_eq_true rfl) rfl ?_
        refine mGo.goto (tgt := 18) dX4_seek_89 (by decide) ?_
        cases e
        refine mGo.mk [true, true, true, true, false] ?_
        exact q
      · replace e := mIft hc e
        refine mGo.aload_n (n := 60) (r := v0) dX4_seek_59 rfl rfl ?_
        refine mGo.iload_n (n := 61) (x := v1) dX4_seek_60 rfl rfl ?_
        refine mGo.iload_n (n := 62) (x := v3) dX4_seek_61 rfl rfl ?_
        obtain ⟨x6, e_x6, e⟩ := mBind e
        refine mGo.callV (n := 65) (y := zX4_fits) (R' := (mRoom (2) 0 0)) (as := [.int v1, .int v3]) (st := []) (r0 := v0) dX4_seek_62 sc_RX4_62 rfl (s_X4_fits v0 v1 v3 h e_x6) (e_X4_fits v0 v1 v3 h e_x6) (mFit_of rfl (by omega) (by decide) (Nat.le_of_ble_eq_true rfl) (Nat.le_of_ble_eq_true rfl)) (Nat.le_of_ble_eq_true rfl) rfl rfl ?_
        intro _ _ hq
        rw [hq.1, hq.2]
        show mGo w (kX4_seek (nf + 1)) 0 0 65 [some (va_rf v0), some (.int v1), some (.int v2), some (.int v3), some (.int (v3 >>> ((1 : Int32) &&& 31)))] [.int x6.1] x6.2 Q
        refine mGo.if_eq (tgt := 86) (n := 68) dX4_seek_65 (by decide) rfl (fun hc => ?_) (fun hc => ?_)
        · replace e := mIft hc e
          refine mGo.iinc (n := 89) (x := v3) (v := (v3 + 1)) (ls' := [some (va_rf v0), some (.int v1), some (.int v2), some (.int (v3 + 1)), some (.int (v3 >>> ((1 : Int32) &&& 31)))]) dX4_seek_86 rfl rfl rfl (Nat.le_of_ble_eq_true rfl) rfl ?_
          refine mGo.goto (tgt := 18) dX4_seek_89 (by decide) ?_
          cases e
          refine mGo.mk [true, true, true, true, false] ?_
          exact q
        · replace e := mIff hc e
          refine mGo.aload_n (n := 69) (r := v0) dX4_seek_68 rfl rfl ?_
          refine mGo.iload_n (n := 70) (x := v1) dX4_seek_69 rfl rfl ?_
          refine mGo.iconst (n := 71) (v := (1 : Int32)) dX4_seek_70 (by decide) rfl ?_
          refine mGo.iadd (n := 72) dX4_seek_71 rfl ?_
          refine mGo.iload_n (n := 73) (x := v2) dX4_seek_72 rfl rfl ?_
          refine mGo.iconst (n := 74) (v := (1 : Int32)) dX4_seek_73 (by decide) rfl ?_
          refine mGo.iload (n := 76) (x := (v3 >>> ((1 : Int32) &&& 31))) dX4_seek_74 rfl rfl ?_
          refine mGo.ishl (n := 77) dX4_seek_76 rfl ?_
          refine mGo.ior (n := 78) dX4_seek_77 rfl ?_
          obtain ⟨x7, e_x7, e⟩ := mBind e
          refine mGo.callS (n := 81) (y := zX4_seek) (R' := (mRoom (3 + nf) 0 0)) (as := [va_rf v0, .int (v1 + (1 : Int32)), .int (v2 ||| ((1 : Int32) <<< ((v3 >>> ((1 : Int32) &&& 31)) &&& 31)))]) (st := []) dX4_seek_78 sc_RX4_28 rfl (hF v0 (v1 + (1 : Int32)) (v2 ||| ((1 : Int32) <<< ((v3 >>> ((1 : Int32) &&& 31)) &&& 31))) x6.2 e_x7) (mFit_of rfl (by omega) (by decide) (Nat.le_of_ble_eq_true rfl) (Nat.le_of_ble_eq_true rfl)) (Nat.le_of_ble_eq_true rfl) rfl rfl ?_
          intro _ _ hq
          rw [hq.1, hq.2]
          show mGo w (kX4_seek (nf + 1)) 0 0 81 [some (va_rf v0), some (.int v1), some (.int v2), some (.int v3), some (.int (v3 >>> ((1 : Int32) &&& 31)))] [.int x7.1] x7.2 Q
          refine mGo.if_eq (tgt := 86) (n := 84) dX4_seek_81 (by decide) rfl (fun hc => ?_) (fun hc => ?_)
          · replace e := mIft hc e
            refine mGo.iinc (n := 89) (x := v3) (v := (v3 + 1)) (ls' := [some (va_rf v0), some (.int v1), some (.int v2), some (.int (v3 + 1)), some (.int (v3 >>> ((1 : Int32) &&& 31)))]) dX4_seek_86 rfl rfl rfl (Nat.le_of_ble_eq_true rfl) rfl ?_
            refine mGo.goto (tgt := 18) dX4_seek_89 (by decide) ?_
            cases e
            refine mGo.mk [true, true, true, true, false] ?_
            exact q
          · replace e := mIff hc e
            refine mGo.iconst (n := 85) (v := (1 : Int32)) dX4_seek_84 (by decide) rfl ?_
            cases e
            exact mGo.zret dX4_seek_85 rfl (by decide) (Nat.le_of_ble_eq_true rfl) (Nat.le_of_ble_eq_true rfl) q
noncomputable def f_X4_seek_l18 (F : Option Nat → Int32 → Int32 → mH → Option (Int32 × mH)) (v0 : Option Nat) (v1 : Int32) (v2 : Int32) (v3 : Int32) (h : mH) : Option (Int32 × mH) :=
  mLoop (fun x : Int32 × mH => f_X4_seek_b18 F v0 v1 v2 x.1 x.2) (v3, h)
set_option maxRecDepth 100000 in
set_option maxHeartbeats 4000000 in
theorem g_X4_seek_l18 {w : mWp} {Q : Option Value → mH → Prop} {nf : Nat} {F : Option Nat → Int32 → Int32 → mH → Option (Int32 × mH)} (hF : ∀ (v0 : Option Nat) (v1 : Int32) (v2 : Int32) (h : mH) {res : Int32 × mH}, F v0 v1 v2 h = some res → mEx w zX4_seek (mRoom (3 + nf) 0 0) [va_rf v0, .int v1, .int v2] h (fun r h2 => r = some (.int res.1) ∧ h2 = res.2)) (v0 : Option Nat) (v1 : Int32) (v2 : Int32) (v3 : Int32) (h : mH) {res : Int32 × mH} (e : f_X4_seek_l18 F v0 v1 v2 v3 h = some res) (q : (fun r : Int32 × mH => Q (some (.int r.1)) r.2) res) : mGo w (kX4_seek (nf + 1)) 0 0 18 [some (va_rf v0), some (.int v1), some (.int v2), some (.int v3), none] [] h Q := by
  unfold f_X4_seek_l18 at e
  refine mLoop_go (x := (v3, h)) (fun x : Int32 × mH => mGo w (kX4_seek (nf + 1)) 0 0 18 [some (va_rf v0), some (.int v1), some (.int v2), some (.int x.1), none] [] x.2 Q) (fun r : Int32 × mH => Q (some (.int r.1)) r.2) ?_ e q
  rintro ⟨v3, h1⟩ res e q
  exact g_X4_seek_b18 hF v0 v1 v2 v3 h1 e q
noncomputable def f_X4_seek_r (F : Option Nat → Int32 → Int32 → mH → Option (Int32 × mH)) (v0 : Option Nat) (v1 : Int32) (v2 : Int32) (h : mH) : Option (Int32 × mH) :=
  (mGI h v0 3 0).bind fun x1 =>
  if x1 ≤ v1 then
    some ((1 : Int32), h)
  else
    if v1 < (12 : Int32) then
      f_X4_seek_l18 F v0 v1 v2 (0 : Int32) h
    else
      some ((1 : Int32), h)
set_option maxRecDepth 100000 in
set_option maxHeartbeats 4000000 in
theorem g_X4_seek_r {w : mWp} {Q : Option Value → mH → Prop} {nf : Nat} {F : Option Nat → Int32 → Int32 → mH → Option (Int32 × mH)} (hF : ∀ (v0 : Option Nat) (v1 : Int32) (v2 : Int32) (h : mH) {res : Int32 × mH}, F v0 v1 v2 h = some res → mEx w zX4_seek (mRoom (3 + nf) 0 0) [va_rf v0, .int v1, .int v2] h (fun r h2 => r = some (.int res.1) ∧ h2 = res.2)) (v0 : Option Nat) (v1 : Int32) (v2 : Int32) (h : mH) {res : Int32 × mH} (e : f_X4_seek_r F v0 v1 v2 h = some res) (q : (fun r : Int32 × mH => Q (some (.int r.1)) r.2) res) : mGo w (kX4_seek (nf + 1)) 0 0 0 [some (va_rf v0), some (.int v1), some (.int v2), none, none] [] h Q := by
  unfold f_X4_seek_r at e
  refine mGo.iload_n (n := 1) (x := v1) dX4_seek_0 rfl rfl ?_
  refine mGo.aload_n (n := 2) (r := v0) dX4_seek_1 rfl rfl ?_
  obtain ⟨x1, e_x1, e⟩ := mBind e
  refine mGo.getI (n := 5) dX4_seek_2 sf_RX4_38 e_x1 rfl ?_
  refine mGo.icmp_ge (tgt := 14) (n := 8) dX4_seek_5 (by decide) rfl (fun hc => ?_) (fun hc => ?_)
  · replace e := mIft hc e
    refine mGo.iconst (n := 15) (v := (1 : Int32)) dX4_seek_14 (by decide) rfl ?_
    cases e
    exact mGo.zret dX4_seek_15 rfl (by decide) (Nat.le_of_ble_eq_true rfl) (Nat.le_of_ble_eq_true rfl) q
  · replace e := mIff hc e
    refine mGo.iload_n (n := 9) (x := v1) dX4_seek_8 rfl rfl ?_
    refine mGo.bipush (n := 11) (v := (12 : Int32)) dX4_seek_9 (by decide) rfl ?_
    refine mGo.icmp_lt (tgt := 16) (n := 14) dX4_seek_11 (by decide) rfl (fun hc => ?_) (fun hc => ?_)
    · replace e := mIft hc e
      refine mGo.iconst (n := 17) (v := (0 : Int32)) dX4_seek_16 (by decide) rfl ?_
      refine mGo.istore_n (n := 18) (ls' := [some (va_rf v0), some (.int v1), some (.int v2), some (.int (0 : Int32)), none]) dX4_seek_17 rfl (Nat.le_of_ble_eq_true rfl) rfl ?_
      refine mGo.mk [true, true, true, true, false] ?_
      exact g_X4_seek_l18 hF v0 v1 v2 (0 : Int32) h e q
    · replace e := mIff hc e
      refine mGo.iconst (n := 15) (v := (1 : Int32)) dX4_seek_14 (by decide) rfl ?_
      cases e
      exact mGo.zret dX4_seek_15 rfl (by decide) (Nat.le_of_ble_eq_true rfl) (Nat.le_of_ble_eq_true rfl) q
noncomputable def f_X4_seek : Nat → Option Nat → Int32 → Int32 → mH → Option (Int32 × mH)
  | 0 => fun _ _ _ _ => none
  | nf + 1 => f_X4_seek_r (f_X4_seek nf)
theorem e_X4_seek {w : mWp} : ∀ (nf : Nat) (v0 : Option Nat) (v1 : Int32) (v2 : Int32) (h : mH) {res : Int32 × mH}, f_X4_seek nf v0 v1 v2 h = some res → mEx w zX4_seek (mRoom (3 + nf) 0 0) [va_rf v0, .int v1, .int v2] h (fun r h2 => r = some (.int res.1) ∧ h2 = res.2) := by
  intro nf
  induction nf with
  | zero => intros; rename_i e; cases e
  | succ nf ih =>
    intro v0 v1 v2 h res e
    refine mEx.of (by decide +kernel) (show mEnt [va_rf v0, .int v1, .int v2] 5 = [some (va_rf v0), some (.int v1), some (.int v2), none, none] by rw [mEnt_r, mEnt_i, mEnt_i] <;> rfl) (by simp only [List.map_cons, List.map_nil, mRfc, mCi, mCj, List.sum_cons, List.sum_nil]; exact Nat.le_of_ble_eq_true rfl) ?_
    refine g_X4_seek_r (F := f_X4_seek nf) ih v0 v1 v2 h e ?_
    exact ⟨rfl, rfl⟩
-- X4_findFirst
def kX4_findFirst : mK := (cX4_findFirst, RX4, 3, some (.boolean), "findFirst", mRoom 24 0 0)
def zX4_findFirst : mY := (yX4_findFirst, cX4_findFirst, 3, some (.boolean))
set_option maxRecDepth 100000 in
theorem sc_RX4_24 : mSV RX4 24 zX4_lay 2 3 := ⟨Or.inl (mT_at 655 (by decide +kernel) rfl), mT_at 657 (by decide +kernel) rfl, mT_at 30 (by decide +kernel) rfl, mT_at 86 (by decide +kernel) rfl, mT_at 658 (by decide +kernel) rfl, ⟨by decide +kernel, by decide +kernel, by decide +kernel⟩, by decide, rfl⟩
noncomputable def f_X4_findFirst (v0 : Option Nat) (v1 : Option Nat) (v2 : Option Nat) (h : mH) : Option (Int32 × mH) :=
  (mIs h v0 3).bind fun _ =>
  (f_X4_lay v0 v1 v2 h).bind fun x1 =>
  (f_X4_seek 20 v0 (0 : Int32) (0 : Int32) x1).bind fun x2 =>
  if x2.1 = 0 ∨ x2.1 = 1 then some (x2.1, x2.2) else none
set_option maxRecDepth 100000 in
set_option maxHeartbeats 4000000 in
theorem g_X4_findFirst {w : mWp} {Q : Option Value → mH → Prop} (v0 : Option Nat) (v1 : Option Nat) (v2 : Option Nat) (h : mH) {res : Int32 × mH} (e : f_X4_findFirst v0 v1 v2 h = some res) (q : (fun r : Int32 × mH => Q (some (.int r.1)) r.2) res) : mGo w kX4_findFirst 0 0 0 [some (va_rf v0), some (va_rf v1), some (va_rf v2)] [] h Q := by
  unfold f_X4_findFirst at e
  obtain ⟨_, _, e⟩ := mBind e
  refine mGo.aload_n (n := 1) (r := v0) dX4_findFirst_0 rfl rfl ?_
  refine mGo.aload_n (n := 2) (r := v1) dX4_findFirst_1 rfl rfl ?_
  refine mGo.aload_n (n := 3) (r := v2) dX4_findFirst_2 rfl rfl ?_
  obtain ⟨x1, e_x1, e⟩ := mBind e
  refine mGo.callV (n := 6) (y := zX4_lay) (R' := (mRoom (2) 0 0)) (as := [va_rf v1, va_rf v2]) (st := []) (r0 := v0) dX4_findFirst_3 sc_RX4_24 rfl (s_X4_lay v0 v1 v2 h e_x1) (e_X4_lay v0 v1 v2 h e_x1) (mFit_of rfl (Nat.le_of_ble_eq_true rfl) (by decide) (Nat.le_of_ble_eq_true rfl) (Nat.le_of_ble_eq_true rfl)) (Nat.le_of_ble_eq_true rfl) rfl rfl ?_
  intro _ _ hq
  rw [hq.1, hq.2]
  show mGo w kX4_findFirst 0 0 6 [some (va_rf v0), some (va_rf v1), some (va_rf v2)] [] x1 Q
  refine mGo.aload_n (n := 7) (r := v0) dX4_findFirst_6 rfl rfl ?_
  refine mGo.iconst (n := 8) (v := (0 : Int32)) dX4_findFirst_7 (by decide) rfl ?_
  refine mGo.iconst (n := 9) (v := (0 : Int32)) dX4_findFirst_8 (by decide) rfl ?_
  obtain ⟨x2, e_x2, e⟩ := mBind e
  refine mGo.callS (n := 12) (y := zX4_seek) (R' := (mRoom (3 + 20) 0 0)) (as := [va_rf v0, .int (0 : Int32), .int (0 : Int32)]) (st := []) dX4_findFirst_9 sc_RX4_28 rfl (e_X4_seek 20 v0 (0 : Int32) (0 : Int32) x1 e_x2) (mFit_of rfl (Nat.le_of_ble_eq_true rfl) (by decide) (Nat.le_of_ble_eq_true rfl) (Nat.le_of_ble_eq_true rfl)) (Nat.le_of_ble_eq_true rfl) rfl rfl ?_
  intro _ _ hq
  rw [hq.1, hq.2]
  show mGo w kX4_findFirst 0 0 12 [some (va_rf v0), some (va_rf v1), some (va_rf v2)] [.int x2.1] x2.2 Q
  obtain ⟨hz, e⟩ := mIfP e
  cases e
  exact mGo.zret dX4_findFirst_12 rfl hz (Nat.le_of_ble_eq_true rfl) (Nat.le_of_ble_eq_true rfl) q
theorem e_X4_findFirst {w : mWp} (v0 : Option Nat) (v1 : Option Nat) (v2 : Option Nat) (h : mH) {res : Int32 × mH} (e : f_X4_findFirst v0 v1 v2 h = some res) : mEx w zX4_findFirst (mRoom 24 0 0) [va_rf v0, va_rf v1, va_rf v2] h (fun r h2 => r = some (.int res.1) ∧ h2 = res.2) := by
  refine mEx.of (by decide +kernel) (show mEnt [va_rf v0, va_rf v1, va_rf v2] 3 = [some (va_rf v0), some (va_rf v1), some (va_rf v2)] by rw [mEnt_r, mEnt_r, mEnt_r] <;> rfl) (by simp only [List.map_cons, List.map_nil, mRfc, mCi, mCj, List.sum_cons, List.sum_nil]; exact Nat.le_of_ble_eq_true rfl) ?_
  refine g_X4_findFirst v0 v1 v2 h e ?_
  exact ⟨rfl, rfl⟩
theorem s_X4_findFirst (v0 : Option Nat) (v1 : Option Nat) (v2 : Option Nat) (h : mH) {res : Int32 × mH} (e : f_X4_findFirst v0 v1 v2 h = some res) : mIs h v0 3 = some () := by
  unfold f_X4_findFirst at e
  obtain ⟨u, e1, _⟩ := mBind e
  cases u
  exact e1
-- J6_numberOfTrailingZeros_0f7a4
def kJ6_numberOfTrailingZeros_0f7a4 : mK := (cJ6_numberOfTrailingZeros_0f7a4, RJ6, 2, some (.int), "numberOfTrailingZeros", mRoom 1 0 0)
def zJ6_numberOfTrailingZeros_0f7a4 : mY := (yJ6_numberOfTrailingZeros_0f7a4, cJ6_numberOfTrailingZeros_0f7a4, 2, some (.int))
def f_J6_numberOfTrailingZeros_0f7a4_c74 (v0 : Int32) (v1 : Int32)  : Option (Int32) :=
  some (v1 + (mUshr v0 (1 : Int32)))
set_option maxRecDepth 100000 in
set_option maxHeartbeats 4000000 in
theorem g_J6_numberOfTrailingZeros_0f7a4_c74 {w : mWp} {Q : Option Value → mH → Prop} (v0 : Int32) (v1 : Int32) (h : mH) {res : Int32} (e : f_J6_numberOfTrailingZeros_0f7a4_c74 v0 v1 = some res) (q : (fun r : Int32 => Q (some (.int r)) h) res) : mGo w kJ6_numberOfTrailingZeros_0f7a4 0 0 74 [some (.int v0), some (.int v1)] [] h Q := by
  unfold f_J6_numberOfTrailingZeros_0f7a4_c74 at e
  refine mGo.iload_n (n := 75) (x := v1) dJ6_numberOfTrailingZeros_0f7a4_74 rfl rfl ?_
  refine mGo.iload_n (n := 76) (x := v0) dJ6_numberOfTrailingZeros_0f7a4_75 rfl rfl ?_
  refine mGo.iconst (n := 77) (v := (1 : Int32)) dJ6_numberOfTrailingZeros_0f7a4_76 (by decide) rfl ?_
  refine mGo.iushr (n := 78) dJ6_numberOfTrailingZeros_0f7a4_77 rfl ?_
  refine mGo.iadd (n := 79) dJ6_numberOfTrailingZeros_0f7a4_78 rfl ?_
  cases e
  exact mGo.iret dJ6_numberOfTrailingZeros_0f7a4_79 rfl (Nat.le_of_ble_eq_true rfl) (Nat.le_of_ble_eq_true rfl) q
def f_J6_numberOfTrailingZeros_0f7a4_c62 (v0 : Int32) (v1 : Int32)  : Option (Int32) :=
  if v0 ≤ (4 : Int32) then
    f_J6_numberOfTrailingZeros_0f7a4_c74 v0 v1
  else
    f_J6_numberOfTrailingZeros_0f7a4_c74 (mUshr v0 (2 : Int32)) (v1 + 2)
set_option maxRecDepth 100000 in
set_option maxHeartbeats 4000000 in
theorem g_J6_numberOfTrailingZeros_0f7a4_c62 {w : mWp} {Q : Option Value → mH → Prop} (v0 : Int32) (v1 : Int32) (h : mH) {res : Int32} (e : f_J6_numberOfTrailingZeros_0f7a4_c62 v0 v1 = some res) (q : (fun r : Int32 => Q (some (.int r)) h) res) : mGo w kJ6_numberOfTrailingZeros_0f7a4 0 0 62 [some (.int v0), some (.int v1)] [] h Q := by
  unfold f_J6_numberOfTrailingZeros_0f7a4_c62 at e
  refine mGo.iload_n (n := 63) (x := v0) dJ6_numberOfTrailingZeros_0f7a4_62 rfl rfl ?_
  refine mGo.iconst (n := 64) (v := (4 : Int32)) dJ6_numberOfTrailingZeros_0f7a4_63 (by decide) rfl ?_
  refine mGo.icmp_le (tgt := 74) (n := 67) dJ6_numberOfTrailingZeros_0f7a4_64 (by decide) rfl (fun hc => ?_) (fun hc => ?_)
  · replace e := mIft hc e
    refine mGo.mk [true, true] ?_
    exact g_J6_numberOfTrailingZeros_0f7a4_c74 v0 v1 h e q
  · replace e := mIff hc e
    refine mGo.iinc (n := 70) (x := v1) (v := (v1 + 2)) (ls' := [some (.int v0), some (.int (v1 + 2))]) dJ6_numberOfTrailingZeros_0f7a4_67 rfl rfl rfl (Nat.le_of_ble_eq_true rfl) rfl ?_
    refine mGo.iload_n (n := 71) (x := v0) dJ6_numberOfTrailingZeros_0f7a4_70 rfl rfl ?_
    refine mGo.iconst (n := 72) (v := (2 : Int32)) dJ6_numberOfTrailingZeros_0f7a4_71 (by decide) rfl ?_
    refine mGo.iushr (n := 73) dJ6_numberOfTrailingZeros_0f7a4_72 rfl ?_
    refine mGo.istore_n (n := 74) (ls' := [some (.int (mUshr v0 (2 : Int32))), some (.int (v1 + 2))]) dJ6_numberOfTrailingZeros_0f7a4_73 rfl (Nat.le_of_ble_eq_true rfl) rfl ?_
    refine mGo.mk [true, true] ?_
    exact g_J6_numberOfTrailingZeros_0f7a4_c74 (mUshr v0 (2 : Int32)) (v1 + 2) h e q
def f_J6_numberOfTrailingZeros_0f7a4_c49 (v0 : Int32) (v1 : Int32)  : Option (Int32) :=
  if v0 ≤ (16 : Int32) then
    f_J6_numberOfTrailingZeros_0f7a4_c62 v0 v1
  else
    f_J6_numberOfTrailingZeros_0f7a4_c62 (mUshr v0 (4 : Int32)) (v1 + 4)
set_option maxRecDepth 100000 in
set_option maxHeartbeats 4000000 in
theorem g_J6_numberOfTrailingZeros_0f7a4_c49 {w : mWp} {Q : Option Value → mH → Prop} (v0 : Int32) (v1 : Int32) (h : mH) {res : Int32} (e : f_J6_numberOfTrailingZeros_0f7a4_c49 v0 v1 = some res) (q : (fun r : Int32 => Q (some (.int r)) h) res) : mGo w kJ6_numberOfTrailingZeros_0f7a4 0 0 49 [some (.int v0), some (.int v1)] [] h Q := by
  unfold f_J6_numberOfTrailingZeros_0f7a4_c49 at e
  refine mGo.iload_n (n := 50) (x := v0) dJ6_numberOfTrailingZeros_0f7a4_49 rfl rfl ?_
  refine mGo.bipush (n := 52) (v := (16 : Int32)) dJ6_numberOfTrailingZeros_0f7a4_50 (by decide) rfl ?_
  refine mGo.icmp_le (tgt := 62) (n := 55) dJ6_numberOfTrailingZeros_0f7a4_52 (by decide) rfl (fun hc => ?_) (fun hc => ?_)
  · replace e := mIft hc e
    refine mGo.mk [true, true] ?_
    exact g_J6_numberOfTrailingZeros_0f7a4_c62 v0 v1 h e q
  · replace e := mIff hc e
    refine mGo.iinc (n := 58) (x := v1) (v := (v1 + 4)) (ls' := [some (.int v0), some (.int (v1 + 4))]) dJ6_numberOfTrailingZeros_0f7a4_55 rfl rfl rfl (Nat.le_of_ble_eq_true rfl) rfl ?_
    refine mGo.iload_n (n := 59) (x := v0) dJ6_numberOfTrailingZeros_0f7a4_58 rfl rfl ?_
    refine mGo.iconst (n := 60) (v := (4 : Int32)) dJ6_numberOfTrailingZeros_0f7a4_59 (by decide) rfl ?_
    refine mGo.iushr (n := 61) dJ6_numberOfTrailingZeros_0f7a4_60 rfl ?_
    refine mGo.istore_n (n := 62) (ls' := [some (.int (mUshr v0 (4 : Int32))), some (.int (v1 + 4))]) dJ6_numberOfTrailingZeros_0f7a4_61 rfl (Nat.le_of_ble_eq_true rfl) rfl ?_
    refine mGo.mk [true, true] ?_
    exact g_J6_numberOfTrailingZeros_0f7a4_c62 (mUshr v0 (4 : Int32)) (v1 + 4) h e q
def f_J6_numberOfTrailingZeros_0f7a4_c34 (v0 : Int32) (v1 : Int32)  : Option (Int32) :=
  if v0 ≤ (256 : Int32) then
    f_J6_numberOfTrailingZeros_0f7a4_c49 v0 v1
  else
    f_J6_numberOfTrailingZeros_0f7a4_c49 (mUshr v0 (8 : Int32)) (v1 + 8)
set_option maxRecDepth 100000 in
set_option maxHeartbeats 4000000 in
theorem g_J6_numberOfTrailingZeros_0f7a4_c34 {w : mWp} {Q : Option Value → mH → Prop} (v0 : Int32) (v1 : Int32) (h : mH) {res : Int32} (e : f_J6_numberOfTrailingZeros_0f7a4_c34 v0 v1 = some res) (q : (fun r : Int32 => Q (some (.int r)) h) res) : mGo w kJ6_numberOfTrailingZeros_0f7a4 0 0 34 [some (.int v0), some (.int v1)] [] h Q := by
  unfold f_J6_numberOfTrailingZeros_0f7a4_c34 at e
  refine mGo.iload_n (n := 35) (x := v0) dJ6_numberOfTrailingZeros_0f7a4_34 rfl rfl ?_
  refine mGo.sipush (n := 38) (v := (256 : Int32)) dJ6_numberOfTrailingZeros_0f7a4_35 (by decide) rfl ?_
  refine mGo.icmp_le (tgt := 49) (n := 41) dJ6_numberOfTrailingZeros_0f7a4_38 (by decide) rfl (fun hc => ?_) (fun hc => ?_)
  · replace e := mIft hc e
    refine mGo.mk [true, true] ?_
    exact g_J6_numberOfTrailingZeros_0f7a4_c49 v0 v1 h e q
  · replace e := mIff hc e
    refine mGo.iinc (n := 44) (x := v1) (v := (v1 + 8)) (ls' := [some (.int v0), some (.int (v1 + 8))]) dJ6_numberOfTrailingZeros_0f7a4_41 rfl rfl rfl (Nat.le_of_ble_eq_true rfl) rfl ?_
    refine mGo.iload_n (n := 45) (x := v0) dJ6_numberOfTrailingZeros_0f7a4_44 rfl rfl ?_
    refine mGo.bipush (n := 47) (v := (8 : Int32)) dJ6_numberOfTrailingZeros_0f7a4_45 (by decide) rfl ?_
    refine mGo.iushr (n := 48) dJ6_numberOfTrailingZeros_0f7a4_47 rfl ?_
    refine mGo.istore_n (n := 49) (ls' := [some (.int (mUshr v0 (8 : Int32))), some (.int (v1 + 8))]) dJ6_numberOfTrailingZeros_0f7a4_48 rfl (Nat.le_of_ble_eq_true rfl) rfl ?_
    refine mGo.mk [true, true] ?_
    exact g_J6_numberOfTrailingZeros_0f7a4_c49 (mUshr v0 (8 : Int32)) (v1 + 8) h e q
def f_J6_numberOfTrailingZeros_0f7a4 (v0 : Int32)  : Option (Int32) :=
  if 0 < ((v0 ^^^ (-1 : Int32)) &&& (v0 - (1 : Int32))) then
    if ((v0 ^^^ (-1 : Int32)) &&& (v0 - (1 : Int32))) ≤ (65536 : Int32) then
      f_J6_numberOfTrailingZeros_0f7a4_c34 ((v0 ^^^ (-1 : Int32)) &&& (v0 - (1 : Int32))) (1 : Int32)
    else
      f_J6_numberOfTrailingZeros_0f7a4_c34 (mUshr ((v0 ^^^ (-1 : Int32)) &&& (v0 - (1 : Int32))) (16 : Int32)) ((1 : Int32) + 16)
  else
    some (((v0 ^^^ (-1 : Int32)) &&& (v0 - (1 : Int32))) &&& (32 : Int32))
set_option maxRecDepth 100000 in
set_option maxHeartbeats 4000000 in
theorem g_J6_numberOfTrailingZeros_0f7a4 {w : mWp} {Q : Option Value → mH → Prop} (v0 : Int32) (h : mH) {res : Int32} (e : f_J6_numberOfTrailingZeros_0f7a4 v0 = some res) (q : (fun r : Int32 => Q (some (.int r)) h) res) : mGo w kJ6_numberOfTrailingZeros_0f7a4 0 0 0 [some (.int v0), none] [] h Q := by
  unfold f_J6_numberOfTrailingZeros_0f7a4 at e
  refine mGo.iload_n (n := 1) (x := v0) dJ6_numberOfTrailingZeros_0f7a4_0 rfl rfl ?_
  refine mGo.iconst (n := 2) (v := (-1 : Int32)) dJ6_numberOfTrailingZeros_0f7a4_1 (by decide) rfl ?_
  refine mGo.ixor (n := 3) dJ6_numberOfTrailingZeros_0f7a4_2 rfl ?_
  refine mGo.iload_n (n := 4) (x := v0) dJ6_numberOfTrailingZeros_0f7a4_3 rfl rfl ?_
  refine mGo.iconst (n := 5) (v := (1 : Int32)) dJ6_numberOfTrailingZeros_0f7a4_4 (by decide) rfl ?_
  refine mGo.isub (n := 6) dJ6_numberOfTrailingZeros_0f7a4_5 rfl ?_
  refine mGo.iand (n := 7) dJ6_numberOfTrailingZeros_0f7a4_6 rfl ?_
  refine mGo.istore_n (n := 8) (ls' := [some (.int ((v0 ^^^ (-1 : Int32)) &&& (v0 - (1 : Int32)))), none]) dJ6_numberOfTrailingZeros_0f7a4_7 rfl (Nat.le_of_ble_eq_true rfl) rfl ?_
  refine mGo.iload_n (n := 9) (x := ((v0 ^^^ (-1 : Int32)) &&& (v0 - (1 : Int32)))) dJ6_numberOfTrailingZeros_0f7a4_8 rfl rfl ?_
  refine mGo.if_gt (tgt := 17) (n := 12) dJ6_numberOfTrailingZeros_0f7a4_9 (by decide) rfl (fun hc => ?_) (fun hc => ?_)
  · replace e := mIft hc e
    refine mGo.iconst (n := 18) (v := (1 : Int32)) dJ6_numberOfTrailingZeros_0f7a4_17 (by decide) rfl ?_
    refine mGo.istore_n (n := 19) (ls' := [some (.int ((v0 ^^^ (-1 : Int32)) &&& (v0 - (1 : Int32)))), some (.int (1 : Int32))]) dJ6_numberOfTrailingZeros_0f7a4_18 rfl (Nat.le_of_ble_eq_true rfl) rfl ?_
    refine mGo.iload_n (n := 20) (x := ((v0 ^^^ (-1 : Int32)) &&& (v0 - (1 : Int32)))) dJ6_numberOfTrailingZeros_0f7a4_19 rfl rfl ?_
    refine mGo.ldc_w (n := 23) (v := (65536 : Int32)) dJ6_numberOfTrailingZeros_0f7a4_20 (mT_at 569 (by decide +kernel) rfl) rfl ?_
    refine mGo.icmp_le (tgt := 34) (n := 26) dJ6_numberOfTrailingZeros_0f7a4_23 (by decide) rfl (fun hc => ?_) (fun hc => ?_)
    · replace e := mIft hc e
      refine mGo.mk [true, true] ?_
      exact g_J6_numberOfTrailingZeros_0f7a4_c34 ((v0 ^^^ (-1 : Int32)) &&& (v0 - (1 : Int32))) (1 : Int32) h e q
    · replace e := mIff hc e
      refine mGo.iinc (n := 29) (x := (1 : Int32)) (v := ((1 : Int32) + 16)) (ls' := [some (.int ((v0 ^^^ (-1 : Int32)) &&& (v0 - (1 : Int32)))), some (.int ((1 : Int32) + 16))]) dJ6_numberOfTrailingZeros_0f7a4_26 rfl rfl rfl (Nat.le_of_ble_eq_true rfl) rfl ?_
      refine mGo.iload_n (n := 30) (x := ((v0 ^^^ (-1 : Int32)) &&& (v0 - (1 : Int32)))) dJ6_numberOfTrailingZeros_0f7a4_29 rfl rfl ?_
      refine mGo.bipush (n := 32) (v := (16 : Int32)) dJ6_numberOfTrailingZeros_0f7a4_30 (by decide) rfl ?_
      refine mGo.iushr (n := 33) dJ6_numberOfTrailingZeros_0f7a4_32 rfl ?_
      refine mGo.istore_n (n := 34) (ls' := [some (.int (mUshr ((v0 ^^^ (-1 : Int32)) &&& (v0 - (1 : Int32))) (16 : Int32))), some (.int ((1 : Int32) + 16))]) dJ6_numberOfTrailingZeros_0f7a4_33 rfl (Nat.le_of_ble_eq_true rfl) rfl ?_
      refine mGo.mk [true, true] ?_
      exact g_J6_numberOfTrailingZeros_0f7a4_c34 (mUshr ((v0 ^^^ (-1 : Int32)) &&& (v0 - (1 : Int32))) (16 : Int32)) ((1 : Int32) + 16) h e q
  · replace e := mIff hc e
    refine mGo.iload_n (n := 13) (x := ((v0 ^^^ (-1 : Int32)) &&& (v0 - (1 : Int32)))) dJ6_numberOfTrailingZeros_0f7a4_12 rfl rfl ?_
    refine mGo.bipush (n := 15) (v := (32 : Int32)) dJ6_numberOfTrailingZeros_0f7a4_13 (by decide) rfl ?_
    refine mGo.iand (n := 16) dJ6_numberOfTrailingZeros_0f7a4_15 rfl ?_
    cases e
    exact mGo.iret dJ6_numberOfTrailingZeros_0f7a4_16 rfl (Nat.le_of_ble_eq_true rfl) (Nat.le_of_ble_eq_true rfl) q
theorem e_J6_numberOfTrailingZeros_0f7a4 {w : mWp} (v0 : Int32) (h : mH) {res : Int32} (e : f_J6_numberOfTrailingZeros_0f7a4 v0 = some res) : mEx w zJ6_numberOfTrailingZeros_0f7a4 (mRoom 1 0 0) [.int v0] h (fun r h2 => r = some (.int res) ∧ h2 = h) := by
  refine mEx.of (by decide +kernel) rfl (Nat.le_of_ble_eq_true rfl) ?_
  refine g_J6_numberOfTrailingZeros_0f7a4 v0 h e ?_
  exact ⟨rfl, rfl⟩
-- X4_memberOf
def kX4_memberOf : mK := (cX4_memberOf, RX4, 4, some (.int), "memberOf", mRoom 2 0 0)
def zX4_memberOf : mY := (yX4_memberOf, cX4_memberOf, 4, some (.int))
set_option maxRecDepth 100000 in
theorem sc_RX4_85 : mSS RX4 85 zJ6_numberOfTrailingZeros_0f7a4 1 := ⟨Or.inl (mT_at 685 (by decide +kernel) rfl), mT_at 567 (by decide +kernel) rfl, mT_at 95 (by decide +kernel) rfl, mT_at 568 (by decide +kernel) rfl, ⟨by decide +kernel, by decide +kernel, by decide +kernel⟩⟩
def f_X4_memberOf_b4 (v1 : Int32) (v2 : Int32) (v3 : Int32)  : Option ((Int32 × Int32) ⊕ (Int32)) :=
  if v1 ≤ v3 then
    (f_J6_numberOfTrailingZeros_0f7a4 v2).bind fun x1 =>
    some (Sum.inr x1)
  else
    some (Sum.inl ((v2 &&& (v2 - (1 : Int32))), (v3 + 1)))
set_option maxRecDepth 100000 in
set_option maxHeartbeats 4000000 in
theorem g_X4_memberOf_b4 {w : mWp} {Q : Option Value → mH → Prop} (v1 : Int32) (v2 : Int32) (v3 : Int32) (h : mH) {res : (Int32 × Int32) ⊕ (Int32)} (e : f_X4_memberOf_b4 v1 v2 v3 = some res) (q : (Sum.elim (fun x : Int32 × Int32 => mGo w kX4_memberOf 0 0 4 [none, some (.int v1), some (.int x.1), some (.int x.2)] [] h Q) (fun r : Int32 => Q (some (.int r)) h)) res) : mGo w kX4_memberOf 0 0 4 [none, some (.int v1), some (.int v2), some (.int v3)] [] h Q := by
  unfold f_X4_memberOf_b4 at e
  refine mGo.iload_n (n := 5) (x := v3) dX4_memberOf_4 rfl rfl ?_
  refine mGo.iload_n (n := 6) (x := v1) dX4_memberOf_5 rfl rfl ?_
  refine mGo.icmp_ge (tgt := 21) (n := 9) dX4_memberOf_6 (by decide) rfl (fun hc => ?_) (fun hc => ?_)
  · replace e := mIft hc e
    refine mGo.iload_n (n := 22) (x := v2) dX4_memberOf_21 rfl rfl ?_
    obtain ⟨x1, e_x1, e⟩ := mBind e
    refine mGo.callS (n := 25) (y := zJ6_numberOfTrailingZeros_0f7a4) (R' := (mRoom (1) 0 0)) (as := [.int v2]) (st := []) dX4_memberOf_22 sc_RX4_85 rfl (e_J6_numberOfTrailingZeros_0f7a4 v2 h e_x1) (mFit_of rfl (Nat.le_of_ble_eq_true rfl) (by decide) (Nat.le_of_ble_eq_true rfl) (Nat.le_of_ble_eq_true rfl)) (Nat.le_of_ble_eq_true rfl) rfl rfl ?_
    intro _ _ hq
    rw [hq.1, hq.2]
    show mGo w kX4_memberOf 0 0 25 [none, some (.int v1), some (.int v2), some (.int v3)] [.int x1] h Q
    cases e
    exact mGo.iret dX4_memberOf_25 rfl (Nat.le_of_ble_eq_true rfl) (Nat.le_of_ble_eq_true rfl) q
  · replace e := mIff hc e
    refine mGo.iload_n (n := 10) (x := v2) dX4_memberOf_9 rfl rfl ?_
    refine mGo.iload_n (n := 11) (x := v2) dX4_memberOf_10 rfl rfl ?_
    refine mGo.iconst (n := 12) (v := (1 : Int32)) dX4_memberOf_11 (by decide) rfl ?_
    refine mGo.isub (n := 13) dX4_memberOf_12 rfl ?_
    refine mGo.iand (n := 14) dX4_memberOf_13 rfl ?_
    refine mGo.istore_n (n := 15) (ls' := [none, some (.int v1), some (.int (v2 &&& (v2 - (1 : Int32)))), some (.int v3)]) dX4_memberOf_14 rfl (Nat.le_of_ble_eq_true rfl) rfl ?_
    refine mGo.iinc (n := 18) (x := v3) (v := (v3 + 1)) (ls' := [none, some (.int v1), some (.int (v2 &&& (v2 - (1 : Int32)))), some (.int (v3 + 1))]) dX4_memberOf_15 rfl rfl rfl (Nat.le_of_ble_eq_true rfl) rfl ?_
    refine mGo.goto (tgt := 4) dX4_memberOf_18 (by decide) ?_
    cases e
    refine mGo.mk [false, true, true, true] ?_
    exact q
noncomputable def f_X4_memberOf_l4 (v1 : Int32) (v2 : Int32) (v3 : Int32)  : Option (Int32) :=
  mLoop (fun x : Int32 × Int32 => f_X4_memberOf_b4 v1 x.1 x.2) (v2, v3)
set_option maxRecDepth 100000 in
set_option maxHeartbeats 4000000 in
theorem g_X4_memberOf_l4 {w : mWp} {Q : Option Value → mH → Prop} (v1 : Int32) (v2 : Int32) (v3 : Int32) (h : mH) {res : Int32} (e : f_X4_memberOf_l4 v1 v2 v3 = some res) (q : (fun r : Int32 => Q (some (.int r)) h) res) : mGo w kX4_memberOf 0 0 4 [none, some (.int v1), some (.int v2), some (.int v3)] [] h Q := by
  unfold f_X4_memberOf_l4 at e
  refine mLoop_go (x := (v2, v3)) (fun x : Int32 × Int32 => mGo w kX4_memberOf 0 0 4 [none, some (.int v1), some (.int x.1), some (.int x.2)] [] h Q) (fun r : Int32 => Q (some (.int r)) h) ?_ e q
  rintro ⟨v2, v3⟩ res e q
  exact g_X4_memberOf_b4 v1 v2 v3 h e q
noncomputable def f_X4_memberOf (v0 : Int32) (v1 : Int32)  : Option (Int32) :=
  f_X4_memberOf_l4 v1 v0 (0 : Int32)
set_option maxRecDepth 100000 in
set_option maxHeartbeats 4000000 in
theorem g_X4_memberOf {w : mWp} {Q : Option Value → mH → Prop} (v0 : Int32) (v1 : Int32) (h : mH) {res : Int32} (e : f_X4_memberOf v0 v1 = some res) (q : (fun r : Int32 => Q (some (.int r)) h) res) : mGo w kX4_memberOf 0 0 0 [some (.int v0), some (.int v1), none, none] [] h Q := by
  unfold f_X4_memberOf at e
  refine mGo.iload_n (n := 1) (x := v0) dX4_memberOf_0 rfl rfl ?_
  refine mGo.istore_n (n := 2) (ls' := [some (.int v0), some (.int v1), some (.int v0), none]) dX4_memberOf_1 rfl (Nat.le_of_ble_eq_true rfl) rfl ?_
  refine mGo.iconst (n := 3) (v := (0 : Int32)) dX4_memberOf_2 (by decide) rfl ?_
  refine mGo.istore_n (n := 4) (ls' := [some (.int v0), some (.int v1), some (.int v0), some (.int (0 : Int32))]) dX4_memberOf_3 rfl (Nat.le_of_ble_eq_true rfl) rfl ?_
  refine mGo.mk [false, true, true, true] ?_
  exact g_X4_memberOf_l4 v1 v0 (0 : Int32) h e q
theorem e_X4_memberOf {w : mWp} (v0 : Int32) (v1 : Int32) (h : mH) {res : Int32} (e : f_X4_memberOf v0 v1 = some res) : mEx w zX4_memberOf (mRoom 2 0 0) [.int v0, .int v1] h (fun r h2 => r = some (.int res) ∧ h2 = h) := by
  refine mEx.of (by decide +kernel) rfl (Nat.le_of_ble_eq_true rfl) ?_
  refine g_X4_memberOf v0 v1 h e ?_
  exact ⟨rfl, rfl⟩
