-- X4_columnImage
def kX4_columnImage : mK := (cX4_columnImage, RX4, 7, some (.int), "columnImage", mRoom 3 0 0)
def zX4_columnImage : mY := (yX4_columnImage, cX4_columnImage, 7, some (.int))
set_option maxRecDepth 100000 in
theorem sc_RX4_81 : mSS RX4 81 zX4_memberOf 2 := ⟨Or.inl (mT_at 682 (by decide +kernel) rfl), mT_at 683 (by decide +kernel) rfl, mT_at 86 (by decide +kernel) rfl, mT_at 684 (by decide +kernel) rfl, ⟨by decide +kernel, by decide +kernel, by decide +kernel⟩⟩
noncomputable def f_X4_columnImage_b10 (v0 : Option Nat) (v1 : Int32) (v2 : Int32) (v3 : Int32) (h : mH) : Option ((Int32) ⊕ (Int32)) :=
  (mGR h v0 3 8).bind fun x1 =>
  (mGI h v0 3 0).bind fun x2 =>
  (mAI h x1 x2).bind fun x3 =>
  if (v2 + x3) ≤ v3 then
    some (Sum.inr (-2 : Int32))
  else
    (mGR h v0 3 6).bind fun x4 =>
    (mAI h x4 v3).bind fun x5 =>
    (f_X8_inSet x5 v1).bind fun x6 =>
    if x6 = 0 then
      some (Sum.inl (v3 + 1))
    else
      (mGR h v0 3 6).bind fun x7 =>
      (mAI h x7 v3).bind fun x8 =>
      (f_J6_bitCount_0f7a4 (x8 &&& (((1 : Int32) <<< (v1 &&& 31)) - (1 : Int32)))).bind fun x9 =>
      (mGR h v0 3 7).bind fun x10 =>
      (mAI h x10 v3).bind fun x11 =>
      (f_X4_memberOf x11 x9).bind fun x12 =>
      (mGI h v0 3 3).bind fun x13 =>
      (mGI h v0 3 4).bind fun x14 =>
      some (Sum.inr (((2 : Int32) * x12) + (((x13 >>> (v1 &&& 31)) ^^^ (x14 >>> (x12 &&& 31))) &&& (1 : Int32))))
set_option maxRecDepth 100000 in
set_option maxHeartbeats 4000000 in
theorem g_X4_columnImage_b10 {w : mWp} {Q : Option Value → mH → Prop} (v0 : Option Nat) (v1 : Int32) (v2 : Int32) (v3 : Int32) (h : mH) {res : (Int32) ⊕ (Int32)} (e : f_X4_columnImage_b10 v0 v1 v2 v3 h = some res) (q : (Sum.elim (fun x : Int32 => mGo w kX4_columnImage 0 0 10 [some (va_rf v0), some (.int v1), some (.int v2), some (.int x), none, none, none] [] h Q) (fun r : Int32 => Q (some (.int r)) h)) res) : mGo w kX4_columnImage 0 0 10 [some (va_rf v0), some (.int v1), some (.int v2), some (.int v3), none, none, none] [] h Q := by
  unfold f_X4_columnImage_b10 at e
  refine mGo.iload_n (n := 11) (x := v3) dX4_columnImage_10 rfl rfl ?_
  refine mGo.iload_n (n := 12) (x := v2) dX4_columnImage_11 rfl rfl ?_
  refine mGo.aload_n (n := 13) (r := v0) dX4_columnImage_12 rfl rfl ?_
  obtain ⟨x1, e_x1, e⟩ := mBind e
  refine mGo.getR (n := 16) dX4_columnImage_13 sf_RX4_21 e_x1 rfl ?_
  refine mGo.aload_n (n := 17) (r := v0) dX4_columnImage_16 rfl rfl ?_
  obtain ⟨x2, e_x2, e⟩ := mBind e
  refine mGo.getI (n := 20) dX4_columnImage_17 sf_RX4_38 e_x2 rfl ?_
  obtain ⟨x3, e_x3, e⟩ := mBind e
  refine mGo.iald (n := 21) dX4_columnImage_20 e_x3 rfl ?_
  refine mGo.iadd (n := 22) dX4_columnImage_21 rfl ?_
  refine mGo.icmp_ge (tgt := 100) (n := 25) dX4_columnImage_22 (by decide) rfl (fun hc => ?_) (fun hc => ?_)
  · replace e := mIft hc e
    refine mGo.bipush (n := 102) (v := (-2 : Int32)) dX4_columnImage_100 (by decide) rfl ?_
    cases e
    exact mGo.iret dX4_columnImage_102 rfl (Nat.le_of_ble_eq_true rfl) (Nat.le_of_ble_eq_true rfl) q
  · replace e := mIff hc e
    refine mGo.aload_n (n := 26) (r := v0) dX4_columnImage_25 rfl rfl ?_
    obtain ⟨x4, e_x4, e⟩ := mBind e
    refine mGo.getR (n := 29) dX4_columnImage_26 sf_RX4_15 e_x4 rfl ?_
    refine mGo.iload_n (n := 30) (x := v3) dX4_columnImage_29 rfl rfl ?_
    obtain ⟨x5, e_x5, e⟩ := mBind e
    refine mGo.iald (n := 31) dX4_columnImage_30 e_x5 rfl ?_
    refine mGo.iload_n (n := 32) (x := v1) dX4_columnImage_31 rfl rfl ?_
    obtain ⟨x6, e_x6, e⟩ := mBind e
    refine mGo.callS (n := 35) (y := zX8_inSet) (R' := (mRoom (1) 0 0)) (as := [.int x5, .int v1]) (st := []) dX4_columnImage_32 sc_RX4_54 rfl (e_X8_inSet x5 v1 h e_x6) (mFit_of rfl (Nat.le_of_ble_eq_true rfl) (by decide) (Nat.le_of_ble_eq_true rfl) (Nat.le_of_ble_eq_true rfl)) (Nat.le_of_ble_eq_true rfl) rfl rfl ?_
    intro _ _ hq
    rw [hq.1, hq.2]
    show mGo w kX4_columnImage 0 0 35 [some (va_rf v0), some (.int v1), some (.int v2), some (.int v3), none, none, none] [.int x6] h Q
    refine mGo.if_eq (tgt := 94) (n := 38) dX4_columnImage_35 (by decide) rfl (fun hc => ?_) (fun hc => ?_)
    · replace e := mIft hc e
      refine mGo.iinc (n := 97) (x := v3) (v := (v3 + 1)) (ls' := [some (va_rf v0), some (.int v1), some (.int v2), some (.int (v3 + 1)), none, none, none]) dX4_columnImage_94 rfl rfl rfl (Nat.le_of_ble_eq_true rfl) rfl ?_
      refine mGo.goto (tgt := 10) dX4_columnImage_97 (by decide) ?_
      cases e
      refine mGo.mk [true, true, true, true, false, false, false] ?_
      exact q
    · replace e := mIff hc e
      refine mGo.aload_n (n := 39) (r := v0) dX4_columnImage_38 rfl rfl ?_
      obtain ⟨x7, e_x7, e⟩ := mBind e
      refine mGo.getR (n := 42) dX4_columnImage_39 sf_RX4_15 e_x7 rfl ?_
      refine mGo.iload_n (n := 43) (x := v3) dX4_columnImage_42 rfl rfl ?_
      obtain ⟨x8, e_x8, e⟩ := mBind e
      refine mGo.iald (n := 44) dX4_columnImage_43 e_x8 rfl ?_
      refine mGo.iconst (n := 45) (v := (1 : Int32)) dX4_columnImage_44 (by decide) rfl ?_
      refine mGo.iload_n (n := 46) (x := v1) dX4_columnImage_45 rfl rfl ?_
      refine mGo.ishl (n := 47) dX4_columnImage_46 rfl ?_
      refine mGo.iconst (n := 48) (v := (1 : Int32)) dX4_columnImage_47 (by decide) rfl ?_
      refine mGo.isub (n := 49) dX4_columnImage_48 rfl ?_
      refine mGo.iand (n := 50) dX4_columnImage_49 rfl ?_
      obtain ⟨x9, e_x9, e⟩ := mBind e
      refine mGo.callS (n := 53) (y := zJ6_bitCount_0f7a4) (R' := (mRoom (1) 0 0)) (as := [.int (x8 &&& (((1 : Int32) <<< (v1 &&& 31)) - (1 : Int32)))]) (st := []) dX4_columnImage_50 sc_RX4_71 rfl (e_J6_bitCount_0f7a4 (x8 &&& (((1 : Int32) <<< (v1 &&& 31)) - (1 : Int32))) h e_x9) (mFit_of rfl (Nat.le_of_ble_eq_true rfl) (by decide) (Nat.le_of_ble_eq_true rfl) (Nat.le_of_ble_eq_true rfl)) (Nat.le_of_ble_eq_true rfl) rfl rfl ?_
      intro _ _ hq
      rw [hq.1, hq.2]
      show mGo w kX4_columnImage 0 0 53 [some (va_rf v0), some (.int v1), some (.int v2), some (.int v3), none, none, none] [.int x9] h Q
      refine mGo.istore (n := 55) (ls' := [some (va_rf v0), some (.int v1), some (.int v2), some (.int v3), some (.int x9), none, none]) dX4_columnImage_53 rfl (Nat.le_of_ble_eq_true rfl) rfl ?_
      refine mGo.aload_n (n := 56) (r := v0) dX4_columnImage_55 rfl rfl ?_
      obtain ⟨x10, e_x10, e⟩ := mBind e
      refine mGo.getR (n := 59) dX4_columnImage_56 sf_RX4_18 e_x10 rfl ?_
      refine mGo.iload_n (n := 60) (x := v3) dX4_columnImage_59 rfl rfl ?_
      obtain ⟨x11, e_x11, e⟩ := mBind e
      refine mGo.iald (n := 61) dX4_columnImage_60 e_x11 rfl ?_
      refine mGo.iload (n := 63) (x := x9) dX4_columnImage_61 rfl rfl ?_
      obtain ⟨x12, e_x12, e⟩ := mBind e
      refine mGo.callS (n := 66) (y := zX4_memberOf) (R' := (mRoom (2) 0 0)) (as := [.int x11, .int x9]) (st := []) dX4_columnImage_63 sc_RX4_81 rfl (e_X4_memberOf x11 x9 h e_x12) (mFit_of rfl (Nat.le_of_ble_eq_true rfl) (by decide) (Nat.le_of_ble_eq_true rfl) (Nat.le_of_ble_eq_true rfl)) (Nat.le_of_ble_eq_true rfl) rfl rfl ?_
      intro _ _ hq
      rw [hq.1, hq.2]
      show mGo w kX4_columnImage 0 0 66 [some (va_rf v0), some (.int v1), some (.int v2), some (.int v3), some (.int x9), none, none] [.int x12] h Q
      refine mGo.istore (n := 68) (ls' := [some (va_rf v0), some (.int v1), some (.int v2), some (.int v3), some (.int x9), some (.int x12), none]) dX4_columnImage_66 rfl (Nat.le_of_ble_eq_true rfl) rfl ?_
      refine mGo.aload_n (n := 69) (r := v0) dX4_columnImage_68 rfl rfl ?_
      obtain ⟨x13, e_x13, e⟩ := mBind e
      refine mGo.getI (n := 72) dX4_columnImage_69 sf_RX4_65 e_x13 rfl ?_
      refine mGo.iload_n (n := 73) (x := v1) dX4_columnImage_72 rfl rfl ?_
      refine mGo.ishr (n := 74) dX4_columnImage_73 rfl ?_
      refine mGo.aload_n (n := 75) (r := v0) dX4_columnImage_74 rfl rfl ?_
      obtain ⟨x14, e_x14, e⟩ := mBind e
      refine mGo.getI (n := 78) dX4_columnImage_75 sf_RX4_68 e_x14 rfl ?_
      refine mGo.iload (n := 80) (x := x12) dX4_columnImage_78 rfl rfl ?_
      refine mGo.ishr (n := 81) dX4_columnImage_80 rfl ?_
      refine mGo.ixor (n := 82) dX4_columnImage_81 rfl ?_
      refine mGo.iconst (n := 83) (v := (1 : Int32)) dX4_columnImage_82 (by decide) rfl ?_
      refine mGo.iand (n := 84) dX4_columnImage_83 rfl ?_
      refine mGo.istore (n := 86) (ls' := [some (va_rf v0), some (.int v1), some (.int v2), some (.int v3), some (.int x9), some (.int x12), some (.int (((x13 >>> (v1 &&& 31)) ^^^ (x14 >>> (x12 &&& 31))) &&& (1 : Int32)))]) dX4_columnImage_84 rfl (Nat.le_of_ble_eq_true rfl) rfl ?_
      refine mGo.iconst (n := 87) (v := (2 : Int32)) dX4_columnImage_86 (by decide) rfl ?_
      refine mGo.iload (n := 89) (x := x12) dX4_columnImage_87 rfl rfl ?_
      refine mGo.imul (n := 90) dX4_columnImage_89 rfl ?_
      refine mGo.iload (n := 92) (x := (((x13 >>> (v1 &&& 31)) ^^^ (x14 >>> (x12 &&& 31))) &&& (1 : Int32))) dX4_columnImage_90 rfl rfl ?_
      refine mGo.iadd (n := 93) dX4_columnImage_92 rfl ?_
      cases e
      exact mGo.iret dX4_columnImage_93 rfl (Nat.le_of_ble_eq_true rfl) (Nat.le_of_ble_eq_true rfl) q
noncomputable def f_X4_columnImage_l10 (v0 : Option Nat) (v1 : Int32) (v2 : Int32) (v3 : Int32) (h : mH) : Option (Int32) :=
  mLoop (fun x : Int32 => f_X4_columnImage_b10 v0 v1 v2 x h) (v3)
set_option maxRecDepth 100000 in
set_option maxHeartbeats 4000000 in
theorem g_X4_columnImage_l10 {w : mWp} {Q : Option Value → mH → Prop} (v0 : Option Nat) (v1 : Int32) (v2 : Int32) (v3 : Int32) (h : mH) {res : Int32} (e : f_X4_columnImage_l10 v0 v1 v2 v3 h = some res) (q : (fun r : Int32 => Q (some (.int r)) h) res) : mGo w kX4_columnImage 0 0 10 [some (va_rf v0), some (.int v1), some (.int v2), some (.int v3), none, none, none] [] h Q := by
  unfold f_X4_columnImage_l10 at e
  refine mLoop_go (x := (v3)) (fun x : Int32 => mGo w kX4_columnImage 0 0 10 [some (va_rf v0), some (.int v1), some (.int v2), some (.int x), none, none, none] [] h Q) (fun r : Int32 => Q (some (.int r)) h) ?_ e q
  rintro v3 res e q
  exact g_X4_columnImage_b10 v0 v1 v2 v3 h e q
noncomputable def f_X4_columnImage (v0 : Option Nat) (v1 : Int32) (h : mH) : Option (Int32) :=
  (mIs h v0 3).bind fun _ =>
  (mGI h v0 3 0).bind fun x1 =>
  f_X4_columnImage_l10 v0 v1 (x1 * (12 : Int32)) (x1 * (12 : Int32)) h
set_option maxRecDepth 100000 in
set_option maxHeartbeats 4000000 in
theorem g_X4_columnImage {w : mWp} {Q : Option Value → mH → Prop} (v0 : Option Nat) (v1 : Int32) (h : mH) {res : Int32} (e : f_X4_columnImage v0 v1 h = some res) (q : (fun r : Int32 => Q (some (.int r)) h) res) : mGo w kX4_columnImage 0 0 0 [some (va_rf v0), some (.int v1), none, none, none, none, none] [] h Q := by
  unfold f_X4_columnImage at e
  obtain ⟨_, _, e⟩ := mBind e
  refine mGo.aload_n (n := 1) (r := v0) dX4_columnImage_0 rfl rfl ?_
  obtain ⟨x1, e_x1, e⟩ := mBind e
  refine mGo.getI (n := 4) dX4_columnImage_1 sf_RX4_38 e_x1 rfl ?_
  refine mGo.bipush (n := 6) (v := (12 : Int32)) dX4_columnImage_4 (by decide) rfl ?_
  refine mGo.imul (n := 7) dX4_columnImage_6 rfl ?_
  refine mGo.istore_n (n := 8) (ls' := [some (va_rf v0), some (.int v1), some (.int (x1 * (12 : Int32))), none, none, none, none]) dX4_columnImage_7 rfl (Nat.le_of_ble_eq_true rfl) rfl ?_
  refine mGo.iload_n (n := 9) (x := (x1 * (12 : Int32))) dX4_columnImage_8 rfl rfl ?_
  refine mGo.istore_n (n := 10) (ls' := [some (va_rf v0), some (.int v1), some (.int (x1 * (12 : Int32))), some (.int (x1 * (12 : Int32))), none, none, none]) dX4_columnImage_9 rfl (Nat.le_of_ble_eq_true rfl) rfl ?_
  refine mGo.mk [true, true, true, true, false, false, false] ?_
  exact g_X4_columnImage_l10 v0 v1 (x1 * (12 : Int32)) (x1 * (12 : Int32)) h e q
theorem e_X4_columnImage {w : mWp} (v0 : Option Nat) (v1 : Int32) (h : mH) {res : Int32} (e : f_X4_columnImage v0 v1 h = some res) : mEx w zX4_columnImage (mRoom 3 0 0) [va_rf v0, .int v1] h (fun r h2 => r = some (.int res) ∧ h2 = h) := by
  refine mEx.of (by decide +kernel) (show mEnt [va_rf v0, .int v1] 7 = [some (va_rf v0), some (.int v1), none, none, none, none, none] by rw [mEnt_r, mEnt_i] <;> rfl) (by simp only [List.map_cons, List.map_nil, mRfc, mCi, mCj, List.sum_cons, List.sum_nil]; exact Nat.le_of_ble_eq_true rfl) ?_
  refine g_X4_columnImage v0 v1 h e ?_
  exact ⟨rfl, rfl⟩
theorem s_X4_columnImage (v0 : Option Nat) (v1 : Int32) (h : mH) {res : Int32} (e : f_X4_columnImage v0 v1 h = some res) : mIs h v0 3 = some () := by
  unfold f_X4_columnImage at e
  obtain ⟨u, e1, _⟩ := mBind e
  cases u
  exact e1
-- X4_orders
def kX4_orders : mK := (cX4_orders, RX4, 4, some (.long), "orders", mRoom 1 0 0)
def zX4_orders : mY := (yX4_orders, cX4_orders, 4, some (.long))
def f_X4_orders_b4 (v0 : Int32) (v1 : Int64) (v3 : Int32)  : Option ((Int64 × Int32) ⊕ (Int64)) :=
  if v0 < v3 then
    some (Sum.inr v1)
  else
    some (Sum.inl ((v1 * (Int32.toInt64 v3)), (v3 + 1)))
set_option maxRecDepth 100000 in
set_option maxHeartbeats 4000000 in
theorem g_X4_orders_b4 {w : mWp} {Q : Option Value → mH → Prop} (v0 : Int32) (v1 : Int64) (v3 : Int32) (h : mH) {res : (Int64 × Int32) ⊕ (Int64)} (e : f_X4_orders_b4 v0 v1 v3 = some res) (q : (Sum.elim (fun x : Int64 × Int32 => mGo w kX4_orders 0 0 4 [some (.int v0), some (.long x.1), none, some (.int x.2)] [] h Q) (fun r : Int64 => Q (some (.long r)) h)) res) : mGo w kX4_orders 0 0 4 [some (.int v0), some (.long v1), none, some (.int v3)] [] h Q := by
  unfold f_X4_orders_b4 at e
  refine mGo.iload_n (n := 5) (x := v3) dX4_orders_4 rfl rfl ?_
  refine mGo.iload_n (n := 6) (x := v0) dX4_orders_5 rfl rfl ?_
  refine mGo.icmp_gt (tgt := 20) (n := 9) dX4_orders_6 (by decide) rfl (fun hc => ?_) (fun hc => ?_)
  · replace e := mIft hc e
    refine mGo.lload_n (n := 21) (x := v1) dX4_orders_20 rfl rfl ?_
    cases e
    exact mGo.lret dX4_orders_21 rfl (Nat.le_of_ble_eq_true rfl) (Nat.le_of_ble_eq_true rfl) q
  · replace e := mIff hc e
    refine mGo.lload_n (n := 10) (x := v1) dX4_orders_9 rfl rfl ?_
    refine mGo.iload_n (n := 11) (x := v3) dX4_orders_10 rfl rfl ?_
    refine mGo.i2l (n := 12) dX4_orders_11 rfl ?_
    refine mGo.lmul (n := 13) dX4_orders_12 rfl ?_
    refine mGo.lstore_n (n := 14) (ls' := [some (.int v0), some (.long (v1 * (Int32.toInt64 v3))), none, some (.int v3)]) dX4_orders_13 rfl (Nat.le_of_ble_eq_true rfl) rfl ?_
    refine mGo.iinc (n := 17) (x := v3) (v := (v3 + 1)) (ls' := [some (.int v0), some (.long (v1 * (Int32.toInt64 v3))), none, some (.int (v3 + 1))]) dX4_orders_14 rfl rfl rfl (Nat.le_of_ble_eq_true rfl) rfl ?_
    refine mGo.goto (tgt := 4) dX4_orders_17 (by decide) ?_
    cases e
    refine mGo.mk [true, true, false, true] ?_
    exact q
noncomputable def f_X4_orders_l4 (v0 : Int32) (v1 : Int64) (v3 : Int32)  : Option (Int64) :=
  mLoop (fun x : Int64 × Int32 => f_X4_orders_b4 v0 x.1 x.2) (v1, v3)
set_option maxRecDepth 100000 in
set_option maxHeartbeats 4000000 in
theorem g_X4_orders_l4 {w : mWp} {Q : Option Value → mH → Prop} (v0 : Int32) (v1 : Int64) (v3 : Int32) (h : mH) {res : Int64} (e : f_X4_orders_l4 v0 v1 v3 = some res) (q : (fun r : Int64 => Q (some (.long r)) h) res) : mGo w kX4_orders 0 0 4 [some (.int v0), some (.long v1), none, some (.int v3)] [] h Q := by
  unfold f_X4_orders_l4 at e
  refine mLoop_go (x := (v1, v3)) (fun x : Int64 × Int32 => mGo w kX4_orders 0 0 4 [some (.int v0), some (.long x.1), none, some (.int x.2)] [] h Q) (fun r : Int64 => Q (some (.long r)) h) ?_ e q
  rintro ⟨v1, v3⟩ res e q
  exact g_X4_orders_b4 v0 v1 v3 h e q
noncomputable def f_X4_orders (v0 : Int32)  : Option (Int64) :=
  f_X4_orders_l4 v0 (1 : Int64) (2 : Int32)
set_option maxRecDepth 100000 in
set_option maxHeartbeats 4000000 in
theorem g_X4_orders {w : mWp} {Q : Option Value → mH → Prop} (v0 : Int32) (h : mH) {res : Int64} (e : f_X4_orders v0 = some res) (q : (fun r : Int64 => Q (some (.long r)) h) res) : mGo w kX4_orders 0 0 0 [some (.int v0), none, none, none] [] h Q := by
  unfold f_X4_orders at e
  refine mGo.lconst (n := 1) (v := (1 : Int64)) dX4_orders_0 (by decide) rfl ?_
  refine mGo.lstore_n (n := 2) (ls' := [some (.int v0), some (.long (1 : Int64)), none, none]) dX4_orders_1 rfl (Nat.le_of_ble_eq_true rfl) rfl ?_
  refine mGo.iconst (n := 3) (v := (2 : Int32)) dX4_orders_2 (by decide) rfl ?_
  refine mGo.istore_n (n := 4) (ls' := [some (.int v0), some (.long (1 : Int64)), none, some (.int (2 : Int32))]) dX4_orders_3 rfl (Nat.le_of_ble_eq_true rfl) rfl ?_
  refine mGo.mk [true, true, false, true] ?_
  exact g_X4_orders_l4 v0 (1 : Int64) (2 : Int32) h e q
theorem e_X4_orders {w : mWp} (v0 : Int32) (h : mH) {res : Int64} (e : f_X4_orders v0 = some res) : mEx w zX4_orders (mRoom 1 0 0) [.int v0] h (fun r h2 => r = some (.long res) ∧ h2 = h) := by
  refine mEx.of (by decide +kernel) rfl (Nat.le_of_ble_eq_true rfl) ?_
  refine g_X4_orders v0 h e ?_
  exact ⟨rfl, rfl⟩
-- X4_countToItself
def kX4_countToItself : mK := (cX4_countToItself, RX4, 8, some (.long), "countToItself", mRoom 24 0 0)
def zX4_countToItself : mY := (yX4_countToItself, cX4_countToItself, 8, some (.long))
set_option maxRecDepth 100000 in
theorem sc_RX4_88 : mSS RX4 88 zX4_orders 1 := ⟨Or.inl (mT_at 696 (by decide +kernel) rfl), mT_at 697 (by decide +kernel) rfl, mT_at 86 (by decide +kernel) rfl, mT_at 698 (by decide +kernel) rfl, ⟨by decide +kernel, by decide +kernel, by decide +kernel⟩⟩
noncomputable def f_X4_countToItself_b137 (v0 : Option Nat) (v5 : Int32) (v2 : Int64) (v6 : Int32) (h : mH) : Option ((Int64 × Int32) ⊕ (Int64 × mH)) :=
  (mGR h v0 3 8).bind fun x1 =>
  (mGI h v0 3 0).bind fun x2 =>
  (mAI h x1 x2).bind fun x3 =>
  if (v5 + x3) ≤ v6 then
    some (Sum.inr (v2, h))
  else
    (mGR h v0 3 6).bind fun x4 =>
    (mAI h x4 v6).bind fun x5 =>
    (f_J6_bitCount_0f7a4 x5).bind fun x6 =>
    (f_X4_orders x6).bind fun x7 =>
    some (Sum.inl ((v2 * x7), (v6 + 1)))
set_option maxRecDepth 100000 in
set_option maxHeartbeats 4000000 in
theorem g_X4_countToItself_b137 {w : mWp} {Q : Option Value → mH → Prop} (v0 : Option Nat) (v5 : Int32) (v2 : Int64) (v6 : Int32) (h : mH) {res : (Int64 × Int32) ⊕ (Int64 × mH)} (e : f_X4_countToItself_b137 v0 v5 v2 v6 h = some res) (q : (Sum.elim (fun x : Int64 × Int32 => mGo w kX4_countToItself 0 0 137 [some (va_rf v0), none, some (.long x.1), none, none, some (.int v5), some (.int x.2), none] [] h Q) (fun r : Int64 × mH => Q (some (.long r.1)) r.2)) res) : mGo w kX4_countToItself 0 0 137 [some (va_rf v0), none, some (.long v2), none, none, some (.int v5), some (.int v6), none] [] h Q := by
  unfold f_X4_countToItself_b137 at e
  refine mGo.iload (n := 139) (x := v6) dX4_countToItself_137 rfl rfl ?_
  refine mGo.iload (n := 141) (x := v5) dX4_countToItself_139 rfl rfl ?_
  refine mGo.aload_n (n := 142) (r := v0) dX4_countToItself_141 rfl rfl ?_
  obtain ⟨x1, e_x1, e⟩ := mBind e
  refine mGo.getR (n := 145) dX4_countToItself_142 sf_RX4_21 e_x1 rfl ?_
  refine mGo.aload_n (n := 146) (r := v0) dX4_countToItself_145 rfl rfl ?_
  obtain ⟨x2, e_x2, e⟩ := mBind e
  refine mGo.getI (n := 149) dX4_countToItself_146 sf_RX4_38 e_x2 rfl ?_
  obtain ⟨x3, e_x3, e⟩ := mBind e
  refine mGo.iald (n := 150) dX4_countToItself_149 e_x3 rfl ?_
  refine mGo.iadd (n := 151) dX4_countToItself_150 rfl ?_
  refine mGo.icmp_ge (tgt := 176) (n := 154) dX4_countToItself_151 (by decide) rfl (fun hc => ?_) (fun hc => ?_)
  · replace e := mIft hc e
    refine mGo.lload_n (n := 177) (x := v2) dX4_countToItself_176 rfl rfl ?_
    cases e
    exact mGo.lret dX4_countToItself_177 rfl (Nat.le_of_ble_eq_true rfl) (Nat.le_of_ble_eq_true rfl) q
  · replace e := mIff hc e
    refine mGo.lload_n (n := 155) (x := v2) dX4_countToItself_154 rfl rfl ?_
    refine mGo.aload_n (n := 156) (r := v0) dX4_countToItself_155 rfl rfl ?_
    obtain ⟨x4, e_x4, e⟩ := mBind e
    refine mGo.getR (n := 159) dX4_countToItself_156 sf_RX4_15 e_x4 rfl ?_
    refine mGo.iload (n := 161) (x := v6) dX4_countToItself_159 rfl rfl ?_
    obtain ⟨x5, e_x5, e⟩ := mBind e
    refine mGo.iald (n := 162) dX4_countToItself_161 e_x5 rfl ?_
    obtain ⟨x6, e_x6, e⟩ := mBind e
    refine mGo.callS (n := 165) (y := zJ6_bitCount_0f7a4) (R' := (mRoom (1) 0 0)) (as := [.int x5]) (st := [.long v2]) dX4_countToItself_162 sc_RX4_71 rfl (e_J6_bitCount_0f7a4 x5 h e_x6) (mFit_of rfl (Nat.le_of_ble_eq_true rfl) (by decide) (Nat.le_of_ble_eq_true rfl) (Nat.le_of_ble_eq_true rfl)) (Nat.le_of_ble_eq_true rfl) rfl rfl ?_
    intro _ _ hq
    rw [hq.1, hq.2]
    show mGo w kX4_countToItself 0 0 165 [some (va_rf v0), none, some (.long v2), none, none, some (.int v5), some (.int v6), none] [.int x6, .long v2] h Q
    obtain ⟨x7, e_x7, e⟩ := mBind e
    refine mGo.callS (n := 168) (y := zX4_orders) (R' := (mRoom (1) 0 0)) (as := [.int x6]) (st := [.long v2]) dX4_countToItself_165 sc_RX4_88 rfl (e_X4_orders x6 h e_x7) (mFit_of rfl (Nat.le_of_ble_eq_true rfl) (by decide) (Nat.le_of_ble_eq_true rfl) (Nat.le_of_ble_eq_true rfl)) (Nat.le_of_ble_eq_true rfl) rfl rfl ?_
    intro _ _ hq
    rw [hq.1, hq.2]
    show mGo w kX4_countToItself 0 0 168 [some (va_rf v0), none, some (.long v2), none, none, some (.int v5), some (.int v6), none] [.long x7, .long v2] h Q
    refine mGo.lmul (n := 169) dX4_countToItself_168 rfl ?_
    refine mGo.lstore_n (n := 170) (ls' := [some (va_rf v0), none, some (.long (v2 * x7)), none, none, some (.int v5), some (.int v6), none]) dX4_countToItself_169 rfl (Nat.le_of_ble_eq_true rfl) rfl ?_
    refine mGo.iinc (n := 173) (x := v6) (v := (v6 + 1)) (ls' := [some (va_rf v0), none, some (.long (v2 * x7)), none, none, some (.int v5), some (.int (v6 + 1)), none]) dX4_countToItself_170 rfl rfl rfl (Nat.le_of_ble_eq_true rfl) rfl ?_
    refine mGo.goto (tgt := 137) dX4_countToItself_173 (by decide) ?_
    cases e
    refine mGo.mk [true, false, true, false, false, true, true, false] ?_
    exact q
noncomputable def f_X4_countToItself_l137 (v0 : Option Nat) (v2 : Int64) (v5 : Int32) (v6 : Int32) (h : mH) : Option (Int64 × mH) :=
  mLoop (fun x : Int64 × Int32 => f_X4_countToItself_b137 v0 v5 x.1 x.2 h) (v2, v6)
set_option maxRecDepth 100000 in
set_option maxHeartbeats 4000000 in
theorem g_X4_countToItself_l137 {w : mWp} {Q : Option Value → mH → Prop} (v0 : Option Nat) (v2 : Int64) (v5 : Int32) (v6 : Int32) (h : mH) {res : Int64 × mH} (e : f_X4_countToItself_l137 v0 v2 v5 v6 h = some res) (q : (fun r : Int64 × mH => Q (some (.long r.1)) r.2) res) : mGo w kX4_countToItself 0 0 137 [some (va_rf v0), none, some (.long v2), none, none, some (.int v5), some (.int v6), none] [] h Q := by
  unfold f_X4_countToItself_l137 at e
  refine mLoop_go (x := (v2, v6)) (fun x : Int64 × Int32 => mGo w kX4_countToItself 0 0 137 [some (va_rf v0), none, some (.long x.1), none, none, some (.int v5), some (.int x.2), none] [] h Q) (fun r : Int64 × mH => Q (some (.long r.1)) r.2) ?_ e q
  rintro ⟨v2, v6⟩ res e q
  exact g_X4_countToItself_b137 v0 v5 v2 v6 h e q
noncomputable def f_X4_countToItself_b29 (v0 : Option Nat) (v2 : Int64) (v4 : Int32) (v5 : Int32) (v6 : Int32) (v7 : Int32) (h : mH) : Option ((Int32 × Int32 × mH) ⊕ ((Int64 × Int32 × Int32 × mH) ⊕ (Int64 × mH))) :=
  (mGI h v0 3 0).bind fun x1 =>
  if ((2 : Int32) * x1) ≤ v7 then
    (f_X4_fits v0 v5 ((2 : Int32) * v5) h).bind fun x2 =>
    some (Sum.inr (Sum.inl ((v2 * (Int32.toInt64 v6)), (v4 ||| ((1 : Int32) <<< (v5 &&& 31))), (v5 + 1), x2.2)))
  else
    (f_X8_inSet v4 (v7 >>> ((1 : Int32) &&& 31))).bind fun x3 =>
    if x3 = 0 then
      (f_X4_fits v0 v5 v7 h).bind fun x4 =>
      if x4.1 = 0 then
        some (Sum.inl (v6, (v7 + 1), x4.2))
      else
        (f_X4_seek 20 v0 (v5 + (1 : Int32)) (v4 ||| ((1 : Int32) <<< ((v7 >>> ((1 : Int32) &&& 31)) &&& 31))) x4.2).bind fun x5 =>
        if x5.1 = 0 then
          some (Sum.inl (v6, (v7 + 1), x5.2))
        else
          some (Sum.inl ((v6 + 1), (v7 + 1), x5.2))
    else
      some (Sum.inl (v6, (v7 + 1), h))
set_option maxRecDepth 100000 in
set_option maxHeartbeats 4000000 in
theorem g_X4_countToItself_b29 {w : mWp} {Q : Option Value → mH → Prop} (v0 : Option Nat) (v2 : Int64) (v4 : Int32) (v5 : Int32) (v6 : Int32) (v7 : Int32) (h : mH) {res : (Int32 × Int32 × mH) ⊕ ((Int64 × Int32 × Int32 × mH) ⊕ (Int64 × mH))} (e : f_X4_countToItself_b29 v0 v2 v4 v5 v6 v7 h = some res) (q : (Sum.elim (fun x : Int32 × Int32 × mH => mGo w kX4_countToItself 0 0 29 [some (va_rf v0), none, some (.long v2), none, some (.int v4), some (.int v5), some (.int x.1), some (.int x.2.1)] [] x.2.2 Q) (Sum.elim (fun x : Int64 × Int32 × Int32 × mH => mGo w kX4_countToItself 0 0 14 [some (va_rf v0), none, some (.long x.1), none, some (.int x.2.1), some (.int x.2.2.1), none, none] [] x.2.2.2 Q) (fun r : Int64 × mH => Q (some (.long r.1)) r.2))) res) : mGo w kX4_countToItself 0 0 29 [some (va_rf v0), none, some (.long v2), none, some (.int v4), some (.int v5), some (.int v6), some (.int v7)] [] h Q := by
  unfold f_X4_countToItself_b29 at e
  refine mGo.iload (n := 31) (x := v7) dX4_countToItself_29 rfl rfl ?_
  refine mGo.iconst (n := 32) (v := (2 : Int32)) dX4_countToItself_31 (by decide) rfl ?_
  refine mGo.aload_n (n := 33) (r := v0) dX4_countToItself_32 rfl rfl ?_
  obtain ⟨x1, e_x1, e⟩ := mBind e
  refine mGo.getI (n := 36) dX4_countToItself_33 sf_RX4_38 e_x1 rfl ?_
  refine mGo.imul (n := 37) dX4_countToItself_36 rfl ?_
  refine mGo.icmp_ge (tgt := 92) (n := 40) dX4_countToItself_37 (by decide) rfl (fun hc => ?_) (fun hc => ?_)
  · replace e := mIft hc e
    refine mGo.lload_n (n := 93) (x := v2) dX4_countToItself_92 rfl rfl ?_
    refine mGo.iload (n := 95) (x := v6) dX4_countToItself_93 rfl rfl ?_
    refine mGo.i2l (n := 96) dX4_countToItself_95 rfl ?_
    refine mGo.lmul (n := 97) dX4_countToItself_96 rfl ?_
    refine mGo.lstore_n (n := 98) (ls' := [some (va_rf v0), none, some (.long (v2 * (Int32.toInt64 v6))), none, some (.int v4), some (.int v5), some (.int v6), some (.int v7)]) dX4_countToItself_97 rfl (Nat.le_of_ble_eq_true rfl) rfl ?_
    refine mGo.aload_n (n := 99) (r := v0) dX4_countToItself_98 rfl rfl ?_
    refine mGo.iload (n := 101) (x := v5) dX4_countToItself_99 rfl rfl ?_
    refine mGo.iconst (n := 102) (v := (2 : Int32)) dX4_countToItself_101 (by decide) rfl ?_
    refine mGo.iload (n := 104) (x := v5) dX4_countToItself_102 rfl rfl ?_
    refine mGo.imul (n := 105) dX4_countToItself_104 rfl ?_
    obtain ⟨x2, e_x2, e⟩ := mBind e
    refine mGo.callV (n := 108) (y := zX4_fits) (R' := (mRoom (2) 0 0)) (as := [.int v5, .int ((2 : Int32) * v5)]) (st := []) (r0 := v0) dX4_countToItself_105 sc_RX4_62 rfl (s_X4_fits v0 v5 ((2 : Int32) * v5) h e_x2) (e_X4_fits v0 v5 ((2 : Int32) * v5) h e_x2) (mFit_of rfl (Nat.le_of_ble_eq_true rfl) (by decide) (Nat.le_of_ble_eq_true rfl) (Nat.le_of_ble_eq_true rfl)) (Nat.le_of_ble_eq_true rfl) rfl rfl ?_
    intro _ _ hq
    rw [hq.1, hq.2]
    show mGo w kX4_countToItself 0 0 108 [some (va_rf v0), none, some (.long (v2 * (Int32.toInt64 v6))), none, some (.int v4), some (.int v5), some (.int v6), some (.int v7)] [.int x2.1] x2.2 Q
    refine mGo.pop (n := 109) dX4_countToItself_108 rfl rfl ?_
    refine mGo.iload (n := 111) (x := v4) dX4_countToItself_109 rfl rfl ?_
    refine mGo.iconst (n := 112) (v := (1 : Int32)) dX4_countToItself_111 (by decide) rfl ?_
    refine mGo.iload (n := 114) (x := v5) dX4_countToItself_112 rfl rfl ?_
    refine mGo.ishl (n := 115) dX4_countToItself_114 rfl ?_
    refine mGo.ior (n := 116) dX4_countToItself_115 rfl ?_
    refine mGo.istore (n := 118) (ls' := [some (va_rf v0), none, some (.long (v2 * (Int32.toInt64 v6))), none, some (.int (v4 ||| ((1 : Int32) <<< (v5 &&& 31)))), some (.int v5), some (.int v6), some (.int v7)]) dX4_countToItself_116 rfl (Nat.le_of_ble_eq_true rfl) rfl ?_
    refine mGo.iinc (n := 121) (x := v5) (v := (v5 + 1)) (ls' := [some (va_rf v0), none, some (.long (v2 * (Int32.toInt64 v6))), none, some (.int (v4 ||| ((1 : Int32) <<< (v5 &&& 31)))), some (.int (v5 + 1)), some (.int v6), some (.int v7)]) dX4_countToItself_118 rfl rfl rfl (Nat.le_of_ble_eq_true rfl) rfl ?_
    refine mGo.goto (tgt := 14) dX4_countToItself_121 (by decide) ?_
    cases e
    refine mGo.mk [true, false, true, false, true, true, false, false] ?_
    exact q
  · replace e := mIff hc e
    refine mGo.iload (n := 42) (x := v4) dX4_countToItself_40 rfl rfl ?_
    refine mGo.iload (n := 44) (x := v7) dX4_countToItself_42 rfl rfl ?_
    refine mGo.iconst (n := 45) (v := (1 : Int32)) dX4_countToItself_44 (by decide) rfl ?_
    refine mGo.ishr (n := 46) dX4_countToItself_45 rfl ?_
    obtain ⟨x3, e_x3, e⟩ := mBind e
    refine mGo.callS (n := 49) (y := zX8_inSet) (R' := (mRoom (1) 0 0)) (as := [.int v4, .int (v7 >>> ((1 : Int32) &&& 31))]) (st := []) dX4_countToItself_46 sc_RX4_54 rfl (e_X8_inSet v4 (v7 >>> ((1 : Int32) &&& 31)) h e_x3) (mFit_of rfl (Nat.le_of_ble_eq_true rfl) (by decide) (Nat.le_of_ble_eq_true rfl) (Nat.le_of_ble_eq_true rfl)) (Nat.le_of_ble_eq_true rfl) rfl rfl ?_
    intro _ _ hq
    rw [hq.1, hq.2]
    show mGo w kX4_countToItself 0 0 49 [some (va_rf v0), none, some (.long v2), none, some (.int v4), some (.int v5), some (.int v6), some (.int v7)] [.int x3] h Q
    refine mGo.if_ne (tgt := 86) (n := 52) dX4_countToItself_49 (by decide) rfl (fun hc => ?_) (fun hc => ?_)
    · replace e := mIff hc e
      refine mGo.iinc (n := 89) (x := v7) (v := (v7 + 1)) (ls' := [some (va_rf v0), none, some (.long v2), none, some (.int v4), some (.int v5), some (.int v6), some (.int (v7 + 1))]) dX4_countToItself_86 rfl rfl rfl (Nat.le_of_ble_eq_true rfl) rfl ?_
      refine mGo.goto (tgt := 29) dX4_countToItself_89 (by decide) ?_
      cases e
      refine mGo.mk [true, false, true, false, true, true, true, true] ?_
      exact q
    · replace e := mIft hc e
      refine mGo.aload_n (n := 53) (r := v0) dX4_countToItself_52 rfl rfl ?_
      refine mGo.iload (n := 55) (x := v5) dX4_countToItself_53 rfl rfl ?_
      refine mGo.iload (n := 57) (x := v7) dX4_countToItself_55 rfl rfl ?_
      obtain ⟨x4, e_x4, e⟩ := mBind e
      refine mGo.callV (n := 60) (y := zX4_fits) (R' := (mRoom (2) 0 0)) (as := [.int v5, .int v7]) (st := []) (r0 := v0) dX4_countToItself_57 sc_RX4_62 rfl (s_X4_fits v0 v5 v7 h e_x4) (e_X4_fits v0 v5 v7 h e_x4) (mFit_of rfl (Nat.le_of_ble_eq_true rfl) (by decide) (Nat.le_of_ble_eq_true rfl) (Nat.le_of_ble_eq_true rfl)) (Nat.le_of_ble_eq_true rfl) rfl rfl ?_
      intro _ _ hq
      rw [hq.1, hq.2]
      show mGo w kX4_countToItself 0 0 60 [some (va_rf v0), none, some (.long v2), none, some (.int v4), some (.int v5), some (.int v6), some (.int v7)] [.int x4.1] x4.2 Q
      refine mGo.if_eq (tgt := 86) (n := 63) dX4_countToItself_60 (by decide) rfl (fun hc => ?_) (fun hc => ?_)
      · replace e := mIft hc e
        refine mGo.iinc (n := 89) (x := v7) (v := (v7 + 1)) (ls' := [some (va_rf v0), none, some (.long v2), none, some (.int v4), some (.int v5), some (.int v6), some (.int (v7 + 1))]) dX4_countToItself_86 rfl rfl rfl (Nat.le_of_ble_eq_true rfl) rfl ?_
        refine mGo.goto (tgt := 29) dX4_countToItself_89 (by decide) ?_
        cases e
        refine mGo.mk [true, false, true, false, true, true, true, true] ?_
        exact q
      · replace e := mIff hc e
        refine mGo.aload_n (n := 64) (r := v0) dX4_countToItself_63 rfl rfl ?_
        refine mGo.iload (n := 66) (x := v5) dX4_countToItself_64 rfl rfl ?_
        refine mGo.iconst (n := 67) (v := (1 : Int32)) dX4_countToItself_66 (by decide) rfl ?_
        refine mGo.iadd (n := 68) dX4_countToItself_67 rfl ?_
        refine mGo.iload (n := 70) (x := v4) dX4_countToItself_68 rfl rfl ?_
        refine mGo.iconst (n := 71) (v := (1 : Int32)) dX4_countToItself_70 (by decide) rfl ?_
        refine mGo.iload (n := 73) (x := v7) dX4_countToItself_71 rfl rfl ?_
        refine mGo.iconst (n := 74) (v := (1 : Int32)) dX4_countToItself_73 (by decide) rfl ?_
        refine mGo.ishr (n := 75) dX4_countToItself_74 rfl ?_
        refine mGo.ishl (n := 76) dX4_countToItself_75 rfl ?_
        refine mGo.ior (n := 77) dX4_countToItself_76 rfl ?_
        obtain ⟨x5, e_x5, e⟩ := mBind e
        refine mGo.callS (n := 80) (y := zX4_seek) (R' := (mRoom (3 + 20) 0 0)) (as := [va_rf v0, .int (v5 + (1 : Int32)), .int (v4 ||| ((1 : Int32) <<< ((v7 >>> ((1 : Int32) &&& 31)) &&& 31)))]) (st := []) dX4_countToItself_77 sc_RX4_28 rfl (e_X4_seek 20 v0 (v5 + (1 : Int32)) (v4 ||| ((1 : Int32) <<< ((v7 >>> ((1 : Int32) &&& 31)) &&& 31))) x4.2 e_x5) (mFit_of rfl (Nat.le_of_ble_eq_true rfl) (by decide) (Nat.le_of_ble_eq_true rfl) (Nat.le_of_ble_eq_true rfl)) (Nat.le_of_ble_eq_true rfl) rfl rfl ?_
        intro _ _ hq
        rw [hq.1, hq.2]
        show mGo w kX4_countToItself 0 0 80 [some (va_rf v0), none, some (.long v2), none, some (.int v4), some (.int v5), some (.int v6), some (.int v7)] [.int x5.1] x5.2 Q
        refine mGo.if_eq (tgt := 86) (n := 83) dX4_countToItself_80 (by decide) rfl (fun hc => ?_) (fun hc => ?_)
        · replace e := mIft hc e
          refine mGo.iinc (n := 89) (x := v7) (v := (v7 + 1)) (ls' := [some (va_rf v0), none, some (.long v2), none, some (.int v4), some (.int v5), some (.int v6), some (.int (v7 + 1))]) dX4_countToItself_86 rfl rfl rfl (Nat.le_of_ble_eq_true rfl) rfl ?_
          refine mGo.goto (tgt := 29) dX4_countToItself_89 (by decide) ?_
          cases e
          refine mGo.mk [true, false, true, false, true, true, true, true] ?_
          exact q
        · replace e := mIff hc e
          refine mGo.iinc (n := 86) (x := v6) (v := (v6 + 1)) (ls' := [some (va_rf v0), none, some (.long v2), none, some (.int v4), some (.int v5), some (.int (v6 + 1)), some (.int v7)]) dX4_countToItself_83 rfl rfl rfl (Nat.le_of_ble_eq_true rfl) rfl ?_
          refine mGo.iinc (n := 89) (x := v7) (v := (v7 + 1)) (ls' := [some (va_rf v0), none, some (.long v2), none, some (.int v4), some (.int v5), some (.int (v6 + 1)), some (.int (v7 + 1))]) dX4_countToItself_86 rfl rfl rfl (Nat.le_of_ble_eq_true rfl) rfl ?_
          refine mGo.goto (tgt := 29) dX4_countToItself_89 (by decide) ?_
          cases e
          refine mGo.mk [true, false, true, false, true, true, true, true] ?_
          exact q
noncomputable def f_X4_countToItself_l29 (v0 : Option Nat) (v2 : Int64) (v4 : Int32) (v5 : Int32) (v6 : Int32) (v7 : Int32) (h : mH) : Option ((Int64 × Int32 × Int32 × mH) ⊕ (Int64 × mH)) :=
  mLoop (fun x : Int32 × Int32 × mH => f_X4_countToItself_b29 v0 v2 v4 v5 x.1 x.2.1 x.2.2) (v6, v7, h)
set_option maxRecDepth 100000 in
set_option maxHeartbeats 4000000 in
theorem g_X4_countToItself_l29 {w : mWp} {Q : Option Value → mH → Prop} (v0 : Option Nat) (v2 : Int64) (v4 : Int32) (v5 : Int32) (v6 : Int32) (v7 : Int32) (h : mH) {res : (Int64 × Int32 × Int32 × mH) ⊕ (Int64 × mH)} (e : f_X4_countToItself_l29 v0 v2 v4 v5 v6 v7 h = some res) (q : (Sum.elim (fun x : Int64 × Int32 × Int32 × mH => mGo w kX4_countToItself 0 0 14 [some (va_rf v0), none, some (.long x.1), none, some (.int x.2.1), some (.int x.2.2.1), none, none] [] x.2.2.2 Q) (fun r : Int64 × mH => Q (some (.long r.1)) r.2)) res) : mGo w kX4_countToItself 0 0 29 [some (va_rf v0), none, some (.long v2), none, some (.int v4), some (.int v5), some (.int v6), some (.int v7)] [] h Q := by
  unfold f_X4_countToItself_l29 at e
  refine mLoop_go (x := (v6, v7, h)) (fun x : Int32 × Int32 × mH => mGo w kX4_countToItself 0 0 29 [some (va_rf v0), none, some (.long v2), none, some (.int v4), some (.int v5), some (.int x.1), some (.int x.2.1)] [] x.2.2 Q) (Sum.elim (fun x : Int64 × Int32 × Int32 × mH => mGo w kX4_countToItself 0 0 14 [some (va_rf v0), none, some (.long x.1), none, some (.int x.2.1), some (.int x.2.2.1), none, none] [] x.2.2.2 Q) (fun r : Int64 × mH => Q (some (.long r.1)) r.2)) ?_ e q
  rintro ⟨v6, v7, h1⟩ res e q
  exact g_X4_countToItself_b29 v0 v2 v4 v5 v6 v7 h1 e q
noncomputable def f_X4_countToItself_b14 (v0 : Option Nat) (v2 : Int64) (v4 : Int32) (v5 : Int32) (h : mH) : Option ((Int64 × Int32 × Int32 × mH) ⊕ (Int64 × mH)) :=
  (mGI h v0 3 0).bind fun x1 =>
  if x1 ≤ v5 then
    (mGI h v0 3 0).bind fun x2 =>
    (f_X4_countToItself_l137 v0 v2 (x2 * (12 : Int32)) (x2 * (12 : Int32)) h).map (fun r => (Sum.inr r))
  else
    f_X4_countToItself_l29 v0 v2 v4 v5 (0 : Int32) (0 : Int32) h
set_option maxRecDepth 100000 in
set_option maxHeartbeats 4000000 in
theorem g_X4_countToItself_b14 {w : mWp} {Q : Option Value → mH → Prop} (v0 : Option Nat) (v2 : Int64) (v4 : Int32) (v5 : Int32) (h : mH) {res : (Int64 × Int32 × Int32 × mH) ⊕ (Int64 × mH)} (e : f_X4_countToItself_b14 v0 v2 v4 v5 h = some res) (q : (Sum.elim (fun x : Int64 × Int32 × Int32 × mH => mGo w kX4_countToItself 0 0 14 [some (va_rf v0), none, some (.long x.1), none, some (.int x.2.1), some (.int x.2.2.1), none, none] [] x.2.2.2 Q) (fun r : Int64 × mH => Q (some (.long r.1)) r.2)) res) : mGo w kX4_countToItself 0 0 14 [some (va_rf v0), none, some (.long v2), none, some (.int v4), some (.int v5), none, none] [] h Q := by
  unfold f_X4_countToItself_b14 at e
  refine mGo.iload (n := 16) (x := v5) dX4_countToItself_14 rfl rfl ?_
  refine mGo.aload_n (n := 17) (r := v0) dX4_countToItself_16 rfl rfl ?_
  obtain ⟨x1, e_x1, e⟩ := mBind e
  refine mGo.getI (n := 20) dX4_countToItself_17 sf_RX4_38 e_x1 rfl ?_
  refine mGo.icmp_ge (tgt := 124) (n := 23) dX4_countToItself_20 (by decide) rfl (fun hc => ?_) (fun hc => ?_)
  · replace e := mIft hc e
    refine mGo.aload_n (n := 125) (r := v0) dX4_countToItself_124 rfl rfl ?_
    obtain ⟨x2, e_x2, e⟩ := mBind e
    refine mGo.getI (n := 128) dX4_countToItself_125 sf_RX4_38 e_x2 rfl ?_
    refine mGo.bipush (n := 130) (v := (12 : Int32)) dX4_countToItself_128 (by decide) rfl ?_
    refine mGo.imul (n := 131) dX4_countToItself_130 rfl ?_
    refine mGo.istore (n := 133) (ls' := [some (va_rf v0), none, some (.long v2), none, some (.int v4), some (.int (x2 * (12 : Int32))), none, none]) dX4_countToItself_131 rfl (Nat.le_of_ble_eq_true rfl) rfl ?_
    refine mGo.iload (n := 135) (x := (x2 * (12 : Int32))) dX4_countToItself_133 rfl rfl ?_
    refine mGo.istore (n := 137) (ls' := [some (va_rf v0), none, some (.long v2), none, some (.int v4), some (.int (x2 * (12 : Int32))), some (.int (x2 * (12 : Int32))), none]) dX4_countToItself_135 rfl (Nat.le_of_ble_eq_true rfl) rfl ?_
    obtain ⟨r3, e2, rfl⟩ := mMap e
    refine mGo.mk [true, false, true, false, false, true, true, false] ?_
    exact g_X4_countToItself_l137 v0 v2 (x2 * (12 : Int32)) (x2 * (12 : Int32)) h e2 q
  · replace e := mIff hc e
    refine mGo.iconst (n := 24) (v := (0 : Int32)) dX4_countToItself_23 (by decide) rfl ?_
    refine mGo.istore (n := 26) (ls' := [some (va_rf v0), none, some (.long v2), none, some (.int v4), some (.int v5), some (.int (0 : Int32)), none]) dX4_countToItself_24 rfl (Nat.le_of_ble_eq_true rfl) rfl ?_
    refine mGo.iconst (n := 27) (v := (0 : Int32)) dX4_countToItself_26 (by decide) rfl ?_
    refine mGo.istore (n := 29) (ls' := [some (va_rf v0), none, some (.long v2), none, some (.int v4), some (.int v5), some (.int (0 : Int32)), some (.int (0 : Int32))]) dX4_countToItself_27 rfl (Nat.le_of_ble_eq_true rfl) rfl ?_
    refine mGo.mk [true, false, true, false, true, true, true, true] ?_
    exact g_X4_countToItself_l29 v0 v2 v4 v5 (0 : Int32) (0 : Int32) h e q
noncomputable def f_X4_countToItself_l14 (v0 : Option Nat) (v2 : Int64) (v4 : Int32) (v5 : Int32) (h : mH) : Option (Int64 × mH) :=
  mLoop (fun x : Int64 × Int32 × Int32 × mH => f_X4_countToItself_b14 v0 x.1 x.2.1 x.2.2.1 x.2.2.2) (v2, v4, v5, h)
set_option maxRecDepth 100000 in
set_option maxHeartbeats 4000000 in
theorem g_X4_countToItself_l14 {w : mWp} {Q : Option Value → mH → Prop} (v0 : Option Nat) (v2 : Int64) (v4 : Int32) (v5 : Int32) (h : mH) {res : Int64 × mH} (e : f_X4_countToItself_l14 v0 v2 v4 v5 h = some res) (q : (fun r : Int64 × mH => Q (some (.long r.1)) r.2) res) : mGo w kX4_countToItself 0 0 14 [some (va_rf v0), none, some (.long v2), none, some (.int v4), some (.int v5), none, none] [] h Q := by
  unfold f_X4_countToItself_l14 at e
  refine mLoop_go (x := (v2, v4, v5, h)) (fun x : Int64 × Int32 × Int32 × mH => mGo w kX4_countToItself 0 0 14 [some (va_rf v0), none, some (.long x.1), none, some (.int x.2.1), some (.int x.2.2.1), none, none] [] x.2.2.2 Q) (fun r : Int64 × mH => Q (some (.long r.1)) r.2) ?_ e q
  rintro ⟨v2, v4, v5, h1⟩ res e q
  exact g_X4_countToItself_b14 v0 v2 v4 v5 h1 e q
noncomputable def f_X4_countToItself (v0 : Option Nat) (v1 : Option Nat) (h : mH) : Option (Int64 × mH) :=
  (mIs h v0 3).bind fun _ =>
  (f_X4_lay v0 v1 v1 h).bind fun x1 =>
  f_X4_countToItself_l14 v0 (1 : Int64) (0 : Int32) (0 : Int32) x1
set_option maxRecDepth 100000 in
set_option maxHeartbeats 4000000 in
theorem g_X4_countToItself {w : mWp} {Q : Option Value → mH → Prop} (v0 : Option Nat) (v1 : Option Nat) (h : mH) {res : Int64 × mH} (e : f_X4_countToItself v0 v1 h = some res) (q : (fun r : Int64 × mH => Q (some (.long r.1)) r.2) res) : mGo w kX4_countToItself 0 0 0 [some (va_rf v0), some (va_rf v1), none, none, none, none, none, none] [] h Q := by
  unfold f_X4_countToItself at e
  obtain ⟨_, _, e⟩ := mBind e
  refine mGo.aload_n (n := 1) (r := v0) dX4_countToItself_0 rfl rfl ?_
  refine mGo.aload_n (n := 2) (r := v1) dX4_countToItself_1 rfl rfl ?_
  refine mGo.aload_n (n := 3) (r := v1) dX4_countToItself_2 rfl rfl ?_
  obtain ⟨x1, e_x1, e⟩ := mBind e
  refine mGo.callV (n := 6) (y := zX4_lay) (R' := (mRoom (2) 0 0)) (as := [va_rf v1, va_rf v1]) (st := []) (r0 := v0) dX4_countToItself_3 sc_RX4_24 rfl (s_X4_lay v0 v1 v1 h e_x1) (e_X4_lay v0 v1 v1 h e_x1) (mFit_of rfl (Nat.le_of_ble_eq_true rfl) (by decide) (Nat.le_of_ble_eq_true rfl) (Nat.le_of_ble_eq_true rfl)) (Nat.le_of_ble_eq_true rfl) rfl rfl ?_
  intro _ _ hq
  rw [hq.1, hq.2]
  show mGo w kX4_countToItself 0 0 6 [some (va_rf v0), some (va_rf v1), none, none, none, none, none, none] [] x1 Q
  refine mGo.lconst (n := 7) (v := (1 : Int64)) dX4_countToItself_6 (by decide) rfl ?_
  refine mGo.lstore_n (n := 8) (ls' := [some (va_rf v0), some (va_rf v1), some (.long (1 : Int64)), none, none, none, none, none]) dX4_countToItself_7 ((mStL_set (fun u _ hu => by cases hu; exact mRfc _) (Nat.le_of_ble_eq_true rfl)).trans rfl) (Nat.le_of_ble_eq_true rfl) rfl ?_
  refine mGo.iconst (n := 9) (v := (0 : Int32)) dX4_countToItself_8 (by decide) rfl ?_
  refine mGo.istore (n := 11) (ls' := [some (va_rf v0), some (va_rf v1), some (.long (1 : Int64)), none, some (.int (0 : Int32)), none, none, none]) dX4_countToItself_9 rfl (Nat.le_of_ble_eq_true rfl) rfl ?_
  refine mGo.iconst (n := 12) (v := (0 : Int32)) dX4_countToItself_11 (by decide) rfl ?_
  refine mGo.istore (n := 14) (ls' := [some (va_rf v0), some (va_rf v1), some (.long (1 : Int64)), none, some (.int (0 : Int32)), some (.int (0 : Int32)), none, none]) dX4_countToItself_12 rfl (Nat.le_of_ble_eq_true rfl) rfl ?_
  refine mGo.mk [true, false, true, false, true, true, false, false] ?_
  exact g_X4_countToItself_l14 v0 (1 : Int64) (0 : Int32) (0 : Int32) x1 e q
theorem e_X4_countToItself {w : mWp} (v0 : Option Nat) (v1 : Option Nat) (h : mH) {res : Int64 × mH} (e : f_X4_countToItself v0 v1 h = some res) : mEx w zX4_countToItself (mRoom 24 0 0) [va_rf v0, va_rf v1] h (fun r h2 => r = some (.long res.1) ∧ h2 = res.2) := by
  refine mEx.of (by decide +kernel) (show mEnt [va_rf v0, va_rf v1] 8 = [some (va_rf v0), some (va_rf v1), none, none, none, none, none, none] by rw [mEnt_r, mEnt_r] <;> rfl) (by simp only [List.map_cons, List.map_nil, mRfc, mCi, mCj, List.sum_cons, List.sum_nil]; exact Nat.le_of_ble_eq_true rfl) ?_
  refine g_X4_countToItself v0 v1 h e ?_
  exact ⟨rfl, rfl⟩
theorem s_X4_countToItself (v0 : Option Nat) (v1 : Option Nat) (h : mH) {res : Int64 × mH} (e : f_X4_countToItself v0 v1 h = some res) : mIs h v0 3 = some () := by
  unfold f_X4_countToItself at e
  obtain ⟨u, e1, _⟩ := mBind e
  cases u
  exact e1
-- X5_init
def kX5_init : mK := (cX5_init, RX5, 1, none, "<init>", mRoom 2 3 20)
def zX5_init : mY := (yX5_init, cX5_init, 1, none)
set_option maxRecDepth 100000 in
theorem sf_RX5_9 : mFld RX5 9 4 0 := ⟨by decide, by decide, Or.inl (mT_at 258 (by decide +kernel) rfl)⟩
set_option maxRecDepth 100000 in
theorem sf_RX5_13 : mFld RX5 13 4 1 := ⟨by decide, by decide, Or.inl (mT_at 259 (by decide +kernel) rfl)⟩
set_option maxRecDepth 100000 in
theorem sf_RX5_16 : mFld RX5 16 4 3 := ⟨by decide, by decide, Or.inl (mT_at 261 (by decide +kernel) rfl)⟩
def f_X5_init (v0 : Nat) (h : mH) : Option (mH) :=
  (mIs h (some v0) 4).bind fun _ =>
  (some (mNew h (.inl (8, .inl (fun _ => 0))))).bind fun h1 =>
  (mPF h1 (some v0) 4 0 (va_rf (some (h.1 + 1)))).bind fun h2 =>
  (some (mNew h2 (.inl (8, .inl (fun _ => 0))))).bind fun h3 =>
  (mPF h3 (some v0) 4 1 (va_rf (some (h2.1 + 1)))).bind fun h4 =>
  (some (mNew h4 (.inl (4, .inl (fun _ => 0))))).bind fun h5 =>
  (mPF h5 (some v0) 4 3 (va_rf (some (h4.1 + 1)))).bind fun h6 =>
  some h6
set_option maxRecDepth 100000 in
set_option maxHeartbeats 4000000 in
theorem g_X5_init {w : mWp} {Q : Option Value → mH → Prop} (v0 : Nat) (h : mH) {res : mH} (e : f_X5_init v0 h = some res) (q : (fun r : mH => Q none r) res) : mGo w kX5_init 0 0 0 [some (va_rf (some v0))] [] h Q := by
  unfold f_X5_init at e
  obtain ⟨_, _, e⟩ := mBind e
  refine mGo.aload_n (n := 1) (r := (some v0)) dX5_init_0 rfl rfl ?_
  refine mGo.objI (n := 4) dX5_init_1 (mT_at 257 (by decide +kernel) rfl) (mT_at 102 (by decide +kernel) rfl) (mT_at 103 (by decide +kernel) rfl) (Nat.le_of_ble_eq_true rfl) (Nat.le_of_ble_eq_true rfl) rfl ?_
  refine mGo.aload_n (n := 5) (r := (some v0)) dX5_init_4 rfl rfl ?_
  refine mGo.bipush (n := 7) (v := (8 : Int32)) dX5_init_5 (by decide) rfl ?_
  obtain ⟨h1, e_h1, e⟩ := mBind e
  refine mGo.newI' (n := 9) (N := 8) dX5_init_7 (by decide) (by decide) (by decide) (mT_at 152 (by decide +kernel) rfl) (Nat.le_of_ble_eq_true rfl) (Nat.le_of_ble_eq_true rfl) rfl e_h1 ?_
  show mGo w kX5_init 1 8 9 [some (va_rf (some v0))] [va_rf (some (h.1 + 1)), va_rf (some v0)] h1 Q
  obtain ⟨h2, e_h2, e⟩ := mBind e
  refine mGo.putR (n := 12) dX5_init_9 sf_RX5_9 (Or.inr ⟨rfl, rfl, rfl, mT_at 258 (by decide +kernel) rfl⟩) rfl e_h2 rfl ?_
  refine mGo.aload_n (n := 13) (r := (some v0)) dX5_init_12 rfl rfl ?_
  refine mGo.bipush (n := 15) (v := (8 : Int32)) dX5_init_13 (by decide) rfl ?_
  obtain ⟨h3, e_h3, e⟩ := mBind e
  refine mGo.newI' (n := 17) (N := 8) dX5_init_15 (by decide) (by decide) (by decide) (mT_at 152 (by decide +kernel) rfl) (Nat.le_of_ble_eq_true rfl) (Nat.le_of_ble_eq_true rfl) rfl e_h3 ?_
  show mGo w kX5_init 2 16 17 [some (va_rf (some v0))] [va_rf (some (h2.1 + 1)), va_rf (some v0)] h3 Q
  obtain ⟨h4, e_h4, e⟩ := mBind e
  refine mGo.putR (n := 20) dX5_init_17 sf_RX5_13 (Or.inr ⟨rfl, rfl, rfl, mT_at 259 (by decide +kernel) rfl⟩) rfl e_h4 rfl ?_
  refine mGo.aload_n (n := 21) (r := (some v0)) dX5_init_20 rfl rfl ?_
  refine mGo.iconst (n := 22) (v := (4 : Int32)) dX5_init_21 (by decide) rfl ?_
  obtain ⟨h5, e_h5, e⟩ := mBind e
  refine mGo.newI' (n := 24) (N := 4) dX5_init_22 (by decide) (by decide) (by decide) (mT_at 152 (by decide +kernel) rfl) (Nat.le_of_ble_eq_true rfl) (Nat.le_of_ble_eq_true rfl) rfl e_h5 ?_
  show mGo w kX5_init 3 20 24 [some (va_rf (some v0))] [va_rf (some (h4.1 + 1)), va_rf (some v0)] h5 Q
  obtain ⟨h6, e_h6, e⟩ := mBind e
  refine mGo.putR (n := 27) dX5_init_24 sf_RX5_16 (Or.inr ⟨rfl, rfl, rfl, mT_at 261 (by decide +kernel) rfl⟩) rfl e_h6 rfl ?_
  cases e
  exact mGo.vret dX5_init_27 rfl (Nat.le_of_ble_eq_true rfl) (Nat.le_of_ble_eq_true rfl) q
theorem e_X5_init {w : mWp} (v0 : Nat) (h : mH) {res : mH} (e : f_X5_init v0 h = some res) : mEx w zX5_init (mRoom 2 3 20) [va_rf (some v0)] h (fun r h2 => r = none ∧ h2 = res) := by
  refine mEx.of (by decide +kernel) (show mEnt [va_rf (some v0)] 1 = [some (va_rf (some v0))] by rw [mEnt_r] <;> rfl) (by simp only [List.map_cons, List.map_nil, mRfc, mCi, mCj, List.sum_cons, List.sum_nil]; exact Nat.le_of_ble_eq_true rfl) ?_
  refine g_X5_init v0 h e ?_
  exact ⟨rfl, rfl⟩
theorem s_X5_init (v0 : Nat) (h : mH) {res : mH} (e : f_X5_init v0 h = some res) : mIs h (some v0) 4 = some () := by
  unfold f_X5_init at e
  obtain ⟨u, e1, _⟩ := mBind e
  cases u
  exact e1
-- X5_keep
def kX5_keep : mK := (cX5_keep, RX5, 5, none, "keep", mRoom 1 0 0)
def zX5_keep : mY := (yX5_keep, cX5_keep, 5, none)
def f_X5_keep (v0 : Option Nat) (v1 : Int32) (v2 : Int32) (v3 : Int32) (v4 : Int32) (h : mH) : Option (mH) :=
  (mIs h v0 4).bind fun _ =>
  (mGR h v0 4 3).bind fun x1 =>
  (mGR h v0 4 0).bind fun x2 =>
  (mAI h x2 v1).bind fun x3 =>
  (mSI h x1 (0 : Int32) x3).bind fun h4 =>
  (mGR h4 v0 4 3).bind fun x5 =>
  (mGR h4 v0 4 0).bind fun x6 =>
  (mAI h4 x6 v2).bind fun x7 =>
  (mSI h4 x5 (1 : Int32) x7).bind fun h8 =>
  (mGR h8 v0 4 3).bind fun x9 =>
  (mGR h8 v0 4 0).bind fun x10 =>
  (mAI h8 x10 v3).bind fun x11 =>
  (mSI h8 x9 (2 : Int32) x11).bind fun h12 =>
  (mGR h12 v0 4 3).bind fun x13 =>
  (mGR h12 v0 4 0).bind fun x14 =>
  (mAI h12 x14 v4).bind fun x15 =>
  (mSI h12 x13 (3 : Int32) x15).bind fun h16 =>
  some h16
set_option maxRecDepth 100000 in
set_option maxHeartbeats 4000000 in
theorem g_X5_keep {w : mWp} {Q : Option Value → mH → Prop} (v0 : Option Nat) (v1 : Int32) (v2 : Int32) (v3 : Int32) (v4 : Int32) (h : mH) {res : mH} (e : f_X5_keep v0 v1 v2 v3 v4 h = some res) (q : (fun r : mH => Q none r) res) : mGo w kX5_keep 0 0 0 [some (va_rf v0), some (.int v1), some (.int v2), some (.int v3), some (.int v4)] [] h Q := by
  unfold f_X5_keep at e
  obtain ⟨_, _, e⟩ := mBind e
  refine mGo.aload_n (n := 1) (r := v0) dX5_keep_0 rfl rfl ?_
  obtain ⟨x1, e_x1, e⟩ := mBind e
  refine mGo.getR (n := 4) dX5_keep_1 sf_RX5_16 e_x1 rfl ?_
  refine mGo.iconst (n := 5) (v := (0 : Int32)) dX5_keep_4 (by decide) rfl ?_
  refine mGo.aload_n (n := 6) (r := v0) dX5_keep_5 rfl rfl ?_
  obtain ⟨x2, e_x2, e⟩ := mBind e
  refine mGo.getR (n := 9) dX5_keep_6 sf_RX5_9 e_x2 rfl ?_
  refine mGo.iload_n (n := 10) (x := v1) dX5_keep_9 rfl rfl ?_
  obtain ⟨x3, e_x3, e⟩ := mBind e
  refine mGo.iald (n := 11) dX5_keep_10 e_x3 rfl ?_
  obtain ⟨h4, e_h4, e⟩ := mBind e
  refine mGo.iast (n := 12) dX5_keep_11 e_h4 rfl ?_
  refine mGo.aload_n (n := 13) (r := v0) dX5_keep_12 rfl rfl ?_
  obtain ⟨x5, e_x5, e⟩ := mBind e
  refine mGo.getR (n := 16) dX5_keep_13 sf_RX5_16 e_x5 rfl ?_
  refine mGo.iconst (n := 17) (v := (1 : Int32)) dX5_keep_16 (by decide) rfl ?_
  refine mGo.aload_n (n := 18) (r := v0) dX5_keep_17 rfl rfl ?_
  obtain ⟨x6, e_x6, e⟩ := mBind e
  refine mGo.getR (n := 21) dX5_keep_18 sf_RX5_9 e_x6 rfl ?_
  refine mGo.iload_n (n := 22) (x := v2) dX5_keep_21 rfl rfl ?_
  obtain ⟨x7, e_x7, e⟩ := mBind e
  refine mGo.iald (n := 23) dX5_keep_22 e_x7 rfl ?_
  obtain ⟨h8, e_h8, e⟩ := mBind e
  refine mGo.iast (n := 24) dX5_keep_23 e_h8 rfl ?_
  refine mGo.aload_n (n := 25) (r := v0) dX5_keep_24 rfl rfl ?_
  obtain ⟨x9, e_x9, e⟩ := mBind e
  refine mGo.getR (n := 28) dX5_keep_25 sf_RX5_16 e_x9 rfl ?_
  refine mGo.iconst (n := 29) (v := (2 : Int32)) dX5_keep_28 (by decide) rfl ?_
  refine mGo.aload_n (n := 30) (r := v0) dX5_keep_29 rfl rfl ?_
  obtain ⟨x10, e_x10, e⟩ := mBind e
  refine mGo.getR (n := 33) dX5_keep_30 sf_RX5_9 e_x10 rfl ?_
  refine mGo.iload_n (n := 34) (x := v3) dX5_keep_33 rfl rfl ?_
  obtain ⟨x11, e_x11, e⟩ := mBind e
  refine mGo.iald (n := 35) dX5_keep_34 e_x11 rfl ?_
  obtain ⟨h12, e_h12, e⟩ := mBind e
  refine mGo.iast (n := 36) dX5_keep_35 e_h12 rfl ?_
  refine mGo.aload_n (n := 37) (r := v0) dX5_keep_36 rfl rfl ?_
  obtain ⟨x13, e_x13, e⟩ := mBind e
  refine mGo.getR (n := 40) dX5_keep_37 sf_RX5_16 e_x13 rfl ?_
  refine mGo.iconst (n := 41) (v := (3 : Int32)) dX5_keep_40 (by decide) rfl ?_
  refine mGo.aload_n (n := 42) (r := v0) dX5_keep_41 rfl rfl ?_
  obtain ⟨x14, e_x14, e⟩ := mBind e
  refine mGo.getR (n := 45) dX5_keep_42 sf_RX5_9 e_x14 rfl ?_
  refine mGo.iload (n := 47) (x := v4) dX5_keep_45 rfl rfl ?_
  obtain ⟨x15, e_x15, e⟩ := mBind e
  refine mGo.iald (n := 48) dX5_keep_47 e_x15 rfl ?_
  obtain ⟨h16, e_h16, e⟩ := mBind e
  refine mGo.iast (n := 49) dX5_keep_48 e_h16 rfl ?_
  cases e
  exact mGo.vret dX5_keep_49 rfl (Nat.le_of_ble_eq_true rfl) (Nat.le_of_ble_eq_true rfl) q
theorem e_X5_keep {w : mWp} (v0 : Option Nat) (v1 : Int32) (v2 : Int32) (v3 : Int32) (v4 : Int32) (h : mH) {res : mH} (e : f_X5_keep v0 v1 v2 v3 v4 h = some res) : mEx w zX5_keep (mRoom 1 0 0) [va_rf v0, .int v1, .int v2, .int v3, .int v4] h (fun r h2 => r = none ∧ h2 = res) := by
  refine mEx.of (by decide +kernel) (show mEnt [va_rf v0, .int v1, .int v2, .int v3, .int v4] 5 = [some (va_rf v0), some (.int v1), some (.int v2), some (.int v3), some (.int v4)] by rw [mEnt_r, mEnt_i, mEnt_i, mEnt_i, mEnt_i] <;> rfl) (by simp only [List.map_cons, List.map_nil, mRfc, mCi, mCj, List.sum_cons, List.sum_nil]; exact Nat.le_of_ble_eq_true rfl) ?_
  refine g_X5_keep v0 v1 v2 v3 v4 h e ?_
  exact ⟨rfl, rfl⟩
theorem s_X5_keep (v0 : Option Nat) (v1 : Int32) (v2 : Int32) (v3 : Int32) (v4 : Int32) (h : mH) {res : mH} (e : f_X5_keep v0 v1 v2 v3 v4 h = some res) : mIs h v0 4 = some () := by
  unfold f_X5_keep at e
  obtain ⟨u, e1, _⟩ := mBind e
  cases u
  exact e1
-- X8_shiftedRound
def kX8_shiftedRound : mK := (cX8_shiftedRound, RX8, 3, some (.int), "shiftedRound", mRoom 1 0 0)
def zX8_shiftedRound : mY := (yX8_shiftedRound, cX8_shiftedRound, 3, some (.int))
def f_X8_shiftedRound (v0 : Int32) (v1 : Int32) (v2 : Int32)  : Option (Int32) :=
  some (((v0 <<< (v2 &&& 31)) ||| (mUshr v0 (v1 - v2))) &&& (((1 : Int32) <<< (v1 &&& 31)) - (1 : Int32)))
set_option maxRecDepth 100000 in
set_option maxHeartbeats 4000000 in
theorem g_X8_shiftedRound {w : mWp} {Q : Option Value → mH → Prop} (v0 : Int32) (v1 : Int32) (v2 : Int32) (h : mH) {res : Int32} (e : f_X8_shiftedRound v0 v1 v2 = some res) (q : (fun r : Int32 => Q (some (.int r)) h) res) : mGo w kX8_shiftedRound 0 0 0 [some (.int v0), some (.int v1), some (.int v2)] [] h Q := by
  unfold f_X8_shiftedRound at e
  refine mGo.iload_n (n := 1) (x := v0) dX8_shiftedRound_0 rfl rfl ?_
  refine mGo.iload_n (n := 2) (x := v2) dX8_shiftedRound_1 rfl rfl ?_
  refine mGo.ishl (n := 3) dX8_shiftedRound_2 rfl ?_
  refine mGo.iload_n (n := 4) (x := v0) dX8_shiftedRound_3 rfl rfl ?_
  refine mGo.iload_n (n := 5) (x := v1) dX8_shiftedRound_4 rfl rfl ?_
  refine mGo.iload_n (n := 6) (x := v2) dX8_shiftedRound_5 rfl rfl ?_
  refine mGo.isub (n := 7) dX8_shiftedRound_6 rfl ?_
  refine mGo.iushr (n := 8) dX8_shiftedRound_7 rfl ?_
  refine mGo.ior (n := 9) dX8_shiftedRound_8 rfl ?_
  refine mGo.iconst (n := 10) (v := (1 : Int32)) dX8_shiftedRound_9 (by decide) rfl ?_
  refine mGo.iload_n (n := 11) (x := v1) dX8_shiftedRound_10 rfl rfl ?_
  refine mGo.ishl (n := 12) dX8_shiftedRound_11 rfl ?_
  refine mGo.iconst (n := 13) (v := (1 : Int32)) dX8_shiftedRound_12 (by decide) rfl ?_
  refine mGo.isub (n := 14) dX8_shiftedRound_13 rfl ?_
  refine mGo.iand (n := 15) dX8_shiftedRound_14 rfl ?_
  cases e
  exact mGo.iret dX8_shiftedRound_15 rfl (Nat.le_of_ble_eq_true rfl) (Nat.le_of_ble_eq_true rfl) q
theorem e_X8_shiftedRound {w : mWp} (v0 : Int32) (v1 : Int32) (v2 : Int32) (h : mH) {res : Int32} (e : f_X8_shiftedRound v0 v1 v2 = some res) : mEx w zX8_shiftedRound (mRoom 1 0 0) [.int v0, .int v1, .int v2] h (fun r h2 => r = some (.int res) ∧ h2 = h) := by
  refine mEx.of (by decide +kernel) rfl (Nat.le_of_ble_eq_true rfl) ?_
  refine g_X8_shiftedRound v0 v1 v2 h e ?_
  exact ⟨rfl, rfl⟩
-- X5_allShifts
def kX5_allShifts : mK := (cX5_allShifts, RX5, 4, some (.int), "allShifts", mRoom 3 0 0)
def zX5_allShifts : mY := (yX5_allShifts, cX5_allShifts, 4, some (.int))
set_option maxRecDepth 100000 in
theorem sc_RX5_44 : mSS RX5 44 zX8_shiftedRound 3 := ⟨Or.inr ⟨_, mNest_at 697 (x := Cond.methodLinkNest RX5 44 yX8_shiftedRound "SignTables") (by decide +kernel) rfl⟩, mT_at 411 (by decide +kernel) rfl, mT_at 83 (by decide +kernel) rfl, mT_at 412 (by decide +kernel) rfl, ⟨by decide +kernel, by decide +kernel, by decide +kernel⟩⟩
set_option maxRecDepth 100000 in
theorem sc_RX5_48 : mSS RX5 48 zX8_signSum 2 := ⟨Or.inr ⟨_, mNest_at 698 (x := Cond.methodLinkNest RX5 48 yX8_signSum "SignTables") (by decide +kernel) rfl⟩, mT_at 433 (by decide +kernel) rfl, mT_at 83 (by decide +kernel) rfl, mT_at 434 (by decide +kernel) rfl, ⟨by decide +kernel, by decide +kernel, by decide +kernel⟩⟩
def f_X5_allShifts_b4 (v0 : Int32) (v1 : Int32) (v2 : Int32) (v3 : Int32)  : Option ((Int32 × Int32) ⊕ (Int32)) :=
  if v1 ≤ ((2 : Int32) * v3) then
    some (Sum.inr v2)
  else
    (f_X8_shiftedRound v0 v1 v3).bind fun x1 =>
    (f_X8_signSum (v0 ^^^ x1) v1).bind fun x2 =>
    some (Sum.inl ((((64 : Int32) * v2) + x2), (v3 + 1)))
set_option maxRecDepth 100000 in
set_option maxHeartbeats 4000000 in
theorem g_X5_allShifts_b4 {w : mWp} {Q : Option Value → mH → Prop} (v0 : Int32) (v1 : Int32) (v2 : Int32) (v3 : Int32) (h : mH) {res : (Int32 × Int32) ⊕ (Int32)} (e : f_X5_allShifts_b4 v0 v1 v2 v3 = some res) (q : (Sum.elim (fun x : Int32 × Int32 => mGo w kX5_allShifts 0 0 4 [some (.int v0), some (.int v1), some (.int x.1), some (.int x.2)] [] h Q) (fun r : Int32 => Q (some (.int r)) h)) res) : mGo w kX5_allShifts 0 0 4 [some (.int v0), some (.int v1), some (.int v2), some (.int v3)] [] h Q := by
  unfold f_X5_allShifts_b4 at e
  refine mGo.iconst (n := 5) (v := (2 : Int32)) dX5_allShifts_4 (by decide) rfl ?_
  refine mGo.iload_n (n := 6) (x := v3) dX5_allShifts_5 rfl rfl ?_
  refine mGo.imul (n := 7) dX5_allShifts_6 rfl ?_
  refine mGo.iload_n (n := 8) (x := v1) dX5_allShifts_7 rfl rfl ?_
  refine mGo.icmp_ge (tgt := 35) (n := 11) dX5_allShifts_8 (by decide) rfl (fun hc => ?_) (fun hc => ?_)
  · replace e := mIft hc e
    refine mGo.iload_n (n := 36) (x := v2) dX5_allShifts_35 rfl rfl ?_
    cases e
    exact mGo.iret dX5_allShifts_36 rfl (Nat.le_of_ble_eq_true rfl) (Nat.le_of_ble_eq_true rfl) q
  · replace e := mIff hc e
    refine mGo.bipush (n := 13) (v := (64 : Int32)) dX5_allShifts_11 (by decide) rfl ?_
    refine mGo.iload_n (n := 14) (x := v2) dX5_allShifts_13 rfl rfl ?_
    refine mGo.imul (n := 15) dX5_allShifts_14 rfl ?_
    refine mGo.iload_n (n := 16) (x := v0) dX5_allShifts_15 rfl rfl ?_
    refine mGo.iload_n (n := 17) (x := v0) dX5_allShifts_16 rfl rfl ?_
    refine mGo.iload_n (n := 18) (x := v1) dX5_allShifts_17 rfl rfl ?_
    refine mGo.iload_n (n := 19) (x := v3) dX5_allShifts_18 rfl rfl ?_
    obtain ⟨x1, e_x1, e⟩ := mBind e
    refine mGo.callS (n := 22) (y := zX8_shiftedRound) (R' := (mRoom (1) 0 0)) (as := [.int v0, .int v1, .int v3]) (st := [.int v0, .int ((64 : Int32) * v2)]) dX5_allShifts_19 sc_RX5_44 rfl (e_X8_shiftedRound v0 v1 v3 h e_x1) (mFit_of rfl (Nat.le_of_ble_eq_true rfl) (by decide) (Nat.le_of_ble_eq_true rfl) (Nat.le_of_ble_eq_true rfl)) (Nat.le_of_ble_eq_true rfl) rfl rfl ?_
    intro _ _ hq
    rw [hq.1, hq.2]
    show mGo w kX5_allShifts 0 0 22 [some (.int v0), some (.int v1), some (.int v2), some (.int v3)] [.int x1, .int v0, .int ((64 : Int32) * v2)] h Q
    refine mGo.ixor (n := 23) dX5_allShifts_22 rfl ?_
    refine mGo.iload_n (n := 24) (x := v1) dX5_allShifts_23 rfl rfl ?_
    obtain ⟨x2, e_x2, e⟩ := mBind e
    refine mGo.callS (n := 27) (y := zX8_signSum) (R' := (mRoom (2) 0 0)) (as := [.int (v0 ^^^ x1), .int v1]) (st := [.int ((64 : Int32) * v2)]) dX5_allShifts_24 sc_RX5_48 rfl (e_X8_signSum (v0 ^^^ x1) v1 h e_x2) (mFit_of rfl (Nat.le_of_ble_eq_true rfl) (by decide) (Nat.le_of_ble_eq_true rfl) (Nat.le_of_ble_eq_true rfl)) (Nat.le_of_ble_eq_true rfl) rfl rfl ?_
    intro _ _ hq
    rw [hq.1, hq.2]
    show mGo w kX5_allShifts 0 0 27 [some (.int v0), some (.int v1), some (.int v2), some (.int v3)] [.int x2, .int ((64 : Int32) * v2)] h Q
    refine mGo.iadd (n := 28) dX5_allShifts_27 rfl ?_
    refine mGo.istore_n (n := 29) (ls' := [some (.int v0), some (.int v1), some (.int (((64 : Int32) * v2) + x2)), some (.int v3)]) dX5_allShifts_28 rfl (Nat.le_of_ble_eq_true rfl) rfl ?_
    refine mGo.iinc (n := 32) (x := v3) (v := (v3 + 1)) (ls' := [some (.int v0), some (.int v1), some (.int (((64 : Int32) * v2) + x2)), some (.int (v3 + 1))]) dX5_allShifts_29 rfl rfl rfl (Nat.le_of_ble_eq_true rfl) rfl ?_
    refine mGo.goto (tgt := 4) dX5_allShifts_32 (by decide) ?_
    cases e
    refine mGo.mk [true, true, true, true] ?_
    exact q
noncomputable def f_X5_allShifts_l4 (v0 : Int32) (v1 : Int32) (v2 : Int32) (v3 : Int32)  : Option (Int32) :=
  mLoop (fun x : Int32 × Int32 => f_X5_allShifts_b4 v0 v1 x.1 x.2) (v2, v3)
set_option maxRecDepth 100000 in
set_option maxHeartbeats 4000000 in
theorem g_X5_allShifts_l4 {w : mWp} {Q : Option Value → mH → Prop} (v0 : Int32) (v1 : Int32) (v2 : Int32) (v3 : Int32) (h : mH) {res : Int32} (e : f_X5_allShifts_l4 v0 v1 v2 v3 = some res) (q : (fun r : Int32 => Q (some (.int r)) h) res) : mGo w kX5_allShifts 0 0 4 [some (.int v0), some (.int v1), some (.int v2), some (.int v3)] [] h Q := by
  unfold f_X5_allShifts_l4 at e
  refine mLoop_go (x := (v2, v3)) (fun x : Int32 × Int32 => mGo w kX5_allShifts 0 0 4 [some (.int v0), some (.int v1), some (.int x.1), some (.int x.2)] [] h Q) (fun r : Int32 => Q (some (.int r)) h) ?_ e q
  rintro ⟨v2, v3⟩ res e q
  exact g_X5_allShifts_b4 v0 v1 v2 v3 h e q
noncomputable def f_X5_allShifts (v0 : Int32) (v1 : Int32)  : Option (Int32) :=
  f_X5_allShifts_l4 v0 v1 (0 : Int32) (1 : Int32)
set_option maxRecDepth 100000 in
set_option maxHeartbeats 4000000 in
theorem g_X5_allShifts {w : mWp} {Q : Option Value → mH → Prop} (v0 : Int32) (v1 : Int32) (h : mH) {res : Int32} (e : f_X5_allShifts v0 v1 = some res) (q : (fun r : Int32 => Q (some (.int r)) h) res) : mGo w kX5_allShifts 0 0 0 [some (.int v0), some (.int v1), none, none] [] h Q := by
  unfold f_X5_allShifts at e
  refine mGo.iconst (n := 1) (v := (0 : Int32)) dX5_allShifts_0 (by decide) rfl ?_
  refine mGo.istore_n (n := 2) (ls' := [some (.int v0), some (.int v1), some (.int (0 : Int32)), none]) dX5_allShifts_1 rfl (Nat.le_of_ble_eq_true rfl) rfl ?_
  refine mGo.iconst (n := 3) (v := (1 : Int32)) dX5_allShifts_2 (by decide) rfl ?_
  refine mGo.istore_n (n := 4) (ls' := [some (.int v0), some (.int v1), some (.int (0 : Int32)), some (.int (1 : Int32))]) dX5_allShifts_3 rfl (Nat.le_of_ble_eq_true rfl) rfl ?_
  refine mGo.mk [true, true, true, true] ?_
  exact g_X5_allShifts_l4 v0 v1 (0 : Int32) (1 : Int32) h e q
theorem e_X5_allShifts {w : mWp} (v0 : Int32) (v1 : Int32) (h : mH) {res : Int32} (e : f_X5_allShifts v0 v1 = some res) : mEx w zX5_allShifts (mRoom 3 0 0) [.int v0, .int v1] h (fun r h2 => r = some (.int res) ∧ h2 = h) := by
  refine mEx.of (by decide +kernel) rfl (Nat.le_of_ble_eq_true rfl) ?_
  refine g_X5_allShifts v0 v1 h e ?_
  exact ⟨rfl, rfl⟩
-- X5_isMirrored
def kX5_isMirrored : mK := (cX5_isMirrored, RX5, 3, some (.boolean), "isMirrored", mRoom 2 0 0)
def zX5_isMirrored : mY := (yX5_isMirrored, cX5_isMirrored, 3, some (.boolean))
set_option maxRecDepth 100000 in
theorem sc_RX5_39 : mSS RX5 39 zX8_inSet 2 := ⟨Or.inr ⟨_, mNest_at 693 (x := Cond.methodLinkNest RX5 39 yX8_inSet "SignTables") (by decide +kernel) rfl⟩, mT_at 370 (by decide +kernel) rfl, mT_at 83 (by decide +kernel) rfl, mT_at 371 (by decide +kernel) rfl, ⟨by decide +kernel, by decide +kernel, by decide +kernel⟩⟩
def f_X5_isMirrored_b2 (v0 : Int32) (v1 : Int32) (v2 : Int32)  : Option ((Int32) ⊕ (Int32)) :=
  if v1 ≤ v2 then
    some (Sum.inr (1 : Int32))
  else
    (f_X8_inSet v0 v2).bind fun x1 =>
    (f_X8_inSet v0 (v1 - v2)).bind fun x2 =>
    if x1 = x2 then
      some (Sum.inl (v2 + 1))
    else
      some (Sum.inr (0 : Int32))
set_option maxRecDepth 100000 in
set_option maxHeartbeats 4000000 in
theorem g_X5_isMirrored_b2 {w : mWp} {Q : Option Value → mH → Prop} (v0 : Int32) (v1 : Int32) (v2 : Int32) (h : mH) {res : (Int32) ⊕ (Int32)} (e : f_X5_isMirrored_b2 v0 v1 v2 = some res) (q : (Sum.elim (fun x : Int32 => mGo w kX5_isMirrored 0 0 2 [some (.int v0), some (.int v1), some (.int x)] [] h Q) (fun r : Int32 => Q (some (.int r)) h)) res) : mGo w kX5_isMirrored 0 0 2 [some (.int v0), some (.int v1), some (.int v2)] [] h Q := by
  unfold f_X5_isMirrored_b2 at e
  refine mGo.iload_n (n := 3) (x := v2) dX5_isMirrored_2 rfl rfl ?_
  refine mGo.iload_n (n := 4) (x := v1) dX5_isMirrored_3 rfl rfl ?_
  refine mGo.icmp_ge (tgt := 30) (n := 7) dX5_isMirrored_4 (by decide) rfl (fun hc => ?_) (fun hc => ?_)
  · replace e := mIft hc e
    refine mGo.iconst (n := 31) (v := (1 : Int32)) dX5_isMirrored_30 (by decide) rfl ?_
    cases e
    exact mGo.zret dX5_isMirrored_31 rfl (by decide) (Nat.le_of_ble_eq_true rfl) (Nat.le_of_ble_eq_true rfl) q
  · replace e := mIff hc e
    refine mGo.iload_n (n := 8) (x := v0) dX5_isMirrored_7 rfl rfl ?_
    refine mGo.iload_n (n := 9) (x := v2) dX5_isMirrored_8 rfl rfl ?_
    obtain ⟨x1, e_x1, e⟩ := mBind e
    refine mGo.callS (n := 12) (y := zX8_inSet) (R' := (mRoom (1) 0 0)) (as := [.int v0, .int v2]) (st := []) dX5_isMirrored_9 sc_RX5_39 rfl (e_X8_inSet v0 v2 h e_x1) (mFit_of rfl (Nat.le_of_ble_eq_true rfl) (by decide) (Nat.le_of_ble_eq_true rfl) (Nat.le_of_ble_eq_true rfl)) (Nat.le_of_ble_eq_true rfl) rfl rfl ?_
    intro _ _ hq
    rw [hq.1, hq.2]
    show mGo w kX5_isMirrored 0 0 12 [some (.int v0), some (.int v1), some (.int v2)] [.int x1] h Q
    refine mGo.iload_n (n := 13) (x := v0) dX5_isMirrored_12 rfl rfl ?_
    refine mGo.iload_n (n := 14) (x := v1) dX5_isMirrored_13 rfl rfl ?_
    refine mGo.iload_n (n := 15) (x := v2) dX5_isMirrored_14 rfl rfl ?_
    refine mGo.isub (n := 16) dX5_isMirrored_15 rfl ?_
    obtain ⟨x2, e_x2, e⟩ := mBind e
    refine mGo.callS (n := 19) (y := zX8_inSet) (R' := (mRoom (1) 0 0)) (as := [.int v0, .int (v1 - v2)]) (st := [.int x1]) dX5_isMirrored_16 sc_RX5_39 rfl (e_X8_inSet v0 (v1 - v2) h e_x2) (mFit_of rfl (Nat.le_of_ble_eq_true rfl) (by decide) (Nat.le_of_ble_eq_true rfl) (Nat.le_of_ble_eq_true rfl)) (Nat.le_of_ble_eq_true rfl) rfl rfl ?_
    intro _ _ hq
    rw [hq.1, hq.2]
    show mGo w kX5_isMirrored 0 0 19 [some (.int v0), some (.int v1), some (.int v2)] [.int x2, .int x1] h Q
    refine mGo.icmp_eq (tgt := 24) (n := 22) dX5_isMirrored_19 (by decide) rfl (fun hc => ?_) (fun hc => ?_)
    · replace e := mIft hc e
      refine mGo.iinc (n := 27) (x := v2) (v := (v2 + 1)) (ls' := [some (.int v0), some (.int v1), some (.int (v2 + 1))]) dX5_isMirrored_24 rfl rfl rfl (Nat.le_of_ble_eq_true rfl) rfl ?_
      refine mGo.goto (tgt := 2) dX5_isMirrored_27 (by decide) ?_
      cases e
      refine mGo.mk [true, true, true] ?_
      exact q
    · replace e := mIff hc e
      refine mGo.iconst (n := 23) (v := (0 : Int32)) dX5_isMirrored_22 (by decide) rfl ?_
      cases e
      exact mGo.zret dX5_isMirrored_23 rfl (by decide) (Nat.le_of_ble_eq_true rfl) (Nat.le_of_ble_eq_true rfl) q
noncomputable def f_X5_isMirrored_l2 (v0 : Int32) (v1 : Int32) (v2 : Int32)  : Option (Int32) :=
  mLoop (fun x : Int32 => f_X5_isMirrored_b2 v0 v1 x) (v2)
set_option maxRecDepth 100000 in
set_option maxHeartbeats 4000000 in
theorem g_X5_isMirrored_l2 {w : mWp} {Q : Option Value → mH → Prop} (v0 : Int32) (v1 : Int32) (v2 : Int32) (h : mH) {res : Int32} (e : f_X5_isMirrored_l2 v0 v1 v2 = some res) (q : (fun r : Int32 => Q (some (.int r)) h) res) : mGo w kX5_isMirrored 0 0 2 [some (.int v0), some (.int v1), some (.int v2)] [] h Q := by
  unfold f_X5_isMirrored_l2 at e
  refine mLoop_go (x := (v2)) (fun x : Int32 => mGo w kX5_isMirrored 0 0 2 [some (.int v0), some (.int v1), some (.int x)] [] h Q) (fun r : Int32 => Q (some (.int r)) h) ?_ e q
  rintro v2 res e q
  exact g_X5_isMirrored_b2 v0 v1 v2 h e q
noncomputable def f_X5_isMirrored (v0 : Int32) (v1 : Int32)  : Option (Int32) :=
  f_X5_isMirrored_l2 v0 v1 (1 : Int32)
set_option maxRecDepth 100000 in
set_option maxHeartbeats 4000000 in
theorem g_X5_isMirrored {w : mWp} {Q : Option Value → mH → Prop} (v0 : Int32) (v1 : Int32) (h : mH) {res : Int32} (e : f_X5_isMirrored v0 v1 = some res) (q : (fun r : Int32 => Q (some (.int r)) h) res) : mGo w kX5_isMirrored 0 0 0 [some (.int v0), some (.int v1), none] [] h Q := by
  unfold f_X5_isMirrored at e
  refine mGo.iconst (n := 1) (v := (1 : Int32)) dX5_isMirrored_0 (by decide) rfl ?_
  refine mGo.istore_n (n := 2) (ls' := [some (.int v0), some (.int v1), some (.int (1 : Int32))]) dX5_isMirrored_1 rfl (Nat.le_of_ble_eq_true rfl) rfl ?_
  refine mGo.mk [true, true, true] ?_
  exact g_X5_isMirrored_l2 v0 v1 (1 : Int32) h e q
theorem e_X5_isMirrored {w : mWp} (v0 : Int32) (v1 : Int32) (h : mH) {res : Int32} (e : f_X5_isMirrored v0 v1 = some res) : mEx w zX5_isMirrored (mRoom 2 0 0) [.int v0, .int v1] h (fun r h2 => r = some (.int res) ∧ h2 = h) := by
  refine mEx.of (by decide +kernel) rfl (Nat.le_of_ble_eq_true rfl) ?_
  refine g_X5_isMirrored v0 v1 h e ?_
  exact ⟨rfl, rfl⟩
-- X5_layRows
def kX5_layRows : mK := (cX5_layRows, RX5, 3, none, "layRows", mRoom 4 0 0)
def zX5_layRows : mY := (yX5_layRows, cX5_layRows, 3, none)
set_option maxRecDepth 100000 in
theorem sf_RX5_23 : mFld RX5 23 4 2 := ⟨by decide, by decide, Or.inl (mT_at 260 (by decide +kernel) rfl)⟩
set_option maxRecDepth 100000 in
theorem sc_RX5_31 : mSS RX5 31 zX5_isMirrored 2 := ⟨Or.inl (mT_at 772 (by decide +kernel) rfl), mT_at 773 (by decide +kernel) rfl, mT_at 90 (by decide +kernel) rfl, mT_at 774 (by decide +kernel) rfl, ⟨by decide +kernel, by decide +kernel, by decide +kernel⟩⟩
set_option maxRecDepth 100000 in
theorem sc_RX5_35 : mSS RX5 35 zX5_allShifts 2 := ⟨Or.inl (mT_at 776 (by decide +kernel) rfl), mT_at 777 (by decide +kernel) rfl, mT_at 90 (by decide +kernel) rfl, mT_at 778 (by decide +kernel) rfl, ⟨by decide +kernel, by decide +kernel, by decide +kernel⟩⟩
noncomputable def f_X5_layRows_b7 (v0 : Option Nat) (v1 : Int32) (v2 : Int32) (h : mH) : Option ((Int32 × mH) ⊕ (mH)) :=
  if ((1 : Int32) <<< (v1 &&& 31)) ≤ v2 then
    some (Sum.inr h)
  else
    (mGI h v0 4 2).bind fun x1 =>
    if (8 : Int32) ≤ x1 then
      some (Sum.inr h)
    else
      (f_X5_isMirrored v2 v1).bind fun x2 =>
      if x2 = 0 then
        some (Sum.inl ((v2 + 2), h))
      else
        (mGR h v0 4 0).bind fun x3 =>
        (mGI h v0 4 2).bind fun x4 =>
        (mSI h x3 x4 v2).bind fun h5 =>
        (mGR h5 v0 4 1).bind fun x6 =>
        (mGI h5 v0 4 2).bind fun x7 =>
        (f_X5_allShifts v2 v1).bind fun x8 =>
        (mSI h5 x6 x7 x8).bind fun h9 =>
        (mGI h9 v0 4 2).bind fun x10 =>
        (mPF h9 v0 4 2 (.int (x10 + (1 : Int32)))).bind fun h11 =>
        some (Sum.inl ((v2 + 2), h11))
set_option maxRecDepth 100000 in
set_option maxHeartbeats 4000000 in
theorem g_X5_layRows_b7 {w : mWp} {Q : Option Value → mH → Prop} (v0 : Option Nat) (v1 : Int32) (v2 : Int32) (h : mH) {res : (Int32 × mH) ⊕ (mH)} (e : f_X5_layRows_b7 v0 v1 v2 h = some res) (q : (Sum.elim (fun x : Int32 × mH => mGo w kX5_layRows 0 0 7 [some (va_rf v0), some (.int v1), some (.int x.1)] [] x.2 Q) (fun r : mH => Q none r)) res) : mGo w kX5_layRows 0 0 7 [some (va_rf v0), some (.int v1), some (.int v2)] [] h Q := by
  unfold f_X5_layRows_b7 at e
  refine mGo.iload_n (n := 8) (x := v2) dX5_layRows_7 rfl rfl ?_
  refine mGo.iconst (n := 9) (v := (1 : Int32)) dX5_layRows_8 (by decide) rfl ?_
  refine mGo.iload_n (n := 10) (x := v1) dX5_layRows_9 rfl rfl ?_
  refine mGo.ishl (n := 11) dX5_layRows_10 rfl ?_
  refine mGo.icmp_ge (tgt := 71) (n := 14) dX5_layRows_11 (by decide) rfl (fun hc => ?_) (fun hc => ?_)
  · replace e := mIft hc e
    cases e
    exact mGo.vret dX5_layRows_71 rfl (Nat.le_of_ble_eq_true rfl) (Nat.le_of_ble_eq_true rfl) q
  · replace e := mIff hc e
    refine mGo.aload_n (n := 15) (r := v0) dX5_layRows_14 rfl rfl ?_
    obtain ⟨x1, e_x1, e⟩ := mBind e
    refine mGo.getI (n := 18) dX5_layRows_15 sf_RX5_23 e_x1 rfl ?_
    refine mGo.bipush (n := 20) (v := (8 : Int32)) dX5_layRows_18 (by decide) rfl ?_
    refine mGo.icmp_ge (tgt := 71) (n := 23) dX5_layRows_20 (by decide) rfl (fun hc => ?_) (fun hc => ?_)
    · replace e := mIft hc e
      cases e
      exact mGo.vret dX5_layRows_71 rfl (Nat.le_of_ble_eq_true rfl) (Nat.le_of_ble_eq_true rfl) q
    · replace e := mIff hc e
      refine mGo.iload_n (n := 24) (x := v2) dX5_layRows_23 rfl rfl ?_
      refine mGo.iload_n (n := 25) (x := v1) dX5_layRows_24 rfl rfl ?_
      obtain ⟨x2, e_x2, e⟩ := mBind e
      refine mGo.callS (n := 28) (y := zX5_isMirrored) (R' := (mRoom (2) 0 0)) (as := [.int v2, .int v1]) (st := []) dX5_layRows_25 sc_RX5_31 rfl (e_X5_isMirrored v2 v1 h e_x2) (mFit_of rfl (Nat.le_of_ble_eq_true rfl) (by decide) (Nat.le_of_ble_eq_true rfl) (Nat.le_of_ble_eq_true rfl)) (Nat.le_of_ble_eq_true rfl) rfl rfl ?_
      intro _ _ hq
      rw [hq.1, hq.2]
      show mGo w kX5_layRows 0 0 28 [some (va_rf v0), some (.int v1), some (.int v2)] [.int x2] h Q
      refine mGo.if_eq (tgt := 65) (n := 31) dX5_layRows_28 (by decide) rfl (fun hc => ?_) (fun hc => ?_)
      · replace e := mIft hc e
        refine mGo.iinc (n := 68) (x := v2) (v := (v2 + 2)) (ls' := [some (va_rf v0), some (.int v1), some (.int (v2 + 2))]) dX5_layRows_65 rfl rfl rfl (Nat.le_of_ble_eq_true rfl) rfl ?_
        refine mGo.goto (tgt := 7) dX5_layRows_68 (by decide) ?_
        cases e
        refine mGo.mk [true, true, true] ?_
        exact q
      · replace e := mIff hc e
        refine mGo.aload_n (n := 32) (r := v0) dX5_layRows_31 rfl rfl ?_
        obtain ⟨x3, e_x3, e⟩ := mBind e
        refine mGo.getR (n := 35) dX5_layRows_32 sf_RX5_9 e_x3 rfl ?_
        refine mGo.aload_n (n := 36) (r := v0) dX5_layRows_35 rfl rfl ?_
        obtain ⟨x4, e_x4, e⟩ := mBind e
        refine mGo.getI (n := 39) dX5_layRows_36 sf_RX5_23 e_x4 rfl ?_
        refine mGo.iload_n (n := 40) (x := v2) dX5_layRows_39 rfl rfl ?_
        obtain ⟨h5, e_h5, e⟩ := mBind e
        refine mGo.iast (n := 41) dX5_layRows_40 e_h5 rfl ?_
        refine mGo.aload_n (n := 42) (r := v0) dX5_layRows_41 rfl rfl ?_
        obtain ⟨x6, e_x6, e⟩ := mBind e
        refine mGo.getR (n := 45) dX5_layRows_42 sf_RX5_13 e_x6 rfl ?_
        refine mGo.aload_n (n := 46) (r := v0) dX5_layRows_45 rfl rfl ?_
        obtain ⟨x7, e_x7, e⟩ := mBind e
        refine mGo.getI (n := 49) dX5_layRows_46 sf_RX5_23 e_x7 rfl ?_
        refine mGo.iload_n (n := 50) (x := v2) dX5_layRows_49 rfl rfl ?_
        refine mGo.iload_n (n := 51) (x := v1) dX5_layRows_50 rfl rfl ?_
        obtain ⟨x8, e_x8, e⟩ := mBind e
        refine mGo.callS (n := 54) (y := zX5_allShifts) (R' := (mRoom (3) 0 0)) (as := [.int v2, .int v1]) (st := [.int x7, va_rf x6]) dX5_layRows_51 sc_RX5_35 rfl (e_X5_allShifts v2 v1 h5 e_x8) (mFit_of rfl (Nat.le_of_ble_eq_true rfl) (by decide) (Nat.le_of_ble_eq_true rfl) (Nat.le_of_ble_eq_true rfl)) (mCat8 (Nat.le_of_ble_eq_true rfl)) rfl rfl ?_
        intro _ _ hq
        rw [hq.1, hq.2]
        show mGo w kX5_layRows 0 0 54 [some (va_rf v0), some (.int v1), some (.int v2)] [.int x8, .int x7, va_rf x6] h5 Q
        obtain ⟨h9, e_h9, e⟩ := mBind e
        refine mGo.iast (n := 55) dX5_layRows_54 e_h9 rfl ?_
        refine mGo.aload_n (n := 56) (r := v0) dX5_layRows_55 rfl rfl ?_
        refine mGo.dup (n := 57) dX5_layRows_56 (mRfc _) rfl ?_
        obtain ⟨x10, e_x10, e⟩ := mBind e
        refine mGo.getI (n := 60) dX5_layRows_57 sf_RX5_23 e_x10 rfl ?_
        refine mGo.iconst (n := 61) (v := (1 : Int32)) dX5_layRows_60 (by decide) rfl ?_
        refine mGo.iadd (n := 62) dX5_layRows_61 rfl ?_
        obtain ⟨h11, e_h11, e⟩ := mBind e
        refine mGo.putI (n := 65) dX5_layRows_62 sf_RX5_23 rfl rfl e_h11 rfl ?_
        refine mGo.iinc (n := 68) (x := v2) (v := (v2 + 2)) (ls' := [some (va_rf v0), some (.int v1), some (.int (v2 + 2))]) dX5_layRows_65 rfl rfl rfl (Nat.le_of_ble_eq_true rfl) rfl ?_
        refine mGo.goto (tgt := 7) dX5_layRows_68 (by decide) ?_
        cases e
        refine mGo.mk [true, true, true] ?_
        exact q
noncomputable def f_X5_layRows_l7 (v0 : Option Nat) (v1 : Int32) (v2 : Int32) (h : mH) : Option (mH) :=
  mLoop (fun x : Int32 × mH => f_X5_layRows_b7 v0 v1 x.1 x.2) (v2, h)
set_option maxRecDepth 100000 in
set_option maxHeartbeats 4000000 in
theorem g_X5_layRows_l7 {w : mWp} {Q : Option Value → mH → Prop} (v0 : Option Nat) (v1 : Int32) (v2 : Int32) (h : mH) {res : mH} (e : f_X5_layRows_l7 v0 v1 v2 h = some res) (q : (fun r : mH => Q none r) res) : mGo w kX5_layRows 0 0 7 [some (va_rf v0), some (.int v1), some (.int v2)] [] h Q := by
  unfold f_X5_layRows_l7 at e
  refine mLoop_go (x := (v2, h)) (fun x : Int32 × mH => mGo w kX5_layRows 0 0 7 [some (va_rf v0), some (.int v1), some (.int x.1)] [] x.2 Q) (fun r : mH => Q none r) ?_ e q
  rintro ⟨v2, h1⟩ res e q
  exact g_X5_layRows_b7 v0 v1 v2 h1 e q
noncomputable def f_X5_layRows (v0 : Option Nat) (v1 : Int32) (h : mH) : Option (mH) :=
  (mIs h v0 4).bind fun _ =>
  (mPF h v0 4 2 (.int (0 : Int32))).bind fun h1 =>
  f_X5_layRows_l7 v0 v1 (0 : Int32) h1
set_option maxRecDepth 100000 in
set_option maxHeartbeats 4000000 in
theorem g_X5_layRows {w : mWp} {Q : Option Value → mH → Prop} (v0 : Option Nat) (v1 : Int32) (h : mH) {res : mH} (e : f_X5_layRows v0 v1 h = some res) (q : (fun r : mH => Q none r) res) : mGo w kX5_layRows 0 0 0 [some (va_rf v0), some (.int v1), none] [] h Q := by
  unfold f_X5_layRows at e
  obtain ⟨_, _, e⟩ := mBind e
  refine mGo.aload_n (n := 1) (r := v0) dX5_layRows_0 rfl rfl ?_
  refine mGo.iconst (n := 2) (v := (0 : Int32)) dX5_layRows_1 (by decide) rfl ?_
  obtain ⟨h1, e_h1, e⟩ := mBind e
  refine mGo.putI (n := 5) dX5_layRows_2 sf_RX5_23 rfl rfl e_h1 rfl ?_
  refine mGo.iconst (n := 6) (v := (0 : Int32)) dX5_layRows_5 (by decide) rfl ?_
  refine mGo.istore_n (n := 7) (ls' := [some (va_rf v0), some (.int v1), some (.int (0 : Int32))]) dX5_layRows_6 rfl (Nat.le_of_ble_eq_true rfl) rfl ?_
  refine mGo.mk [true, true, true] ?_
  exact g_X5_layRows_l7 v0 v1 (0 : Int32) h1 e q
theorem e_X5_layRows {w : mWp} (v0 : Option Nat) (v1 : Int32) (h : mH) {res : mH} (e : f_X5_layRows v0 v1 h = some res) : mEx w zX5_layRows (mRoom 4 0 0) [va_rf v0, .int v1] h (fun r h2 => r = none ∧ h2 = res) := by
  refine mEx.of (by decide +kernel) (show mEnt [va_rf v0, .int v1] 3 = [some (va_rf v0), some (.int v1), none] by rw [mEnt_r, mEnt_i] <;> rfl) (by simp only [List.map_cons, List.map_nil, mRfc, mCi, mCj, List.sum_cons, List.sum_nil]; exact Nat.le_of_ble_eq_true rfl) ?_
  refine g_X5_layRows v0 v1 h e ?_
  exact ⟨rfl, rfl⟩
theorem s_X5_layRows (v0 : Option Nat) (v1 : Int32) (h : mH) {res : mH} (e : f_X5_layRows v0 v1 h = some res) : mIs h v0 4 = some () := by
  unfold f_X5_layRows at e
  obtain ⟨u, e1, _⟩ := mBind e
  cases u
  exact e1
-- X5_search
def kX5_search : mK := (cX5_search, RX5, 9, some (.int), "search", mRoom 5 0 0)
def zX5_search : mY := (yX5_search, cX5_search, 9, some (.int))
set_option maxRecDepth 100000 in
theorem sc_RX5_19 : mSV RX5 19 zX5_layRows 1 4 := ⟨Or.inl (mT_at 768 (by decide +kernel) rfl), mT_at 770 (by decide +kernel) rfl, mT_at 38 (by decide +kernel) rfl, mT_at 90 (by decide +kernel) rfl, mT_at 771 (by decide +kernel) rfl, ⟨by decide +kernel, by decide +kernel, by decide +kernel⟩, by decide, rfl⟩
set_option maxRecDepth 100000 in
theorem sc_RX5_27 : mSV RX5 27 zX5_keep 4 4 := ⟨Or.inl (mT_at 781 (by decide +kernel) rfl), mT_at 783 (by decide +kernel) rfl, mT_at 39 (by decide +kernel) rfl, mT_at 90 (by decide +kernel) rfl, mT_at 784 (by decide +kernel) rfl, ⟨by decide +kernel, by decide +kernel, by decide +kernel⟩, by decide, rfl⟩
def f_X5_search_b71 (v0 : Option Nat) (v2 : Int32) (v4 : Int32) (v5 : Int32) (v6 : Int32) (v7 : Int32) (v3 : Int32) (v8 : Int32) (h : mH) : Option ((Int32 × Int32 × mH) ⊕ ((Int32 × Int32 × mH) ⊕ ((Int32 × Int32 × mH) ⊕ ((Int32 × Int32 × mH) ⊕ (Int32 × mH))))) :=
  (mGI h v0 4 2).bind fun x1 =>
  if x1 ≤ v8 then
    some (Sum.inr (Sum.inl (v3, (v6 + 1), h)))
  else
    (mGR h v0 4 1).bind fun x2 =>
    (mAI h x2 v8).bind fun x3 =>
    if (v7 + x3) = 0 then
      if v3 = v2 then
        (f_X5_keep v0 v4 v5 v6 v8 h).bind fun x4 =>
        some (Sum.inl ((v3 + 1), (v8 + 1), x4))
      else
        some (Sum.inl ((v3 + 1), (v8 + 1), h))
    else
      some (Sum.inl (v3, (v8 + 1), h))
set_option maxRecDepth 100000 in
set_option maxHeartbeats 4000000 in
theorem g_X5_search_b71 {w : mWp} {Q : Option Value → mH → Prop} (v0 : Option Nat) (v2 : Int32) (v4 : Int32) (v5 : Int32) (v6 : Int32) (v7 : Int32) (v3 : Int32) (v8 : Int32) (h : mH) {res : (Int32 × Int32 × mH) ⊕ ((Int32 × Int32 × mH) ⊕ ((Int32 × Int32 × mH) ⊕ ((Int32 × Int32 × mH) ⊕ (Int32 × mH))))} (e : f_X5_search_b71 v0 v2 v4 v5 v6 v7 v3 v8 h = some res) (q : (Sum.elim (fun x : Int32 × Int32 × mH => mGo w kX5_search 0 0 71 [some (va_rf v0), none, some (.int v2), some (.int x.1), some (.int v4), some (.int v5), some (.int v6), some (.int v7), some (.int x.2.1)] [] x.2.2 Q) (Sum.elim (fun x : Int32 × Int32 × mH => mGo w kX5_search 0 0 34 [some (va_rf v0), none, some (.int v2), some (.int x.1), some (.int v4), some (.int v5), some (.int x.2.1), none, none] [] x.2.2 Q) (Sum.elim (fun x : Int32 × Int32 × mH => mGo w kX5_search 0 0 22 [some (va_rf v0), none, some (.int v2), some (.int x.1), some (.int v4), some (.int x.2.1), none, none, none] [] x.2.2 Q) (Sum.elim (fun x : Int32 × Int32 × mH => mGo w kX5_search 0 0 10 [some (va_rf v0), none, some (.int v2), some (.int x.1), some (.int x.2.1), none, none, none, none] [] x.2.2 Q) (fun r : Int32 × mH => Q (some (.int r.1)) r.2))))) res) : mGo w kX5_search 0 0 71 [some (va_rf v0), none, some (.int v2), some (.int v3), some (.int v4), some (.int v5), some (.int v6), some (.int v7), some (.int v8)] [] h Q := by
  unfold f_X5_search_b71 at e
  refine mGo.iload (n := 73) (x := v8) dX5_search_71 rfl rfl ?_
  refine mGo.aload_n (n := 74) (r := v0) dX5_search_73 rfl rfl ?_
  obtain ⟨x1, e_x1, e⟩ := mBind e
  refine mGo.getI (n := 77) dX5_search_74 sf_RX5_23 e_x1 rfl ?_
  refine mGo.icmp_ge (tgt := 122) (n := 80) dX5_search_77 (by decide) rfl (fun hc => ?_) (fun hc => ?_)
  · replace e := mIft hc e
    refine mGo.iinc (n := 125) (x := v6) (v := (v6 + 1)) (ls' := [some (va_rf v0), none, some (.int v2), some (.int v3), some (.int v4), some (.int v5), some (.int (v6 + 1)), some (.int v7), some (.int v8)]) dX5_search_122 rfl rfl rfl (Nat.le_of_ble_eq_true rfl) rfl ?_
    refine mGo.goto (tgt := 34) dX5_search_125 (by decide) ?_
    cases e
    refine mGo.mk [true, false, true, true, true, true, true, false, false] ?_
    exact q
  · replace e := mIff hc e
    refine mGo.iload (n := 82) (x := v7) dX5_search_80 rfl rfl ?_
    refine mGo.aload_n (n := 83) (r := v0) dX5_search_82 rfl rfl ?_
    obtain ⟨x2, e_x2, e⟩ := mBind e
    refine mGo.getR (n := 86) dX5_search_83 sf_RX5_13 e_x2 rfl ?_
    refine mGo.iload (n := 88) (x := v8) dX5_search_86 rfl rfl ?_
    obtain ⟨x3, e_x3, e⟩ := mBind e
    refine mGo.iald (n := 89) dX5_search_88 e_x3 rfl ?_
    refine mGo.iadd (n := 90) dX5_search_89 rfl ?_
    refine mGo.if_eq (tgt := 96) (n := 93) dX5_search_90 (by decide) rfl (fun hc => ?_) (fun hc => ?_)
    · replace e := mIft hc e
      refine mGo.iload_n (n := 97) (x := v3) dX5_search_96 rfl rfl ?_
      refine mGo.iload_n (n := 98) (x := v2) dX5_search_97 rfl rfl ?_
      refine mGo.icmp_ne (tgt := 113) (n := 101) dX5_search_98 (by decide) rfl (fun hc => ?_) (fun hc => ?_)
      · replace e := mIff hc e
        refine mGo.iinc (n := 116) (x := v3) (v := (v3 + 1)) (ls' := [some (va_rf v0), none, some (.int v2), some (.int (v3 + 1)), some (.int v4), some (.int v5), some (.int v6), some (.int v7), some (.int v8)]) dX5_search_113 rfl rfl rfl (Nat.le_of_ble_eq_true rfl) rfl ?_
        refine mGo.iinc (n := 119) (x := v8) (v := (v8 + 1)) (ls' := [some (va_rf v0), none, some (.int v2), some (.int (v3 + 1)), some (.int v4), some (.int v5), some (.int v6), some (.int v7), some (.int (v8 + 1))]) dX5_search_116 rfl rfl rfl (Nat.le_of_ble_eq_true rfl) rfl ?_
        refine mGo.goto (tgt := 71) dX5_search_119 (by decide) ?_
        cases e
        refine mGo.mk [true, false, true, true, true, true, true, true, true] ?_
        exact q
      · replace e := mIft hc e
        refine mGo.aload_n (n := 102) (r := v0) dX5_search_101 rfl rfl ?_
        refine mGo.iload (n := 104) (x := v4) dX5_search_102 rfl rfl ?_
        refine mGo.iload (n := 106) (x := v5) dX5_search_104 rfl rfl ?_
        refine mGo.iload (n := 108) (x := v6) dX5_search_106 rfl rfl ?_
        refine mGo.iload (n := 110) (x := v8) dX5_search_108 rfl rfl ?_
        obtain ⟨x4, e_x4, e⟩ := mBind e
        refine mGo.callV (n := 113) (y := zX5_keep) (R' := (mRoom (1) 0 0)) (as := [.int v4, .int v5, .int v6, .int v8]) (st := []) (r0 := v0) dX5_search_110 sc_RX5_27 rfl (s_X5_keep v0 v4 v5 v6 v8 h e_x4) (e_X5_keep v0 v4 v5 v6 v8 h e_x4) (mFit_of rfl (Nat.le_of_ble_eq_true rfl) (by decide) (Nat.le_of_ble_eq_true rfl) (Nat.le_of_ble_eq_true rfl)) (Nat.le_of_ble_eq_true rfl) rfl rfl ?_
        intro _ _ hq
        rw [hq.1, hq.2]
        show mGo w kX5_search 0 0 113 [some (va_rf v0), none, some (.int v2), some (.int v3), some (.int v4), some (.int v5), some (.int v6), some (.int v7), some (.int v8)] [] x4 Q
        refine mGo.iinc (n := 116) (x := v3) (v := (v3 + 1)) (ls' := [some (va_rf v0), none, some (.int v2), some (.int (v3 + 1)), some (.int v4), some (.int v5), some (.int v6), some (.int v7), some (.int v8)]) dX5_search_113 rfl rfl rfl (Nat.le_of_ble_eq_true rfl) rfl ?_
        refine mGo.iinc (n := 119) (x := v8) (v := (v8 + 1)) (ls' := [some (va_rf v0), none, some (.int v2), some (.int (v3 + 1)), some (.int v4), some (.int v5), some (.int v6), some (.int v7), some (.int (v8 + 1))]) dX5_search_116 rfl rfl rfl (Nat.le_of_ble_eq_true rfl) rfl ?_
        refine mGo.goto (tgt := 71) dX5_search_119 (by decide) ?_
        cases e
        refine mGo.mk [true, false, true, true, true, true, true, true, true] ?_
        exact q
    · replace e := mIff hc e
      refine mGo.goto (tgt := 116) dX5_search_93 (by decide) ?_
      refine mGo.iinc (n := 119) (x := v8) (v := (v8 + 1)) (ls' := [some (va_rf v0), none, some (.int v2), some (.int v3), some (.int v4), some (.int v5), some (.int v6), some (.int v7), some (.int (v8 + 1))]) dX5_search_116 rfl rfl rfl (Nat.le_of_ble_eq_true rfl) rfl ?_
      refine mGo.goto (tgt := 71) dX5_search_119 (by decide) ?_
      cases e
      refine mGo.mk [true, false, true, true, true, true, true, true, true] ?_
      exact q
noncomputable def f_X5_search_l71 (v0 : Option Nat) (v2 : Int32) (v3 : Int32) (v4 : Int32) (v5 : Int32) (v6 : Int32) (v7 : Int32) (v8 : Int32) (h : mH) : Option ((Int32 × Int32 × mH) ⊕ ((Int32 × Int32 × mH) ⊕ ((Int32 × Int32 × mH) ⊕ (Int32 × mH)))) :=
  mLoop (fun x : Int32 × Int32 × mH => f_X5_search_b71 v0 v2 v4 v5 v6 v7 x.1 x.2.1 x.2.2) (v3, v8, h)
set_option maxRecDepth 100000 in
set_option maxHeartbeats 4000000 in
theorem g_X5_search_l71 {w : mWp} {Q : Option Value → mH → Prop} (v0 : Option Nat) (v2 : Int32) (v3 : Int32) (v4 : Int32) (v5 : Int32) (v6 : Int32) (v7 : Int32) (v8 : Int32) (h : mH) {res : (Int32 × Int32 × mH) ⊕ ((Int32 × Int32 × mH) ⊕ ((Int32 × Int32 × mH) ⊕ (Int32 × mH)))} (e : f_X5_search_l71 v0 v2 v3 v4 v5 v6 v7 v8 h = some res) (q : (Sum.elim (fun x : Int32 × Int32 × mH => mGo w kX5_search 0 0 34 [some (va_rf v0), none, some (.int v2), some (.int x.1), some (.int v4), some (.int v5), some (.int x.2.1), none, none] [] x.2.2 Q) (Sum.elim (fun x : Int32 × Int32 × mH => mGo w kX5_search 0 0 22 [some (va_rf v0), none, some (.int v2), some (.int x.1), some (.int v4), some (.int x.2.1), none, none, none] [] x.2.2 Q) (Sum.elim (fun x : Int32 × Int32 × mH => mGo w kX5_search 0 0 10 [some (va_rf v0), none, some (.int v2), some (.int x.1), some (.int x.2.1), none, none, none, none] [] x.2.2 Q) (fun r : Int32 × mH => Q (some (.int r.1)) r.2)))) res) : mGo w kX5_search 0 0 71 [some (va_rf v0), none, some (.int v2), some (.int v3), some (.int v4), some (.int v5), some (.int v6), some (.int v7), some (.int v8)] [] h Q := by
  unfold f_X5_search_l71 at e
  refine mLoop_go (x := (v3, v8, h)) (fun x : Int32 × Int32 × mH => mGo w kX5_search 0 0 71 [some (va_rf v0), none, some (.int v2), some (.int x.1), some (.int v4), some (.int v5), some (.int v6), some (.int v7), some (.int x.2.1)] [] x.2.2 Q) (Sum.elim (fun x : Int32 × Int32 × mH => mGo w kX5_search 0 0 34 [some (va_rf v0), none, some (.int v2), some (.int x.1), some (.int v4), some (.int v5), some (.int x.2.1), none, none] [] x.2.2 Q) (Sum.elim (fun x : Int32 × Int32 × mH => mGo w kX5_search 0 0 22 [some (va_rf v0), none, some (.int v2), some (.int x.1), some (.int v4), some (.int x.2.1), none, none, none] [] x.2.2 Q) (Sum.elim (fun x : Int32 × Int32 × mH => mGo w kX5_search 0 0 10 [some (va_rf v0), none, some (.int v2), some (.int x.1), some (.int x.2.1), none, none, none, none] [] x.2.2 Q) (fun r : Int32 × mH => Q (some (.int r.1)) r.2)))) ?_ e q
  rintro ⟨v3, v8, h1⟩ res e q
  exact g_X5_search_b71 v0 v2 v4 v5 v6 v7 v3 v8 h1 e q
noncomputable def f_X5_search_b34 (v0 : Option Nat) (v2 : Int32) (v4 : Int32) (v5 : Int32) (v3 : Int32) (v6 : Int32) (h : mH) : Option ((Int32 × Int32 × mH) ⊕ ((Int32 × Int32 × mH) ⊕ ((Int32 × Int32 × mH) ⊕ (Int32 × mH)))) :=
  (mGI h v0 4 2).bind fun x1 =>
  if x1 ≤ v6 then
    some (Sum.inr (Sum.inl (v3, (v5 + 1), h)))
  else
    (mGR h v0 4 1).bind fun x2 =>
    (mAI h x2 v4).bind fun x3 =>
    (mGR h v0 4 1).bind fun x4 =>
    (mAI h x4 v5).bind fun x5 =>
    (mGR h v0 4 1).bind fun x6 =>
    (mAI h x6 v6).bind fun x7 =>
    f_X5_search_l71 v0 v2 v3 v4 v5 v6 ((x3 + x5) + x7) (0 : Int32) h
set_option maxRecDepth 100000 in
set_option maxHeartbeats 4000000 in
theorem g_X5_search_b34 {w : mWp} {Q : Option Value → mH → Prop} (v0 : Option Nat) (v2 : Int32) (v4 : Int32) (v5 : Int32) (v3 : Int32) (v6 : Int32) (h : mH) {res : (Int32 × Int32 × mH) ⊕ ((Int32 × Int32 × mH) ⊕ ((Int32 × Int32 × mH) ⊕ (Int32 × mH)))} (e : f_X5_search_b34 v0 v2 v4 v5 v3 v6 h = some res) (q : (Sum.elim (fun x : Int32 × Int32 × mH => mGo w kX5_search 0 0 34 [some (va_rf v0), none, some (.int v2), some (.int x.1), some (.int v4), some (.int v5), some (.int x.2.1), none, none] [] x.2.2 Q) (Sum.elim (fun x : Int32 × Int32 × mH => mGo w kX5_search 0 0 22 [some (va_rf v0), none, some (.int v2), some (.int x.1), some (.int v4), some (.int x.2.1), none, none, none] [] x.2.2 Q) (Sum.elim (fun x : Int32 × Int32 × mH => mGo w kX5_search 0 0 10 [some (va_rf v0), none, some (.int v2), some (.int x.1), some (.int x.2.1), none, none, none, none] [] x.2.2 Q) (fun r : Int32 × mH => Q (some (.int r.1)) r.2)))) res) : mGo w kX5_search 0 0 34 [some (va_rf v0), none, some (.int v2), some (.int v3), some (.int v4), some (.int v5), some (.int v6), none, none] [] h Q := by
  unfold f_X5_search_b34 at e
  refine mGo.iload (n := 36) (x := v6) dX5_search_34 rfl rfl ?_
  refine mGo.aload_n (n := 37) (r := v0) dX5_search_36 rfl rfl ?_
  obtain ⟨x1, e_x1, e⟩ := mBind e
  refine mGo.getI (n := 40) dX5_search_37 sf_RX5_23 e_x1 rfl ?_
  refine mGo.icmp_ge (tgt := 128) (n := 43) dX5_search_40 (by decide) rfl (fun hc => ?_) (fun hc => ?_)
  · replace e := mIft hc e
    refine mGo.iinc (n := 131) (x := v5) (v := (v5 + 1)) (ls' := [some (va_rf v0), none, some (.int v2), some (.int v3), some (.int v4), some (.int (v5 + 1)), some (.int v6), none, none]) dX5_search_128 rfl rfl rfl (Nat.le_of_ble_eq_true rfl) rfl ?_
    refine mGo.goto (tgt := 22) dX5_search_131 (by decide) ?_
    cases e
    refine mGo.mk [true, false, true, true, true, true, false, false, false] ?_
    exact q
  · replace e := mIff hc e
    refine mGo.aload_n (n := 44) (r := v0) dX5_search_43 rfl rfl ?_
    obtain ⟨x2, e_x2, e⟩ := mBind e
    refine mGo.getR (n := 47) dX5_search_44 sf_RX5_13 e_x2 rfl ?_
    refine mGo.iload (n := 49) (x := v4) dX5_search_47 rfl rfl ?_
    obtain ⟨x3, e_x3, e⟩ := mBind e
    refine mGo.iald (n := 50) dX5_search_49 e_x3 rfl ?_
    refine mGo.aload_n (n := 51) (r := v0) dX5_search_50 rfl rfl ?_
    obtain ⟨x4, e_x4, e⟩ := mBind e
    refine mGo.getR (n := 54) dX5_search_51 sf_RX5_13 e_x4 rfl ?_
    refine mGo.iload (n := 56) (x := v5) dX5_search_54 rfl rfl ?_
    obtain ⟨x5, e_x5, e⟩ := mBind e
    refine mGo.iald (n := 57) dX5_search_56 e_x5 rfl ?_
    refine mGo.iadd (n := 58) dX5_search_57 rfl ?_
    refine mGo.aload_n (n := 59) (r := v0) dX5_search_58 rfl rfl ?_
    obtain ⟨x6, e_x6, e⟩ := mBind e
    refine mGo.getR (n := 62) dX5_search_59 sf_RX5_13 e_x6 rfl ?_
    refine mGo.iload (n := 64) (x := v6) dX5_search_62 rfl rfl ?_
    obtain ⟨x7, e_x7, e⟩ := mBind e
    refine mGo.iald (n := 65) dX5_search_64 e_x7 rfl ?_
    refine mGo.iadd (n := 66) dX5_search_65 rfl ?_
    refine mGo.istore (n := 68) (ls' := [some (va_rf v0), none, some (.int v2), some (.int v3), some (.int v4), some (.int v5), some (.int v6), some (.int ((x3 + x5) + x7)), none]) dX5_search_66 rfl (Nat.le_of_ble_eq_true rfl) rfl ?_
    refine mGo.iconst (n := 69) (v := (0 : Int32)) dX5_search_68 (by decide) rfl ?_
    refine mGo.istore (n := 71) (ls' := [some (va_rf v0), none, some (.int v2), some (.int v3), some (.int v4), some (.int v5), some (.int v6), some (.int ((x3 + x5) + x7)), some (.int (0 : Int32))]) dX5_search_69 rfl (Nat.le_of_ble_eq_true rfl) rfl ?_
    refine mGo.mk [true, false, true, true, true, true, true, true, true] ?_
    exact g_X5_search_l71 v0 v2 v3 v4 v5 v6 ((x3 + x5) + x7) (0 : Int32) h e q
noncomputable def f_X5_search_l34 (v0 : Option Nat) (v2 : Int32) (v3 : Int32) (v4 : Int32) (v5 : Int32) (v6 : Int32) (h : mH) : Option ((Int32 × Int32 × mH) ⊕ ((Int32 × Int32 × mH) ⊕ (Int32 × mH))) :=
  mLoop (fun x : Int32 × Int32 × mH => f_X5_search_b34 v0 v2 v4 v5 x.1 x.2.1 x.2.2) (v3, v6, h)
set_option maxRecDepth 100000 in
set_option maxHeartbeats 4000000 in
theorem g_X5_search_l34 {w : mWp} {Q : Option Value → mH → Prop} (v0 : Option Nat) (v2 : Int32) (v3 : Int32) (v4 : Int32) (v5 : Int32) (v6 : Int32) (h : mH) {res : (Int32 × Int32 × mH) ⊕ ((Int32 × Int32 × mH) ⊕ (Int32 × mH))} (e : f_X5_search_l34 v0 v2 v3 v4 v5 v6 h = some res) (q : (Sum.elim (fun x : Int32 × Int32 × mH => mGo w kX5_search 0 0 22 [some (va_rf v0), none, some (.int v2), some (.int x.1), some (.int v4), some (.int x.2.1), none, none, none] [] x.2.2 Q) (Sum.elim (fun x : Int32 × Int32 × mH => mGo w kX5_search 0 0 10 [some (va_rf v0), none, some (.int v2), some (.int x.1), some (.int x.2.1), none, none, none, none] [] x.2.2 Q) (fun r : Int32 × mH => Q (some (.int r.1)) r.2))) res) : mGo w kX5_search 0 0 34 [some (va_rf v0), none, some (.int v2), some (.int v3), some (.int v4), some (.int v5), some (.int v6), none, none] [] h Q := by
  unfold f_X5_search_l34 at e
  refine mLoop_go (x := (v3, v6, h)) (fun x : Int32 × Int32 × mH => mGo w kX5_search 0 0 34 [some (va_rf v0), none, some (.int v2), some (.int x.1), some (.int v4), some (.int v5), some (.int x.2.1), none, none] [] x.2.2 Q) (Sum.elim (fun x : Int32 × Int32 × mH => mGo w kX5_search 0 0 22 [some (va_rf v0), none, some (.int v2), some (.int x.1), some (.int v4), some (.int x.2.1), none, none, none] [] x.2.2 Q) (Sum.elim (fun x : Int32 × Int32 × mH => mGo w kX5_search 0 0 10 [some (va_rf v0), none, some (.int v2), some (.int x.1), some (.int x.2.1), none, none, none, none] [] x.2.2 Q) (fun r : Int32 × mH => Q (some (.int r.1)) r.2))) ?_ e q
  rintro ⟨v3, v6, h1⟩ res e q
  exact g_X5_search_b34 v0 v2 v4 v5 v3 v6 h1 e q
noncomputable def f_X5_search_b22 (v0 : Option Nat) (v2 : Int32) (v4 : Int32) (v3 : Int32) (v5 : Int32) (h : mH) : Option ((Int32 × Int32 × mH) ⊕ ((Int32 × Int32 × mH) ⊕ (Int32 × mH))) :=
  (mGI h v0 4 2).bind fun x1 =>
  if x1 ≤ v5 then
    some (Sum.inr (Sum.inl (v3, (v4 + 1), h)))
  else
    f_X5_search_l34 v0 v2 v3 v4 v5 (0 : Int32) h
set_option maxRecDepth 100000 in
set_option maxHeartbeats 4000000 in
theorem g_X5_search_b22 {w : mWp} {Q : Option Value → mH → Prop} (v0 : Option Nat) (v2 : Int32) (v4 : Int32) (v3 : Int32) (v5 : Int32) (h : mH) {res : (Int32 × Int32 × mH) ⊕ ((Int32 × Int32 × mH) ⊕ (Int32 × mH))} (e : f_X5_search_b22 v0 v2 v4 v3 v5 h = some res) (q : (Sum.elim (fun x : Int32 × Int32 × mH => mGo w kX5_search 0 0 22 [some (va_rf v0), none, some (.int v2), some (.int x.1), some (.int v4), some (.int x.2.1), none, none, none] [] x.2.2 Q) (Sum.elim (fun x : Int32 × Int32 × mH => mGo w kX5_search 0 0 10 [some (va_rf v0), none, some (.int v2), some (.int x.1), some (.int x.2.1), none, none, none, none] [] x.2.2 Q) (fun r : Int32 × mH => Q (some (.int r.1)) r.2))) res) : mGo w kX5_search 0 0 22 [some (va_rf v0), none, some (.int v2), some (.int v3), some (.int v4), some (.int v5), none, none, none] [] h Q := by
  unfold f_X5_search_b22 at e
  refine mGo.iload (n := 24) (x := v5) dX5_search_22 rfl rfl ?_
  refine mGo.aload_n (n := 25) (r := v0) dX5_search_24 rfl rfl ?_
  obtain ⟨x1, e_x1, e⟩ := mBind e
  refine mGo.getI (n := 28) dX5_search_25 sf_RX5_23 e_x1 rfl ?_
  refine mGo.icmp_ge (tgt := 134) (n := 31) dX5_search_28 (by decide) rfl (fun hc => ?_) (fun hc => ?_)
  · replace e := mIft hc e
    refine mGo.iinc (n := 137) (x := v4) (v := (v4 + 1)) (ls' := [some (va_rf v0), none, some (.int v2), some (.int v3), some (.int (v4 + 1)), some (.int v5), none, none, none]) dX5_search_134 rfl rfl rfl (Nat.le_of_ble_eq_true rfl) rfl ?_
    refine mGo.goto (tgt := 10) dX5_search_137 (by decide) ?_
    cases e
    refine mGo.mk [true, false, true, true, true, false, false, false, false] ?_
    exact q
  · replace e := mIff hc e
    refine mGo.iconst (n := 32) (v := (0 : Int32)) dX5_search_31 (by decide) rfl ?_
    refine mGo.istore (n := 34) (ls' := [some (va_rf v0), none, some (.int v2), some (.int v3), some (.int v4), some (.int v5), some (.int (0 : Int32)), none, none]) dX5_search_32 rfl (Nat.le_of_ble_eq_true rfl) rfl ?_
    refine mGo.mk [true, false, true, true, true, true, true, false, false] ?_
    exact g_X5_search_l34 v0 v2 v3 v4 v5 (0 : Int32) h e q
noncomputable def f_X5_search_l22 (v0 : Option Nat) (v2 : Int32) (v3 : Int32) (v4 : Int32) (v5 : Int32) (h : mH) : Option ((Int32 × Int32 × mH) ⊕ (Int32 × mH)) :=
  mLoop (fun x : Int32 × Int32 × mH => f_X5_search_b22 v0 v2 v4 x.1 x.2.1 x.2.2) (v3, v5, h)
set_option maxRecDepth 100000 in
set_option maxHeartbeats 4000000 in
theorem g_X5_search_l22 {w : mWp} {Q : Option Value → mH → Prop} (v0 : Option Nat) (v2 : Int32) (v3 : Int32) (v4 : Int32) (v5 : Int32) (h : mH) {res : (Int32 × Int32 × mH) ⊕ (Int32 × mH)} (e : f_X5_search_l22 v0 v2 v3 v4 v5 h = some res) (q : (Sum.elim (fun x : Int32 × Int32 × mH => mGo w kX5_search 0 0 10 [some (va_rf v0), none, some (.int v2), some (.int x.1), some (.int x.2.1), none, none, none, none] [] x.2.2 Q) (fun r : Int32 × mH => Q (some (.int r.1)) r.2)) res) : mGo w kX5_search 0 0 22 [some (va_rf v0), none, some (.int v2), some (.int v3), some (.int v4), some (.int v5), none, none, none] [] h Q := by
  unfold f_X5_search_l22 at e
  refine mLoop_go (x := (v3, v5, h)) (fun x : Int32 × Int32 × mH => mGo w kX5_search 0 0 22 [some (va_rf v0), none, some (.int v2), some (.int x.1), some (.int v4), some (.int x.2.1), none, none, none] [] x.2.2 Q) (Sum.elim (fun x : Int32 × Int32 × mH => mGo w kX5_search 0 0 10 [some (va_rf v0), none, some (.int v2), some (.int x.1), some (.int x.2.1), none, none, none, none] [] x.2.2 Q) (fun r : Int32 × mH => Q (some (.int r.1)) r.2)) ?_ e q
  rintro ⟨v3, v5, h1⟩ res e q
  exact g_X5_search_b22 v0 v2 v4 v3 v5 h1 e q
noncomputable def f_X5_search_b10 (v0 : Option Nat) (v2 : Int32) (v3 : Int32) (v4 : Int32) (h : mH) : Option ((Int32 × Int32 × mH) ⊕ (Int32 × mH)) :=
  (mGI h v0 4 2).bind fun x1 =>
  if x1 ≤ v4 then
    some (Sum.inr (v3, h))
  else
    f_X5_search_l22 v0 v2 v3 v4 (0 : Int32) h
set_option maxRecDepth 100000 in
set_option maxHeartbeats 4000000 in
theorem g_X5_search_b10 {w : mWp} {Q : Option Value → mH → Prop} (v0 : Option Nat) (v2 : Int32) (v3 : Int32) (v4 : Int32) (h : mH) {res : (Int32 × Int32 × mH) ⊕ (Int32 × mH)} (e : f_X5_search_b10 v0 v2 v3 v4 h = some res) (q : (Sum.elim (fun x : Int32 × Int32 × mH => mGo w kX5_search 0 0 10 [some (va_rf v0), none, some (.int v2), some (.int x.1), some (.int x.2.1), none, none, none, none] [] x.2.2 Q) (fun r : Int32 × mH => Q (some (.int r.1)) r.2)) res) : mGo w kX5_search 0 0 10 [some (va_rf v0), none, some (.int v2), some (.int v3), some (.int v4), none, none, none, none] [] h Q := by
  unfold f_X5_search_b10 at e
  refine mGo.iload (n := 12) (x := v4) dX5_search_10 rfl rfl ?_
  refine mGo.aload_n (n := 13) (r := v0) dX5_search_12 rfl rfl ?_
  obtain ⟨x1, e_x1, e⟩ := mBind e
  refine mGo.getI (n := 16) dX5_search_13 sf_RX5_23 e_x1 rfl ?_
  refine mGo.icmp_ge (tgt := 140) (n := 19) dX5_search_16 (by decide) rfl (fun hc => ?_) (fun hc => ?_)
  · replace e := mIft hc e
    refine mGo.iload_n (n := 141) (x := v3) dX5_search_140 rfl rfl ?_
    cases e
    exact mGo.iret dX5_search_141 rfl (Nat.le_of_ble_eq_true rfl) (Nat.le_of_ble_eq_true rfl) q
  · replace e := mIff hc e
    refine mGo.iconst (n := 20) (v := (0 : Int32)) dX5_search_19 (by decide) rfl ?_
    refine mGo.istore (n := 22) (ls' := [some (va_rf v0), none, some (.int v2), some (.int v3), some (.int v4), some (.int (0 : Int32)), none, none, none]) dX5_search_20 rfl (Nat.le_of_ble_eq_true rfl) rfl ?_
    refine mGo.mk [true, false, true, true, true, true, false, false, false] ?_
    exact g_X5_search_l22 v0 v2 v3 v4 (0 : Int32) h e q
noncomputable def f_X5_search_l10 (v0 : Option Nat) (v2 : Int32) (v3 : Int32) (v4 : Int32) (h : mH) : Option (Int32 × mH) :=
  mLoop (fun x : Int32 × Int32 × mH => f_X5_search_b10 v0 v2 x.1 x.2.1 x.2.2) (v3, v4, h)
set_option maxRecDepth 100000 in
set_option maxHeartbeats 4000000 in
theorem g_X5_search_l10 {w : mWp} {Q : Option Value → mH → Prop} (v0 : Option Nat) (v2 : Int32) (v3 : Int32) (v4 : Int32) (h : mH) {res : Int32 × mH} (e : f_X5_search_l10 v0 v2 v3 v4 h = some res) (q : (fun r : Int32 × mH => Q (some (.int r.1)) r.2) res) : mGo w kX5_search 0 0 10 [some (va_rf v0), none, some (.int v2), some (.int v3), some (.int v4), none, none, none, none] [] h Q := by
  unfold f_X5_search_l10 at e
  refine mLoop_go (x := (v3, v4, h)) (fun x : Int32 × Int32 × mH => mGo w kX5_search 0 0 10 [some (va_rf v0), none, some (.int v2), some (.int x.1), some (.int x.2.1), none, none, none, none] [] x.2.2 Q) (fun r : Int32 × mH => Q (some (.int r.1)) r.2) ?_ e q
  rintro ⟨v3, v4, h1⟩ res e q
  exact g_X5_search_b10 v0 v2 v3 v4 h1 e q
noncomputable def f_X5_search (v0 : Option Nat) (v1 : Int32) (v2 : Int32) (h : mH) : Option (Int32 × mH) :=
  (mIs h v0 4).bind fun _ =>
  (f_X5_layRows v0 v1 h).bind fun x1 =>
  f_X5_search_l10 v0 v2 (0 : Int32) (0 : Int32) x1
set_option maxRecDepth 100000 in
set_option maxHeartbeats 4000000 in
theorem g_X5_search {w : mWp} {Q : Option Value → mH → Prop} (v0 : Option Nat) (v1 : Int32) (v2 : Int32) (h : mH) {res : Int32 × mH} (e : f_X5_search v0 v1 v2 h = some res) (q : (fun r : Int32 × mH => Q (some (.int r.1)) r.2) res) : mGo w kX5_search 0 0 0 [some (va_rf v0), some (.int v1), some (.int v2), none, none, none, none, none, none] [] h Q := by
  unfold f_X5_search at e
  obtain ⟨_, _, e⟩ := mBind e
  refine mGo.aload_n (n := 1) (r := v0) dX5_search_0 rfl rfl ?_
  refine mGo.iload_n (n := 2) (x := v1) dX5_search_1 rfl rfl ?_
  obtain ⟨x1, e_x1, e⟩ := mBind e
  refine mGo.callV (n := 5) (y := zX5_layRows) (R' := (mRoom (4) 0 0)) (as := [.int v1]) (st := []) (r0 := v0) dX5_search_2 sc_RX5_19 rfl (s_X5_layRows v0 v1 h e_x1) (e_X5_layRows v0 v1 h e_x1) (mFit_of rfl (Nat.le_of_ble_eq_true rfl) (by decide) (Nat.le_of_ble_eq_true rfl) (Nat.le_of_ble_eq_true rfl)) (Nat.le_of_ble_eq_true rfl) rfl rfl ?_
  intro _ _ hq
  rw [hq.1, hq.2]
  show mGo w kX5_search 0 0 5 [some (va_rf v0), some (.int v1), some (.int v2), none, none, none, none, none, none] [] x1 Q
  refine mGo.iconst (n := 6) (v := (0 : Int32)) dX5_search_5 (by decide) rfl ?_
  refine mGo.istore_n (n := 7) (ls' := [some (va_rf v0), some (.int v1), some (.int v2), some (.int (0 : Int32)), none, none, none, none, none]) dX5_search_6 rfl (Nat.le_of_ble_eq_true rfl) rfl ?_
  refine mGo.iconst (n := 8) (v := (0 : Int32)) dX5_search_7 (by decide) rfl ?_
  refine mGo.istore (n := 10) (ls' := [some (va_rf v0), some (.int v1), some (.int v2), some (.int (0 : Int32)), some (.int (0 : Int32)), none, none, none, none]) dX5_search_8 rfl (Nat.le_of_ble_eq_true rfl) rfl ?_
  refine mGo.mk [true, false, true, true, true, false, false, false, false] ?_
  exact g_X5_search_l10 v0 v2 (0 : Int32) (0 : Int32) x1 e q
theorem e_X5_search {w : mWp} (v0 : Option Nat) (v1 : Int32) (v2 : Int32) (h : mH) {res : Int32 × mH} (e : f_X5_search v0 v1 v2 h = some res) : mEx w zX5_search (mRoom 5 0 0) [va_rf v0, .int v1, .int v2] h (fun r h2 => r = some (.int res.1) ∧ h2 = res.2) := by
  refine mEx.of (by decide +kernel) (show mEnt [va_rf v0, .int v1, .int v2] 9 = [some (va_rf v0), some (.int v1), some (.int v2), none, none, none, none, none, none] by rw [mEnt_r, mEnt_i, mEnt_i] <;> rfl) (by simp only [List.map_cons, List.map_nil, mRfc, mCi, mCj, List.sum_cons, List.sum_nil]; exact Nat.le_of_ble_eq_true rfl) ?_
  refine g_X5_search v0 v1 v2 h e ?_
  exact ⟨rfl, rfl⟩
theorem s_X5_search (v0 : Option Nat) (v1 : Int32) (v2 : Int32) (h : mH) {res : Int32 × mH} (e : f_X5_search v0 v1 v2 h = some res) : mIs h v0 4 = some () := by
  unfold f_X5_search at e
  obtain ⟨u, e1, _⟩ := mBind e
  cases u
  exact e1
-- X6_init
def kX6_init : mK := (cX6_init, RX6, 1, none, "<init>", mRoom 2 2 32)
def zX6_init : mY := (yX6_init, cX6_init, 1, none)
set_option maxRecDepth 100000 in
theorem sf_RX6_9 : mFld RX6 9 5 0 := ⟨by decide, by decide, Or.inl (mT_at 234 (by decide +kernel) rfl)⟩
set_option maxRecDepth 100000 in
theorem sf_RX6_15 : mFld RX6 15 5 1 := ⟨by decide, by decide, Or.inl (mT_at 235 (by decide +kernel) rfl)⟩
def f_X6_init (v0 : Nat) (h : mH) : Option (mH) :=
  (mIs h (some v0) 5).bind fun _ =>
  (some (mNew h (.inl (16, .inr (.inl (fun _ => 0)))))).bind fun h1 =>
  (mPF h1 (some v0) 5 0 (va_rf (some (h.1 + 1)))).bind fun h2 =>
  (some (mNew h2 (.inl (16, .inr (.inl (fun _ => 0)))))).bind fun h3 =>
  (mPF h3 (some v0) 5 1 (va_rf (some (h2.1 + 1)))).bind fun h4 =>
  some h4
set_option maxRecDepth 100000 in
set_option maxHeartbeats 4000000 in
theorem g_X6_init {w : mWp} {Q : Option Value → mH → Prop} (v0 : Nat) (h : mH) {res : mH} (e : f_X6_init v0 h = some res) (q : (fun r : mH => Q none r) res) : mGo w kX6_init 0 0 0 [some (va_rf (some v0))] [] h Q := by
  unfold f_X6_init at e
  obtain ⟨_, _, e⟩ := mBind e
  refine mGo.aload_n (n := 1) (r := (some v0)) dX6_init_0 rfl rfl ?_
  refine mGo.objI (n := 4) dX6_init_1 (mT_at 233 (by decide +kernel) rfl) (mT_at 102 (by decide +kernel) rfl) (mT_at 103 (by decide +kernel) rfl) (Nat.le_of_ble_eq_true rfl) (Nat.le_of_ble_eq_true rfl) rfl ?_
  refine mGo.aload_n (n := 5) (r := (some v0)) dX6_init_4 rfl rfl ?_
  refine mGo.bipush (n := 7) (v := (16 : Int32)) dX6_init_5 (by decide) rfl ?_
  obtain ⟨h1, e_h1, e⟩ := mBind e
  refine mGo.newL' (n := 9) (N := 16) dX6_init_7 (by decide) (by decide) (by decide) (mT_at 241 (by decide +kernel) rfl) (Nat.le_of_ble_eq_true rfl) (Nat.le_of_ble_eq_true rfl) rfl e_h1 ?_
  show mGo w kX6_init 1 16 9 [some (va_rf (some v0))] [va_rf (some (h.1 + 1)), va_rf (some v0)] h1 Q
  obtain ⟨h2, e_h2, e⟩ := mBind e
  refine mGo.putR (n := 12) dX6_init_9 sf_RX6_9 (Or.inr ⟨rfl, rfl, rfl, mT_at 234 (by decide +kernel) rfl⟩) rfl e_h2 rfl ?_
  refine mGo.aload_n (n := 13) (r := (some v0)) dX6_init_12 rfl rfl ?_
  refine mGo.bipush (n := 15) (v := (16 : Int32)) dX6_init_13 (by decide) rfl ?_
  obtain ⟨h3, e_h3, e⟩ := mBind e
  refine mGo.newL' (n := 17) (N := 16) dX6_init_15 (by decide) (by decide) (by decide) (mT_at 241 (by decide +kernel) rfl) (Nat.le_of_ble_eq_true rfl) (Nat.le_of_ble_eq_true rfl) rfl e_h3 ?_
  show mGo w kX6_init 2 32 17 [some (va_rf (some v0))] [va_rf (some (h2.1 + 1)), va_rf (some v0)] h3 Q
  obtain ⟨h4, e_h4, e⟩ := mBind e
  refine mGo.putR (n := 20) dX6_init_17 sf_RX6_15 (Or.inr ⟨rfl, rfl, rfl, mT_at 235 (by decide +kernel) rfl⟩) rfl e_h4 rfl ?_
  cases e
  exact mGo.vret dX6_init_20 rfl (Nat.le_of_ble_eq_true rfl) (Nat.le_of_ble_eq_true rfl) q
theorem e_X6_init {w : mWp} (v0 : Nat) (h : mH) {res : mH} (e : f_X6_init v0 h = some res) : mEx w zX6_init (mRoom 2 2 32) [va_rf (some v0)] h (fun r h2 => r = none ∧ h2 = res) := by
  refine mEx.of (by decide +kernel) (show mEnt [va_rf (some v0)] 1 = [some (va_rf (some v0))] by rw [mEnt_r] <;> rfl) (by simp only [List.map_cons, List.map_nil, mRfc, mCi, mCj, List.sum_cons, List.sum_nil]; exact Nat.le_of_ble_eq_true rfl) ?_
  refine g_X6_init v0 h e ?_
  exact ⟨rfl, rfl⟩
theorem s_X6_init (v0 : Nat) (h : mH) {res : mH} (e : f_X6_init v0 h = some res) : mIs h (some v0) 5 = some () := by
  unfold f_X6_init at e
  obtain ⟨u, e1, _⟩ := mBind e
  cases u
  exact e1
-- X6_greaterSides
def kX6_greaterSides : mK := (cX6_greaterSides, RX6, 12, some (.int), "greaterSides", mRoom 1 0 0)
def zX6_greaterSides : mY := (yX6_greaterSides, cX6_greaterSides, 12, some (.int))
def f_X6_greaterSides (v0 : Int64) (v2 : Int64)  : Option (Int32) :=
  some (Int64.toInt32 (mLushr (((v0 &&& ((mLshl ((mLushr ((v0 ||| (-9187201950435737472 : Int64)) - (v2 - v0)) (7 : Int32)) &&& (72340172838076673 : Int64)) (8 : Int32)) - ((mLushr ((v0 ||| (-9187201950435737472 : Int64)) - (v2 - v0)) (7 : Int32)) &&& (72340172838076673 : Int64)))) ||| ((v2 - v0) &&& (((mLshl ((mLushr ((v0 ||| (-9187201950435737472 : Int64)) - (v2 - v0)) (7 : Int32)) &&& (72340172838076673 : Int64)) (8 : Int32)) - ((mLushr ((v0 ||| (-9187201950435737472 : Int64)) - (v2 - v0)) (7 : Int32)) &&& (72340172838076673 : Int64))) ^^^ (-1 : Int64)))) * (72340172838076673 : Int64)) (56 : Int32)))
set_option maxRecDepth 100000 in
set_option maxHeartbeats 4000000 in
theorem g_X6_greaterSides {w : mWp} {Q : Option Value → mH → Prop} (v0 : Int64) (v2 : Int64) (h : mH) {res : Int32} (e : f_X6_greaterSides v0 v2 = some res) (q : (fun r : Int32 => Q (some (.int r)) h) res) : mGo w kX6_greaterSides 0 0 0 [some (.long v0), none, some (.long v2), none, none, none, none, none, none, none, none, none] [] h Q := by
  unfold f_X6_greaterSides at e
  refine mGo.lload_n (n := 1) (x := v2) dX6_greaterSides_0 rfl rfl ?_
  refine mGo.lload_n (n := 2) (x := v0) dX6_greaterSides_1 rfl rfl ?_
  refine mGo.lsub (n := 3) dX6_greaterSides_2 rfl ?_
  refine mGo.lstore (n := 5) (ls' := [some (.long v0), none, some (.long v2), none, some (.long (v2 - v0)), none, none, none, none, none, none, none]) dX6_greaterSides_3 rfl (Nat.le_of_ble_eq_true rfl) rfl ?_
  refine mGo.lload_n (n := 6) (x := v0) dX6_greaterSides_5 rfl rfl ?_
  refine mGo.ldc2_w (n := 9) (v := (-9187201950435737472 : Int64)) dX6_greaterSides_6 (mT_at 564 (by decide +kernel) rfl) rfl ?_
  refine mGo.lor (n := 10) dX6_greaterSides_9 rfl ?_
  refine mGo.lload (n := 12) (x := (v2 - v0)) dX6_greaterSides_10 rfl rfl ?_
  refine mGo.lsub (n := 13) dX6_greaterSides_12 rfl ?_
  refine mGo.bipush (n := 15) (v := (7 : Int32)) dX6_greaterSides_13 (by decide) rfl ?_
  refine mGo.lushr (n := 16) dX6_greaterSides_15 rfl ?_
  refine mGo.ldc2_w (n := 19) (v := (72340172838076673 : Int64)) dX6_greaterSides_16 (mT_at 556 (by decide +kernel) rfl) rfl ?_
  refine mGo.land (n := 20) dX6_greaterSides_19 rfl ?_
  refine mGo.lstore (n := 22) (ls' := [some (.long v0), none, some (.long v2), none, some (.long (v2 - v0)), none, some (.long ((mLushr ((v0 ||| (-9187201950435737472 : Int64)) - (v2 - v0)) (7 : Int32)) &&& (72340172838076673 : Int64))), none, none, none, none, none]) dX6_greaterSides_20 rfl (Nat.le_of_ble_eq_true rfl) rfl ?_
  refine mGo.lload (n := 24) (x := ((mLushr ((v0 ||| (-9187201950435737472 : Int64)) - (v2 - v0)) (7 : Int32)) &&& (72340172838076673 : Int64))) dX6_greaterSides_22 rfl rfl ?_
  refine mGo.bipush (n := 26) (v := (8 : Int32)) dX6_greaterSides_24 (by decide) rfl ?_
  refine mGo.lshl (n := 27) dX6_greaterSides_26 rfl ?_
  refine mGo.lload (n := 29) (x := ((mLushr ((v0 ||| (-9187201950435737472 : Int64)) - (v2 - v0)) (7 : Int32)) &&& (72340172838076673 : Int64))) dX6_greaterSides_27 rfl rfl ?_
  refine mGo.lsub (n := 30) dX6_greaterSides_29 rfl ?_
  refine mGo.lstore (n := 32) (ls' := [some (.long v0), none, some (.long v2), none, some (.long (v2 - v0)), none, some (.long ((mLushr ((v0 ||| (-9187201950435737472 : Int64)) - (v2 - v0)) (7 : Int32)) &&& (72340172838076673 : Int64))), none, some (.long ((mLshl ((mLushr ((v0 ||| (-9187201950435737472 : Int64)) - (v2 - v0)) (7 : Int32)) &&& (72340172838076673 : Int64)) (8 : Int32)) - ((mLushr ((v0 ||| (-9187201950435737472 : Int64)) - (v2 - v0)) (7 : Int32)) &&& (72340172838076673 : Int64)))), none, none, none]) dX6_greaterSides_30 rfl (Nat.le_of_ble_eq_true rfl) rfl ?_
  refine mGo.lload_n (n := 33) (x := v0) dX6_greaterSides_32 rfl rfl ?_
  refine mGo.lload (n := 35) (x := ((mLshl ((mLushr ((v0 ||| (-9187201950435737472 : Int64)) - (v2 - v0)) (7 : Int32)) &&& (72340172838076673 : Int64)) (8 : Int32)) - ((mLushr ((v0 ||| (-9187201950435737472 : Int64)) - (v2 - v0)) (7 : Int32)) &&& (72340172838076673 : Int64)))) dX6_greaterSides_33 rfl rfl ?_
  refine mGo.land (n := 36) dX6_greaterSides_35 rfl ?_
  refine mGo.lload (n := 38) (x := (v2 - v0)) dX6_greaterSides_36 rfl rfl ?_
  refine mGo.lload (n := 40) (x := ((mLshl ((mLushr ((v0 ||| (-9187201950435737472 : Int64)) - (v2 - v0)) (7 : Int32)) &&& (72340172838076673 : Int64)) (8 : Int32)) - ((mLushr ((v0 ||| (-9187201950435737472 : Int64)) - (v2 - v0)) (7 : Int32)) &&& (72340172838076673 : Int64)))) dX6_greaterSides_38 rfl rfl ?_
  refine mGo.ldc2_w (n := 43) (v := (-1 : Int64)) dX6_greaterSides_40 (mT_at 565 (by decide +kernel) rfl) rfl ?_
  refine mGo.lxor (n := 44) dX6_greaterSides_43 rfl ?_
  refine mGo.land (n := 45) dX6_greaterSides_44 rfl ?_
  refine mGo.lor (n := 46) dX6_greaterSides_45 rfl ?_
  refine mGo.lstore (n := 48) (ls' := [some (.long v0), none, some (.long v2), none, some (.long (v2 - v0)), none, some (.long ((mLushr ((v0 ||| (-9187201950435737472 : Int64)) - (v2 - v0)) (7 : Int32)) &&& (72340172838076673 : Int64))), none, some (.long ((mLshl ((mLushr ((v0 ||| (-9187201950435737472 : Int64)) - (v2 - v0)) (7 : Int32)) &&& (72340172838076673 : Int64)) (8 : Int32)) - ((mLushr ((v0 ||| (-9187201950435737472 : Int64)) - (v2 - v0)) (7 : Int32)) &&& (72340172838076673 : Int64)))), none, some (.long ((v0 &&& ((mLshl ((mLushr ((v0 ||| (-9187201950435737472 : Int64)) - (v2 - v0)) (7 : Int32)) &&& (72340172838076673 : Int64)) (8 : Int32)) - ((mLushr ((v0 ||| (-9187201950435737472 : Int64)) - (v2 - v0)) (7 : Int32)) &&& (72340172838076673 : Int64)))) ||| ((v2 - v0) &&& (((mLshl ((mLushr ((v0 ||| (-9187201950435737472 : Int64)) - (v2 - v0)) (7 : Int32)) &&& (72340172838076673 : Int64)) (8 : Int32)) - ((mLushr ((v0 ||| (-9187201950435737472 : Int64)) - (v2 - v0)) (7 : Int32)) &&& (72340172838076673 : Int64))) ^^^ (-1 : Int64))))), none]) dX6_greaterSides_46 rfl (Nat.le_of_ble_eq_true rfl) rfl ?_
  refine mGo.lload (n := 50) (x := ((v0 &&& ((mLshl ((mLushr ((v0 ||| (-9187201950435737472 : Int64)) - (v2 - v0)) (7 : Int32)) &&& (72340172838076673 : Int64)) (8 : Int32)) - ((mLushr ((v0 ||| (-9187201950435737472 : Int64)) - (v2 - v0)) (7 : Int32)) &&& (72340172838076673 : Int64)))) ||| ((v2 - v0) &&& (((mLshl ((mLushr ((v0 ||| (-9187201950435737472 : Int64)) - (v2 - v0)) (7 : Int32)) &&& (72340172838076673 : Int64)) (8 : Int32)) - ((mLushr ((v0 ||| (-9187201950435737472 : Int64)) - (v2 - v0)) (7 : Int32)) &&& (72340172838076673 : Int64))) ^^^ (-1 : Int64))))) dX6_greaterSides_48 rfl rfl ?_
  refine mGo.ldc2_w (n := 53) (v := (72340172838076673 : Int64)) dX6_greaterSides_50 (mT_at 556 (by decide +kernel) rfl) rfl ?_
  refine mGo.lmul (n := 54) dX6_greaterSides_53 rfl ?_
  refine mGo.bipush (n := 56) (v := (56 : Int32)) dX6_greaterSides_54 (by decide) rfl ?_
  refine mGo.lushr (n := 57) dX6_greaterSides_56 rfl ?_
  refine mGo.l2i (n := 58) dX6_greaterSides_57 rfl ?_
  cases e
  exact mGo.iret dX6_greaterSides_58 rfl (Nat.le_of_ble_eq_true rfl) (Nat.le_of_ble_eq_true rfl) q
theorem e_X6_greaterSides {w : mWp} (v0 : Int64) (v2 : Int64) (h : mH) {res : Int32} (e : f_X6_greaterSides v0 v2 = some res) : mEx w zX6_greaterSides (mRoom 1 0 0) [.long v0, .long v2] h (fun r h2 => r = some (.int res) ∧ h2 = h) := by
  refine mEx.of (by decide +kernel) rfl (Nat.le_of_ble_eq_true rfl) ?_
  refine g_X6_greaterSides v0 v2 h e ?_
  exact ⟨rfl, rfl⟩
-- X6_lanes
def kX6_lanes : mK := (cX6_lanes, RX6, 1, some (.long), "lanes", mRoom 1 0 0)
def zX6_lanes : mY := (yX6_lanes, cX6_lanes, 1, some (.long))
def f_X6_lanes (v0 : Int32)  : Option (Int64) :=
  if 0 < v0 then
    if v0 < (8 : Int32) then
      some (mLushr (72340172838076673 : Int64) ((8 : Int32) * ((8 : Int32) - v0)))
    else
      some (72340172838076673 : Int64)
  else
    some (0 : Int64)
set_option maxRecDepth 100000 in
set_option maxHeartbeats 4000000 in
theorem g_X6_lanes {w : mWp} {Q : Option Value → mH → Prop} (v0 : Int32) (h : mH) {res : Int64} (e : f_X6_lanes v0 = some res) (q : (fun r : Int64 => Q (some (.long r)) h) res) : mGo w kX6_lanes 0 0 0 [some (.int v0)] [] h Q := by
  unfold f_X6_lanes at e
  refine mGo.iload_n (n := 1) (x := v0) dX6_lanes_0 rfl rfl ?_
  refine mGo.if_gt (tgt := 6) (n := 4) dX6_lanes_1 (by decide) rfl (fun hc => ?_) (fun hc => ?_)
  · replace e := mIft hc e
    refine mGo.iload_n (n := 7) (x := v0) dX6_lanes_6 rfl rfl ?_
    refine mGo.bipush (n := 9) (v := (8 : Int32)) dX6_lanes_7 (by decide) rfl ?_
    refine mGo.icmp_lt (tgt := 18) (n := 12) dX6_lanes_9 (by decide) rfl (fun hc => ?_) (fun hc => ?_)
    · replace e := mIft hc e
      refine mGo.ldc2_w (n := 21) (v := (72340172838076673 : Int64)) dX6_lanes_18 (mT_at 556 (by decide +kernel) rfl) rfl ?_
      refine mGo.bipush (n := 23) (v := (8 : Int32)) dX6_lanes_21 (by decide) rfl ?_
      refine mGo.bipush (n := 25) (v := (8 : Int32)) dX6_lanes_23 (by decide) rfl ?_
      refine mGo.iload_n (n := 26) (x := v0) dX6_lanes_25 rfl rfl ?_
      refine mGo.isub (n := 27) dX6_lanes_26 rfl ?_
      refine mGo.imul (n := 28) dX6_lanes_27 rfl ?_
      refine mGo.lushr (n := 29) dX6_lanes_28 rfl ?_
      cases e
      exact mGo.lret dX6_lanes_29 rfl (Nat.le_of_ble_eq_true rfl) (Nat.le_of_ble_eq_true rfl) q
    · replace e := mIff hc e
      refine mGo.ldc2_w (n := 15) (v := (72340172838076673 : Int64)) dX6_lanes_12 (mT_at 556 (by decide +kernel) rfl) rfl ?_
      refine mGo.goto (tgt := 29) dX6_lanes_15 (by decide) ?_
      cases e
      exact mGo.lret dX6_lanes_29 rfl (Nat.le_of_ble_eq_true rfl) (Nat.le_of_ble_eq_true rfl) q
  · replace e := mIff hc e
    refine mGo.lconst (n := 5) (v := (0 : Int64)) dX6_lanes_4 (by decide) rfl ?_
    cases e
    exact mGo.lret dX6_lanes_5 rfl (Nat.le_of_ble_eq_true rfl) (Nat.le_of_ble_eq_true rfl) q
theorem e_X6_lanes {w : mWp} (v0 : Int32) (h : mH) {res : Int64} (e : f_X6_lanes v0 = some res) : mEx w zX6_lanes (mRoom 1 0 0) [.int v0] h (fun r h2 => r = some (.long res) ∧ h2 = h) := by
  refine mEx.of (by decide +kernel) rfl (Nat.le_of_ble_eq_true rfl) ?_
  refine g_X6_lanes v0 h e ?_
  exact ⟨rfl, rfl⟩
-- X6_laySteps
def kX6_laySteps : mK := (cX6_laySteps, RX6, 7, none, "laySteps", mRoom 3 0 0)
def zX6_laySteps : mY := (yX6_laySteps, cX6_laySteps, 7, none)
set_option maxRecDepth 100000 in
theorem sf_RX6_18 : mFld RX6 18 6 0 := ⟨by decide, by decide, Or.inr ⟨_, mNest_at 29 (x := Cond.fieldLinkNest RX6 18 (mCR 6) (mCT 6 0).2.1 (mCT 6 0).2.2.1 "SignTables") (by decide +kernel) rfl⟩⟩
set_option maxRecDepth 100000 in
theorem sc_RX6_69 : mSV RX6 69 zX7_isMinus 2 6 := ⟨Or.inr ⟨_, mNest_at 469 (x := Cond.methodLinkNest RX6 69 yX7_isMinus "SignTables") (by decide +kernel) rfl⟩, mT_at 403 (by decide +kernel) rfl, mT_at 8 (by decide +kernel) rfl, mT_at 84 (by decide +kernel) rfl, mT_at 404 (by decide +kernel) rfl, ⟨by decide +kernel, by decide +kernel, by decide +kernel⟩, by decide, rfl⟩
set_option maxRecDepth 100000 in
theorem sc_RX6_28 : mSS RX6 28 zX6_lanes 1 := ⟨Or.inl (mT_at 553 (by decide +kernel) rfl), mT_at 554 (by decide +kernel) rfl, mT_at 88 (by decide +kernel) rfl, mT_at 555 (by decide +kernel) rfl, ⟨by decide +kernel, by decide +kernel, by decide +kernel⟩⟩
def f_X6_laySteps_c70 (v0 : Option Nat) (v1 : Int32) (v2 : Option Nat) (v3 : Int32) (v4 : Int64) (h : mH) : Option ((Int32 × mH) ⊕ (mH)) :=
  (mGI h v0 6 0).bind fun x1 =>
  (f_X6_lanes (x1 - v1)).bind fun x2 =>
  (mSL h v2 v3 (((2 : Int64) * v4) - x2)).bind fun h3 =>
  some (Sum.inl ((v3 + 1), h3))
set_option maxRecDepth 100000 in
set_option maxHeartbeats 4000000 in
theorem g_X6_laySteps_c70 {w : mWp} {Q : Option Value → mH → Prop} (v0 : Option Nat) (v1 : Int32) (v2 : Option Nat) (v3 : Int32) (v4 : Int64) (h : mH) {res : (Int32 × mH) ⊕ (mH)} (e : f_X6_laySteps_c70 v0 v1 v2 v3 v4 h = some res) (q : (Sum.elim (fun x : Int32 × mH => mGo w kX6_laySteps 0 0 2 [some (va_rf v0), some (.int v1), some (va_rf v2), some (.int x.1), none, none, none] [] x.2 Q) (fun r : mH => Q none r)) res) : mGo w kX6_laySteps 0 0 70 [some (va_rf v0), some (.int v1), some (va_rf v2), some (.int v3), some (.long v4), none, none] [] h Q := by
  unfold f_X6_laySteps_c70 at e
  refine mGo.aload_n (n := 71) (r := v2) dX6_laySteps_70 rfl rfl ?_
  refine mGo.iload_n (n := 72) (x := v3) dX6_laySteps_71 rfl rfl ?_
  refine mGo.ldc2_w (n := 75) (v := (2 : Int64)) dX6_laySteps_72 (mT_at 552 (by decide +kernel) rfl) rfl ?_
  refine mGo.lload (n := 77) (x := v4) dX6_laySteps_75 rfl rfl ?_
  refine mGo.lmul (n := 78) dX6_laySteps_77 rfl ?_
  refine mGo.aload_n (n := 79) (r := v0) dX6_laySteps_78 rfl rfl ?_
  obtain ⟨x1, e_x1, e⟩ := mBind e
  refine mGo.getI (n := 82) dX6_laySteps_79 sf_RX6_18 e_x1 rfl ?_
  refine mGo.iload_n (n := 83) (x := v1) dX6_laySteps_82 rfl rfl ?_
  refine mGo.isub (n := 84) dX6_laySteps_83 rfl ?_
  obtain ⟨x2, e_x2, e⟩ := mBind e
  refine mGo.callS (n := 87) (y := zX6_lanes) (R' := (mRoom (1) 0 0)) (as := [.int (x1 - v1)]) (st := [.long ((2 : Int64) * v4), .int v3, va_rf v2]) dX6_laySteps_84 sc_RX6_28 rfl (e_X6_lanes (x1 - v1) h e_x2) (mFit_of rfl (Nat.le_of_ble_eq_true rfl) (by decide) (Nat.le_of_ble_eq_true rfl) (Nat.le_of_ble_eq_true rfl)) (mCat8 (Nat.le_of_ble_eq_true rfl)) rfl rfl ?_
  intro _ _ hq
  rw [hq.1, hq.2]
  show mGo w kX6_laySteps 0 0 87 [some (va_rf v0), some (.int v1), some (va_rf v2), some (.int v3), some (.long v4), none, none] [.long x2, .long ((2 : Int64) * v4), .int v3, va_rf v2] h Q
  refine mGo.lsub (n := 88) dX6_laySteps_87 rfl ?_
  obtain ⟨h3, e_h3, e⟩ := mBind e
  refine mGo.last (n := 89) dX6_laySteps_88 e_h3 rfl ?_
  refine mGo.iinc (n := 92) (x := v3) (v := (v3 + 1)) (ls' := [some (va_rf v0), some (.int v1), some (va_rf v2), some (.int (v3 + 1)), some (.long v4), none, none]) dX6_laySteps_89 rfl rfl ((mSt_set (fun u _ hu => by cases hu; exact mRfc _)).trans rfl) (Nat.le_of_ble_eq_true rfl) rfl ?_
  refine mGo.goto (tgt := 2) dX6_laySteps_92 (by decide) ?_
  cases e
  refine mGo.mk [true, true, true, true, false, false, false] ?_
  exact q
def f_X6_laySteps_b22 (v0 : Option Nat) (v1 : Int32) (v2 : Option Nat) (v3 : Int32) (v4 : Int64) (v6 : Int32) (h : mH) : Option ((Int64 × Int32) ⊕ ((Int32 × mH) ⊕ (mH))) :=
  (mGI h v0 6 0).bind fun x1 =>
  if x1 ≤ v6 then
    (f_X6_laySteps_c70 v0 v1 v2 v3 v4 h).map (fun r => (Sum.inr r))
  else
    if (v1 + (8 : Int32)) ≤ v6 then
      (f_X6_laySteps_c70 v0 v1 v2 v3 v4 h).map (fun r => (Sum.inr r))
    else
      (f_X7_isMinus v0 v6 v3 h).bind fun x4 =>
      if x4 = 0 then
        some (Sum.inl (v4, (v6 + 1)))
      else
        some (Sum.inl ((v4 ||| (mLshl (1 : Int64) ((8 : Int32) * (v6 - v1)))), (v6 + 1)))
set_option maxRecDepth 100000 in
set_option maxHeartbeats 4000000 in
theorem g_X6_laySteps_b22 {w : mWp} {Q : Option Value → mH → Prop} (v0 : Option Nat) (v1 : Int32) (v2 : Option Nat) (v3 : Int32) (v4 : Int64) (v6 : Int32) (h : mH) {res : (Int64 × Int32) ⊕ ((Int32 × mH) ⊕ (mH))} (e : f_X6_laySteps_b22 v0 v1 v2 v3 v4 v6 h = some res) (q : (Sum.elim (fun x : Int64 × Int32 => mGo w kX6_laySteps 0 0 22 [some (va_rf v0), some (.int v1), some (va_rf v2), some (.int v3), some (.long x.1), none, some (.int x.2)] [] h Q) (Sum.elim (fun x : Int32 × mH => mGo w kX6_laySteps 0 0 2 [some (va_rf v0), some (.int v1), some (va_rf v2), some (.int x.1), none, none, none] [] x.2 Q) (fun r : mH => Q none r))) res) : mGo w kX6_laySteps 0 0 22 [some (va_rf v0), some (.int v1), some (va_rf v2), some (.int v3), some (.long v4), none, some (.int v6)] [] h Q := by
  unfold f_X6_laySteps_b22 at e
  refine mGo.iload (n := 24) (x := v6) dX6_laySteps_22 rfl rfl ?_
  refine mGo.aload_n (n := 25) (r := v0) dX6_laySteps_24 rfl rfl ?_
  obtain ⟨x1, e_x1, e⟩ := mBind e
  refine mGo.getI (n := 28) dX6_laySteps_25 sf_RX6_18 e_x1 rfl ?_
  refine mGo.icmp_ge (tgt := 70) (n := 31) dX6_laySteps_28 (by decide) rfl (fun hc => ?_) (fun hc => ?_)
  · replace e := mIft hc e
    obtain ⟨r2, e2, rfl⟩ := mMap e
    refine mGo.mk [true, true, true, true, true, false, false] ?_
    exact g_X6_laySteps_c70 v0 v1 v2 v3 v4 h e2 q
  · replace e := mIff hc e
    refine mGo.iload (n := 33) (x := v6) dX6_laySteps_31 rfl rfl ?_
    refine mGo.iload_n (n := 34) (x := v1) dX6_laySteps_33 rfl rfl ?_
    refine mGo.bipush (n := 36) (v := (8 : Int32)) dX6_laySteps_34 (by decide) rfl ?_
    refine mGo.iadd (n := 37) dX6_laySteps_36 rfl ?_
    refine mGo.icmp_ge (tgt := 70) (n := 40) dX6_laySteps_37 (by decide) rfl (fun hc => ?_) (fun hc => ?_)
    · replace e := mIft hc e
      obtain ⟨r3, e2, rfl⟩ := mMap e
      refine mGo.mk [true, true, true, true, true, false, false] ?_
      exact g_X6_laySteps_c70 v0 v1 v2 v3 v4 h e2 q
    · replace e := mIff hc e
      refine mGo.aload_n (n := 41) (r := v0) dX6_laySteps_40 rfl rfl ?_
      refine mGo.iload (n := 43) (x := v6) dX6_laySteps_41 rfl rfl ?_
      refine mGo.iload_n (n := 44) (x := v3) dX6_laySteps_43 rfl rfl ?_
      obtain ⟨x4, e_x4, e⟩ := mBind e
      refine mGo.callV (n := 47) (y := zX7_isMinus) (R' := (mRoom (2) 0 0)) (as := [.int v6, .int v3]) (st := []) (r0 := v0) dX6_laySteps_44 sc_RX6_69 rfl (s_X7_isMinus v0 v6 v3 h e_x4) (e_X7_isMinus v0 v6 v3 h e_x4) (mFit_of rfl (Nat.le_of_ble_eq_true rfl) (by decide) (Nat.le_of_ble_eq_true rfl) (Nat.le_of_ble_eq_true rfl)) (Nat.le_of_ble_eq_true rfl) rfl rfl ?_
      intro _ _ hq
      rw [hq.1, hq.2]
      show mGo w kX6_laySteps 0 0 47 [some (va_rf v0), some (.int v1), some (va_rf v2), some (.int v3), some (.long v4), none, some (.int v6)] [.int x4] h Q
      refine mGo.if_eq (tgt := 64) (n := 50) dX6_laySteps_47 (by decide) rfl (fun hc => ?_) (fun hc => ?_)
      · replace e := mIft hc e
        refine mGo.iinc (n := 67) (x := v6) (v := (v6 + 1)) (ls' := [some (va_rf v0), some (.int v1), some (va_rf v2), some (.int v3), some (.long v4), none, some (.int (v6 + 1))]) dX6_laySteps_64 rfl rfl rfl (Nat.le_of_ble_eq_true rfl) rfl ?_
        refine mGo.goto (tgt := 22) dX6_laySteps_67 (by decide) ?_
        cases e
        refine mGo.mk [true, true, true, true, true, false, true] ?_
        exact q
      · replace e := mIff hc e
        refine mGo.lload (n := 52) (x := v4) dX6_laySteps_50 rfl rfl ?_
        refine mGo.lconst (n := 53) (v := (1 : Int64)) dX6_laySteps_52 (by decide) rfl ?_
        refine mGo.bipush (n := 55) (v := (8 : Int32)) dX6_laySteps_53 (by decide) rfl ?_
        refine mGo.iload (n := 57) (x := v6) dX6_laySteps_55 rfl rfl ?_
        refine mGo.iload_n (n := 58) (x := v1) dX6_laySteps_57 rfl rfl ?_
        refine mGo.isub (n := 59) dX6_laySteps_58 rfl ?_
        refine mGo.imul (n := 60) dX6_laySteps_59 rfl ?_
        refine mGo.lshl (n := 61) dX6_laySteps_60 rfl ?_
        refine mGo.lor (n := 62) dX6_laySteps_61 rfl ?_
        refine mGo.lstore (n := 64) (ls' := [some (va_rf v0), some (.int v1), some (va_rf v2), some (.int v3), some (.long (v4 ||| (mLshl (1 : Int64) ((8 : Int32) * (v6 - v1))))), none, some (.int v6)]) dX6_laySteps_62 rfl (Nat.le_of_ble_eq_true rfl) rfl ?_
        refine mGo.iinc (n := 67) (x := v6) (v := (v6 + 1)) (ls' := [some (va_rf v0), some (.int v1), some (va_rf v2), some (.int v3), some (.long (v4 ||| (mLshl (1 : Int64) ((8 : Int32) * (v6 - v1))))), none, some (.int (v6 + 1))]) dX6_laySteps_64 rfl rfl rfl (Nat.le_of_ble_eq_true rfl) rfl ?_
        refine mGo.goto (tgt := 22) dX6_laySteps_67 (by decide) ?_
        cases e
        refine mGo.mk [true, true, true, true, true, false, true] ?_
        exact q
noncomputable def f_X6_laySteps_l22 (v0 : Option Nat) (v1 : Int32) (v2 : Option Nat) (v3 : Int32) (v4 : Int64) (v6 : Int32) (h : mH) : Option ((Int32 × mH) ⊕ (mH)) :=
  mLoop (fun x : Int64 × Int32 => f_X6_laySteps_b22 v0 v1 v2 v3 x.1 x.2 h) (v4, v6)
set_option maxRecDepth 100000 in
set_option maxHeartbeats 4000000 in
theorem g_X6_laySteps_l22 {w : mWp} {Q : Option Value → mH → Prop} (v0 : Option Nat) (v1 : Int32) (v2 : Option Nat) (v3 : Int32) (v4 : Int64) (v6 : Int32) (h : mH) {res : (Int32 × mH) ⊕ (mH)} (e : f_X6_laySteps_l22 v0 v1 v2 v3 v4 v6 h = some res) (q : (Sum.elim (fun x : Int32 × mH => mGo w kX6_laySteps 0 0 2 [some (va_rf v0), some (.int v1), some (va_rf v2), some (.int x.1), none, none, none] [] x.2 Q) (fun r : mH => Q none r)) res) : mGo w kX6_laySteps 0 0 22 [some (va_rf v0), some (.int v1), some (va_rf v2), some (.int v3), some (.long v4), none, some (.int v6)] [] h Q := by
  unfold f_X6_laySteps_l22 at e
  refine mLoop_go (x := (v4, v6)) (fun x : Int64 × Int32 => mGo w kX6_laySteps 0 0 22 [some (va_rf v0), some (.int v1), some (va_rf v2), some (.int v3), some (.long x.1), none, some (.int x.2)] [] h Q) (Sum.elim (fun x : Int32 × mH => mGo w kX6_laySteps 0 0 2 [some (va_rf v0), some (.int v1), some (va_rf v2), some (.int x.1), none, none, none] [] x.2 Q) (fun r : mH => Q none r)) ?_ e q
  rintro ⟨v4, v6⟩ res e q
  exact g_X6_laySteps_b22 v0 v1 v2 v3 v4 v6 h e q
noncomputable def f_X6_laySteps_b2 (v0 : Option Nat) (v1 : Int32) (v2 : Option Nat) (v3 : Int32) (h : mH) : Option ((Int32 × mH) ⊕ (mH)) :=
  (mGI h v0 6 0).bind fun x1 =>
  if x1 ≤ v3 then
    some (Sum.inr h)
  else
    (mLn h v2).bind fun x2 =>
    if x2 ≤ v3 then
      some (Sum.inr h)
    else
      f_X6_laySteps_l22 v0 v1 v2 v3 (0 : Int64) v1 h
set_option maxRecDepth 100000 in
set_option maxHeartbeats 4000000 in
theorem g_X6_laySteps_b2 {w : mWp} {Q : Option Value → mH → Prop} (v0 : Option Nat) (v1 : Int32) (v2 : Option Nat) (v3 : Int32) (h : mH) {res : (Int32 × mH) ⊕ (mH)} (e : f_X6_laySteps_b2 v0 v1 v2 v3 h = some res) (q : (Sum.elim (fun x : Int32 × mH => mGo w kX6_laySteps 0 0 2 [some (va_rf v0), some (.int v1), some (va_rf v2), some (.int x.1), none, none, none] [] x.2 Q) (fun r : mH => Q none r)) res) : mGo w kX6_laySteps 0 0 2 [some (va_rf v0), some (.int v1), some (va_rf v2), some (.int v3), none, none, none] [] h Q := by
  unfold f_X6_laySteps_b2 at e
  refine mGo.iload_n (n := 3) (x := v3) dX6_laySteps_2 rfl rfl ?_
  refine mGo.aload_n (n := 4) (r := v0) dX6_laySteps_3 rfl rfl ?_
  obtain ⟨x1, e_x1, e⟩ := mBind e
  refine mGo.getI (n := 7) dX6_laySteps_4 sf_RX6_18 e_x1 rfl ?_
  refine mGo.icmp_ge (tgt := 95) (n := 10) dX6_laySteps_7 (by decide) rfl (fun hc => ?_) (fun hc => ?_)
  · replace e := mIft hc e
    cases e
    exact mGo.vret dX6_laySteps_95 rfl (Nat.le_of_ble_eq_true rfl) (Nat.le_of_ble_eq_true rfl) q
  · replace e := mIff hc e
    refine mGo.iload_n (n := 11) (x := v3) dX6_laySteps_10 rfl rfl ?_
    refine mGo.aload_n (n := 12) (r := v2) dX6_laySteps_11 rfl rfl ?_
    obtain ⟨x2, e_x2, e⟩ := mBind e
    refine mGo.alen (n := 13) dX6_laySteps_12 e_x2 rfl ?_
    refine mGo.icmp_ge (tgt := 95) (n := 16) dX6_laySteps_13 (by decide) rfl (fun hc => ?_) (fun hc => ?_)
    · replace e := mIft hc e
      cases e
      exact mGo.vret dX6_laySteps_95 rfl (Nat.le_of_ble_eq_true rfl) (Nat.le_of_ble_eq_true rfl) q
    · replace e := mIff hc e
      refine mGo.lconst (n := 17) (v := (0 : Int64)) dX6_laySteps_16 (by decide) rfl ?_
      refine mGo.lstore (n := 19) (ls' := [some (va_rf v0), some (.int v1), some (va_rf v2), some (.int v3), some (.long (0 : Int64)), none, none]) dX6_laySteps_17 rfl (Nat.le_of_ble_eq_true rfl) rfl ?_
      refine mGo.iload_n (n := 20) (x := v1) dX6_laySteps_19 rfl rfl ?_
      refine mGo.istore (n := 22) (ls' := [some (va_rf v0), some (.int v1), some (va_rf v2), some (.int v3), some (.long (0 : Int64)), none, some (.int v1)]) dX6_laySteps_20 rfl (Nat.le_of_ble_eq_true rfl) rfl ?_
      refine mGo.mk [true, true, true, true, true, false, true] ?_
      exact g_X6_laySteps_l22 v0 v1 v2 v3 (0 : Int64) v1 h e q
noncomputable def f_X6_laySteps_l2 (v0 : Option Nat) (v1 : Int32) (v2 : Option Nat) (v3 : Int32) (h : mH) : Option (mH) :=
  mLoop (fun x : Int32 × mH => f_X6_laySteps_b2 v0 v1 v2 x.1 x.2) (v3, h)
set_option maxRecDepth 100000 in
set_option maxHeartbeats 4000000 in
theorem g_X6_laySteps_l2 {w : mWp} {Q : Option Value → mH → Prop} (v0 : Option Nat) (v1 : Int32) (v2 : Option Nat) (v3 : Int32) (h : mH) {res : mH} (e : f_X6_laySteps_l2 v0 v1 v2 v3 h = some res) (q : (fun r : mH => Q none r) res) : mGo w kX6_laySteps 0 0 2 [some (va_rf v0), some (.int v1), some (va_rf v2), some (.int v3), none, none, none] [] h Q := by
  unfold f_X6_laySteps_l2 at e
  refine mLoop_go (x := (v3, h)) (fun x : Int32 × mH => mGo w kX6_laySteps 0 0 2 [some (va_rf v0), some (.int v1), some (va_rf v2), some (.int x.1), none, none, none] [] x.2 Q) (fun r : mH => Q none r) ?_ e q
  rintro ⟨v3, h1⟩ res e q
  exact g_X6_laySteps_b2 v0 v1 v2 v3 h1 e q
noncomputable def f_X6_laySteps (v0 : Option Nat) (v1 : Int32) (v2 : Option Nat) (h : mH) : Option (mH) :=
  f_X6_laySteps_l2 v0 v1 v2 (0 : Int32) h
set_option maxRecDepth 100000 in
set_option maxHeartbeats 4000000 in
theorem g_X6_laySteps {w : mWp} {Q : Option Value → mH → Prop} (v0 : Option Nat) (v1 : Int32) (v2 : Option Nat) (h : mH) {res : mH} (e : f_X6_laySteps v0 v1 v2 h = some res) (q : (fun r : mH => Q none r) res) : mGo w kX6_laySteps 0 0 0 [some (va_rf v0), some (.int v1), some (va_rf v2), none, none, none, none] [] h Q := by
  unfold f_X6_laySteps at e
  refine mGo.iconst (n := 1) (v := (0 : Int32)) dX6_laySteps_0 (by decide) rfl ?_
  refine mGo.istore_n (n := 2) (ls' := [some (va_rf v0), some (.int v1), some (va_rf v2), some (.int (0 : Int32)), none, none, none]) dX6_laySteps_1 ((mSt_set (fun u _ hu => by cases hu; exact mRfc _)).trans rfl) (Nat.le_of_ble_eq_true rfl) rfl ?_
  refine mGo.mk [true, true, true, true, false, false, false] ?_
  exact g_X6_laySteps_l2 v0 v1 v2 (0 : Int32) h e q
theorem e_X6_laySteps {w : mWp} (v0 : Option Nat) (v1 : Int32) (v2 : Option Nat) (h : mH) {res : mH} (e : f_X6_laySteps v0 v1 v2 h = some res) : mEx w zX6_laySteps (mRoom 3 0 0) [va_rf v0, .int v1, va_rf v2] h (fun r h2 => r = none ∧ h2 = res) := by
  refine mEx.of (by decide +kernel) (show mEnt [va_rf v0, .int v1, va_rf v2] 7 = [some (va_rf v0), some (.int v1), some (va_rf v2), none, none, none, none] by rw [mEnt_r, mEnt_i, mEnt_r] <;> rfl) (by simp only [List.map_cons, List.map_nil, mRfc, mCi, mCj, List.sum_cons, List.sum_nil]; exact Nat.le_of_ble_eq_true rfl) ?_
  refine g_X6_laySteps v0 v1 v2 h e ?_
  exact ⟨rfl, rfl⟩
-- X6_plusCounts
def kX6_plusCounts : mK := (cX6_plusCounts, RX6, 7, some (.long), "plusCounts", mRoom 2 0 0)
def zX6_plusCounts : mY := (yX6_plusCounts, cX6_plusCounts, 7, some (.long))
set_option maxRecDepth 100000 in
theorem sf_RX6_62 : mFld RX6 62 6 1 := ⟨by decide, by decide, Or.inr ⟨_, mNest_at 38 (x := Cond.fieldLinkNest RX6 62 (mCR 6) (mCT 6 1).2.1 (mCT 6 1).2.2.1 "SignTables") (by decide +kernel) rfl⟩⟩
set_option maxRecDepth 100000 in
theorem sc_RX6_66 : mSS RX6 66 zJ6_bitCount_0f7a4 1 := ⟨Or.inl (mT_at 560 (by decide +kernel) rfl), mT_at 436 (by decide +kernel) rfl, mT_at 95 (by decide +kernel) rfl, mT_at 437 (by decide +kernel) rfl, ⟨by decide +kernel, by decide +kernel, by decide +kernel⟩⟩
def f_X6_plusCounts_b5 (v0 : Option Nat) (v1 : Int32) (v2 : Int64) (v4 : Int32) (h : mH) : Option ((Int64 × Int32) ⊕ (Int64)) :=
  (mGI h v0 6 0).bind fun x1 =>
  if x1 ≤ v4 then
    some (Sum.inr v2)
  else
    if (v1 + (8 : Int32)) ≤ v4 then
      some (Sum.inr v2)
    else
      (mGI h v0 6 0).bind fun x2 =>
      (mGR h v0 6 1).bind fun x3 =>
      (mAI h x3 v4).bind fun x4 =>
      (f_J6_bitCount_0f7a4 x4).bind fun x5 =>
      some (Sum.inl ((v2 ||| (mLshl (Int32.toInt64 (x2 - x5)) ((8 : Int32) * (v4 - v1)))), (v4 + 1)))
set_option maxRecDepth 100000 in
set_option maxHeartbeats 4000000 in
theorem g_X6_plusCounts_b5 {w : mWp} {Q : Option Value → mH → Prop} (v0 : Option Nat) (v1 : Int32) (v2 : Int64) (v4 : Int32) (h : mH) {res : (Int64 × Int32) ⊕ (Int64)} (e : f_X6_plusCounts_b5 v0 v1 v2 v4 h = some res) (q : (Sum.elim (fun x : Int64 × Int32 => mGo w kX6_plusCounts 0 0 5 [some (va_rf v0), some (.int v1), some (.long x.1), none, some (.int x.2), none, none] [] h Q) (fun r : Int64 => Q (some (.long r)) h)) res) : mGo w kX6_plusCounts 0 0 5 [some (va_rf v0), some (.int v1), some (.long v2), none, some (.int v4), none, none] [] h Q := by
  unfold f_X6_plusCounts_b5 at e
  refine mGo.iload (n := 7) (x := v4) dX6_plusCounts_5 rfl rfl ?_
  refine mGo.aload_n (n := 8) (r := v0) dX6_plusCounts_7 rfl rfl ?_
  obtain ⟨x1, e_x1, e⟩ := mBind e
  refine mGo.getI (n := 11) dX6_plusCounts_8 sf_RX6_18 e_x1 rfl ?_
  refine mGo.icmp_ge (tgt := 60) (n := 14) dX6_plusCounts_11 (by decide) rfl (fun hc => ?_) (fun hc => ?_)
  · replace e := mIft hc e
    refine mGo.lload_n (n := 61) (x := v2) dX6_plusCounts_60 rfl rfl ?_
    cases e
    exact mGo.lret dX6_plusCounts_61 rfl (Nat.le_of_ble_eq_true rfl) (Nat.le_of_ble_eq_true rfl) q
  · replace e := mIff hc e
    refine mGo.iload (n := 16) (x := v4) dX6_plusCounts_14 rfl rfl ?_
    refine mGo.iload_n (n := 17) (x := v1) dX6_plusCounts_16 rfl rfl ?_
    refine mGo.bipush (n := 19) (v := (8 : Int32)) dX6_plusCounts_17 (by decide) rfl ?_
    refine mGo.iadd (n := 20) dX6_plusCounts_19 rfl ?_
    refine mGo.icmp_ge (tgt := 60) (n := 23) dX6_plusCounts_20 (by decide) rfl (fun hc => ?_) (fun hc => ?_)
    · replace e := mIft hc e
      refine mGo.lload_n (n := 61) (x := v2) dX6_plusCounts_60 rfl rfl ?_
      cases e
      exact mGo.lret dX6_plusCounts_61 rfl (Nat.le_of_ble_eq_true rfl) (Nat.le_of_ble_eq_true rfl) q
    · replace e := mIff hc e
      refine mGo.aload_n (n := 24) (r := v0) dX6_plusCounts_23 rfl rfl ?_
      obtain ⟨x2, e_x2, e⟩ := mBind e
      refine mGo.getI (n := 27) dX6_plusCounts_24 sf_RX6_18 e_x2 rfl ?_
      refine mGo.aload_n (n := 28) (r := v0) dX6_plusCounts_27 rfl rfl ?_
      obtain ⟨x3, e_x3, e⟩ := mBind e
      refine mGo.getR (n := 31) dX6_plusCounts_28 sf_RX6_62 e_x3 rfl ?_
      refine mGo.iload (n := 33) (x := v4) dX6_plusCounts_31 rfl rfl ?_
      obtain ⟨x4, e_x4, e⟩ := mBind e
      refine mGo.iald (n := 34) dX6_plusCounts_33 e_x4 rfl ?_
      obtain ⟨x5, e_x5, e⟩ := mBind e
      refine mGo.callS (n := 37) (y := zJ6_bitCount_0f7a4) (R' := (mRoom (1) 0 0)) (as := [.int x4]) (st := [.int x2]) dX6_plusCounts_34 sc_RX6_66 rfl (e_J6_bitCount_0f7a4 x4 h e_x5) (mFit_of rfl (Nat.le_of_ble_eq_true rfl) (by decide) (Nat.le_of_ble_eq_true rfl) (Nat.le_of_ble_eq_true rfl)) (Nat.le_of_ble_eq_true rfl) rfl rfl ?_
      intro _ _ hq
      rw [hq.1, hq.2]
      show mGo w kX6_plusCounts 0 0 37 [some (va_rf v0), some (.int v1), some (.long v2), none, some (.int v4), none, none] [.int x5, .int x2] h Q
      refine mGo.isub (n := 38) dX6_plusCounts_37 rfl ?_
      refine mGo.i2l (n := 39) dX6_plusCounts_38 rfl ?_
      refine mGo.lstore (n := 41) (ls' := [some (va_rf v0), some (.int v1), some (.long v2), none, some (.int v4), some (.long (Int32.toInt64 (x2 - x5))), none]) dX6_plusCounts_39 rfl (Nat.le_of_ble_eq_true rfl) rfl ?_
      refine mGo.lload_n (n := 42) (x := v2) dX6_plusCounts_41 rfl rfl ?_
      refine mGo.lload (n := 44) (x := (Int32.toInt64 (x2 - x5))) dX6_plusCounts_42 rfl rfl ?_
      refine mGo.bipush (n := 46) (v := (8 : Int32)) dX6_plusCounts_44 (by decide) rfl ?_
      refine mGo.iload (n := 48) (x := v4) dX6_plusCounts_46 rfl rfl ?_
      refine mGo.iload_n (n := 49) (x := v1) dX6_plusCounts_48 rfl rfl ?_
      refine mGo.isub (n := 50) dX6_plusCounts_49 rfl ?_
      refine mGo.imul (n := 51) dX6_plusCounts_50 rfl ?_
      refine mGo.lshl (n := 52) dX6_plusCounts_51 rfl ?_
      refine mGo.lor (n := 53) dX6_plusCounts_52 rfl ?_
      refine mGo.lstore_n (n := 54) (ls' := [some (va_rf v0), some (.int v1), some (.long (v2 ||| (mLshl (Int32.toInt64 (x2 - x5)) ((8 : Int32) * (v4 - v1))))), none, some (.int v4), some (.long (Int32.toInt64 (x2 - x5))), none]) dX6_plusCounts_53 rfl (Nat.le_of_ble_eq_true rfl) rfl ?_
      refine mGo.iinc (n := 57) (x := v4) (v := (v4 + 1)) (ls' := [some (va_rf v0), some (.int v1), some (.long (v2 ||| (mLshl (Int32.toInt64 (x2 - x5)) ((8 : Int32) * (v4 - v1))))), none, some (.int (v4 + 1)), some (.long (Int32.toInt64 (x2 - x5))), none]) dX6_plusCounts_54 rfl rfl rfl (Nat.le_of_ble_eq_true rfl) rfl ?_
      refine mGo.goto (tgt := 5) dX6_plusCounts_57 (by decide) ?_
      cases e
      refine mGo.mk [true, true, true, false, true, false, false] ?_
      exact q
noncomputable def f_X6_plusCounts_l5 (v0 : Option Nat) (v1 : Int32) (v2 : Int64) (v4 : Int32) (h : mH) : Option (Int64) :=
  mLoop (fun x : Int64 × Int32 => f_X6_plusCounts_b5 v0 v1 x.1 x.2 h) (v2, v4)
set_option maxRecDepth 100000 in
set_option maxHeartbeats 4000000 in
theorem g_X6_plusCounts_l5 {w : mWp} {Q : Option Value → mH → Prop} (v0 : Option Nat) (v1 : Int32) (v2 : Int64) (v4 : Int32) (h : mH) {res : Int64} (e : f_X6_plusCounts_l5 v0 v1 v2 v4 h = some res) (q : (fun r : Int64 => Q (some (.long r)) h) res) : mGo w kX6_plusCounts 0 0 5 [some (va_rf v0), some (.int v1), some (.long v2), none, some (.int v4), none, none] [] h Q := by
  unfold f_X6_plusCounts_l5 at e
  refine mLoop_go (x := (v2, v4)) (fun x : Int64 × Int32 => mGo w kX6_plusCounts 0 0 5 [some (va_rf v0), some (.int v1), some (.long x.1), none, some (.int x.2), none, none] [] h Q) (fun r : Int64 => Q (some (.long r)) h) ?_ e q
  rintro ⟨v2, v4⟩ res e q
  exact g_X6_plusCounts_b5 v0 v1 v2 v4 h e q
noncomputable def f_X6_plusCounts (v0 : Option Nat) (v1 : Int32) (h : mH) : Option (Int64) :=
  f_X6_plusCounts_l5 v0 v1 (0 : Int64) v1 h
set_option maxRecDepth 100000 in
set_option maxHeartbeats 4000000 in
theorem g_X6_plusCounts {w : mWp} {Q : Option Value → mH → Prop} (v0 : Option Nat) (v1 : Int32) (h : mH) {res : Int64} (e : f_X6_plusCounts v0 v1 h = some res) (q : (fun r : Int64 => Q (some (.long r)) h) res) : mGo w kX6_plusCounts 0 0 0 [some (va_rf v0), some (.int v1), none, none, none, none, none] [] h Q := by
  unfold f_X6_plusCounts at e
  refine mGo.lconst (n := 1) (v := (0 : Int64)) dX6_plusCounts_0 (by decide) rfl ?_
  refine mGo.lstore_n (n := 2) (ls' := [some (va_rf v0), some (.int v1), some (.long (0 : Int64)), none, none, none, none]) dX6_plusCounts_1 rfl (Nat.le_of_ble_eq_true rfl) rfl ?_
  refine mGo.iload_n (n := 3) (x := v1) dX6_plusCounts_2 rfl rfl ?_
  refine mGo.istore (n := 5) (ls' := [some (va_rf v0), some (.int v1), some (.long (0 : Int64)), none, some (.int v1), none, none]) dX6_plusCounts_3 rfl (Nat.le_of_ble_eq_true rfl) rfl ?_
  refine mGo.mk [true, true, true, false, true, false, false] ?_
  exact g_X6_plusCounts_l5 v0 v1 (0 : Int64) v1 h e q
theorem e_X6_plusCounts {w : mWp} (v0 : Option Nat) (v1 : Int32) (h : mH) {res : Int64} (e : f_X6_plusCounts v0 v1 h = some res) : mEx w zX6_plusCounts (mRoom 2 0 0) [va_rf v0, .int v1] h (fun r h2 => r = some (.long res) ∧ h2 = h) := by
  refine mEx.of (by decide +kernel) (show mEnt [va_rf v0, .int v1] 7 = [some (va_rf v0), some (.int v1), none, none, none, none, none] by rw [mEnt_r, mEnt_i] <;> rfl) (by simp only [List.map_cons, List.map_nil, mRfc, mCi, mCj, List.sum_cons, List.sum_nil]; exact Nat.le_of_ble_eq_true rfl) ?_
  refine g_X6_plusCounts v0 v1 h e ?_
  exact ⟨rfl, rfl⟩
-- X6_climb
def kX6_climb : mK := (cX6_climb, RX6, 18, none, "climb", mRoom 4 0 0)
def zX6_climb : mY := (yX6_climb, cX6_climb, 18, none)
set_option maxRecDepth 100000 in
theorem sc_RX6_24 : mSS RX6 24 zX6_laySteps 3 := ⟨Or.inl (mT_at 548 (by decide +kernel) rfl), mT_at 549 (by decide +kernel) rfl, mT_at 88 (by decide +kernel) rfl, mT_at 550 (by decide +kernel) rfl, ⟨by decide +kernel, by decide +kernel, by decide +kernel⟩⟩
set_option maxRecDepth 100000 in
theorem sc_RX6_32 : mSS RX6 32 zX6_plusCounts 2 := ⟨Or.inl (mT_at 557 (by decide +kernel) rfl), mT_at 558 (by decide +kernel) rfl, mT_at 88 (by decide +kernel) rfl, mT_at 559 (by decide +kernel) rfl, ⟨by decide +kernel, by decide +kernel, by decide +kernel⟩⟩
set_option maxRecDepth 100000 in
theorem sc_RX6_36 : mSS RX6 36 zX6_greaterSides 2 := ⟨Or.inl (mT_at 561 (by decide +kernel) rfl), mT_at 562 (by decide +kernel) rfl, mT_at 88 (by decide +kernel) rfl, mT_at 563 (by decide +kernel) rfl, ⟨by decide +kernel, by decide +kernel, by decide +kernel⟩⟩
set_option maxRecDepth 100000 in
theorem sf_RX6_50 : mFld RX6 50 6 6 := ⟨by decide, by decide, Or.inr ⟨_, mNest_at 49 (x := Cond.fieldLinkNest RX6 50 (mCR 6) (mCT 6 6).2.1 (mCT 6 6).2.2.1 "SignTables") (by decide +kernel) rfl⟩⟩
set_option maxRecDepth 100000 in
theorem sf_RX6_53 : mFld RX6 53 6 7 := ⟨by decide, by decide, Or.inr ⟨_, mNest_at 51 (x := Cond.fieldLinkNest RX6 53 (mCR 6) (mCT 6 7).2.1 (mCT 6 7).2.2.1 "SignTables") (by decide +kernel) rfl⟩⟩
set_option maxRecDepth 100000 in
theorem sf_RX6_56 : mFld RX6 56 6 5 := ⟨by decide, by decide, Or.inr ⟨_, mNest_at 46 (x := Cond.fieldLinkNest RX6 56 (mCR 6) (mCT 6 5).2.1 (mCT 6 5).2.2.1 "SignTables") (by decide +kernel) rfl⟩⟩
set_option maxRecDepth 100000 in
theorem sc_RX6_40 : mSS RX6 40 zJ6_numberOfTrailingZeros_0f7a4 1 := ⟨Or.inl (mT_at 566 (by decide +kernel) rfl), mT_at 567 (by decide +kernel) rfl, mT_at 95 (by decide +kernel) rfl, mT_at 568 (by decide +kernel) rfl, ⟨by decide +kernel, by decide +kernel, by decide +kernel⟩⟩
set_option maxRecDepth 100000 in
theorem sc_RX6_46 : mSS RX6 46 zX8_inSet 2 := ⟨Or.inr ⟨_, mNest_at 488 (x := Cond.methodLinkNest RX6 46 yX8_inSet "SignTables") (by decide +kernel) rfl⟩, mT_at 370 (by decide +kernel) rfl, mT_at 83 (by decide +kernel) rfl, mT_at 371 (by decide +kernel) rfl, ⟨by decide +kernel, by decide +kernel, by decide +kernel⟩⟩
def f_X6_climb_c212 (v0 : Option Nat) (v1 : Option Nat) (v2 : Int32) (v3 : Int64) (v5 : Int64) (v7 : Int64) (v9 : Int64) (v13 : Int32) (v14 : Int32) (v17 : Int32) (h : mH) : Option ((Int64 × Int64 × Int32 × Int32 × Int32 × Int32) ⊕ (mH)) :=
  some (Sum.inl (v7, v9, v17, v13, v13, (v14 + 1)))
set_option maxRecDepth 100000 in
set_option maxHeartbeats 4000000 in
theorem g_X6_climb_c212 {w : mWp} {Q : Option Value → mH → Prop} (v0 : Option Nat) (v1 : Option Nat) (v2 : Int32) (v3 : Int64) (v5 : Int64) (v7 : Int64) (v9 : Int64) (v13 : Int32) (v14 : Int32) (v17 : Int32) (h : mH) {res : (Int64 × Int64 × Int32 × Int32 × Int32 × Int32) ⊕ (mH)} (e : f_X6_climb_c212 v0 v1 v2 v3 v5 v7 v9 v13 v14 v17 h = some res) (q : (Sum.elim (fun x : Int64 × Int64 × Int32 × Int32 × Int32 × Int32 => mGo w kX6_climb 0 0 84 [some (va_rf v0), some (va_rf v1), some (.int v2), some (.long v3), none, some (.long v5), none, some (.long x.1), none, some (.long x.2.1), none, some (.int x.2.2.1), some (.int x.2.2.2.1), some (.int x.2.2.2.2.1), some (.int x.2.2.2.2.2), none, none, none] [] h Q) (fun r : mH => Q none r)) res) : mGo w kX6_climb 0 0 212 [some (va_rf v0), some (va_rf v1), some (.int v2), some (.long v3), none, some (.long v5), none, some (.long v7), none, some (.long v9), none, none, none, some (.int v13), some (.int v14), none, none, some (.int v17)] [] h Q := by
  unfold f_X6_climb_c212 at e
  refine mGo.iload (n := 214) (x := v17) dX6_climb_212 rfl rfl ?_
  refine mGo.istore (n := 216) (ls' := [some (va_rf v0), some (va_rf v1), some (.int v2), some (.long v3), none, some (.long v5), none, some (.long v7), none, some (.long v9), none, some (.int v17), none, some (.int v13), some (.int v14), none, none, some (.int v17)]) dX6_climb_214 rfl (Nat.le_of_ble_eq_true rfl) rfl ?_
  refine mGo.iload (n := 218) (x := v13) dX6_climb_216 rfl rfl ?_
  refine mGo.istore (n := 220) (ls' := [some (va_rf v0), some (va_rf v1), some (.int v2), some (.long v3), none, some (.long v5), none, some (.long v7), none, some (.long v9), none, some (.int v17), some (.int v13), some (.int v13), some (.int v14), none, none, some (.int v17)]) dX6_climb_218 rfl (Nat.le_of_ble_eq_true rfl) rfl ?_
  refine mGo.iinc (n := 223) (x := v14) (v := (v14 + 1)) (ls' := [some (va_rf v0), some (va_rf v1), some (.int v2), some (.long v3), none, some (.long v5), none, some (.long v7), none, some (.long v9), none, some (.int v17), some (.int v13), some (.int v13), some (.int (v14 + 1)), none, none, some (.int v17)]) dX6_climb_220 rfl rfl rfl (Nat.le_of_ble_eq_true rfl) rfl ?_
  refine mGo.goto (tgt := 84) dX6_climb_223 (by decide) ?_
  cases e
  refine mGo.mk [true, true, true, true, false, true, false, true, false, true, false, true, true, true, true, false, false, false] ?_
  exact q
def f_X6_climb_c172 (v0 : Option Nat) (v1 : Option Nat) (v2 : Int32) (v3 : Int64) (v5 : Int64) (v7 : Int64) (v11 : Int32) (v12 : Int32) (v13 : Int32) (v14 : Int32) (s0 : Int64) (s1 : Int64) (h : mH) : Option ((Int64 × Int64 × Int32 × Int32 × Int32 × Int32) ⊕ (mH)) :=
  (f_X6_greaterSides v7 v3).bind fun x1 =>
  (f_X6_greaterSides (s0 + s1) v5).bind fun x2 =>
  if v11 < (x1 + x2) then
    f_X6_climb_c212 v0 v1 v2 v3 v5 v7 (s0 + s1) v13 v14 (x1 + x2) h
  else
    if (x1 + x2) = v11 then
      if v12 ≤ v13 then
        some (Sum.inl (v7, (s0 + s1), v11, v12, v13, (v14 + 1)))
      else
        f_X6_climb_c212 v0 v1 v2 v3 v5 v7 (s0 + s1) v13 v14 (x1 + x2) h
    else
      some (Sum.inl (v7, (s0 + s1), v11, v12, v13, (v14 + 1)))
set_option maxRecDepth 100000 in
set_option maxHeartbeats 4000000 in
theorem g_X6_climb_c172 {w : mWp} {Q : Option Value → mH → Prop} (v0 : Option Nat) (v1 : Option Nat) (v2 : Int32) (v3 : Int64) (v5 : Int64) (v7 : Int64) (v11 : Int32) (v12 : Int32) (v13 : Int32) (v14 : Int32) (s0 : Int64) (s1 : Int64) (h : mH) {res : (Int64 × Int64 × Int32 × Int32 × Int32 × Int32) ⊕ (mH)} (e : f_X6_climb_c172 v0 v1 v2 v3 v5 v7 v11 v12 v13 v14 s0 s1 h = some res) (q : (Sum.elim (fun x : Int64 × Int64 × Int32 × Int32 × Int32 × Int32 => mGo w kX6_climb 0 0 84 [some (va_rf v0), some (va_rf v1), some (.int v2), some (.long v3), none, some (.long v5), none, some (.long x.1), none, some (.long x.2.1), none, some (.int x.2.2.1), some (.int x.2.2.2.1), some (.int x.2.2.2.2.1), some (.int x.2.2.2.2.2), none, none, none] [] h Q) (fun r : mH => Q none r)) res) : mGo w kX6_climb 0 0 172 [some (va_rf v0), some (va_rf v1), some (.int v2), some (.long v3), none, some (.long v5), none, some (.long v7), none, none, none, some (.int v11), some (.int v12), some (.int v13), some (.int v14), none, none, none] [.long s1, .long s0] h Q := by
  unfold f_X6_climb_c172 at e
  refine mGo.ladd (n := 173) dX6_climb_172 rfl ?_
  refine mGo.lstore (n := 175) (ls' := [some (va_rf v0), some (va_rf v1), some (.int v2), some (.long v3), none, some (.long v5), none, some (.long v7), none, some (.long (s0 + s1)), none, some (.int v11), some (.int v12), some (.int v13), some (.int v14), none, none, none]) dX6_climb_173 rfl (Nat.le_of_ble_eq_true rfl) rfl ?_
  refine mGo.lload (n := 177) (x := v7) dX6_climb_175 rfl rfl ?_
  refine mGo.lload_n (n := 178) (x := v3) dX6_climb_177 rfl rfl ?_
  obtain ⟨x1, e_x1, e⟩ := mBind e
  refine mGo.callS (n := 181) (y := zX6_greaterSides) (R' := (mRoom (1) 0 0)) (as := [.long v7, .long v3]) (st := []) dX6_climb_178 sc_RX6_36 rfl (e_X6_greaterSides v7 v3 h e_x1) (mFit_of rfl (Nat.le_of_ble_eq_true rfl) (by decide) (Nat.le_of_ble_eq_true rfl) (Nat.le_of_ble_eq_true rfl)) (Nat.le_of_ble_eq_true rfl) rfl rfl ?_
  intro _ _ hq
  rw [hq.1, hq.2]
  show mGo w kX6_climb 0 0 181 [some (va_rf v0), some (va_rf v1), some (.int v2), some (.long v3), none, some (.long v5), none, some (.long v7), none, some (.long (s0 + s1)), none, some (.int v11), some (.int v12), some (.int v13), some (.int v14), none, none, none] [.int x1] h Q
  refine mGo.lload (n := 183) (x := (s0 + s1)) dX6_climb_181 rfl rfl ?_
  refine mGo.lload (n := 185) (x := v5) dX6_climb_183 rfl rfl ?_
  obtain ⟨x2, e_x2, e⟩ := mBind e
  refine mGo.callS (n := 188) (y := zX6_greaterSides) (R' := (mRoom (1) 0 0)) (as := [.long (s0 + s1), .long v5]) (st := [.int x1]) dX6_climb_185 sc_RX6_36 rfl (e_X6_greaterSides (s0 + s1) v5 h e_x2) (mFit_of rfl (Nat.le_of_ble_eq_true rfl) (by decide) (Nat.le_of_ble_eq_true rfl) (Nat.le_of_ble_eq_true rfl)) (Nat.le_of_ble_eq_true rfl) rfl rfl ?_
  intro _ _ hq
  rw [hq.1, hq.2]
  show mGo w kX6_climb 0 0 188 [some (va_rf v0), some (va_rf v1), some (.int v2), some (.long v3), none, some (.long v5), none, some (.long v7), none, some (.long (s0 + s1)), none, some (.int v11), some (.int v12), some (.int v13), some (.int v14), none, none, none] [.int x2, .int x1] h Q
  refine mGo.iadd (n := 189) dX6_climb_188 rfl ?_
  refine mGo.istore (n := 191) (ls' := [some (va_rf v0), some (va_rf v1), some (.int v2), some (.long v3), none, some (.long v5), none, some (.long v7), none, some (.long (s0 + s1)), none, some (.int v11), some (.int v12), some (.int v13), some (.int v14), none, none, some (.int (x1 + x2))]) dX6_climb_189 rfl (Nat.le_of_ble_eq_true rfl) rfl ?_
  refine mGo.iload (n := 193) (x := (x1 + x2)) dX6_climb_191 rfl rfl ?_
  refine mGo.iload (n := 195) (x := v11) dX6_climb_193 rfl rfl ?_
  refine mGo.icmp_gt (tgt := 212) (n := 198) dX6_climb_195 (by decide) rfl (fun hc => ?_) (fun hc => ?_)
  · replace e := mIft hc e
    refine mGo.mk [true, true, true, true, false, true, false, true, false, true, false, false, false, true, true, false, false, true] ?_
    exact g_X6_climb_c212 v0 v1 v2 v3 v5 v7 (s0 + s1) v13 v14 (x1 + x2) h e q
  · replace e := mIff hc e
    refine mGo.iload (n := 200) (x := (x1 + x2)) dX6_climb_198 rfl rfl ?_
    refine mGo.iload (n := 202) (x := v11) dX6_climb_200 rfl rfl ?_
    refine mGo.icmp_ne (tgt := 220) (n := 205) dX6_climb_202 (by decide) rfl (fun hc => ?_) (fun hc => ?_)
    · replace e := mIff hc e
      refine mGo.iinc (n := 223) (x := v14) (v := (v14 + 1)) (ls' := [some (va_rf v0), some (va_rf v1), some (.int v2), some (.long v3), none, some (.long v5), none, some (.long v7), none, some (.long (s0 + s1)), none, some (.int v11), some (.int v12), some (.int v13), some (.int (v14 + 1)), none, none, some (.int (x1 + x2))]) dX6_climb_220 rfl rfl rfl (Nat.le_of_ble_eq_true rfl) rfl ?_
      refine mGo.goto (tgt := 84) dX6_climb_223 (by decide) ?_
      cases e
      refine mGo.mk [true, true, true, true, false, true, false, true, false, true, false, true, true, true, true, false, false, false] ?_
      exact q
    · replace e := mIft hc e
      refine mGo.iload (n := 207) (x := v13) dX6_climb_205 rfl rfl ?_
      refine mGo.iload (n := 209) (x := v12) dX6_climb_207 rfl rfl ?_
      refine mGo.icmp_ge (tgt := 220) (n := 212) dX6_climb_209 (by decide) rfl (fun hc => ?_) (fun hc => ?_)
      · replace e := mIft hc e
        refine mGo.iinc (n := 223) (x := v14) (v := (v14 + 1)) (ls' := [some (va_rf v0), some (va_rf v1), some (.int v2), some (.long v3), none, some (.long v5), none, some (.long v7), none, some (.long (s0 + s1)), none, some (.int v11), some (.int v12), some (.int v13), some (.int (v14 + 1)), none, none, some (.int (x1 + x2))]) dX6_climb_220 rfl rfl rfl (Nat.le_of_ble_eq_true rfl) rfl ?_
        refine mGo.goto (tgt := 84) dX6_climb_223 (by decide) ?_
        cases e
        refine mGo.mk [true, true, true, true, false, true, false, true, false, true, false, true, true, true, true, false, false, false] ?_
        exact q
      · replace e := mIff hc e
        refine mGo.mk [true, true, true, true, false, true, false, true, false, true, false, false, false, true, true, false, false, true] ?_
        exact g_X6_climb_c212 v0 v1 v2 v3 v5 v7 (s0 + s1) v13 v14 (x1 + x2) h e q
def f_X6_climb_c144 (v0 : Option Nat) (v1 : Option Nat) (v2 : Int32) (v3 : Int64) (v5 : Int64) (v9 : Int64) (v11 : Int32) (v12 : Int32) (v13 : Int32) (v14 : Int32) (v15 : Int32) (v16 : Int32) (s0 : Int64) (s1 : Int64) (h : mH) : Option ((Int64 × Int64 × Int32 × Int32 × Int32 × Int32) ⊕ (mH)) :=
  if v16 = 0 then
    (mGR h v0 5 1).bind fun x1 =>
    (mAL h x1 v15).bind fun x2 =>
    f_X6_climb_c172 v0 v1 v2 v3 v5 (s0 + s1) v11 v12 v13 v14 v9 (-x2) h
  else
    (mGR h v0 5 1).bind fun x3 =>
    (mAL h x3 v15).bind fun x4 =>
    f_X6_climb_c172 v0 v1 v2 v3 v5 (s0 + s1) v11 v12 v13 v14 v9 x4 h
set_option maxRecDepth 100000 in
set_option maxHeartbeats 4000000 in
theorem g_X6_climb_c144 {w : mWp} {Q : Option Value → mH → Prop} (v0 : Option Nat) (v1 : Option Nat) (v2 : Int32) (v3 : Int64) (v5 : Int64) (v9 : Int64) (v11 : Int32) (v12 : Int32) (v13 : Int32) (v14 : Int32) (v15 : Int32) (v16 : Int32) (s0 : Int64) (s1 : Int64) (h : mH) {res : (Int64 × Int64 × Int32 × Int32 × Int32 × Int32) ⊕ (mH)} (e : f_X6_climb_c144 v0 v1 v2 v3 v5 v9 v11 v12 v13 v14 v15 v16 s0 s1 h = some res) (q : (Sum.elim (fun x : Int64 × Int64 × Int32 × Int32 × Int32 × Int32 => mGo w kX6_climb 0 0 84 [some (va_rf v0), some (va_rf v1), some (.int v2), some (.long v3), none, some (.long v5), none, some (.long x.1), none, some (.long x.2.1), none, some (.int x.2.2.1), some (.int x.2.2.2.1), some (.int x.2.2.2.2.1), some (.int x.2.2.2.2.2), none, none, none] [] h Q) (fun r : mH => Q none r)) res) : mGo w kX6_climb 0 0 144 [some (va_rf v0), some (va_rf v1), some (.int v2), some (.long v3), none, some (.long v5), none, none, none, some (.long v9), none, some (.int v11), some (.int v12), some (.int v13), some (.int v14), some (.int v15), some (.int v16), none] [.long s1, .long s0] h Q := by
  unfold f_X6_climb_c144 at e
  refine mGo.ladd (n := 145) dX6_climb_144 rfl ?_
  refine mGo.lstore (n := 147) (ls' := [some (va_rf v0), some (va_rf v1), some (.int v2), some (.long v3), none, some (.long v5), none, some (.long (s0 + s1)), none, some (.long v9), none, some (.int v11), some (.int v12), some (.int v13), some (.int v14), some (.int v15), some (.int v16), none]) dX6_climb_145 rfl (Nat.le_of_ble_eq_true rfl) rfl ?_
  refine mGo.lload (n := 149) (x := v9) dX6_climb_147 rfl rfl ?_
  refine mGo.iload (n := 151) (x := v16) dX6_climb_149 rfl rfl ?_
  refine mGo.if_eq (tgt := 164) (n := 154) dX6_climb_151 (by decide) rfl (fun hc => ?_) (fun hc => ?_)
  · replace e := mIft hc e
    refine mGo.aload_n (n := 165) (r := v0) dX6_climb_164 rfl rfl ?_
    obtain ⟨x1, e_x1, e⟩ := mBind e
    refine mGo.getR (n := 168) dX6_climb_165 sf_RX6_15 e_x1 rfl ?_
    refine mGo.iload (n := 170) (x := v15) dX6_climb_168 rfl rfl ?_
    obtain ⟨x2, e_x2, e⟩ := mBind e
    refine mGo.lald (n := 171) dX6_climb_170 e_x2 rfl ?_
    refine mGo.lneg (n := 172) dX6_climb_171 rfl ?_
    refine mGo.mk [true, true, true, true, false, true, false, true, false, false, false, true, true, true, true, false, false, false] ?_
    exact g_X6_climb_c172 v0 v1 v2 v3 v5 (s0 + s1) v11 v12 v13 v14 v9 (-x2) h e q
  · replace e := mIff hc e
    refine mGo.aload_n (n := 155) (r := v0) dX6_climb_154 rfl rfl ?_
    obtain ⟨x3, e_x3, e⟩ := mBind e
    refine mGo.getR (n := 158) dX6_climb_155 sf_RX6_15 e_x3 rfl ?_
    refine mGo.iload (n := 160) (x := v15) dX6_climb_158 rfl rfl ?_
    obtain ⟨x4, e_x4, e⟩ := mBind e
    refine mGo.lald (n := 161) dX6_climb_160 e_x4 rfl ?_
    refine mGo.goto (tgt := 172) dX6_climb_161 (by decide) ?_
    refine mGo.mk [true, true, true, true, false, true, false, true, false, false, false, true, true, true, true, false, false, false] ?_
    exact g_X6_climb_c172 v0 v1 v2 v3 v5 (s0 + s1) v11 v12 v13 v14 v9 x4 h e q
def f_X6_climb_b84 (v0 : Option Nat) (v1 : Option Nat) (v2 : Int32) (v3 : Int64) (v5 : Int64) (v7 : Int64) (v9 : Int64) (v11 : Int32) (v12 : Int32) (v13 : Int32) (v14 : Int32) (h : mH) : Option ((Int64 × Int64 × Int32 × Int32 × Int32 × Int32) ⊕ (mH)) :=
  if ((1 : Int32) <<< ((v2 - (1 : Int32)) &&& 31)) ≤ v14 then
    (mPF h v1 6 6 (.int (((2 : Int32) * v11) - (v2 * v2)))).bind fun h1 =>
    (mPF h1 v1 6 7 (.int v12)).bind fun h2 =>
    (mPF h2 v1 6 5 (.int (1 : Int32))).bind fun h3 =>
    some (Sum.inr h3)
  else
    (f_J6_numberOfTrailingZeros_0f7a4 v14).bind fun x4 =>
    (f_X8_inSet (v13 ^^^ ((1 : Int32) <<< (x4 &&& 31))) x4).bind fun x5 =>
    if x5 = 0 then
      (mGR h v0 5 0).bind fun x6 =>
      (mAL h x6 x4).bind fun x7 =>
      f_X6_climb_c144 v0 v1 v2 v3 v5 v9 v11 v12 (v13 ^^^ ((1 : Int32) <<< (x4 &&& 31))) v14 x4 x5 v7 (-x7) h
    else
      (mGR h v0 5 0).bind fun x8 =>
      (mAL h x8 x4).bind fun x9 =>
      f_X6_climb_c144 v0 v1 v2 v3 v5 v9 v11 v12 (v13 ^^^ ((1 : Int32) <<< (x4 &&& 31))) v14 x4 x5 v7 x9 h
set_option maxRecDepth 100000 in
set_option maxHeartbeats 4000000 in
theorem g_X6_climb_b84 {w : mWp} {Q : Option Value → mH → Prop} (v0 : Option Nat) (v1 : Option Nat) (v2 : Int32) (v3 : Int64) (v5 : Int64) (v7 : Int64) (v9 : Int64) (v11 : Int32) (v12 : Int32) (v13 : Int32) (v14 : Int32) (h : mH) {res : (Int64 × Int64 × Int32 × Int32 × Int32 × Int32) ⊕ (mH)} (e : f_X6_climb_b84 v0 v1 v2 v3 v5 v7 v9 v11 v12 v13 v14 h = some res) (q : (Sum.elim (fun x : Int64 × Int64 × Int32 × Int32 × Int32 × Int32 => mGo w kX6_climb 0 0 84 [some (va_rf v0), some (va_rf v1), some (.int v2), some (.long v3), none, some (.long v5), none, some (.long x.1), none, some (.long x.2.1), none, some (.int x.2.2.1), some (.int x.2.2.2.1), some (.int x.2.2.2.2.1), some (.int x.2.2.2.2.2), none, none, none] [] h Q) (fun r : mH => Q none r)) res) : mGo w kX6_climb 0 0 84 [some (va_rf v0), some (va_rf v1), some (.int v2), some (.long v3), none, some (.long v5), none, some (.long v7), none, some (.long v9), none, some (.int v11), some (.int v12), some (.int v13), some (.int v14), none, none, none] [] h Q := by
  unfold f_X6_climb_b84 at e
  refine mGo.iload (n := 86) (x := v14) dX6_climb_84 rfl rfl ?_
  refine mGo.iconst (n := 87) (v := (1 : Int32)) dX6_climb_86 (by decide) rfl ?_
  refine mGo.iload_n (n := 88) (x := v2) dX6_climb_87 rfl rfl ?_
  refine mGo.iconst (n := 89) (v := (1 : Int32)) dX6_climb_88 (by decide) rfl ?_
  refine mGo.isub (n := 90) dX6_climb_89 rfl ?_
  refine mGo.ishl (n := 91) dX6_climb_90 rfl ?_
  refine mGo.icmp_ge (tgt := 226) (n := 94) dX6_climb_91 (by decide) rfl (fun hc => ?_) (fun hc => ?_)
  · replace e := mIft hc e
    refine mGo.aload_n (n := 227) (r := v1) dX6_climb_226 rfl rfl ?_
    refine mGo.iconst (n := 228) (v := (2 : Int32)) dX6_climb_227 (by decide) rfl ?_
    refine mGo.iload (n := 230) (x := v11) dX6_climb_228 rfl rfl ?_
    refine mGo.imul (n := 231) dX6_climb_230 rfl ?_
    refine mGo.iload_n (n := 232) (x := v2) dX6_climb_231 rfl rfl ?_
    refine mGo.iload_n (n := 233) (x := v2) dX6_climb_232 rfl rfl ?_
    refine mGo.imul (n := 234) dX6_climb_233 rfl ?_
    refine mGo.isub (n := 235) dX6_climb_234 rfl ?_
    obtain ⟨h1, e_h1, e⟩ := mBind e
    refine mGo.putI (n := 238) dX6_climb_235 sf_RX6_50 rfl rfl e_h1 rfl ?_
    refine mGo.aload_n (n := 239) (r := v1) dX6_climb_238 rfl rfl ?_
    refine mGo.iload (n := 241) (x := v12) dX6_climb_239 rfl rfl ?_
    obtain ⟨h2, e_h2, e⟩ := mBind e
    refine mGo.putI (n := 244) dX6_climb_241 sf_RX6_53 rfl rfl e_h2 rfl ?_
    refine mGo.aload_n (n := 245) (r := v1) dX6_climb_244 rfl rfl ?_
    refine mGo.iconst (n := 246) (v := (1 : Int32)) dX6_climb_245 (by decide) rfl ?_
    obtain ⟨h3, e_h3, e⟩ := mBind e
    refine mGo.putZ (n := 249) dX6_climb_246 sf_RX6_56 rfl rfl (by decide) e_h3 rfl ?_
    cases e
    exact mGo.vret dX6_climb_249 rfl (Nat.le_of_ble_eq_true rfl) (Nat.le_of_ble_eq_true rfl) q
  · replace e := mIff hc e
    refine mGo.iload (n := 96) (x := v14) dX6_climb_94 rfl rfl ?_
    obtain ⟨x4, e_x4, e⟩ := mBind e
    refine mGo.callS (n := 99) (y := zJ6_numberOfTrailingZeros_0f7a4) (R' := (mRoom (1) 0 0)) (as := [.int v14]) (st := []) dX6_climb_96 sc_RX6_40 rfl (e_J6_numberOfTrailingZeros_0f7a4 v14 h e_x4) (mFit_of rfl (Nat.le_of_ble_eq_true rfl) (by decide) (Nat.le_of_ble_eq_true rfl) (Nat.le_of_ble_eq_true rfl)) (Nat.le_of_ble_eq_true rfl) rfl rfl ?_
    intro _ _ hq
    rw [hq.1, hq.2]
    show mGo w kX6_climb 0 0 99 [some (va_rf v0), some (va_rf v1), some (.int v2), some (.long v3), none, some (.long v5), none, some (.long v7), none, some (.long v9), none, some (.int v11), some (.int v12), some (.int v13), some (.int v14), none, none, none] [.int x4] h Q
    refine mGo.istore (n := 101) (ls' := [some (va_rf v0), some (va_rf v1), some (.int v2), some (.long v3), none, some (.long v5), none, some (.long v7), none, some (.long v9), none, some (.int v11), some (.int v12), some (.int v13), some (.int v14), some (.int x4), none, none]) dX6_climb_99 rfl (Nat.le_of_ble_eq_true rfl) rfl ?_
    refine mGo.iload (n := 103) (x := v13) dX6_climb_101 rfl rfl ?_
    refine mGo.iconst (n := 104) (v := (1 : Int32)) dX6_climb_103 (by decide) rfl ?_
    refine mGo.iload (n := 106) (x := x4) dX6_climb_104 rfl rfl ?_
    refine mGo.ishl (n := 107) dX6_climb_106 rfl ?_
    refine mGo.ixor (n := 108) dX6_climb_107 rfl ?_
    refine mGo.istore (n := 110) (ls' := [some (va_rf v0), some (va_rf v1), some (.int v2), some (.long v3), none, some (.long v5), none, some (.long v7), none, some (.long v9), none, some (.int v11), some (.int v12), some (.int (v13 ^^^ ((1 : Int32) <<< (x4 &&& 31)))), some (.int v14), some (.int x4), none, none]) dX6_climb_108 rfl (Nat.le_of_ble_eq_true rfl) rfl ?_
    refine mGo.iload (n := 112) (x := (v13 ^^^ ((1 : Int32) <<< (x4 &&& 31)))) dX6_climb_110 rfl rfl ?_
    refine mGo.iload (n := 114) (x := x4) dX6_climb_112 rfl rfl ?_
    obtain ⟨x5, e_x5, e⟩ := mBind e
    refine mGo.callS (n := 117) (y := zX8_inSet) (R' := (mRoom (1) 0 0)) (as := [.int (v13 ^^^ ((1 : Int32) <<< (x4 &&& 31))), .int x4]) (st := []) dX6_climb_114 sc_RX6_46 rfl (e_X8_inSet (v13 ^^^ ((1 : Int32) <<< (x4 &&& 31))) x4 h e_x5) (mFit_of rfl (Nat.le_of_ble_eq_true rfl) (by decide) (Nat.le_of_ble_eq_true rfl) (Nat.le_of_ble_eq_true rfl)) (Nat.le_of_ble_eq_true rfl) rfl rfl ?_
    intro _ _ hq
    rw [hq.1, hq.2]
    show mGo w kX6_climb 0 0 117 [some (va_rf v0), some (va_rf v1), some (.int v2), some (.long v3), none, some (.long v5), none, some (.long v7), none, some (.long v9), none, some (.int v11), some (.int v12), some (.int (v13 ^^^ ((1 : Int32) <<< (x4 &&& 31)))), some (.int v14), some (.int x4), none, none] [.int x5] h Q
    refine mGo.istore (n := 119) (ls' := [some (va_rf v0), some (va_rf v1), some (.int v2), some (.long v3), none, some (.long v5), none, some (.long v7), none, some (.long v9), none, some (.int v11), some (.int v12), some (.int (v13 ^^^ ((1 : Int32) <<< (x4 &&& 31)))), some (.int v14), some (.int x4), some (.int x5), none]) dX6_climb_117 rfl (Nat.le_of_ble_eq_true rfl) rfl ?_
    refine mGo.lload (n := 121) (x := v7) dX6_climb_119 rfl rfl ?_
    refine mGo.iload (n := 123) (x := x5) dX6_climb_121 rfl rfl ?_
    refine mGo.if_eq (tgt := 136) (n := 126) dX6_climb_123 (by decide) rfl (fun hc => ?_) (fun hc => ?_)
    · replace e := mIft hc e
      refine mGo.aload_n (n := 137) (r := v0) dX6_climb_136 rfl rfl ?_
      obtain ⟨x6, e_x6, e⟩ := mBind e
      refine mGo.getR (n := 140) dX6_climb_137 sf_RX6_9 e_x6 rfl ?_
      refine mGo.iload (n := 142) (x := x4) dX6_climb_140 rfl rfl ?_
      obtain ⟨x7, e_x7, e⟩ := mBind e
      refine mGo.lald (n := 143) dX6_climb_142 e_x7 rfl ?_
      refine mGo.lneg (n := 144) dX6_climb_143 rfl ?_
      refine mGo.mk [true, true, true, true, false, true, false, false, false, true, false, true, true, true, true, true, true, false] ?_
      exact g_X6_climb_c144 v0 v1 v2 v3 v5 v9 v11 v12 (v13 ^^^ ((1 : Int32) <<< (x4 &&& 31))) v14 x4 x5 v7 (-x7) h e q
    · replace e := mIff hc e
      refine mGo.aload_n (n := 127) (r := v0) dX6_climb_126 rfl rfl ?_
      obtain ⟨x8, e_x8, e⟩ := mBind e
      refine mGo.getR (n := 130) dX6_climb_127 sf_RX6_9 e_x8 rfl ?_
      refine mGo.iload (n := 132) (x := x4) dX6_climb_130 rfl rfl ?_
      obtain ⟨x9, e_x9, e⟩ := mBind e
      refine mGo.lald (n := 133) dX6_climb_132 e_x9 rfl ?_
      refine mGo.goto (tgt := 144) dX6_climb_133 (by decide) ?_
      refine mGo.mk [true, true, true, true, false, true, false, false, false, true, false, true, true, true, true, true, true, false] ?_
      exact g_X6_climb_c144 v0 v1 v2 v3 v5 v9 v11 v12 (v13 ^^^ ((1 : Int32) <<< (x4 &&& 31))) v14 x4 x5 v7 x9 h e q
noncomputable def f_X6_climb_l84 (v0 : Option Nat) (v1 : Option Nat) (v2 : Int32) (v3 : Int64) (v5 : Int64) (v7 : Int64) (v9 : Int64) (v11 : Int32) (v12 : Int32) (v13 : Int32) (v14 : Int32) (h : mH) : Option (mH) :=
  mLoop (fun x : Int64 × Int64 × Int32 × Int32 × Int32 × Int32 => f_X6_climb_b84 v0 v1 v2 v3 v5 x.1 x.2.1 x.2.2.1 x.2.2.2.1 x.2.2.2.2.1 x.2.2.2.2.2 h) (v7, v9, v11, v12, v13, v14)
set_option maxRecDepth 100000 in
set_option maxHeartbeats 4000000 in
theorem g_X6_climb_l84 {w : mWp} {Q : Option Value → mH → Prop} (v0 : Option Nat) (v1 : Option Nat) (v2 : Int32) (v3 : Int64) (v5 : Int64) (v7 : Int64) (v9 : Int64) (v11 : Int32) (v12 : Int32) (v13 : Int32) (v14 : Int32) (h : mH) {res : mH} (e : f_X6_climb_l84 v0 v1 v2 v3 v5 v7 v9 v11 v12 v13 v14 h = some res) (q : (fun r : mH => Q none r) res) : mGo w kX6_climb 0 0 84 [some (va_rf v0), some (va_rf v1), some (.int v2), some (.long v3), none, some (.long v5), none, some (.long v7), none, some (.long v9), none, some (.int v11), some (.int v12), some (.int v13), some (.int v14), none, none, none] [] h Q := by
  unfold f_X6_climb_l84 at e
  refine mLoop_go (x := (v7, v9, v11, v12, v13, v14)) (fun x : Int64 × Int64 × Int32 × Int32 × Int32 × Int32 => mGo w kX6_climb 0 0 84 [some (va_rf v0), some (va_rf v1), some (.int v2), some (.long v3), none, some (.long v5), none, some (.long x.1), none, some (.long x.2.1), none, some (.int x.2.2.1), some (.int x.2.2.2.1), some (.int x.2.2.2.2.1), some (.int x.2.2.2.2.2), none, none, none] [] h Q) (fun r : mH => Q none r) ?_ e q
  rintro ⟨v7, v9, v11, v12, v13, v14⟩ res e q
  exact g_X6_climb_b84 v0 v1 v2 v3 v5 v7 v9 v11 v12 v13 v14 h e q
noncomputable def f_X6_climb (v0 : Option Nat) (v1 : Option Nat) (h : mH) : Option (mH) :=
  (mIs h v0 5).bind fun _ =>
  (mGI h v1 6 0).bind fun x1 =>
  (mGR h v0 5 0).bind fun x2 =>
  (f_X6_laySteps v1 (0 : Int32) x2 h).bind fun x3 =>
  (mGR x3 v0 5 1).bind fun x4 =>
  (f_X6_laySteps v1 (8 : Int32) x4 x3).bind fun x5 =>
  (f_X6_lanes x1).bind fun x6 =>
  (f_X6_lanes (x1 - (8 : Int32))).bind fun x7 =>
  (f_X6_plusCounts v1 (0 : Int32) x5).bind fun x8 =>
  (f_X6_plusCounts v1 (8 : Int32) x5).bind fun x9 =>
  (f_X6_greaterSides x8 ((Int32.toInt64 x1) * x6)).bind fun x10 =>
  (f_X6_greaterSides x9 ((Int32.toInt64 x1) * x7)).bind fun x11 =>
  f_X6_climb_l84 v0 v1 x1 ((Int32.toInt64 x1) * x6) ((Int32.toInt64 x1) * x7) x8 x9 (x10 + x11) (0 : Int32) (0 : Int32) (1 : Int32) x5
set_option maxRecDepth 100000 in
set_option maxHeartbeats 4000000 in
theorem g_X6_climb {w : mWp} {Q : Option Value → mH → Prop} (v0 : Option Nat) (v1 : Option Nat) (h : mH) {res : mH} (e : f_X6_climb v0 v1 h = some res) (q : (fun r : mH => Q none r) res) : mGo w kX6_climb 0 0 0 [some (va_rf v0), some (va_rf v1), none, none, none, none, none, none, none, none, none, none, none, none, none, none, none, none] [] h Q := by
  unfold f_X6_climb at e
  obtain ⟨_, _, e⟩ := mBind e
  refine mGo.aload_n (n := 1) (r := v1) dX6_climb_0 rfl rfl ?_
  obtain ⟨x1, e_x1, e⟩ := mBind e
  refine mGo.getI (n := 4) dX6_climb_1 sf_RX6_18 e_x1 rfl ?_
  refine mGo.istore_n (n := 5) (ls' := [some (va_rf v0), some (va_rf v1), some (.int x1), none, none, none, none, none, none, none, none, none, none, none, none, none, none, none]) dX6_climb_4 ((mSt_set (fun u _ hu => by cases hu; exact mRfc _)).trans rfl) (Nat.le_of_ble_eq_true rfl) rfl ?_
  refine mGo.aload_n (n := 6) (r := v1) dX6_climb_5 rfl rfl ?_
  refine mGo.iconst (n := 7) (v := (0 : Int32)) dX6_climb_6 (by decide) rfl ?_
  refine mGo.aload_n (n := 8) (r := v0) dX6_climb_7 rfl rfl ?_
  obtain ⟨x2, e_x2, e⟩ := mBind e
  refine mGo.getR (n := 11) dX6_climb_8 sf_RX6_9 e_x2 rfl ?_
  obtain ⟨x3, e_x3, e⟩ := mBind e
  refine mGo.callS (n := 14) (y := zX6_laySteps) (R' := (mRoom (3) 0 0)) (as := [va_rf v1, .int (0 : Int32), va_rf x2]) (st := []) dX6_climb_11 sc_RX6_24 rfl (e_X6_laySteps v1 (0 : Int32) x2 h e_x3) (mFit_of rfl (Nat.le_of_ble_eq_true rfl) (by decide) (Nat.le_of_ble_eq_true rfl) (Nat.le_of_ble_eq_true rfl)) (Nat.le_of_ble_eq_true rfl) rfl rfl ?_
  intro _ _ hq
  rw [hq.1, hq.2]
  show mGo w kX6_climb 0 0 14 [some (va_rf v0), some (va_rf v1), some (.int x1), none, none, none, none, none, none, none, none, none, none, none, none, none, none, none] [] x3 Q
  refine mGo.aload_n (n := 15) (r := v1) dX6_climb_14 rfl rfl ?_
  refine mGo.bipush (n := 17) (v := (8 : Int32)) dX6_climb_15 (by decide) rfl ?_
  refine mGo.aload_n (n := 18) (r := v0) dX6_climb_17 rfl rfl ?_
  obtain ⟨x4, e_x4, e⟩ := mBind e
  refine mGo.getR (n := 21) dX6_climb_18 sf_RX6_15 e_x4 rfl ?_
  obtain ⟨x5, e_x5, e⟩ := mBind e
  refine mGo.callS (n := 24) (y := zX6_laySteps) (R' := (mRoom (3) 0 0)) (as := [va_rf v1, .int (8 : Int32), va_rf x4]) (st := []) dX6_climb_21 sc_RX6_24 rfl (e_X6_laySteps v1 (8 : Int32) x4 x3 e_x5) (mFit_of rfl (Nat.le_of_ble_eq_true rfl) (by decide) (Nat.le_of_ble_eq_true rfl) (Nat.le_of_ble_eq_true rfl)) (Nat.le_of_ble_eq_true rfl) rfl rfl ?_
  intro _ _ hq
  rw [hq.1, hq.2]
  show mGo w kX6_climb 0 0 24 [some (va_rf v0), some (va_rf v1), some (.int x1), none, none, none, none, none, none, none, none, none, none, none, none, none, none, none] [] x5 Q
  refine mGo.iload_n (n := 25) (x := x1) dX6_climb_24 rfl rfl ?_
  refine mGo.i2l (n := 26) dX6_climb_25 rfl ?_
  refine mGo.iload_n (n := 27) (x := x1) dX6_climb_26 rfl rfl ?_
  obtain ⟨x6, e_x6, e⟩ := mBind e
  refine mGo.callS (n := 30) (y := zX6_lanes) (R' := (mRoom (1) 0 0)) (as := [.int x1]) (st := [.long (Int32.toInt64 x1)]) dX6_climb_27 sc_RX6_28 rfl (e_X6_lanes x1 x5 e_x6) (mFit_of rfl (Nat.le_of_ble_eq_true rfl) (by decide) (Nat.le_of_ble_eq_true rfl) (Nat.le_of_ble_eq_true rfl)) (Nat.le_of_ble_eq_true rfl) rfl rfl ?_
  intro _ _ hq
  rw [hq.1, hq.2]
  show mGo w kX6_climb 0 0 30 [some (va_rf v0), some (va_rf v1), some (.int x1), none, none, none, none, none, none, none, none, none, none, none, none, none, none, none] [.long x6, .long (Int32.toInt64 x1)] x5 Q
  refine mGo.lmul (n := 31) dX6_climb_30 rfl ?_
  refine mGo.lstore_n (n := 32) (ls' := [some (va_rf v0), some (va_rf v1), some (.int x1), some (.long ((Int32.toInt64 x1) * x6)), none, none, none, none, none, none, none, none, none, none, none, none, none, none]) dX6_climb_31 rfl (Nat.le_of_ble_eq_true rfl) rfl ?_
  refine mGo.iload_n (n := 33) (x := x1) dX6_climb_32 rfl rfl ?_
  refine mGo.i2l (n := 34) dX6_climb_33 rfl ?_
  refine mGo.iload_n (n := 35) (x := x1) dX6_climb_34 rfl rfl ?_
  refine mGo.bipush (n := 37) (v := (8 : Int32)) dX6_climb_35 (by decide) rfl ?_
  refine mGo.isub (n := 38) dX6_climb_37 rfl ?_
  obtain ⟨x7, e_x7, e⟩ := mBind e
  refine mGo.callS (n := 41) (y := zX6_lanes) (R' := (mRoom (1) 0 0)) (as := [.int (x1 - (8 : Int32))]) (st := [.long (Int32.toInt64 x1)]) dX6_climb_38 sc_RX6_28 rfl (e_X6_lanes (x1 - (8 : Int32)) x5 e_x7) (mFit_of rfl (Nat.le_of_ble_eq_true rfl) (by decide) (Nat.le_of_ble_eq_true rfl) (Nat.le_of_ble_eq_true rfl)) (Nat.le_of_ble_eq_true rfl) rfl rfl ?_
  intro _ _ hq
  rw [hq.1, hq.2]
  show mGo w kX6_climb 0 0 41 [some (va_rf v0), some (va_rf v1), some (.int x1), some (.long ((Int32.toInt64 x1) * x6)), none, none, none, none, none, none, none, none, none, none, none, none, none, none] [.long x7, .long (Int32.toInt64 x1)] x5 Q
  refine mGo.lmul (n := 42) dX6_climb_41 rfl ?_
  refine mGo.lstore (n := 44) (ls' := [some (va_rf v0), some (va_rf v1), some (.int x1), some (.long ((Int32.toInt64 x1) * x6)), none, some (.long ((Int32.toInt64 x1) * x7)), none, none, none, none, none, none, none, none, none, none, none, none]) dX6_climb_42 rfl (Nat.le_of_ble_eq_true rfl) rfl ?_
  refine mGo.aload_n (n := 45) (r := v1) dX6_climb_44 rfl rfl ?_
  refine mGo.iconst (n := 46) (v := (0 : Int32)) dX6_climb_45 (by decide) rfl ?_
  obtain ⟨x8, e_x8, e⟩ := mBind e
  refine mGo.callS (n := 49) (y := zX6_plusCounts) (R' := (mRoom (2) 0 0)) (as := [va_rf v1, .int (0 : Int32)]) (st := []) dX6_climb_46 sc_RX6_32 rfl (e_X6_plusCounts v1 (0 : Int32) x5 e_x8) (mFit_of rfl (Nat.le_of_ble_eq_true rfl) (by decide) (Nat.le_of_ble_eq_true rfl) (Nat.le_of_ble_eq_true rfl)) (Nat.le_of_ble_eq_true rfl) rfl rfl ?_
  intro _ _ hq
  rw [hq.1, hq.2]
  show mGo w kX6_climb 0 0 49 [some (va_rf v0), some (va_rf v1), some (.int x1), some (.long ((Int32.toInt64 x1) * x6)), none, some (.long ((Int32.toInt64 x1) * x7)), none, none, none, none, none, none, none, none, none, none, none, none] [.long x8] x5 Q
  refine mGo.lstore (n := 51) (ls' := [some (va_rf v0), some (va_rf v1), some (.int x1), some (.long ((Int32.toInt64 x1) * x6)), none, some (.long ((Int32.toInt64 x1) * x7)), none, some (.long x8), none, none, none, none, none, none, none, none, none, none]) dX6_climb_49 rfl (Nat.le_of_ble_eq_true rfl) rfl ?_
  refine mGo.aload_n (n := 52) (r := v1) dX6_climb_51 rfl rfl ?_
  refine mGo.bipush (n := 54) (v := (8 : Int32)) dX6_climb_52 (by decide) rfl ?_
  obtain ⟨x9, e_x9, e⟩ := mBind e
  refine mGo.callS (n := 57) (y := zX6_plusCounts) (R' := (mRoom (2) 0 0)) (as := [va_rf v1, .int (8 : Int32)]) (st := []) dX6_climb_54 sc_RX6_32 rfl (e_X6_plusCounts v1 (8 : Int32) x5 e_x9) (mFit_of rfl (Nat.le_of_ble_eq_true rfl) (by decide) (Nat.le_of_ble_eq_true rfl) (Nat.le_of_ble_eq_true rfl)) (Nat.le_of_ble_eq_true rfl) rfl rfl ?_
  intro _ _ hq
  rw [hq.1, hq.2]
  show mGo w kX6_climb 0 0 57 [some (va_rf v0), some (va_rf v1), some (.int x1), some (.long ((Int32.toInt64 x1) * x6)), none, some (.long ((Int32.toInt64 x1) * x7)), none, some (.long x8), none, none, none, none, none, none, none, none, none, none] [.long x9] x5 Q
  refine mGo.lstore (n := 59) (ls' := [some (va_rf v0), some (va_rf v1), some (.int x1), some (.long ((Int32.toInt64 x1) * x6)), none, some (.long ((Int32.toInt64 x1) * x7)), none, some (.long x8), none, some (.long x9), none, none, none, none, none, none, none, none]) dX6_climb_57 rfl (Nat.le_of_ble_eq_true rfl) rfl ?_
  refine mGo.lload (n := 61) (x := x8) dX6_climb_59 rfl rfl ?_
  refine mGo.lload_n (n := 62) (x := ((Int32.toInt64 x1) * x6)) dX6_climb_61 rfl rfl ?_
  obtain ⟨x10, e_x10, e⟩ := mBind e
  refine mGo.callS (n := 65) (y := zX6_greaterSides) (R' := (mRoom (1) 0 0)) (as := [.long x8, .long ((Int32.toInt64 x1) * x6)]) (st := []) dX6_climb_62 sc_RX6_36 rfl (e_X6_greaterSides x8 ((Int32.toInt64 x1) * x6) x5 e_x10) (mFit_of rfl (Nat.le_of_ble_eq_true rfl) (by decide) (Nat.le_of_ble_eq_true rfl) (Nat.le_of_ble_eq_true rfl)) (Nat.le_of_ble_eq_true rfl) rfl rfl ?_
  intro _ _ hq
  rw [hq.1, hq.2]
  show mGo w kX6_climb 0 0 65 [some (va_rf v0), some (va_rf v1), some (.int x1), some (.long ((Int32.toInt64 x1) * x6)), none, some (.long ((Int32.toInt64 x1) * x7)), none, some (.long x8), none, some (.long x9), none, none, none, none, none, none, none, none] [.int x10] x5 Q
  refine mGo.lload (n := 67) (x := x9) dX6_climb_65 rfl rfl ?_
  refine mGo.lload (n := 69) (x := ((Int32.toInt64 x1) * x7)) dX6_climb_67 rfl rfl ?_
  obtain ⟨x11, e_x11, e⟩ := mBind e
  refine mGo.callS (n := 72) (y := zX6_greaterSides) (R' := (mRoom (1) 0 0)) (as := [.long x9, .long ((Int32.toInt64 x1) * x7)]) (st := [.int x10]) dX6_climb_69 sc_RX6_36 rfl (e_X6_greaterSides x9 ((Int32.toInt64 x1) * x7) x5 e_x11) (mFit_of rfl (Nat.le_of_ble_eq_true rfl) (by decide) (Nat.le_of_ble_eq_true rfl) (Nat.le_of_ble_eq_true rfl)) (Nat.le_of_ble_eq_true rfl) rfl rfl ?_
  intro _ _ hq
  rw [hq.1, hq.2]
  show mGo w kX6_climb 0 0 72 [some (va_rf v0), some (va_rf v1), some (.int x1), some (.long ((Int32.toInt64 x1) * x6)), none, some (.long ((Int32.toInt64 x1) * x7)), none, some (.long x8), none, some (.long x9), none, none, none, none, none, none, none, none] [.int x11, .int x10] x5 Q
  refine mGo.iadd (n := 73) dX6_climb_72 rfl ?_
  refine mGo.istore (n := 75) (ls' := [some (va_rf v0), some (va_rf v1), some (.int x1), some (.long ((Int32.toInt64 x1) * x6)), none, some (.long ((Int32.toInt64 x1) * x7)), none, some (.long x8), none, some (.long x9), none, some (.int (x10 + x11)), none, none, none, none, none, none]) dX6_climb_73 rfl (Nat.le_of_ble_eq_true rfl) rfl ?_
  refine mGo.iconst (n := 76) (v := (0 : Int32)) dX6_climb_75 (by decide) rfl ?_
  refine mGo.istore (n := 78) (ls' := [some (va_rf v0), some (va_rf v1), some (.int x1), some (.long ((Int32.toInt64 x1) * x6)), none, some (.long ((Int32.toInt64 x1) * x7)), none, some (.long x8), none, some (.long x9), none, some (.int (x10 + x11)), some (.int (0 : Int32)), none, none, none, none, none]) dX6_climb_76 rfl (Nat.le_of_ble_eq_true rfl) rfl ?_
  refine mGo.iconst (n := 79) (v := (0 : Int32)) dX6_climb_78 (by decide) rfl ?_
  refine mGo.istore (n := 81) (ls' := [some (va_rf v0), some (va_rf v1), some (.int x1), some (.long ((Int32.toInt64 x1) * x6)), none, some (.long ((Int32.toInt64 x1) * x7)), none, some (.long x8), none, some (.long x9), none, some (.int (x10 + x11)), some (.int (0 : Int32)), some (.int (0 : Int32)), none, none, none, none]) dX6_climb_79 rfl (Nat.le_of_ble_eq_true rfl) rfl ?_
  refine mGo.iconst (n := 82) (v := (1 : Int32)) dX6_climb_81 (by decide) rfl ?_
  refine mGo.istore (n := 84) (ls' := [some (va_rf v0), some (va_rf v1), some (.int x1), some (.long ((Int32.toInt64 x1) * x6)), none, some (.long ((Int32.toInt64 x1) * x7)), none, some (.long x8), none, some (.long x9), none, some (.int (x10 + x11)), some (.int (0 : Int32)), some (.int (0 : Int32)), some (.int (1 : Int32)), none, none, none]) dX6_climb_82 rfl (Nat.le_of_ble_eq_true rfl) rfl ?_
  refine mGo.mk [true, true, true, true, false, true, false, true, false, true, false, true, true, true, true, false, false, false] ?_
  exact g_X6_climb_l84 v0 v1 x1 ((Int32.toInt64 x1) * x6) ((Int32.toInt64 x1) * x7) x8 x9 (x10 + x11) (0 : Int32) (0 : Int32) (1 : Int32) x5 e q
theorem e_X6_climb {w : mWp} (v0 : Option Nat) (v1 : Option Nat) (h : mH) {res : mH} (e : f_X6_climb v0 v1 h = some res) : mEx w zX6_climb (mRoom 4 0 0) [va_rf v0, va_rf v1] h (fun r h2 => r = none ∧ h2 = res) := by
  refine mEx.of (by decide +kernel) (show mEnt [va_rf v0, va_rf v1] 18 = [some (va_rf v0), some (va_rf v1), none, none, none, none, none, none, none, none, none, none, none, none, none, none, none, none] by rw [mEnt_r, mEnt_r] <;> rfl) (by simp only [List.map_cons, List.map_nil, mRfc, mCi, mCj, List.sum_cons, List.sum_nil]; exact Nat.le_of_ble_eq_true rfl) ?_
  refine g_X6_climb v0 v1 h e ?_
  exact ⟨rfl, rfl⟩
theorem s_X6_climb (v0 : Option Nat) (v1 : Option Nat) (h : mH) {res : mH} (e : f_X6_climb v0 v1 h = some res) : mIs h v0 5 = some () := by
  unfold f_X6_climb at e
  obtain ⟨u, e1, _⟩ := mBind e
  cases u
  exact e1
-- X7_init
def kX7_init : mK := (cX7_init, RX7, 1, none, "<init>", mRoom 2 3 84)
def zX7_init : mY := (yX7_init, cX7_init, 1, none)
set_option maxRecDepth 100000 in
theorem sf_RX7_15 : mFld RX7 15 6 2 := ⟨by decide, by decide, Or.inl (mT_at 122 (by decide +kernel) rfl)⟩
set_option maxRecDepth 100000 in
theorem sf_RX7_18 : mFld RX7 18 6 3 := ⟨by decide, by decide, Or.inl (mT_at 124 (by decide +kernel) rfl)⟩
def f_X7_init (v0 : Nat) (h : mH) : Option (mH) :=
  (mIs h (some v0) 6).bind fun _ =>
  (some (mNew h (.inl (28, .inl (fun _ => 0))))).bind fun h1 =>
  (mPF h1 (some v0) 6 1 (va_rf (some (h.1 + 1)))).bind fun h2 =>
  (some (mNew h2 (.inl (28, .inl (fun _ => 0))))).bind fun h3 =>
  (mPF h3 (some v0) 6 2 (va_rf (some (h2.1 + 1)))).bind fun h4 =>
  (some (mNew h4 (.inl (28, .inl (fun _ => 0))))).bind fun h5 =>
  (mPF h5 (some v0) 6 3 (va_rf (some (h4.1 + 1)))).bind fun h6 =>
  some h6
set_option maxRecDepth 100000 in
set_option maxHeartbeats 4000000 in
theorem g_X7_init {w : mWp} {Q : Option Value → mH → Prop} (v0 : Nat) (h : mH) {res : mH} (e : f_X7_init v0 h = some res) (q : (fun r : mH => Q none r) res) : mGo w kX7_init 0 0 0 [some (va_rf (some v0))] [] h Q := by
  unfold f_X7_init at e
  obtain ⟨_, _, e⟩ := mBind e
  refine mGo.aload_n (n := 1) (r := (some v0)) dX7_init_0 rfl rfl ?_
  refine mGo.objI (n := 4) dX7_init_1 (mT_at 110 (by decide +kernel) rfl) (mT_at 102 (by decide +kernel) rfl) (mT_at 103 (by decide +kernel) rfl) (Nat.le_of_ble_eq_true rfl) (Nat.le_of_ble_eq_true rfl) rfl ?_
  refine mGo.aload_n (n := 5) (r := (some v0)) dX7_init_4 rfl rfl ?_
  refine mGo.bipush (n := 7) (v := (28 : Int32)) dX7_init_5 (by decide) rfl ?_
  obtain ⟨h1, e_h1, e⟩ := mBind e
  refine mGo.newI' (n := 9) (N := 28) dX7_init_7 (by decide) (by decide) (by decide) (mT_at 152 (by decide +kernel) rfl) (Nat.le_of_ble_eq_true rfl) (Nat.le_of_ble_eq_true rfl) rfl e_h1 ?_
  show mGo w kX7_init 1 28 9 [some (va_rf (some v0))] [va_rf (some (h.1 + 1)), va_rf (some v0)] h1 Q
  obtain ⟨h2, e_h2, e⟩ := mBind e
  refine mGo.putR (n := 12) dX7_init_9 sf_RX7_9 (Or.inr ⟨rfl, rfl, rfl, mT_at 117 (by decide +kernel) rfl⟩) rfl e_h2 rfl ?_
  refine mGo.aload_n (n := 13) (r := (some v0)) dX7_init_12 rfl rfl ?_
  refine mGo.bipush (n := 15) (v := (28 : Int32)) dX7_init_13 (by decide) rfl ?_
  obtain ⟨h3, e_h3, e⟩ := mBind e
  refine mGo.newI' (n := 17) (N := 28) dX7_init_15 (by decide) (by decide) (by decide) (mT_at 152 (by decide +kernel) rfl) (Nat.le_of_ble_eq_true rfl) (Nat.le_of_ble_eq_true rfl) rfl e_h3 ?_
  show mGo w kX7_init 2 56 17 [some (va_rf (some v0))] [va_rf (some (h2.1 + 1)), va_rf (some v0)] h3 Q
  obtain ⟨h4, e_h4, e⟩ := mBind e
  refine mGo.putR (n := 20) dX7_init_17 sf_RX7_15 (Or.inl rfl) rfl e_h4 rfl ?_
  refine mGo.aload_n (n := 21) (r := (some v0)) dX7_init_20 rfl rfl ?_
  refine mGo.bipush (n := 23) (v := (28 : Int32)) dX7_init_21 (by decide) rfl ?_
  obtain ⟨h5, e_h5, e⟩ := mBind e
  refine mGo.newI' (n := 25) (N := 28) dX7_init_23 (by decide) (by decide) (by decide) (mT_at 152 (by decide +kernel) rfl) (Nat.le_of_ble_eq_true rfl) (Nat.le_of_ble_eq_true rfl) rfl e_h5 ?_
  show mGo w kX7_init 3 84 25 [some (va_rf (some v0))] [va_rf (some (h4.1 + 1)), va_rf (some v0)] h5 Q
  obtain ⟨h6, e_h6, e⟩ := mBind e
  refine mGo.putR (n := 28) dX7_init_25 sf_RX7_18 (Or.inl rfl) rfl e_h6 rfl ?_
  cases e
  exact mGo.vret dX7_init_28 rfl (Nat.le_of_ble_eq_true rfl) (Nat.le_of_ble_eq_true rfl) q
theorem e_X7_init {w : mWp} (v0 : Nat) (h : mH) {res : mH} (e : f_X7_init v0 h = some res) : mEx w zX7_init (mRoom 2 3 84) [va_rf (some v0)] h (fun r h2 => r = none ∧ h2 = res) := by
  refine mEx.of (by decide +kernel) (show mEnt [va_rf (some v0)] 1 = [some (va_rf (some v0))] by rw [mEnt_r] <;> rfl) (by simp only [List.map_cons, List.map_nil, mRfc, mCi, mCj, List.sum_cons, List.sum_nil]; exact Nat.le_of_ble_eq_true rfl) ?_
  refine g_X7_init v0 h e ?_
  exact ⟨rfl, rfl⟩
theorem s_X7_init (v0 : Nat) (h : mH) {res : mH} (e : f_X7_init v0 h = some res) : mIs h (some v0) 6 = some () := by
  unfold f_X7_init at e
  obtain ⟨u, e1, _⟩ := mBind e
  cases u
  exact e1
