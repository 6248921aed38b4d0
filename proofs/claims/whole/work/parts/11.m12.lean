-- X9_isDesign
def kX9_isDesign : mK := (cX9_isDesign, RX9, 4, some (.boolean), "isDesign", mRoom 4 0 0)
def zX9_isDesign : mY := (yX9_isDesign, cX9_isDesign, 4, some (.boolean))
def f_X9_isDesign (v0 : Option Nat) (v1 : Int32) (v2 : Int32) (v3 : Int32) (h : mH) : Option (Int32) :=
  (mIs h v0 8).bind fun _ =>
  (f_X9_isLine v0 v1 v2 h).bind fun x1 =>
  if x1 = 0 then
    some (0 : Int32)
  else
    (f_X9_isLine v0 v1 v3 h).bind fun x2 =>
    if x2 = 0 then
      some (0 : Int32)
    else
      (mGR h v0 8 1).bind fun x3 =>
      (mAI h x3 v1).bind fun x4 =>
      if x4 < (4 : Int32) then
        some (0 : Int32)
      else
        some (1 : Int32)
set_option maxRecDepth 100000 in
set_option maxHeartbeats 4000000 in
theorem g_X9_isDesign {w : mWp} {Q : Option Value → mH → Prop} (v0 : Option Nat) (v1 : Int32) (v2 : Int32) (v3 : Int32) (h : mH) {res : Int32} (e : f_X9_isDesign v0 v1 v2 v3 h = some res) (q : (fun r : Int32 => Q (some (.int r)) h) res) : mGo w kX9_isDesign 0 0 0 [some (va_rf v0), some (.int v1), some (.int v2), some (.int v3)] [] h Q := by
  unfold f_X9_isDesign at e
  obtain ⟨_, _, e⟩ := mBind e
  refine mGo.aload_n (n := 1) (r := v0) dX9_isDesign_0 rfl rfl ?_
  refine mGo.iload_n (n := 2) (x := v1) dX9_isDesign_1 rfl rfl ?_
  refine mGo.iload_n (n := 3) (x := v2) dX9_isDesign_2 rfl rfl ?_
  obtain ⟨x1, e_x1, e⟩ := mBind e
  refine mGo.callV (n := 6) (y := zX9_isLine) (R' := (mRoom (3) 0 0)) (as := [.int v1, .int v2]) (st := []) (r0 := v0) dX9_isDesign_3 sc_RX9_182 rfl (s_X9_isLine v0 v1 v2 h e_x1) (e_X9_isLine v0 v1 v2 h e_x1) (mFit_of rfl (Nat.le_of_ble_eq_true rfl) (by decide) (Nat.le_of_ble_eq_true rfl) (Nat.le_of_ble_eq_true rfl)) (Nat.le_of_ble_eq_true rfl) rfl rfl ?_
  intro _ _ hq
  rw [hq.1, hq.2]
  show mGo w kX9_isDesign 0 0 6 [some (va_rf v0), some (.int v1), some (.int v2), some (.int v3)] [.int x1] h Q
  refine mGo.if_eq (tgt := 32) (n := 9) dX9_isDesign_6 (by decide) rfl (fun hc => ?_) (fun hc => ?_)
  · replace e := mIft hc e
    refine mGo.iconst (n := 33) (v := (0 : Int32)) dX9_isDesign_32 (by decide) rfl ?_
    cases e
    exact mGo.zret dX9_isDesign_33 rfl (by decide) (Nat.le_of_ble_eq_true rfl) (Nat.le_of_ble_eq_true rfl) q
  · replace e := mIff hc e
    refine mGo.aload_n (n := 10) (r := v0) dX9_isDesign_9 rfl rfl ?_
    refine mGo.iload_n (n := 11) (x := v1) dX9_isDesign_10 rfl rfl ?_
    refine mGo.iload_n (n := 12) (x := v3) dX9_isDesign_11 rfl rfl ?_
    obtain ⟨x2, e_x2, e⟩ := mBind e
    refine mGo.callV (n := 15) (y := zX9_isLine) (R' := (mRoom (3) 0 0)) (as := [.int v1, .int v3]) (st := []) (r0 := v0) dX9_isDesign_12 sc_RX9_182 rfl (s_X9_isLine v0 v1 v3 h e_x2) (e_X9_isLine v0 v1 v3 h e_x2) (mFit_of rfl (Nat.le_of_ble_eq_true rfl) (by decide) (Nat.le_of_ble_eq_true rfl) (Nat.le_of_ble_eq_true rfl)) (Nat.le_of_ble_eq_true rfl) rfl rfl ?_
    intro _ _ hq
    rw [hq.1, hq.2]
    show mGo w kX9_isDesign 0 0 15 [some (va_rf v0), some (.int v1), some (.int v2), some (.int v3)] [.int x2] h Q
    refine mGo.if_eq (tgt := 32) (n := 18) dX9_isDesign_15 (by decide) rfl (fun hc => ?_) (fun hc => ?_)
    · replace e := mIft hc e
      refine mGo.iconst (n := 33) (v := (0 : Int32)) dX9_isDesign_32 (by decide) rfl ?_
      cases e
      exact mGo.zret dX9_isDesign_33 rfl (by decide) (Nat.le_of_ble_eq_true rfl) (Nat.le_of_ble_eq_true rfl) q
    · replace e := mIff hc e
      refine mGo.aload_n (n := 19) (r := v0) dX9_isDesign_18 rfl rfl ?_
      obtain ⟨x3, e_x3, e⟩ := mBind e
      refine mGo.getR (n := 22) dX9_isDesign_19 sf_RX9_13 e_x3 rfl ?_
      refine mGo.iload_n (n := 23) (x := v1) dX9_isDesign_22 rfl rfl ?_
      obtain ⟨x4, e_x4, e⟩ := mBind e
      refine mGo.iald (n := 24) dX9_isDesign_23 e_x4 rfl ?_
      refine mGo.iconst (n := 25) (v := (4 : Int32)) dX9_isDesign_24 (by decide) rfl ?_
      refine mGo.icmp_lt (tgt := 32) (n := 28) dX9_isDesign_25 (by decide) rfl (fun hc => ?_) (fun hc => ?_)
      · replace e := mIft hc e
        refine mGo.iconst (n := 33) (v := (0 : Int32)) dX9_isDesign_32 (by decide) rfl ?_
        cases e
        exact mGo.zret dX9_isDesign_33 rfl (by decide) (Nat.le_of_ble_eq_true rfl) (Nat.le_of_ble_eq_true rfl) q
      · replace e := mIff hc e
        refine mGo.iconst (n := 29) (v := (1 : Int32)) dX9_isDesign_28 (by decide) rfl ?_
        refine mGo.goto (tgt := 33) dX9_isDesign_29 (by decide) ?_
        cases e
        exact mGo.zret dX9_isDesign_33 rfl (by decide) (Nat.le_of_ble_eq_true rfl) (Nat.le_of_ble_eq_true rfl) q
theorem e_X9_isDesign {w : mWp} (v0 : Option Nat) (v1 : Int32) (v2 : Int32) (v3 : Int32) (h : mH) {res : Int32} (e : f_X9_isDesign v0 v1 v2 v3 h = some res) : mEx w zX9_isDesign (mRoom 4 0 0) [va_rf v0, .int v1, .int v2, .int v3] h (fun r h2 => r = some (.int res) ∧ h2 = h) := by
  refine mEx.of (by decide +kernel) (show mEnt [va_rf v0, .int v1, .int v2, .int v3] 4 = [some (va_rf v0), some (.int v1), some (.int v2), some (.int v3)] by rw [mEnt_r, mEnt_i, mEnt_i, mEnt_i] <;> rfl) (by simp only [List.map_cons, List.map_nil, mRfc, mCi, mCj, List.sum_cons, List.sum_nil]; exact Nat.le_of_ble_eq_true rfl) ?_
  refine g_X9_isDesign v0 v1 v2 v3 h e ?_
  exact ⟨rfl, rfl⟩
theorem s_X9_isDesign (v0 : Option Nat) (v1 : Int32) (v2 : Int32) (v3 : Int32) (h : mH) {res : Int32} (e : f_X9_isDesign v0 v1 v2 v3 h = some res) : mIs h v0 8 = some () := by
  unfold f_X9_isDesign at e
  obtain ⟨u, e1, _⟩ := mBind e
  cases u
  exact e1
-- X9_blockFor
def kX9_blockFor : mK := (cX9_blockFor, RX9, 6, some (.int), "blockFor", mRoom 2 0 0)
def zX9_blockFor : mY := (yX9_blockFor, cX9_blockFor, 6, some (.int))
def f_X9_blockFor_c40 (v0 : Option Nat) (v1 : Int32) (v3 : Int32) (v5 : Int32) (h : mH) : Option (Int32) :=
  (mGR h v0 8 1).bind fun x1 =>
  (mAI h x1 v1).bind fun x2 =>
  some (((((1 : Int32) <<< (x2 &&& 31)) - (1 : Int32)) &&& (v5 ^^^ (-1 : Int32))) &&& (((1 : Int32) <<< (v3 &&& 31)) ^^^ (-1 : Int32)))
set_option maxRecDepth 100000 in
set_option maxHeartbeats 4000000 in
theorem g_X9_blockFor_c40 {w : mWp} {Q : Option Value → mH → Prop} (v0 : Option Nat) (v1 : Int32) (v3 : Int32) (v5 : Int32) (h : mH) {res : Int32} (e : f_X9_blockFor_c40 v0 v1 v3 v5 h = some res) (q : (fun r : Int32 => Q (some (.int r)) h) res) : mGo w kX9_blockFor 0 0 40 [some (va_rf v0), some (.int v1), none, some (.int v3), none, some (.int v5)] [] h Q := by
  unfold f_X9_blockFor_c40 at e
  refine mGo.iconst (n := 41) (v := (1 : Int32)) dX9_blockFor_40 (by decide) rfl ?_
  refine mGo.aload_n (n := 42) (r := v0) dX9_blockFor_41 rfl rfl ?_
  obtain ⟨x1, e_x1, e⟩ := mBind e
  refine mGo.getR (n := 45) dX9_blockFor_42 sf_RX9_13 e_x1 rfl ?_
  refine mGo.iload_n (n := 46) (x := v1) dX9_blockFor_45 rfl rfl ?_
  obtain ⟨x2, e_x2, e⟩ := mBind e
  refine mGo.iald (n := 47) dX9_blockFor_46 e_x2 rfl ?_
  refine mGo.ishl (n := 48) dX9_blockFor_47 rfl ?_
  refine mGo.iconst (n := 49) (v := (1 : Int32)) dX9_blockFor_48 (by decide) rfl ?_
  refine mGo.isub (n := 50) dX9_blockFor_49 rfl ?_
  refine mGo.iload (n := 52) (x := v5) dX9_blockFor_50 rfl rfl ?_
  refine mGo.iconst (n := 53) (v := (-1 : Int32)) dX9_blockFor_52 (by decide) rfl ?_
  refine mGo.ixor (n := 54) dX9_blockFor_53 rfl ?_
  refine mGo.iand (n := 55) dX9_blockFor_54 rfl ?_
  refine mGo.iconst (n := 56) (v := (1 : Int32)) dX9_blockFor_55 (by decide) rfl ?_
  refine mGo.iload_n (n := 57) (x := v3) dX9_blockFor_56 rfl rfl ?_
  refine mGo.ishl (n := 58) dX9_blockFor_57 rfl ?_
  refine mGo.iconst (n := 59) (v := (-1 : Int32)) dX9_blockFor_58 (by decide) rfl ?_
  refine mGo.ixor (n := 60) dX9_blockFor_59 rfl ?_
  refine mGo.iand (n := 61) dX9_blockFor_60 rfl ?_
  cases e
  exact mGo.iret dX9_blockFor_61 rfl (Nat.le_of_ble_eq_true rfl) (Nat.le_of_ble_eq_true rfl) q
def f_X9_blockFor (v0 : Option Nat) (v1 : Int32) (v2 : Int32) (v3 : Int32) (v4 : Int32) (h : mH) : Option (Int32) :=
  (mIs h v0 8).bind fun _ =>
  (f_X9_rowOf v0 v1 v4 h).bind fun x1 =>
  (f_X9_rowOf v0 v1 v2 h).bind fun x2 =>
  (f_X9_has (x1 ^^^ x2) v3).bind fun x3 =>
  if x3 = 0 then
    f_X9_blockFor_c40 v0 v1 v3 (x1 ^^^ x2) h
  else
    (mGR h v0 8 1).bind fun x4 =>
    (mAI h x4 v1).bind fun x5 =>
    f_X9_blockFor_c40 v0 v1 v3 ((x1 ^^^ x2) ^^^ (((1 : Int32) <<< (x5 &&& 31)) - (1 : Int32))) h
set_option maxRecDepth 100000 in
set_option maxHeartbeats 4000000 in
theorem g_X9_blockFor {w : mWp} {Q : Option Value → mH → Prop} (v0 : Option Nat) (v1 : Int32) (v2 : Int32) (v3 : Int32) (v4 : Int32) (h : mH) {res : Int32} (e : f_X9_blockFor v0 v1 v2 v3 v4 h = some res) (q : (fun r : Int32 => Q (some (.int r)) h) res) : mGo w kX9_blockFor 0 0 0 [some (va_rf v0), some (.int v1), some (.int v2), some (.int v3), some (.int v4), none] [] h Q := by
  unfold f_X9_blockFor at e
  obtain ⟨_, _, e⟩ := mBind e
  refine mGo.aload_n (n := 1) (r := v0) dX9_blockFor_0 rfl rfl ?_
  refine mGo.iload_n (n := 2) (x := v1) dX9_blockFor_1 rfl rfl ?_
  refine mGo.iload (n := 4) (x := v4) dX9_blockFor_2 rfl rfl ?_
  obtain ⟨x1, e_x1, e⟩ := mBind e
  refine mGo.callV (n := 7) (y := zX9_rowOf) (R' := (mRoom (1) 0 0)) (as := [.int v1, .int v4]) (st := []) (r0 := v0) dX9_blockFor_4 sc_RX9_90 rfl (s_X9_rowOf v0 v1 v4 h e_x1) (e_X9_rowOf v0 v1 v4 h e_x1) (mFit_of rfl (Nat.le_of_ble_eq_true rfl) (by decide) (Nat.le_of_ble_eq_true rfl) (Nat.le_of_ble_eq_true rfl)) (Nat.le_of_ble_eq_true rfl) rfl rfl ?_
  intro _ _ hq
  rw [hq.1, hq.2]
  show mGo w kX9_blockFor 0 0 7 [some (va_rf v0), some (.int v1), some (.int v2), some (.int v3), some (.int v4), none] [.int x1] h Q
  refine mGo.aload_n (n := 8) (r := v0) dX9_blockFor_7 rfl rfl ?_
  refine mGo.iload_n (n := 9) (x := v1) dX9_blockFor_8 rfl rfl ?_
  refine mGo.iload_n (n := 10) (x := v2) dX9_blockFor_9 rfl rfl ?_
  obtain ⟨x2, e_x2, e⟩ := mBind e
  refine mGo.callV (n := 13) (y := zX9_rowOf) (R' := (mRoom (1) 0 0)) (as := [.int v1, .int v2]) (st := [.int x1]) (r0 := v0) dX9_blockFor_10 sc_RX9_90 rfl (s_X9_rowOf v0 v1 v2 h e_x2) (e_X9_rowOf v0 v1 v2 h e_x2) (mFit_of rfl (Nat.le_of_ble_eq_true rfl) (by decide) (Nat.le_of_ble_eq_true rfl) (Nat.le_of_ble_eq_true rfl)) (Nat.le_of_ble_eq_true rfl) rfl rfl ?_
  intro _ _ hq
  rw [hq.1, hq.2]
  show mGo w kX9_blockFor 0 0 13 [some (va_rf v0), some (.int v1), some (.int v2), some (.int v3), some (.int v4), none] [.int x2, .int x1] h Q
  refine mGo.ixor (n := 14) dX9_blockFor_13 rfl ?_
  refine mGo.istore (n := 16) (ls' := [some (va_rf v0), some (.int v1), some (.int v2), some (.int v3), some (.int v4), some (.int (x1 ^^^ x2))]) dX9_blockFor_14 rfl (Nat.le_of_ble_eq_true rfl) rfl ?_
  refine mGo.iload (n := 18) (x := (x1 ^^^ x2)) dX9_blockFor_16 rfl rfl ?_
  refine mGo.iload_n (n := 19) (x := v3) dX9_blockFor_18 rfl rfl ?_
  obtain ⟨x3, e_x3, e⟩ := mBind e
  refine mGo.callS (n := 22) (y := zX9_has) (R' := (mRoom (1) 0 0)) (as := [.int (x1 ^^^ x2), .int v3]) (st := []) dX9_blockFor_19 sc_RX9_94 rfl (e_X9_has (x1 ^^^ x2) v3 h e_x3) (mFit_of rfl (Nat.le_of_ble_eq_true rfl) (by decide) (Nat.le_of_ble_eq_true rfl) (Nat.le_of_ble_eq_true rfl)) (Nat.le_of_ble_eq_true rfl) rfl rfl ?_
  intro _ _ hq
  rw [hq.1, hq.2]
  show mGo w kX9_blockFor 0 0 22 [some (va_rf v0), some (.int v1), some (.int v2), some (.int v3), some (.int v4), some (.int (x1 ^^^ x2))] [.int x3] h Q
  refine mGo.if_eq (tgt := 40) (n := 25) dX9_blockFor_22 (by decide) rfl (fun hc => ?_) (fun hc => ?_)
  · replace e := mIft hc e
    refine mGo.mk [true, true, false, true, false, true] ?_
    exact g_X9_blockFor_c40 v0 v1 v3 (x1 ^^^ x2) h e q
  · replace e := mIff hc e
    refine mGo.iload (n := 27) (x := (x1 ^^^ x2)) dX9_blockFor_25 rfl rfl ?_
    refine mGo.iconst (n := 28) (v := (1 : Int32)) dX9_blockFor_27 (by decide) rfl ?_
    refine mGo.aload_n (n := 29) (r := v0) dX9_blockFor_28 rfl rfl ?_
    obtain ⟨x4, e_x4, e⟩ := mBind e
    refine mGo.getR (n := 32) dX9_blockFor_29 sf_RX9_13 e_x4 rfl ?_
    refine mGo.iload_n (n := 33) (x := v1) dX9_blockFor_32 rfl rfl ?_
    obtain ⟨x5, e_x5, e⟩ := mBind e
    refine mGo.iald (n := 34) dX9_blockFor_33 e_x5 rfl ?_
    refine mGo.ishl (n := 35) dX9_blockFor_34 rfl ?_
    refine mGo.iconst (n := 36) (v := (1 : Int32)) dX9_blockFor_35 (by decide) rfl ?_
    refine mGo.isub (n := 37) dX9_blockFor_36 rfl ?_
    refine mGo.ixor (n := 38) dX9_blockFor_37 rfl ?_
    refine mGo.istore (n := 40) (ls' := [some (va_rf v0), some (.int v1), some (.int v2), some (.int v3), some (.int v4), some (.int ((x1 ^^^ x2) ^^^ (((1 : Int32) <<< (x5 &&& 31)) - (1 : Int32))))]) dX9_blockFor_38 rfl (Nat.le_of_ble_eq_true rfl) rfl ?_
    refine mGo.mk [true, true, false, true, false, true] ?_
    exact g_X9_blockFor_c40 v0 v1 v3 ((x1 ^^^ x2) ^^^ (((1 : Int32) <<< (x5 &&& 31)) - (1 : Int32))) h e q
theorem e_X9_blockFor {w : mWp} (v0 : Option Nat) (v1 : Int32) (v2 : Int32) (v3 : Int32) (v4 : Int32) (h : mH) {res : Int32} (e : f_X9_blockFor v0 v1 v2 v3 v4 h = some res) : mEx w zX9_blockFor (mRoom 2 0 0) [va_rf v0, .int v1, .int v2, .int v3, .int v4] h (fun r h2 => r = some (.int res) ∧ h2 = h) := by
  refine mEx.of (by decide +kernel) (show mEnt [va_rf v0, .int v1, .int v2, .int v3, .int v4] 6 = [some (va_rf v0), some (.int v1), some (.int v2), some (.int v3), some (.int v4), none] by rw [mEnt_r, mEnt_i, mEnt_i, mEnt_i, mEnt_i] <;> rfl) (by simp only [List.map_cons, List.map_nil, mRfc, mCi, mCj, List.sum_cons, List.sum_nil]; exact Nat.le_of_ble_eq_true rfl) ?_
  refine g_X9_blockFor v0 v1 v2 v3 v4 h e ?_
  exact ⟨rfl, rfl⟩
theorem s_X9_blockFor (v0 : Option Nat) (v1 : Int32) (v2 : Int32) (v3 : Int32) (v4 : Int32) (h : mH) {res : Int32} (e : f_X9_blockFor v0 v1 v2 v3 v4 h = some res) : mIs h v0 8 = some () := by
  unfold f_X9_blockFor at e
  obtain ⟨u, e1, _⟩ := mBind e
  cases u
  exact e1
-- X9_block
def kX9_block : mK := (cX9_block, RX9, 5, some (.int), "block", mRoom 5 0 0)
def zX9_block : mY := (yX9_block, cX9_block, 5, some (.int))
set_option maxRecDepth 100000 in
theorem sc_RX9_268 : mSV RX9 268 zX9_isDesign 3 8 := ⟨Or.inl (mT_at 1210 (by decide +kernel) rfl), mT_at 1212 (by decide +kernel) rfl, mT_at 77 (by decide +kernel) rfl, mT_at 91 (by decide +kernel) rfl, mT_at 1213 (by decide +kernel) rfl, ⟨by decide +kernel, by decide +kernel, by decide +kernel⟩, by decide, rfl⟩
set_option maxRecDepth 100000 in
theorem sc_RX9_271 : mSV RX9 271 zX9_blockFor 4 8 := ⟨Or.inl (mT_at 1214 (by decide +kernel) rfl), mT_at 1216 (by decide +kernel) rfl, mT_at 78 (by decide +kernel) rfl, mT_at 91 (by decide +kernel) rfl, mT_at 1217 (by decide +kernel) rfl, ⟨by decide +kernel, by decide +kernel, by decide +kernel⟩, by decide, rfl⟩
def f_X9_block (v0 : Option Nat) (v1 : Int32) (v2 : Int32) (v3 : Int32) (v4 : Int32) (h : mH) : Option (Int32) :=
  (mIs h v0 8).bind fun _ =>
  (f_X9_isDesign v0 v1 v2 v3 h).bind fun x1 =>
  if x1 = 0 then
    some (-1 : Int32)
  else
    (f_X9_isLine v0 v1 v4 h).bind fun x2 =>
    if x2 = 0 then
      some (-1 : Int32)
    else
      if v4 = v2 then
        some (-2 : Int32)
      else
        (f_X9_blockFor v0 v1 v2 v3 v4 h).bind fun x3 =>
        some x3
set_option maxRecDepth 100000 in
set_option maxHeartbeats 4000000 in
theorem g_X9_block {w : mWp} {Q : Option Value → mH → Prop} (v0 : Option Nat) (v1 : Int32) (v2 : Int32) (v3 : Int32) (v4 : Int32) (h : mH) {res : Int32} (e : f_X9_block v0 v1 v2 v3 v4 h = some res) (q : (fun r : Int32 => Q (some (.int r)) h) res) : mGo w kX9_block 0 0 0 [some (va_rf v0), some (.int v1), some (.int v2), some (.int v3), some (.int v4)] [] h Q := by
  unfold f_X9_block at e
  obtain ⟨_, _, e⟩ := mBind e
  refine mGo.aload_n (n := 1) (r := v0) dX9_block_0 rfl rfl ?_
  refine mGo.iload_n (n := 2) (x := v1) dX9_block_1 rfl rfl ?_
  refine mGo.iload_n (n := 3) (x := v2) dX9_block_2 rfl rfl ?_
  refine mGo.iload_n (n := 4) (x := v3) dX9_block_3 rfl rfl ?_
  obtain ⟨x1, e_x1, e⟩ := mBind e
  refine mGo.callV (n := 7) (y := zX9_isDesign) (R' := (mRoom (4) 0 0)) (as := [.int v1, .int v2, .int v3]) (st := []) (r0 := v0) dX9_block_4 sc_RX9_268 rfl (s_X9_isDesign v0 v1 v2 v3 h e_x1) (e_X9_isDesign v0 v1 v2 v3 h e_x1) (mFit_of rfl (Nat.le_of_ble_eq_true rfl) (by decide) (Nat.le_of_ble_eq_true rfl) (Nat.le_of_ble_eq_true rfl)) (Nat.le_of_ble_eq_true rfl) rfl rfl ?_
  intro _ _ hq
  rw [hq.1, hq.2]
  show mGo w kX9_block 0 0 7 [some (va_rf v0), some (.int v1), some (.int v2), some (.int v3), some (.int v4)] [.int x1] h Q
  refine mGo.if_eq (tgt := 20) (n := 10) dX9_block_7 (by decide) rfl (fun hc => ?_) (fun hc => ?_)
  · replace e := mIft hc e
    refine mGo.iconst (n := 21) (v := (-1 : Int32)) dX9_block_20 (by decide) rfl ?_
    cases e
    exact mGo.iret dX9_block_21 rfl (Nat.le_of_ble_eq_true rfl) (Nat.le_of_ble_eq_true rfl) q
  · replace e := mIff hc e
    refine mGo.aload_n (n := 11) (r := v0) dX9_block_10 rfl rfl ?_
    refine mGo.iload_n (n := 12) (x := v1) dX9_block_11 rfl rfl ?_
    refine mGo.iload (n := 14) (x := v4) dX9_block_12 rfl rfl ?_
    obtain ⟨x2, e_x2, e⟩ := mBind e
    refine mGo.callV (n := 17) (y := zX9_isLine) (R' := (mRoom (3) 0 0)) (as := [.int v1, .int v4]) (st := []) (r0 := v0) dX9_block_14 sc_RX9_182 rfl (s_X9_isLine v0 v1 v4 h e_x2) (e_X9_isLine v0 v1 v4 h e_x2) (mFit_of rfl (Nat.le_of_ble_eq_true rfl) (by decide) (Nat.le_of_ble_eq_true rfl) (Nat.le_of_ble_eq_true rfl)) (Nat.le_of_ble_eq_true rfl) rfl rfl ?_
    intro _ _ hq
    rw [hq.1, hq.2]
    show mGo w kX9_block 0 0 17 [some (va_rf v0), some (.int v1), some (.int v2), some (.int v3), some (.int v4)] [.int x2] h Q
    refine mGo.if_ne (tgt := 22) (n := 20) dX9_block_17 (by decide) rfl (fun hc => ?_) (fun hc => ?_)
    · replace e := mIff hc e
      refine mGo.iload (n := 24) (x := v4) dX9_block_22 rfl rfl ?_
      refine mGo.iload_n (n := 25) (x := v2) dX9_block_24 rfl rfl ?_
      refine mGo.icmp_ne (tgt := 33) (n := 28) dX9_block_25 (by decide) rfl (fun hc => ?_) (fun hc => ?_)
      · replace e := mIff hc e
        refine mGo.aload_n (n := 34) (r := v0) dX9_block_33 rfl rfl ?_
        refine mGo.iload_n (n := 35) (x := v1) dX9_block_34 rfl rfl ?_
        refine mGo.iload_n (n := 36) (x := v2) dX9_block_35 rfl rfl ?_
        refine mGo.iload_n (n := 37) (x := v3) dX9_block_36 rfl rfl ?_
        refine mGo.iload (n := 39) (x := v4) dX9_block_37 rfl rfl ?_
        obtain ⟨x3, e_x3, e⟩ := mBind e
        refine mGo.callV (n := 42) (y := zX9_blockFor) (R' := (mRoom (2) 0 0)) (as := [.int v1, .int v2, .int v3, .int v4]) (st := []) (r0 := v0) dX9_block_39 sc_RX9_271 rfl (s_X9_blockFor v0 v1 v2 v3 v4 h e_x3) (e_X9_blockFor v0 v1 v2 v3 v4 h e_x3) (mFit_of rfl (Nat.le_of_ble_eq_true rfl) (by decide) (Nat.le_of_ble_eq_true rfl) (Nat.le_of_ble_eq_true rfl)) (Nat.le_of_ble_eq_true rfl) rfl rfl ?_
        intro _ _ hq
        rw [hq.1, hq.2]
        show mGo w kX9_block 0 0 42 [some (va_rf v0), some (.int v1), some (.int v2), some (.int v3), some (.int v4)] [.int x3] h Q
        cases e
        exact mGo.iret dX9_block_42 rfl (Nat.le_of_ble_eq_true rfl) (Nat.le_of_ble_eq_true rfl) q
      · replace e := mIft hc e
        refine mGo.bipush (n := 30) (v := (-2 : Int32)) dX9_block_28 (by decide) rfl ?_
        refine mGo.goto (tgt := 42) dX9_block_30 (by decide) ?_
        cases e
        exact mGo.iret dX9_block_42 rfl (Nat.le_of_ble_eq_true rfl) (Nat.le_of_ble_eq_true rfl) q
    · replace e := mIft hc e
      refine mGo.iconst (n := 21) (v := (-1 : Int32)) dX9_block_20 (by decide) rfl ?_
      cases e
      exact mGo.iret dX9_block_21 rfl (Nat.le_of_ble_eq_true rfl) (Nat.le_of_ble_eq_true rfl) q
theorem e_X9_block {w : mWp} (v0 : Option Nat) (v1 : Int32) (v2 : Int32) (v3 : Int32) (v4 : Int32) (h : mH) {res : Int32} (e : f_X9_block v0 v1 v2 v3 v4 h = some res) : mEx w zX9_block (mRoom 5 0 0) [va_rf v0, .int v1, .int v2, .int v3, .int v4] h (fun r h2 => r = some (.int res) ∧ h2 = h) := by
  refine mEx.of (by decide +kernel) (show mEnt [va_rf v0, .int v1, .int v2, .int v3, .int v4] 5 = [some (va_rf v0), some (.int v1), some (.int v2), some (.int v3), some (.int v4)] by rw [mEnt_r, mEnt_i, mEnt_i, mEnt_i, mEnt_i] <;> rfl) (by simp only [List.map_cons, List.map_nil, mRfc, mCi, mCj, List.sum_cons, List.sum_nil]; exact Nat.le_of_ble_eq_true rfl) ?_
  refine g_X9_block v0 v1 v2 v3 v4 h e ?_
  exact ⟨rfl, rfl⟩
theorem s_X9_block (v0 : Option Nat) (v1 : Int32) (v2 : Int32) (v3 : Int32) (v4 : Int32) (h : mH) {res : Int32} (e : f_X9_block v0 v1 v2 v3 v4 h = some res) : mIs h v0 8 = some () := by
  unfold f_X9_block at e
  obtain ⟨u, e1, _⟩ := mBind e
  cases u
  exact e1
-- X9_isSet
def kX9_isSet : mK := (cX9_isSet, RX9, 3, some (.boolean), "isSet", mRoom 2 0 0)
def zX9_isSet : mY := (yX9_isSet, cX9_isSet, 3, some (.boolean))
def f_X9_isSet (v0 : Option Nat) (v1 : Int32) (v2 : Int32) (h : mH) : Option (Int32) :=
  (mIs h v0 8).bind fun _ =>
  (mGR h v0 8 1).bind fun x1 =>
  (mAI h x1 v1).bind fun x2 =>
  (f_X9_isRow v2 x2).bind fun x3 =>
  if x3 = 0 ∨ x3 = 1 then some x3 else none
set_option maxRecDepth 100000 in
set_option maxHeartbeats 4000000 in
theorem g_X9_isSet {w : mWp} {Q : Option Value → mH → Prop} (v0 : Option Nat) (v1 : Int32) (v2 : Int32) (h : mH) {res : Int32} (e : f_X9_isSet v0 v1 v2 h = some res) (q : (fun r : Int32 => Q (some (.int r)) h) res) : mGo w kX9_isSet 0 0 0 [some (va_rf v0), some (.int v1), some (.int v2)] [] h Q := by
  unfold f_X9_isSet at e
  obtain ⟨_, _, e⟩ := mBind e
  refine mGo.iload_n (n := 1) (x := v2) dX9_isSet_0 rfl rfl ?_
  refine mGo.aload_n (n := 2) (r := v0) dX9_isSet_1 rfl rfl ?_
  obtain ⟨x1, e_x1, e⟩ := mBind e
  refine mGo.getR (n := 5) dX9_isSet_2 sf_RX9_13 e_x1 rfl ?_
  refine mGo.iload_n (n := 6) (x := v1) dX9_isSet_5 rfl rfl ?_
  obtain ⟨x2, e_x2, e⟩ := mBind e
  refine mGo.iald (n := 7) dX9_isSet_6 e_x2 rfl ?_
  obtain ⟨x3, e_x3, e⟩ := mBind e
  refine mGo.callS (n := 10) (y := zX9_isRow) (R' := (mRoom (1) 0 0)) (as := [.int v2, .int x2]) (st := []) dX9_isSet_7 sc_RX9_160 rfl (e_X9_isRow v2 x2 h e_x3) (mFit_of rfl (Nat.le_of_ble_eq_true rfl) (by decide) (Nat.le_of_ble_eq_true rfl) (Nat.le_of_ble_eq_true rfl)) (Nat.le_of_ble_eq_true rfl) rfl rfl ?_
  intro _ _ hq
  rw [hq.1, hq.2]
  show mGo w kX9_isSet 0 0 10 [some (va_rf v0), some (.int v1), some (.int v2)] [.int x3] h Q
  obtain ⟨hz, e⟩ := mIfP e
  cases e
  exact mGo.zret dX9_isSet_10 rfl hz (Nat.le_of_ble_eq_true rfl) (Nat.le_of_ble_eq_true rfl) q
theorem e_X9_isSet {w : mWp} (v0 : Option Nat) (v1 : Int32) (v2 : Int32) (h : mH) {res : Int32} (e : f_X9_isSet v0 v1 v2 h = some res) : mEx w zX9_isSet (mRoom 2 0 0) [va_rf v0, .int v1, .int v2] h (fun r h2 => r = some (.int res) ∧ h2 = h) := by
  refine mEx.of (by decide +kernel) (show mEnt [va_rf v0, .int v1, .int v2] 3 = [some (va_rf v0), some (.int v1), some (.int v2)] by rw [mEnt_r, mEnt_i, mEnt_i] <;> rfl) (by simp only [List.map_cons, List.map_nil, mRfc, mCi, mCj, List.sum_cons, List.sum_nil]; exact Nat.le_of_ble_eq_true rfl) ?_
  refine g_X9_isSet v0 v1 v2 h e ?_
  exact ⟨rfl, rfl⟩
theorem s_X9_isSet (v0 : Option Nat) (v1 : Int32) (v2 : Int32) (h : mH) {res : Int32} (e : f_X9_isSet v0 v1 v2 h = some res) : mIs h v0 8 = some () := by
  unfold f_X9_isSet at e
  obtain ⟨u, e1, _⟩ := mBind e
  cases u
  exact e1
-- X9_through
def kX9_through : mK := (cX9_through, RX9, 7, some (.int), "through", mRoom 5 0 0)
def zX9_through : mY := (yX9_through, cX9_through, 7, some (.int))
set_option maxRecDepth 100000 in
theorem sc_RX9_274 : mSV RX9 274 zX9_isSet 2 8 := ⟨Or.inl (mT_at 1222 (by decide +kernel) rfl), mT_at 1224 (by decide +kernel) rfl, mT_at 79 (by decide +kernel) rfl, mT_at 91 (by decide +kernel) rfl, mT_at 1225 (by decide +kernel) rfl, ⟨by decide +kernel, by decide +kernel, by decide +kernel⟩, by decide, rfl⟩
def f_X9_through_b37 (v0 : Option Nat) (v1 : Int32) (v2 : Int32) (v3 : Int32) (v4 : Int32) (v5 : Int32) (v6 : Int32) (h : mH) : Option ((Int32 × Int32) ⊕ (Int32)) :=
  (mGR h v0 8 1).bind fun x1 =>
  (mAI h x1 v1).bind fun x2 =>
  if x2 ≤ v6 then
    some (Sum.inr v5)
  else
    if v6 = v2 then
      some (Sum.inl (v5, (v6 + 1)))
    else
      (f_X9_blockFor v0 v1 v2 v3 v6 h).bind fun x3 =>
      if (v4 &&& (x3 ^^^ (-1 : Int32))) = 0 then
        some (Sum.inl ((v5 + 1), (v6 + 1)))
      else
        some (Sum.inl (v5, (v6 + 1)))
set_option maxRecDepth 100000 in
set_option maxHeartbeats 4000000 in
theorem g_X9_through_b37 {w : mWp} {Q : Option Value → mH → Prop} (v0 : Option Nat) (v1 : Int32) (v2 : Int32) (v3 : Int32) (v4 : Int32) (v5 : Int32) (v6 : Int32) (h : mH) {res : (Int32 × Int32) ⊕ (Int32)} (e : f_X9_through_b37 v0 v1 v2 v3 v4 v5 v6 h = some res) (q : (Sum.elim (fun x : Int32 × Int32 => mGo w kX9_through 0 0 37 [some (va_rf v0), some (.int v1), some (.int v2), some (.int v3), some (.int v4), some (.int x.1), some (.int x.2)] [] h Q) (fun r : Int32 => Q (some (.int r)) h)) res) : mGo w kX9_through 0 0 37 [some (va_rf v0), some (.int v1), some (.int v2), some (.int v3), some (.int v4), some (.int v5), some (.int v6)] [] h Q := by
  unfold f_X9_through_b37 at e
  refine mGo.iload (n := 39) (x := v6) dX9_through_37 rfl rfl ?_
  refine mGo.aload_n (n := 40) (r := v0) dX9_through_39 rfl rfl ?_
  obtain ⟨x1, e_x1, e⟩ := mBind e
  refine mGo.getR (n := 43) dX9_through_40 sf_RX9_13 e_x1 rfl ?_
  refine mGo.iload_n (n := 44) (x := v1) dX9_through_43 rfl rfl ?_
  obtain ⟨x2, e_x2, e⟩ := mBind e
  refine mGo.iald (n := 45) dX9_through_44 e_x2 rfl ?_
  refine mGo.icmp_ge (tgt := 80) (n := 48) dX9_through_45 (by decide) rfl (fun hc => ?_) (fun hc => ?_)
  · replace e := mIft hc e
    refine mGo.iload (n := 82) (x := v5) dX9_through_80 rfl rfl ?_
    cases e
    exact mGo.iret dX9_through_82 rfl (Nat.le_of_ble_eq_true rfl) (Nat.le_of_ble_eq_true rfl) q
  · replace e := mIff hc e
    refine mGo.iload (n := 50) (x := v6) dX9_through_48 rfl rfl ?_
    refine mGo.iload_n (n := 51) (x := v2) dX9_through_50 rfl rfl ?_
    refine mGo.icmp_eq (tgt := 74) (n := 54) dX9_through_51 (by decide) rfl (fun hc => ?_) (fun hc => ?_)
    · replace e := mIft hc e
      refine mGo.iinc (n := 77) (x := v6) (v := (v6 + 1)) (ls' := [some (va_rf v0), some (.int v1), some (.int v2), some (.int v3), some (.int v4), some (.int v5), some (.int (v6 + 1))]) dX9_through_74 rfl rfl rfl (Nat.le_of_ble_eq_true rfl) rfl ?_
      refine mGo.goto (tgt := 37) dX9_through_77 (by decide) ?_
      cases e
      refine mGo.mk [true, true, true, true, true, true, true] ?_
      exact q
    · replace e := mIff hc e
      refine mGo.iload (n := 56) (x := v4) dX9_through_54 rfl rfl ?_
      refine mGo.aload_n (n := 57) (r := v0) dX9_through_56 rfl rfl ?_
      refine mGo.iload_n (n := 58) (x := v1) dX9_through_57 rfl rfl ?_
      refine mGo.iload_n (n := 59) (x := v2) dX9_through_58 rfl rfl ?_
      refine mGo.iload_n (n := 60) (x := v3) dX9_through_59 rfl rfl ?_
      refine mGo.iload (n := 62) (x := v6) dX9_through_60 rfl rfl ?_
      obtain ⟨x3, e_x3, e⟩ := mBind e
      refine mGo.callV (n := 65) (y := zX9_blockFor) (R' := (mRoom (2) 0 0)) (as := [.int v1, .int v2, .int v3, .int v6]) (st := [.int v4]) (r0 := v0) dX9_through_62 sc_RX9_271 rfl (s_X9_blockFor v0 v1 v2 v3 v6 h e_x3) (e_X9_blockFor v0 v1 v2 v3 v6 h e_x3) (mFit_of rfl (Nat.le_of_ble_eq_true rfl) (by decide) (Nat.le_of_ble_eq_true rfl) (Nat.le_of_ble_eq_true rfl)) (Nat.le_of_ble_eq_true rfl) rfl rfl ?_
      intro _ _ hq
      rw [hq.1, hq.2]
      show mGo w kX9_through 0 0 65 [some (va_rf v0), some (.int v1), some (.int v2), some (.int v3), some (.int v4), some (.int v5), some (.int v6)] [.int x3, .int v4] h Q
      refine mGo.iconst (n := 66) (v := (-1 : Int32)) dX9_through_65 (by decide) rfl ?_
      refine mGo.ixor (n := 67) dX9_through_66 rfl ?_
      refine mGo.iand (n := 68) dX9_through_67 rfl ?_
      refine mGo.if_ne (tgt := 74) (n := 71) dX9_through_68 (by decide) rfl (fun hc => ?_) (fun hc => ?_)
      · replace e := mIff hc e
        refine mGo.iinc (n := 77) (x := v6) (v := (v6 + 1)) (ls' := [some (va_rf v0), some (.int v1), some (.int v2), some (.int v3), some (.int v4), some (.int v5), some (.int (v6 + 1))]) dX9_through_74 rfl rfl rfl (Nat.le_of_ble_eq_true rfl) rfl ?_
        refine mGo.goto (tgt := 37) dX9_through_77 (by decide) ?_
        cases e
        refine mGo.mk [true, true, true, true, true, true, true] ?_
        exact q
      · replace e := mIft hc e
        refine mGo.iinc (n := 74) (x := v5) (v := (v5 + 1)) (ls' := [some (va_rf v0), some (.int v1), some (.int v2), some (.int v3), some (.int v4), some (.int (v5 + 1)), some (.int v6)]) dX9_through_71 rfl rfl rfl (Nat.le_of_ble_eq_true rfl) rfl ?_
        refine mGo.iinc (n := 77) (x := v6) (v := (v6 + 1)) (ls' := [some (va_rf v0), some (.int v1), some (.int v2), some (.int v3), some (.int v4), some (.int (v5 + 1)), some (.int (v6 + 1))]) dX9_through_74 rfl rfl rfl (Nat.le_of_ble_eq_true rfl) rfl ?_
        refine mGo.goto (tgt := 37) dX9_through_77 (by decide) ?_
        cases e
        refine mGo.mk [true, true, true, true, true, true, true] ?_
        exact q
noncomputable def f_X9_through_l37 (v0 : Option Nat) (v1 : Int32) (v2 : Int32) (v3 : Int32) (v4 : Int32) (v5 : Int32) (v6 : Int32) (h : mH) : Option (Int32) :=
  mLoop (fun x : Int32 × Int32 => f_X9_through_b37 v0 v1 v2 v3 v4 x.1 x.2 h) (v5, v6)
set_option maxRecDepth 100000 in
set_option maxHeartbeats 4000000 in
theorem g_X9_through_l37 {w : mWp} {Q : Option Value → mH → Prop} (v0 : Option Nat) (v1 : Int32) (v2 : Int32) (v3 : Int32) (v4 : Int32) (v5 : Int32) (v6 : Int32) (h : mH) {res : Int32} (e : f_X9_through_l37 v0 v1 v2 v3 v4 v5 v6 h = some res) (q : (fun r : Int32 => Q (some (.int r)) h) res) : mGo w kX9_through 0 0 37 [some (va_rf v0), some (.int v1), some (.int v2), some (.int v3), some (.int v4), some (.int v5), some (.int v6)] [] h Q := by
  unfold f_X9_through_l37 at e
  refine mLoop_go (x := (v5, v6)) (fun x : Int32 × Int32 => mGo w kX9_through 0 0 37 [some (va_rf v0), some (.int v1), some (.int v2), some (.int v3), some (.int v4), some (.int x.1), some (.int x.2)] [] h Q) (fun r : Int32 => Q (some (.int r)) h) ?_ e q
  rintro ⟨v5, v6⟩ res e q
  exact g_X9_through_b37 v0 v1 v2 v3 v4 v5 v6 h e q
noncomputable def f_X9_through (v0 : Option Nat) (v1 : Int32) (v2 : Int32) (v3 : Int32) (v4 : Int32) (h : mH) : Option (Int32) :=
  (mIs h v0 8).bind fun _ =>
  (f_X9_isDesign v0 v1 v2 v3 h).bind fun x1 =>
  if x1 = 0 then
    some (-1 : Int32)
  else
    (f_X9_isSet v0 v1 v4 h).bind fun x2 =>
    if x2 = 0 then
      some (-1 : Int32)
    else
      (f_X9_has v4 v3).bind fun x3 =>
      if x3 = 0 then
        f_X9_through_l37 v0 v1 v2 v3 v4 (0 : Int32) (0 : Int32) h
      else
        some (-1 : Int32)
set_option maxRecDepth 100000 in
set_option maxHeartbeats 4000000 in
theorem g_X9_through {w : mWp} {Q : Option Value → mH → Prop} (v0 : Option Nat) (v1 : Int32) (v2 : Int32) (v3 : Int32) (v4 : Int32) (h : mH) {res : Int32} (e : f_X9_through v0 v1 v2 v3 v4 h = some res) (q : (fun r : Int32 => Q (some (.int r)) h) res) : mGo w kX9_through 0 0 0 [some (va_rf v0), some (.int v1), some (.int v2), some (.int v3), some (.int v4), none, none] [] h Q := by
  unfold f_X9_through at e
  obtain ⟨_, _, e⟩ := mBind e
  refine mGo.aload_n (n := 1) (r := v0) dX9_through_0 rfl rfl ?_
  refine mGo.iload_n (n := 2) (x := v1) dX9_through_1 rfl rfl ?_
  refine mGo.iload_n (n := 3) (x := v2) dX9_through_2 rfl rfl ?_
  refine mGo.iload_n (n := 4) (x := v3) dX9_through_3 rfl rfl ?_
  obtain ⟨x1, e_x1, e⟩ := mBind e
  refine mGo.callV (n := 7) (y := zX9_isDesign) (R' := (mRoom (4) 0 0)) (as := [.int v1, .int v2, .int v3]) (st := []) (r0 := v0) dX9_through_4 sc_RX9_268 rfl (s_X9_isDesign v0 v1 v2 v3 h e_x1) (e_X9_isDesign v0 v1 v2 v3 h e_x1) (mFit_of rfl (Nat.le_of_ble_eq_true rfl) (by decide) (Nat.le_of_ble_eq_true rfl) (Nat.le_of_ble_eq_true rfl)) (Nat.le_of_ble_eq_true rfl) rfl rfl ?_
  intro _ _ hq
  rw [hq.1, hq.2]
  show mGo w kX9_through 0 0 7 [some (va_rf v0), some (.int v1), some (.int v2), some (.int v3), some (.int v4), none, none] [.int x1] h Q
  refine mGo.if_eq (tgt := 29) (n := 10) dX9_through_7 (by decide) rfl (fun hc => ?_) (fun hc => ?_)
  · replace e := mIft hc e
    refine mGo.iconst (n := 30) (v := (-1 : Int32)) dX9_through_29 (by decide) rfl ?_
    cases e
    exact mGo.iret dX9_through_30 rfl (Nat.le_of_ble_eq_true rfl) (Nat.le_of_ble_eq_true rfl) q
  · replace e := mIff hc e
    refine mGo.aload_n (n := 11) (r := v0) dX9_through_10 rfl rfl ?_
    refine mGo.iload_n (n := 12) (x := v1) dX9_through_11 rfl rfl ?_
    refine mGo.iload (n := 14) (x := v4) dX9_through_12 rfl rfl ?_
    obtain ⟨x2, e_x2, e⟩ := mBind e
    refine mGo.callV (n := 17) (y := zX9_isSet) (R' := (mRoom (2) 0 0)) (as := [.int v1, .int v4]) (st := []) (r0 := v0) dX9_through_14 sc_RX9_274 rfl (s_X9_isSet v0 v1 v4 h e_x2) (e_X9_isSet v0 v1 v4 h e_x2) (mFit_of rfl (Nat.le_of_ble_eq_true rfl) (by decide) (Nat.le_of_ble_eq_true rfl) (Nat.le_of_ble_eq_true rfl)) (Nat.le_of_ble_eq_true rfl) rfl rfl ?_
    intro _ _ hq
    rw [hq.1, hq.2]
    show mGo w kX9_through 0 0 17 [some (va_rf v0), some (.int v1), some (.int v2), some (.int v3), some (.int v4), none, none] [.int x2] h Q
    refine mGo.if_eq (tgt := 29) (n := 20) dX9_through_17 (by decide) rfl (fun hc => ?_) (fun hc => ?_)
    · replace e := mIft hc e
      refine mGo.iconst (n := 30) (v := (-1 : Int32)) dX9_through_29 (by decide) rfl ?_
      cases e
      exact mGo.iret dX9_through_30 rfl (Nat.le_of_ble_eq_true rfl) (Nat.le_of_ble_eq_true rfl) q
    · replace e := mIff hc e
      refine mGo.iload (n := 22) (x := v4) dX9_through_20 rfl rfl ?_
      refine mGo.iload_n (n := 23) (x := v3) dX9_through_22 rfl rfl ?_
      obtain ⟨x3, e_x3, e⟩ := mBind e
      refine mGo.callS (n := 26) (y := zX9_has) (R' := (mRoom (1) 0 0)) (as := [.int v4, .int v3]) (st := []) dX9_through_23 sc_RX9_94 rfl (e_X9_has v4 v3 h e_x3) (mFit_of rfl (Nat.le_of_ble_eq_true rfl) (by decide) (Nat.le_of_ble_eq_true rfl) (Nat.le_of_ble_eq_true rfl)) (Nat.le_of_ble_eq_true rfl) rfl rfl ?_
      intro _ _ hq
      rw [hq.1, hq.2]
      show mGo w kX9_through 0 0 26 [some (va_rf v0), some (.int v1), some (.int v2), some (.int v3), some (.int v4), none, none] [.int x3] h Q
      refine mGo.if_eq (tgt := 31) (n := 29) dX9_through_26 (by decide) rfl (fun hc => ?_) (fun hc => ?_)
      · replace e := mIft hc e
        refine mGo.iconst (n := 32) (v := (0 : Int32)) dX9_through_31 (by decide) rfl ?_
        refine mGo.istore (n := 34) (ls' := [some (va_rf v0), some (.int v1), some (.int v2), some (.int v3), some (.int v4), some (.int (0 : Int32)), none]) dX9_through_32 rfl (Nat.le_of_ble_eq_true rfl) rfl ?_
        refine mGo.iconst (n := 35) (v := (0 : Int32)) dX9_through_34 (by decide) rfl ?_
        refine mGo.istore (n := 37) (ls' := [some (va_rf v0), some (.int v1), some (.int v2), some (.int v3), some (.int v4), some (.int (0 : Int32)), some (.int (0 : Int32))]) dX9_through_35 rfl (Nat.le_of_ble_eq_true rfl) rfl ?_
        refine mGo.mk [true, true, true, true, true, true, true] ?_
        exact g_X9_through_l37 v0 v1 v2 v3 v4 (0 : Int32) (0 : Int32) h e q
      · replace e := mIff hc e
        refine mGo.iconst (n := 30) (v := (-1 : Int32)) dX9_through_29 (by decide) rfl ?_
        cases e
        exact mGo.iret dX9_through_30 rfl (Nat.le_of_ble_eq_true rfl) (Nat.le_of_ble_eq_true rfl) q
theorem e_X9_through {w : mWp} (v0 : Option Nat) (v1 : Int32) (v2 : Int32) (v3 : Int32) (v4 : Int32) (h : mH) {res : Int32} (e : f_X9_through v0 v1 v2 v3 v4 h = some res) : mEx w zX9_through (mRoom 5 0 0) [va_rf v0, .int v1, .int v2, .int v3, .int v4] h (fun r h2 => r = some (.int res) ∧ h2 = h) := by
  refine mEx.of (by decide +kernel) (show mEnt [va_rf v0, .int v1, .int v2, .int v3, .int v4] 7 = [some (va_rf v0), some (.int v1), some (.int v2), some (.int v3), some (.int v4), none, none] by rw [mEnt_r, mEnt_i, mEnt_i, mEnt_i, mEnt_i] <;> rfl) (by simp only [List.map_cons, List.map_nil, mRfc, mCi, mCj, List.sum_cons, List.sum_nil]; exact Nat.le_of_ble_eq_true rfl) ?_
  refine g_X9_through v0 v1 v2 v3 v4 h e ?_
  exact ⟨rfl, rfl⟩
theorem s_X9_through (v0 : Option Nat) (v1 : Int32) (v2 : Int32) (v3 : Int32) (v4 : Int32) (h : mH) {res : Int32} (e : f_X9_through v0 v1 v2 v3 v4 h = some res) : mIs h v0 8 = some () := by
  unfold f_X9_through at e
  obtain ⟨u, e1, _⟩ := mBind e
  cases u
  exact e1
-- X9_halves
def kX9_halves : mK := (cX9_halves, RX9, 7, some (.int), "halves", mRoom 4 0 0)
def zX9_halves : mY := (yX9_halves, cX9_halves, 7, some (.int))
def f_X9_halves_c69 (v0 : Option Nat) (v1 : Int32) (v2 : Int32) (v3 : Int32) (v4 : Int32) (v5 : Int32) (v6 : Int32) (h : mH) : Option ((Int32 × Int32) ⊕ (Int32)) :=
  if v5 = v2 then
    some (Sum.inl (v4, (v5 + 1)))
  else
    if (v3 &&& (v6 ^^^ (-1 : Int32))) = 0 then
      some (Sum.inl ((v4 + 1), (v5 + 1)))
    else
      some (Sum.inl (v4, (v5 + 1)))
set_option maxRecDepth 100000 in
set_option maxHeartbeats 4000000 in
theorem g_X9_halves_c69 {w : mWp} {Q : Option Value → mH → Prop} (v0 : Option Nat) (v1 : Int32) (v2 : Int32) (v3 : Int32) (v4 : Int32) (v5 : Int32) (v6 : Int32) (h : mH) {res : (Int32 × Int32) ⊕ (Int32)} (e : f_X9_halves_c69 v0 v1 v2 v3 v4 v5 v6 h = some res) (q : (Sum.elim (fun x : Int32 × Int32 => mGo w kX9_halves 0 0 26 [some (va_rf v0), some (.int v1), some (.int v2), some (.int v3), some (.int x.1), some (.int x.2), none] [] h Q) (fun r : Int32 => Q (some (.int r)) h)) res) : mGo w kX9_halves 0 0 69 [some (va_rf v0), some (.int v1), some (.int v2), some (.int v3), some (.int v4), some (.int v5), some (.int v6)] [] h Q := by
  unfold f_X9_halves_c69 at e
  refine mGo.iload (n := 71) (x := v5) dX9_halves_69 rfl rfl ?_
  refine mGo.iload_n (n := 72) (x := v2) dX9_halves_71 rfl rfl ?_
  refine mGo.icmp_eq (tgt := 87) (n := 75) dX9_halves_72 (by decide) rfl (fun hc => ?_) (fun hc => ?_)
  · replace e := mIft hc e
    refine mGo.iinc (n := 90) (x := v5) (v := (v5 + 1)) (ls' := [some (va_rf v0), some (.int v1), some (.int v2), some (.int v3), some (.int v4), some (.int (v5 + 1)), some (.int v6)]) dX9_halves_87 rfl rfl rfl (Nat.le_of_ble_eq_true rfl) rfl ?_
    refine mGo.goto (tgt := 26) dX9_halves_90 (by decide) ?_
    cases e
    refine mGo.mk [true, true, true, true, true, true, false] ?_
    exact q
  · replace e := mIff hc e
    refine mGo.iload_n (n := 76) (x := v3) dX9_halves_75 rfl rfl ?_
    refine mGo.iload (n := 78) (x := v6) dX9_halves_76 rfl rfl ?_
    refine mGo.iconst (n := 79) (v := (-1 : Int32)) dX9_halves_78 (by decide) rfl ?_
    refine mGo.ixor (n := 80) dX9_halves_79 rfl ?_
    refine mGo.iand (n := 81) dX9_halves_80 rfl ?_
    refine mGo.if_ne (tgt := 87) (n := 84) dX9_halves_81 (by decide) rfl (fun hc => ?_) (fun hc => ?_)
    · replace e := mIff hc e
      refine mGo.iinc (n := 90) (x := v5) (v := (v5 + 1)) (ls' := [some (va_rf v0), some (.int v1), some (.int v2), some (.int v3), some (.int v4), some (.int (v5 + 1)), some (.int v6)]) dX9_halves_87 rfl rfl rfl (Nat.le_of_ble_eq_true rfl) rfl ?_
      refine mGo.goto (tgt := 26) dX9_halves_90 (by decide) ?_
      cases e
      refine mGo.mk [true, true, true, true, true, true, false] ?_
      exact q
    · replace e := mIft hc e
      refine mGo.iinc (n := 87) (x := v4) (v := (v4 + 1)) (ls' := [some (va_rf v0), some (.int v1), some (.int v2), some (.int v3), some (.int (v4 + 1)), some (.int v5), some (.int v6)]) dX9_halves_84 rfl rfl rfl (Nat.le_of_ble_eq_true rfl) rfl ?_
      refine mGo.iinc (n := 90) (x := v5) (v := (v5 + 1)) (ls' := [some (va_rf v0), some (.int v1), some (.int v2), some (.int v3), some (.int (v4 + 1)), some (.int (v5 + 1)), some (.int v6)]) dX9_halves_87 rfl rfl rfl (Nat.le_of_ble_eq_true rfl) rfl ?_
      refine mGo.goto (tgt := 26) dX9_halves_90 (by decide) ?_
      cases e
      refine mGo.mk [true, true, true, true, true, true, false] ?_
      exact q
def f_X9_halves_b26 (v0 : Option Nat) (v1 : Int32) (v2 : Int32) (v3 : Int32) (v4 : Int32) (v5 : Int32) (h : mH) : Option ((Int32 × Int32) ⊕ (Int32)) :=
  (mGR h v0 8 1).bind fun x1 =>
  (mAI h x1 v1).bind fun x2 =>
  if x2 ≤ v5 then
    some (Sum.inr v4)
  else
    (f_X9_rowOf v0 v1 v5 h).bind fun x3 =>
    (f_X9_rowOf v0 v1 v2 h).bind fun x4 =>
    if v5 = v2 then
      f_X9_halves_c69 v0 v1 v2 v3 v4 v5 (x3 ^^^ x4) h
    else
      if (v3 &&& (x3 ^^^ x4)) = 0 then
        f_X9_halves_c69 v0 v1 v2 v3 (v4 + 1) v5 (x3 ^^^ x4) h
      else
        f_X9_halves_c69 v0 v1 v2 v3 v4 v5 (x3 ^^^ x4) h
set_option maxRecDepth 100000 in
set_option maxHeartbeats 4000000 in
theorem g_X9_halves_b26 {w : mWp} {Q : Option Value → mH → Prop} (v0 : Option Nat) (v1 : Int32) (v2 : Int32) (v3 : Int32) (v4 : Int32) (v5 : Int32) (h : mH) {res : (Int32 × Int32) ⊕ (Int32)} (e : f_X9_halves_b26 v0 v1 v2 v3 v4 v5 h = some res) (q : (Sum.elim (fun x : Int32 × Int32 => mGo w kX9_halves 0 0 26 [some (va_rf v0), some (.int v1), some (.int v2), some (.int v3), some (.int x.1), some (.int x.2), none] [] h Q) (fun r : Int32 => Q (some (.int r)) h)) res) : mGo w kX9_halves 0 0 26 [some (va_rf v0), some (.int v1), some (.int v2), some (.int v3), some (.int v4), some (.int v5), none] [] h Q := by
  unfold f_X9_halves_b26 at e
  refine mGo.iload (n := 28) (x := v5) dX9_halves_26 rfl rfl ?_
  refine mGo.aload_n (n := 29) (r := v0) dX9_halves_28 rfl rfl ?_
  obtain ⟨x1, e_x1, e⟩ := mBind e
  refine mGo.getR (n := 32) dX9_halves_29 sf_RX9_13 e_x1 rfl ?_
  refine mGo.iload_n (n := 33) (x := v1) dX9_halves_32 rfl rfl ?_
  obtain ⟨x2, e_x2, e⟩ := mBind e
  refine mGo.iald (n := 34) dX9_halves_33 e_x2 rfl ?_
  refine mGo.icmp_ge (tgt := 93) (n := 37) dX9_halves_34 (by decide) rfl (fun hc => ?_) (fun hc => ?_)
  · replace e := mIft hc e
    refine mGo.iload (n := 95) (x := v4) dX9_halves_93 rfl rfl ?_
    cases e
    exact mGo.iret dX9_halves_95 rfl (Nat.le_of_ble_eq_true rfl) (Nat.le_of_ble_eq_true rfl) q
  · replace e := mIff hc e
    refine mGo.aload_n (n := 38) (r := v0) dX9_halves_37 rfl rfl ?_
    refine mGo.iload_n (n := 39) (x := v1) dX9_halves_38 rfl rfl ?_
    refine mGo.iload (n := 41) (x := v5) dX9_halves_39 rfl rfl ?_
    obtain ⟨x3, e_x3, e⟩ := mBind e
    refine mGo.callV (n := 44) (y := zX9_rowOf) (R' := (mRoom (1) 0 0)) (as := [.int v1, .int v5]) (st := []) (r0 := v0) dX9_halves_41 sc_RX9_90 rfl (s_X9_rowOf v0 v1 v5 h e_x3) (e_X9_rowOf v0 v1 v5 h e_x3) (mFit_of rfl (Nat.le_of_ble_eq_true rfl) (by decide) (Nat.le_of_ble_eq_true rfl) (Nat.le_of_ble_eq_true rfl)) (Nat.le_of_ble_eq_true rfl) rfl rfl ?_
    intro _ _ hq
    rw [hq.1, hq.2]
    show mGo w kX9_halves 0 0 44 [some (va_rf v0), some (.int v1), some (.int v2), some (.int v3), some (.int v4), some (.int v5), none] [.int x3] h Q
    refine mGo.aload_n (n := 45) (r := v0) dX9_halves_44 rfl rfl ?_
    refine mGo.iload_n (n := 46) (x := v1) dX9_halves_45 rfl rfl ?_
    refine mGo.iload_n (n := 47) (x := v2) dX9_halves_46 rfl rfl ?_
    obtain ⟨x4, e_x4, e⟩ := mBind e
    refine mGo.callV (n := 50) (y := zX9_rowOf) (R' := (mRoom (1) 0 0)) (as := [.int v1, .int v2]) (st := [.int x3]) (r0 := v0) dX9_halves_47 sc_RX9_90 rfl (s_X9_rowOf v0 v1 v2 h e_x4) (e_X9_rowOf v0 v1 v2 h e_x4) (mFit_of rfl (Nat.le_of_ble_eq_true rfl) (by decide) (Nat.le_of_ble_eq_true rfl) (Nat.le_of_ble_eq_true rfl)) (Nat.le_of_ble_eq_true rfl) rfl rfl ?_
    intro _ _ hq
    rw [hq.1, hq.2]
    show mGo w kX9_halves 0 0 50 [some (va_rf v0), some (.int v1), some (.int v2), some (.int v3), some (.int v4), some (.int v5), none] [.int x4, .int x3] h Q
    refine mGo.ixor (n := 51) dX9_halves_50 rfl ?_
    refine mGo.istore (n := 53) (ls' := [some (va_rf v0), some (.int v1), some (.int v2), some (.int v3), some (.int v4), some (.int v5), some (.int (x3 ^^^ x4))]) dX9_halves_51 rfl (Nat.le_of_ble_eq_true rfl) rfl ?_
    refine mGo.iload (n := 55) (x := v5) dX9_halves_53 rfl rfl ?_
    refine mGo.iload_n (n := 56) (x := v2) dX9_halves_55 rfl rfl ?_
    refine mGo.icmp_eq (tgt := 69) (n := 59) dX9_halves_56 (by decide) rfl (fun hc => ?_) (fun hc => ?_)
    · replace e := mIft hc e
      refine mGo.mk [true, true, true, true, true, true, true] ?_
      exact g_X9_halves_c69 v0 v1 v2 v3 v4 v5 (x3 ^^^ x4) h e q
    · replace e := mIff hc e
      refine mGo.iload_n (n := 60) (x := v3) dX9_halves_59 rfl rfl ?_
      refine mGo.iload (n := 62) (x := (x3 ^^^ x4)) dX9_halves_60 rfl rfl ?_
      refine mGo.iand (n := 63) dX9_halves_62 rfl ?_
      refine mGo.if_ne (tgt := 69) (n := 66) dX9_halves_63 (by decide) rfl (fun hc => ?_) (fun hc => ?_)
      · replace e := mIff hc e
        refine mGo.mk [true, true, true, true, true, true, true] ?_
        exact g_X9_halves_c69 v0 v1 v2 v3 v4 v5 (x3 ^^^ x4) h e q
      · replace e := mIft hc e
        refine mGo.iinc (n := 69) (x := v4) (v := (v4 + 1)) (ls' := [some (va_rf v0), some (.int v1), some (.int v2), some (.int v3), some (.int (v4 + 1)), some (.int v5), some (.int (x3 ^^^ x4))]) dX9_halves_66 rfl rfl rfl (Nat.le_of_ble_eq_true rfl) rfl ?_
        refine mGo.mk [true, true, true, true, true, true, true] ?_
        exact g_X9_halves_c69 v0 v1 v2 v3 (v4 + 1) v5 (x3 ^^^ x4) h e q
noncomputable def f_X9_halves_l26 (v0 : Option Nat) (v1 : Int32) (v2 : Int32) (v3 : Int32) (v4 : Int32) (v5 : Int32) (h : mH) : Option (Int32) :=
  mLoop (fun x : Int32 × Int32 => f_X9_halves_b26 v0 v1 v2 v3 x.1 x.2 h) (v4, v5)
set_option maxRecDepth 100000 in
set_option maxHeartbeats 4000000 in
theorem g_X9_halves_l26 {w : mWp} {Q : Option Value → mH → Prop} (v0 : Option Nat) (v1 : Int32) (v2 : Int32) (v3 : Int32) (v4 : Int32) (v5 : Int32) (h : mH) {res : Int32} (e : f_X9_halves_l26 v0 v1 v2 v3 v4 v5 h = some res) (q : (fun r : Int32 => Q (some (.int r)) h) res) : mGo w kX9_halves 0 0 26 [some (va_rf v0), some (.int v1), some (.int v2), some (.int v3), some (.int v4), some (.int v5), none] [] h Q := by
  unfold f_X9_halves_l26 at e
  refine mLoop_go (x := (v4, v5)) (fun x : Int32 × Int32 => mGo w kX9_halves 0 0 26 [some (va_rf v0), some (.int v1), some (.int v2), some (.int v3), some (.int x.1), some (.int x.2), none] [] h Q) (fun r : Int32 => Q (some (.int r)) h) ?_ e q
  rintro ⟨v4, v5⟩ res e q
  exact g_X9_halves_b26 v0 v1 v2 v3 v4 v5 h e q
noncomputable def f_X9_halves (v0 : Option Nat) (v1 : Int32) (v2 : Int32) (v3 : Int32) (h : mH) : Option (Int32) :=
  (mIs h v0 8).bind fun _ =>
  (f_X9_isLine v0 v1 v2 h).bind fun x1 =>
  if x1 = 0 then
    some (-1 : Int32)
  else
    (f_X9_isSet v0 v1 v3 h).bind fun x2 =>
    if x2 = 0 then
      some (-1 : Int32)
    else
      f_X9_halves_l26 v0 v1 v2 v3 (0 : Int32) (0 : Int32) h
set_option maxRecDepth 100000 in
set_option maxHeartbeats 4000000 in
theorem g_X9_halves {w : mWp} {Q : Option Value → mH → Prop} (v0 : Option Nat) (v1 : Int32) (v2 : Int32) (v3 : Int32) (h : mH) {res : Int32} (e : f_X9_halves v0 v1 v2 v3 h = some res) (q : (fun r : Int32 => Q (some (.int r)) h) res) : mGo w kX9_halves 0 0 0 [some (va_rf v0), some (.int v1), some (.int v2), some (.int v3), none, none, none] [] h Q := by
  unfold f_X9_halves at e
  obtain ⟨_, _, e⟩ := mBind e
  refine mGo.aload_n (n := 1) (r := v0) dX9_halves_0 rfl rfl ?_
  refine mGo.iload_n (n := 2) (x := v1) dX9_halves_1 rfl rfl ?_
  refine mGo.iload_n (n := 3) (x := v2) dX9_halves_2 rfl rfl ?_
  obtain ⟨x1, e_x1, e⟩ := mBind e
  refine mGo.callV (n := 6) (y := zX9_isLine) (R' := (mRoom (3) 0 0)) (as := [.int v1, .int v2]) (st := []) (r0 := v0) dX9_halves_3 sc_RX9_182 rfl (s_X9_isLine v0 v1 v2 h e_x1) (e_X9_isLine v0 v1 v2 h e_x1) (mFit_of rfl (Nat.le_of_ble_eq_true rfl) (by decide) (Nat.le_of_ble_eq_true rfl) (Nat.le_of_ble_eq_true rfl)) (Nat.le_of_ble_eq_true rfl) rfl rfl ?_
  intro _ _ hq
  rw [hq.1, hq.2]
  show mGo w kX9_halves 0 0 6 [some (va_rf v0), some (.int v1), some (.int v2), some (.int v3), none, none, none] [.int x1] h Q
  refine mGo.if_eq (tgt := 18) (n := 9) dX9_halves_6 (by decide) rfl (fun hc => ?_) (fun hc => ?_)
  · replace e := mIft hc e
    refine mGo.iconst (n := 19) (v := (-1 : Int32)) dX9_halves_18 (by decide) rfl ?_
    cases e
    exact mGo.iret dX9_halves_19 rfl (Nat.le_of_ble_eq_true rfl) (Nat.le_of_ble_eq_true rfl) q
  · replace e := mIff hc e
    refine mGo.aload_n (n := 10) (r := v0) dX9_halves_9 rfl rfl ?_
    refine mGo.iload_n (n := 11) (x := v1) dX9_halves_10 rfl rfl ?_
    refine mGo.iload_n (n := 12) (x := v3) dX9_halves_11 rfl rfl ?_
    obtain ⟨x2, e_x2, e⟩ := mBind e
    refine mGo.callV (n := 15) (y := zX9_isSet) (R' := (mRoom (2) 0 0)) (as := [.int v1, .int v3]) (st := []) (r0 := v0) dX9_halves_12 sc_RX9_274 rfl (s_X9_isSet v0 v1 v3 h e_x2) (e_X9_isSet v0 v1 v3 h e_x2) (mFit_of rfl (Nat.le_of_ble_eq_true rfl) (by decide) (Nat.le_of_ble_eq_true rfl) (Nat.le_of_ble_eq_true rfl)) (Nat.le_of_ble_eq_true rfl) rfl rfl ?_
    intro _ _ hq
    rw [hq.1, hq.2]
    show mGo w kX9_halves 0 0 15 [some (va_rf v0), some (.int v1), some (.int v2), some (.int v3), none, none, none] [.int x2] h Q
    refine mGo.if_ne (tgt := 20) (n := 18) dX9_halves_15 (by decide) rfl (fun hc => ?_) (fun hc => ?_)
    · replace e := mIff hc e
      refine mGo.iconst (n := 21) (v := (0 : Int32)) dX9_halves_20 (by decide) rfl ?_
      refine mGo.istore (n := 23) (ls' := [some (va_rf v0), some (.int v1), some (.int v2), some (.int v3), some (.int (0 : Int32)), none, none]) dX9_halves_21 rfl (Nat.le_of_ble_eq_true rfl) rfl ?_
      refine mGo.iconst (n := 24) (v := (0 : Int32)) dX9_halves_23 (by decide) rfl ?_
      refine mGo.istore (n := 26) (ls' := [some (va_rf v0), some (.int v1), some (.int v2), some (.int v3), some (.int (0 : Int32)), some (.int (0 : Int32)), none]) dX9_halves_24 rfl (Nat.le_of_ble_eq_true rfl) rfl ?_
      refine mGo.mk [true, true, true, true, true, true, false] ?_
      exact g_X9_halves_l26 v0 v1 v2 v3 (0 : Int32) (0 : Int32) h e q
    · replace e := mIft hc e
      refine mGo.iconst (n := 19) (v := (-1 : Int32)) dX9_halves_18 (by decide) rfl ?_
      cases e
      exact mGo.iret dX9_halves_19 rfl (Nat.le_of_ble_eq_true rfl) (Nat.le_of_ble_eq_true rfl) q
theorem e_X9_halves {w : mWp} (v0 : Option Nat) (v1 : Int32) (v2 : Int32) (v3 : Int32) (h : mH) {res : Int32} (e : f_X9_halves v0 v1 v2 v3 h = some res) : mEx w zX9_halves (mRoom 4 0 0) [va_rf v0, .int v1, .int v2, .int v3] h (fun r h2 => r = some (.int res) ∧ h2 = h) := by
  refine mEx.of (by decide +kernel) (show mEnt [va_rf v0, .int v1, .int v2, .int v3] 7 = [some (va_rf v0), some (.int v1), some (.int v2), some (.int v3), none, none, none] by rw [mEnt_r, mEnt_i, mEnt_i, mEnt_i] <;> rfl) (by simp only [List.map_cons, List.map_nil, mRfc, mCi, mCj, List.sum_cons, List.sum_nil]; exact Nat.le_of_ble_eq_true rfl) ?_
  refine g_X9_halves v0 v1 v2 v3 h e ?_
  exact ⟨rfl, rfl⟩
theorem s_X9_halves (v0 : Option Nat) (v1 : Int32) (v2 : Int32) (v3 : Int32) (h : mH) {res : Int32} (e : f_X9_halves v0 v1 v2 v3 h = some res) : mIs h v0 8 = some () := by
  unfold f_X9_halves at e
  obtain ⟨u, e1, _⟩ := mBind e
  cases u
  exact e1
-- X9_nearest
def kX9_nearest : mK := (cX9_nearest, RX9, 9, some (.int), "nearest", mRoom 3 0 0)
def zX9_nearest : mY := (yX9_nearest, cX9_nearest, 9, some (.int))
def f_X9_nearest_c99 (v0 : Option Nat) (v1 : Int32) (v2 : Int32) (v3 : Int32) (v4 : Int32) (v5 : Int32) (v6 : Int32) (v7 : Int32) (v8 : Int32) (h : mH) : Option ((Int32 × Int32 × Int32 × Int32) ⊕ (Int32)) :=
  if v8 < v5 then
    some (Sum.inl (v7, v8, (1 : Int32), (v7 + 1)))
  else
    some (Sum.inl (v4, v5, v6, (v7 + 1)))
set_option maxRecDepth 100000 in
set_option maxHeartbeats 4000000 in
theorem g_X9_nearest_c99 {w : mWp} {Q : Option Value → mH → Prop} (v0 : Option Nat) (v1 : Int32) (v2 : Int32) (v3 : Int32) (v4 : Int32) (v5 : Int32) (v6 : Int32) (v7 : Int32) (v8 : Int32) (h : mH) {res : (Int32 × Int32 × Int32 × Int32) ⊕ (Int32)} (e : f_X9_nearest_c99 v0 v1 v2 v3 v4 v5 v6 v7 v8 h = some res) (q : (Sum.elim (fun x : Int32 × Int32 × Int32 × Int32 => mGo w kX9_nearest 0 0 41 [some (va_rf v0), some (.int v1), some (.int v2), some (.int v3), some (.int x.1), some (.int x.2.1), some (.int x.2.2.1), some (.int x.2.2.2), none] [] h Q) (fun r : Int32 => Q (some (.int r)) h)) res) : mGo w kX9_nearest 0 0 99 [some (va_rf v0), some (.int v1), some (.int v2), some (.int v3), some (.int v4), some (.int v5), some (.int v6), some (.int v7), some (.int v8)] [] h Q := by
  unfold f_X9_nearest_c99 at e
  refine mGo.iload (n := 101) (x := v8) dX9_nearest_99 rfl rfl ?_
  refine mGo.iload (n := 103) (x := v5) dX9_nearest_101 rfl rfl ?_
  refine mGo.icmp_lt (tgt := 109) (n := 106) dX9_nearest_103 (by decide) rfl (fun hc => ?_) (fun hc => ?_)
  · replace e := mIft hc e
    refine mGo.iload (n := 111) (x := v8) dX9_nearest_109 rfl rfl ?_
    refine mGo.istore (n := 113) (ls' := [some (va_rf v0), some (.int v1), some (.int v2), some (.int v3), some (.int v4), some (.int v8), some (.int v6), some (.int v7), some (.int v8)]) dX9_nearest_111 rfl (Nat.le_of_ble_eq_true rfl) rfl ?_
    refine mGo.iload (n := 115) (x := v7) dX9_nearest_113 rfl rfl ?_
    refine mGo.istore (n := 117) (ls' := [some (va_rf v0), some (.int v1), some (.int v2), some (.int v3), some (.int v7), some (.int v8), some (.int v6), some (.int v7), some (.int v8)]) dX9_nearest_115 rfl (Nat.le_of_ble_eq_true rfl) rfl ?_
    refine mGo.iconst (n := 118) (v := (1 : Int32)) dX9_nearest_117 (by decide) rfl ?_
    refine mGo.istore (n := 120) (ls' := [some (va_rf v0), some (.int v1), some (.int v2), some (.int v3), some (.int v7), some (.int v8), some (.int (1 : Int32)), some (.int v7), some (.int v8)]) dX9_nearest_118 rfl (Nat.le_of_ble_eq_true rfl) rfl ?_
    refine mGo.iinc (n := 123) (x := v7) (v := (v7 + 1)) (ls' := [some (va_rf v0), some (.int v1), some (.int v2), some (.int v3), some (.int v7), some (.int v8), some (.int (1 : Int32)), some (.int (v7 + 1)), some (.int v8)]) dX9_nearest_120 rfl rfl rfl (Nat.le_of_ble_eq_true rfl) rfl ?_
    refine mGo.goto (tgt := 41) dX9_nearest_123 (by decide) ?_
    cases e
    refine mGo.mk [true, true, true, true, true, true, true, true, false] ?_
    exact q
  · replace e := mIff hc e
    refine mGo.goto (tgt := 120) dX9_nearest_106 (by decide) ?_
    refine mGo.iinc (n := 123) (x := v7) (v := (v7 + 1)) (ls' := [some (va_rf v0), some (.int v1), some (.int v2), some (.int v3), some (.int v4), some (.int v5), some (.int v6), some (.int (v7 + 1)), some (.int v8)]) dX9_nearest_120 rfl rfl rfl (Nat.le_of_ble_eq_true rfl) rfl ?_
    refine mGo.goto (tgt := 41) dX9_nearest_123 (by decide) ?_
    cases e
    refine mGo.mk [true, true, true, true, true, true, true, true, false] ?_
    exact q
def f_X9_nearest_c89 (v0 : Option Nat) (v1 : Int32) (v2 : Int32) (v3 : Int32) (v4 : Int32) (v5 : Int32) (v6 : Int32) (v7 : Int32) (v8 : Int32) (h : mH) : Option ((Int32 × Int32 × Int32 × Int32) ⊕ (Int32)) :=
  if v8 = v5 then
    f_X9_nearest_c99 v0 v1 v2 v3 v4 v5 (v6 + 1) v7 v8 h
  else
    f_X9_nearest_c99 v0 v1 v2 v3 v4 v5 v6 v7 v8 h
set_option maxRecDepth 100000 in
set_option maxHeartbeats 4000000 in
theorem g_X9_nearest_c89 {w : mWp} {Q : Option Value → mH → Prop} (v0 : Option Nat) (v1 : Int32) (v2 : Int32) (v3 : Int32) (v4 : Int32) (v5 : Int32) (v6 : Int32) (v7 : Int32) (v8 : Int32) (h : mH) {res : (Int32 × Int32 × Int32 × Int32) ⊕ (Int32)} (e : f_X9_nearest_c89 v0 v1 v2 v3 v4 v5 v6 v7 v8 h = some res) (q : (Sum.elim (fun x : Int32 × Int32 × Int32 × Int32 => mGo w kX9_nearest 0 0 41 [some (va_rf v0), some (.int v1), some (.int v2), some (.int v3), some (.int x.1), some (.int x.2.1), some (.int x.2.2.1), some (.int x.2.2.2), none] [] h Q) (fun r : Int32 => Q (some (.int r)) h)) res) : mGo w kX9_nearest 0 0 89 [some (va_rf v0), some (.int v1), some (.int v2), some (.int v3), some (.int v4), some (.int v5), some (.int v6), some (.int v7), some (.int v8)] [] h Q := by
  unfold f_X9_nearest_c89 at e
  refine mGo.iload (n := 91) (x := v8) dX9_nearest_89 rfl rfl ?_
  refine mGo.iload (n := 93) (x := v5) dX9_nearest_91 rfl rfl ?_
  refine mGo.icmp_ne (tgt := 99) (n := 96) dX9_nearest_93 (by decide) rfl (fun hc => ?_) (fun hc => ?_)
  · replace e := mIff hc e
    refine mGo.mk [true, true, true, true, true, true, true, true, true] ?_
    exact g_X9_nearest_c99 v0 v1 v2 v3 v4 v5 v6 v7 v8 h e q
  · replace e := mIft hc e
    refine mGo.iinc (n := 99) (x := v6) (v := (v6 + 1)) (ls' := [some (va_rf v0), some (.int v1), some (.int v2), some (.int v3), some (.int v4), some (.int v5), some (.int (v6 + 1)), some (.int v7), some (.int v8)]) dX9_nearest_96 rfl rfl rfl (Nat.le_of_ble_eq_true rfl) rfl ?_
    refine mGo.mk [true, true, true, true, true, true, true, true, true] ?_
    exact g_X9_nearest_c99 v0 v1 v2 v3 v4 v5 (v6 + 1) v7 v8 h e q
def f_X9_nearest_b41 (v0 : Option Nat) (v1 : Int32) (v2 : Int32) (v3 : Int32) (v4 : Int32) (v5 : Int32) (v6 : Int32) (v7 : Int32) (h : mH) : Option ((Int32 × Int32 × Int32 × Int32) ⊕ (Int32)) :=
  (mGR h v0 8 1).bind fun x1 =>
  (mAI h x1 v1).bind fun x2 =>
  if ((2 : Int32) * x2) ≤ v7 then
    if v3 = 0 then
      some (Sum.inr (v4 / (2 : Int32)))
    else
      if v3 = (1 : Int32) then
        some (Sum.inr (mRem v4 (2 : Int32)))
      else
        if v3 = (2 : Int32) then
          some (Sum.inr v5)
        else
          some (Sum.inr v6)
  else
    (f_X9_rowOf v0 v1 (v7 / (2 : Int32)) h).bind fun x3 =>
    (f_X9_bitsOf (x3 ^^^ v2)).bind fun x4 =>
    if (mRem v7 (2 : Int32)) = (1 : Int32) then
      (mGR h v0 8 1).bind fun x5 =>
      (mAI h x5 v1).bind fun x6 =>
      f_X9_nearest_c89 v0 v1 v2 v3 v4 v5 v6 v7 (x6 - x4) h
    else
      f_X9_nearest_c89 v0 v1 v2 v3 v4 v5 v6 v7 x4 h
set_option maxRecDepth 100000 in
set_option maxHeartbeats 4000000 in
theorem g_X9_nearest_b41 {w : mWp} {Q : Option Value → mH → Prop} (v0 : Option Nat) (v1 : Int32) (v2 : Int32) (v3 : Int32) (v4 : Int32) (v5 : Int32) (v6 : Int32) (v7 : Int32) (h : mH) {res : (Int32 × Int32 × Int32 × Int32) ⊕ (Int32)} (e : f_X9_nearest_b41 v0 v1 v2 v3 v4 v5 v6 v7 h = some res) (q : (Sum.elim (fun x : Int32 × Int32 × Int32 × Int32 => mGo w kX9_nearest 0 0 41 [some (va_rf v0), some (.int v1), some (.int v2), some (.int v3), some (.int x.1), some (.int x.2.1), some (.int x.2.2.1), some (.int x.2.2.2), none] [] h Q) (fun r : Int32 => Q (some (.int r)) h)) res) : mGo w kX9_nearest 0 0 41 [some (va_rf v0), some (.int v1), some (.int v2), some (.int v3), some (.int v4), some (.int v5), some (.int v6), some (.int v7), none] [] h Q := by
  unfold f_X9_nearest_b41 at e
  refine mGo.iload (n := 43) (x := v7) dX9_nearest_41 rfl rfl ?_
  refine mGo.iconst (n := 44) (v := (2 : Int32)) dX9_nearest_43 (by decide) rfl ?_
  refine mGo.aload_n (n := 45) (r := v0) dX9_nearest_44 rfl rfl ?_
  obtain ⟨x1, e_x1, e⟩ := mBind e
  refine mGo.getR (n := 48) dX9_nearest_45 sf_RX9_13 e_x1 rfl ?_
  refine mGo.iload_n (n := 49) (x := v1) dX9_nearest_48 rfl rfl ?_
  obtain ⟨x2, e_x2, e⟩ := mBind e
  refine mGo.iald (n := 50) dX9_nearest_49 e_x2 rfl ?_
  refine mGo.imul (n := 51) dX9_nearest_50 rfl ?_
  refine mGo.icmp_ge (tgt := 126) (n := 54) dX9_nearest_51 (by decide) rfl (fun hc => ?_) (fun hc => ?_)
  · replace e := mIft hc e
    refine mGo.iload_n (n := 127) (x := v3) dX9_nearest_126 rfl rfl ?_
    refine mGo.if_ne (tgt := 137) (n := 130) dX9_nearest_127 (by decide) rfl (fun hc => ?_) (fun hc => ?_)
    · replace e := mIff hc e
      refine mGo.iload_n (n := 138) (x := v3) dX9_nearest_137 rfl rfl ?_
      refine mGo.iconst (n := 139) (v := (1 : Int32)) dX9_nearest_138 (by decide) rfl ?_
      refine mGo.icmp_ne (tgt := 149) (n := 142) dX9_nearest_139 (by decide) rfl (fun hc => ?_) (fun hc => ?_)
      · replace e := mIff hc e
        refine mGo.iload_n (n := 150) (x := v3) dX9_nearest_149 rfl rfl ?_
        refine mGo.iconst (n := 151) (v := (2 : Int32)) dX9_nearest_150 (by decide) rfl ?_
        refine mGo.icmp_ne (tgt := 159) (n := 154) dX9_nearest_151 (by decide) rfl (fun hc => ?_) (fun hc => ?_)
        · replace e := mIff hc e
          refine mGo.iload (n := 161) (x := v6) dX9_nearest_159 rfl rfl ?_
          cases e
          exact mGo.iret dX9_nearest_161 rfl (Nat.le_of_ble_eq_true rfl) (Nat.le_of_ble_eq_true rfl) q
        · replace e := mIft hc e
          refine mGo.iload (n := 156) (x := v5) dX9_nearest_154 rfl rfl ?_
          refine mGo.goto (tgt := 161) dX9_nearest_156 (by decide) ?_
          cases e
          exact mGo.iret dX9_nearest_161 rfl (Nat.le_of_ble_eq_true rfl) (Nat.le_of_ble_eq_true rfl) q
      · replace e := mIft hc e
        refine mGo.iload (n := 144) (x := v4) dX9_nearest_142 rfl rfl ?_
        refine mGo.iconst (n := 145) (v := (2 : Int32)) dX9_nearest_144 (by decide) rfl ?_
        refine mGo.irem (n := 146) dX9_nearest_145 (by decide) rfl ?_
        refine mGo.goto (tgt := 161) dX9_nearest_146 (by decide) ?_
        cases e
        exact mGo.iret dX9_nearest_161 rfl (Nat.le_of_ble_eq_true rfl) (Nat.le_of_ble_eq_true rfl) q
    · replace e := mIft hc e
      refine mGo.iload (n := 132) (x := v4) dX9_nearest_130 rfl rfl ?_
      refine mGo.iconst (n := 133) (v := (2 : Int32)) dX9_nearest_132 (by decide) rfl ?_
      refine mGo.idiv (n := 134) dX9_nearest_133 (by decide) rfl ?_
      refine mGo.goto (tgt := 161) dX9_nearest_134 (by decide) ?_
      cases e
      exact mGo.iret dX9_nearest_161 rfl (Nat.le_of_ble_eq_true rfl) (Nat.le_of_ble_eq_true rfl) q
  · replace e := mIff hc e
    refine mGo.aload_n (n := 55) (r := v0) dX9_nearest_54 rfl rfl ?_
    refine mGo.iload_n (n := 56) (x := v1) dX9_nearest_55 rfl rfl ?_
    refine mGo.iload (n := 58) (x := v7) dX9_nearest_56 rfl rfl ?_
    refine mGo.iconst (n := 59) (v := (2 : Int32)) dX9_nearest_58 (by decide) rfl ?_
    refine mGo.idiv (n := 60) dX9_nearest_59 (by decide) rfl ?_
    obtain ⟨x3, e_x3, e⟩ := mBind e
    refine mGo.callV (n := 63) (y := zX9_rowOf) (R' := (mRoom (1) 0 0)) (as := [.int v1, .int (v7 / (2 : Int32))]) (st := []) (r0 := v0) dX9_nearest_60 sc_RX9_90 rfl (s_X9_rowOf v0 v1 (v7 / (2 : Int32)) h e_x3) (e_X9_rowOf v0 v1 (v7 / (2 : Int32)) h e_x3) (mFit_of rfl (Nat.le_of_ble_eq_true rfl) (by decide) (Nat.le_of_ble_eq_true rfl) (Nat.le_of_ble_eq_true rfl)) (Nat.le_of_ble_eq_true rfl) rfl rfl ?_
    intro _ _ hq
    rw [hq.1, hq.2]
    show mGo w kX9_nearest 0 0 63 [some (va_rf v0), some (.int v1), some (.int v2), some (.int v3), some (.int v4), some (.int v5), some (.int v6), some (.int v7), none] [.int x3] h Q
    refine mGo.iload_n (n := 64) (x := v2) dX9_nearest_63 rfl rfl ?_
    refine mGo.ixor (n := 65) dX9_nearest_64 rfl ?_
    obtain ⟨x4, e_x4, e⟩ := mBind e
    refine mGo.callS (n := 68) (y := zX9_bitsOf) (R' := (mRoom (1) 0 0)) (as := [.int (x3 ^^^ v2)]) (st := []) dX9_nearest_65 sc_RX9_166 rfl (e_X9_bitsOf (x3 ^^^ v2) h e_x4) (mFit_of rfl (Nat.le_of_ble_eq_true rfl) (by decide) (Nat.le_of_ble_eq_true rfl) (Nat.le_of_ble_eq_true rfl)) (Nat.le_of_ble_eq_true rfl) rfl rfl ?_
    intro _ _ hq
    rw [hq.1, hq.2]
    show mGo w kX9_nearest 0 0 68 [some (va_rf v0), some (.int v1), some (.int v2), some (.int v3), some (.int v4), some (.int v5), some (.int v6), some (.int v7), none] [.int x4] h Q
    refine mGo.istore (n := 70) (ls' := [some (va_rf v0), some (.int v1), some (.int v2), some (.int v3), some (.int v4), some (.int v5), some (.int v6), some (.int v7), some (.int x4)]) dX9_nearest_68 rfl (Nat.le_of_ble_eq_true rfl) rfl ?_
    refine mGo.iload (n := 72) (x := v7) dX9_nearest_70 rfl rfl ?_
    refine mGo.iconst (n := 73) (v := (2 : Int32)) dX9_nearest_72 (by decide) rfl ?_
    refine mGo.irem (n := 74) dX9_nearest_73 (by decide) rfl ?_
    refine mGo.iconst (n := 75) (v := (1 : Int32)) dX9_nearest_74 (by decide) rfl ?_
    refine mGo.icmp_ne (tgt := 89) (n := 78) dX9_nearest_75 (by decide) rfl (fun hc => ?_) (fun hc => ?_)
    · replace e := mIff hc e
      refine mGo.mk [true, true, true, true, true, true, true, true, true] ?_
      exact g_X9_nearest_c89 v0 v1 v2 v3 v4 v5 v6 v7 x4 h e q
    · replace e := mIft hc e
      refine mGo.aload_n (n := 79) (r := v0) dX9_nearest_78 rfl rfl ?_
      obtain ⟨x5, e_x5, e⟩ := mBind e
      refine mGo.getR (n := 82) dX9_nearest_79 sf_RX9_13 e_x5 rfl ?_
      refine mGo.iload_n (n := 83) (x := v1) dX9_nearest_82 rfl rfl ?_
      obtain ⟨x6, e_x6, e⟩ := mBind e
      refine mGo.iald (n := 84) dX9_nearest_83 e_x6 rfl ?_
      refine mGo.iload (n := 86) (x := x4) dX9_nearest_84 rfl rfl ?_
      refine mGo.isub (n := 87) dX9_nearest_86 rfl ?_
      refine mGo.istore (n := 89) (ls' := [some (va_rf v0), some (.int v1), some (.int v2), some (.int v3), some (.int v4), some (.int v5), some (.int v6), some (.int v7), some (.int (x6 - x4))]) dX9_nearest_87 rfl (Nat.le_of_ble_eq_true rfl) rfl ?_
      refine mGo.mk [true, true, true, true, true, true, true, true, true] ?_
      exact g_X9_nearest_c89 v0 v1 v2 v3 v4 v5 v6 v7 (x6 - x4) h e q
noncomputable def f_X9_nearest_l41 (v0 : Option Nat) (v1 : Int32) (v2 : Int32) (v3 : Int32) (v4 : Int32) (v5 : Int32) (v6 : Int32) (v7 : Int32) (h : mH) : Option (Int32) :=
  mLoop (fun x : Int32 × Int32 × Int32 × Int32 => f_X9_nearest_b41 v0 v1 v2 v3 x.1 x.2.1 x.2.2.1 x.2.2.2 h) (v4, v5, v6, v7)
set_option maxRecDepth 100000 in
set_option maxHeartbeats 4000000 in
theorem g_X9_nearest_l41 {w : mWp} {Q : Option Value → mH → Prop} (v0 : Option Nat) (v1 : Int32) (v2 : Int32) (v3 : Int32) (v4 : Int32) (v5 : Int32) (v6 : Int32) (v7 : Int32) (h : mH) {res : Int32} (e : f_X9_nearest_l41 v0 v1 v2 v3 v4 v5 v6 v7 h = some res) (q : (fun r : Int32 => Q (some (.int r)) h) res) : mGo w kX9_nearest 0 0 41 [some (va_rf v0), some (.int v1), some (.int v2), some (.int v3), some (.int v4), some (.int v5), some (.int v6), some (.int v7), none] [] h Q := by
  unfold f_X9_nearest_l41 at e
  refine mLoop_go (x := (v4, v5, v6, v7)) (fun x : Int32 × Int32 × Int32 × Int32 => mGo w kX9_nearest 0 0 41 [some (va_rf v0), some (.int v1), some (.int v2), some (.int v3), some (.int x.1), some (.int x.2.1), some (.int x.2.2.1), some (.int x.2.2.2), none] [] h Q) (fun r : Int32 => Q (some (.int r)) h) ?_ e q
  rintro ⟨v4, v5, v6, v7⟩ res e q
  exact g_X9_nearest_b41 v0 v1 v2 v3 v4 v5 v6 v7 h e q
noncomputable def f_X9_nearest (v0 : Option Nat) (v1 : Int32) (v2 : Int32) (v3 : Int32) (h : mH) : Option (Int32) :=
  (mIs h v0 8).bind fun _ =>
  (f_X9_isTable v0 v1 h).bind fun x1 =>
  if x1 = 0 then
    some (-1 : Int32)
  else
    (f_X9_isSet v0 v1 v2 h).bind fun x2 =>
    if x2 = 0 then
      some (-1 : Int32)
    else
      (f_X9_in v3 (0 : Int32) (3 : Int32)).bind fun x3 =>
      if x3 = 0 then
        some (-1 : Int32)
      else
        f_X9_nearest_l41 v0 v1 v2 v3 (-1 : Int32) (29 : Int32) (0 : Int32) (0 : Int32) h
set_option maxRecDepth 100000 in
set_option maxHeartbeats 4000000 in
theorem g_X9_nearest {w : mWp} {Q : Option Value → mH → Prop} (v0 : Option Nat) (v1 : Int32) (v2 : Int32) (v3 : Int32) (h : mH) {res : Int32} (e : f_X9_nearest v0 v1 v2 v3 h = some res) (q : (fun r : Int32 => Q (some (.int r)) h) res) : mGo w kX9_nearest 0 0 0 [some (va_rf v0), some (.int v1), some (.int v2), some (.int v3), none, none, none, none, none] [] h Q := by
  unfold f_X9_nearest at e
  obtain ⟨_, _, e⟩ := mBind e
  refine mGo.aload_n (n := 1) (r := v0) dX9_nearest_0 rfl rfl ?_
  refine mGo.iload_n (n := 2) (x := v1) dX9_nearest_1 rfl rfl ?_
  obtain ⟨x1, e_x1, e⟩ := mBind e
  refine mGo.callV (n := 5) (y := zX9_isTable) (R' := (mRoom (2) 0 0)) (as := [.int v1]) (st := []) (r0 := v0) dX9_nearest_2 sc_RX9_86 rfl (s_X9_isTable v0 v1 h e_x1) (e_X9_isTable v0 v1 h e_x1) (mFit_of rfl (Nat.le_of_ble_eq_true rfl) (by decide) (Nat.le_of_ble_eq_true rfl) (Nat.le_of_ble_eq_true rfl)) (Nat.le_of_ble_eq_true rfl) rfl rfl ?_
  intro _ _ hq
  rw [hq.1, hq.2]
  show mGo w kX9_nearest 0 0 5 [some (va_rf v0), some (.int v1), some (.int v2), some (.int v3), none, none, none, none, none] [.int x1] h Q
  refine mGo.if_eq (tgt := 26) (n := 8) dX9_nearest_5 (by decide) rfl (fun hc => ?_) (fun hc => ?_)
  · replace e := mIft hc e
    refine mGo.iconst (n := 27) (v := (-1 : Int32)) dX9_nearest_26 (by decide) rfl ?_
    cases e
    exact mGo.iret dX9_nearest_27 rfl (Nat.le_of_ble_eq_true rfl) (Nat.le_of_ble_eq_true rfl) q
  · replace e := mIff hc e
    refine mGo.aload_n (n := 9) (r := v0) dX9_nearest_8 rfl rfl ?_
    refine mGo.iload_n (n := 10) (x := v1) dX9_nearest_9 rfl rfl ?_
    refine mGo.iload_n (n := 11) (x := v2) dX9_nearest_10 rfl rfl ?_
    obtain ⟨x2, e_x2, e⟩ := mBind e
    refine mGo.callV (n := 14) (y := zX9_isSet) (R' := (mRoom (2) 0 0)) (as := [.int v1, .int v2]) (st := []) (r0 := v0) dX9_nearest_11 sc_RX9_274 rfl (s_X9_isSet v0 v1 v2 h e_x2) (e_X9_isSet v0 v1 v2 h e_x2) (mFit_of rfl (Nat.le_of_ble_eq_true rfl) (by decide) (Nat.le_of_ble_eq_true rfl) (Nat.le_of_ble_eq_true rfl)) (Nat.le_of_ble_eq_true rfl) rfl rfl ?_
    intro _ _ hq
    rw [hq.1, hq.2]
    show mGo w kX9_nearest 0 0 14 [some (va_rf v0), some (.int v1), some (.int v2), some (.int v3), none, none, none, none, none] [.int x2] h Q
    refine mGo.if_eq (tgt := 26) (n := 17) dX9_nearest_14 (by decide) rfl (fun hc => ?_) (fun hc => ?_)
    · replace e := mIft hc e
      refine mGo.iconst (n := 27) (v := (-1 : Int32)) dX9_nearest_26 (by decide) rfl ?_
      cases e
      exact mGo.iret dX9_nearest_27 rfl (Nat.le_of_ble_eq_true rfl) (Nat.le_of_ble_eq_true rfl) q
    · replace e := mIff hc e
      refine mGo.iload_n (n := 18) (x := v3) dX9_nearest_17 rfl rfl ?_
      refine mGo.iconst (n := 19) (v := (0 : Int32)) dX9_nearest_18 (by decide) rfl ?_
      refine mGo.iconst (n := 20) (v := (3 : Int32)) dX9_nearest_19 (by decide) rfl ?_
      obtain ⟨x3, e_x3, e⟩ := mBind e
      refine mGo.callS (n := 23) (y := zX9_in) (R' := (mRoom (1) 0 0)) (as := [.int v3, .int (0 : Int32), .int (3 : Int32)]) (st := []) dX9_nearest_20 sc_RX9_82 rfl (e_X9_in v3 (0 : Int32) (3 : Int32) h e_x3) (mFit_of rfl (Nat.le_of_ble_eq_true rfl) (by decide) (Nat.le_of_ble_eq_true rfl) (Nat.le_of_ble_eq_true rfl)) (Nat.le_of_ble_eq_true rfl) rfl rfl ?_
      intro _ _ hq
      rw [hq.1, hq.2]
      show mGo w kX9_nearest 0 0 23 [some (va_rf v0), some (.int v1), some (.int v2), some (.int v3), none, none, none, none, none] [.int x3] h Q
      refine mGo.if_ne (tgt := 28) (n := 26) dX9_nearest_23 (by decide) rfl (fun hc => ?_) (fun hc => ?_)
      · replace e := mIff hc e
        refine mGo.iconst (n := 29) (v := (-1 : Int32)) dX9_nearest_28 (by decide) rfl ?_
        refine mGo.istore (n := 31) (ls' := [some (va_rf v0), some (.int v1), some (.int v2), some (.int v3), some (.int (-1 : Int32)), none, none, none, none]) dX9_nearest_29 rfl (Nat.le_of_ble_eq_true rfl) rfl ?_
        refine mGo.bipush (n := 33) (v := (29 : Int32)) dX9_nearest_31 (by decide) rfl ?_
        refine mGo.istore (n := 35) (ls' := [some (va_rf v0), some (.int v1), some (.int v2), some (.int v3), some (.int (-1 : Int32)), some (.int (29 : Int32)), none, none, none]) dX9_nearest_33 rfl (Nat.le_of_ble_eq_true rfl) rfl ?_
        refine mGo.iconst (n := 36) (v := (0 : Int32)) dX9_nearest_35 (by decide) rfl ?_
        refine mGo.istore (n := 38) (ls' := [some (va_rf v0), some (.int v1), some (.int v2), some (.int v3), some (.int (-1 : Int32)), some (.int (29 : Int32)), some (.int (0 : Int32)), none, none]) dX9_nearest_36 rfl (Nat.le_of_ble_eq_true rfl) rfl ?_
        refine mGo.iconst (n := 39) (v := (0 : Int32)) dX9_nearest_38 (by decide) rfl ?_
        refine mGo.istore (n := 41) (ls' := [some (va_rf v0), some (.int v1), some (.int v2), some (.int v3), some (.int (-1 : Int32)), some (.int (29 : Int32)), some (.int (0 : Int32)), some (.int (0 : Int32)), none]) dX9_nearest_39 rfl (Nat.le_of_ble_eq_true rfl) rfl ?_
        refine mGo.mk [true, true, true, true, true, true, true, true, false] ?_
        exact g_X9_nearest_l41 v0 v1 v2 v3 (-1 : Int32) (29 : Int32) (0 : Int32) (0 : Int32) h e q
      · replace e := mIft hc e
        refine mGo.iconst (n := 27) (v := (-1 : Int32)) dX9_nearest_26 (by decide) rfl ?_
        cases e
        exact mGo.iret dX9_nearest_27 rfl (Nat.le_of_ble_eq_true rfl) (Nat.le_of_ble_eq_true rfl) q
theorem e_X9_nearest {w : mWp} (v0 : Option Nat) (v1 : Int32) (v2 : Int32) (v3 : Int32) (h : mH) {res : Int32} (e : f_X9_nearest v0 v1 v2 v3 h = some res) : mEx w zX9_nearest (mRoom 3 0 0) [va_rf v0, .int v1, .int v2, .int v3] h (fun r h2 => r = some (.int res) ∧ h2 = h) := by
  refine mEx.of (by decide +kernel) (show mEnt [va_rf v0, .int v1, .int v2, .int v3] 9 = [some (va_rf v0), some (.int v1), some (.int v2), some (.int v3), none, none, none, none, none] by rw [mEnt_r, mEnt_i, mEnt_i, mEnt_i] <;> rfl) (by simp only [List.map_cons, List.map_nil, mRfc, mCi, mCj, List.sum_cons, List.sum_nil]; exact Nat.le_of_ble_eq_true rfl) ?_
  refine g_X9_nearest v0 v1 v2 v3 h e ?_
  exact ⟨rfl, rfl⟩
theorem s_X9_nearest (v0 : Option Nat) (v1 : Int32) (v2 : Int32) (v3 : Int32) (h : mH) {res : Int32} (e : f_X9_nearest v0 v1 v2 v3 h = some res) : mIs h v0 8 = some () := by
  unfold f_X9_nearest at e
  obtain ⟨u, e1, _⟩ := mBind e
  cases u
  exact e1
-- X9_signal
def kX9_signal : mK := (cX9_signal, RX9, 4, some (.int), "signal", mRoom 2 0 0)
def zX9_signal : mY := (yX9_signal, cX9_signal, 4, some (.int))
def f_X9_signal (v0 : Option Nat) (v1 : Int32) (v2 : Int32) (h : mH) : Option (Int32 × mH) :=
  (mIs h v0 8).bind fun _ =>
  (f_X9_in v1 (0 : Int32) (27 : Int32)).bind fun x1 =>
  if x1 = 0 then
    some ((-1000 : Int32), h)
  else
    (f_X9_in v2 (-999 : Int32) (999 : Int32)).bind fun x2 =>
    if x2 = 0 then
      some ((-1000 : Int32), h)
    else
      (mGR h v0 8 23).bind fun x3 =>
      (mAI h x3 v1).bind fun x4 =>
      (mGR h v0 8 23).bind fun x5 =>
      (mSI h x5 v1 v2).bind fun h6 =>
      some (x4, h6)
set_option maxRecDepth 100000 in
set_option maxHeartbeats 4000000 in
theorem g_X9_signal {w : mWp} {Q : Option Value → mH → Prop} (v0 : Option Nat) (v1 : Int32) (v2 : Int32) (h : mH) {res : Int32 × mH} (e : f_X9_signal v0 v1 v2 h = some res) (q : (fun r : Int32 × mH => Q (some (.int r.1)) r.2) res) : mGo w kX9_signal 0 0 0 [some (va_rf v0), some (.int v1), some (.int v2), none] [] h Q := by
  unfold f_X9_signal at e
  obtain ⟨_, _, e⟩ := mBind e
  refine mGo.iload_n (n := 1) (x := v1) dX9_signal_0 rfl rfl ?_
  refine mGo.iconst (n := 2) (v := (0 : Int32)) dX9_signal_1 (by decide) rfl ?_
  refine mGo.bipush (n := 4) (v := (27 : Int32)) dX9_signal_2 (by decide) rfl ?_
  obtain ⟨x1, e_x1, e⟩ := mBind e
  refine mGo.callS (n := 7) (y := zX9_in) (R' := (mRoom (1) 0 0)) (as := [.int v1, .int (0 : Int32), .int (27 : Int32)]) (st := []) dX9_signal_4 sc_RX9_82 rfl (e_X9_in v1 (0 : Int32) (27 : Int32) h e_x1) (mFit_of rfl (Nat.le_of_ble_eq_true rfl) (by decide) (Nat.le_of_ble_eq_true rfl) (Nat.le_of_ble_eq_true rfl)) (Nat.le_of_ble_eq_true rfl) rfl rfl ?_
  intro _ _ hq
  rw [hq.1, hq.2]
  show mGo w kX9_signal 0 0 7 [some (va_rf v0), some (.int v1), some (.int v2), none] [.int x1] h Q
  refine mGo.if_eq (tgt := 23) (n := 10) dX9_signal_7 (by decide) rfl (fun hc => ?_) (fun hc => ?_)
  · replace e := mIft hc e
    refine mGo.sipush (n := 26) (v := (-1000 : Int32)) dX9_signal_23 (by decide) rfl ?_
    cases e
    exact mGo.iret dX9_signal_26 rfl (Nat.le_of_ble_eq_true rfl) (Nat.le_of_ble_eq_true rfl) q
  · replace e := mIff hc e
    refine mGo.iload_n (n := 11) (x := v2) dX9_signal_10 rfl rfl ?_
    refine mGo.sipush (n := 14) (v := (-999 : Int32)) dX9_signal_11 (by decide) rfl ?_
    refine mGo.sipush (n := 17) (v := (999 : Int32)) dX9_signal_14 (by decide) rfl ?_
    obtain ⟨x2, e_x2, e⟩ := mBind e
    refine mGo.callS (n := 20) (y := zX9_in) (R' := (mRoom (1) 0 0)) (as := [.int v2, .int (-999 : Int32), .int (999 : Int32)]) (st := []) dX9_signal_17 sc_RX9_82 rfl (e_X9_in v2 (-999 : Int32) (999 : Int32) h e_x2) (mFit_of rfl (Nat.le_of_ble_eq_true rfl) (by decide) (Nat.le_of_ble_eq_true rfl) (Nat.le_of_ble_eq_true rfl)) (Nat.le_of_ble_eq_true rfl) rfl rfl ?_
    intro _ _ hq
    rw [hq.1, hq.2]
    show mGo w kX9_signal 0 0 20 [some (va_rf v0), some (.int v1), some (.int v2), none] [.int x2] h Q
    refine mGo.if_ne (tgt := 27) (n := 23) dX9_signal_20 (by decide) rfl (fun hc => ?_) (fun hc => ?_)
    · replace e := mIff hc e
      refine mGo.aload_n (n := 28) (r := v0) dX9_signal_27 rfl rfl ?_
      obtain ⟨x3, e_x3, e⟩ := mBind e
      refine mGo.getR (n := 31) dX9_signal_28 sf_RX9_72 e_x3 rfl ?_
      refine mGo.iload_n (n := 32) (x := v1) dX9_signal_31 rfl rfl ?_
      obtain ⟨x4, e_x4, e⟩ := mBind e
      refine mGo.iald (n := 33) dX9_signal_32 e_x4 rfl ?_
      refine mGo.istore_n (n := 34) (ls' := [some (va_rf v0), some (.int v1), some (.int v2), some (.int x4)]) dX9_signal_33 rfl (Nat.le_of_ble_eq_true rfl) rfl ?_
      refine mGo.aload_n (n := 35) (r := v0) dX9_signal_34 rfl rfl ?_
      obtain ⟨x5, e_x5, e⟩ := mBind e
      refine mGo.getR (n := 38) dX9_signal_35 sf_RX9_72 e_x5 rfl ?_
      refine mGo.iload_n (n := 39) (x := v1) dX9_signal_38 rfl rfl ?_
      refine mGo.iload_n (n := 40) (x := v2) dX9_signal_39 rfl rfl ?_
      obtain ⟨h6, e_h6, e⟩ := mBind e
      refine mGo.iast (n := 41) dX9_signal_40 e_h6 rfl ?_
      refine mGo.iload_n (n := 42) (x := x4) dX9_signal_41 rfl rfl ?_
      cases e
      exact mGo.iret dX9_signal_42 rfl (Nat.le_of_ble_eq_true rfl) (Nat.le_of_ble_eq_true rfl) q
    · replace e := mIft hc e
      refine mGo.sipush (n := 26) (v := (-1000 : Int32)) dX9_signal_23 (by decide) rfl ?_
      cases e
      exact mGo.iret dX9_signal_26 rfl (Nat.le_of_ble_eq_true rfl) (Nat.le_of_ble_eq_true rfl) q
theorem e_X9_signal {w : mWp} (v0 : Option Nat) (v1 : Int32) (v2 : Int32) (h : mH) {res : Int32 × mH} (e : f_X9_signal v0 v1 v2 h = some res) : mEx w zX9_signal (mRoom 2 0 0) [va_rf v0, .int v1, .int v2] h (fun r h2 => r = some (.int res.1) ∧ h2 = res.2) := by
  refine mEx.of (by decide +kernel) (show mEnt [va_rf v0, .int v1, .int v2] 4 = [some (va_rf v0), some (.int v1), some (.int v2), none] by rw [mEnt_r, mEnt_i, mEnt_i] <;> rfl) (by simp only [List.map_cons, List.map_nil, mRfc, mCi, mCj, List.sum_cons, List.sum_nil]; exact Nat.le_of_ble_eq_true rfl) ?_
  refine g_X9_signal v0 v1 v2 h e ?_
  exact ⟨rfl, rfl⟩
theorem s_X9_signal (v0 : Option Nat) (v1 : Int32) (v2 : Int32) (h : mH) {res : Int32 × mH} (e : f_X9_signal v0 v1 v2 h = some res) : mIs h v0 8 = some () := by
  unfold f_X9_signal at e
  obtain ⟨u, e1, _⟩ := mBind e
  cases u
  exact e1
-- X9_spectrumAt
def kX9_spectrumAt : mK := (cX9_spectrumAt, RX9, 5, some (.int), "spectrumAt", mRoom 3 0 0)
def zX9_spectrumAt : mY := (yX9_spectrumAt, cX9_spectrumAt, 5, some (.int))
def f_X9_spectrumAt_c46 (v0 : Option Nat) (v1 : Int32) (v2 : Int32) (v4 : Int32) (s0 : Int32) (s1 : Int32) (h : mH) : Option ((Int32 × Int32) ⊕ (Int32)) :=
  some (Sum.inl ((s0 + s1), (v4 + 1)))
set_option maxRecDepth 100000 in
set_option maxHeartbeats 4000000 in
theorem g_X9_spectrumAt_c46 {w : mWp} {Q : Option Value → mH → Prop} (v0 : Option Nat) (v1 : Int32) (v2 : Int32) (v4 : Int32) (s0 : Int32) (s1 : Int32) (h : mH) {res : (Int32 × Int32) ⊕ (Int32)} (e : f_X9_spectrumAt_c46 v0 v1 v2 v4 s0 s1 h = some res) (q : (Sum.elim (fun x : Int32 × Int32 => mGo w kX9_spectrumAt 0 0 5 [some (va_rf v0), some (.int v1), some (.int v2), some (.int x.1), some (.int x.2)] [] h Q) (fun r : Int32 => Q (some (.int r)) h)) res) : mGo w kX9_spectrumAt 0 0 46 [some (va_rf v0), some (.int v1), some (.int v2), none, some (.int v4)] [.int s1, .int s0] h Q := by
  unfold f_X9_spectrumAt_c46 at e
  refine mGo.iadd (n := 47) dX9_spectrumAt_46 rfl ?_
  refine mGo.istore_n (n := 48) (ls' := [some (va_rf v0), some (.int v1), some (.int v2), some (.int (s0 + s1)), some (.int v4)]) dX9_spectrumAt_47 rfl (Nat.le_of_ble_eq_true rfl) rfl ?_
  refine mGo.iinc (n := 51) (x := v4) (v := (v4 + 1)) (ls' := [some (va_rf v0), some (.int v1), some (.int v2), some (.int (s0 + s1)), some (.int (v4 + 1))]) dX9_spectrumAt_48 rfl rfl rfl (Nat.le_of_ble_eq_true rfl) rfl ?_
  refine mGo.goto (tgt := 5) dX9_spectrumAt_51 (by decide) ?_
  cases e
  refine mGo.mk [true, true, true, true, true] ?_
  exact q
def f_X9_spectrumAt_b5 (v0 : Option Nat) (v1 : Int32) (v2 : Int32) (v3 : Int32) (v4 : Int32) (h : mH) : Option ((Int32 × Int32) ⊕ (Int32)) :=
  (mGR h v0 8 1).bind fun x1 =>
  (mAI h x1 v1).bind fun x2 =>
  if x2 ≤ v4 then
    some (Sum.inr v3)
  else
    (f_X9_isMinus v0 v1 v2 v4 h).bind fun x3 =>
    if x3 = 0 then
      (mGR h v0 8 23).bind fun x4 =>
      (mAI h x4 v4).bind fun x5 =>
      f_X9_spectrumAt_c46 v0 v1 v2 v4 v3 x5 h
    else
      (mGR h v0 8 23).bind fun x6 =>
      (mAI h x6 v4).bind fun x7 =>
      f_X9_spectrumAt_c46 v0 v1 v2 v4 v3 (-x7) h
set_option maxRecDepth 100000 in
set_option maxHeartbeats 4000000 in
theorem g_X9_spectrumAt_b5 {w : mWp} {Q : Option Value → mH → Prop} (v0 : Option Nat) (v1 : Int32) (v2 : Int32) (v3 : Int32) (v4 : Int32) (h : mH) {res : (Int32 × Int32) ⊕ (Int32)} (e : f_X9_spectrumAt_b5 v0 v1 v2 v3 v4 h = some res) (q : (Sum.elim (fun x : Int32 × Int32 => mGo w kX9_spectrumAt 0 0 5 [some (va_rf v0), some (.int v1), some (.int v2), some (.int x.1), some (.int x.2)] [] h Q) (fun r : Int32 => Q (some (.int r)) h)) res) : mGo w kX9_spectrumAt 0 0 5 [some (va_rf v0), some (.int v1), some (.int v2), some (.int v3), some (.int v4)] [] h Q := by
  unfold f_X9_spectrumAt_b5 at e
  refine mGo.iload (n := 7) (x := v4) dX9_spectrumAt_5 rfl rfl ?_
  refine mGo.aload_n (n := 8) (r := v0) dX9_spectrumAt_7 rfl rfl ?_
  obtain ⟨x1, e_x1, e⟩ := mBind e
  refine mGo.getR (n := 11) dX9_spectrumAt_8 sf_RX9_13 e_x1 rfl ?_
  refine mGo.iload_n (n := 12) (x := v1) dX9_spectrumAt_11 rfl rfl ?_
  obtain ⟨x2, e_x2, e⟩ := mBind e
  refine mGo.iald (n := 13) dX9_spectrumAt_12 e_x2 rfl ?_
  refine mGo.icmp_ge (tgt := 54) (n := 16) dX9_spectrumAt_13 (by decide) rfl (fun hc => ?_) (fun hc => ?_)
  · replace e := mIft hc e
    refine mGo.iload_n (n := 55) (x := v3) dX9_spectrumAt_54 rfl rfl ?_
    cases e
    exact mGo.iret dX9_spectrumAt_55 rfl (Nat.le_of_ble_eq_true rfl) (Nat.le_of_ble_eq_true rfl) q
  · replace e := mIff hc e
    refine mGo.iload_n (n := 17) (x := v3) dX9_spectrumAt_16 rfl rfl ?_
    refine mGo.aload_n (n := 18) (r := v0) dX9_spectrumAt_17 rfl rfl ?_
    refine mGo.iload_n (n := 19) (x := v1) dX9_spectrumAt_18 rfl rfl ?_
    refine mGo.iload_n (n := 20) (x := v2) dX9_spectrumAt_19 rfl rfl ?_
    refine mGo.iload (n := 22) (x := v4) dX9_spectrumAt_20 rfl rfl ?_
    obtain ⟨x3, e_x3, e⟩ := mBind e
    refine mGo.callV (n := 25) (y := zX9_isMinus) (R' := (mRoom (2) 0 0)) (as := [.int v1, .int v2, .int v4]) (st := [.int v3]) (r0 := v0) dX9_spectrumAt_22 sc_RX9_98 rfl (s_X9_isMinus v0 v1 v2 v4 h e_x3) (e_X9_isMinus v0 v1 v2 v4 h e_x3) (mFit_of rfl (Nat.le_of_ble_eq_true rfl) (by decide) (Nat.le_of_ble_eq_true rfl) (Nat.le_of_ble_eq_true rfl)) (Nat.le_of_ble_eq_true rfl) rfl rfl ?_
    intro _ _ hq
    rw [hq.1, hq.2]
    show mGo w kX9_spectrumAt 0 0 25 [some (va_rf v0), some (.int v1), some (.int v2), some (.int v3), some (.int v4)] [.int x3, .int v3] h Q
    refine mGo.if_eq (tgt := 39) (n := 28) dX9_spectrumAt_25 (by decide) rfl (fun hc => ?_) (fun hc => ?_)
    · replace e := mIft hc e
      refine mGo.aload_n (n := 40) (r := v0) dX9_spectrumAt_39 rfl rfl ?_
      obtain ⟨x4, e_x4, e⟩ := mBind e
      refine mGo.getR (n := 43) dX9_spectrumAt_40 sf_RX9_72 e_x4 rfl ?_
      refine mGo.iload (n := 45) (x := v4) dX9_spectrumAt_43 rfl rfl ?_
      obtain ⟨x5, e_x5, e⟩ := mBind e
      refine mGo.iald (n := 46) dX9_spectrumAt_45 e_x5 rfl ?_
      refine mGo.mk [true, true, true, false, true] ?_
      exact g_X9_spectrumAt_c46 v0 v1 v2 v4 v3 x5 h e q
    · replace e := mIff hc e
      refine mGo.aload_n (n := 29) (r := v0) dX9_spectrumAt_28 rfl rfl ?_
      obtain ⟨x6, e_x6, e⟩ := mBind e
      refine mGo.getR (n := 32) dX9_spectrumAt_29 sf_RX9_72 e_x6 rfl ?_
      refine mGo.iload (n := 34) (x := v4) dX9_spectrumAt_32 rfl rfl ?_
      obtain ⟨x7, e_x7, e⟩ := mBind e
      refine mGo.iald (n := 35) dX9_spectrumAt_34 e_x7 rfl ?_
      refine mGo.ineg (n := 36) dX9_spectrumAt_35 rfl ?_
      refine mGo.goto (tgt := 46) dX9_spectrumAt_36 (by decide) ?_
      refine mGo.mk [true, true, true, false, true] ?_
      exact g_X9_spectrumAt_c46 v0 v1 v2 v4 v3 (-x7) h e q
noncomputable def f_X9_spectrumAt_l5 (v0 : Option Nat) (v1 : Int32) (v2 : Int32) (v3 : Int32) (v4 : Int32) (h : mH) : Option (Int32) :=
  mLoop (fun x : Int32 × Int32 => f_X9_spectrumAt_b5 v0 v1 v2 x.1 x.2 h) (v3, v4)
set_option maxRecDepth 100000 in
set_option maxHeartbeats 4000000 in
theorem g_X9_spectrumAt_l5 {w : mWp} {Q : Option Value → mH → Prop} (v0 : Option Nat) (v1 : Int32) (v2 : Int32) (v3 : Int32) (v4 : Int32) (h : mH) {res : Int32} (e : f_X9_spectrumAt_l5 v0 v1 v2 v3 v4 h = some res) (q : (fun r : Int32 => Q (some (.int r)) h) res) : mGo w kX9_spectrumAt 0 0 5 [some (va_rf v0), some (.int v1), some (.int v2), some (.int v3), some (.int v4)] [] h Q := by
  unfold f_X9_spectrumAt_l5 at e
  refine mLoop_go (x := (v3, v4)) (fun x : Int32 × Int32 => mGo w kX9_spectrumAt 0 0 5 [some (va_rf v0), some (.int v1), some (.int v2), some (.int x.1), some (.int x.2)] [] h Q) (fun r : Int32 => Q (some (.int r)) h) ?_ e q
  rintro ⟨v3, v4⟩ res e q
  exact g_X9_spectrumAt_b5 v0 v1 v2 v3 v4 h e q
noncomputable def f_X9_spectrumAt (v0 : Option Nat) (v1 : Int32) (v2 : Int32) (h : mH) : Option (Int32) :=
  (mIs h v0 8).bind fun _ =>
  f_X9_spectrumAt_l5 v0 v1 v2 (0 : Int32) (0 : Int32) h
set_option maxRecDepth 100000 in
set_option maxHeartbeats 4000000 in
theorem g_X9_spectrumAt {w : mWp} {Q : Option Value → mH → Prop} (v0 : Option Nat) (v1 : Int32) (v2 : Int32) (h : mH) {res : Int32} (e : f_X9_spectrumAt v0 v1 v2 h = some res) (q : (fun r : Int32 => Q (some (.int r)) h) res) : mGo w kX9_spectrumAt 0 0 0 [some (va_rf v0), some (.int v1), some (.int v2), none, none] [] h Q := by
  unfold f_X9_spectrumAt at e
  obtain ⟨_, _, e⟩ := mBind e
  refine mGo.iconst (n := 1) (v := (0 : Int32)) dX9_spectrumAt_0 (by decide) rfl ?_
  refine mGo.istore_n (n := 2) (ls' := [some (va_rf v0), some (.int v1), some (.int v2), some (.int (0 : Int32)), none]) dX9_spectrumAt_1 rfl (Nat.le_of_ble_eq_true rfl) rfl ?_
  refine mGo.iconst (n := 3) (v := (0 : Int32)) dX9_spectrumAt_2 (by decide) rfl ?_
  refine mGo.istore (n := 5) (ls' := [some (va_rf v0), some (.int v1), some (.int v2), some (.int (0 : Int32)), some (.int (0 : Int32))]) dX9_spectrumAt_3 rfl (Nat.le_of_ble_eq_true rfl) rfl ?_
  refine mGo.mk [true, true, true, true, true] ?_
  exact g_X9_spectrumAt_l5 v0 v1 v2 (0 : Int32) (0 : Int32) h e q
theorem e_X9_spectrumAt {w : mWp} (v0 : Option Nat) (v1 : Int32) (v2 : Int32) (h : mH) {res : Int32} (e : f_X9_spectrumAt v0 v1 v2 h = some res) : mEx w zX9_spectrumAt (mRoom 3 0 0) [va_rf v0, .int v1, .int v2] h (fun r h2 => r = some (.int res) ∧ h2 = h) := by
  refine mEx.of (by decide +kernel) (show mEnt [va_rf v0, .int v1, .int v2] 5 = [some (va_rf v0), some (.int v1), some (.int v2), none, none] by rw [mEnt_r, mEnt_i, mEnt_i] <;> rfl) (by simp only [List.map_cons, List.map_nil, mRfc, mCi, mCj, List.sum_cons, List.sum_nil]; exact Nat.le_of_ble_eq_true rfl) ?_
  refine g_X9_spectrumAt v0 v1 v2 h e ?_
  exact ⟨rfl, rfl⟩
theorem s_X9_spectrumAt (v0 : Option Nat) (v1 : Int32) (v2 : Int32) (h : mH) {res : Int32} (e : f_X9_spectrumAt v0 v1 v2 h = some res) : mIs h v0 8 = some () := by
  unfold f_X9_spectrumAt at e
  obtain ⟨u, e1, _⟩ := mBind e
  cases u
  exact e1
-- X9_spectrum
def kX9_spectrum : mK := (cX9_spectrum, RX9, 6, some (.int), "spectrum", mRoom 4 0 0)
def zX9_spectrum : mY := (yX9_spectrum, cX9_spectrum, 6, some (.int))
set_option maxRecDepth 100000 in
theorem sc_RX9_278 : mSV RX9 278 zX9_spectrumAt 2 8 := ⟨Or.inl (mT_at 1243 (by decide +kernel) rfl), mT_at 1245 (by decide +kernel) rfl, mT_at 80 (by decide +kernel) rfl, mT_at 91 (by decide +kernel) rfl, mT_at 1246 (by decide +kernel) rfl, ⟨by decide +kernel, by decide +kernel, by decide +kernel⟩, by decide, rfl⟩
def f_X9_spectrum_c72 (v0 : Option Nat) (v1 : Int32) (v2 : Int32) (v5 : Int32) (s0 : Int32) (s1 : Int32) (h : mH) : Option ((Int32 × Int32) ⊕ (Int32)) :=
  some (Sum.inl ((s0 + s1), (v5 + 1)))
set_option maxRecDepth 100000 in
set_option maxHeartbeats 4000000 in
theorem g_X9_spectrum_c72 {w : mWp} {Q : Option Value → mH → Prop} (v0 : Option Nat) (v1 : Int32) (v2 : Int32) (v5 : Int32) (s0 : Int32) (s1 : Int32) (h : mH) {res : (Int32 × Int32) ⊕ (Int32)} (e : f_X9_spectrum_c72 v0 v1 v2 v5 s0 s1 h = some res) (q : (Sum.elim (fun x : Int32 × Int32 => mGo w kX9_spectrum 0 0 30 [some (va_rf v0), some (.int v1), some (.int v2), none, some (.int x.1), some (.int x.2)] [] h Q) (fun r : Int32 => Q (some (.int r)) h)) res) : mGo w kX9_spectrum 0 0 72 [some (va_rf v0), some (.int v1), some (.int v2), none, none, some (.int v5)] [.int s1, .int s0] h Q := by
  unfold f_X9_spectrum_c72 at e
  refine mGo.iadd (n := 73) dX9_spectrum_72 rfl ?_
  refine mGo.istore (n := 75) (ls' := [some (va_rf v0), some (.int v1), some (.int v2), none, some (.int (s0 + s1)), some (.int v5)]) dX9_spectrum_73 rfl (Nat.le_of_ble_eq_true rfl) rfl ?_
  refine mGo.iinc (n := 78) (x := v5) (v := (v5 + 1)) (ls' := [some (va_rf v0), some (.int v1), some (.int v2), none, some (.int (s0 + s1)), some (.int (v5 + 1))]) dX9_spectrum_75 rfl rfl rfl (Nat.le_of_ble_eq_true rfl) rfl ?_
  refine mGo.goto (tgt := 30) dX9_spectrum_78 (by decide) ?_
  cases e
  refine mGo.mk [true, true, true, false, true, true] ?_
  exact q
noncomputable def f_X9_spectrum_b30 (v0 : Option Nat) (v1 : Int32) (v2 : Int32) (v4 : Int32) (v5 : Int32) (h : mH) : Option ((Int32 × Int32) ⊕ (Int32)) :=
  (mGR h v0 8 1).bind fun x1 =>
  (mAI h x1 v1).bind fun x2 =>
  if x2 ≤ v5 then
    some (Sum.inr v4)
  else
    (f_X9_isMinus v0 v1 v5 v2 h).bind fun x3 =>
    if x3 = 0 then
      (f_X9_spectrumAt v0 v1 v5 h).bind fun x4 =>
      f_X9_spectrum_c72 v0 v1 v2 v5 v4 x4 h
    else
      (f_X9_spectrumAt v0 v1 v5 h).bind fun x5 =>
      f_X9_spectrum_c72 v0 v1 v2 v5 v4 (-x5) h
set_option maxRecDepth 100000 in
set_option maxHeartbeats 4000000 in
theorem g_X9_spectrum_b30 {w : mWp} {Q : Option Value → mH → Prop} (v0 : Option Nat) (v1 : Int32) (v2 : Int32) (v4 : Int32) (v5 : Int32) (h : mH) {res : (Int32 × Int32) ⊕ (Int32)} (e : f_X9_spectrum_b30 v0 v1 v2 v4 v5 h = some res) (q : (Sum.elim (fun x : Int32 × Int32 => mGo w kX9_spectrum 0 0 30 [some (va_rf v0), some (.int v1), some (.int v2), none, some (.int x.1), some (.int x.2)] [] h Q) (fun r : Int32 => Q (some (.int r)) h)) res) : mGo w kX9_spectrum 0 0 30 [some (va_rf v0), some (.int v1), some (.int v2), none, some (.int v4), some (.int v5)] [] h Q := by
  unfold f_X9_spectrum_b30 at e
  refine mGo.iload (n := 32) (x := v5) dX9_spectrum_30 rfl rfl ?_
  refine mGo.aload_n (n := 33) (r := v0) dX9_spectrum_32 rfl rfl ?_
  obtain ⟨x1, e_x1, e⟩ := mBind e
  refine mGo.getR (n := 36) dX9_spectrum_33 sf_RX9_13 e_x1 rfl ?_
  refine mGo.iload_n (n := 37) (x := v1) dX9_spectrum_36 rfl rfl ?_
  obtain ⟨x2, e_x2, e⟩ := mBind e
  refine mGo.iald (n := 38) dX9_spectrum_37 e_x2 rfl ?_
  refine mGo.icmp_ge (tgt := 81) (n := 41) dX9_spectrum_38 (by decide) rfl (fun hc => ?_) (fun hc => ?_)
  · replace e := mIft hc e
    refine mGo.iload (n := 83) (x := v4) dX9_spectrum_81 rfl rfl ?_
    cases e
    exact mGo.iret dX9_spectrum_83 rfl (Nat.le_of_ble_eq_true rfl) (Nat.le_of_ble_eq_true rfl) q
  · replace e := mIff hc e
    refine mGo.iload (n := 43) (x := v4) dX9_spectrum_41 rfl rfl ?_
    refine mGo.aload_n (n := 44) (r := v0) dX9_spectrum_43 rfl rfl ?_
    refine mGo.iload_n (n := 45) (x := v1) dX9_spectrum_44 rfl rfl ?_
    refine mGo.iload (n := 47) (x := v5) dX9_spectrum_45 rfl rfl ?_
    refine mGo.iload_n (n := 48) (x := v2) dX9_spectrum_47 rfl rfl ?_
    obtain ⟨x3, e_x3, e⟩ := mBind e
    refine mGo.callV (n := 51) (y := zX9_isMinus) (R' := (mRoom (2) 0 0)) (as := [.int v1, .int v5, .int v2]) (st := [.int v4]) (r0 := v0) dX9_spectrum_48 sc_RX9_98 rfl (s_X9_isMinus v0 v1 v5 v2 h e_x3) (e_X9_isMinus v0 v1 v5 v2 h e_x3) (mFit_of rfl (Nat.le_of_ble_eq_true rfl) (by decide) (Nat.le_of_ble_eq_true rfl) (Nat.le_of_ble_eq_true rfl)) (Nat.le_of_ble_eq_true rfl) rfl rfl ?_
    intro _ _ hq
    rw [hq.1, hq.2]
    show mGo w kX9_spectrum 0 0 51 [some (va_rf v0), some (.int v1), some (.int v2), none, some (.int v4), some (.int v5)] [.int x3, .int v4] h Q
    refine mGo.if_eq (tgt := 65) (n := 54) dX9_spectrum_51 (by decide) rfl (fun hc => ?_) (fun hc => ?_)
    · replace e := mIft hc e
      refine mGo.aload_n (n := 66) (r := v0) dX9_spectrum_65 rfl rfl ?_
      refine mGo.iload_n (n := 67) (x := v1) dX9_spectrum_66 rfl rfl ?_
      refine mGo.iload (n := 69) (x := v5) dX9_spectrum_67 rfl rfl ?_
      obtain ⟨x4, e_x4, e⟩ := mBind e
      refine mGo.callV (n := 72) (y := zX9_spectrumAt) (R' := (mRoom (3) 0 0)) (as := [.int v1, .int v5]) (st := [.int v4]) (r0 := v0) dX9_spectrum_69 sc_RX9_278 rfl (s_X9_spectrumAt v0 v1 v5 h e_x4) (e_X9_spectrumAt v0 v1 v5 h e_x4) (mFit_of rfl (Nat.le_of_ble_eq_true rfl) (by decide) (Nat.le_of_ble_eq_true rfl) (Nat.le_of_ble_eq_true rfl)) (Nat.le_of_ble_eq_true rfl) rfl rfl ?_
      intro _ _ hq
      rw [hq.1, hq.2]
      show mGo w kX9_spectrum 0 0 72 [some (va_rf v0), some (.int v1), some (.int v2), none, some (.int v4), some (.int v5)] [.int x4, .int v4] h Q
      refine mGo.mk [true, true, true, false, false, true] ?_
      exact g_X9_spectrum_c72 v0 v1 v2 v5 v4 x4 h e q
    · replace e := mIff hc e
      refine mGo.aload_n (n := 55) (r := v0) dX9_spectrum_54 rfl rfl ?_
      refine mGo.iload_n (n := 56) (x := v1) dX9_spectrum_55 rfl rfl ?_
      refine mGo.iload (n := 58) (x := v5) dX9_spectrum_56 rfl rfl ?_
      obtain ⟨x5, e_x5, e⟩ := mBind e
      refine mGo.callV (n := 61) (y := zX9_spectrumAt) (R' := (mRoom (3) 0 0)) (as := [.int v1, .int v5]) (st := [.int v4]) (r0 := v0) dX9_spectrum_58 sc_RX9_278 rfl (s_X9_spectrumAt v0 v1 v5 h e_x5) (e_X9_spectrumAt v0 v1 v5 h e_x5) (mFit_of rfl (Nat.le_of_ble_eq_true rfl) (by decide) (Nat.le_of_ble_eq_true rfl) (Nat.le_of_ble_eq_true rfl)) (Nat.le_of_ble_eq_true rfl) rfl rfl ?_
      intro _ _ hq
      rw [hq.1, hq.2]
      show mGo w kX9_spectrum 0 0 61 [some (va_rf v0), some (.int v1), some (.int v2), none, some (.int v4), some (.int v5)] [.int x5, .int v4] h Q
      refine mGo.ineg (n := 62) dX9_spectrum_61 rfl ?_
      refine mGo.goto (tgt := 72) dX9_spectrum_62 (by decide) ?_
      refine mGo.mk [true, true, true, false, false, true] ?_
      exact g_X9_spectrum_c72 v0 v1 v2 v5 v4 (-x5) h e q
noncomputable def f_X9_spectrum_l30 (v0 : Option Nat) (v1 : Int32) (v2 : Int32) (v4 : Int32) (v5 : Int32) (h : mH) : Option (Int32) :=
  mLoop (fun x : Int32 × Int32 => f_X9_spectrum_b30 v0 v1 v2 x.1 x.2 h) (v4, v5)
set_option maxRecDepth 100000 in
set_option maxHeartbeats 4000000 in
theorem g_X9_spectrum_l30 {w : mWp} {Q : Option Value → mH → Prop} (v0 : Option Nat) (v1 : Int32) (v2 : Int32) (v4 : Int32) (v5 : Int32) (h : mH) {res : Int32} (e : f_X9_spectrum_l30 v0 v1 v2 v4 v5 h = some res) (q : (fun r : Int32 => Q (some (.int r)) h) res) : mGo w kX9_spectrum 0 0 30 [some (va_rf v0), some (.int v1), some (.int v2), none, some (.int v4), some (.int v5)] [] h Q := by
  unfold f_X9_spectrum_l30 at e
  refine mLoop_go (x := (v4, v5)) (fun x : Int32 × Int32 => mGo w kX9_spectrum 0 0 30 [some (va_rf v0), some (.int v1), some (.int v2), none, some (.int x.1), some (.int x.2)] [] h Q) (fun r : Int32 => Q (some (.int r)) h) ?_ e q
  rintro ⟨v4, v5⟩ res e q
  exact g_X9_spectrum_b30 v0 v1 v2 v4 v5 h e q
noncomputable def f_X9_spectrum (v0 : Option Nat) (v1 : Int32) (v2 : Int32) (v3 : Int32) (h : mH) : Option (Int32) :=
  (mIs h v0 8).bind fun _ =>
  (f_X9_isLine v0 v1 v2 h).bind fun x1 =>
  if x1 = 0 then
    some (-1000000000 : Int32)
  else
    if v3 = 0 then
      (f_X9_spectrumAt v0 v1 v2 h).bind fun x2 =>
      some x2
    else
      f_X9_spectrum_l30 v0 v1 v2 (0 : Int32) (0 : Int32) h
set_option maxRecDepth 100000 in
set_option maxHeartbeats 4000000 in
theorem g_X9_spectrum {w : mWp} {Q : Option Value → mH → Prop} (v0 : Option Nat) (v1 : Int32) (v2 : Int32) (v3 : Int32) (h : mH) {res : Int32} (e : f_X9_spectrum v0 v1 v2 v3 h = some res) (q : (fun r : Int32 => Q (some (.int r)) h) res) : mGo w kX9_spectrum 0 0 0 [some (va_rf v0), some (.int v1), some (.int v2), some (.int v3), none, none] [] h Q := by
  unfold f_X9_spectrum at e
  obtain ⟨_, _, e⟩ := mBind e
  refine mGo.aload_n (n := 1) (r := v0) dX9_spectrum_0 rfl rfl ?_
  refine mGo.iload_n (n := 2) (x := v1) dX9_spectrum_1 rfl rfl ?_
  refine mGo.iload_n (n := 3) (x := v2) dX9_spectrum_2 rfl rfl ?_
  obtain ⟨x1, e_x1, e⟩ := mBind e
  refine mGo.callV (n := 6) (y := zX9_isLine) (R' := (mRoom (3) 0 0)) (as := [.int v1, .int v2]) (st := []) (r0 := v0) dX9_spectrum_3 sc_RX9_182 rfl (s_X9_isLine v0 v1 v2 h e_x1) (e_X9_isLine v0 v1 v2 h e_x1) (mFit_of rfl (Nat.le_of_ble_eq_true rfl) (by decide) (Nat.le_of_ble_eq_true rfl) (Nat.le_of_ble_eq_true rfl)) (Nat.le_of_ble_eq_true rfl) rfl rfl ?_
  intro _ _ hq
  rw [hq.1, hq.2]
  show mGo w kX9_spectrum 0 0 6 [some (va_rf v0), some (.int v1), some (.int v2), some (.int v3), none, none] [.int x1] h Q
  refine mGo.if_ne (tgt := 13) (n := 9) dX9_spectrum_6 (by decide) rfl (fun hc => ?_) (fun hc => ?_)
  · replace e := mIff hc e
    refine mGo.iload_n (n := 14) (x := v3) dX9_spectrum_13 rfl rfl ?_
    refine mGo.if_ne (tgt := 24) (n := 17) dX9_spectrum_14 (by decide) rfl (fun hc => ?_) (fun hc => ?_)
    · replace e := mIff hc e
      refine mGo.iconst (n := 25) (v := (0 : Int32)) dX9_spectrum_24 (by decide) rfl ?_
      refine mGo.istore (n := 27) (ls' := [some (va_rf v0), some (.int v1), some (.int v2), some (.int v3), some (.int (0 : Int32)), none]) dX9_spectrum_25 rfl (Nat.le_of_ble_eq_true rfl) rfl ?_
      refine mGo.iconst (n := 28) (v := (0 : Int32)) dX9_spectrum_27 (by decide) rfl ?_
      refine mGo.istore (n := 30) (ls' := [some (va_rf v0), some (.int v1), some (.int v2), some (.int v3), some (.int (0 : Int32)), some (.int (0 : Int32))]) dX9_spectrum_28 rfl (Nat.le_of_ble_eq_true rfl) rfl ?_
      refine mGo.mk [true, true, true, false, true, true] ?_
      exact g_X9_spectrum_l30 v0 v1 v2 (0 : Int32) (0 : Int32) h e q
    · replace e := mIft hc e
      refine mGo.aload_n (n := 18) (r := v0) dX9_spectrum_17 rfl rfl ?_
      refine mGo.iload_n (n := 19) (x := v1) dX9_spectrum_18 rfl rfl ?_
      refine mGo.iload_n (n := 20) (x := v2) dX9_spectrum_19 rfl rfl ?_
      obtain ⟨x2, e_x2, e⟩ := mBind e
      refine mGo.callV (n := 23) (y := zX9_spectrumAt) (R' := (mRoom (3) 0 0)) (as := [.int v1, .int v2]) (st := []) (r0 := v0) dX9_spectrum_20 sc_RX9_278 rfl (s_X9_spectrumAt v0 v1 v2 h e_x2) (e_X9_spectrumAt v0 v1 v2 h e_x2) (mFit_of rfl (Nat.le_of_ble_eq_true rfl) (by decide) (Nat.le_of_ble_eq_true rfl) (Nat.le_of_ble_eq_true rfl)) (Nat.le_of_ble_eq_true rfl) rfl rfl ?_
      intro _ _ hq
      rw [hq.1, hq.2]
      show mGo w kX9_spectrum 0 0 23 [some (va_rf v0), some (.int v1), some (.int v2), some (.int v3), none, none] [.int x2] h Q
      cases e
      exact mGo.iret dX9_spectrum_23 rfl (Nat.le_of_ble_eq_true rfl) (Nat.le_of_ble_eq_true rfl) q
  · replace e := mIft hc e
    refine mGo.ldc_w (n := 12) (v := (-1000000000 : Int32)) dX9_spectrum_9 (mT_at 1242 (by decide +kernel) rfl) rfl ?_
    cases e
    exact mGo.iret dX9_spectrum_12 rfl (Nat.le_of_ble_eq_true rfl) (Nat.le_of_ble_eq_true rfl) q
theorem e_X9_spectrum {w : mWp} (v0 : Option Nat) (v1 : Int32) (v2 : Int32) (v3 : Int32) (h : mH) {res : Int32} (e : f_X9_spectrum v0 v1 v2 v3 h = some res) : mEx w zX9_spectrum (mRoom 4 0 0) [va_rf v0, .int v1, .int v2, .int v3] h (fun r h2 => r = some (.int res) ∧ h2 = h) := by
  refine mEx.of (by decide +kernel) (show mEnt [va_rf v0, .int v1, .int v2, .int v3] 6 = [some (va_rf v0), some (.int v1), some (.int v2), some (.int v3), none, none] by rw [mEnt_r, mEnt_i, mEnt_i, mEnt_i] <;> rfl) (by simp only [List.map_cons, List.map_nil, mRfc, mCi, mCj, List.sum_cons, List.sum_nil]; exact Nat.le_of_ble_eq_true rfl) ?_
  refine g_X9_spectrum v0 v1 v2 v3 h e ?_
  exact ⟨rfl, rfl⟩
theorem s_X9_spectrum (v0 : Option Nat) (v1 : Int32) (v2 : Int32) (v3 : Int32) (h : mH) {res : Int32} (e : f_X9_spectrum v0 v1 v2 v3 h = some res) : mIs h v0 8 = some () := by
  unfold f_X9_spectrum at e
  obtain ⟨u, e1, _⟩ := mBind e
  cases u
  exact e1
-- X9_isEven
def kX9_isEven : mK := (cX9_isEven, RX9, 3, some (.boolean), "isEven", mRoom 2 0 0)
def zX9_isEven : mY := (yX9_isEven, cX9_isEven, 3, some (.boolean))
def f_X9_isEven_b12 (v0 : Int32) (v1 : Int32) (v2 : Int32)  : Option ((Int32) ⊕ (Int32)) :=
  if v1 ≤ v2 then
    some (Sum.inr (1 : Int32))
  else
    (f_X9_has v0 v2).bind fun x1 =>
    (f_X9_has v0 (v1 - v2)).bind fun x2 =>
    if x1 = x2 then
      some (Sum.inl (v2 + 1))
    else
      some (Sum.inr (0 : Int32))
set_option maxRecDepth 100000 in
set_option maxHeartbeats 4000000 in
theorem g_X9_isEven_b12 {w : mWp} {Q : Option Value → mH → Prop} (v0 : Int32) (v1 : Int32) (v2 : Int32) (h : mH) {res : (Int32) ⊕ (Int32)} (e : f_X9_isEven_b12 v0 v1 v2 = some res) (q : (Sum.elim (fun x : Int32 => mGo w kX9_isEven 0 0 12 [some (.int v0), some (.int v1), some (.int x)] [] h Q) (fun r : Int32 => Q (some (.int r)) h)) res) : mGo w kX9_isEven 0 0 12 [some (.int v0), some (.int v1), some (.int v2)] [] h Q := by
  unfold f_X9_isEven_b12 at e
  refine mGo.iload_n (n := 13) (x := v2) dX9_isEven_12 rfl rfl ?_
  refine mGo.iload_n (n := 14) (x := v1) dX9_isEven_13 rfl rfl ?_
  refine mGo.icmp_ge (tgt := 40) (n := 17) dX9_isEven_14 (by decide) rfl (fun hc => ?_) (fun hc => ?_)
  · replace e := mIft hc e
    refine mGo.iconst (n := 41) (v := (1 : Int32)) dX9_isEven_40 (by decide) rfl ?_
    cases e
    exact mGo.zret dX9_isEven_41 rfl (by decide) (Nat.le_of_ble_eq_true rfl) (Nat.le_of_ble_eq_true rfl) q
  · replace e := mIff hc e
    refine mGo.iload_n (n := 18) (x := v0) dX9_isEven_17 rfl rfl ?_
    refine mGo.iload_n (n := 19) (x := v2) dX9_isEven_18 rfl rfl ?_
    obtain ⟨x1, e_x1, e⟩ := mBind e
    refine mGo.callS (n := 22) (y := zX9_has) (R' := (mRoom (1) 0 0)) (as := [.int v0, .int v2]) (st := []) dX9_isEven_19 sc_RX9_94 rfl (e_X9_has v0 v2 h e_x1) (mFit_of rfl (Nat.le_of_ble_eq_true rfl) (by decide) (Nat.le_of_ble_eq_true rfl) (Nat.le_of_ble_eq_true rfl)) (Nat.le_of_ble_eq_true rfl) rfl rfl ?_
    intro _ _ hq
    rw [hq.1, hq.2]
    show mGo w kX9_isEven 0 0 22 [some (.int v0), some (.int v1), some (.int v2)] [.int x1] h Q
    refine mGo.iload_n (n := 23) (x := v0) dX9_isEven_22 rfl rfl ?_
    refine mGo.iload_n (n := 24) (x := v1) dX9_isEven_23 rfl rfl ?_
    refine mGo.iload_n (n := 25) (x := v2) dX9_isEven_24 rfl rfl ?_
    refine mGo.isub (n := 26) dX9_isEven_25 rfl ?_
    obtain ⟨x2, e_x2, e⟩ := mBind e
    refine mGo.callS (n := 29) (y := zX9_has) (R' := (mRoom (1) 0 0)) (as := [.int v0, .int (v1 - v2)]) (st := [.int x1]) dX9_isEven_26 sc_RX9_94 rfl (e_X9_has v0 (v1 - v2) h e_x2) (mFit_of rfl (Nat.le_of_ble_eq_true rfl) (by decide) (Nat.le_of_ble_eq_true rfl) (Nat.le_of_ble_eq_true rfl)) (Nat.le_of_ble_eq_true rfl) rfl rfl ?_
    intro _ _ hq
    rw [hq.1, hq.2]
    show mGo w kX9_isEven 0 0 29 [some (.int v0), some (.int v1), some (.int v2)] [.int x2, .int x1] h Q
    refine mGo.icmp_eq (tgt := 34) (n := 32) dX9_isEven_29 (by decide) rfl (fun hc => ?_) (fun hc => ?_)
    · replace e := mIft hc e
      refine mGo.iinc (n := 37) (x := v2) (v := (v2 + 1)) (ls' := [some (.int v0), some (.int v1), some (.int (v2 + 1))]) dX9_isEven_34 rfl rfl rfl (Nat.le_of_ble_eq_true rfl) rfl ?_
      refine mGo.goto (tgt := 12) dX9_isEven_37 (by decide) ?_
      cases e
      refine mGo.mk [true, true, true] ?_
      exact q
    · replace e := mIff hc e
      refine mGo.iconst (n := 33) (v := (0 : Int32)) dX9_isEven_32 (by decide) rfl ?_
      cases e
      exact mGo.zret dX9_isEven_33 rfl (by decide) (Nat.le_of_ble_eq_true rfl) (Nat.le_of_ble_eq_true rfl) q
noncomputable def f_X9_isEven_l12 (v0 : Int32) (v1 : Int32) (v2 : Int32)  : Option (Int32) :=
  mLoop (fun x : Int32 => f_X9_isEven_b12 v0 v1 x) (v2)
set_option maxRecDepth 100000 in
set_option maxHeartbeats 4000000 in
theorem g_X9_isEven_l12 {w : mWp} {Q : Option Value → mH → Prop} (v0 : Int32) (v1 : Int32) (v2 : Int32) (h : mH) {res : Int32} (e : f_X9_isEven_l12 v0 v1 v2 = some res) (q : (fun r : Int32 => Q (some (.int r)) h) res) : mGo w kX9_isEven 0 0 12 [some (.int v0), some (.int v1), some (.int v2)] [] h Q := by
  unfold f_X9_isEven_l12 at e
  refine mLoop_go (x := (v2)) (fun x : Int32 => mGo w kX9_isEven 0 0 12 [some (.int v0), some (.int v1), some (.int x)] [] h Q) (fun r : Int32 => Q (some (.int r)) h) ?_ e q
  rintro v2 res e q
  exact g_X9_isEven_b12 v0 v1 v2 h e q
noncomputable def f_X9_isEven (v0 : Int32) (v1 : Int32)  : Option (Int32) :=
  (f_X9_has v0 (0 : Int32)).bind fun x1 =>
  if x1 = 0 then
    f_X9_isEven_l12 v0 v1 (1 : Int32)
  else
    some (0 : Int32)
set_option maxRecDepth 100000 in
set_option maxHeartbeats 4000000 in
theorem g_X9_isEven {w : mWp} {Q : Option Value → mH → Prop} (v0 : Int32) (v1 : Int32) (h : mH) {res : Int32} (e : f_X9_isEven v0 v1 = some res) (q : (fun r : Int32 => Q (some (.int r)) h) res) : mGo w kX9_isEven 0 0 0 [some (.int v0), some (.int v1), none] [] h Q := by
  unfold f_X9_isEven at e
  refine mGo.iload_n (n := 1) (x := v0) dX9_isEven_0 rfl rfl ?_
  refine mGo.iconst (n := 2) (v := (0 : Int32)) dX9_isEven_1 (by decide) rfl ?_
  obtain ⟨x1, e_x1, e⟩ := mBind e
  refine mGo.callS (n := 5) (y := zX9_has) (R' := (mRoom (1) 0 0)) (as := [.int v0, .int (0 : Int32)]) (st := []) dX9_isEven_2 sc_RX9_94 rfl (e_X9_has v0 (0 : Int32) h e_x1) (mFit_of rfl (Nat.le_of_ble_eq_true rfl) (by decide) (Nat.le_of_ble_eq_true rfl) (Nat.le_of_ble_eq_true rfl)) (Nat.le_of_ble_eq_true rfl) rfl rfl ?_
  intro _ _ hq
  rw [hq.1, hq.2]
  show mGo w kX9_isEven 0 0 5 [some (.int v0), some (.int v1), none] [.int x1] h Q
  refine mGo.if_eq (tgt := 10) (n := 8) dX9_isEven_5 (by decide) rfl (fun hc => ?_) (fun hc => ?_)
  · replace e := mIft hc e
    refine mGo.iconst (n := 11) (v := (1 : Int32)) dX9_isEven_10 (by decide) rfl ?_
    refine mGo.istore_n (n := 12) (ls' := [some (.int v0), some (.int v1), some (.int (1 : Int32))]) dX9_isEven_11 rfl (Nat.le_of_ble_eq_true rfl) rfl ?_
    refine mGo.mk [true, true, true] ?_
    exact g_X9_isEven_l12 v0 v1 (1 : Int32) h e q
  · replace e := mIff hc e
    refine mGo.iconst (n := 9) (v := (0 : Int32)) dX9_isEven_8 (by decide) rfl ?_
    cases e
    exact mGo.zret dX9_isEven_9 rfl (by decide) (Nat.le_of_ble_eq_true rfl) (Nat.le_of_ble_eq_true rfl) q
theorem e_X9_isEven {w : mWp} (v0 : Int32) (v1 : Int32) (h : mH) {res : Int32} (e : f_X9_isEven v0 v1 = some res) : mEx w zX9_isEven (mRoom 2 0 0) [.int v0, .int v1] h (fun r h2 => r = some (.int res) ∧ h2 = h) := by
  refine mEx.of (by decide +kernel) rfl (Nat.le_of_ble_eq_true rfl) ?_
  refine g_X9_isEven v0 v1 h e ?_
  exact ⟨rfl, rfl⟩
-- X9_echo
def kX9_echo : mK := (cX9_echo, RX9, 5, some (.int), "echo", mRoom 2 0 0)
def zX9_echo : mY := (yX9_echo, cX9_echo, 5, some (.int))
def f_X9_echo_c36 (v0 : Int32) (v1 : Int32) (v2 : Int32) (v4 : Int32) (s0 : Int32) (s1 : Int32)  : Option ((Int32 × Int32) ⊕ (Int32)) :=
  some (Sum.inl ((s0 + s1), (v4 + 1)))
set_option maxRecDepth 100000 in
set_option maxHeartbeats 4000000 in
theorem g_X9_echo_c36 {w : mWp} {Q : Option Value → mH → Prop} (v0 : Int32) (v1 : Int32) (v2 : Int32) (v4 : Int32) (s0 : Int32) (s1 : Int32) (h : mH) {res : (Int32 × Int32) ⊕ (Int32)} (e : f_X9_echo_c36 v0 v1 v2 v4 s0 s1 = some res) (q : (Sum.elim (fun x : Int32 × Int32 => mGo w kX9_echo 0 0 5 [some (.int v0), some (.int v1), some (.int v2), some (.int x.1), some (.int x.2)] [] h Q) (fun r : Int32 => Q (some (.int r)) h)) res) : mGo w kX9_echo 0 0 36 [some (.int v0), some (.int v1), some (.int v2), none, some (.int v4)] [.int s1, .int s0] h Q := by
  unfold f_X9_echo_c36 at e
  refine mGo.iadd (n := 37) dX9_echo_36 rfl ?_
  refine mGo.istore_n (n := 38) (ls' := [some (.int v0), some (.int v1), some (.int v2), some (.int (s0 + s1)), some (.int v4)]) dX9_echo_37 rfl (Nat.le_of_ble_eq_true rfl) rfl ?_
  refine mGo.iinc (n := 41) (x := v4) (v := (v4 + 1)) (ls' := [some (.int v0), some (.int v1), some (.int v2), some (.int (s0 + s1)), some (.int (v4 + 1))]) dX9_echo_38 rfl rfl rfl (Nat.le_of_ble_eq_true rfl) rfl ?_
  refine mGo.goto (tgt := 5) dX9_echo_41 (by decide) ?_
  cases e
  refine mGo.mk [true, true, true, true, true] ?_
  exact q
def f_X9_echo_b5 (v0 : Int32) (v1 : Int32) (v2 : Int32) (v3 : Int32) (v4 : Int32)  : Option ((Int32 × Int32) ⊕ (Int32)) :=
  if v1 ≤ v4 then
    some (Sum.inr v3)
  else
    (f_X9_has v0 v4).bind fun x1 =>
    if v1 = 0 then none else
    (f_X9_has v0 (mRem (v4 + v2) v1)).bind fun x3 =>
    if x1 = x3 then
      f_X9_echo_c36 v0 v1 v2 v4 v3 (1 : Int32)
    else
      f_X9_echo_c36 v0 v1 v2 v4 v3 (-1 : Int32)
set_option maxRecDepth 100000 in
set_option maxHeartbeats 4000000 in
theorem g_X9_echo_b5 {w : mWp} {Q : Option Value → mH → Prop} (v0 : Int32) (v1 : Int32) (v2 : Int32) (v3 : Int32) (v4 : Int32) (h : mH) {res : (Int32 × Int32) ⊕ (Int32)} (e : f_X9_echo_b5 v0 v1 v2 v3 v4 = some res) (q : (Sum.elim (fun x : Int32 × Int32 => mGo w kX9_echo 0 0 5 [some (.int v0), some (.int v1), some (.int v2), some (.int x.1), some (.int x.2)] [] h Q) (fun r : Int32 => Q (some (.int r)) h)) res) : mGo w kX9_echo 0 0 5 [some (.int v0), some (.int v1), some (.int v2), some (.int v3), some (.int v4)] [] h Q := by
  unfold f_X9_echo_b5 at e
  refine mGo.iload (n := 7) (x := v4) dX9_echo_5 rfl rfl ?_
  refine mGo.iload_n (n := 8) (x := v1) dX9_echo_7 rfl rfl ?_
  refine mGo.icmp_ge (tgt := 44) (n := 11) dX9_echo_8 (by decide) rfl (fun hc => ?_) (fun hc => ?_)
  · replace e := mIft hc e
    refine mGo.iload_n (n := 45) (x := v3) dX9_echo_44 rfl rfl ?_
    cases e
    exact mGo.iret dX9_echo_45 rfl (Nat.le_of_ble_eq_true rfl) (Nat.le_of_ble_eq_true rfl) q
  · replace e := mIff hc e
    refine mGo.iload_n (n := 12) (x := v3) dX9_echo_11 rfl rfl ?_
    refine mGo.iload_n (n := 13) (x := v0) dX9_echo_12 rfl rfl ?_
    refine mGo.iload (n := 15) (x := v4) dX9_echo_13 rfl rfl ?_
    obtain ⟨x1, e_x1, e⟩ := mBind e
    refine mGo.callS (n := 18) (y := zX9_has) (R' := (mRoom (1) 0 0)) (as := [.int v0, .int v4]) (st := [.int v3]) dX9_echo_15 sc_RX9_94 rfl (e_X9_has v0 v4 h e_x1) (mFit_of rfl (Nat.le_of_ble_eq_true rfl) (by decide) (Nat.le_of_ble_eq_true rfl) (Nat.le_of_ble_eq_true rfl)) (Nat.le_of_ble_eq_true rfl) rfl rfl ?_
    intro _ _ hq
    rw [hq.1, hq.2]
    show mGo w kX9_echo 0 0 18 [some (.int v0), some (.int v1), some (.int v2), some (.int v3), some (.int v4)] [.int x1, .int v3] h Q
    refine mGo.iload_n (n := 19) (x := v0) dX9_echo_18 rfl rfl ?_
    refine mGo.iload (n := 21) (x := v4) dX9_echo_19 rfl rfl ?_
    refine mGo.iload_n (n := 22) (x := v2) dX9_echo_21 rfl rfl ?_
    refine mGo.iadd (n := 23) dX9_echo_22 rfl ?_
    refine mGo.iload_n (n := 24) (x := v1) dX9_echo_23 rfl rfl ?_
    obtain ⟨z2, e⟩ := mIfN e
    refine mGo.irem (n := 25) dX9_echo_24 z2 rfl ?_
    obtain ⟨x3, e_x3, e⟩ := mBind e
    refine mGo.callS (n := 28) (y := zX9_has) (R' := (mRoom (1) 0 0)) (as := [.int v0, .int (mRem (v4 + v2) v1)]) (st := [.int x1, .int v3]) dX9_echo_25 sc_RX9_94 rfl (e_X9_has v0 (mRem (v4 + v2) v1) h e_x3) (mFit_of rfl (Nat.le_of_ble_eq_true rfl) (by decide) (Nat.le_of_ble_eq_true rfl) (Nat.le_of_ble_eq_true rfl)) (Nat.le_of_ble_eq_true rfl) rfl rfl ?_
    intro _ _ hq
    rw [hq.1, hq.2]
    show mGo w kX9_echo 0 0 28 [some (.int v0), some (.int v1), some (.int v2), some (.int v3), some (.int v4)] [.int x3, .int x1, .int v3] h Q
    refine mGo.icmp_ne (tgt := 35) (n := 31) dX9_echo_28 (by decide) rfl (fun hc => ?_) (fun hc => ?_)
    · replace e := mIff hc e
      refine mGo.iconst (n := 36) (v := (-1 : Int32)) dX9_echo_35 (by decide) rfl ?_
      refine mGo.mk [true, true, true, false, true] ?_
      exact g_X9_echo_c36 v0 v1 v2 v4 v3 (-1 : Int32) h e q
    · replace e := mIft hc e
      refine mGo.iconst (n := 32) (v := (1 : Int32)) dX9_echo_31 (by decide) rfl ?_
      refine mGo.goto (tgt := 36) dX9_echo_32 (by decide) ?_
      refine mGo.mk [true, true, true, false, true] ?_
      exact g_X9_echo_c36 v0 v1 v2 v4 v3 (1 : Int32) h e q
noncomputable def f_X9_echo_l5 (v0 : Int32) (v1 : Int32) (v2 : Int32) (v3 : Int32) (v4 : Int32)  : Option (Int32) :=
  mLoop (fun x : Int32 × Int32 => f_X9_echo_b5 v0 v1 v2 x.1 x.2) (v3, v4)
set_option maxRecDepth 100000 in
set_option maxHeartbeats 4000000 in
theorem g_X9_echo_l5 {w : mWp} {Q : Option Value → mH → Prop} (v0 : Int32) (v1 : Int32) (v2 : Int32) (v3 : Int32) (v4 : Int32) (h : mH) {res : Int32} (e : f_X9_echo_l5 v0 v1 v2 v3 v4 = some res) (q : (fun r : Int32 => Q (some (.int r)) h) res) : mGo w kX9_echo 0 0 5 [some (.int v0), some (.int v1), some (.int v2), some (.int v3), some (.int v4)] [] h Q := by
  unfold f_X9_echo_l5 at e
  refine mLoop_go (x := (v3, v4)) (fun x : Int32 × Int32 => mGo w kX9_echo 0 0 5 [some (.int v0), some (.int v1), some (.int v2), some (.int x.1), some (.int x.2)] [] h Q) (fun r : Int32 => Q (some (.int r)) h) ?_ e q
  rintro ⟨v3, v4⟩ res e q
  exact g_X9_echo_b5 v0 v1 v2 v3 v4 h e q
noncomputable def f_X9_echo (v0 : Int32) (v1 : Int32) (v2 : Int32)  : Option (Int32) :=
  f_X9_echo_l5 v0 v1 v2 (0 : Int32) (0 : Int32)
set_option maxRecDepth 100000 in
set_option maxHeartbeats 4000000 in
theorem g_X9_echo {w : mWp} {Q : Option Value → mH → Prop} (v0 : Int32) (v1 : Int32) (v2 : Int32) (h : mH) {res : Int32} (e : f_X9_echo v0 v1 v2 = some res) (q : (fun r : Int32 => Q (some (.int r)) h) res) : mGo w kX9_echo 0 0 0 [some (.int v0), some (.int v1), some (.int v2), none, none] [] h Q := by
  unfold f_X9_echo at e
  refine mGo.iconst (n := 1) (v := (0 : Int32)) dX9_echo_0 (by decide) rfl ?_
  refine mGo.istore_n (n := 2) (ls' := [some (.int v0), some (.int v1), some (.int v2), some (.int (0 : Int32)), none]) dX9_echo_1 rfl (Nat.le_of_ble_eq_true rfl) rfl ?_
  refine mGo.iconst (n := 3) (v := (0 : Int32)) dX9_echo_2 (by decide) rfl ?_
  refine mGo.istore (n := 5) (ls' := [some (.int v0), some (.int v1), some (.int v2), some (.int (0 : Int32)), some (.int (0 : Int32))]) dX9_echo_3 rfl (Nat.le_of_ble_eq_true rfl) rfl ?_
  refine mGo.mk [true, true, true, true, true] ?_
  exact g_X9_echo_l5 v0 v1 v2 (0 : Int32) (0 : Int32) h e q
theorem e_X9_echo {w : mWp} (v0 : Int32) (v1 : Int32) (v2 : Int32) (h : mH) {res : Int32} (e : f_X9_echo v0 v1 v2 = some res) : mEx w zX9_echo (mRoom 2 0 0) [.int v0, .int v1, .int v2] h (fun r h2 => r = some (.int res) ∧ h2 = h) := by
  refine mEx.of (by decide +kernel) rfl (Nat.le_of_ble_eq_true rfl) ?_
  refine g_X9_echo v0 v1 v2 h e ?_
  exact ⟨rfl, rfl⟩
-- X9_areFour
def kX9_areFour : mK := (cX9_areFour, RX9, 5, some (.boolean), "areFour", mRoom 3 0 0)
def zX9_areFour : mY := (yX9_areFour, cX9_areFour, 5, some (.boolean))
set_option maxRecDepth 100000 in
theorem sc_RX9_281 : mSS RX9 281 zX9_echo 3 := ⟨Or.inl (mT_at 1258 (by decide +kernel) rfl), mT_at 1259 (by decide +kernel) rfl, mT_at 91 (by decide +kernel) rfl, mT_at 1260 (by decide +kernel) rfl, ⟨by decide +kernel, by decide +kernel, by decide +kernel⟩⟩
noncomputable def f_X9_areFour_b12 (v0 : Option Nat) (v1 : Int32) (v2 : Int32) (v3 : Int32) (v4 : Int32) (h : mH) : Option ((Int32 × Int32) ⊕ ((Int32) ⊕ (Int32))) :=
  if (4 : Int32) ≤ v4 then
    if v3 = 0 then
      some (Sum.inr (Sum.inl (v2 + 1)))
    else
      some (Sum.inr (Sum.inr (0 : Int32)))
  else
    (mGR h v0 8 11).bind fun x1 =>
    (mAI h x1 v4).bind fun x2 =>
    (f_X9_echo x2 v1 v2).bind fun x3 =>
    some (Sum.inl ((v3 + x3), (v4 + 1)))
set_option maxRecDepth 100000 in
set_option maxHeartbeats 4000000 in
theorem g_X9_areFour_b12 {w : mWp} {Q : Option Value → mH → Prop} (v0 : Option Nat) (v1 : Int32) (v2 : Int32) (v3 : Int32) (v4 : Int32) (h : mH) {res : (Int32 × Int32) ⊕ ((Int32) ⊕ (Int32))} (e : f_X9_areFour_b12 v0 v1 v2 v3 v4 h = some res) (q : (Sum.elim (fun x : Int32 × Int32 => mGo w kX9_areFour 0 0 12 [some (va_rf v0), some (.int v1), some (.int v2), some (.int x.1), some (.int x.2)] [] h Q) (Sum.elim (fun x : Int32 => mGo w kX9_areFour 0 0 2 [some (va_rf v0), some (.int v1), some (.int x), none, none] [] h Q) (fun r : Int32 => Q (some (.int r)) h))) res) : mGo w kX9_areFour 0 0 12 [some (va_rf v0), some (.int v1), some (.int v2), some (.int v3), some (.int v4)] [] h Q := by
  unfold f_X9_areFour_b12 at e
  refine mGo.iload (n := 14) (x := v4) dX9_areFour_12 rfl rfl ?_
  refine mGo.iconst (n := 15) (v := (4 : Int32)) dX9_areFour_14 (by decide) rfl ?_
  refine mGo.icmp_ge (tgt := 39) (n := 18) dX9_areFour_15 (by decide) rfl (fun hc => ?_) (fun hc => ?_)
  · replace e := mIft hc e
    refine mGo.iload_n (n := 40) (x := v3) dX9_areFour_39 rfl rfl ?_
    refine mGo.if_eq (tgt := 45) (n := 43) dX9_areFour_40 (by decide) rfl (fun hc => ?_) (fun hc => ?_)
    · replace e := mIft hc e
      refine mGo.iinc (n := 48) (x := v2) (v := (v2 + 1)) (ls' := [some (va_rf v0), some (.int v1), some (.int (v2 + 1)), some (.int v3), some (.int v4)]) dX9_areFour_45 rfl rfl rfl (Nat.le_of_ble_eq_true rfl) rfl ?_
      refine mGo.goto (tgt := 2) dX9_areFour_48 (by decide) ?_
      cases e
      refine mGo.mk [true, true, true, false, false] ?_
      exact q
    · replace e := mIff hc e
      refine mGo.iconst (n := 44) (v := (0 : Int32)) dX9_areFour_43 (by decide) rfl ?_
      cases e
      exact mGo.zret dX9_areFour_44 rfl (by decide) (Nat.le_of_ble_eq_true rfl) (Nat.le_of_ble_eq_true rfl) q
  · replace e := mIff hc e
    refine mGo.iload_n (n := 19) (x := v3) dX9_areFour_18 rfl rfl ?_
    refine mGo.aload_n (n := 20) (r := v0) dX9_areFour_19 rfl rfl ?_
    obtain ⟨x1, e_x1, e⟩ := mBind e
    refine mGo.getR (n := 23) dX9_areFour_20 sf_RX9_41 e_x1 rfl ?_
    refine mGo.iload (n := 25) (x := v4) dX9_areFour_23 rfl rfl ?_
    obtain ⟨x2, e_x2, e⟩ := mBind e
    refine mGo.iald (n := 26) dX9_areFour_25 e_x2 rfl ?_
    refine mGo.iload_n (n := 27) (x := v1) dX9_areFour_26 rfl rfl ?_
    refine mGo.iload_n (n := 28) (x := v2) dX9_areFour_27 rfl rfl ?_
    obtain ⟨x3, e_x3, e⟩ := mBind e
    refine mGo.callS (n := 31) (y := zX9_echo) (R' := (mRoom (2) 0 0)) (as := [.int x2, .int v1, .int v2]) (st := [.int v3]) dX9_areFour_28 sc_RX9_281 rfl (e_X9_echo x2 v1 v2 h e_x3) (mFit_of rfl (Nat.le_of_ble_eq_true rfl) (by decide) (Nat.le_of_ble_eq_true rfl) (Nat.le_of_ble_eq_true rfl)) (Nat.le_of_ble_eq_true rfl) rfl rfl ?_
    intro _ _ hq
    rw [hq.1, hq.2]
    show mGo w kX9_areFour 0 0 31 [some (va_rf v0), some (.int v1), some (.int v2), some (.int v3), some (.int v4)] [.int x3, .int v3] h Q
    refine mGo.iadd (n := 32) dX9_areFour_31 rfl ?_
    refine mGo.istore_n (n := 33) (ls' := [some (va_rf v0), some (.int v1), some (.int v2), some (.int (v3 + x3)), some (.int v4)]) dX9_areFour_32 rfl (Nat.le_of_ble_eq_true rfl) rfl ?_
    refine mGo.iinc (n := 36) (x := v4) (v := (v4 + 1)) (ls' := [some (va_rf v0), some (.int v1), some (.int v2), some (.int (v3 + x3)), some (.int (v4 + 1))]) dX9_areFour_33 rfl rfl rfl (Nat.le_of_ble_eq_true rfl) rfl ?_
    refine mGo.goto (tgt := 12) dX9_areFour_36 (by decide) ?_
    cases e
    refine mGo.mk [true, true, true, true, true] ?_
    exact q
noncomputable def f_X9_areFour_l12 (v0 : Option Nat) (v1 : Int32) (v2 : Int32) (v3 : Int32) (v4 : Int32) (h : mH) : Option ((Int32) ⊕ (Int32)) :=
  mLoop (fun x : Int32 × Int32 => f_X9_areFour_b12 v0 v1 v2 x.1 x.2 h) (v3, v4)
set_option maxRecDepth 100000 in
set_option maxHeartbeats 4000000 in
theorem g_X9_areFour_l12 {w : mWp} {Q : Option Value → mH → Prop} (v0 : Option Nat) (v1 : Int32) (v2 : Int32) (v3 : Int32) (v4 : Int32) (h : mH) {res : (Int32) ⊕ (Int32)} (e : f_X9_areFour_l12 v0 v1 v2 v3 v4 h = some res) (q : (Sum.elim (fun x : Int32 => mGo w kX9_areFour 0 0 2 [some (va_rf v0), some (.int v1), some (.int x), none, none] [] h Q) (fun r : Int32 => Q (some (.int r)) h)) res) : mGo w kX9_areFour 0 0 12 [some (va_rf v0), some (.int v1), some (.int v2), some (.int v3), some (.int v4)] [] h Q := by
  unfold f_X9_areFour_l12 at e
  refine mLoop_go (x := (v3, v4)) (fun x : Int32 × Int32 => mGo w kX9_areFour 0 0 12 [some (va_rf v0), some (.int v1), some (.int v2), some (.int x.1), some (.int x.2)] [] h Q) (Sum.elim (fun x : Int32 => mGo w kX9_areFour 0 0 2 [some (va_rf v0), some (.int v1), some (.int x), none, none] [] h Q) (fun r : Int32 => Q (some (.int r)) h)) ?_ e q
  rintro ⟨v3, v4⟩ res e q
  exact g_X9_areFour_b12 v0 v1 v2 v3 v4 h e q
noncomputable def f_X9_areFour_b2 (v0 : Option Nat) (v1 : Int32) (v2 : Int32) (h : mH) : Option ((Int32) ⊕ (Int32)) :=
  if v1 ≤ v2 then
    some (Sum.inr (1 : Int32))
  else
    f_X9_areFour_l12 v0 v1 v2 (0 : Int32) (0 : Int32) h
set_option maxRecDepth 100000 in
set_option maxHeartbeats 4000000 in
theorem g_X9_areFour_b2 {w : mWp} {Q : Option Value → mH → Prop} (v0 : Option Nat) (v1 : Int32) (v2 : Int32) (h : mH) {res : (Int32) ⊕ (Int32)} (e : f_X9_areFour_b2 v0 v1 v2 h = some res) (q : (Sum.elim (fun x : Int32 => mGo w kX9_areFour 0 0 2 [some (va_rf v0), some (.int v1), some (.int x), none, none] [] h Q) (fun r : Int32 => Q (some (.int r)) h)) res) : mGo w kX9_areFour 0 0 2 [some (va_rf v0), some (.int v1), some (.int v2), none, none] [] h Q := by
  unfold f_X9_areFour_b2 at e
  refine mGo.iload_n (n := 3) (x := v2) dX9_areFour_2 rfl rfl ?_
  refine mGo.iload_n (n := 4) (x := v1) dX9_areFour_3 rfl rfl ?_
  refine mGo.icmp_ge (tgt := 51) (n := 7) dX9_areFour_4 (by decide) rfl (fun hc => ?_) (fun hc => ?_)
  · replace e := mIft hc e
    refine mGo.iconst (n := 52) (v := (1 : Int32)) dX9_areFour_51 (by decide) rfl ?_
    cases e
    exact mGo.zret dX9_areFour_52 rfl (by decide) (Nat.le_of_ble_eq_true rfl) (Nat.le_of_ble_eq_true rfl) q
  · replace e := mIff hc e
    refine mGo.iconst (n := 8) (v := (0 : Int32)) dX9_areFour_7 (by decide) rfl ?_
    refine mGo.istore_n (n := 9) (ls' := [some (va_rf v0), some (.int v1), some (.int v2), some (.int (0 : Int32)), none]) dX9_areFour_8 rfl (Nat.le_of_ble_eq_true rfl) rfl ?_
    refine mGo.iconst (n := 10) (v := (0 : Int32)) dX9_areFour_9 (by decide) rfl ?_
    refine mGo.istore (n := 12) (ls' := [some (va_rf v0), some (.int v1), some (.int v2), some (.int (0 : Int32)), some (.int (0 : Int32))]) dX9_areFour_10 rfl (Nat.le_of_ble_eq_true rfl) rfl ?_
    refine mGo.mk [true, true, true, true, true] ?_
    exact g_X9_areFour_l12 v0 v1 v2 (0 : Int32) (0 : Int32) h e q
noncomputable def f_X9_areFour_l2 (v0 : Option Nat) (v1 : Int32) (v2 : Int32) (h : mH) : Option (Int32) :=
  mLoop (fun x : Int32 => f_X9_areFour_b2 v0 v1 x h) (v2)
set_option maxRecDepth 100000 in
set_option maxHeartbeats 4000000 in
theorem g_X9_areFour_l2 {w : mWp} {Q : Option Value → mH → Prop} (v0 : Option Nat) (v1 : Int32) (v2 : Int32) (h : mH) {res : Int32} (e : f_X9_areFour_l2 v0 v1 v2 h = some res) (q : (fun r : Int32 => Q (some (.int r)) h) res) : mGo w kX9_areFour 0 0 2 [some (va_rf v0), some (.int v1), some (.int v2), none, none] [] h Q := by
  unfold f_X9_areFour_l2 at e
  refine mLoop_go (x := (v2)) (fun x : Int32 => mGo w kX9_areFour 0 0 2 [some (va_rf v0), some (.int v1), some (.int x), none, none] [] h Q) (fun r : Int32 => Q (some (.int r)) h) ?_ e q
  rintro v2 res e q
  exact g_X9_areFour_b2 v0 v1 v2 h e q
noncomputable def f_X9_areFour (v0 : Option Nat) (v1 : Int32) (h : mH) : Option (Int32) :=
  (mIs h v0 8).bind fun _ =>
  f_X9_areFour_l2 v0 v1 (1 : Int32) h
set_option maxRecDepth 100000 in
set_option maxHeartbeats 4000000 in
theorem g_X9_areFour {w : mWp} {Q : Option Value → mH → Prop} (v0 : Option Nat) (v1 : Int32) (h : mH) {res : Int32} (e : f_X9_areFour v0 v1 h = some res) (q : (fun r : Int32 => Q (some (.int r)) h) res) : mGo w kX9_areFour 0 0 0 [some (va_rf v0), some (.int v1), none, none, none] [] h Q := by
  unfold f_X9_areFour at e
  obtain ⟨_, _, e⟩ := mBind e
  refine mGo.iconst (n := 1) (v := (1 : Int32)) dX9_areFour_0 (by decide) rfl ?_
  refine mGo.istore_n (n := 2) (ls' := [some (va_rf v0), some (.int v1), some (.int (1 : Int32)), none, none]) dX9_areFour_1 rfl (Nat.le_of_ble_eq_true rfl) rfl ?_
  refine mGo.mk [true, true, true, false, false] ?_
  exact g_X9_areFour_l2 v0 v1 (1 : Int32) h e q
theorem e_X9_areFour {w : mWp} (v0 : Option Nat) (v1 : Int32) (h : mH) {res : Int32} (e : f_X9_areFour v0 v1 h = some res) : mEx w zX9_areFour (mRoom 3 0 0) [va_rf v0, .int v1] h (fun r h2 => r = some (.int res) ∧ h2 = h) := by
  refine mEx.of (by decide +kernel) (show mEnt [va_rf v0, .int v1] 5 = [some (va_rf v0), some (.int v1), none, none, none] by rw [mEnt_r, mEnt_i] <;> rfl) (by simp only [List.map_cons, List.map_nil, mRfc, mCi, mCj, List.sum_cons, List.sum_nil]; exact Nat.le_of_ble_eq_true rfl) ?_
  refine g_X9_areFour v0 v1 h e ?_
  exact ⟨rfl, rfl⟩
theorem s_X9_areFour (v0 : Option Nat) (v1 : Int32) (h : mH) {res : Int32} (e : f_X9_areFour v0 v1 h = some res) : mIs h v0 8 = some () := by
  unfold f_X9_areFour at e
  obtain ⟨u, e1, _⟩ := mBind e
  cases u
  exact e1
-- X9_fours
def kX9_fours : mK := (cX9_fours, RX9, 9, some (.int), "fours", mRoom 4 0 0)
def zX9_fours : mY := (yX9_fours, cX9_fours, 9, some (.int))
set_option maxRecDepth 100000 in
theorem sc_RX9_284 : mSS RX9 284 zX9_isEven 2 := ⟨Or.inl (mT_at 1251 (by decide +kernel) rfl), mT_at 1252 (by decide +kernel) rfl, mT_at 91 (by decide +kernel) rfl, mT_at 1253 (by decide +kernel) rfl, ⟨by decide +kernel, by decide +kernel, by decide +kernel⟩⟩
set_option maxRecDepth 100000 in
theorem sc_RX9_287 : mSV RX9 287 zX9_areFour 1 8 := ⟨Or.inl (mT_at 1254 (by decide +kernel) rfl), mT_at 1256 (by decide +kernel) rfl, mT_at 81 (by decide +kernel) rfl, mT_at 91 (by decide +kernel) rfl, mT_at 1257 (by decide +kernel) rfl, ⟨by decide +kernel, by decide +kernel, by decide +kernel⟩, by decide, rfl⟩
noncomputable def f_X9_fours_b119 (v0 : Option Nat) (v1 : Int32) (v2 : Int32) (v3 : Int32) (v4 : Int32) (v5 : Int32) (v6 : Int32) (v7 : Int32) (v8 : Int32) (h : mH) : Option ((Int32 × Int32 × mH) ⊕ ((Int32 × Int32 × mH) ⊕ (Int32 × mH))) :=
  if v8 < 0 then
    (f_X9_areFour v0 v1 h).bind fun x1 =>
    if x1 = 0 then
      some (Sum.inr (Sum.inl (v5, (v6 + 1), h)))
    else
      if v5 = v2 then
        (mGR h v0 8 11).bind fun x2 =>
        (mAI h x2 v3).bind fun x3 =>
        some (Sum.inr (Sum.inr (x3, h)))
      else
        some (Sum.inr (Sum.inl ((v5 + 1), (v6 + 1), h)))
  else
    (mGR h v0 8 11).bind fun x4 =>
    (mGR h v0 8 24).bind fun x5 =>
    if v4 = 0 then none else
    (mAI h x5 (mRem v7 v4)).bind fun x7 =>
    (mSI h x4 v8 x7).bind fun h8 =>
    if v4 = 0 then none else
    some (Sum.inl ((v7 / v4), (v8 + (-1)), h8))
set_option maxRecDepth 100000 in
set_option maxHeartbeats 4000000 in
theorem g_X9_fours_b119 {w : mWp} {Q : Option Value → mH → Prop} (v0 : Option Nat) (v1 : Int32) (v2 : Int32) (v3 : Int32) (v4 : Int32) (v5 : Int32) (v6 : Int32) (v7 : Int32) (v8 : Int32) (h : mH) {res : (Int32 × Int32 × mH) ⊕ ((Int32 × Int32 × mH) ⊕ (Int32 × mH))} (e : f_X9_fours_b119 v0 v1 v2 v3 v4 v5 v6 v7 v8 h = some res) (q : (Sum.elim (fun x : Int32 × Int32 × mH => mGo w kX9_fours 0 0 119 [some (va_rf v0), some (.int v1), some (.int v2), some (.int v3), some (.int v4), some (.int v5), some (.int v6), some (.int x.1), some (.int x.2.1)] [] x.2.2 Q) (Sum.elim (fun x : Int32 × Int32 × mH => mGo w kX9_fours 0 0 96 [some (va_rf v0), some (.int v1), some (.int v2), some (.int v3), some (.int v4), some (.int x.1), some (.int x.2.1), none, none] [] x.2.2 Q) (fun r : Int32 × mH => Q (some (.int r.1)) r.2))) res) : mGo w kX9_fours 0 0 119 [some (va_rf v0), some (.int v1), some (.int v2), some (.int v3), some (.int v4), some (.int v5), some (.int v6), some (.int v7), some (.int v8)] [] h Q := by
  unfold f_X9_fours_b119 at e
  refine mGo.iload (n := 121) (x := v8) dX9_fours_119 rfl rfl ?_
  refine mGo.if_lt (tgt := 154) (n := 124) dX9_fours_121 (by decide) rfl (fun hc => ?_) (fun hc => ?_)
  · replace e := mIft hc e
    refine mGo.aload_n (n := 155) (r := v0) dX9_fours_154 rfl rfl ?_
    refine mGo.iload_n (n := 156) (x := v1) dX9_fours_155 rfl rfl ?_
    obtain ⟨x1, e_x1, e⟩ := mBind e
    refine mGo.callV (n := 159) (y := zX9_areFour) (R' := (mRoom (3) 0 0)) (as := [.int v1]) (st := []) (r0 := v0) dX9_fours_156 sc_RX9_287 rfl (s_X9_areFour v0 v1 h e_x1) (e_X9_areFour v0 v1 h e_x1) (mFit_of rfl (Nat.le_of_ble_eq_true rfl) (by decide) (Nat.le_of_ble_eq_true rfl) (Nat.le_of_ble_eq_true rfl)) (Nat.le_of_ble_eq_true rfl) rfl rfl ?_
    intro _ _ hq
    rw [hq.1, hq.2]
    show mGo w kX9_fours 0 0 159 [some (va_rf v0), some (.int v1), some (.int v2), some (.int v3), some (.int v4), some (.int v5), some (.int v6), some (.int v7), some (.int v8)] [.int x1] h Q
    refine mGo.if_ne (tgt := 165) (n := 162) dX9_fours_159 (by decide) rfl (fun hc => ?_) (fun hc => ?_)
    · replace e := mIff hc e
      refine mGo.iload (n := 167) (x := v5) dX9_fours_165 rfl rfl ?_
      refine mGo.iload_n (n := 168) (x := v2) dX9_fours_167 rfl rfl ?_
      refine mGo.icmp_ne (tgt := 178) (n := 171) dX9_fours_168 (by decide) rfl (fun hc => ?_) (fun hc => ?_)
      · replace e := mIff hc e
        refine mGo.iinc (n := 181) (x := v5) (v := (v5 + 1)) (ls' := [some (va_rf v0), some (.int v1), some (.int v2), some (.int v3), some (.int v4), some (.int (v5 + 1)), some (.int v6), some (.int v7), some (.int v8)]) dX9_fours_178 rfl rfl rfl (Nat.le_of_ble_eq_true rfl) rfl ?_
        refine mGo.iinc (n := 184) (x := v6) (v := (v6 + 1)) (ls' := [some (va_rf v0), some (.int v1), some (.int v2), some (.int v3), some (.int v4), some (.int (v5 + 1)), some (.int (v6 + 1)), some (.int v7), some (.int v8)]) dX9_fours_181 rfl rfl rfl (Nat.le_of_ble_eq_true rfl) rfl ?_
        refine mGo.goto (tgt := 96) dX9_fours_184 (by decide) ?_
        cases e
        refine mGo.mk [true, true, true, true, true, true, true, false, false] ?_
        exact q
      · replace e := mIft hc e
        refine mGo.aload_n (n := 172) (r := v0) dX9_fours_171 rfl rfl ?_
        obtain ⟨x2, e_x2, e⟩ := mBind e
        refine mGo.getR (n := 175) dX9_fours_172 sf_RX9_41 e_x2 rfl ?_
        refine mGo.iload_n (n := 176) (x := v3) dX9_fours_175 rfl rfl ?_
        obtain ⟨x3, e_x3, e⟩ := mBind e
        refine mGo.iald (n := 177) dX9_fours_176 e_x3 rfl ?_
        cases e
        exact mGo.iret dX9_fours_177 rfl (Nat.le_of_ble_eq_true rfl) (Nat.le_of_ble_eq_true rfl) q
    · replace e := mIft hc e
      refine mGo.goto (tgt := 181) dX9_fours_162 (by decide) ?_
      refine mGo.iinc (n := 184) (x := v6) (v := (v6 + 1)) (ls' := [some (va_rf v0), some (.int v1), some (.int v2), some (.int v3), some (.int v4), some (.int v5), some (.int (v6 + 1)), some (.int v7), some (.int v8)]) dX9_fours_181 rfl rfl rfl (Nat.le_of_ble_eq_true rfl) rfl ?_
      refine mGo.goto (tgt := 96) dX9_fours_184 (by decide) ?_
      cases e
      refine mGo.mk [true, true, true, true, true, true, true, false, false] ?_
      exact q
  · replace e := mIff hc e
    refine mGo.aload_n (n := 125) (r := v0) dX9_fours_124 rfl rfl ?_
    obtain ⟨x4, e_x4, e⟩ := mBind e
    refine mGo.getR (n := 128) dX9_fours_125 sf_RX9_41 e_x4 rfl ?_
    refine mGo.iload (n := 130) (x := v8) dX9_fours_128 rfl rfl ?_
    refine mGo.aload_n (n := 131) (r := v0) dX9_fours_130 rfl rfl ?_
    obtain ⟨x5, e_x5, e⟩ := mBind e
    refine mGo.getR (n := 134) dX9_fours_131 sf_RX9_75 e_x5 rfl ?_
    refine mGo.iload (n := 136) (x := v7) dX9_fours_134 rfl rfl ?_
    refine mGo.iload (n := 138) (x := v4) dX9_fours_136 rfl rfl ?_
    obtain ⟨z6, e⟩ := mIfN e
    refine mGo.irem (n := 139) dX9_fours_138 z6 rfl ?_
    obtain ⟨x7, e_x7, e⟩ := mBind e
    refine mGo.iald (n := 140) dX9_fours_139 e_x7 rfl ?_
    obtain ⟨h8, e_h8, e⟩ := mBind e
    refine mGo.iast (n := 141) dX9_fours_140 e_h8 rfl ?_
    refine mGo.iload (n := 143) (x := v7) dX9_fours_141 rfl rfl ?_
    refine mGo.iload (n := 145) (x := v4) dX9_fours_143 rfl rfl ?_
    obtain ⟨z9, e⟩ := mIfN e
    refine mGo.idiv (n := 146) dX9_fours_145 z9 rfl ?_
    refine mGo.istore (n := 148) (ls' := [some (va_rf v0), some (.int v1), some (.int v2), some (.int v3), some (.int v4), some (.int v5), some (.int v6), some (.int (v7 / v4)), some (.int v8)]) dX9_fours_146 rfl (Nat.le_of_ble_eq_true rfl) rfl ?_
    refine mGo.iinc (n := 151) (x := v8) (v := (v8 + (-1))) (ls' := [some (va_rf v0), some (.int v1), some (.int v2), some (.int v3), some (.int v4), some (.int v5), some (.int v6), some (.int (v7 / v4)), some (.int (v8 + (-1)))]) dX9_fours_148 rfl rfl rfl (Nat.le_of_ble_eq_true rfl) rfl ?_
    refine mGo.goto (tgt := 119) dX9_fours_151 (by decide) ?_
    cases e
    refine mGo.mk [true, true, true, true, true, true, true, true, true] ?_
    exact q
noncomputable def f_X9_fours_l119 (v0 : Option Nat) (v1 : Int32) (v2 : Int32) (v3 : Int32) (v4 : Int32) (v5 : Int32) (v6 : Int32) (v7 : Int32) (v8 : Int32) (h : mH) : Option ((Int32 × Int32 × mH) ⊕ (Int32 × mH)) :=
  mLoop (fun x : Int32 × Int32 × mH => f_X9_fours_b119 v0 v1 v2 v3 v4 v5 v6 x.1 x.2.1 x.2.2) (v7, v8, h)
set_option maxRecDepth 100000 in
set_option maxHeartbeats 4000000 in
theorem g_X9_fours_l119 {w : mWp} {Q : Option Value → mH → Prop} (v0 : Option Nat) (v1 : Int32) (v2 : Int32) (v3 : Int32) (v4 : Int32) (v5 : Int32) (v6 : Int32) (v7 : Int32) (v8 : Int32) (h : mH) {res : (Int32 × Int32 × mH) ⊕ (Int32 × mH)} (e : f_X9_fours_l119 v0 v1 v2 v3 v4 v5 v6 v7 v8 h = some res) (q : (Sum.elim (fun x : Int32 × Int32 × mH => mGo w kX9_fours 0 0 96 [some (va_rf v0), some (.int v1), some (.int v2), some (.int v3), some (.int v4), some (.int x.1), some (.int x.2.1), none, none] [] x.2.2 Q) (fun r : Int32 × mH => Q (some (.int r.1)) r.2)) res) : mGo w kX9_fours 0 0 119 [some (va_rf v0), some (.int v1), some (.int v2), some (.int v3), some (.int v4), some (.int v5), some (.int v6), some (.int v7), some (.int v8)] [] h Q := by
  unfold f_X9_fours_l119 at e
  refine mLoop_go (x := (v7, v8, h)) (fun x : Int32 × Int32 × mH => mGo w kX9_fours 0 0 119 [some (va_rf v0), some (.int v1), some (.int v2), some (.int v3), some (.int v4), some (.int v5), some (.int v6), some (.int x.1), some (.int x.2.1)] [] x.2.2 Q) (Sum.elim (fun x : Int32 × Int32 × mH => mGo w kX9_fours 0 0 96 [some (va_rf v0), some (.int v1), some (.int v2), some (.int v3), some (.int v4), some (.int x.1), some (.int x.2.1), none, none] [] x.2.2 Q) (fun r : Int32 × mH => Q (some (.int r.1)) r.2)) ?_ e q
  rintro ⟨v7, v8, h1⟩ res e q
  exact g_X9_fours_b119 v0 v1 v2 v3 v4 v5 v6 v7 v8 h1 e q
noncomputable def f_X9_fours_b96 (v0 : Option Nat) (v1 : Int32) (v2 : Int32) (v3 : Int32) (v4 : Int32) (v5 : Int32) (v6 : Int32) (h : mH) : Option ((Int32 × Int32 × mH) ⊕ (Int32 × mH)) :=
  if (((v4 * v4) * v4) * v4) ≤ v6 then
    if v2 = (-1 : Int32) then
      some (Sum.inr (v5, h))
    else
      some (Sum.inr ((-1 : Int32), h))
  else
    f_X9_fours_l119 v0 v1 v2 v3 v4 v5 v6 v6 (3 : Int32) h
set_option maxRecDepth 100000 in
set_option maxHeartbeats 4000000 in
theorem g_X9_fours_b96 {w : mWp} {Q : Option Value → mH → Prop} (v0 : Option Nat) (v1 : Int32) (v2 : Int32) (v3 : Int32) (v4 : Int32) (v5 : Int32) (v6 : Int32) (h : mH) {res : (Int32 × Int32 × mH) ⊕ (Int32 × mH)} (e : f_X9_fours_b96 v0 v1 v2 v3 v4 v5 v6 h = some res) (q : (Sum.elim (fun x : Int32 × Int32 × mH => mGo w kX9_fours 0 0 96 [some (va_rf v0), some (.int v1), some (.int v2), some (.int v3), some (.int v4), some (.int x.1), some (.int x.2.1), none, none] [] x.2.2 Q) (fun r : Int32 × mH => Q (some (.int r.1)) r.2)) res) : mGo w kX9_fours 0 0 96 [some (va_rf v0), some (.int v1), some (.int v2), some (.int v3), some (.int v4), some (.int v5), some (.int v6), none, none] [] h Q := by
  unfold f_X9_fours_b96 at e
  refine mGo.iload (n := 98) (x := v6) dX9_fours_96 rfl rfl ?_
  refine mGo.iload (n := 100) (x := v4) dX9_fours_98 rfl rfl ?_
  refine mGo.iload (n := 102) (x := v4) dX9_fours_100 rfl rfl ?_
  refine mGo.imul (n := 103) dX9_fours_102 rfl ?_
  refine mGo.iload (n := 105) (x := v4) dX9_fours_103 rfl rfl ?_
  refine mGo.imul (n := 106) dX9_fours_105 rfl ?_
  refine mGo.iload (n := 108) (x := v4) dX9_fours_106 rfl rfl ?_
  refine mGo.imul (n := 109) dX9_fours_108 rfl ?_
  refine mGo.icmp_ge (tgt := 187) (n := 112) dX9_fours_109 (by decide) rfl (fun hc => ?_) (fun hc => ?_)
  · replace e := mIft hc e
    refine mGo.iload_n (n := 188) (x := v2) dX9_fours_187 rfl rfl ?_
    refine mGo.iconst (n := 189) (v := (-1 : Int32)) dX9_fours_188 (by decide) rfl ?_
    refine mGo.icmp_ne (tgt := 197) (n := 192) dX9_fours_189 (by decide) rfl (fun hc => ?_) (fun hc => ?_)
    · replace e := mIff hc e
      refine mGo.iconst (n := 198) (v := (-1 : Int32)) dX9_fours_197 (by decide) rfl ?_
      cases e
      exact mGo.iret dX9_fours_198 rfl (Nat.le_of_ble_eq_true rfl) (Nat.le_of_ble_eq_true rfl) q
    · replace e := mIft hc e
      refine mGo.iload (n := 194) (x := v5) dX9_fours_192 rfl rfl ?_
      refine mGo.goto (tgt := 198) dX9_fours_194 (by decide) ?_
      cases e
      exact mGo.iret dX9_fours_198 rfl (Nat.le_of_ble_eq_true rfl) (Nat.le_of_ble_eq_true rfl) q
  · replace e := mIff hc e
    refine mGo.iload (n := 114) (x := v6) dX9_fours_112 rfl rfl ?_
    refine mGo.istore (n := 116) (ls' := [some (va_rf v0), some (.int v1), some (.int v2), some (.int v3), some (.int v4), some (.int v5), some (.int v6), some (.int v6), none]) dX9_fours_114 rfl (Nat.le_of_ble_eq_true rfl) rfl ?_
    refine mGo.iconst (n := 117) (v := (3 : Int32)) dX9_fours_116 (by decide) rfl ?_
    refine mGo.istore (n := 119) (ls' := [some (va_rf v0), some (.int v1), some (.int v2), some (.int v3), some (.int v4), some (.int v5), some (.int v6), some (.int v6), some (.int (3 : Int32))]) dX9_fours_117 rfl (Nat.le_of_ble_eq_true rfl) rfl ?_
    refine mGo.mk [true, true, true, true, true, true, true, true, true] ?_
    exact g_X9_fours_l119 v0 v1 v2 v3 v4 v5 v6 v6 (3 : Int32) h e q
noncomputable def f_X9_fours_l96 (v0 : Option Nat) (v1 : Int32) (v2 : Int32) (v3 : Int32) (v4 : Int32) (v5 : Int32) (v6 : Int32) (h : mH) : Option (Int32 × mH) :=
  mLoop (fun x : Int32 × Int32 × mH => f_X9_fours_b96 v0 v1 v2 v3 v4 x.1 x.2.1 x.2.2) (v5, v6, h)
set_option maxRecDepth 100000 in
set_option maxHeartbeats 4000000 in
theorem g_X9_fours_l96 {w : mWp} {Q : Option Value → mH → Prop} (v0 : Option Nat) (v1 : Int32) (v2 : Int32) (v3 : Int32) (v4 : Int32) (v5 : Int32) (v6 : Int32) (h : mH) {res : Int32 × mH} (e : f_X9_fours_l96 v0 v1 v2 v3 v4 v5 v6 h = some res) (q : (fun r : Int32 × mH => Q (some (.int r.1)) r.2) res) : mGo w kX9_fours 0 0 96 [some (va_rf v0), some (.int v1), some (.int v2), some (.int v3), some (.int v4), some (.int v5), some (.int v6), none, none] [] h Q := by
  unfold f_X9_fours_l96 at e
  refine mLoop_go (x := (v5, v6, h)) (fun x : Int32 × Int32 × mH => mGo w kX9_fours 0 0 96 [some (va_rf v0), some (.int v1), some (.int v2), some (.int v3), some (.int v4), some (.int x.1), some (.int x.2.1), none, none] [] x.2.2 Q) (fun r : Int32 × mH => Q (some (.int r.1)) r.2) ?_ e q
  rintro ⟨v5, v6, h1⟩ res e q
  exact g_X9_fours_b96 v0 v1 v2 v3 v4 v5 v6 h1 e q
noncomputable def f_X9_fours_b52 (v0 : Option Nat) (v1 : Int32) (v2 : Int32) (v3 : Int32) (v4 : Int32) (v5 : Int32) (h : mH) : Option ((Int32 × Int32 × mH) ⊕ (Int32 × mH)) :=
  if ((1 : Int32) <<< (v1 &&& 31)) ≤ v5 then
    (f_X9_fours_l96 v0 v1 v2 v3 v4 (0 : Int32) (0 : Int32) h).map (fun r => (Sum.inr r))
  else
    (f_X9_isEven v5 v1).bind fun x2 =>
    if x2 = 0 then
      some (Sum.inl (v4, (v5 + 1), h))
    else
      (mGR h v0 8 24).bind fun x3 =>
      (mSI h x3 v4 v5).bind fun h4 =>
      some (Sum.inl ((v4 + 1), (v5 + 1), h4))
set_option maxRecDepth 100000 in
set_option maxHeartbeats 4000000 in
theorem g_X9_fours_b52 {w : mWp} {Q : Option Value → mH → Prop} (v0 : Option Nat) (v1 : Int32) (v2 : Int32) (v3 : Int32) (v4 : Int32) (v5 : Int32) (h : mH) {res : (Int32 × Int32 × mH) ⊕ (Int32 × mH)} (e : f_X9_fours_b52 v0 v1 v2 v3 v4 v5 h = some res) (q : (Sum.elim (fun x : Int32 × Int32 × mH => mGo w kX9_fours 0 0 52 [some (va_rf v0), some (.int v1), some (.int v2), some (.int v3), some (.int x.1), some (.int x.2.1), none, none, none] [] x.2.2 Q) (fun r : Int32 × mH => Q (some (.int r.1)) r.2)) res) : mGo w kX9_fours 0 0 52 [some (va_rf v0), some (.int v1), some (.int v2), some (.int v3), some (.int v4), some (.int v5), none, none, none] [] h Q := by
  unfold f_X9_fours_b52 at e
  refine mGo.iload (n := 54) (x := v5) dX9_fours_52 rfl rfl ?_
  refine mGo.iconst (n := 55) (v := (1 : Int32)) dX9_fours_54 (by decide) rfl ?_
  refine mGo.iload_n (n := 56) (x := v1) dX9_fours_55 rfl rfl ?_
  refine mGo.ishl (n := 57) dX9_fours_56 rfl ?_
  refine mGo.icmp_ge (tgt := 90) (n := 60) dX9_fours_57 (by decide) rfl (fun hc => ?_) (fun hc => ?_)
  · replace e := mIft hc e
    refine mGo.iconst (n := 91) (v := (0 : Int32)) dX9_fours_90 (by decide) rfl ?_
    refine mGo.istore (n := 93) (ls' := [some (va_rf v0), some (.int v1), some (.int v2), some (.int v3), some (.int v4), some (.int (0 : Int32)), none, none, none]) dX9_fours_91 rfl (Nat.le_of_ble_eq_true rfl) rfl ?_
    refine mGo.iconst (n := 94) (v := (0 : Int32)) dX9_fours_93 (by decide) rfl ?_
    refine mGo.istore (n := 96) (ls' := [some (va_rf v0), some (.int v1), some (.int v2), some (.int v3), some (.int v4), some (.int (0 : Int32)), some (.int (0 : Int32)), none, none]) dX9_fours_94 rfl (Nat.le_of_ble_eq_true rfl) rfl ?_
    obtain ⟨r1, e2, rfl⟩ := mMap e
    refine mGo.mk [true, true, true, true, true, true, true, false, false] ?_
    exact g_X9_fours_l96 v0 v1 v2 v3 v4 (0 : Int32) (0 : Int32) h e2 q
  · replace e := mIff hc e
    refine mGo.iload (n := 62) (x := v5) dX9_fours_60 rfl rfl ?_
    refine mGo.iload_n (n := 63) (x := v1) dX9_fours_62 rfl rfl ?_
    obtain ⟨x2, e_x2, e⟩ := mBind e
    refine mGo.callS (n := 66) (y := zX9_isEven) (R' := (mRoom (2) 0 0)) (as := [.int v5, .int v1]) (st := []) dX9_fours_63 sc_RX9_284 rfl (e_X9_isEven v5 v1 h e_x2) (mFit_of rfl (Nat.le_of_ble_eq_true rfl) (by decide) (Nat.le_of_ble_eq_true rfl) (Nat.le_of_ble_eq_true rfl)) (Nat.le_of_ble_eq_true rfl) rfl rfl ?_
    intro _ _ hq
    rw [hq.1, hq.2]
    show mGo w kX9_fours 0 0 66 [some (va_rf v0), some (.int v1), some (.int v2), some (.int v3), some (.int v4), some (.int v5), none, none, none] [.int x2] h Q
    refine mGo.if_ne (tgt := 72) (n := 69) dX9_fours_66 (by decide) rfl (fun hc => ?_) (fun hc => ?_)
    · replace e := mIff hc e
      refine mGo.aload_n (n := 73) (r := v0) dX9_fours_72 rfl rfl ?_
      obtain ⟨x3, e_x3, e⟩ := mBind e
      refine mGo.getR (n := 76) dX9_fours_73 sf_RX9_75 e_x3 rfl ?_
      refine mGo.iload (n := 78) (x := v4) dX9_fours_76 rfl rfl ?_
      refine mGo.iload (n := 80) (x := v5) dX9_fours_78 rfl rfl ?_
      obtain ⟨h4, e_h4, e⟩ := mBind e
      refine mGo.iast (n := 81) dX9_fours_80 e_h4 rfl ?_
      refine mGo.iinc (n := 84) (x := v4) (v := (v4 + 1)) (ls' := [some (va_rf v0), some (.int v1), some (.int v2), some (.int v3), some (.int (v4 + 1)), some (.int v5), none, none, none]) dX9_fours_81 rfl rfl rfl (Nat.le_of_ble_eq_true rfl) rfl ?_
      refine mGo.iinc (n := 87) (x := v5) (v := (v5 + 1)) (ls' := [some (va_rf v0), some (.int v1), some (.int v2), some (.int v3), some (.int (v4 + 1)), some (.int (v5 + 1)), none, none, none]) dX9_fours_84 rfl rfl rfl (Nat.le_of_ble_eq_true rfl) rfl ?_
      refine mGo.goto (tgt := 52) dX9_fours_87 (by decide) ?_
      cases e
      refine mGo.mk [true, true, true, true, true, true, false, false, false] ?_
      exact q
    · replace e := mIft hc e
      refine mGo.goto (tgt := 84) dX9_fours_69 (by decide) ?_
      refine mGo.iinc (n := 87) (x := v5) (v := (v5 + 1)) (ls' := [some (va_rf v0), some (.int v1), some (.int v2), some (.int v3), some (.int v4), some (.int (v5 + 1)), none, none, none]) dX9_fours_84 rfl rfl rfl (Nat.le_of_ble_eq_true rfl) rfl ?_
      refine mGo.goto (tgt := 52) dX9_fours_87 (by decide) ?_
      cases e
      refine mGo.mk [true, true, true, true, true, true, false, false, false] ?_
      exact q
noncomputable def f_X9_fours_l52 (v0 : Option Nat) (v1 : Int32) (v2 : Int32) (v3 : Int32) (v4 : Int32) (v5 : Int32) (h : mH) : Option (Int32 × mH) :=
  mLoop (fun x : Int32 × Int32 × mH => f_X9_fours_b52 v0 v1 v2 v3 x.1 x.2.1 x.2.2) (v4, v5, h)
set_option maxRecDepth 100000 in
set_option maxHeartbeats 4000000 in
theorem g_X9_fours_l52 {w : mWp} {Q : Option Value → mH → Prop} (v0 : Option Nat) (v1 : Int32) (v2 : Int32) (v3 : Int32) (v4 : Int32) (v5 : Int32) (h : mH) {res : Int32 × mH} (e : f_X9_fours_l52 v0 v1 v2 v3 v4 v5 h = some res) (q : (fun r : Int32 × mH => Q (some (.int r.1)) r.2) res) : mGo w kX9_fours 0 0 52 [some (va_rf v0), some (.int v1), some (.int v2), some (.int v3), some (.int v4), some (.int v5), none, none, none] [] h Q := by
  unfold f_X9_fours_l52 at e
  refine mLoop_go (x := (v4, v5, h)) (fun x : Int32 × Int32 × mH => mGo w kX9_fours 0 0 52 [some (va_rf v0), some (.int v1), some (.int v2), some (.int v3), some (.int x.1), some (.int x.2.1), none, none, none] [] x.2.2 Q) (fun r : Int32 × mH => Q (some (.int r.1)) r.2) ?_ e q
  rintro ⟨v4, v5, h1⟩ res e q
  exact g_X9_fours_b52 v0 v1 v2 v3 v4 v5 h1 e q
noncomputable def f_X9_fours_c21 (v0 : Option Nat) (v1 : Int32) (v2 : Int32) (v3 : Int32) (h : mH) : Option (Int32 × mH) :=
  (f_X9_in v3 (0 : Int32) (3 : Int32)).bind fun x1 =>
  if x1 = 0 then
    some ((-1 : Int32), h)
  else
    if v2 < (-1 : Int32) then
      some ((-1 : Int32), h)
    else
      if v2 = (-1 : Int32) then
        if v3 ≤ 0 then
          f_X9_fours_l52 v0 v1 v2 v3 (0 : Int32) (0 : Int32) h
        else
          some ((-1 : Int32), h)
      else
        f_X9_fours_l52 v0 v1 v2 v3 (0 : Int32) (0 : Int32) h
set_option maxRecDepth 100000 in
set_option maxHeartbeats 4000000 in
theorem g_X9_fours_c21 {w : mWp} {Q : Option Value → mH → Prop} (v0 : Option Nat) (v1 : Int32) (v2 : Int32) (v3 : Int32) (h : mH) {res : Int32 × mH} (e : f_X9_fours_c21 v0 v1 v2 v3 h = some res) (q : (fun r : Int32 × mH => Q (some (.int r.1)) r.2) res) : mGo w kX9_fours 0 0 21 [some (va_rf v0), some (.int v1), some (.int v2), some (.int v3), none, none, none, none, none] [] h Q := by
  unfold f_X9_fours_c21 at e
  refine mGo.iload_n (n := 22) (x := v3) dX9_fours_21 rfl rfl ?_
  refine mGo.iconst (n := 23) (v := (0 : Int32)) dX9_fours_22 (by decide) rfl ?_
  refine mGo.iconst (n := 24) (v := (3 : Int32)) dX9_fours_23 (by decide) rfl ?_
  obtain ⟨x1, e_x1, e⟩ := mBind e
  refine mGo.callS (n := 27) (y := zX9_in) (R' := (mRoom (1) 0 0)) (as := [.int v3, .int (0 : Int32), .int (3 : Int32)]) (st := []) dX9_fours_24 sc_RX9_82 rfl (e_X9_in v3 (0 : Int32) (3 : Int32) h e_x1) (mFit_of rfl (Nat.le_of_ble_eq_true rfl) (by decide) (Nat.le_of_ble_eq_true rfl) (Nat.le_of_ble_eq_true rfl)) (Nat.le_of_ble_eq_true rfl) rfl rfl ?_
  intro _ _ hq
  rw [hq.1, hq.2]
  show mGo w kX9_fours 0 0 27 [some (va_rf v0), some (.int v1), some (.int v2), some (.int v3), none, none, none, none, none] [.int x1] h Q
  refine mGo.if_eq (tgt := 44) (n := 30) dX9_fours_27 (by decide) rfl (fun hc => ?_) (fun hc => ?_)
  · replace e := mIft hc e
    refine mGo.iconst (n := 45) (v := (-1 : Int32)) dX9_fours_44 (by decide) rfl ?_
    cases e
    exact mGo.iret dX9_fours_45 rfl (Nat.le_of_ble_eq_true rfl) (Nat.le_of_ble_eq_true rfl) q
  · replace e := mIff hc e
    refine mGo.iload_n (n := 31) (x := v2) dX9_fours_30 rfl rfl ?_
    refine mGo.iconst (n := 32) (v := (-1 : Int32)) dX9_fours_31 (by decide) rfl ?_
    refine mGo.icmp_lt (tgt := 44) (n := 35) dX9_fours_32 (by decide) rfl (fun hc => ?_) (fun hc => ?_)
    · replace e := mIft hc e
      refine mGo.iconst (n := 45) (v := (-1 : Int32)) dX9_fours_44 (by decide) rfl ?_
      cases e
      exact mGo.iret dX9_fours_45 rfl (Nat.le_of_ble_eq_true rfl) (Nat.le_of_ble_eq_true rfl) q
    · replace e := mIff hc e
      refine mGo.iload_n (n := 36) (x := v2) dX9_fours_35 rfl rfl ?_
      refine mGo.iconst (n := 37) (v := (-1 : Int32)) dX9_fours_36 (by decide) rfl ?_
      refine mGo.icmp_ne (tgt := 46) (n := 40) dX9_fours_37 (by decide) rfl (fun hc => ?_) (fun hc => ?_)
      · replace e := mIff hc e
        refine mGo.iconst (n := 47) (v := (0 : Int32)) dX9_fours_46 (by decide) rfl ?_
        refine mGo.istore (n := 49) (ls' := [some (va_rf v0), some (.int v1), some (.int v2), some (.int v3), some (.int (0 : Int32)), none, none, none, none]) dX9_fours_47 rfl (Nat.le_of_ble_eq_true rfl) rfl ?_
        refine mGo.iconst (n := 50) (v := (0 : Int32)) dX9_fours_49 (by decide) rfl ?_
        refine mGo.istore (n := 52) (ls' := [some (va_rf v0), some (.int v1), some (.int v2), some (.int v3), some (.int (0 : Int32)), some (.int (0 : Int32)), none, none, none]) dX9_fours_50 rfl (Nat.le_of_ble_eq_true rfl) rfl ?_
        refine mGo.mk [true, true, true, true, true, true, false, false, false] ?_
        exact g_X9_fours_l52 v0 v1 v2 v3 (0 : Int32) (0 : Int32) h e q
      · replace e := mIft hc e
        refine mGo.iload_n (n := 41) (x := v3) dX9_fours_40 rfl rfl ?_
        refine mGo.if_le (tgt := 46) (n := 44) dX9_fours_41 (by decide) rfl (fun hc => ?_) (fun hc => ?_)
        · replace e := mIft hc e
          refine mGo.iconst (n := 47) (v := (0 : Int32)) dX9_fours_46 (by decide) rfl ?_
          refine mGo.istore (n := 49) (ls' := [some (va_rf v0), some (.int v1), some (.int v2), some (.int v3), some (.int (0 : Int32)), none, none, none, none]) dX9_fours_47 rfl (Nat.le_of_ble_eq_true rfl) rfl ?_
          refine mGo.iconst (n := 50) (v := (0 : Int32)) dX9_fours_49 (by decide) rfl ?_
          refine mGo.istore (n := 52) (ls' := [some (va_rf v0), some (.int v1), some (.int v2), some (.int v3), some (.int (0 : Int32)), some (.int (0 : Int32)), none, none, none]) dX9_fours_50 rfl (Nat.le_of_ble_eq_true rfl) rfl ?_
          refine mGo.mk [true, true, true, true, true, true, false, false, false] ?_
          exact g_X9_fours_l52 v0 v1 v2 v3 (0 : Int32) (0 : Int32) h e q
        · replace e := mIff hc e
          refine mGo.iconst (n := 45) (v := (-1 : Int32)) dX9_fours_44 (by decide) rfl ?_
          cases e
          exact mGo.iret dX9_fours_45 rfl (Nat.le_of_ble_eq_true rfl) (Nat.le_of_ble_eq_true rfl) q
noncomputable def f_X9_fours (v0 : Option Nat) (v1 : Int32) (v2 : Int32) (v3 : Int32) (h : mH) : Option (Int32 × mH) :=
  (mIs h v0 8).bind fun _ =>
  if v1 = (1 : Int32) then
    f_X9_fours_c21 v0 v1 v2 v3 h
  else
    if v1 = (3 : Int32) then
      f_X9_fours_c21 v0 v1 v2 v3 h
    else
      if v1 = (5 : Int32) then
        f_X9_fours_c21 v0 v1 v2 v3 h
      else
        if v1 = (7 : Int32) then
          f_X9_fours_c21 v0 v1 v2 v3 h
        else
          some ((-1 : Int32), h)
set_option maxRecDepth 100000 in
set_option maxHeartbeats 4000000 in
theorem g_X9_fours {w : mWp} {Q : Option Value → mH → Prop} (v0 : Option Nat) (v1 : Int32) (v2 : Int32) (v3 : Int32) (h : mH) {res : Int32 × mH} (e : f_X9_fours v0 v1 v2 v3 h = some res) (q : (fun r : Int32 × mH => Q (some (.int r.1)) r.2) res) : mGo w kX9_fours 0 0 0 [some (va_rf v0), some (.int v1), some (.int v2), some (.int v3), none, none, none, none, none] [] h Q := by
  unfold f_X9_fours at e
  obtain ⟨_, _, e⟩ := mBind e
  refine mGo.iload_n (n := 1) (x := v1) dX9_fours_0 rfl rfl ?_
  refine mGo.iconst (n := 2) (v := (1 : Int32)) dX9_fours_1 (by decide) rfl ?_
  refine mGo.icmp_eq (tgt := 21) (n := 5) dX9_fours_2 (by decide) rfl (fun hc => ?_) (fun hc => ?_)
  · replace e := mIft hc e
    refine mGo.mk [true, true, true, true, false, false, false, false, false] ?_
    exact g_X9_fours_c21 v0 v1 v2 v3 h e q
  · replace e := mIff hc e
    refine mGo.iload_n (n := 6) (x := v1) dX9_fours_5 rfl rfl ?_
    refine mGo.iconst (n := 7) (v := (3 : Int32)) dX9_fours_6 (by decide) rfl ?_
    refine mGo.icmp_eq (tgt := 21) (n := 10) dX9_fours_7 (by decide) rfl (fun hc => ?_) (fun hc => ?_)
    · replace e := mIft hc e
      refine mGo.mk [true, true, true, true, false, false, false, false, false] ?_
      exact g_X9_fours_c21 v0 v1 v2 v3 h e q
    · replace e := mIff hc e
      refine mGo.iload_n (n := 11) (x := v1) dX9_fours_10 rfl rfl ?_
      refine mGo.iconst (n := 12) (v := (5 : Int32)) dX9_fours_11 (by decide) rfl ?_
      refine mGo.icmp_eq (tgt := 21) (n := 15) dX9_fours_12 (by decide) rfl (fun hc => ?_) (fun hc => ?_)
      · replace e := mIft hc e
        refine mGo.mk [true, true, true, true, false, false, false, false, false] ?_
        exact g_X9_fours_c21 v0 v1 v2 v3 h e q
      · replace e := mIff hc e
        refine mGo.iload_n (n := 16) (x := v1) dX9_fours_15 rfl rfl ?_
        refine mGo.bipush (n := 18) (v := (7 : Int32)) dX9_fours_16 (by decide) rfl ?_
        refine mGo.icmp_ne (tgt := 44) (n := 21) dX9_fours_18 (by decide) rfl (fun hc => ?_) (fun hc => ?_)
        · replace e := mIff hc e
          refine mGo.iconst (n := 45) (v := (-1 : Int32)) dX9_fours_44 (by decide) rfl ?_
          cases e
          exact mGo.iret dX9_fours_45 rfl (Nat.le_of_ble_eq_true rfl) (Nat.le_of_ble_eq_true rfl) q
        · replace e := mIft hc e
          refine mGo.mk [true, true, true, true, false, false, false, false, false] ?_
          exact g_X9_fours_c21 v0 v1 v2 v3 h e q
theorem e_X9_fours {w : mWp} (v0 : Option Nat) (v1 : Int32) (v2 : Int32) (v3 : Int32) (h : mH) {res : Int32 × mH} (e : f_X9_fours v0 v1 v2 v3 h = some res) : mEx w zX9_fours (mRoom 4 0 0) [va_rf v0, .int v1, .int v2, .int v3] h (fun r h2 => r = some (.int res.1) ∧ h2 = res.2) := by
  refine mEx.of (by decide +kernel) (show mEnt [va_rf v0, .int v1, .int v2, .int v3] 9 = [some (va_rf v0), some (.int v1), some (.int v2), some (.int v3), none, none, none, none, none] by rw [mEnt_r, mEnt_i, mEnt_i, mEnt_i] <;> rfl) (by simp only [List.map_cons, List.map_nil, mRfc, mCi, mCj, List.sum_cons, List.sum_nil]; exact Nat.le_of_ble_eq_true rfl) ?_
  refine g_X9_fours v0 v1 v2 v3 h e ?_
  exact ⟨rfl, rfl⟩
theorem s_X9_fours (v0 : Option Nat) (v1 : Int32) (v2 : Int32) (v3 : Int32) (h : mH) {res : Int32 × mH} (e : f_X9_fours v0 v1 v2 v3 h = some res) : mIs h v0 8 = some () := by
  unfold f_X9_fours at e
  obtain ⟨u, e1, _⟩ := mBind e
  cases u
  exact e1
-- X9_count
def kX9_count : mK := (cX9_count, RX9, 6, some (.int), "count", mRoom 5 0 0)
def zX9_count : mY := (yX9_count, cX9_count, 6, some (.int))
noncomputable def f_X9_count_b10 (v0 : Option Nat) (v1 : Int32) (v2 : Int32) (v3 : Int32) (v4 : Int32) (v5 : Int32) (h : mH) : Option ((Int32 × Int32 × Int32 × Int32 × mH) ⊕ (Int32 × mH)) :=
  if (6 : Int32) ≤ v5 then
    if v1 = 0 then
      some (Sum.inr (v2, h))
    else
      if v1 = (1 : Int32) then
        some (Sum.inr (v3, h))
      else
        if v1 = (2 : Int32) then
          (mGI h v0 8 7).bind fun x1 =>
          some (Sum.inr (x1, h))
        else
          if v1 = (3 : Int32) then
            some (Sum.inr (v4, h))
          else
            some (Sum.inr ((-1 : Int32), h))
  else
    (mGR h v0 8 1).bind fun x2 =>
    (mAI h x2 v5).bind fun x3 =>
    if x3 = 0 then
      some (Sum.inl (v2, v3, v4, (v5 + 1), h))
    else
      (f_X9_isPerpendicular v0 v5 h).bind fun x4 =>
      if x4.1 = 0 then
        some (Sum.inl ((v2 + 1), (v3 ||| ((1 : Int32) <<< (v5 &&& 31))), v4, (v5 + 1), x4.2))
      else
        some (Sum.inl ((v2 + 1), (v3 ||| ((1 : Int32) <<< (v5 &&& 31))), (v4 ||| ((1 : Int32) <<< (v5 &&& 31))), (v5 + 1), x4.2))
set_option maxRecDepth 100000 in
set_option maxHeartbeats 4000000 in
theorem g_X9_count_b10 {w : mWp} {Q : Option Value → mH → Prop} (v0 : Option Nat) (v1 : Int32) (v2 : Int32) (v3 : Int32) (v4 : Int32) (v5 : Int32) (h : mH) {res : (Int32 × Int32 × Int32 × Int32 × mH) ⊕ (Int32 × mH)} (e : f_X9_count_b10 v0 v1 v2 v3 v4 v5 h = some res) (q : (Sum.elim (fun x : Int32 × Int32 × Int32 × Int32 × mH => mGo w kX9_count 0 0 10 [some (va_rf v0), some (.int v1), some (.int x.1), some (.int x.2.1), some (.int x.2.2.1), some (.int x.2.2.2.1)] [] x.2.2.2.2 Q) (fun r : Int32 × mH => Q (some (.int r.1)) r.2)) res) : mGo w kX9_count 0 0 10 [some (va_rf v0), some (.int v1), some (.int v2), some (.int v3), some (.int v4), some (.int v5)] [] h Q := by
  unfold f_X9_count_b10 at e
  refine mGo.iload (n := 12) (x := v5) dX9_count_10 rfl rfl ?_
  refine mGo.bipush (n := 14) (v := (6 : Int32)) dX9_count_12 (by decide) rfl ?_
  refine mGo.icmp_ge (tgt := 64) (n := 17) dX9_count_14 (by decide) rfl (fun hc => ?_) (fun hc => ?_)
  · replace e := mIft hc e
    refine mGo.iload_n (n := 65) (x := v1) dX9_count_64 rfl rfl ?_
    refine mGo.if_ne (tgt := 72) (n := 68) dX9_count_65 (by decide) rfl (fun hc => ?_) (fun hc => ?_)
    · replace e := mIff hc e
      refine mGo.iload_n (n := 73) (x := v1) dX9_count_72 rfl rfl ?_
      refine mGo.iconst (n := 74) (v := (1 : Int32)) dX9_count_73 (by decide) rfl ?_
      refine mGo.icmp_ne (tgt := 81) (n := 77) dX9_count_74 (by decide) rfl (fun hc => ?_) (fun hc => ?_)
      · replace e := mIff hc e
        refine mGo.iload_n (n := 82) (x := v1) dX9_count_81 rfl rfl ?_
        refine mGo.iconst (n := 83) (v := (2 : Int32)) dX9_count_82 (by decide) rfl ?_
        refine mGo.icmp_ne (tgt := 93) (n := 86) dX9_count_83 (by decide) rfl (fun hc => ?_) (fun hc => ?_)
        · replace e := mIff hc e
          refine mGo.iload_n (n := 94) (x := v1) dX9_count_93 rfl rfl ?_
          refine mGo.iconst (n := 95) (v := (3 : Int32)) dX9_count_94 (by decide) rfl ?_
          refine mGo.icmp_ne (tgt := 103) (n := 98) dX9_count_95 (by decide) rfl (fun hc => ?_) (fun hc => ?_)
          · replace e := mIff hc e
            refine mGo.iconst (n := 104) (v := (-1 : Int32)) dX9_count_103 (by decide) rfl ?_
            cases e
            exact mGo.iret dX9_count_104 rfl (Nat.le_of_ble_eq_true rfl) (Nat.le_of_ble_eq_true rfl) q
          · replace e := mIft hc e
            refine mGo.iload (n := 100) (x := v4) dX9_count_98 rfl rfl ?_
            refine mGo.goto (tgt := 104) dX9_count_100 (by decide) ?_
            cases e
            exact mGo.iret dX9_count_104 rfl (Nat.le_of_ble_eq_true rfl) (Nat.le_of_ble_eq_true rfl) q
        · replace e := mIft hc e
          refine mGo.aload_n (n := 87) (r := v0) dX9_count_86 rfl rfl ?_
          obtain ⟨x1, e_x1, e⟩ := mBind e
          refine mGo.getI (n := 90) dX9_count_87 sf_RX9_112 e_x1 rfl ?_
          refine mGo.goto (tgt := 104) dX9_count_90 (by decide) ?_
          cases e
          exact mGo.iret dX9_count_104 rfl (Nat.le_of_ble_eq_true rfl) (Nat.le_of_ble_eq_true rfl) q
      · replace e := mIft hc e
        refine mGo.iload_n (n := 78) (x := v3) dX9_count_77 rfl rfl ?_
        refine mGo.goto (tgt := 104) dX9_count_78 (by decide) ?_
        cases e
        exact mGo.iret dX9_count_104 rfl (Nat.le_of_ble_eq_true rfl) (Nat.le_of_ble_eq_true rfl) q
    · replace e := mIft hc e
      refine mGo.iload_n (n := 69) (x := v2) dX9_count_68 rfl rfl ?_
      refine mGo.goto (tgt := 104) dX9_count_69 (by decide) ?_
      cases e
      exact mGo.iret dX9_count_104 rfl (Nat.le_of_ble_eq_true rfl) (Nat.le_of_ble_eq_true rfl) q
  · replace e := mIff hc e
    refine mGo.aload_n (n := 18) (r := v0) dX9_count_17 rfl rfl ?_
    obtain ⟨x2, e_x2, e⟩ := mBind e
    refine mGo.getR (n := 21) dX9_count_18 sf_RX9_13 e_x2 rfl ?_
    refine mGo.iload (n := 23) (x := v5) dX9_count_21 rfl rfl ?_
    obtain ⟨x3, e_x3, e⟩ := mBind e
    refine mGo.iald (n := 24) dX9_count_23 e_x3 rfl ?_
    refine mGo.if_ne (tgt := 30) (n := 27) dX9_count_24 (by decide) rfl (fun hc => ?_) (fun hc => ?_)
    · replace e := mIff hc e
      refine mGo.iinc (n := 33) (x := v2) (v := (v2 + 1)) (ls' := [some (va_rf v0), some (.int v1), some (.int (v2 + 1)), some (.int v3), some (.int v4), some (.int v5)]) dX9_count_30 rfl rfl rfl (Nat.le_of_ble_eq_true rfl) rfl ?_
      refine mGo.iload_n (n := 34) (x := v3) dX9_count_33 rfl rfl ?_
      refine mGo.iconst (n := 35) (v := (1 : Int32)) dX9_count_34 (by decide) rfl ?_
      refine mGo.iload (n := 37) (x := v5) dX9_count_35 rfl rfl ?_
      refine mGo.ishl (n := 38) dX9_count_37 rfl ?_
      refine mGo.ior (n := 39) dX9_count_38 rfl ?_
      refine mGo.istore_n (n := 40) (ls' := [some (va_rf v0), some (.int v1), some (.int (v2 + 1)), some (.int (v3 ||| ((1 : Int32) <<< (v5 &&& 31)))), some (.int v4), some (.int v5)]) dX9_count_39 rfl (Nat.le_of_ble_eq_true rfl) rfl ?_
      refine mGo.aload_n (n := 41) (r := v0) dX9_count_40 rfl rfl ?_
      refine mGo.iload (n := 43) (x := v5) dX9_count_41 rfl rfl ?_
      obtain ⟨x4, e_x4, e⟩ := mBind e
      refine mGo.callV (n := 46) (y := zX9_isPerpendicular) (R' := (mRoom (4) 0 0)) (as := [.int v5]) (st := []) (r0 := v0) dX9_count_43 sc_RX9_244 rfl (s_X9_isPerpendicular v0 v5 h e_x4) (e_X9_isPerpendicular v0 v5 h e_x4) (mFit_of rfl (Nat.le_of_ble_eq_true rfl) (by decide) (Nat.le_of_ble_eq_true rfl) (Nat.le_of_ble_eq_true rfl)) (Nat.le_of_ble_eq_true rfl) rfl rfl ?_
      intro _ _ hq
      rw [hq.1, hq.2]
      show mGo w kX9_count 0 0 46 [some (va_rf v0), some (.int v1), some (.int (v2 + 1)), some (.int (v3 ||| ((1 : Int32) <<< (v5 &&& 31)))), some (.int v4), some (.int v5)] [.int x4.1] x4.2 Q
      refine mGo.if_eq (tgt := 58) (n := 49) dX9_count_46 (by decide) rfl (fun hc => ?_) (fun hc => ?_)
      · replace e := mIft hc e
        refine mGo.iinc (n := 61) (x := v5) (v := (v5 + 1)) (ls' := [some (va_rf v0), some (.int v1), some (.int (v2 + 1)), some (.int (v3 ||| ((1 : Int32) <<< (v5 &&& 31)))), some (.int v4), some (.int (v5 + 1))]) dX9_count_58 rfl rfl rfl (Nat.le_of_ble_eq_true rfl) rfl ?_
        refine mGo.goto (tgt := 10) dX9_count_61 (by decide) ?_
        cases e
        refine mGo.mk [true, true, true, true, true, true] ?_
        exact q
      · replace e := mIff hc e
        refine mGo.iload (n := 51) (x := v4) dX9_count_49 rfl rfl ?_
        refine mGo.iconst (n := 52) (v := (1 : Int32)) dX9_count_51 (by decide) rfl ?_
        refine mGo.iload (n := 54) (x := v5) dX9_count_52 rfl rfl ?_
        refine mGo.ishl (n := 55) dX9_count_54 rfl ?_
        refine mGo.ior (n := 56) dX9_count_55 rfl ?_
        refine mGo.istore (n := 58) (ls' := [some (va_rf v0), some (.int v1), some (.int (v2 + 1)), some (.int (v3 ||| ((1 : Int32) <<< (v5 &&& 31)))), some (.int (v4 ||| ((1 : Int32) <<< (v5 &&& 31)))), some (.int v5)]) dX9_count_56 rfl (Nat.le_of_ble_eq_true rfl) rfl ?_
        refine mGo.iinc (n := 61) (x := v5) (v := (v5 + 1)) (ls' := [some (va_rf v0), some (.int v1), some (.int (v2 + 1)), some (.int (v3 ||| ((1 : Int32) <<< (v5 &&& 31)))), some (.int (v4 ||| ((1 : Int32) <<< (v5 &&& 31)))), some (.int (v5 + 1))]) dX9_count_58 rfl rfl rfl (Nat.le_of_ble_eq_true rfl) rfl ?_
        refine mGo.goto (tgt := 10) dX9_count_61 (by decide) ?_
        cases e
        refine mGo.mk [true, true, true, true, true, true] ?_
        exact q
    · replace e := mIft hc e
      refine mGo.goto (tgt := 58) dX9_count_27 (by decide) ?_
      refine mGo.iinc (n := 61) (x := v5) (v := (v5 + 1)) (ls' := [some (va_rf v0), some (.int v1), some (.int v2), some (.int v3), some (.int v4), some (.int (v5 + 1))]) dX9_count_58 rfl rfl rfl (Nat.le_of_ble_eq_true rfl) rfl ?_
      refine mGo.goto (tgt := 10) dX9_count_61 (by decide) ?_
      cases e
      refine mGo.mk [true, true, true, true, true, true] ?_
      exact q
noncomputable def f_X9_count_l10 (v0 : Option Nat) (v1 : Int32) (v2 : Int32) (v3 : Int32) (v4 : Int32) (v5 : Int32) (h : mH) : Option (Int32 × mH) :=
  mLoop (fun x : Int32 × Int32 × Int32 × Int32 × mH => f_X9_count_b10 v0 v1 x.1 x.2.1 x.2.2.1 x.2.2.2.1 x.2.2.2.2) (v2, v3, v4, v5, h)
set_option maxRecDepth 100000 in
set_option maxHeartbeats 4000000 in
theorem g_X9_count_l10 {w : mWp} {Q : Option Value → mH → Prop} (v0 : Option Nat) (v1 : Int32) (v2 : Int32) (v3 : Int32) (v4 : Int32) (v5 : Int32) (h : mH) {res : Int32 × mH} (e : f_X9_count_l10 v0 v1 v2 v3 v4 v5 h = some res) (q : (fun r : Int32 × mH => Q (some (.int r.1)) r.2) res) : mGo w kX9_count 0 0 10 [some (va_rf v0), some (.int v1), some (.int v2), some (.int v3), some (.int v4), some (.int v5)] [] h Q := by
  unfold f_X9_count_l10 at e
  refine mLoop_go (x := (v2, v3, v4, v5, h)) (fun x : Int32 × Int32 × Int32 × Int32 × mH => mGo w kX9_count 0 0 10 [some (va_rf v0), some (.int v1), some (.int x.1), some (.int x.2.1), some (.int x.2.2.1), some (.int x.2.2.2.1)] [] x.2.2.2.2 Q) (fun r : Int32 × mH => Q (some (.int r.1)) r.2) ?_ e q
  rintro ⟨v2, v3, v4, v5, h1⟩ res e q
  exact g_X9_count_b10 v0 v1 v2 v3 v4 v5 h1 e q
noncomputable def f_X9_count (v0 : Option Nat) (v1 : Int32) (h : mH) : Option (Int32 × mH) :=
  (mIs h v0 8).bind fun _ =>
  f_X9_count_l10 v0 v1 (0 : Int32) (0 : Int32) (0 : Int32) (0 : Int32) h
set_option maxRecDepth 100000 in
set_option maxHeartbeats 4000000 in
theorem g_X9_count {w : mWp} {Q : Option Value → mH → Prop} (v0 : Option Nat) (v1 : Int32) (h : mH) {res : Int32 × mH} (e : f_X9_count v0 v1 h = some res) (q : (fun r : Int32 × mH => Q (some (.int r.1)) r.2) res) : mGo w kX9_count 0 0 0 [some (va_rf v0), some (.int v1), none, none, none, none] [] h Q := by
  unfold f_X9_count at e
  obtain ⟨_, _, e⟩ := mBind e
  refine mGo.iconst (n := 1) (v := (0 : Int32)) dX9_count_0 (by decide) rfl ?_
  refine mGo.istore_n (n := 2) (ls' := [some (va_rf v0), some (.int v1), some (.int (0 : Int32)), none, none, none]) dX9_count_1 rfl (Nat.le_of_ble_eq_true rfl) rfl ?_
  refine mGo.iconst (n := 3) (v := (0 : Int32)) dX9_count_2 (by decide) rfl ?_
  refine mGo.istore_n (n := 4) (ls' := [some (va_rf v0), some (.int v1), some (.int (0 : Int32)), some (.int (0 : Int32)), none, none]) dX9_count_3 rfl (Nat.le_of_ble_eq_true rfl) rfl ?_
  refine mGo.iconst (n := 5) (v := (0 : Int32)) dX9_count_4 (by decide) rfl ?_
  refine mGo.istore (n := 7) (ls' := [some (va_rf v0), some (.int v1), some (.int (0 : Int32)), some (.int (0 : Int32)), some (.int (0 : Int32)), none]) dX9_count_5 rfl (Nat.le_of_ble_eq_true rfl) rfl ?_
  refine mGo.iconst (n := 8) (v := (0 : Int32)) dX9_count_7 (by decide) rfl ?_
  refine mGo.istore (n := 10) (ls' := [some (va_rf v0), some (.int v1), some (.int (0 : Int32)), some (.int (0 : Int32)), some (.int (0 : Int32)), some (.int (0 : Int32))]) dX9_count_8 rfl (Nat.le_of_ble_eq_true rfl) rfl ?_
  refine mGo.mk [true, true, true, true, true, true] ?_
  exact g_X9_count_l10 v0 v1 (0 : Int32) (0 : Int32) (0 : Int32) (0 : Int32) h e q
theorem e_X9_count {w : mWp} (v0 : Option Nat) (v1 : Int32) (h : mH) {res : Int32 × mH} (e : f_X9_count v0 v1 h = some res) : mEx w zX9_count (mRoom 5 0 0) [va_rf v0, .int v1] h (fun r h2 => r = some (.int res.1) ∧ h2 = res.2) := by
  refine mEx.of (by decide +kernel) (show mEnt [va_rf v0, .int v1] 6 = [some (va_rf v0), some (.int v1), none, none, none, none] by rw [mEnt_r, mEnt_i] <;> rfl) (by simp only [List.map_cons, List.map_nil, mRfc, mCi, mCj, List.sum_cons, List.sum_nil]; exact Nat.le_of_ble_eq_true rfl) ?_
  refine g_X9_count v0 v1 h e ?_
  exact ⟨rfl, rfl⟩
theorem s_X9_count (v0 : Option Nat) (v1 : Int32) (h : mH) {res : Int32 × mH} (e : f_X9_count v0 v1 h = some res) : mIs h v0 8 = some () := by
  unfold f_X9_count at e
  obtain ⟨u, e1, _⟩ := mBind e
  cases u
  exact e1
-- L_law
def kL_law : mK := (cL_law, RL, 4, some .boolean, "law", room_1)
set_option maxRecDepth 100000 in
theorem sc_RL_9 : mSI' RL 9 zX8_init 0 := ⟨Or.inl (mT_at 98 (by decide +kernel) rfl), mT_at 99 (by decide +kernel) rfl, mT_at 83 (by decide +kernel) rfl, mT_at 100 (by decide +kernel) rfl, ⟨by decide +kernel, by decide +kernel, by decide +kernel⟩, rfl, rfl⟩
set_option maxRecDepth 100000 in
theorem sc_RL_12 : mSI' RL 12 zX9_init 0 := ⟨Or.inl (mT_at 799 (by decide +kernel) rfl), mT_at 800 (by decide +kernel) rfl, mT_at 91 (by decide +kernel) rfl, mT_at 801 (by decide +kernel) rfl, ⟨by decide +kernel, by decide +kernel, by decide +kernel⟩, rfl, rfl⟩
set_option maxRecDepth 100000 in
theorem sc_RL_13 : mSV RL 13 zX8_tell 1 7 := ⟨Or.inl (mT_at 306 (by decide +kernel) rfl), mT_at 307 (by decide +kernel) rfl, mT_at 308 (by decide +kernel) rfl, mT_at 83 (by decide +kernel) rfl, mT_at 309 (by decide +kernel) rfl, ⟨by decide +kernel, by decide +kernel, by decide +kernel⟩, by decide, rfl⟩
set_option maxRecDepth 100000 in
theorem sc_RL_17 : mSV RL 17 zX9_tell 1 8 := ⟨Or.inl (mT_at 878 (by decide +kernel) rfl), mT_at 879 (by decide +kernel) rfl, mT_at 880 (by decide +kernel) rfl, mT_at 91 (by decide +kernel) rfl, mT_at 881 (by decide +kernel) rfl, ⟨by decide +kernel, by decide +kernel, by decide +kernel⟩, by decide, rfl⟩
set_option maxRecDepth 100000 in
theorem sc_RL_18 : mSV RL 18 zX8_take 0 7 := ⟨Or.inl (mT_at 311 (by decide +kernel) rfl), mT_at 312 (by decide +kernel) rfl, mT_at 313 (by decide +kernel) rfl, mT_at 83 (by decide +kernel) rfl, mT_at 314 (by decide +kernel) rfl, ⟨by decide +kernel, by decide +kernel, by decide +kernel⟩, by decide, rfl⟩
set_option maxRecDepth 100000 in
theorem sc_RL_22 : mSV RL 22 zX9_take 0 8 := ⟨Or.inl (mT_at 886 (by decide +kernel) rfl), mT_at 887 (by decide +kernel) rfl, mT_at 888 (by decide +kernel) rfl, mT_at 91 (by decide +kernel) rfl, mT_at 889 (by decide +kernel) rfl, ⟨by decide +kernel, by decide +kernel, by decide +kernel⟩, by decide, rfl⟩
set_option maxRecDepth 100000 in
theorem sc_RL_23 : mSV RL 23 zX8_residues 1 7 := ⟨Or.inl (mT_at 341 (by decide +kernel) rfl), mT_at 342 (by decide +kernel) rfl, mT_at 343 (by decide +kernel) rfl, mT_at 83 (by decide +kernel) rfl, mT_at 344 (by decide +kernel) rfl, ⟨by decide +kernel, by decide +kernel, by decide +kernel⟩, by decide, rfl⟩
set_option maxRecDepth 100000 in
theorem sc_RL_26 : mSV RL 26 zX9_residues 1 8 := ⟨Or.inl (mT_at 936 (by decide +kernel) rfl), mT_at 937 (by decide +kernel) rfl, mT_at 938 (by decide +kernel) rfl, mT_at 91 (by decide +kernel) rfl, mT_at 939 (by decide +kernel) rfl, ⟨by decide +kernel, by decide +kernel, by decide +kernel⟩, by decide, rfl⟩
set_option maxRecDepth 100000 in
theorem sc_RL_27 : mSV RL 27 zX8_twice 1 7 := ⟨Or.inl (mT_at 372 (by decide +kernel) rfl), mT_at 373 (by decide +kernel) rfl, mT_at 374 (by decide +kernel) rfl, mT_at 83 (by decide +kernel) rfl, mT_at 375 (by decide +kernel) rfl, ⟨by decide +kernel, by decide +kernel, by decide +kernel⟩, by decide, rfl⟩
set_option maxRecDepth 100000 in
theorem sc_RL_30 : mSV RL 30 zX9_twice 1 8 := ⟨Or.inl (mT_at 947 (by decide +kernel) rfl), mT_at 948 (by decide +kernel) rfl, mT_at 949 (by decide +kernel) rfl, mT_at 91 (by decide +kernel) rfl, mT_at 950 (by decide +kernel) rfl, ⟨by decide +kernel, by decide +kernel, by decide +kernel⟩, by decide, rfl⟩
set_option maxRecDepth 100000 in
theorem sc_RL_31 : mSV RL 31 zX8_doubled 1 7 := ⟨Or.inl (mT_at 382 (by decide +kernel) rfl), mT_at 383 (by decide +kernel) rfl, mT_at 384 (by decide +kernel) rfl, mT_at 83 (by decide +kernel) rfl, mT_at 385 (by decide +kernel) rfl, ⟨by decide +kernel, by decide +kernel, by decide +kernel⟩, by decide, rfl⟩
set_option maxRecDepth 100000 in
theorem sc_RL_34 : mSV RL 34 zX9_doubled 1 8 := ⟨Or.inl (mT_at 954 (by decide +kernel) rfl), mT_at 955 (by decide +kernel) rfl, mT_at 956 (by decide +kernel) rfl, mT_at 91 (by decide +kernel) rfl, mT_at 957 (by decide +kernel) rfl, ⟨by decide +kernel, by decide +kernel, by decide +kernel⟩, by decide, rfl⟩
set_option maxRecDepth 100000 in
theorem sc_RL_35 : mSV RL 35 zX8_product 2 7 := ⟨Or.inl (mT_at 394 (by decide +kernel) rfl), mT_at 395 (by decide +kernel) rfl, mT_at 396 (by decide +kernel) rfl, mT_at 83 (by decide +kernel) rfl, mT_at 397 (by decide +kernel) rfl, ⟨by decide +kernel, by decide +kernel, by decide +kernel⟩, by decide, rfl⟩
set_option maxRecDepth 100000 in
theorem sc_RL_39 : mSV RL 39 zX9_product 2 8 := ⟨Or.inl (mT_at 973 (by decide +kernel) rfl), mT_at 974 (by decide +kernel) rfl, mT_at 975 (by decide +kernel) rfl, mT_at 91 (by decide +kernel) rfl, mT_at 976 (by decide +kernel) rfl, ⟨by decide +kernel, by decide +kernel, by decide +kernel⟩, by decide, rfl⟩
set_option maxRecDepth 100000 in
theorem sc_RL_40 : mSV RL 40 zX8_four 5 7 := ⟨Or.inl (mT_at 406 (by decide +kernel) rfl), mT_at 407 (by decide +kernel) rfl, mT_at 408 (by decide +kernel) rfl, mT_at 83 (by decide +kernel) rfl, mT_at 409 (by decide +kernel) rfl, ⟨by decide +kernel, by decide +kernel, by decide +kernel⟩, by decide, rfl⟩
set_option maxRecDepth 100000 in
theorem sc_RL_44 : mSV RL 44 zX9_four 5 8 := ⟨Or.inl (mT_at 977 (by decide +kernel) rfl), mT_at 978 (by decide +kernel) rfl, mT_at 979 (by decide +kernel) rfl, mT_at 91 (by decide +kernel) rfl, mT_at 980 (by decide +kernel) rfl, ⟨by decide +kernel, by decide +kernel, by decide +kernel⟩, by decide, rfl⟩
set_option maxRecDepth 100000 in
theorem sc_RL_45 : mSV RL 45 zX8_bordered 2 7 := ⟨Or.inl (mT_at 416 (by decide +kernel) rfl), mT_at 417 (by decide +kernel) rfl, mT_at 418 (by decide +kernel) rfl, mT_at 83 (by decide +kernel) rfl, mT_at 419 (by decide +kernel) rfl, ⟨by decide +kernel, by decide +kernel, by decide +kernel⟩, by decide, rfl⟩
set_option maxRecDepth 100000 in
theorem sc_RL_48 : mSV RL 48 zX9_bordered 2 8 := ⟨Or.inl (mT_at 988 (by decide +kernel) rfl), mT_at 989 (by decide +kernel) rfl, mT_at 990 (by decide +kernel) rfl, mT_at 91 (by decide +kernel) rfl, mT_at 991 (by decide +kernel) rfl, ⟨by decide +kernel, by decide +kernel, by decide +kernel⟩, by decide, rfl⟩
set_option maxRecDepth 100000 in
theorem sc_RL_49 : mSV RL 49 zX8_completed 1 7 := ⟨Or.inl (mT_at 420 (by decide +kernel) rfl), mT_at 421 (by decide +kernel) rfl, mT_at 422 (by decide +kernel) rfl, mT_at 83 (by decide +kernel) rfl, mT_at 423 (by decide +kernel) rfl, ⟨by decide +kernel, by decide +kernel, by decide +kernel⟩, by decide, rfl⟩
set_option maxRecDepth 100000 in
theorem sc_RL_52 : mSV RL 52 zX9_completed 1 8 := ⟨Or.inl (mT_at 992 (by decide +kernel) rfl), mT_at 993 (by decide +kernel) rfl, mT_at 994 (by decide +kernel) rfl, mT_at 91 (by decide +kernel) rfl, mT_at 995 (by decide +kernel) rfl, ⟨by decide +kernel, by decide +kernel, by decide +kernel⟩, by decide, rfl⟩
set_option maxRecDepth 100000 in
theorem sc_RL_53 : mSV RL 53 zX8_copy 1 7 := ⟨Or.inl (mT_at 444 (by decide +kernel) rfl), mT_at 445 (by decide +kernel) rfl, mT_at 446 (by decide +kernel) rfl, mT_at 83 (by decide +kernel) rfl, mT_at 447 (by decide +kernel) rfl, ⟨by decide +kernel, by decide +kernel, by decide +kernel⟩, by decide, rfl⟩
set_option maxRecDepth 100000 in
theorem sc_RL_56 : mSV RL 56 zX9_copy 1 8 := ⟨Or.inl (mT_at 1014 (by decide +kernel) rfl), mT_at 1015 (by decide +kernel) rfl, mT_at 1016 (by decide +kernel) rfl, mT_at 91 (by decide +kernel) rfl, mT_at 1017 (by decide +kernel) rfl, ⟨by decide +kernel, by decide +kernel, by decide +kernel⟩, by decide, rfl⟩
set_option maxRecDepth 100000 in
theorem sc_RL_57 : mSV RL 57 zX8_drop 1 7 := ⟨Or.inl (mT_at 448 (by decide +kernel) rfl), mT_at 449 (by decide +kernel) rfl, mT_at 450 (by decide +kernel) rfl, mT_at 83 (by decide +kernel) rfl, mT_at 451 (by decide +kernel) rfl, ⟨by decide +kernel, by decide +kernel, by decide +kernel⟩, by decide, rfl⟩
set_option maxRecDepth 100000 in
theorem sc_RL_61 : mSV RL 61 zX9_drop 1 8 := ⟨Or.inl (mT_at 1018 (by decide +kernel) rfl), mT_at 1019 (by decide +kernel) rfl, mT_at 1020 (by decide +kernel) rfl, mT_at 91 (by decide +kernel) rfl, mT_at 1021 (by decide +kernel) rfl, ⟨by decide +kernel, by decide +kernel, by decide +kernel⟩, by decide, rfl⟩
set_option maxRecDepth 100000 in
theorem sc_RL_72 : mSV RL 72 zX8_turn 1 7 := ⟨Or.inl (mT_at 476 (by decide +kernel) rfl), mT_at 477 (by decide +kernel) rfl, mT_at 478 (by decide +kernel) rfl, mT_at 83 (by decide +kernel) rfl, mT_at 479 (by decide +kernel) rfl, ⟨by decide +kernel, by decide +kernel, by decide +kernel⟩, by decide, rfl⟩
set_option maxRecDepth 100000 in
theorem sc_RL_75 : mSV RL 75 zX9_turn 1 8 := ⟨Or.inl (mT_at 1045 (by decide +kernel) rfl), mT_at 1046 (by decide +kernel) rfl, mT_at 1047 (by decide +kernel) rfl, mT_at 91 (by decide +kernel) rfl, mT_at 1048 (by decide +kernel) rfl, ⟨by decide +kernel, by decide +kernel, by decide +kernel⟩, by decide, rfl⟩
set_option maxRecDepth 100000 in
theorem sc_RL_76 : mSV RL 76 zX8_switched 6 7 := ⟨Or.inl (mT_at 484 (by decide +kernel) rfl), mT_at 485 (by decide +kernel) rfl, mT_at 486 (by decide +kernel) rfl, mT_at 83 (by decide +kernel) rfl, mT_at 487 (by decide +kernel) rfl, ⟨by decide +kernel, by decide +kernel, by decide +kernel⟩, by decide, rfl⟩
set_option maxRecDepth 100000 in
theorem sc_RL_80 : mSV RL 80 zX9_switched 6 8 := ⟨Or.inl (mT_at 1053 (by decide +kernel) rfl), mT_at 1054 (by decide +kernel) rfl, mT_at 1055 (by decide +kernel) rfl, mT_at 91 (by decide +kernel) rfl, mT_at 1056 (by decide +kernel) rfl, ⟨by decide +kernel, by decide +kernel, by decide +kernel⟩, by decide, rfl⟩
set_option maxRecDepth 100000 in
theorem sc_RL_81 : mSV RL 81 zX8_norm 1 7 := ⟨Or.inl (mT_at 499 (by decide +kernel) rfl), mT_at 500 (by decide +kernel) rfl, mT_at 501 (by decide +kernel) rfl, mT_at 83 (by decide +kernel) rfl, mT_at 502 (by decide +kernel) rfl, ⟨by decide +kernel, by decide +kernel, by decide +kernel⟩, by decide, rfl⟩
set_option maxRecDepth 100000 in
theorem sc_RL_84 : mSV RL 84 zX9_norm 1 8 := ⟨Or.inl (mT_at 1060 (by decide +kernel) rfl), mT_at 1061 (by decide +kernel) rfl, mT_at 1062 (by decide +kernel) rfl, mT_at 91 (by decide +kernel) rfl, mT_at 1063 (by decide +kernel) rfl, ⟨by decide +kernel, by decide +kernel, by decide +kernel⟩, by decide, rfl⟩
set_option maxRecDepth 100000 in
theorem sc_RL_85 : mSV RL 85 zX8_order 1 7 := ⟨Or.inl (mT_at 503 (by decide +kernel) rfl), mT_at 504 (by decide +kernel) rfl, mT_at 505 (by decide +kernel) rfl, mT_at 83 (by decide +kernel) rfl, mT_at 506 (by decide +kernel) rfl, ⟨by decide +kernel, by decide +kernel, by decide +kernel⟩, by decide, rfl⟩
set_option maxRecDepth 100000 in
theorem sc_RL_88 : mSV RL 88 zX9_order 1 8 := ⟨Or.inl (mT_at 1064 (by decide +kernel) rfl), mT_at 1065 (by decide +kernel) rfl, mT_at 1066 (by decide +kernel) rfl, mT_at 91 (by decide +kernel) rfl, mT_at 1067 (by decide +kernel) rfl, ⟨by decide +kernel, by decide +kernel, by decide +kernel⟩, by decide, rfl⟩
set_option maxRecDepth 100000 in
theorem sc_RL_103 : mSV RL 103 zX8_perpendicular 2 7 := ⟨Or.inl (mT_at 524 (by decide +kernel) rfl), mT_at 525 (by decide +kernel) rfl, mT_at 526 (by decide +kernel) rfl, mT_at 83 (by decide +kernel) rfl, mT_at 527 (by decide +kernel) rfl, ⟨by decide +kernel, by decide +kernel, by decide +kernel⟩, by decide, rfl⟩
set_option maxRecDepth 100000 in
theorem sc_RL_106 : mSV RL 106 zX9_perpendicular 2 8 := ⟨Or.inl (mT_at 1084 (by decide +kernel) rfl), mT_at 1085 (by decide +kernel) rfl, mT_at 1086 (by decide +kernel) rfl, mT_at 91 (by decide +kernel) rfl, mT_at 1087 (by decide +kernel) rfl, ⟨by decide +kernel, by decide +kernel, by decide +kernel⟩, by decide, rfl⟩
set_option maxRecDepth 100000 in
theorem sc_RL_107 : mSV RL 107 zX8_sum 1 7 := ⟨Or.inl (mT_at 536 (by decide +kernel) rfl), mT_at 537 (by decide +kernel) rfl, mT_at 538 (by decide +kernel) rfl, mT_at 83 (by decide +kernel) rfl, mT_at 539 (by decide +kernel) rfl, ⟨by decide +kernel, by decide +kernel, by decide +kernel⟩, by decide, rfl⟩
set_option maxRecDepth 100000 in
theorem sc_RL_110 : mSV RL 110 zX9_sum 1 8 := ⟨Or.inl (mT_at 1092 (by decide +kernel) rfl), mT_at 1093 (by decide +kernel) rfl, mT_at 1094 (by decide +kernel) rfl, mT_at 91 (by decide +kernel) rfl, mT_at 1095 (by decide +kernel) rfl, ⟨by decide +kernel, by decide +kernel, by decide +kernel⟩, by decide, rfl⟩
set_option maxRecDepth 100000 in
theorem sc_RL_111 : mSV RL 111 zX8_best 2 7 := ⟨Or.inl (mT_at 540 (by decide +kernel) rfl), mT_at 541 (by decide +kernel) rfl, mT_at 542 (by decide +kernel) rfl, mT_at 83 (by decide +kernel) rfl, mT_at 543 (by decide +kernel) rfl, ⟨by decide +kernel, by decide +kernel, by decide +kernel⟩, by decide, rfl⟩
set_option maxRecDepth 100000 in
theorem sc_RL_114 : mSV RL 114 zX9_best 2 8 := ⟨Or.inl (mT_at 1096 (by decide +kernel) rfl), mT_at 1097 (by decide +kernel) rfl, mT_at 1098 (by decide +kernel) rfl, mT_at 91 (by decide +kernel) rfl, mT_at 1099 (by decide +kernel) rfl, ⟨by decide +kernel, by decide +kernel, by decide +kernel⟩, by decide, rfl⟩
set_option maxRecDepth 100000 in
theorem sc_RL_123 : mSV RL 123 zX8_form 2 7 := ⟨Or.inl (mT_at 589 (by decide +kernel) rfl), mT_at 590 (by decide +kernel) rfl, mT_at 591 (by decide +kernel) rfl, mT_at 83 (by decide +kernel) rfl, mT_at 592 (by decide +kernel) rfl, ⟨by decide +kernel, by decide +kernel, by decide +kernel⟩, by decide, rfl⟩
set_option maxRecDepth 100000 in
theorem sc_RL_126 : mSV RL 126 zX9_form 2 8 := ⟨Or.inl (mT_at 1116 (by decide +kernel) rfl), mT_at 1117 (by decide +kernel) rfl, mT_at 1118 (by decide +kernel) rfl, mT_at 91 (by decide +kernel) rfl, mT_at 1119 (by decide +kernel) rfl, ⟨by decide +kernel, by decide +kernel, by decide +kernel⟩, by decide, rfl⟩
set_option maxRecDepth 100000 in
theorem sc_RL_127 : mSV RL 127 zX8_determinant 1 7 := ⟨Or.inl (mT_at 621 (by decide +kernel) rfl), mT_at 622 (by decide +kernel) rfl, mT_at 623 (by decide +kernel) rfl, mT_at 83 (by decide +kernel) rfl, mT_at 624 (by decide +kernel) rfl, ⟨by decide +kernel, by decide +kernel, by decide +kernel⟩, by decide, rfl⟩
set_option maxRecDepth 100000 in
theorem sc_RL_131 : mSV RL 131 zX9_determinant 1 8 := ⟨Or.inl (mT_at 1136 (by decide +kernel) rfl), mT_at 1137 (by decide +kernel) rfl, mT_at 1138 (by decide +kernel) rfl, mT_at 91 (by decide +kernel) rfl, mT_at 1139 (by decide +kernel) rfl, ⟨by decide +kernel, by decide +kernel, by decide +kernel⟩, by decide, rfl⟩
set_option maxRecDepth 100000 in
theorem sc_RL_132 : mSV RL 132 zX8_like 2 7 := ⟨Or.inl (mT_at 644 (by decide +kernel) rfl), mT_at 645 (by decide +kernel) rfl, mT_at 646 (by decide +kernel) rfl, mT_at 83 (by decide +kernel) rfl, mT_at 647 (by decide +kernel) rfl, ⟨by decide +kernel, by decide +kernel, by decide +kernel⟩, by decide, rfl⟩
set_option maxRecDepth 100000 in
theorem sc_RL_135 : mSV RL 135 zX9_like 2 8 := ⟨Or.inl (mT_at 1146 (by decide +kernel) rfl), mT_at 1147 (by decide +kernel) rfl, mT_at 1148 (by decide +kernel) rfl, mT_at 91 (by decide +kernel) rfl, mT_at 1149 (by decide +kernel) rfl, ⟨by decide +kernel, by decide +kernel, by decide +kernel⟩, by decide, rfl⟩
set_option maxRecDepth 100000 in
theorem sc_RL_141 : mSV RL 141 zX8_symmetries 1 7 := ⟨Or.inl (mT_at 686 (by decide +kernel) rfl), mT_at 687 (by decide +kernel) rfl, mT_at 688 (by decide +kernel) rfl, mT_at 83 (by decide +kernel) rfl, mT_at 689 (by decide +kernel) rfl, ⟨by decide +kernel, by decide +kernel, by decide +kernel⟩, by decide, rfl⟩
set_option maxRecDepth 100000 in
theorem sc_RL_144 : mSV RL 144 zX9_symmetries 1 8 := ⟨Or.inl (mT_at 1181 (by decide +kernel) rfl), mT_at 1182 (by decide +kernel) rfl, mT_at 1183 (by decide +kernel) rfl, mT_at 91 (by decide +kernel) rfl, mT_at 1184 (by decide +kernel) rfl, ⟨by decide +kernel, by decide +kernel, by decide +kernel⟩, by decide, rfl⟩
set_option maxRecDepth 100000 in
theorem sc_RL_145 : mSV RL 145 zX8_joined 3 7 := ⟨Or.inl (mT_at 699 (by decide +kernel) rfl), mT_at 700 (by decide +kernel) rfl, mT_at 701 (by decide +kernel) rfl, mT_at 83 (by decide +kernel) rfl, mT_at 702 (by decide +kernel) rfl, ⟨by decide +kernel, by decide +kernel, by decide +kernel⟩, by decide, rfl⟩
set_option maxRecDepth 100000 in
theorem sc_RL_149 : mSV RL 149 zX9_joined 3 8 := ⟨Or.inl (mT_at 1190 (by decide +kernel) rfl), mT_at 1191 (by decide +kernel) rfl, mT_at 1192 (by decide +kernel) rfl, mT_at 91 (by decide +kernel) rfl, mT_at 1193 (by decide +kernel) rfl, ⟨by decide +kernel, by decide +kernel, by decide +kernel⟩, by decide, rfl⟩
set_option maxRecDepth 100000 in
theorem sc_RL_150 : mSV RL 150 zX8_common 3 7 := ⟨Or.inl (mT_at 712 (by decide +kernel) rfl), mT_at 713 (by decide +kernel) rfl, mT_at 714 (by decide +kernel) rfl, mT_at 83 (by decide +kernel) rfl, mT_at 715 (by decide +kernel) rfl, ⟨by decide +kernel, by decide +kernel, by decide +kernel⟩, by decide, rfl⟩
set_option maxRecDepth 100000 in
theorem sc_RL_153 : mSV RL 153 zX9_common 3 8 := ⟨Or.inl (mT_at 1202 (by decide +kernel) rfl), mT_at 1203 (by decide +kernel) rfl, mT_at 1204 (by decide +kernel) rfl, mT_at 91 (by decide +kernel) rfl, mT_at 1205 (by decide +kernel) rfl, ⟨by decide +kernel, by decide +kernel, by decide +kernel⟩, by decide, rfl⟩
set_option maxRecDepth 100000 in
theorem sc_RL_154 : mSV RL 154 zX8_block 4 7 := ⟨Or.inl (mT_at 716 (by decide +kernel) rfl), mT_at 717 (by decide +kernel) rfl, mT_at 718 (by decide +kernel) rfl, mT_at 83 (by decide +kernel) rfl, mT_at 719 (by decide +kernel) rfl, ⟨by decide +kernel, by decide +kernel, by decide +kernel⟩, by decide, rfl⟩
set_option maxRecDepth 100000 in
theorem sc_RL_158 : mSV RL 158 zX9_block 4 8 := ⟨Or.inl (mT_at 1206 (by decide +kernel) rfl), mT_at 1207 (by decide +kernel) rfl, mT_at 1208 (by decide +kernel) rfl, mT_at 91 (by decide +kernel) rfl, mT_at 1209 (by decide +kernel) rfl, ⟨by decide +kernel, by decide +kernel, by decide +kernel⟩, by decide, rfl⟩
set_option maxRecDepth 100000 in
theorem sc_RL_159 : mSV RL 159 zX8_through 4 7 := ⟨Or.inl (mT_at 727 (by decide +kernel) rfl), mT_at 728 (by decide +kernel) rfl, mT_at 729 (by decide +kernel) rfl, mT_at 83 (by decide +kernel) rfl, mT_at 730 (by decide +kernel) rfl, ⟨by decide +kernel, by decide +kernel, by decide +kernel⟩, by decide, rfl⟩
set_option maxRecDepth 100000 in
theorem sc_RL_162 : mSV RL 162 zX9_through 4 8 := ⟨Or.inl (mT_at 1218 (by decide +kernel) rfl), mT_at 1219 (by decide +kernel) rfl, mT_at 1220 (by decide +kernel) rfl, mT_at 91 (by decide +kernel) rfl, mT_at 1221 (by decide +kernel) rfl, ⟨by decide +kernel, by decide +kernel, by decide +kernel⟩, by decide, rfl⟩
set_option maxRecDepth 100000 in
theorem sc_RL_163 : mSV RL 163 zX8_halves 3 7 := ⟨Or.inl (mT_at 731 (by decide +kernel) rfl), mT_at 732 (by decide +kernel) rfl, mT_at 733 (by decide +kernel) rfl, mT_at 83 (by decide +kernel) rfl, mT_at 734 (by decide +kernel) rfl, ⟨by decide +kernel, by decide +kernel, by decide +kernel⟩, by decide, rfl⟩
set_option maxRecDepth 100000 in
theorem sc_RL_166 : mSV RL 166 zX9_halves 3 8 := ⟨Or.inl (mT_at 1226 (by decide +kernel) rfl), mT_at 1227 (by decide +kernel) rfl, mT_at 1228 (by decide +kernel) rfl, mT_at 91 (by decide +kernel) rfl, mT_at 1229 (by decide +kernel) rfl, ⟨by decide +kernel, by decide +kernel, by decide +kernel⟩, by decide, rfl⟩
set_option maxRecDepth 100000 in
theorem sc_RL_167 : mSV RL 167 zX8_nearest 3 7 := ⟨Or.inl (mT_at 735 (by decide +kernel) rfl), mT_at 736 (by decide +kernel) rfl, mT_at 737 (by decide +kernel) rfl, mT_at 83 (by decide +kernel) rfl, mT_at 738 (by decide +kernel) rfl, ⟨by decide +kernel, by decide +kernel, by decide +kernel⟩, by decide, rfl⟩
set_option maxRecDepth 100000 in
theorem sc_RL_170 : mSV RL 170 zX9_nearest 3 8 := ⟨Or.inl (mT_at 1230 (by decide +kernel) rfl), mT_at 1231 (by decide +kernel) rfl, mT_at 1232 (by decide +kernel) rfl, mT_at 91 (by decide +kernel) rfl, mT_at 1233 (by decide +kernel) rfl, ⟨by decide +kernel, by decide +kernel, by decide +kernel⟩, by decide, rfl⟩
set_option maxRecDepth 100000 in
theorem sc_RL_171 : mSV RL 171 zX8_signal 2 7 := ⟨Or.inl (mT_at 739 (by decide +kernel) rfl), mT_at 740 (by decide +kernel) rfl, mT_at 741 (by decide +kernel) rfl, mT_at 83 (by decide +kernel) rfl, mT_at 742 (by decide +kernel) rfl, ⟨by decide +kernel, by decide +kernel, by decide +kernel⟩, by decide, rfl⟩
set_option maxRecDepth 100000 in
theorem sc_RL_174 : mSV RL 174 zX9_signal 2 8 := ⟨Or.inl (mT_at 1234 (by decide +kernel) rfl), mT_at 1235 (by decide +kernel) rfl, mT_at 1236 (by decide +kernel) rfl, mT_at 91 (by decide +kernel) rfl, mT_at 1237 (by decide +kernel) rfl, ⟨by decide +kernel, by decide +kernel, by decide +kernel⟩, by decide, rfl⟩
set_option maxRecDepth 100000 in
theorem sc_RL_180 : mSV RL 180 zX8_field 4 7 := ⟨Or.inl (mT_at 752 (by decide +kernel) rfl), mT_at 753 (by decide +kernel) rfl, mT_at 754 (by decide +kernel) rfl, mT_at 83 (by decide +kernel) rfl, mT_at 755 (by decide +kernel) rfl, ⟨by decide +kernel, by decide +kernel, by decide +kernel⟩, by decide, rfl⟩
set_option maxRecDepth 100000 in
theorem sc_RL_183 : mSV RL 183 zX9_field 4 8 := ⟨Or.inl (mT_at 914 (by decide +kernel) rfl), mT_at 915 (by decide +kernel) rfl, mT_at 916 (by decide +kernel) rfl, mT_at 91 (by decide +kernel) rfl, mT_at 917 (by decide +kernel) rfl, ⟨by decide +kernel, by decide +kernel, by decide +kernel⟩, by decide, rfl⟩
set_option maxRecDepth 100000 in
theorem sc_RL_184 : mSV RL 184 zX8_fours 3 7 := ⟨Or.inl (mT_at 760 (by decide +kernel) rfl), mT_at 761 (by decide +kernel) rfl, mT_at 762 (by decide +kernel) rfl, mT_at 83 (by decide +kernel) rfl, mT_at 763 (by decide +kernel) rfl, ⟨by decide +kernel, by decide +kernel, by decide +kernel⟩, by decide, rfl⟩
set_option maxRecDepth 100000 in
theorem sc_RL_187 : mSV RL 187 zX9_fours 3 8 := ⟨Or.inl (mT_at 1247 (by decide +kernel) rfl), mT_at 1248 (by decide +kernel) rfl, mT_at 1249 (by decide +kernel) rfl, mT_at 91 (by decide +kernel) rfl, mT_at 1250 (by decide +kernel) rfl, ⟨by decide +kernel, by decide +kernel, by decide +kernel⟩, by decide, rfl⟩
set_option maxRecDepth 100000 in
theorem sc_RL_188 : mSV RL 188 zX8_count 1 7 := ⟨Or.inl (mT_at 785 (by decide +kernel) rfl), mT_at 786 (by decide +kernel) rfl, mT_at 787 (by decide +kernel) rfl, mT_at 83 (by decide +kernel) rfl, mT_at 788 (by decide +kernel) rfl, ⟨by decide +kernel, by decide +kernel, by decide +kernel⟩, by decide, rfl⟩
set_option maxRecDepth 100000 in
theorem sc_RL_191 : mSV RL 191 zX9_count 1 8 := ⟨Or.inl (mT_at 1261 (by decide +kernel) rfl), mT_at 1262 (by decide +kernel) rfl, mT_at 1263 (by decide +kernel) rfl, mT_at 91 (by decide +kernel) rfl, mT_at 1264 (by decide +kernel) rfl, ⟨by decide +kernel, by decide +kernel, by decide +kernel⟩, by decide, rfl⟩
set_option maxRecDepth 100000 in
theorem sc_RL_62 : mSV RL 62 zX8_sign 3 7 := ⟨Or.inl (mT_at 452 (by decide +kernel) rfl), mT_at 453 (by decide +kernel) rfl, mT_at 454 (by decide +kernel) rfl, mT_at 83 (by decide +kernel) rfl, mT_at 455 (by decide +kernel) rfl, ⟨by decide +kernel, by decide +kernel, by decide +kernel⟩, by decide, rfl⟩
set_option maxRecDepth 100000 in
theorem sc_RL_66 : mSV RL 66 zX9_sign 3 8 := ⟨Or.inl (mT_at 1022 (by decide +kernel) rfl), mT_at 1023 (by decide +kernel) rfl, mT_at 1024 (by decide +kernel) rfl, mT_at 91 (by decide +kernel) rfl, mT_at 1025 (by decide +kernel) rfl, ⟨by decide +kernel, by decide +kernel, by decide +kernel⟩, by decide, rfl⟩
set_option maxRecDepth 100000 in
theorem sc_RL_67 : mSV RL 67 zX8_exchange 4 7 := ⟨Or.inl (mT_at 465 (by decide +kernel) rfl), mT_at 466 (by decide +kernel) rfl, mT_at 467 (by decide +kernel) rfl, mT_at 83 (by decide +kernel) rfl, mT_at 468 (by decide +kernel) rfl, ⟨by decide +kernel, by decide +kernel, by decide +kernel⟩, by decide, rfl⟩
set_option maxRecDepth 100000 in
theorem sc_RL_71 : mSV RL 71 zX9_exchange 4 8 := ⟨Or.inl (mT_at 1038 (by decide +kernel) rfl), mT_at 1039 (by decide +kernel) rfl, mT_at 1040 (by decide +kernel) rfl, mT_at 91 (by decide +kernel) rfl, mT_at 1041 (by decide +kernel) rfl, ⟨by decide +kernel, by decide +kernel, by decide +kernel⟩, by decide, rfl⟩
set_option maxRecDepth 100000 in
theorem sc_RL_89 : mSV RL 89 zX8_bits 3 7 := ⟨Or.inl (mT_at 507 (by decide +kernel) rfl), mT_at 508 (by decide +kernel) rfl, mT_at 509 (by decide +kernel) rfl, mT_at 83 (by decide +kernel) rfl, mT_at 510 (by decide +kernel) rfl, ⟨by decide +kernel, by decide +kernel, by decide +kernel⟩, by decide, rfl⟩
set_option maxRecDepth 100000 in
theorem sc_RL_93 : mSV RL 93 zX9_bits 3 8 := ⟨Or.inl (mT_at 1068 (by decide +kernel) rfl), mT_at 1069 (by decide +kernel) rfl, mT_at 1070 (by decide +kernel) rfl, mT_at 91 (by decide +kernel) rfl, mT_at 1071 (by decide +kernel) rfl, ⟨by decide +kernel, by decide +kernel, by decide +kernel⟩, by decide, rfl⟩
set_option maxRecDepth 100000 in
theorem sc_RL_94 : mSV RL 94 zX8_trail 4 7 := ⟨Or.inl (mT_at 515 (by decide +kernel) rfl), mT_at 516 (by decide +kernel) rfl, mT_at 517 (by decide +kernel) rfl, mT_at 83 (by decide +kernel) rfl, mT_at 518 (by decide +kernel) rfl, ⟨by decide +kernel, by decide +kernel, by decide +kernel⟩, by decide, rfl⟩
set_option maxRecDepth 100000 in
theorem sc_RL_98 : mSV RL 98 zX9_trail 4 8 := ⟨Or.inl (mT_at 1076 (by decide +kernel) rfl), mT_at 1077 (by decide +kernel) rfl, mT_at 1078 (by decide +kernel) rfl, mT_at 91 (by decide +kernel) rfl, mT_at 1079 (by decide +kernel) rfl, ⟨by decide +kernel, by decide +kernel, by decide +kernel⟩, by decide, rfl⟩
set_option maxRecDepth 100000 in
theorem sc_RL_99 : mSV RL 99 zX8_along 4 7 := ⟨Or.inl (mT_at 519 (by decide +kernel) rfl), mT_at 520 (by decide +kernel) rfl, mT_at 521 (by decide +kernel) rfl, mT_at 83 (by decide +kernel) rfl, mT_at 522 (by decide +kernel) rfl, ⟨by decide +kernel, by decide +kernel, by decide +kernel⟩, by decide, rfl⟩
set_option maxRecDepth 100000 in
theorem sc_RL_102 : mSV RL 102 zX9_along 4 8 := ⟨Or.inl (mT_at 1080 (by decide +kernel) rfl), mT_at 1081 (by decide +kernel) rfl, mT_at 1082 (by decide +kernel) rfl, mT_at 91 (by decide +kernel) rfl, mT_at 1083 (by decide +kernel) rfl, ⟨by decide +kernel, by decide +kernel, by decide +kernel⟩, by decide, rfl⟩
set_option maxRecDepth 100000 in
theorem sc_RL_115 : mSV RL 115 zX8_tally 3 7 := ⟨Or.inl (mT_at 571 (by decide +kernel) rfl), mT_at 572 (by decide +kernel) rfl, mT_at 573 (by decide +kernel) rfl, mT_at 83 (by decide +kernel) rfl, mT_at 574 (by decide +kernel) rfl, ⟨by decide +kernel, by decide +kernel, by decide +kernel⟩, by decide, rfl⟩
set_option maxRecDepth 100000 in
theorem sc_RL_118 : mSV RL 118 zX9_tally 3 8 := ⟨Or.inl (mT_at 1100 (by decide +kernel) rfl), mT_at 1101 (by decide +kernel) rfl, mT_at 1102 (by decide +kernel) rfl, mT_at 91 (by decide +kernel) rfl, mT_at 1103 (by decide +kernel) rfl, ⟨by decide +kernel, by decide +kernel, by decide +kernel⟩, by decide, rfl⟩
set_option maxRecDepth 100000 in
theorem sc_RL_119 : mSV RL 119 zX8_part 4 7 := ⟨Or.inl (mT_at 585 (by decide +kernel) rfl), mT_at 586 (by decide +kernel) rfl, mT_at 587 (by decide +kernel) rfl, mT_at 83 (by decide +kernel) rfl, mT_at 588 (by decide +kernel) rfl, ⟨by decide +kernel, by decide +kernel, by decide +kernel⟩, by decide, rfl⟩
set_option maxRecDepth 100000 in
theorem sc_RL_122 : mSV RL 122 zX9_part 4 8 := ⟨Or.inl (mT_at 1112 (by decide +kernel) rfl), mT_at 1113 (by decide +kernel) rfl, mT_at 1114 (by decide +kernel) rfl, mT_at 91 (by decide +kernel) rfl, mT_at 1115 (by decide +kernel) rfl, ⟨by decide +kernel, by decide +kernel, by decide +kernel⟩, by decide, rfl⟩
set_option maxRecDepth 100000 in
theorem sc_RL_136 : mSV RL 136 zX8_image 4 7 := ⟨Or.inl (mT_at 674 (by decide +kernel) rfl), mT_at 675 (by decide +kernel) rfl, mT_at 676 (by decide +kernel) rfl, mT_at 83 (by decide +kernel) rfl, mT_at 677 (by decide +kernel) rfl, ⟨by decide +kernel, by decide +kernel, by decide +kernel⟩, by decide, rfl⟩
set_option maxRecDepth 100000 in
theorem sc_RL_140 : mSV RL 140 zX9_image 4 8 := ⟨Or.inl (mT_at 1173 (by decide +kernel) rfl), mT_at 1174 (by decide +kernel) rfl, mT_at 1175 (by decide +kernel) rfl, mT_at 91 (by decide +kernel) rfl, mT_at 1176 (by decide +kernel) rfl, ⟨by decide +kernel, by decide +kernel, by decide +kernel⟩, by decide, rfl⟩
set_option maxRecDepth 100000 in
theorem sc_RL_175 : mSV RL 175 zX8_spectrum 3 7 := ⟨Or.inl (mT_at 743 (by decide +kernel) rfl), mT_at 744 (by decide +kernel) rfl, mT_at 745 (by decide +kernel) rfl, mT_at 83 (by decide +kernel) rfl, mT_at 746 (by decide +kernel) rfl, ⟨by decide +kernel, by decide +kernel, by decide +kernel⟩, by decide, rfl⟩
set_option maxRecDepth 100000 in
theorem sc_RL_179 : mSV RL 179 zX9_spectrum 3 8 := ⟨Or.inl (mT_at 1238 (by decide +kernel) rfl), mT_at 1239 (by decide +kernel) rfl, mT_at 1240 (by decide +kernel) rfl, mT_at 91 (by decide +kernel) rfl, mT_at 1241 (by decide +kernel) rfl, ⟨by decide +kernel, by decide +kernel, by decide +kernel⟩, by decide, rfl⟩
noncomputable def f_L_law_c561 (v0 : Option Nat) (v1 : Option Nat) (v2 : Option Nat) (v3 : Int32) (s0 : Int32) (s1 : Option Nat) (s2 : Int32) (s3 : Int32) (h : mH) : Option ((Int32 × mH) ⊕ (Int32 × mH)) :=
  (mAI h v0 (v3 + (3 : Int32))).bind fun x1 =>
  (f_X9_sign s1 s2 s3 x1 h).bind fun x2 =>
  if s0 = x2.1 then
    some (Sum.inl ((v3 + 7), x2.2))
  else
    some (Sum.inr ((0 : Int32), x2.2))
set_option maxRecDepth 100000 in
set_option maxHeartbeats 4000000 in
theorem g_L_law_c561 {w : mWp} {Q : Option Value → mH → Prop} (v0 : Option Nat) (v1 : Option Nat) (v2 : Option Nat) (v3 : Int32) (s0 : Int32) (s1 : Option Nat) (s2 : Int32) (s3 : Int32) (h : mH) {res : (Int32 × mH) ⊕ (Int32 × mH)} (e : f_L_law_c561 v0 v1 v2 v3 s0 s1 s2 s3 h = some res) (q : (Sum.elim (fun x : Int32 × mH => mGo w kL_law 72 4414 18 [some (va_rf v0), some (va_rf v1), some (va_rf v2), some (.int x.1)] [] x.2 Q) (fun r : Int32 × mH => Q (some (.int r.1)) r.2)) res) : mGo w kL_law 72 4414 561 [some (va_rf v0), some (va_rf v1), some (va_rf v2), some (.int v3)] [.int s3, .int s2, va_rf s1, .int s0] h Q := by
  unfold f_L_law_c561 at e
  refine mGo.aload_n (n := 562) (r := v0) dL_law_561 rfl rfl ?_
  refine mGo.iload_n (n := 563) (x := v3) dL_law_562 rfl rfl ?_
  refine mGo.iconst (n := 564) (v := (3 : Int32)) dL_law_563 (by decide) rfl ?_
  refine mGo.iadd (n := 565) dL_law_564 rfl ?_
  obtain ⟨x1, e_x1, e⟩ := mBind e
  refine mGo.iald (n := 566) dL_law_565 e_x1 rfl ?_
  obtain ⟨x2, e_x2, e⟩ := mBind e
  refine mGo.callV (n := 569) (y := zX9_sign) (R' := (mRoom (4) 0 0)) (as := [.int s2, .int s3, .int x1]) (st := [.int s0]) (r0 := s1) dL_law_566 sc_RL_66 rfl (s_X9_sign s1 s2 s3 x1 h e_x2) (e_X9_sign s1 s2 s3 x1 h e_x2) ⟨⟨(Nat.le_of_ble_eq_true rfl), (Nat.le_of_ble_eq_true rfl)⟩, (Nat.le_of_ble_eq_true rfl), (Nat.le_of_ble_eq_true rfl)⟩ (Nat.le_of_ble_eq_true rfl) rfl rfl ?_
  intro _ _ hq
  rw [hq.1, hq.2]
  show mGo w kL_law 72 4414 569 [some (va_rf v0), some (va_rf v1), some (va_rf v2), some (.int v3)] [.int x2.1, .int s0] x2.2 Q
  refine mGo.icmp_eq (tgt := 1873) (n := 572) dL_law_569 (by decide) rfl (fun hc => ?_) (fun hc => ?_)
  · replace e := mIft hc e
    refine mGo.iinc (n := 1876) (x := v3) (v := (v3 + 7)) (ls' := [some (va_rf v0), some (va_rf v1), some (va_rf v2), some (.int (v3 + 7))]) dL_law_1873 rfl rfl ((mSt_set (fun u _ hu => by cases hu; exact mRfc _)).trans rfl) (Nat.le_of_ble_eq_true rfl) rfl ?_
    refine mGo.goto (tgt := 18) dL_law_1876 (by decide) ?_
    cases e
    refine mGo.mk [true, true, true, true] ?_
    exact q
  · replace e := mIff hc e
    refine mGo.iconst (n := 573) (v := (0 : Int32)) dL_law_572 (by decide) rfl ?_
    cases e
    exact mGo.zret dL_law_573 rfl (by decide) (Nat.le_of_ble_eq_true rfl) (Nat.le_of_ble_eq_true rfl) q
noncomputable def f_L_law_c534 (v0 : Option Nat) (v1 : Option Nat) (v2 : Option Nat) (v3 : Int32) (s0 : Option Nat) (s1 : Int32) (s2 : Int32) (h : mH) : Option ((Int32 × mH) ⊕ (Int32 × mH)) :=
  (mAI h v0 (v3 + (3 : Int32))).bind fun x1 =>
  (f_X8_sign s0 s1 s2 x1 h).bind fun x2 =>
  (mAI x2.2 v0 (v3 + (1 : Int32))).bind fun x3 =>
  (mAI x2.2 v0 (v3 + (2 : Int32))).bind fun x4 =>
  if x4 = 0 then
    f_L_law_c561 v0 v1 v2 v3 x2.1 v2 x3 (0 : Int32) x2.2
  else
    f_L_law_c561 v0 v1 v2 v3 x2.1 v2 x3 (1 : Int32) x2.2
set_option maxRecDepth 100000 in
set_option maxHeartbeats 4000000 in
theorem g_L_law_c534 {w : mWp} {Q : Option Value → mH → Prop} (v0 : Option Nat) (v1 : Option Nat) (v2 : Option Nat) (v3 : Int32) (s0 : Option Nat) (s1 : Int32) (s2 : Int32) (h : mH) {res : (Int32 × mH) ⊕ (Int32 × mH)} (e : f_L_law_c534 v0 v1 v2 v3 s0 s1 s2 h = some res) (q : (Sum.elim (fun x : Int32 × mH => mGo w kL_law 72 4414 18 [some (va_rf v0), some (va_rf v1), some (va_rf v2), some (.int x.1)] [] x.2 Q) (fun r : Int32 × mH => Q (some (.int r.1)) r.2)) res) : mGo w kL_law 72 4414 534 [some (va_rf v0), some (va_rf v1), some (va_rf v2), some (.int v3)] [.int s2, .int s1, va_rf s0] h Q := by
  unfold f_L_law_c534 at e
  refine mGo.aload_n (n := 535) (r := v0) dL_law_534 rfl rfl ?_
  refine mGo.iload_n (n := 536) (x := v3) dL_law_535 rfl rfl ?_
  refine mGo.iconst (n := 537) (v := (3 : Int32)) dL_law_536 (by decide) rfl ?_
  refine mGo.iadd (n := 538) dL_law_537 rfl ?_
  obtain ⟨x1, e_x1, e⟩ := mBind e
  refine mGo.iald (n := 539) dL_law_538 e_x1 rfl ?_
  obtain ⟨x2, e_x2, e⟩ := mBind e
  refine mGo.callV (n := 542) (y := zX8_sign) (R' := (mRoom (3) 0 0)) (as := [.int s1, .int s2, .int x1]) (st := []) (r0 := s0) dL_law_539 sc_RL_62 rfl (s_X8_sign s0 s1 s2 x1 h e_x2) (e_X8_sign s0 s1 s2 x1 h e_x2) ⟨⟨(Nat.le_of_ble_eq_true rfl), (Nat.le_of_ble_eq_true rfl)⟩, (Nat.le_of_ble_eq_true rfl), (Nat.le_of_ble_eq_true rfl)⟩ (Nat.le_of_ble_eq_true rfl) rfl rfl ?_
  intro _ _ hq
  rw [hq.1, hq.2]
  show mGo w kL_law 72 4414 542 [some (va_rf v0), some (va_rf v1), some (va_rf v2), some (.int v3)] [.int x2.1] x2.2 Q
  refine mGo.aload_n (n := 543) (r := v2) dL_law_542 rfl rfl ?_
  refine mGo.aload_n (n := 544) (r := v0) dL_law_543 rfl rfl ?_
  refine mGo.iload_n (n := 545) (x := v3) dL_law_544 rfl rfl ?_
  refine mGo.iconst (n := 546) (v := (1 : Int32)) dL_law_545 (by decide) rfl ?_
  refine mGo.iadd (n := 547) dL_law_546 rfl ?_
  obtain ⟨x3, e_x3, e⟩ := mBind e
  refine mGo.iald (n := 548) dL_law_547 e_x3 rfl ?_
  refine mGo.aload_n (n := 549) (r := v0) dL_law_548 rfl rfl ?_
  refine mGo.iload_n (n := 550) (x := v3) dL_law_549 rfl rfl ?_
  refine mGo.iconst (n := 551) (v := (2 : Int32)) dL_law_550 (by decide) rfl ?_
  refine mGo.iadd (n := 552) dL_law_551 rfl ?_
  obtain ⟨x4, e_x4, e⟩ := mBind e
  refine mGo.iald (n := 553) dL_law_552 e_x4 rfl ?_
  refine mGo.if_eq (tgt := 560) (n := 556) dL_law_553 (by decide) rfl (fun hc => ?_) (fun hc => ?_)
  · replace e := mIft hc e
    refine mGo.iconst (n := 561) (v := (0 : Int32)) dL_law_560 (by decide) rfl ?_
    refine mGo.mk [true, true, true, true] ?_
    exact g_L_law_c561 v0 v1 v2 v3 x2.1 v2 x3 (0 : Int32) x2.2 e q
  · replace e := mIff hc e
    refine mGo.iconst (n := 557) (v := (1 : Int32)) dL_law_556 (by decide) rfl ?_
    refine mGo.goto (tgt := 561) dL_law_557 (by decide) ?_
    refine mGo.mk [true, true, true, true] ?_
    exact g_L_law_c561 v0 v1 v2 v3 x2.1 v2 x3 (1 : Int32) x2.2 e q
noncomputable def f_L_law_c625 (v0 : Option Nat) (v1 : Option Nat) (v2 : Option Nat) (v3 : Int32) (s0 : Int32) (s1 : Option Nat) (s2 : Int32) (s3 : Int32) (h : mH) : Option ((Int32 × mH) ⊕ (Int32 × mH)) :=
  (mAI h v0 (v3 + (3 : Int32))).bind fun x1 =>
  (mAI h v0 (v3 + (4 : Int32))).bind fun x2 =>
  (f_X9_exchange s1 s2 s3 x1 x2 h).bind fun x3 =>
  if s0 = x3.1 then
    some (Sum.inl ((v3 + 7), x3.2))
  else
    some (Sum.inr ((0 : Int32), x3.2))
set_option maxRecDepth 100000 in
set_option maxHeartbeats 4000000 in
theorem g_L_law_c625 {w : mWp} {Q : Option Value → mH → Prop} (v0 : Option Nat) (v1 : Option Nat) (v2 : Option Nat) (v3 : Int32) (s0 : Int32) (s1 : Option Nat) (s2 : Int32) (s3 : Int32) (h : mH) {res : (Int32 × mH) ⊕ (Int32 × mH)} (e : f_L_law_c625 v0 v1 v2 v3 s0 s1 s2 s3 h = some res) (q : (Sum.elim (fun x : Int32 × mH => mGo w kL_law 72 4414 18 [some (va_rf v0), some (va_rf v1), some (va_rf v2), some (.int x.1)] [] x.2 Q) (fun r : Int32 × mH => Q (some (.int r.1)) r.2)) res) : mGo w kL_law 72 4414 625 [some (va_rf v0), some (va_rf v1), some (va_rf v2), some (.int v3)] [.int s3, .int s2, va_rf s1, .int s0] h Q := by
  unfold f_L_law_c625 at e
  refine mGo.aload_n (n := 626) (r := v0) dL_law_625 rfl rfl ?_
  refine mGo.iload_n (n := 627) (x := v3) dL_law_626 rfl rfl ?_
  refine mGo.iconst (n := 628) (v := (3 : Int32)) dL_law_627 (by decide) rfl ?_
  refine mGo.iadd (n := 629) dL_law_628 rfl ?_
  obtain ⟨x1, e_x1, e⟩ := mBind e
  refine mGo.iald (n := 630) dL_law_629 e_x1 rfl ?_
  refine mGo.aload_n (n := 631) (r := v0) dL_law_630 rfl rfl ?_
  refine mGo.iload_n (n := 632) (x := v3) dL_law_631 rfl rfl ?_
  refine mGo.iconst (n := 633) (v := (4 : Int32)) dL_law_632 (by decide) rfl ?_
  refine mGo.iadd (n := 634) dL_law_633 rfl ?_
  obtain ⟨x2, e_x2, e⟩ := mBind e
  refine mGo.iald (n := 635) dL_law_634 e_x2 rfl ?_
  obtain ⟨x3, e_x3, e⟩ := mBind e
  refine mGo.callV (n := 638) (y := zX9_exchange) (R' := (mRoom (4) 0 0)) (as := [.int s2, .int s3, .int x1, .int x2]) (st := [.int s0]) (r0 := s1) dL_law_635 sc_RL_71 rfl (s_X9_exchange s1 s2 s3 x1 x2 h e_x3) (e_X9_exchange s1 s2 s3 x1 x2 h e_x3) ⟨⟨(Nat.le_of_ble_eq_true rfl), (Nat.le_of_ble_eq_true rfl)⟩, (Nat.le_of_ble_eq_true rfl), (Nat.le_of_ble_eq_true rfl)⟩ (Nat.le_of_ble_eq_true rfl) rfl rfl ?_
  intro _ _ hq
  rw [hq.1, hq.2]
  show mGo w kL_law 72 4414 638 [some (va_rf v0), some (va_rf v1), some (va_rf v2), some (.int v3)] [.int x3.1, .int s0] x3.2 Q
  refine mGo.icmp_eq (tgt := 1873) (n := 641) dL_law_638 (by decide) rfl (fun hc => ?_) (fun hc => ?_)
  · replace e := mIft hc e
    refine mGo.iinc (n := 1876) (x := v3) (v := (v3 + 7)) (ls' := [some (va_rf v0), some (va_rf v1), some (va_rf v2), some (.int (v3 + 7))]) dL_law_1873 rfl rfl ((mSt_set (fun u _ hu => by cases hu; exact mRfc _)).trans rfl) (Nat.le_of_ble_eq_true rfl) rfl ?_
    refine mGo.goto (tgt := 18) dL_law_1876 (by decide) ?_
    cases e
    refine mGo.mk [true, true, true, true] ?_
    exact q
  · replace e := mIff hc e
    refine mGo.iconst (n := 642) (v := (0 : Int32)) dL_law_641 (by decide) rfl ?_
    cases e
    exact mGo.zret dL_law_642 rfl (by decide) (Nat.le_of_ble_eq_true rfl) (Nat.le_of_ble_eq_true rfl) q
noncomputable def f_L_law_c593 (v0 : Option Nat) (v1 : Option Nat) (v2 : Option Nat) (v3 : Int32) (s0 : Option Nat) (s1 : Int32) (s2 : Int32) (h : mH) : Option ((Int32 × mH) ⊕ (Int32 × mH)) :=
  (mAI h v0 (v3 + (3 : Int32))).bind fun x1 =>
  (mAI h v0 (v3 + (4 : Int32))).bind fun x2 =>
  (f_X8_exchange s0 s1 s2 x1 x2 h).bind fun x3 =>
  (mAI x3.2 v0 (v3 + (1 : Int32))).bind fun x4 =>
  (mAI x3.2 v0 (v3 + (2 : Int32))).bind fun x5 =>
  if x5 = 0 then
    f_L_law_c625 v0 v1 v2 v3 x3.1 v2 x4 (0 : Int32) x3.2
  else
    f_L_law_c625 v0 v1 v2 v3 x3.1 v2 x4 (1 : Int32) x3.2
set_option maxRecDepth 100000 in
set_option maxHeartbeats 4000000 in
theorem g_L_law_c593 {w : mWp} {Q : Option Value → mH → Prop} (v0 : Option Nat) (v1 : Option Nat) (v2 : Option Nat) (v3 : Int32) (s0 : Option Nat) (s1 : Int32) (s2 : Int32) (h : mH) {res : (Int32 × mH) ⊕ (Int32 × mH)} (e : f_L_law_c593 v0 v1 v2 v3 s0 s1 s2 h = some res) (q : (Sum.elim (fun x : Int32 × mH => mGo w kL_law 72 4414 18 [some (va_rf v0), some (va_rf v1), some (va_rf v2), some (.int x.1)] [] x.2 Q) (fun r : Int32 × mH => Q (some (.int r.1)) r.2)) res) : mGo w kL_law 72 4414 593 [some (va_rf v0), some (va_rf v1), some (va_rf v2), some (.int v3)] [.int s2, .int s1, va_rf s0] h Q := by
  unfold f_L_law_c593 at e
  refine mGo.aload_n (n := 594) (r := v0) dL_law_593 rfl rfl ?_
  refine mGo.iload_n (n := 595) (x := v3) dL_law_594 rfl rfl ?_
  refine mGo.iconst (n := 596) (v := (3 : Int32)) dL_law_595 (by decide) rfl ?_
  refine mGo.iadd (n := 597) dL_law_596 rfl ?_
  obtain ⟨x1, e_x1, e⟩ := mBind e
  refine mGo.iald (n := 598) dL_law_597 e_x1 rfl ?_
  refine mGo.aload_n (n := 599) (r := v0) dL_law_598 rfl rfl ?_
  refine mGo.iload_n (n := 600) (x := v3) dL_law_599 rfl rfl ?_
  refine mGo.iconst (n := 601) (v := (4 : Int32)) dL_law_600 (by decide) rfl ?_
  refine mGo.iadd (n := 602) dL_law_601 rfl ?_
  obtain ⟨x2, e_x2, e⟩ := mBind e
  refine mGo.iald (n := 603) dL_law_602 e_x2 rfl ?_
  obtain ⟨x3, e_x3, e⟩ := mBind e
  refine mGo.callV (n := 606) (y := zX8_exchange) (R' := (mRoom (3) 0 0)) (as := [.int s1, .int s2, .int x1, .int x2]) (st := []) (r0 := s0) dL_law_603 sc_RL_67 rfl (s_X8_exchange s0 s1 s2 x1 x2 h e_x3) (e_X8_exchange s0 s1 s2 x1 x2 h e_x3) ⟨⟨(Nat.le_of_ble_eq_true rfl), (Nat.le_of_ble_eq_true rfl)⟩, (Nat.le_of_ble_eq_true rfl), (Nat.le_of_ble_eq_true rfl)⟩ (Nat.le_of_ble_eq_true rfl) rfl rfl ?_
  intro _ _ hq
  rw [hq.1, hq.2]
  show mGo w kL_law 72 4414 606 [some (va_rf v0), some (va_rf v1), some (va_rf v2), some (.int v3)] [.int x3.1] x3.2 Q
  refine mGo.aload_n (n := 607) (r := v2) dL_law_606 rfl rfl ?_
  refine mGo.aload_n (n := 608) (r := v0) dL_law_607 rfl rfl ?_
  refine mGo.iload_n (n := 609) (x := v3) dL_law_608 rfl rfl ?_
  refine mGo.iconst (n := 610) (v := (1 : Int32)) dL_law_609 (by decide) rfl ?_
  refine mGo.iadd (n := 611) dL_law_610 rfl ?_
  obtain ⟨x4, e_x4, e⟩ := mBind e
  refine mGo.iald (n := 612) dL_law_611 e_x4 rfl ?_
  refine mGo.aload_n (n := 613) (r := v0) dL_law_612 rfl rfl ?_
  refine mGo.iload_n (n := 614) (x := v3) dL_law_613 rfl rfl ?_
  refine mGo.iconst (n := 615) (v := (2 : Int32)) dL_law_614 (by decide) rfl ?_
  refine mGo.iadd (n := 616) dL_law_615 rfl ?_
  obtain ⟨x5, e_x5, e⟩ := mBind e
  refine mGo.iald (n := 617) dL_law_616 e_x5 rfl ?_
  refine mGo.if_eq (tgt := 624) (n := 620) dL_law_617 (by decide) rfl (fun hc => ?_) (fun hc => ?_)
  · replace e := mIft hc e
    refine mGo.iconst (n := 625) (v := (0 : Int32)) dL_law_624 (by decide) rfl ?_
    refine mGo.mk [true, true, true, true] ?_
    exact g_L_law_c625 v0 v1 v2 v3 x3.1 v2 x4 (0 : Int32) x3.2 e q
  · replace e := mIff hc e
    refine mGo.iconst (n := 621) (v := (1 : Int32)) dL_law_620 (by decide) rfl ?_
    refine mGo.goto (tgt := 625) dL_law_621 (by decide) ?_
    refine mGo.mk [true, true, true, true] ?_
    exact g_L_law_c625 v0 v1 v2 v3 x3.1 v2 x4 (1 : Int32) x3.2 e q
noncomputable def f_L_law_c833 (v0 : Option Nat) (v1 : Option Nat) (v2 : Option Nat) (v3 : Int32) (s0 : Int32) (s1 : Option Nat) (s2 : Int32) (s3 : Int32) (h : mH) : Option ((Int32 × mH) ⊕ (Int32 × mH)) :=
  (mAI h v0 (v3 + (3 : Int32))).bind fun x1 =>
  (f_X9_bits s1 s2 s3 x1 h).bind fun x2 =>
  if s0 = x2 then
    some (Sum.inl ((v3 + 7), h))
  else
    some (Sum.inr ((0 : Int32), h))
set_option maxRecDepth 100000 in
set_option maxHeartbeats 4000000 in
theorem g_L_law_c833 {w : mWp} {Q : Option Value → mH → Prop} (v0 : Option Nat) (v1 : Option Nat) (v2 : Option Nat) (v3 : Int32) (s0 : Int32) (s1 : Option Nat) (s2 : Int32) (s3 : Int32) (h : mH) {res : (Int32 × mH) ⊕ (Int32 × mH)} (e : f_L_law_c833 v0 v1 v2 v3 s0 s1 s2 s3 h = some res) (q : (Sum.elim (fun x : Int32 × mH => mGo w kL_law 72 4414 18 [some (va_rf v0), some (va_rf v1), some (va_rf v2), some (.int x.1)] [] x.2 Q) (fun r : Int32 × mH => Q (some (.int r.1)) r.2)) res) : mGo w kL_law 72 4414 833 [some (va_rf v0), some (va_rf v1), some (va_rf v2), some (.int v3)] [.int s3, .int s2, va_rf s1, .int s0] h Q := by
  unfold f_L_law_c833 at e
  refine mGo.aload_n (n := 834) (r := v0) dL_law_833 rfl rfl ?_
  refine mGo.iload_n (n := 835) (x := v3) dL_law_834 rfl rfl ?_
  refine mGo.iconst (n := 836) (v := (3 : Int32)) dL_law_835 (by decide) rfl ?_
  refine mGo.iadd (n := 837) dL_law_836 rfl ?_
  obtain ⟨x1, e_x1, e⟩ := mBind e
  refine mGo.iald (n := 838) dL_law_837 e_x1 rfl ?_
  obtain ⟨x2, e_x2, e⟩ := mBind e
  refine mGo.callV (n := 841) (y := zX9_bits) (R' := (mRoom (5) 0 0)) (as := [.int s2, .int s3, .int x1]) (st := [.int s0]) (r0 := s1) dL_law_838 sc_RL_93 rfl (s_X9_bits s1 s2 s3 x1 h e_x2) (e_X9_bits s1 s2 s3 x1 h e_x2) ⟨⟨(Nat.le_of_ble_eq_true rfl), (Nat.le_of_ble_eq_true rfl)⟩, (Nat.le_of_ble_eq_true rfl), (Nat.le_of_ble_eq_true rfl)⟩ (Nat.le_of_ble_eq_true rfl) rfl rfl ?_
  intro _ _ hq
  rw [hq.1, hq.2]
  show mGo w kL_law 72 4414 841 [some (va_rf v0), some (va_rf v1), some (va_rf v2), some (.int v3)] [.int x2, .int s0] h Q
  refine mGo.icmp_eq (tgt := 1873) (n := 844) dL_law_841 (by decide) rfl (fun hc => ?_) (fun hc => ?_)
  · replace e := mIft hc e
    refine mGo.iinc (n := 1876) (x := v3) (v := (v3 + 7)) (ls' := [some (va_rf v0), some (va_rf v1), some (va_rf v2), some (.int (v3 + 7))]) dL_law_1873 rfl rfl ((mSt_set (fun u _ hu => by cases hu; exact mRfc _)).trans rfl) (Nat.le_of_ble_eq_true rfl) rfl ?_
    refine mGo.goto (tgt := 18) dL_law_1876 (by decide) ?_
    cases e
    refine mGo.mk [true, true, true, true] ?_
    exact q
  · replace e := mIff hc e
    refine mGo.iconst (n := 845) (v := (0 : Int32)) dL_law_844 (by decide) rfl ?_
    cases e
    exact mGo.zret dL_law_845 rfl (by decide) (Nat.le_of_ble_eq_true rfl) (Nat.le_of_ble_eq_true rfl) q
noncomputable def f_L_law_c806 (v0 : Option Nat) (v1 : Option Nat) (v2 : Option Nat) (v3 : Int32) (s0 : Option Nat) (s1 : Int32) (s2 : Int32) (h : mH) : Option ((Int32 × mH) ⊕ (Int32 × mH)) :=
  (mAI h v0 (v3 + (3 : Int32))).bind fun x1 =>
  (f_X8_bits s0 s1 s2 x1 h).bind fun x2 =>
  (mAI h v0 (v3 + (1 : Int32))).bind fun x3 =>
  (mAI h v0 (v3 + (2 : Int32))).bind fun x4 =>
  if x4 = 0 then
    f_L_law_c833 v0 v1 v2 v3 x2 v2 x3 (0 : Int32) h
  else
    f_L_law_c833 v0 v1 v2 v3 x2 v2 x3 (1 : Int32) h
set_option maxRecDepth 100000 in
set_option maxHeartbeats 4000000 in
theorem g_L_law_c806 {w : mWp} {Q : Option Value → mH → Prop} (v0 : Option Nat) (v1 : Option Nat) (v2 : Option Nat) (v3 : Int32) (s0 : Option Nat) (s1 : Int32) (s2 : Int32) (h : mH) {res : (Int32 × mH) ⊕ (Int32 × mH)} (e : f_L_law_c806 v0 v1 v2 v3 s0 s1 s2 h = some res) (q : (Sum.elim (fun x : Int32 × mH => mGo w kL_law 72 4414 18 [some (va_rf v0), some (va_rf v1), some (va_rf v2), some (.int x.1)] [] x.2 Q) (fun r : Int32 × mH => Q (some (.int r.1)) r.2)) res) : mGo w kL_law 72 4414 806 [some (va_rf v0), some (va_rf v1), some (va_rf v2), some (.int v3)] [.int s2, .int s1, va_rf s0] h Q := by
  unfold f_L_law_c806 at e
  refine mGo.aload_n (n := 807) (r := v0) dL_law_806 rfl rfl ?_
  refine mGo.iload_n (n := 808) (x := v3) dL_law_807 rfl rfl ?_
  refine mGo.iconst (n := 809) (v := (3 : Int32)) dL_law_808 (by decide) rfl ?_
  refine mGo.iadd (n := 810) dL_law_809 rfl ?_
  obtain ⟨x1, e_x1, e⟩ := mBind e
  refine mGo.iald (n := 811) dL_law_810 e_x1 rfl ?_
  obtain ⟨x2, e_x2, e⟩ := mBind e
  refine mGo.callV (n := 814) (y := zX8_bits) (R' := (mRoom (2) 0 0)) (as := [.int s1, .int s2, .int x1]) (st := []) (r0 := s0) dL_law_811 sc_RL_89 rfl (s_X8_bits s0 s1 s2 x1 h e_x2) (e_X8_bits s0 s1 s2 x1 h e_x2) ⟨⟨(Nat.le_of_ble_eq_true rfl), (Nat.le_of_ble_eq_true rfl)⟩, (Nat.le_of_ble_eq_true rfl), (Nat.le_of_ble_eq_true rfl)⟩ (Nat.le_of_ble_eq_true rfl) rfl rfl ?_
  intro _ _ hq
  rw [hq.1, hq.2]
  show mGo w kL_law 72 4414 814 [some (va_rf v0), some (va_rf v1), some (va_rf v2), some (.int v3)] [.int x2] h Q
  refine mGo.aload_n (n := 815) (r := v2) dL_law_814 rfl rfl ?_
  refine mGo.aload_n (n := 816) (r := v0) dL_law_815 rfl rfl ?_
  refine mGo.iload_n (n := 817) (x := v3) dL_law_816 rfl rfl ?_
  refine mGo.iconst (n := 818) (v := (1 : Int32)) dL_law_817 (by decide) rfl ?_
  refine mGo.iadd (n := 819) dL_law_818 rfl ?_
  obtain ⟨x3, e_x3, e⟩ := mBind e
  refine mGo.iald (n := 820) dL_law_819 e_x3 rfl ?_
  refine mGo.aload_n (n := 821) (r := v0) dL_law_820 rfl rfl ?_
  refine mGo.iload_n (n := 822) (x := v3) dL_law_821 rfl rfl ?_
  refine mGo.iconst (n := 823) (v := (2 : Int32)) dL_law_822 (by decide) rfl ?_
  refine mGo.iadd (n := 824) dL_law_823 rfl ?_
  obtain ⟨x4, e_x4, e⟩ := mBind e
  refine mGo.iald (n := 825) dL_law_824 e_x4 rfl ?_
  refine mGo.if_eq (tgt := 832) (n := 828) dL_law_825 (by decide) rfl (fun hc => ?_) (fun hc => ?_)
  · replace e := mIft hc e
    refine mGo.iconst (n := 833) (v := (0 : Int32)) dL_law_832 (by decide) rfl ?_
    refine mGo.mk [true, true, true, true] ?_
    exact g_L_law_c833 v0 v1 v2 v3 x2 v2 x3 (0 : Int32) h e q
  · replace e := mIff hc e
    refine mGo.iconst (n := 829) (v := (1 : Int32)) dL_law_828 (by decide) rfl ?_
    refine mGo.goto (tgt := 833) dL_law_829 (by decide) ?_
    refine mGo.mk [true, true, true, true] ?_
    exact g_L_law_c833 v0 v1 v2 v3 x2 v2 x3 (1 : Int32) h e q
def f_L_law_c897 (v0 : Option Nat) (v1 : Option Nat) (v2 : Option Nat) (v3 : Int32) (s0 : Int32) (s1 : Option Nat) (s2 : Int32) (s3 : Int32) (h : mH) : Option ((Int32 × mH) ⊕ (Int32 × mH)) :=
  (mAI h v0 (v3 + (3 : Int32))).bind fun x1 =>
  (mAI h v0 (v3 + (4 : Int32))).bind fun x2 =>
  (f_X9_trail s1 s2 s3 x1 x2 h).bind fun x3 =>
  if s0 = x3 then
    some (Sum.inl ((v3 + 7), h))
  else
    some (Sum.inr ((0 : Int32), h))
set_option maxRecDepth 100000 in
set_option maxHeartbeats 4000000 in
theorem g_L_law_c897 {w : mWp} {Q : Option Value → mH → Prop} (v0 : Option Nat) (v1 : Option Nat) (v2 : Option Nat) (v3 : Int32) (s0 : Int32) (s1 : Option Nat) (s2 : Int32) (s3 : Int32) (h : mH) {res : (Int32 × mH) ⊕ (Int32 × mH)} (e : f_L_law_c897 v0 v1 v2 v3 s0 s1 s2 s3 h = some res) (q : (Sum.elim (fun x : Int32 × mH => mGo w kL_law 72 4414 18 [some (va_rf v0), some (va_rf v1), some (va_rf v2), some (.int x.1)] [] x.2 Q) (fun r : Int32 × mH => Q (some (.int r.1)) r.2)) res) : mGo w kL_law 72 4414 897 [some (va_rf v0), some (va_rf v1), some (va_rf v2), some (.int v3)] [.int s3, .int s2, va_rf s1, .int s0] h Q := by
  unfold f_L_law_c897 at e
  refine mGo.aload_n (n := 898) (r := v0) dL_law_897 rfl rfl ?_
  refine mGo.iload_n (n := 899) (x := v3) dL_law_898 rfl rfl ?_
  refine mGo.iconst (n := 900) (v := (3 : Int32)) dL_law_899 (by decide) rfl ?_
  refine mGo.iadd (n := 901) dL_law_900 rfl ?_
  obtain ⟨x1, e_x1, e⟩ := mBind e
  refine mGo.iald (n := 902) dL_law_901 e_x1 rfl ?_
  refine mGo.aload_n (n := 903) (r := v0) dL_law_902 rfl rfl ?_
  refine mGo.iload_n (n := 904) (x := v3) dL_law_903 rfl rfl ?_
  refine mGo.iconst (n := 905) (v := (4 : Int32)) dL_law_904 (by decide) rfl ?_
  refine mGo.iadd (n := 906) dL_law_905 rfl ?_
  obtain ⟨x2, e_x2, e⟩ := mBind e
  refine mGo.iald (n := 907) dL_law_906 e_x2 rfl ?_
  obtain ⟨x3, e_x3, e⟩ := mBind e
  refine mGo.callV (n := 910) (y := zX9_trail) (R' := (mRoom (4) 0 0)) (as := [.int s2, .int s3, .int x1, .int x2]) (st := [.int s0]) (r0 := s1) dL_law_907 sc_RL_98 rfl (s_X9_trail s1 s2 s3 x1 x2 h e_x3) (e_X9_trail s1 s2 s3 x1 x2 h e_x3) ⟨⟨(Nat.le_of_ble_eq_true rfl), (Nat.le_of_ble_eq_true rfl)⟩, (Nat.le_of_ble_eq_true rfl), (Nat.le_of_ble_eq_true rfl)⟩ (Nat.le_of_ble_eq_true rfl) rfl rfl ?_
  intro _ _ hq
  rw [hq.1, hq.2]
  show mGo w kL_law 72 4414 910 [some (va_rf v0), some (va_rf v1), some (va_rf v2), some (.int v3)] [.int x3, .int s0] h Q
  refine mGo.icmp_eq (tgt := 1873) (n := 913) dL_law_910 (by decide) rfl (fun hc => ?_) (fun hc => ?_)
  · replace e := mIft hc e
    refine mGo.iinc (n := 1876) (x := v3) (v := (v3 + 7)) (ls' := [some (va_rf v0), some (va_rf v1), some (va_rf v2), some (.int (v3 + 7))]) dL_law_1873 rfl rfl ((mSt_set (fun u _ hu => by cases hu; exact mRfc _)).trans rfl) (Nat.le_of_ble_eq_true rfl) rfl ?_
    refine mGo.goto (tgt := 18) dL_law_1876 (by decide) ?_
    cases e
    refine mGo.mk [true, true, true, true] ?_
    exact q
  · replace e := mIff hc e
    refine mGo.iconst (n := 914) (v := (0 : Int32)) dL_law_913 (by decide) rfl ?_
    cases e
    exact mGo.zret dL_law_914 rfl (by decide) (Nat.le_of_ble_eq_true rfl) (Nat.le_of_ble_eq_true rfl) q
def f_L_law_c865 (v0 : Option Nat) (v1 : Option Nat) (v2 : Option Nat) (v3 : Int32) (s0 : Option Nat) (s1 : Int32) (s2 : Int32) (h : mH) : Option ((Int32 × mH) ⊕ (Int32 × mH)) :=
  (mAI h v0 (v3 + (3 : Int32))).bind fun x1 =>
  (mAI h v0 (v3 + (4 : Int32))).bind fun x2 =>
  (f_X8_trail s0 s1 s2 x1 x2 h).bind fun x3 =>
  (mAI h v0 (v3 + (1 : Int32))).bind fun x4 =>
  (mAI h v0 (v3 + (2 : Int32))).bind fun x5 =>
  if x5 = 0 then
    f_L_law_c897 v0 v1 v2 v3 x3 v2 x4 (0 : Int32) h
  else
    f_L_law_c897 v0 v1 v2 v3 x3 v2 x4 (1 : Int32) h
set_option maxRecDepth 100000 in
set_option maxHeartbeats 4000000 in
theorem g_L_law_c865 {w : mWp} {Q : Option Value → mH → Prop} (v0 : Option Nat) (v1 : Option Nat) (v2 : Option Nat) (v3 : Int32) (s0 : Option Nat) (s1 : Int32) (s2 : Int32) (h : mH) {res : (Int32 × mH) ⊕ (Int32 × mH)} (e : f_L_law_c865 v0 v1 v2 v3 s0 s1 s2 h = some res) (q : (Sum.elim (fun x : Int32 × mH => mGo w kL_law 72 4414 18 [some (va_rf v0), some (va_rf v1), some (va_rf v2), some (.int x.1)] [] x.2 Q) (fun r : Int32 × mH => Q (some (.int r.1)) r.2)) res) : mGo w kL_law 72 4414 865 [some (va_rf v0), some (va_rf v1), some (va_rf v2), some (.int v3)] [.int s2, .int s1, va_rf s0] h Q := by
  unfold f_L_law_c865 at e
  refine mGo.aload_n (n := 866) (r := v0) dL_law_865 rfl rfl ?_
  refine mGo.iload_n (n := 867) (x := v3) dL_law_866 rfl rfl ?_
  refine mGo.iconst (n := 868) (v := (3 : Int32)) dL_law_867 (by decide) rfl ?_
  refine mGo.iadd (n := 869) dL_law_868 rfl ?_
  obtain ⟨x1, e_x1, e⟩ := mBind e
  refine mGo.iald (n := 870) dL_law_869 e_x1 rfl ?_
  refine mGo.aload_n (n := 871) (r := v0) dL_law_870 rfl rfl ?_
  refine mGo.iload_n (n := 872) (x := v3) dL_law_871 rfl rfl ?_
  refine mGo.iconst (n := 873) (v := (4 : Int32)) dL_law_872 (by decide) rfl ?_
  refine mGo.iadd (n := 874) dL_law_873 rfl ?_
  obtain ⟨x2, e_x2, e⟩ := mBind e
  refine mGo.iald (n := 875) dL_law_874 e_x2 rfl ?_
  obtain ⟨x3, e_x3, e⟩ := mBind e
  refine mGo.callV (n := 878) (y := zX8_trail) (R' := (mRoom (2) 0 0)) (as := [.int s1, .int s2, .int x1, .int x2]) (st := []) (r0 := s0) dL_law_875 sc_RL_94 rfl (s_X8_trail s0 s1 s2 x1 x2 h e_x3) (e_X8_trail s0 s1 s2 x1 x2 h e_x3) ⟨⟨(Nat.le_of_ble_eq_true rfl), (Nat.le_of_ble_eq_true rfl)⟩, (Nat.le_of_ble_eq_true rfl), (Nat.le_of_ble_eq_true rfl)⟩ (Nat.le_of_ble_eq_true rfl) rfl rfl ?_
  intro _ _ hq
  rw [hq.1, hq.2]
  show mGo w kL_law 72 4414 878 [some (va_rf v0), some (va_rf v1), some (va_rf v2), some (.int v3)] [.int x3] h Q
  refine mGo.aload_n (n := 879) (r := v2) dL_law_878 rfl rfl ?_
  refine mGo.aload_n (n := 880) (r := v0) dL_law_879 rfl rfl ?_
  refine mGo.iload_n (n := 881) (x := v3) dL_law_880 rfl rfl ?_
  refine mGo.iconst (n := 882) (v := (1 : Int32)) dL_law_881 (by decide) rfl ?_
  refine mGo.iadd (n := 883) dL_law_882 rfl ?_
  obtain ⟨x4, e_x4, e⟩ := mBind e
  refine mGo.iald (n := 884) dL_law_883 e_x4 rfl ?_
  refine mGo.aload_n (n := 885) (r := v0) dL_law_884 rfl rfl ?_
  refine mGo.iload_n (n := 886) (x := v3) dL_law_885 rfl rfl ?_
  refine mGo.iconst (n := 887) (v := (2 : Int32)) dL_law_886 (by decide) rfl ?_
  refine mGo.iadd (n := 888) dL_law_887 rfl ?_
  obtain ⟨x5, e_x5, e⟩ := mBind e
  refine mGo.iald (n := 889) dL_law_888 e_x5 rfl ?_
  refine mGo.if_eq (tgt := 896) (n := 892) dL_law_889 (by decide) rfl (fun hc => ?_) (fun hc => ?_)
  · replace e := mIft hc e
    refine mGo.iconst (n := 897) (v := (0 : Int32)) dL_law_896 (by decide) rfl ?_
    refine mGo.mk [true, true, true, true] ?_
    exact g_L_law_c897 v0 v1 v2 v3 x3 v2 x4 (0 : Int32) h e q
  · replace e := mIff hc e
    refine mGo.iconst (n := 893) (v := (1 : Int32)) dL_law_892 (by decide) rfl ?_
    refine mGo.goto (tgt := 897) dL_law_893 (by decide) ?_
    refine mGo.mk [true, true, true, true] ?_
    exact g_L_law_c897 v0 v1 v2 v3 x3 v2 x4 (1 : Int32) h e q
noncomputable def f_L_law_c966 (v0 : Option Nat) (v1 : Option Nat) (v2 : Option Nat) (v3 : Int32) (s0 : Int32) (s1 : Option Nat) (s2 : Int32) (s3 : Int32) (h : mH) : Option ((Int32 × mH) ⊕ (Int32 × mH)) :=
  (mAI h v0 (v3 + (3 : Int32))).bind fun x1 =>
  (mAI h v0 (v3 + (4 : Int32))).bind fun x2 =>
  (f_X9_along s1 s2 s3 x1 x2 h).bind fun x3 =>
  if s0 = x3 then
    some (Sum.inl ((v3 + 7), h))
  else
    some (Sum.inr ((0 : Int32), h))
set_option maxRecDepth 100000 in
set_option maxHeartbeats 4000000 in
theorem g_L_law_c966 {w : mWp} {Q : Option Value → mH → Prop} (v0 : Option Nat) (v1 : Option Nat) (v2 : Option Nat) (v3 : Int32) (s0 : Int32) (s1 : Option Nat) (s2 : Int32) (s3 : Int32) (h : mH) {res : (Int32 × mH) ⊕ (Int32 × mH)} (e : f_L_law_c966 v0 v1 v2 v3 s0 s1 s2 s3 h = some res) (q : (Sum.elim (fun x : Int32 × mH => mGo w kL_law 72 4414 18 [some (va_rf v0), some (va_rf v1), some (va_rf v2), some (.int x.1)] [] x.2 Q) (fun r : Int32 × mH => Q (some (.int r.1)) r.2)) res) : mGo w kL_law 72 4414 966 [some (va_rf v0), some (va_rf v1), some (va_rf v2), some (.int v3)] [.int s3, .int s2, va_rf s1, .int s0] h Q := by
  unfold f_L_law_c966 at e
  refine mGo.aload_n (n := 967) (r := v0) dL_law_966 rfl rfl ?_
  refine mGo.iload_n (n := 968) (x := v3) dL_law_967 rfl rfl ?_
  refine mGo.iconst (n := 969) (v := (3 : Int32)) dL_law_968 (by decide) rfl ?_
  refine mGo.iadd (n := 970) dL_law_969 rfl ?_
  obtain ⟨x1, e_x1, e⟩ := mBind e
  refine mGo.iald (n := 971) dL_law_970 e_x1 rfl ?_
  refine mGo.aload_n (n := 972) (r := v0) dL_law_971 rfl rfl ?_
  refine mGo.iload_n (n := 973) (x := v3) dL_law_972 rfl rfl ?_
  refine mGo.iconst (n := 974) (v := (4 : Int32)) dL_law_973 (by decide) rfl ?_
  refine mGo.iadd (n := 975) dL_law_974 rfl ?_
  obtain ⟨x2, e_x2, e⟩ := mBind e
  refine mGo.iald (n := 976) dL_law_975 e_x2 rfl ?_
  obtain ⟨x3, e_x3, e⟩ := mBind e
  refine mGo.callV (n := 979) (y := zX9_along) (R' := (mRoom (5) 0 0)) (as := [.int s2, .int s3, .int x1, .int x2]) (st := [.int s0]) (r0 := s1) dL_law_976 sc_RL_102 rfl (s_X9_along s1 s2 s3 x1 x2 h e_x3) (e_X9_along s1 s2 s3 x1 x2 h e_x3) ⟨⟨(Nat.le_of_ble_eq_true rfl), (Nat.le_of_ble_eq_true rfl)⟩, (Nat.le_of_ble_eq_true rfl), (Nat.le_of_ble_eq_true rfl)⟩ (Nat.le_of_ble_eq_true rfl) rfl rfl ?_
  intro _ _ hq
  rw [hq.1, hq.2]
  show mGo w kL_law 72 4414 979 [some (va_rf v0), some (va_rf v1), some (va_rf v2), some (.int v3)] [.int x3, .int s0] h Q
  refine mGo.icmp_eq (tgt := 1873) (n := 982) dL_law_979 (by decide) rfl (fun hc => ?_) (fun hc => ?_)
  · replace e := mIft hc e
    refine mGo.iinc (n := 1876) (x := v3) (v := (v3 + 7)) (ls' := [some (va_rf v0), some (va_rf v1), some (va_rf v2), some (.int (v3 + 7))]) dL_law_1873 rfl rfl ((mSt_set (fun u _ hu => by cases hu; exact mRfc _)).trans rfl) (Nat.le_of_ble_eq_true rfl) rfl ?_
    refine mGo.goto (tgt := 18) dL_law_1876 (by decide) ?_
    cases e
    refine mGo.mk [true, true, true, true] ?_
    exact q
  · replace e := mIff hc e
    refine mGo.iconst (n := 983) (v := (0 : Int32)) dL_law_982 (by decide) rfl ?_
    cases e
    exact mGo.zret dL_law_983 rfl (by decide) (Nat.le_of_ble_eq_true rfl) (Nat.le_of_ble_eq_true rfl) q
noncomputable def f_L_law_c934 (v0 : Option Nat) (v1 : Option Nat) (v2 : Option Nat) (v3 : Int32) (s0 : Option Nat) (s1 : Int32) (s2 : Int32) (h : mH) : Option ((Int32 × mH) ⊕ (Int32 × mH)) :=
  (mAI h v0 (v3 + (3 : Int32))).bind fun x1 =>
  (mAI h v0 (v3 + (4 : Int32))).bind fun x2 =>
  (f_X8_along s0 s1 s2 x1 x2 h).bind fun x3 =>
  (mAI h v0 (v3 + (1 : Int32))).bind fun x4 =>
  (mAI h v0 (v3 + (2 : Int32))).bind fun x5 =>
  if x5 = 0 then
    f_L_law_c966 v0 v1 v2 v3 x3 v2 x4 (0 : Int32) h
  else
    f_L_law_c966 v0 v1 v2 v3 x3 v2 x4 (1 : Int32) h
set_option maxRecDepth 100000 in
set_option maxHeartbeats 4000000 in
theorem g_L_law_c934 {w : mWp} {Q : Option Value → mH → Prop} (v0 : Option Nat) (v1 : Option Nat) (v2 : Option Nat) (v3 : Int32) (s0 : Option Nat) (s1 : Int32) (s2 : Int32) (h : mH) {res : (Int32 × mH) ⊕ (Int32 × mH)} (e : f_L_law_c934 v0 v1 v2 v3 s0 s1 s2 h = some res) (q : (Sum.elim (fun x : Int32 × mH => mGo w kL_law 72 4414 18 [some (va_rf v0), some (va_rf v1), some (va_rf v2), some (.int x.1)] [] x.2 Q) (fun r : Int32 × mH => Q (some (.int r.1)) r.2)) res) : mGo w kL_law 72 4414 934 [some (va_rf v0), some (va_rf v1), some (va_rf v2), some (.int v3)] [.int s2, .int s1, va_rf s0] h Q := by
  unfold f_L_law_c934 at e
  refine mGo.aload_n (n := 935) (r := v0) dL_law_934 rfl rfl ?_
  refine mGo.iload_n (n := 936) (x := v3) dL_law_935 rfl rfl ?_
  refine mGo.iconst (n := 937) (v := (3 : Int32)) dL_law_936 (by decide) rfl ?_
  refine mGo.iadd (n := 938) dL_law_937 rfl ?_
  obtain ⟨x1, e_x1, e⟩ := mBind e
  refine mGo.iald (n := 939) dL_law_938 e_x1 rfl ?_
  refine mGo.aload_n (n := 940) (r := v0) dL_law_939 rfl rfl ?_
  refine mGo.iload_n (n := 941) (x := v3) dL_law_940 rfl rfl ?_
  refine mGo.iconst (n := 942) (v := (4 : Int32)) dL_law_941 (by decide) rfl ?_
  refine mGo.iadd (n := 943) dL_law_942 rfl ?_
  obtain ⟨x2, e_x2, e⟩ := mBind e
  refine mGo.iald (n := 944) dL_law_943 e_x2 rfl ?_
  obtain ⟨x3, e_x3, e⟩ := mBind e
  refine mGo.callV (n := 947) (y := zX8_along) (R' := (mRoom (3) 0 0)) (as := [.int s1, .int s2, .int x1, .int x2]) (st := []) (r0 := s0) dL_law_944 sc_RL_99 rfl (s_X8_along s0 s1 s2 x1 x2 h e_x3) (e_X8_along s0 s1 s2 x1 x2 h e_x3) ⟨⟨(Nat.le_of_ble_eq_true rfl), (Nat.le_of_ble_eq_true rfl)⟩, (Nat.le_of_ble_eq_true rfl), (Nat.le_of_ble_eq_true rfl)⟩ (Nat.le_of_ble_eq_true rfl) rfl rfl ?_
  intro _ _ hq
  rw [hq.1, hq.2]
  show mGo w kL_law 72 4414 947 [some (va_rf v0), some (va_rf v1), some (va_rf v2), some (.int v3)] [.int x3] h Q
  refine mGo.aload_n (n := 948) (r := v2) dL_law_947 rfl rfl ?_
  refine mGo.aload_n (n := 949) (r := v0) dL_law_948 rfl rfl ?_
  refine mGo.iload_n (n := 950) (x := v3) dL_law_949 rfl rfl ?_
  refine mGo.iconst (n := 951) (v := (1 : Int32)) dL_law_950 (by decide) rfl ?_
  refine mGo.iadd (n := 952) dL_law_951 rfl ?_
  obtain ⟨x4, e_x4, e⟩ := mBind e
  refine mGo.iald (n := 953) dL_law_952 e_x4 rfl ?_
  refine mGo.aload_n (n := 954) (r := v0) dL_law_953 rfl rfl ?_
  refine mGo.iload_n (n := 955) (x := v3) dL_law_954 rfl rfl ?_
  refine mGo.iconst (n := 956) (v := (2 : Int32)) dL_law_955 (by decide) rfl ?_
  refine mGo.iadd (n := 957) dL_law_956 rfl ?_
  obtain ⟨x5, e_x5, e⟩ := mBind e
  refine mGo.iald (n := 958) dL_law_957 e_x5 rfl ?_
  refine mGo.if_eq (tgt := 965) (n := 961) dL_law_958 (by decide) rfl (fun hc => ?_) (fun hc => ?_)
  · replace e := mIft hc e
    refine mGo.iconst (n := 966) (v := (0 : Int32)) dL_law_965 (by decide) rfl ?_
    refine mGo.mk [true, true, true, true] ?_
    exact g_L_law_c966 v0 v1 v2 v3 x3 v2 x4 (0 : Int32) h e q
  · replace e := mIff hc e
    refine mGo.iconst (n := 962) (v := (1 : Int32)) dL_law_961 (by decide) rfl ?_
    refine mGo.goto (tgt := 966) dL_law_962 (by decide) ?_
    refine mGo.mk [true, true, true, true] ?_
    exact g_L_law_c966 v0 v1 v2 v3 x3 v2 x4 (1 : Int32) h e q
noncomputable def f_L_law_c1119 (v0 : Option Nat) (v1 : Option Nat) (v2 : Option Nat) (v3 : Int32) (s0 : Int32) (s1 : Option Nat) (s2 : Int32) (s3 : Int32) (h : mH) : Option ((Int32 × mH) ⊕ (Int32 × mH)) :=
  (mAI h v0 (v3 + (3 : Int32))).bind fun x1 =>
  (f_X9_tally s1 s2 s3 x1 h).bind fun x2 =>
  if s0 = x2.1 then
    some (Sum.inl ((v3 + 7), x2.2))
  else
    some (Sum.inr ((0 : Int32), x2.2))
set_option maxRecDepth 100000 in
set_option maxHeartbeats 4000000 in
theorem g_L_law_c1119 {w : mWp} {Q : Option Value → mH → Prop} (v0 : Option Nat) (v1 : Option Nat) (v2 : Option Nat) (v3 : Int32) (s0 : Int32) (s1 : Option Nat) (s2 : Int32) (s3 : Int32) (h : mH) {res : (Int32 × mH) ⊕ (Int32 × mH)} (e : f_L_law_c1119 v0 v1 v2 v3 s0 s1 s2 s3 h = some res) (q : (Sum.elim (fun x : Int32 × mH => mGo w kL_law 72 4414 18 [some (va_rf v0), some (va_rf v1), some (va_rf v2), some (.int x.1)] [] x.2 Q) (fun r : Int32 × mH => Q (some (.int r.1)) r.2)) res) : mGo w kL_law 72 4414 1119 [some (va_rf v0), some (va_rf v1), some (va_rf v2), some (.int v3)] [.int s3, .int s2, va_rf s1, .int s0] h Q := by
  unfold f_L_law_c1119 at e
  refine mGo.aload_n (n := 1120) (r := v0) dL_law_1119 rfl rfl ?_
  refine mGo.iload_n (n := 1121) (x := v3) dL_law_1120 rfl rfl ?_
  refine mGo.iconst (n := 1122) (v := (3 : Int32)) dL_law_1121 (by decide) rfl ?_
  refine mGo.iadd (n := 1123) dL_law_1122 rfl ?_
  obtain ⟨x1, e_x1, e⟩ := mBind e
  refine mGo.iald (n := 1124) dL_law_1123 e_x1 rfl ?_
  obtain ⟨x2, e_x2, e⟩ := mBind e
  refine mGo.callV (n := 1127) (y := zX9_tally) (R' := (mRoom (6) 0 0)) (as := [.int s2, .int s3, .int x1]) (st := [.int s0]) (r0 := s1) dL_law_1124 sc_RL_118 rfl (s_X9_tally s1 s2 s3 x1 h e_x2) (e_X9_tally s1 s2 s3 x1 h e_x2) ⟨⟨(Nat.le_of_ble_eq_true rfl), (Nat.le_of_ble_eq_true rfl)⟩, (Nat.le_of_ble_eq_true rfl), (Nat.le_of_ble_eq_true rfl)⟩ (Nat.le_of_ble_eq_true rfl) rfl rfl ?_
  intro _ _ hq
  rw [hq.1, hq.2]
  show mGo w kL_law 72 4414 1127 [some (va_rf v0), some (va_rf v1), some (va_rf v2), some (.int v3)] [.int x2.1, .int s0] x2.2 Q
  refine mGo.icmp_eq (tgt := 1873) (n := 1130) dL_law_1127 (by decide) rfl (fun hc => ?_) (fun hc => ?_)
  · replace e := mIft hc e
    refine mGo.iinc (n := 1876) (x := v3) (v := (v3 + 7)) (ls' := [some (va_rf v0), some (va_rf v1), some (va_rf v2), some (.int (v3 + 7))]) dL_law_1873 rfl rfl ((mSt_set (fun u _ hu => by cases hu; exact mRfc _)).trans rfl) (Nat.le_of_ble_eq_true rfl) rfl ?_
    refine mGo.goto (tgt := 18) dL_law_1876 (by decide) ?_
    cases e
    refine mGo.mk [true, true, true, true] ?_
    exact q
  · replace e := mIff hc e
    refine mGo.iconst (n := 1131) (v := (0 : Int32)) dL_law_1130 (by decide) rfl ?_
    cases e
    exact mGo.zret dL_law_1131 rfl (by decide) (Nat.le_of_ble_eq_true rfl) (Nat.le_of_ble_eq_true rfl) q
noncomputable def f_L_law_c1092 (v0 : Option Nat) (v1 : Option Nat) (v2 : Option Nat) (v3 : Int32) (s0 : Option Nat) (s1 : Int32) (s2 : Int32) (h : mH) : Option ((Int32 × mH) ⊕ (Int32 × mH)) :=
  (mAI h v0 (v3 + (3 : Int32))).bind fun x1 =>
  (f_X8_tally s0 s1 s2 x1 h).bind fun x2 =>
  (mAI x2.2 v0 (v3 + (1 : Int32))).bind fun x3 =>
  (mAI x2.2 v0 (v3 + (2 : Int32))).bind fun x4 =>
  if x4 = 0 then
    f_L_law_c1119 v0 v1 v2 v3 x2.1 v2 x3 (0 : Int32) x2.2
  else
    f_L_law_c1119 v0 v1 v2 v3 x2.1 v2 x3 (1 : Int32) x2.2
set_option maxRecDepth 100000 in
set_option maxHeartbeats 4000000 in
theorem g_L_law_c1092 {w : mWp} {Q : Option Value → mH → Prop} (v0 : Option Nat) (v1 : Option Nat) (v2 : Option Nat) (v3 : Int32) (s0 : Option Nat) (s1 : Int32) (s2 : Int32) (h : mH) {res : (Int32 × mH) ⊕ (Int32 × mH)} (e : f_L_law_c1092 v0 v1 v2 v3 s0 s1 s2 h = some res) (q : (Sum.elim (fun x : Int32 × mH => mGo w kL_law 72 4414 18 [some (va_rf v0), some (va_rf v1), some (va_rf v2), some (.int x.1)] [] x.2 Q) (fun r : Int32 × mH => Q (some (.int r.1)) r.2)) res) : mGo w kL_law 72 4414 1092 [some (va_rf v0), some (va_rf v1), some (va_rf v2), some (.int v3)] [.int s2, .int s1, va_rf s0] h Q := by
  unfold f_L_law_c1092 at e
  refine mGo.aload_n (n := 1093) (r := v0) dL_law_1092 rfl rfl ?_
  refine mGo.iload_n (n := 1094) (x := v3) dL_law_1093 rfl rfl ?_
  refine mGo.iconst (n := 1095) (v := (3 : Int32)) dL_law_1094 (by decide) rfl ?_
  refine mGo.iadd (n := 1096) dL_law_1095 rfl ?_
  obtain ⟨x1, e_x1, e⟩ := mBind e
  refine mGo.iald (n := 1097) dL_law_1096 e_x1 rfl ?_
  obtain ⟨x2, e_x2, e⟩ := mBind e
  refine mGo.callV (n := 1100) (y := zX8_tally) (R' := (mRoom (4) 0 0)) (as := [.int s1, .int s2, .int x1]) (st := []) (r0 := s0) dL_law_1097 sc_RL_115 rfl (s_X8_tally s0 s1 s2 x1 h e_x2) (e_X8_tally s0 s1 s2 x1 h e_x2) ⟨⟨(Nat.le_of_ble_eq_true rfl), (Nat.le_of_ble_eq_true rfl)⟩, (Nat.le_of_ble_eq_true rfl), (Nat.le_of_ble_eq_true rfl)⟩ (Nat.le_of_ble_eq_true rfl) rfl rfl ?_
  intro _ _ hq
  rw [hq.1, hq.2]
  show mGo w kL_law 72 4414 1100 [some (va_rf v0), some (va_rf v1), some (va_rf v2), some (.int v3)] [.int x2.1] x2.2 Q
  refine mGo.aload_n (n := 1101) (r := v2) dL_law_1100 rfl rfl ?_
  refine mGo.aload_n (n := 1102) (r := v0) dL_law_1101 rfl rfl ?_
  refine mGo.iload_n (n := 1103) (x := v3) dL_law_1102 rfl rfl ?_
  refine mGo.iconst (n := 1104) (v := (1 : Int32)) dL_law_1103 (by decide) rfl ?_
  refine mGo.iadd (n := 1105) dL_law_1104 rfl ?_
  obtain ⟨x3, e_x3, e⟩ := mBind e
  refine mGo.iald (n := 1106) dL_law_1105 e_x3 rfl ?_
  refine mGo.aload_n (n := 1107) (r := v0) dL_law_1106 rfl rfl ?_
  refine mGo.iload_n (n := 1108) (x := v3) dL_law_1107 rfl rfl ?_
  refine mGo.iconst (n := 1109) (v := (2 : Int32)) dL_law_1108 (by decide) rfl ?_
  refine mGo.iadd (n := 1110) dL_law_1109 rfl ?_
  obtain ⟨x4, e_x4, e⟩ := mBind e
  refine mGo.iald (n := 1111) dL_law_1110 e_x4 rfl ?_
  refine mGo.if_eq (tgt := 1118) (n := 1114) dL_law_1111 (by decide) rfl (fun hc => ?_) (fun hc => ?_)
  · replace e := mIft hc e
    refine mGo.iconst (n := 1119) (v := (0 : Int32)) dL_law_1118 (by decide) rfl ?_
    refine mGo.mk [true, true, true, true] ?_
    exact g_L_law_c1119 v0 v1 v2 v3 x2.1 v2 x3 (0 : Int32) x2.2 e q
  · replace e := mIff hc e
    refine mGo.iconst (n := 1115) (v := (1 : Int32)) dL_law_1114 (by decide) rfl ?_
    refine mGo.goto (tgt := 1119) dL_law_1115 (by decide) ?_
    refine mGo.mk [true, true, true, true] ?_
    exact g_L_law_c1119 v0 v1 v2 v3 x2.1 v2 x3 (1 : Int32) x2.2 e q
noncomputable def f_L_law_c1183 (v0 : Option Nat) (v1 : Option Nat) (v2 : Option Nat) (v3 : Int32) (s0 : Int32) (s1 : Option Nat) (s2 : Int32) (s3 : Int32) (h : mH) : Option ((Int32 × mH) ⊕ (Int32 × mH)) :=
  (mAI h v0 (v3 + (3 : Int32))).bind fun x1 =>
  (mAI h v0 (v3 + (4 : Int32))).bind fun x2 =>
  (f_X9_part s1 s2 s3 x1 x2 h).bind fun x3 =>
  if s0 = x3.1 then
    some (Sum.inl ((v3 + 7), x3.2))
  else
    some (Sum.inr ((0 : Int32), x3.2))
set_option maxRecDepth 100000 in
set_option maxHeartbeats 4000000 in
theorem g_L_law_c1183 {w : mWp} {Q : Option Value → mH → Prop} (v0 : Option Nat) (v1 : Option Nat) (v2 : Option Nat) (v3 : Int32) (s0 : Int32) (s1 : Option Nat) (s2 : Int32) (s3 : Int32) (h : mH) {res : (Int32 × mH) ⊕ (Int32 × mH)} (e : f_L_law_c1183 v0 v1 v2 v3 s0 s1 s2 s3 h = some res) (q : (Sum.elim (fun x : Int32 × mH => mGo w kL_law 72 4414 18 [some (va_rf v0), some (va_rf v1), some (va_rf v2), some (.int x.1)] [] x.2 Q) (fun r : Int32 × mH => Q (some (.int r.1)) r.2)) res) : mGo w kL_law 72 4414 1183 [some (va_rf v0), some (va_rf v1), some (va_rf v2), some (.int v3)] [.int s3, .int s2, va_rf s1, .int s0] h Q := by
  unfold f_L_law_c1183 at e
  refine mGo.aload_n (n := 1184) (r := v0) dL_law_1183 rfl rfl ?_
  refine mGo.iload_n (n := 1185) (x := v3) dL_law_1184 rfl rfl ?_
  refine mGo.iconst (n := 1186) (v := (3 : Int32)) dL_law_1185 (by decide) rfl ?_
  refine mGo.iadd (n := 1187) dL_law_1186 rfl ?_
  obtain ⟨x1, e_x1, e⟩ := mBind e
  refine mGo.iald (n := 1188) dL_law_1187 e_x1 rfl ?_
  refine mGo.aload_n (n := 1189) (r := v0) dL_law_1188 rfl rfl ?_
  refine mGo.iload_n (n := 1190) (x := v3) dL_law_1189 rfl rfl ?_
  refine mGo.iconst (n := 1191) (v := (4 : Int32)) dL_law_1190 (by decide) rfl ?_
  refine mGo.iadd (n := 1192) dL_law_1191 rfl ?_
  obtain ⟨x2, e_x2, e⟩ := mBind e
  refine mGo.iald (n := 1193) dL_law_1192 e_x2 rfl ?_
  obtain ⟨x3, e_x3, e⟩ := mBind e
  refine mGo.callV (n := 1196) (y := zX9_part) (R' := (mRoom (6) 0 0)) (as := [.int s2, .int s3, .int x1, .int x2]) (st := [.int s0]) (r0 := s1) dL_law_1193 sc_RL_122 rfl (s_X9_part s1 s2 s3 x1 x2 h e_x3) (e_X9_part s1 s2 s3 x1 x2 h e_x3) ⟨⟨(Nat.le_of_ble_eq_true rfl), (Nat.le_of_ble_eq_true rfl)⟩, (Nat.le_of_ble_eq_true rfl), (Nat.le_of_ble_eq_true rfl)⟩ (Nat.le_of_ble_eq_true rfl) rfl rfl ?_
  intro _ _ hq
  rw [hq.1, hq.2]
  show mGo w kL_law 72 4414 1196 [some (va_rf v0), some (va_rf v1), some (va_rf v2), some (.int v3)] [.int x3.1, .int s0] x3.2 Q
  refine mGo.icmp_eq (tgt := 1873) (n := 1199) dL_law_1196 (by decide) rfl (fun hc => ?_) (fun hc => ?_)
  · replace e := mIft hc e
    refine mGo.iinc (n := 1876) (x := v3) (v := (v3 + 7)) (ls' := [some (va_rf v0), some (va_rf v1), some (va_rf v2), some (.int (v3 + 7))]) dL_law_1873 rfl rfl ((mSt_set (fun u _ hu => by cases hu; exact mRfc _)).trans rfl) (Nat.le_of_ble_eq_true rfl) rfl ?_
    refine mGo.goto (tgt := 18) dL_law_1876 (by decide) ?_
    cases e
    refine mGo.mk [true, true, true, true] ?_
    exact q
  · replace e := mIff hc e
    refine mGo.iconst (n := 1200) (v := (0 : Int32)) dL_law_1199 (by decide) rfl ?_
    cases e
    exact mGo.zret dL_law_1200 rfl (by decide) (Nat.le_of_ble_eq_true rfl) (Nat.le_of_ble_eq_true rfl) q
noncomputable def f_L_law_c1151 (v0 : Option Nat) (v1 : Option Nat) (v2 : Option Nat) (v3 : Int32) (s0 : Option Nat) (s1 : Int32) (s2 : Int32) (h : mH) : Option ((Int32 × mH) ⊕ (Int32 × mH)) :=
  (mAI h v0 (v3 + (3 : Int32))).bind fun x1 =>
  (mAI h v0 (v3 + (4 : Int32))).bind fun x2 =>
  (f_X8_part s0 s1 s2 x1 x2 h).bind fun x3 =>
  (mAI x3.2 v0 (v3 + (1 : Int32))).bind fun x4 =>
  (mAI x3.2 v0 (v3 + (2 : Int32))).bind fun x5 =>
  if x5 = 0 then
    f_L_law_c1183 v0 v1 v2 v3 x3.1 v2 x4 (0 : Int32) x3.2
  else
    f_L_law_c1183 v0 v1 v2 v3 x3.1 v2 x4 (1 : Int32) x3.2
set_option maxRecDepth 100000 in
set_option maxHeartbeats 4000000 in
theorem g_L_law_c1151 {w : mWp} {Q : Option Value → mH → Prop} (v0 : Option Nat) (v1 : Option Nat) (v2 : Option Nat) (v3 : Int32) (s0 : Option Nat) (s1 : Int32) (s2 : Int32) (h : mH) {res : (Int32 × mH) ⊕ (Int32 × mH)} (e : f_L_law_c1151 v0 v1 v2 v3 s0 s1 s2 h = some res) (q : (Sum.elim (fun x : Int32 × mH => mGo w kL_law 72 4414 18 [some (va_rf v0), some (va_rf v1), some (va_rf v2), some (.int x.1)] [] x.2 Q) (fun r : Int32 × mH => Q (some (.int r.1)) r.2)) res) : mGo w kL_law 72 4414 1151 [some (va_rf v0), some (va_rf v1), some (va_rf v2), some (.int v3)] [.int s2, .int s1, va_rf s0] h Q := by
  unfold f_L_law_c1151 at e
  refine mGo.aload_n (n := 1152) (r := v0) dL_law_1151 rfl rfl ?_
  refine mGo.iload_n (n := 1153) (x := v3) dL_law_1152 rfl rfl ?_
  refine mGo.iconst (n := 1154) (v := (3 : Int32)) dL_law_1153 (by decide) rfl ?_
  refine mGo.iadd (n := 1155) dL_law_1154 rfl ?_
  obtain ⟨x1, e_x1, e⟩ := mBind e
  refine mGo.iald (n := 1156) dL_law_1155 e_x1 rfl ?_
  refine mGo.aload_n (n := 1157) (r := v0) dL_law_1156 rfl rfl ?_
  refine mGo.iload_n (n := 1158) (x := v3) dL_law_1157 rfl rfl ?_
  refine mGo.iconst (n := 1159) (v := (4 : Int32)) dL_law_1158 (by decide) rfl ?_
  refine mGo.iadd (n := 1160) dL_law_1159 rfl ?_
  obtain ⟨x2, e_x2, e⟩ := mBind e
  refine mGo.iald (n := 1161) dL_law_1160 e_x2 rfl ?_
  obtain ⟨x3, e_x3, e⟩ := mBind e
  refine mGo.callV (n := 1164) (y := zX8_part) (R' := (mRoom (4) 0 0)) (as := [.int s1, .int s2, .int x1, .int x2]) (st := []) (r0 := s0) dL_law_1161 sc_RL_119 rfl (s_X8_part s0 s1 s2 x1 x2 h e_x3) (e_X8_part s0 s1 s2 x1 x2 h e_x3) ⟨⟨(Nat.le_of_ble_eq_true rfl), (Nat.le_of_ble_eq_true rfl)⟩, (Nat.le_of_ble_eq_true rfl), (Nat.le_of_ble_eq_true rfl)⟩ (Nat.le_of_ble_eq_true rfl) rfl rfl ?_
  intro _ _ hq
  rw [hq.1, hq.2]
  show mGo w kL_law 72 4414 1164 [some (va_rf v0), some (va_rf v1), some (va_rf v2), some (.int v3)] [.int x3.1] x3.2 Q
  refine mGo.aload_n (n := 1165) (r := v2) dL_law_1164 rfl rfl ?_
  refine mGo.aload_n (n := 1166) (r := v0) dL_law_1165 rfl rfl ?_
  refine mGo.iload_n (n := 1167) (x := v3) dL_law_1166 rfl rfl ?_
  refine mGo.iconst (n := 1168) (v := (1 : Int32)) dL_law_1167 (by decide) rfl ?_
  refine mGo.iadd (n := 1169) dL_law_1168 rfl ?_
  obtain ⟨x4, e_x4, e⟩ := mBind e
  refine mGo.iald (n := 1170) dL_law_1169 e_x4 rfl ?_
  refine mGo.aload_n (n := 1171) (r := v0) dL_law_1170 rfl rfl ?_
  refine mGo.iload_n (n := 1172) (x := v3) dL_law_1171 rfl rfl ?_
  refine mGo.iconst (n := 1173) (v := (2 : Int32)) dL_law_1172 (by decide) rfl ?_
  refine mGo.iadd (n := 1174) dL_law_1173 rfl ?_
  obtain ⟨x5, e_x5, e⟩ := mBind e
  refine mGo.iald (n := 1175) dL_law_1174 e_x5 rfl ?_
  refine mGo.if_eq (tgt := 1182) (n := 1178) dL_law_1175 (by decide) rfl (fun hc => ?_) (fun hc => ?_)
  · replace e := mIft hc e
    refine mGo.iconst (n := 1183) (v := (0 : Int32)) dL_law_1182 (by decide) rfl ?_
    refine mGo.mk [true, true, true, true] ?_
    exact g_L_law_c1183 v0 v1 v2 v3 x3.1 v2 x4 (0 : Int32) x3.2 e q
  · replace e := mIff hc e
    refine mGo.iconst (n := 1179) (v := (1 : Int32)) dL_law_1178 (by decide) rfl ?_
    refine mGo.goto (tgt := 1183) dL_law_1179 (by decide) ?_
    refine mGo.mk [true, true, true, true] ?_
    exact g_L_law_c1183 v0 v1 v2 v3 x3.1 v2 x4 (1 : Int32) x3.2 e q
noncomputable def f_L_law_c1347 (v0 : Option Nat) (v1 : Option Nat) (v2 : Option Nat) (v3 : Int32) (s0 : Int32) (s1 : Option Nat) (s2 : Int32) (s3 : Int32) (s4 : Int32) (h : mH) : Option ((Int32 × mH) ⊕ (Int32 × mH)) :=
  (mAI h v0 (v3 + (4 : Int32))).bind fun x1 =>
  (f_X9_image s1 s2 s3 s4 x1 h).bind fun x2 =>
  if s0 = x2.1 then
    some (Sum.inl ((v3 + 7), x2.2))
  else
    some (Sum.inr ((0 : Int32), x2.2))
set_option maxRecDepth 100000 in
set_option maxHeartbeats 4000000 in
theorem g_L_law_c1347 {w : mWp} {Q : Option Value → mH → Prop} (v0 : Option Nat) (v1 : Option Nat) (v2 : Option Nat) (v3 : Int32) (s0 : Int32) (s1 : Option Nat) (s2 : Int32) (s3 : Int32) (s4 : Int32) (h : mH) {res : (Int32 × mH) ⊕ (Int32 × mH)} (e : f_L_law_c1347 v0 v1 v2 v3 s0 s1 s2 s3 s4 h = some res) (q : (Sum.elim (fun x : Int32 × mH => mGo w kL_law 72 4414 18 [some (va_rf v0), some (va_rf v1), some (va_rf v2), some (.int x.1)] [] x.2 Q) (fun r : Int32 × mH => Q (some (.int r.1)) r.2)) res) : mGo w kL_law 72 4414 1347 [some (va_rf v0), some (va_rf v1), some (va_rf v2), some (.int v3)] [.int s4, .int s3, .int s2, va_rf s1, .int s0] h Q := by
  unfold f_L_law_c1347 at e
  refine mGo.aload_n (n := 1348) (r := v0) dL_law_1347 rfl rfl ?_
  refine mGo.iload_n (n := 1349) (x := v3) dL_law_1348 rfl rfl ?_
  refine mGo.iconst (n := 1350) (v := (4 : Int32)) dL_law_1349 (by decide) rfl ?_
  refine mGo.iadd (n := 1351) dL_law_1350 rfl ?_
  obtain ⟨x1, e_x1, e⟩ := mBind e
  refine mGo.iald (n := 1352) dL_law_1351 e_x1 rfl ?_
  obtain ⟨x2, e_x2, e⟩ := mBind e
  refine mGo.callV (n := 1355) (y := zX9_image) (R' := (mRoom (6) 0 0)) (as := [.int s2, .int s3, .int s4, .int x1]) (st := [.int s0]) (r0 := s1) dL_law_1352 sc_RL_140 rfl (s_X9_image s1 s2 s3 s4 x1 h e_x2) (e_X9_image s1 s2 s3 s4 x1 h e_x2) ⟨⟨(Nat.le_of_ble_eq_true rfl), (Nat.le_of_ble_eq_true rfl)⟩, (Nat.le_of_ble_eq_true rfl), (Nat.le_of_ble_eq_true rfl)⟩ (Nat.le_of_ble_eq_true rfl) rfl rfl ?_
  intro _ _ hq
  rw [hq.1, hq.2]
  show mGo w kL_law 72 4414 1355 [some (va_rf v0), some (va_rf v1), some (va_rf v2), some (.int v3)] [.int x2.1, .int s0] x2.2 Q
  refine mGo.icmp_eq (tgt := 1873) (n := 1358) dL_law_1355 (by decide) rfl (fun hc => ?_) (fun hc => ?_)
  · replace e := mIft hc e
    refine mGo.iinc (n := 1876) (x := v3) (v := (v3 + 7)) (ls' := [some (va_rf v0), some (va_rf v1), some (va_rf v2), some (.int (v3 + 7))]) dL_law_1873 rfl rfl ((mSt_set (fun u _ hu => by cases hu; exact mRfc _)).trans rfl) (Nat.le_of_ble_eq_true rfl) rfl ?_
    refine mGo.goto (tgt := 18) dL_law_1876 (by decide) ?_
    cases e
    refine mGo.mk [true, true, true, true] ?_
    exact q
  · replace e := mIff hc e
    refine mGo.iconst (n := 1359) (v := (0 : Int32)) dL_law_1358 (by decide) rfl ?_
    cases e
    exact mGo.zret dL_law_1359 rfl (by decide) (Nat.le_of_ble_eq_true rfl) (Nat.le_of_ble_eq_true rfl) q
noncomputable def f_L_law_c1315 (v0 : Option Nat) (v1 : Option Nat) (v2 : Option Nat) (v3 : Int32) (s0 : Option Nat) (s1 : Int32) (s2 : Int32) (s3 : Int32) (h : mH) : Option ((Int32 × mH) ⊕ (Int32 × mH)) :=
  (mAI h v0 (v3 + (4 : Int32))).bind fun x1 =>
  (f_X8_image s0 s1 s2 s3 x1 h).bind fun x2 =>
  (mAI x2.2 v0 (v3 + (1 : Int32))).bind fun x3 =>
  (mAI x2.2 v0 (v3 + (2 : Int32))).bind fun x4 =>
  (mAI x2.2 v0 (v3 + (3 : Int32))).bind fun x5 =>
  if x5 = 0 then
    f_L_law_c1347 v0 v1 v2 v3 x2.1 v2 x3 x4 (0 : Int32) x2.2
  else
    f_L_law_c1347 v0 v1 v2 v3 x2.1 v2 x3 x4 (1 : Int32) x2.2
set_option maxRecDepth 100000 in
set_option maxHeartbeats 4000000 in
theorem g_L_law_c1315 {w : mWp} {Q : Option Value → mH → Prop} (v0 : Option Nat) (v1 : Option Nat) (v2 : Option Nat) (v3 : Int32) (s0 : Option Nat) (s1 : Int32) (s2 : Int32) (s3 : Int32) (h : mH) {res : (Int32 × mH) ⊕ (Int32 × mH)} (e : f_L_law_c1315 v0 v1 v2 v3 s0 s1 s2 s3 h = some res) (q : (Sum.elim (fun x : Int32 × mH => mGo w kL_law 72 4414 18 [some (va_rf v0), some (va_rf v1), some (va_rf v2), some (.int x.1)] [] x.2 Q) (fun r : Int32 × mH => Q (some (.int r.1)) r.2)) res) : mGo w kL_law 72 4414 1315 [some (va_rf v0), some (va_rf v1), some (va_rf v2), some (.int v3)] [.int s3, .int s2, .int s1, va_rf s0] h Q := by
  unfold f_L_law_c1315 at e
  refine mGo.aload_n (n := 1316) (r := v0) dL_law_1315 rfl rfl ?_
  refine mGo.iload_n (n := 1317) (x := v3) dL_law_1316 rfl rfl ?_
  refine mGo.iconst (n := 1318) (v := (4 : Int32)) dL_law_1317 (by decide) rfl ?_
  refine mGo.iadd (n := 1319) dL_law_1318 rfl ?_
  obtain ⟨x1, e_x1, e⟩ := mBind e
  refine mGo.iald (n := 1320) dL_law_1319 e_x1 rfl ?_
  obtain ⟨x2, e_x2, e⟩ := mBind e
  refine mGo.callV (n := 1323) (y := zX8_image) (R' := (mRoom (25) 0 0)) (as := [.int s1, .int s2, .int s3, .int x1]) (st := []) (r0 := s0) dL_law_1320 sc_RL_136 rfl (s_X8_image s0 s1 s2 s3 x1 h e_x2) (e_X8_image s0 s1 s2 s3 x1 h e_x2) ⟨⟨(Nat.le_of_ble_eq_true rfl), (Nat.le_of_ble_eq_true rfl)⟩, (Nat.le_of_ble_eq_true rfl), (Nat.le_of_ble_eq_true rfl)⟩ (Nat.le_of_ble_eq_true rfl) rfl rfl ?_
  intro _ _ hq
  rw [hq.1, hq.2]
  show mGo w kL_law 72 4414 1323 [some (va_rf v0), some (va_rf v1), some (va_rf v2), some (.int v3)] [.int x2.1] x2.2 Q
  refine mGo.aload_n (n := 1324) (r := v2) dL_law_1323 rfl rfl ?_
  refine mGo.aload_n (n := 1325) (r := v0) dL_law_1324 rfl rfl ?_
  refine mGo.iload_n (n := 1326) (x := v3) dL_law_1325 rfl rfl ?_
  refine mGo.iconst (n := 1327) (v := (1 : Int32)) dL_law_1326 (by decide) rfl ?_
  refine mGo.iadd (n := 1328) dL_law_1327 rfl ?_
  obtain ⟨x3, e_x3, e⟩ := mBind e
  refine mGo.iald (n := 1329) dL_law_1328 e_x3 rfl ?_
  refine mGo.aload_n (n := 1330) (r := v0) dL_law_1329 rfl rfl ?_
  refine mGo.iload_n (n := 1331) (x := v3) dL_law_1330 rfl rfl ?_
  refine mGo.iconst (n := 1332) (v := (2 : Int32)) dL_law_1331 (by decide) rfl ?_
  refine mGo.iadd (n := 1333) dL_law_1332 rfl ?_
  obtain ⟨x4, e_x4, e⟩ := mBind e
  refine mGo.iald (n := 1334) dL_law_1333 e_x4 rfl ?_
  refine mGo.aload_n (n := 1335) (r := v0) dL_law_1334 rfl rfl ?_
  refine mGo.iload_n (n := 1336) (x := v3) dL_law_1335 rfl rfl ?_
  refine mGo.iconst (n := 1337) (v := (3 : Int32)) dL_law_1336 (by decide) rfl ?_
  refine mGo.iadd (n := 1338) dL_law_1337 rfl ?_
  obtain ⟨x5, e_x5, e⟩ := mBind e
  refine mGo.iald (n := 1339) dL_law_1338 e_x5 rfl ?_
  refine mGo.if_eq (tgt := 1346) (n := 1342) dL_law_1339 (by decide) rfl (fun hc => ?_) (fun hc => ?_)
  · replace e := mIft hc e
    refine mGo.iconst (n := 1347) (v := (0 : Int32)) dL_law_1346 (by decide) rfl ?_
    refine mGo.mk [true, true, true, true] ?_
    exact g_L_law_c1347 v0 v1 v2 v3 x2.1 v2 x3 x4 (0 : Int32) x2.2 e q
  · replace e := mIff hc e
    refine mGo.iconst (n := 1343) (v := (1 : Int32)) dL_law_1342 (by decide) rfl ?_
    refine mGo.goto (tgt := 1347) dL_law_1343 (by decide) ?_
    refine mGo.mk [true, true, true, true] ?_
    exact g_L_law_c1347 v0 v1 v2 v3 x2.1 v2 x3 x4 (1 : Int32) x2.2 e q
noncomputable def f_L_law_c1746 (v0 : Option Nat) (v1 : Option Nat) (v2 : Option Nat) (v3 : Int32) (s0 : Int32) (s1 : Option Nat) (s2 : Int32) (s3 : Int32) (s4 : Int32) (h : mH) : Option ((Int32 × mH) ⊕ (Int32 × mH)) :=
  (f_X9_spectrum s1 s2 s3 s4 h).bind fun x1 =>
  if s0 = x1 then
    some (Sum.inl ((v3 + 7), h))
  else
    some (Sum.inr ((0 : Int32), h))
set_option maxRecDepth 100000 in
set_option maxHeartbeats 4000000 in
theorem g_L_law_c1746 {w : mWp} {Q : Option Value → mH → Prop} (v0 : Option Nat) (v1 : Option Nat) (v2 : Option Nat) (v3 : Int32) (s0 : Int32) (s1 : Option Nat) (s2 : Int32) (s3 : Int32) (s4 : Int32) (h : mH) {res : (Int32 × mH) ⊕ (Int32 × mH)} (e : f_L_law_c1746 v0 v1 v2 v3 s0 s1 s2 s3 s4 h = some res) (q : (Sum.elim (fun x : Int32 × mH => mGo w kL_law 72 4414 18 [some (va_rf v0), some (va_rf v1), some (va_rf v2), some (.int x.1)] [] x.2 Q) (fun r : Int32 × mH => Q (some (.int r.1)) r.2)) res) : mGo w kL_law 72 4414 1746 [some (va_rf v0), some (va_rf v1), some (va_rf v2), some (.int v3)] [.int s4, .int s3, .int s2, va_rf s1, .int s0] h Q := by
  unfold f_L_law_c1746 at e
  obtain ⟨x1, e_x1, e⟩ := mBind e
  refine mGo.callV (n := 1749) (y := zX9_spectrum) (R' := (mRoom (4) 0 0)) (as := [.int s2, .int s3, .int s4]) (st := [.int s0]) (r0 := s1) dL_law_1746 sc_RL_179 rfl (s_X9_spectrum s1 s2 s3 s4 h e_x1) (e_X9_spectrum s1 s2 s3 s4 h e_x1) ⟨⟨(Nat.le_of_ble_eq_true rfl), (Nat.le_of_ble_eq_true rfl)⟩, (Nat.le_of_ble_eq_true rfl), (Nat.le_of_ble_eq_true rfl)⟩ (Nat.le_of_ble_eq_true rfl) rfl rfl ?_
  intro _ _ hq
  rw [hq.1, hq.2]
  show mGo w kL_law 72 4414 1749 [some (va_rf v0), some (va_rf v1), some (va_rf v2), some (.int v3)] [.int x1, .int s0] h Q
  refine mGo.icmp_eq (tgt := 1873) (n := 1752) dL_law_1749 (by decide) rfl (fun hc => ?_) (fun hc => ?_)
  · replace e := mIft hc e
    refine mGo.iinc (n := 1876) (x := v3) (v := (v3 + 7)) (ls' := [some (va_rf v0), some (va_rf v1), some (va_rf v2), some (.int (v3 + 7))]) dL_law_1873 rfl rfl ((mSt_set (fun u _ hu => by cases hu; exact mRfc _)).trans rfl) (Nat.le_of_ble_eq_true rfl) rfl ?_
    refine mGo.goto (tgt := 18) dL_law_1876 (by decide) ?_
    cases e
    refine mGo.mk [true, true, true, true] ?_
    exact q
  · replace e := mIff hc e
    refine mGo.iconst (n := 1753) (v := (0 : Int32)) dL_law_1752 (by decide) rfl ?_
    cases e
    exact mGo.zret dL_law_1753 rfl (by decide) (Nat.le_of_ble_eq_true rfl) (Nat.le_of_ble_eq_true rfl) q
noncomputable def f_L_law_c1719 (v0 : Option Nat) (v1 : Option Nat) (v2 : Option Nat) (v3 : Int32) (s0 : Option Nat) (s1 : Int32) (s2 : Int32) (s3 : Int32) (h : mH) : Option ((Int32 × mH) ⊕ (Int32 × mH)) :=
  (f_X8_spectrum s0 s1 s2 s3 h).bind fun x1 =>
  (mAI h v0 (v3 + (1 : Int32))).bind fun x2 =>
  (mAI h v0 (v3 + (2 : Int32))).bind fun x3 =>
  (mAI h v0 (v3 + (3 : Int32))).bind fun x4 =>
  if x4 = 0 then
    f_L_law_c1746 v0 v1 v2 v3 x1 v2 x2 x3 (0 : Int32) h
  else
    f_L_law_c1746 v0 v1 v2 v3 x1 v2 x2 x3 (1 : Int32) h
set_option maxRecDepth 100000 in
set_option maxHeartbeats 4000000 in
theorem g_L_law_c1719 {w : mWp} {Q : Option Value → mH → Prop} (v0 : Option Nat) (v1 : Option Nat) (v2 : Option Nat) (v3 : Int32) (s0 : Option Nat) (s1 : Int32) (s2 : Int32) (s3 : Int32) (h : mH) {res : (Int32 × mH) ⊕ (Int32 × mH)} (e : f_L_law_c1719 v0 v1 v2 v3 s0 s1 s2 s3 h = some res) (q : (Sum.elim (fun x : Int32 × mH => mGo w kL_law 72 4414 18 [some (va_rf v0), some (va_rf v1), some (va_rf v2), some (.int x.1)] [] x.2 Q) (fun r : Int32 × mH => Q (some (.int r.1)) r.2)) res) : mGo w kL_law 72 4414 1719 [some (va_rf v0), some (va_rf v1), some (va_rf v2), some (.int v3)] [.int s3, .int s2, .int s1, va_rf s0] h Q := by
  unfold f_L_law_c1719 at e
  obtain ⟨x1, e_x1, e⟩ := mBind e
  refine mGo.callV (n := 1722) (y := zX8_spectrum) (R' := (mRoom (4) 0 0)) (as := [.int s1, .int s2, .int s3]) (st := []) (r0 := s0) dL_law_1719 sc_RL_175 rfl (s_X8_spectrum s0 s1 s2 s3 h e_x1) (e_X8_spectrum s0 s1 s2 s3 h e_x1) ⟨⟨(Nat.le_of_ble_eq_true rfl), (Nat.le_of_ble_eq_true rfl)⟩, (Nat.le_of_ble_eq_true rfl), (Nat.le_of_ble_eq_true rfl)⟩ (Nat.le_of_ble_eq_true rfl) rfl rfl ?_
  intro _ _ hq
  rw [hq.1, hq.2]
  show mGo w kL_law 72 4414 1722 [some (va_rf v0), some (va_rf v1), some (va_rf v2), some (.int v3)] [.int x1] h Q
  refine mGo.aload_n (n := 1723) (r := v2) dL_law_1722 rfl rfl ?_
  refine mGo.aload_n (n := 1724) (r := v0) dL_law_1723 rfl rfl ?_
  refine mGo.iload_n (n := 1725) (x := v3) dL_law_1724 rfl rfl ?_
  refine mGo.iconst (n := 1726) (v := (1 : Int32)) dL_law_1725 (by decide) rfl ?_
  refine mGo.iadd (n := 1727) dL_law_1726 rfl ?_
  obtain ⟨x2, e_x2, e⟩ := mBind e
  refine mGo.iald (n := 1728) dL_law_1727 e_x2 rfl ?_
  refine mGo.aload_n (n := 1729) (r := v0) dL_law_1728 rfl rfl ?_
  refine mGo.iload_n (n := 1730) (x := v3) dL_law_1729 rfl rfl ?_
  refine mGo.iconst (n := 1731) (v := (2 : Int32)) dL_law_1730 (by decide) rfl ?_
  refine mGo.iadd (n := 1732) dL_law_1731 rfl ?_
  obtain ⟨x3, e_x3, e⟩ := mBind e
  refine mGo.iald (n := 1733) dL_law_1732 e_x3 rfl ?_
  refine mGo.aload_n (n := 1734) (r := v0) dL_law_1733 rfl rfl ?_
  refine mGo.iload_n (n := 1735) (x := v3) dL_law_1734 rfl rfl ?_
  refine mGo.iconst (n := 1736) (v := (3 : Int32)) dL_law_1735 (by decide) rfl ?_
  refine mGo.iadd (n := 1737) dL_law_1736 rfl ?_
  obtain ⟨x4, e_x4, e⟩ := mBind e
  refine mGo.iald (n := 1738) dL_law_1737 e_x4 rfl ?_
  refine mGo.if_eq (tgt := 1745) (n := 1741) dL_law_1738 (by decide) rfl (fun hc => ?_) (fun hc => ?_)
  · replace e := mIft hc e
    refine mGo.iconst (n := 1746) (v := (0 : Int32)) dL_law_1745 (by decide) rfl ?_
    refine mGo.mk [true, true, true, true] ?_
    exact g_L_law_c1746 v0 v1 v2 v3 x1 v2 x2 x3 (0 : Int32) h e q
  · replace e := mIff hc e
    refine mGo.iconst (n := 1742) (v := (1 : Int32)) dL_law_1741 (by decide) rfl ?_
    refine mGo.goto (tgt := 1746) dL_law_1742 (by decide) ?_
    refine mGo.mk [true, true, true, true] ?_
    exact g_L_law_c1746 v0 v1 v2 v3 x1 v2 x2 x3 (1 : Int32) h e q
noncomputable def f_L_law_b18 (v0 : Option Nat) (v1 : Option Nat) (v2 : Option Nat) (v3 : Int32) (h : mH) : Option ((Int32 × mH) ⊕ (Int32 × mH)) :=
  (mLn h v0).bind fun x1 =>
  if (x1 - (7 : Int32)) < v3 then
    some (Sum.inr ((1 : Int32), h))
  else
    (mAI h v0 v3).bind fun x2 =>
    if (x2 &&& (63 : Int32)) = 0 then
      (mAI h v0 (v3 + (1 : Int32))).bind fun x4 =>
      (f_X8_tell v1 x4 h).bind fun x5 =>
      (mAI x5.2 v0 (v3 + (1 : Int32))).bind fun x6 =>
      (f_X9_tell v2 x6 x5.2).bind fun x7 =>
      if x5.1 = x7.1 then
        some (Sum.inl ((v3 + 7), x7.2))
      else
        some (Sum.inr ((0 : Int32), x7.2))
    else
    if (x2 &&& (63 : Int32)) = 1 then
      (f_X8_take v1 h).bind fun x9 =>
      (f_X9_take v2 x9.2).bind fun x10 =>
      if x9.1 = x10.1 then
        some (Sum.inl ((v3 + 7), x10.2))
      else
        some (Sum.inr ((0 : Int32), x10.2))
    else
    if (x2 &&& (63 : Int32)) = 2 then
      (mAI h v0 (v3 + (1 : Int32))).bind fun x12 =>
      (f_X8_residues v1 x12 h).bind fun x13 =>
      (mAI x13.2 v0 (v3 + (1 : Int32))).bind fun x14 =>
      (f_X9_residues v2 x14 x13.2).bind fun x15 =>
      if x13.1 = x15.1 then
        some (Sum.inl ((v3 + 7), x15.2))
      else
        some (Sum.inr ((0 : Int32), x15.2))
    else
    if (x2 &&& (63 : Int32)) = 3 then
      (mAI h v0 (v3 + (1 : Int32))).bind fun x17 =>
      (f_X8_twice v1 x17 h).bind fun x18 =>
      (mAI x18.2 v0 (v3 + (1 : Int32))).bind fun x19 =>
      (f_X9_twice v2 x19 x18.2).bind fun x20 =>
      if x18.1 = x20.1 then
        some (Sum.inl ((v3 + 7), x20.2))
      else
        some (Sum.inr ((0 : Int32), x20.2))
    else
    if (x2 &&& (63 : Int32)) = 4 then
      (mAI h v0 (v3 + (1 : Int32))).bind fun x22 =>
      (f_X8_doubled v1 x22 h).bind fun x23 =>
      (mAI x23.2 v0 (v3 + (1 : Int32))).bind fun x24 =>
      (f_X9_doubled v2 x24 x23.2).bind fun x25 =>
      if x23.1 = x25.1 then
        some (Sum.inl ((v3 + 7), x25.2))
      else
        some (Sum.inr ((0 : Int32), x25.2))
    else
    if (x2 &&& (63 : Int32)) = 5 then
      (mAI h v0 (v3 + (1 : Int32))).bind fun x27 =>
      (mAI h v0 (v3 + (2 : Int32))).bind fun x28 =>
      (f_X8_product v1 x27 x28 h).bind fun x29 =>
      (mAI x29.2 v0 (v3 + (1 : Int32))).bind fun x30 =>
      (mAI x29.2 v0 (v3 + (2 : Int32))).bind fun x31 =>
      (f_X9_product v2 x30 x31 x29.2).bind fun x32 =>
      if x29.1 = x32.1 then
        some (Sum.inl ((v3 + 7), x32.2))
      else
        some (Sum.inr ((0 : Int32), x32.2))
    else
    if (x2 &&& (63 : Int32)) = 6 then
      (mAI h v0 (v3 + (1 : Int32))).bind fun x34 =>
      (mAI h v0 (v3 + (2 : Int32))).bind fun x35 =>
      (mAI h v0 (v3 + (3 : Int32))).bind fun x36 =>
      (mAI h v0 (v3 + (4 : Int32))).bind fun x37 =>
      (mAI h v0 (v3 + (5 : Int32))).bind fun x38 =>
      (f_X8_four v1 x34 x35 x36 x37 x38 h).bind fun x39 =>
      (mAI x39.2 v0 (v3 + (1 : Int32))).bind fun x40 =>
      (mAI x39.2 v0 (v3 + (2 : Int32))).bind fun x41 =>
      (mAI x39.2 v0 (v3 + (3 : Int32))).bind fun x42 =>
      (mAI x39.2 v0 (v3 + (4 : Int32))).bind fun x43 =>
      (mAI x39.2 v0 (v3 + (5 : Int32))).bind fun x44 =>
      (f_X9_four v2 x40 x41 x42 x43 x44 x39.2).bind fun x45 =>
      if x39.1 = x45.1 then
        some (Sum.inl ((v3 + 7), x45.2))
      else
        some (Sum.inr ((0 : Int32), x45.2))
    else
    if (x2 &&& (63 : Int32)) = 7 then
      (mAI h v0 (v3 + (1 : Int32))).bind fun x47 =>
      (mAI h v0 (v3 + (2 : Int32))).bind fun x48 =>
      (f_X8_bordered v1 x47 x48 h).bind fun x49 =>
      (mAI x49.2 v0 (v3 + (1 : Int32))).bind fun x50 =>
      (mAI x49.2 v0 (v3 + (2 : Int32))).bind fun x51 =>
      (f_X9_bordered v2 x50 x51 x49.2).bind fun x52 =>
      if x49.1 = x52.1 then
        some (Sum.inl ((v3 + 7), x52.2))
      else
        some (Sum.inr ((0 : Int32), x52.2))
    else
    if (x2 &&& (63 : Int32)) = 8 then
      (mAI h v0 (v3 + (1 : Int32))).bind fun x54 =>
      (f_X8_completed v1 x54 h).bind fun x55 =>
      (mAI x55.2 v0 (v3 + (1 : Int32))).bind fun x56 =>
      (f_X9_completed v2 x56 x55.2).bind fun x57 =>
      if x55.1 = x57.1 then
        some (Sum.inl ((v3 + 7), x57.2))
      else
        some (Sum.inr ((0 : Int32), x57.2))
    else
    if (x2 &&& (63 : Int32)) = 9 then
      (mAI h v0 (v3 + (1 : Int32))).bind fun x59 =>
      (f_X8_copy v1 x59 h).bind fun x60 =>
      (mAI x60.2 v0 (v3 + (1 : Int32))).bind fun x61 =>
      (f_X9_copy v2 x61 x60.2).bind fun x62 =>
      if x60.1 = x62.1 then
        some (Sum.inl ((v3 + 7), x62.2))
      else
        some (Sum.inr ((0 : Int32), x62.2))
    else
    if (x2 &&& (63 : Int32)) = 10 then
      (mAI h v0 (v3 + (1 : Int32))).bind fun x64 =>
      (f_X8_drop v1 x64 h).bind fun x65 =>
      (mAI x65.2 v0 (v3 + (1 : Int32))).bind fun x66 =>
      (f_X9_drop v2 x66 x65.2).bind fun x67 =>
      if x65.1 = x67.1 then
        some (Sum.inl ((v3 + 7), x67.2))
      else
        some (Sum.inr ((0 : Int32), x67.2))
    else
    if (x2 &&& (63 : Int32)) = 11 then
      (mAI h v0 (v3 + (1 : Int32))).bind fun x69 =>
      (mAI h v0 (v3 + (2 : Int32))).bind fun x70 =>
      if x70 = 0 then
        f_L_law_c534 v0 v1 v2 v3 v1 x69 (0 : Int32) h
      else
        f_L_law_c534 v0 v1 v2 v3 v1 x69 (1 : Int32) h
    else
    if (x2 &&& (63 : Int32)) = 12 then
      (mAI h v0 (v3 + (1 : Int32))).bind fun x72 =>
      (mAI h v0 (v3 + (2 : Int32))).bind fun x73 =>
      if x73 = 0 then
        f_L_law_c593 v0 v1 v2 v3 v1 x72 (0 : Int32) h
      else
        f_L_law_c593 v0 v1 v2 v3 v1 x72 (1 : Int32) h
    else
    if (x2 &&& (63 : Int32)) = 13 then
      (mAI h v0 (v3 + (1 : Int32))).bind fun x75 =>
      (f_X8_turn v1 x75 h).bind fun x76 =>
      (mAI x76.2 v0 (v3 + (1 : Int32))).bind fun x77 =>
      (f_X9_turn v2 x77 x76.2).bind fun x78 =>
      if x76.1 = x78.1 then
        some (Sum.inl ((v3 + 7), x78.2))
      else
        some (Sum.inr ((0 : Int32), x78.2))
    else
    if (x2 &&& (63 : Int32)) = 14 then
      (mAI h v0 (v3 + (1 : Int32))).bind fun x80 =>
      (mAI h v0 (v3 + (2 : Int32))).bind fun x81 =>
      (mAI h v0 (v3 + (3 : Int32))).bind fun x82 =>
      (mAI h v0 (v3 + (4 : Int32))).bind fun x83 =>
      (mAI h v0 (v3 + (5 : Int32))).bind fun x84 =>
      (mAI h v0 (v3 + (6 : Int32))).bind fun x85 =>
      (f_X8_switched v1 x80 x81 x82 x83 x84 x85 h).bind fun x86 =>
      (mAI x86.2 v0 (v3 + (1 : Int32))).bind fun x87 =>
      (mAI x86.2 v0 (v3 + (2 : Int32))).bind fun x88 =>
      (mAI x86.2 v0 (v3 + (3 : Int32))).bind fun x89 =>
      (mAI x86.2 v0 (v3 + (4 : Int32))).bind fun x90 =>
      (mAI x86.2 v0 (v3 + (5 : Int32))).bind fun x91 =>
      (mAI x86.2 v0 (v3 + (6 : Int32))).bind fun x92 =>
      (f_X9_switched v2 x87 x88 x89 x90 x91 x92 x86.2).bind fun x93 =>
      if x86.1 = x93.1 then
        some (Sum.inl ((v3 + 7), x93.2))
      else
        some (Sum.inr ((0 : Int32), x93.2))
    else
    if (x2 &&& (63 : Int32)) = 15 then
      (mAI h v0 (v3 + (1 : Int32))).bind fun x95 =>
      (f_X8_norm v1 x95 h).bind fun x96 =>
      (mAI x96.2 v0 (v3 + (1 : Int32))).bind fun x97 =>
      (f_X9_norm v2 x97 x96.2).bind fun x98 =>
      if x96.1 = x98.1 then
        some (Sum.inl ((v3 + 7), x98.2))
      else
        some (Sum.inr ((0 : Int32), x98.2))
    else
    if (x2 &&& (63 : Int32)) = 16 then
      (mAI h v0 (v3 + (1 : Int32))).bind fun x100 =>
      (f_X8_order v1 x100 h).bind fun x101 =>
      (mAI h v0 (v3 + (1 : Int32))).bind fun x102 =>
      (f_X9_order v2 x102 h).bind fun x103 =>
      if x101 = x103 then
        some (Sum.inl ((v3 + 7), h))
      else
        some (Sum.inr ((0 : Int32), h))
    else
    if (x2 &&& (63 : Int32)) = 17 then
      (mAI h v0 (v3 + (1 : Int32))).bind fun x105 =>
      (mAI h v0 (v3 + (2 : Int32))).bind fun x106 =>
      if x106 = 0 then
        f_L_law_c806 v0 v1 v2 v3 v1 x105 (0 : Int32) h
      else
        f_L_law_c806 v0 v1 v2 v3 v1 x105 (1 : Int32) h
    else
    if (x2 &&& (63 : Int32)) = 18 then
      (mAI h v0 (v3 + (1 : Int32))).bind fun x108 =>
      (mAI h v0 (v3 + (2 : Int32))).bind fun x109 =>
      if x109 = 0 then
        f_L_law_c865 v0 v1 v2 v3 v1 x108 (0 : Int32) h
      else
        f_L_law_c865 v0 v1 v2 v3 v1 x108 (1 : Int32) h
    else
    if (x2 &&& (63 : Int32)) = 19 then
      (mAI h v0 (v3 + (1 : Int32))).bind fun x111 =>
      (mAI h v0 (v3 + (2 : Int32))).bind fun x112 =>
      if x112 = 0 then
        f_L_law_c934 v0 v1 v2 v3 v1 x111 (0 : Int32) h
      else
        f_L_law_c934 v0 v1 v2 v3 v1 x111 (1 : Int32) h
    else
    if (x2 &&& (63 : Int32)) = 20 then
      (mAI h v0 (v3 + (1 : Int32))).bind fun x114 =>
      (mAI h v0 (v3 + (2 : Int32))).bind fun x115 =>
      (f_X8_perpendicular v1 x114 x115 h).bind fun x116 =>
      (mAI h v0 (v3 + (1 : Int32))).bind fun x117 =>
      (mAI h v0 (v3 + (2 : Int32))).bind fun x118 =>
      (f_X9_perpendicular v2 x117 x118 h).bind fun x119 =>
      if x116 = x119.1 then
        some (Sum.inl ((v3 + 7), x119.2))
      else
        some (Sum.inr ((0 : Int32), x119.2))
    else
    if (x2 &&& (63 : Int32)) = 21 then
      (mAI h v0 (v3 + (1 : Int32))).bind fun x121 =>
      (f_X8_sum v1 x121 h).bind fun x122 =>
      (mAI h v0 (v3 + (1 : Int32))).bind fun x123 =>
      (f_X9_sum v2 x123 h).bind fun x124 =>
      if x122 = x124 then
        some (Sum.inl ((v3 + 7), h))
      else
        some (Sum.inr ((0 : Int32), h))
    else
    if (x2 &&& (63 : Int32)) = 22 then
      (mAI h v0 (v3 + (1 : Int32))).bind fun x126 =>
      (mAI h v0 (v3 + (2 : Int32))).bind fun x127 =>
      (f_X8_best v1 x126 x127 h).bind fun x128 =>
      (mAI x128.2 v0 (v3 + (1 : Int32))).bind fun x129 =>
      (mAI x128.2 v0 (v3 + (2 : Int32))).bind fun x130 =>
      (f_X9_best v2 x129 x130 x128.2).bind fun x131 =>
      if x128.1 = x131 then
        some (Sum.inl ((v3 + 7), x128.2))
      else
        some (Sum.inr ((0 : Int32), x128.2))
    else
    if (x2 &&& (63 : Int32)) = 23 then
      (mAI h v0 (v3 + (1 : Int32))).bind fun x133 =>
      (mAI h v0 (v3 + (2 : Int32))).bind fun x134 =>
      if x134 = 0 then
        f_L_law_c1092 v0 v1 v2 v3 v1 x133 (0 : Int32) h
      else
        f_L_law_c1092 v0 v1 v2 v3 v1 x133 (1 : Int32) h
    else
    if (x2 &&& (63 : Int32)) = 24 then
      (mAI h v0 (v3 + (1 : Int32))).bind fun x136 =>
      (mAI h v0 (v3 + (2 : Int32))).bind fun x137 =>
      if x137 = 0 then
        f_L_law_c1151 v0 v1 v2 v3 v1 x136 (0 : Int32) h
      else
        f_L_law_c1151 v0 v1 v2 v3 v1 x136 (1 : Int32) h
    else
    if (x2 &&& (63 : Int32)) = 25 then
      (mAI h v0 (v3 + (1 : Int32))).bind fun x139 =>
      (mAI h v0 (v3 + (2 : Int32))).bind fun x140 =>
      (f_X8_form v1 x139 x140 h).bind fun x141 =>
      (mAI x141.2 v0 (v3 + (1 : Int32))).bind fun x142 =>
      (mAI x141.2 v0 (v3 + (2 : Int32))).bind fun x143 =>
      (f_X9_form v2 x142 x143 x141.2).bind fun x144 =>
      if x141.1 = x144.1 then
        some (Sum.inl ((v3 + 7), x144.2))
      else
        some (Sum.inr ((0 : Int32), x144.2))
    else
    if (x2 &&& (63 : Int32)) = 26 then
      (mAI h v0 (v3 + (1 : Int32))).bind fun x146 =>
      (f_X8_determinant v1 x146 h).bind fun x147 =>
      (mAI x147.2 v0 (v3 + (1 : Int32))).bind fun x148 =>
      (f_X9_determinant v2 x148 x147.2).bind fun x149 =>
      if (lg_cmp x147.1 x149.1) = 0 then
        some (Sum.inl ((v3 + 7), x149.2))
      else
        some (Sum.inr ((0 : Int32), x149.2))
    else
    if (x2 &&& (63 : Int32)) = 27 then
      (mAI h v0 (v3 + (1 : Int32))).bind fun x151 =>
      (mAI h v0 (v3 + (2 : Int32))).bind fun x152 =>
      (f_X8_like v1 x151 x152 h).bind fun x153 =>
      (mAI x153.2 v0 (v3 + (1 : Int32))).bind fun x154 =>
      (mAI x153.2 v0 (v3 + (2 : Int32))).bind fun x155 =>
      (f_X9_like v2 x154 x155 x153.2).bind fun x156 =>
      if x153.1 = x156.1 then
        some (Sum.inl ((v3 + 7), x156.2))
      else
        some (Sum.inr ((0 : Int32), x156.2))
    else
    if (x2 &&& (63 : Int32)) = 28 then
      (mAI h v0 (v3 + (1 : Int32))).bind fun x158 =>
      (mAI h v0 (v3 + (2 : Int32))).bind fun x159 =>
      (mAI h v0 (v3 + (3 : Int32))).bind fun x160 =>
      if x160 = 0 then
        f_L_law_c1315 v0 v1 v2 v3 v1 x158 x159 (0 : Int32) h
      else
        f_L_law_c1315 v0 v1 v2 v3 v1 x158 x159 (1 : Int32) h
    else
    if (x2 &&& (63 : Int32)) = 29 then
      (mAI h v0 (v3 + (1 : Int32))).bind fun x162 =>
      (f_X8_symmetries v1 x162 h).bind fun x163 =>
      (mAI x163.2 v0 (v3 + (1 : Int32))).bind fun x164 =>
      (f_X9_symmetries v2 x164 x163.2).bind fun x165 =>
      if (lg_cmp x163.1 x165.1) = 0 then
        some (Sum.inl ((v3 + 7), x165.2))
      else
        some (Sum.inr ((0 : Int32), x165.2))
    else
    if (x2 &&& (63 : Int32)) = 30 then
      (mAI h v0 (v3 + (1 : Int32))).bind fun x167 =>
      (mAI h v0 (v3 + (2 : Int32))).bind fun x168 =>
      (mAI h v0 (v3 + (3 : Int32))).bind fun x169 =>
      (f_X8_joined v1 x167 x168 x169 h).bind fun x170 =>
      (mAI h v0 (v3 + (1 : Int32))).bind fun x171 =>
      (mAI h v0 (v3 + (2 : Int32))).bind fun x172 =>
      (mAI h v0 (v3 + (3 : Int32))).bind fun x173 =>
      (f_X9_joined v2 x171 x172 x173 h).bind fun x174 =>
      if x170 = x174 then
        some (Sum.inl ((v3 + 7), h))
      else
        some (Sum.inr ((0 : Int32), h))
    else
    if (x2 &&& (63 : Int32)) = 31 then
      (mAI h v0 (v3 + (1 : Int32))).bind fun x176 =>
      (mAI h v0 (v3 + (2 : Int32))).bind fun x177 =>
      (mAI h v0 (v3 + (3 : Int32))).bind fun x178 =>
      (f_X8_common v1 x176 x177 x178 h).bind fun x179 =>
      (mAI h v0 (v3 + (1 : Int32))).bind fun x180 =>
      (mAI h v0 (v3 + (2 : Int32))).bind fun x181 =>
      (mAI h v0 (v3 + (3 : Int32))).bind fun x182 =>
      (f_X9_common v2 x180 x181 x182 h).bind fun x183 =>
      if x179 = x183 then
        some (Sum.inl ((v3 + 7), h))
      else
        some (Sum.inr ((0 : Int32), h))
    else
    if (x2 &&& (63 : Int32)) = 32 then
      (mAI h v0 (v3 + (1 : Int32))).bind fun x185 =>
      (mAI h v0 (v3 + (2 : Int32))).bind fun x186 =>
      (mAI h v0 (v3 + (3 : Int32))).bind fun x187 =>
      (mAI h v0 (v3 + (4 : Int32))).bind fun x188 =>
      (f_X8_block v1 x185 x186 x187 x188 h).bind fun x189 =>
      (mAI h v0 (v3 + (1 : Int32))).bind fun x190 =>
      (mAI h v0 (v3 + (2 : Int32))).bind fun x191 =>
      (mAI h v0 (v3 + (3 : Int32))).bind fun x192 =>
      (mAI h v0 (v3 + (4 : Int32))).bind fun x193 =>
      (f_X9_block v2 x190 x191 x192 x193 h).bind fun x194 =>
      if x189 = x194 then
        some (Sum.inl ((v3 + 7), h))
      else
        some (Sum.inr ((0 : Int32), h))
    else
    if (x2 &&& (63 : Int32)) = 33 then
      (mAI h v0 (v3 + (1 : Int32))).bind fun x196 =>
      (mAI h v0 (v3 + (2 : Int32))).bind fun x197 =>
      (mAI h v0 (v3 + (3 : Int32))).bind fun x198 =>
      (mAI h v0 (v3 + (4 : Int32))).bind fun x199 =>
      (f_X8_through v1 x196 x197 x198 x199 h).bind fun x200 =>
      (mAI h v0 (v3 + (1 : Int32))).bind fun x201 =>
      (mAI h v0 (v3 + (2 : Int32))).bind fun x202 =>
      (mAI h v0 (v3 + (3 : Int32))).bind fun x203 =>
      (mAI h v0 (v3 + (4 : Int32))).bind fun x204 =>
      (f_X9_through v2 x201 x202 x203 x204 h).bind fun x205 =>
      if x200 = x205 then
        some (Sum.inl ((v3 + 7), h))
      else
        some (Sum.inr ((0 : Int32), h))
    else
    if (x2 &&& (63 : Int32)) = 34 then
      (mAI h v0 (v3 + (1 : Int32))).bind fun x207 =>
      (mAI h v0 (v3 + (2 : Int32))).bind fun x208 =>
      (mAI h v0 (v3 + (3 : Int32))).bind fun x209 =>
      (f_X8_halves v1 x207 x208 x209 h).bind fun x210 =>
      (mAI h v0 (v3 + (1 : Int32))).bind fun x211 =>
      (mAI h v0 (v3 + (2 : Int32))).bind fun x212 =>
      (mAI h v0 (v3 + (3 : Int32))).bind fun x213 =>
      (f_X9_halves v2 x211 x212 x213 h).bind fun x214 =>
      if x210 = x214 then
        some (Sum.inl ((v3 + 7), h))
      else
        some (Sum.inr ((0 : Int32), h))
    else
    if (x2 &&& (63 : Int32)) = 35 then
      (mAI h v0 (v3 + (1 : Int32))).bind fun x216 =>
      (mAI h v0 (v3 + (2 : Int32))).bind fun x217 =>
      (mAI h v0 (v3 + (3 : Int32))).bind fun x218 =>
      (f_X8_nearest v1 x216 x217 x218 h).bind fun x219 =>
      (mAI h v0 (v3 + (1 : Int32))).bind fun x220 =>
      (mAI h v0 (v3 + (2 : Int32))).bind fun x221 =>
      (mAI h v0 (v3 + (3 : Int32))).bind fun x222 =>
      (f_X9_nearest v2 x220 x221 x222 h).bind fun x223 =>
      if x219 = x223 then
        some (Sum.inl ((v3 + 7), h))
      else
        some (Sum.inr ((0 : Int32), h))
    else
    if (x2 &&& (63 : Int32)) = 36 then
      (mAI h v0 (v3 + (1 : Int32))).bind fun x225 =>
      (mAI h v0 (v3 + (2 : Int32))).bind fun x226 =>
      (f_X8_signal v1 x225 x226 h).bind fun x227 =>
      (mAI x227.2 v0 (v3 + (1 : Int32))).bind fun x228 =>
      (mAI x227.2 v0 (v3 + (2 : Int32))).bind fun x229 =>
      (f_X9_signal v2 x228 x229 x227.2).bind fun x230 =>
      if x227.1 = x230.1 then
        some (Sum.inl ((v3 + 7), x230.2))
      else
        some (Sum.inr ((0 : Int32), x230.2))
    else
    if (x2 &&& (63 : Int32)) = 37 then
      (mAI h v0 (v3 + (1 : Int32))).bind fun x232 =>
      (mAI h v0 (v3 + (2 : Int32))).bind fun x233 =>
      (mAI h v0 (v3 + (3 : Int32))).bind fun x234 =>
      if x234 = 0 then
        f_L_law_c1719 v0 v1 v2 v3 v1 x232 x233 (0 : Int32) h
      else
        f_L_law_c1719 v0 v1 v2 v3 v1 x232 x233 (1 : Int32) h
    else
    if (x2 &&& (63 : Int32)) = 38 then
      (mAI h v0 (v3 + (1 : Int32))).bind fun x236 =>
      (mAI h v0 (v3 + (2 : Int32))).bind fun x237 =>
      (mAI h v0 (v3 + (3 : Int32))).bind fun x238 =>
      (mAI h v0 (v3 + (4 : Int32))).bind fun x239 =>
      (f_X8_field v1 x236 x237 x238 x239 h).bind fun x240 =>
      (mAI h v0 (v3 + (1 : Int32))).bind fun x241 =>
      (mAI h v0 (v3 + (2 : Int32))).bind fun x242 =>
      (mAI h v0 (v3 + (3 : Int32))).bind fun x243 =>
      (mAI h v0 (v3 + (4 : Int32))).bind fun x244 =>
      (f_X9_field v2 x241 x242 x243 x244 h).bind fun x245 =>
      if x240 = x245 then
        some (Sum.inl ((v3 + 7), h))
      else
        some (Sum.inr ((0 : Int32), h))
    else
    if (x2 &&& (63 : Int32)) = 39 then
      (mAI h v0 (v3 + (1 : Int32))).bind fun x247 =>
      (mAI h v0 (v3 + (2 : Int32))).bind fun x248 =>
      (mAI h v0 (v3 + (3 : Int32))).bind fun x249 =>
      (f_X8_fours v1 x247 x248 x249 h).bind fun x250 =>
      (mAI x250.2 v0 (v3 + (1 : Int32))).bind fun x251 =>
      (mAI x250.2 v0 (v3 + (2 : Int32))).bind fun x252 =>
      (mAI x250.2 v0 (v3 + (3 : Int32))).bind fun x253 =>
      (f_X9_fours v2 x251 x252 x253 x250.2).bind fun x254 =>
      if x250.1 = x254.1 then
        some (Sum.inl ((v3 + 7), x254.2))
      else
        some (Sum.inr ((0 : Int32), x254.2))
    else
    if (x2 &&& (63 : Int32)) = 40 then
      (mAI h v0 (v3 + (1 : Int32))).bind fun x256 =>
      (f_X8_count v1 x256 h).bind fun x257 =>
      (mAI h v0 (v3 + (1 : Int32))).bind fun x258 =>
      (f_X9_count v2 x258 h).bind fun x259 =>
      if x257 = x259.1 then
        some (Sum.inl ((v3 + 7), x259.2))
      else
        some (Sum.inr ((0 : Int32), x259.2))
    else
    some (Sum.inl ((v3 + 7), h))
set_option maxRecDepth 100000 in
set_option maxHeartbeats 4000000 in
theorem g_L_law_b18 {w : mWp} {Q : Option Value → mH → Prop} (v0 : Option Nat) (v1 : Option Nat) (v2 : Option Nat) (v3 : Int32) (h : mH) {res : (Int32 × mH) ⊕ (Int32 × mH)} (e : f_L_law_b18 v0 v1 v2 v3 h = some res) (q : (Sum.elim (fun x : Int32 × mH => mGo w kL_law 72 4414 18 [some (va_rf v0), some (va_rf v1), some (va_rf v2), some (.int x.1)] [] x.2 Q) (fun r : Int32 × mH => Q (some (.int r.1)) r.2)) res) : mGo w kL_law 72 4414 18 [some (va_rf v0), some (va_rf v1), some (va_rf v2), some (.int v3)] [] h Q := by
  unfold f_L_law_b18 at e
  refine mGo.iload_n (n := 19) (x := v3) dL_law_18 rfl rfl ?_
  refine mGo.aload_n (n := 20) (r := v0) dL_law_19 rfl rfl ?_
  obtain ⟨x1, e_x1, e⟩ := mBind e
  refine mGo.alen (n := 21) dL_law_20 e_x1 rfl ?_
  refine mGo.bipush (n := 23) (v := (7 : Int32)) dL_law_21 (by decide) rfl ?_
  refine mGo.isub (n := 24) dL_law_23 rfl ?_
  refine mGo.icmp_gt (tgt := 1879) (n := 27) dL_law_24 (by decide) rfl (fun hc => ?_) (fun hc => ?_)
  · replace e := mIft hc e
    refine mGo.iconst (n := 1880) (v := (1 : Int32)) dL_law_1879 (by decide) rfl ?_
    cases e
    exact mGo.zret dL_law_1880 rfl (by decide) (Nat.le_of_ble_eq_true rfl) (Nat.le_of_ble_eq_true rfl) q
  · replace e := mIff hc e
    refine mGo.aload_n (n := 28) (r := v0) dL_law_27 rfl rfl ?_
    refine mGo.iload_n (n := 29) (x := v3) dL_law_28 rfl rfl ?_
    obtain ⟨x2, e_x2, e⟩ := mBind e
    refine mGo.iald (n := 30) dL_law_29 e_x2 rfl ?_
    refine mGo.bipush (n := 32) (v := (63 : Int32)) dL_law_30 (by decide) rfl ?_
    refine mGo.iand (n := 33) dL_law_32 rfl ?_
    by_cases hc3 : (x2 &&& (63 : Int32)) = 0
    · replace e := mIft hc3 e
      refine mGo.tcase (v := 0) (tgt := 212) hc3 dL_law_33 (by decide) (by decide) (off := 179) (by decide) (by decide) ?_
      refine mGo.aload_n (n := 213) (r := v1) dL_law_212 rfl rfl ?_
      refine mGo.aload_n (n := 214) (r := v0) dL_law_213 rfl rfl ?_
      refine mGo.iload_n (n := 215) (x := v3) dL_law_214 rfl rfl ?_
      refine mGo.iconst (n := 216) (v := (1 : Int32)) dL_law_215 (by decide) rfl ?_
      refine mGo.iadd (n := 217) dL_law_216 rfl ?_
      obtain ⟨x4, e_x4, e⟩ := mBind e
      refine mGo.iald (n := 218) dL_law_217 e_x4 rfl ?_
      obtain ⟨x5, e_x5, e⟩ := mBind e
      refine mGo.callV (n := 221) (y := zX8_tell) (R' := (mRoom (1) 0 0)) (as := [.int x4]) (st := []) (r0 := v1) dL_law_218 sc_RL_13 rfl (s_X8_tell v1 x4 h e_x5) (e_X8_tell v1 x4 h e_x5) ⟨⟨(Nat.le_of_ble_eq_true rfl), (Nat.le_of_ble_eq_true rfl)⟩, (Nat.le_of_ble_eq_true rfl), (Nat.le_of_ble_eq_true rfl)⟩ (Nat.le_of_ble_eq_true rfl) rfl rfl ?_
      intro _ _ hq
      rw [hq.1, hq.2]
      show mGo w kL_law 72 4414 221 [some (va_rf v0), some (va_rf v1), some (va_rf v2), some (.int v3)] [.int x5.1] x5.2 Q
      refine mGo.aload_n (n := 222) (r := v2) dL_law_221 rfl rfl ?_
      refine mGo.aload_n (n := 223) (r := v0) dL_law_222 rfl rfl ?_
      refine mGo.iload_n (n := 224) (x := v3) dL_law_223 rfl rfl ?_
      refine mGo.iconst (n := 225) (v := (1 : Int32)) dL_law_224 (by decide) rfl ?_
      refine mGo.iadd (n := 226) dL_law_225 rfl ?_
      obtain ⟨x6, e_x6, e⟩ := mBind e
      refine mGo.iald (n := 227) dL_law_226 e_x6 rfl ?_
      obtain ⟨x7, e_x7, e⟩ := mBind e
      refine mGo.callV (n := 230) (y := zX9_tell) (R' := (mRoom (2) 0 0)) (as := [.int x6]) (st := [.int x5.1]) (r0 := v2) dL_law_227 sc_RL_17 rfl (s_X9_tell v2 x6 x5.2 e_x7) (e_X9_tell v2 x6 x5.2 e_x7) ⟨⟨(Nat.le_of_ble_eq_true rfl), (Nat.le_of_ble_eq_true rfl)⟩, (Nat.le_of_ble_eq_true rfl), (Nat.le_of_ble_eq_true rfl)⟩ (Nat.le_of_ble_eq_true rfl) rfl rfl ?_
      intro _ _ hq
      rw [hq.1, hq.2]
      show mGo w kL_law 72 4414 230 [some (va_rf v0), some (va_rf v1), some (va_rf v2), some (.int v3)] [.int x7.1, .int x5.1] x7.2 Q
      refine mGo.icmp_eq (tgt := 1873) (n := 233) dL_law_230 (by decide) rfl (fun hc => ?_) (fun hc => ?_)
      · replace e := mIft hc e
        refine mGo.iinc (n := 1876) (x := v3) (v := (v3 + 7)) (ls' := [some (va_rf v0), some (va_rf v1), some (va_rf v2), some (.int (v3 + 7))]) dL_law_1873 rfl rfl ((mSt_set (fun u _ hu => by cases hu; exact mRfc _)).trans rfl) (Nat.le_of_ble_eq_true rfl) rfl ?_
        refine mGo.goto (tgt := 18) dL_law_1876 (by decide) ?_
        cases e
        refine mGo.mk [true, true, true, true] ?_
        exact q
      · replace e := mIff hc e
        refine mGo.iconst (n := 234) (v := (0 : Int32)) dL_law_233 (by decide) rfl ?_
        cases e
        exact mGo.zret dL_law_234 rfl (by decide) (Nat.le_of_ble_eq_true rfl) (Nat.le_of_ble_eq_true rfl) q
    replace e := mIff hc3 e
    by_cases hc8 : (x2 &&& (63 : Int32)) = 1
    · replace e := mIft hc8 e
      refine mGo.tcase (v := 1) (tgt := 235) hc8 dL_law_33 (by decide) (by decide) (off := 202) (by decide) (by decide) ?_
      refine mGo.aload_n (n := 236) (r := v1) dL_law_235 rfl rfl ?_
      obtain ⟨x9, e_x9, e⟩ := mBind e
      refine mGo.callV (n := 239) (y := zX8_take) (R' := (mRoom (4) 0 0)) (as := []) (st := []) (r0 := v1) dL_law_236 sc_RL_18 rfl (s_X8_take v1 h e_x9) (e_X8_take v1 h e_x9) ⟨⟨(Nat.le_of_ble_eq_true rfl), (Nat.le_of_ble_eq_true rfl)⟩, (Nat.le_of_ble_eq_true rfl), (Nat.le_of_ble_eq_true rfl)⟩ (Nat.le_of_ble_eq_true rfl) rfl rfl ?_
      intro _ _ hq
      rw [hq.1, hq.2]
      show mGo w kL_law 72 4414 239 [some (va_rf v0), some (va_rf v1), some (va_rf v2), some (.int v3)] [.int x9.1] x9.2 Q
      refine mGo.aload_n (n := 240) (r := v2) dL_law_239 rfl rfl ?_
      obtain ⟨x10, e_x10, e⟩ := mBind e
      refine mGo.callV (n := 243) (y := zX9_take) (R' := (mRoom (3) 0 0)) (as := []) (st := [.int x9.1]) (r0 := v2) dL_law_240 sc_RL_22 rfl (s_X9_take v2 x9.2 e_x10) (e_X9_take v2 x9.2 e_x10) ⟨⟨(Nat.le_of_ble_eq_true rfl), (Nat.le_of_ble_eq_true rfl)⟩, (Nat.le_of_ble_eq_true rfl), (Nat.le_of_ble_eq_true rfl)⟩ (Nat.le_of_ble_eq_true rfl) rfl rfl ?_
      intro _ _ hq
      rw [hq.1, hq.2]
      show mGo w kL_law 72 4414 243 [some (va_rf v0), some (va_rf v1), some (va_rf v2), some (.int v3)] [.int x10.1, .int x9.1] x10.2 Q
      refine mGo.icmp_eq (tgt := 1873) (n := 246) dL_law_243 (by decide) rfl (fun hc => ?_) (fun hc => ?_)
      · replace e := mIft hc e
        refine mGo.iinc (n := 1876) (x := v3) (v := (v3 + 7)) (ls' := [some (va_rf v0), some (va_rf v1), some (va_rf v2), some (.int (v3 + 7))]) dL_law_1873 rfl rfl ((mSt_set (fun u _ hu => by cases hu; exact mRfc _)).trans rfl) (Nat.le_of_ble_eq_true rfl) rfl ?_
        refine mGo.goto (tgt := 18) dL_law_1876 (by decide) ?_
        cases e
        refine mGo.mk [true, true, true, true] ?_
        exact q
      · replace e := mIff hc e
        refine mGo.iconst (n := 247) (v := (0 : Int32)) dL_law_246 (by decide) rfl ?_
        cases e
        exact mGo.zret dL_law_247 rfl (by decide) (Nat.le_of_ble_eq_true rfl) (Nat.le_of_ble_eq_true rfl) q
    replace e := mIff hc8 e
    by_cases hc11 : (x2 &&& (63 : Int32)) = 2
    · replace e := mIft hc11 e
      refine mGo.tcase (v := 2) (tgt := 248) hc11 dL_law_33 (by decide) (by decide) (off := 215) (by decide) (by decide) ?_
      refine mGo.aload_n (n := 249) (r := v1) dL_law_248 rfl rfl ?_
      refine mGo.aload_n (n := 250) (r := v0) dL_law_249 rfl rfl ?_
      refine mGo.iload_n (n := 251) (x := v3) dL_law_250 rfl rfl ?_
      refine mGo.iconst (n := 252) (v := (1 : Int32)) dL_law_251 (by decide) rfl ?_
      refine mGo.iadd (n := 253) dL_law_252 rfl ?_
      obtain ⟨x12, e_x12, e⟩ := mBind e
      refine mGo.iald (n := 254) dL_law_253 e_x12 rfl ?_
      obtain ⟨x13, e_x13, e⟩ := mBind e
      refine mGo.callV (n := 257) (y := zX8_residues) (R' := (mRoom (5) 0 0)) (as := [.int x12]) (st := []) (r0 := v1) dL_law_254 sc_RL_23 rfl (s_X8_residues v1 x12 h e_x13) (e_X8_residues v1 x12 h e_x13) ⟨⟨(Nat.le_of_ble_eq_true rfl), (Nat.le_of_ble_eq_true rfl)⟩, (Nat.le_of_ble_eq_true rfl), (Nat.le_of_ble_eq_true rfl)⟩ (Nat.le_of_ble_eq_true rfl) rfl rfl ?_
      intro _ _ hq
      rw [hq.1, hq.2]
      show mGo w kL_law 72 4414 257 [some (va_rf v0), some (va_rf v1), some (va_rf v2), some (.int v3)] [.int x13.1] x13.2 Q
      refine mGo.aload_n (n := 258) (r := v2) dL_law_257 rfl rfl ?_
      refine mGo.aload_n (n := 259) (r := v0) dL_law_258 rfl rfl ?_
      refine mGo.iload_n (n := 260) (x := v3) dL_law_259 rfl rfl ?_
      refine mGo.iconst (n := 261) (v := (1 : Int32)) dL_law_260 (by decide) rfl ?_
      refine mGo.iadd (n := 262) dL_law_261 rfl ?_
      obtain ⟨x14, e_x14, e⟩ := mBind e
      refine mGo.iald (n := 263) dL_law_262 e_x14 rfl ?_
      obtain ⟨x15, e_x15, e⟩ := mBind e
      refine mGo.callV (n := 266) (y := zX9_residues) (R' := (mRoom (5) 0 0)) (as := [.int x14]) (st := [.int x13.1]) (r0 := v2) dL_law_263 sc_RL_26 rfl (s_X9_residues v2 x14 x13.2 e_x15) (e_X9_residues v2 x14 x13.2 e_x15) ⟨⟨(Nat.le_of_ble_eq_true rfl), (Nat.le_of_ble_eq_true rfl)⟩, (Nat.le_of_ble_eq_true rfl), (Nat.le_of_ble_eq_true rfl)⟩ (Nat.le_of_ble_eq_true rfl) rfl rfl ?_
      intro _ _ hq
      rw [hq.1, hq.2]
      show mGo w kL_law 72 4414 266 [some (va_rf v0), some (va_rf v1), some (va_rf v2), some (.int v3)] [.int x15.1, .int x13.1] x15.2 Q
      refine mGo.icmp_eq (tgt := 1873) (n := 269) dL_law_266 (by decide) rfl (fun hc => ?_) (fun hc => ?_)
      · replace e := mIft hc e
        refine mGo.iinc (n := 1876) (x := v3) (v := (v3 + 7)) (ls' := [some (va_rf v0), some (va_rf v1), some (va_rf v2), some (.int (v3 + 7))]) dL_law_1873 rfl rfl ((mSt_set (fun u _ hu => by cases hu; exact mRfc _)).trans rfl) (Nat.le_of_ble_eq_true rfl) rfl ?_
        refine mGo.goto (tgt := 18) dL_law_1876 (by decide) ?_
        cases e
        refine mGo.mk [true, true, true, true] ?_
        exact q
      · replace e := mIff hc e
        refine mGo.iconst (n := 270) (v := (0 : Int32)) dL_law_269 (by decide) rfl ?_
        cases e
        exact mGo.zret dL_law_270 rfl (by decide) (Nat.le_of_ble_eq_true rfl) (Nat.le_of_ble_eq_true rfl) q
    replace e := mIff hc11 e
    by_cases hc16 : (x2 &&& (63 : Int32)) = 3
    · replace e := mIft hc16 e
      refine mGo.tcase (v := 3) (tgt := 271) hc16 dL_law_33 (by decide) (by decide) (off := 238) (by decide) (by decide) ?_
      refine mGo.aload_n (n := 272) (r := v1) dL_law_271 rfl rfl ?_
      refine mGo.aload_n (n := 273) (r := v0) dL_law_272 rfl rfl ?_
      refine mGo.iload_n (n := 274) (x := v3) dL_law_273 rfl rfl ?_
      refine mGo.iconst (n := 275) (v := (1 : Int32)) dL_law_274 (by decide) rfl ?_
      refine mGo.iadd (n := 276) dL_law_275 rfl ?_
      obtain ⟨x17, e_x17, e⟩ := mBind e
      refine mGo.iald (n := 277) dL_law_276 e_x17 rfl ?_
      obtain ⟨x18, e_x18, e⟩ := mBind e
      refine mGo.callV (n := 280) (y := zX8_twice) (R' := (mRoom (5) 0 0)) (as := [.int x17]) (st := []) (r0 := v1) dL_law_277 sc_RL_27 rfl (s_X8_twice v1 x17 h e_x18) (e_X8_twice v1 x17 h e_x18) ⟨⟨(Nat.le_of_ble_eq_true rfl), (Nat.le_of_ble_eq_true rfl)⟩, (Nat.le_of_ble_eq_true rfl), (Nat.le_of_ble_eq_true rfl)⟩ (Nat.le_of_ble_eq_true rfl) rfl rfl ?_
      intro _ _ hq
      rw [hq.1, hq.2]
      show mGo w kL_law 72 4414 280 [some (va_rf v0), some (va_rf v1), some (va_rf v2), some (.int v3)] [.int x18.1] x18.2 Q
      refine mGo.aload_n (n := 281) (r := v2) dL_law_280 rfl rfl ?_
      refine mGo.aload_n (n := 282) (r := v0) dL_law_281 rfl rfl ?_
      refine mGo.iload_n (n := 283) (x := v3) dL_law_282 rfl rfl ?_
      refine mGo.iconst (n := 284) (v := (1 : Int32)) dL_law_283 (by decide) rfl ?_
      refine mGo.iadd (n := 285) dL_law_284 rfl ?_
      obtain ⟨x19, e_x19, e⟩ := mBind e
      refine mGo.iald (n := 286) dL_law_285 e_x19 rfl ?_
      obtain ⟨x20, e_x20, e⟩ := mBind e
      refine mGo.callV (n := 289) (y := zX9_twice) (R' := (mRoom (6) 0 0)) (as := [.int x19]) (st := [.int x18.1]) (r0 := v2) dL_law_286 sc_RL_30 rfl (s_X9_twice v2 x19 x18.2 e_x20) (e_X9_twice v2 x19 x18.2 e_x20) ⟨⟨(Nat.le_of_ble_eq_true rfl), (Nat.le_of_ble_eq_true rfl)⟩, (Nat.le_of_ble_eq_true rfl), (Nat.le_of_ble_eq_true rfl)⟩ (Nat.le_of_ble_eq_true rfl) rfl rfl ?_
      intro _ _ hq
      rw [hq.1, hq.2]
      show mGo w kL_law 72 4414 289 [some (va_rf v0), some (va_rf v1), some (va_rf v2), some (.int v3)] [.int x20.1, .int x18.1] x20.2 Q
      refine mGo.icmp_eq (tgt := 1873) (n := 292) dL_law_289 (by decide) rfl (fun hc => ?_) (fun hc => ?_)
      · replace e := mIft hc e
        refine mGo.iinc (n := 1876) (x := v3) (v := (v3 + 7)) (ls' := [some (va_rf v0), some (va_rf v1), some (va_rf v2), some (.int (v3 + 7))]) dL_law_1873 rfl rfl ((mSt_set (fun u _ hu => by cases hu; exact mRfc _)).trans rfl) (Nat.le_of_ble_eq_true rfl) rfl ?_
        refine mGo.goto (tgt := 18) dL_law_1876 (by decide) ?_
        cases e
        refine mGo.mk [true, true, true, true] ?_
        exact q
      · replace e := mIff hc e
        refine mGo.iconst (n := 293) (v := (0 : Int32)) dL_law_292 (by decide) rfl ?_
        cases e
        exact mGo.zret dL_law_293 rfl (by decide) (Nat.le_of_ble_eq_true rfl) (Nat.le_of_ble_eq_true rfl) q
    replace e := mIff hc16 e
    by_cases hc21 : (x2 &&& (63 : Int32)) = 4
    · replace e := mIft hc21 e
      refine mGo.tcase (v := 4) (tgt := 294) hc21 dL_law_33 (by decide) (by decide) (off := 261) (by decide) (by decide) ?_
      refine mGo.aload_n (n := 295) (r := v1) dL_law_294 rfl rfl ?_
      refine mGo.aload_n (n := 296) (r := v0) dL_law_295 rfl rfl ?_
      refine mGo.iload_n (n := 297) (x := v3) dL_law_296 rfl rfl ?_
      refine mGo.iconst (n := 298) (v := (1 : Int32)) dL_law_297 (by decide) rfl ?_
      refine mGo.iadd (n := 299) dL_law_298 rfl ?_
      obtain ⟨x22, e_x22, e⟩ := mBind e
      refine mGo.iald (n := 300) dL_law_299 e_x22 rfl ?_
      obtain ⟨x23, e_x23, e⟩ := mBind e
      refine mGo.callV (n := 303) (y := zX8_doubled) (R' := (mRoom (3) 0 0)) (as := [.int x22]) (st := []) (r0 := v1) dL_law_300 sc_RL_31 rfl (s_X8_doubled v1 x22 h e_x23) (e_X8_doubled v1 x22 h e_x23) ⟨⟨(Nat.le_of_ble_eq_true rfl), (Nat.le_of_ble_eq_true rfl)⟩, (Nat.le_of_ble_eq_true rfl), (Nat.le_of_ble_eq_true rfl)⟩ (Nat.le_of_ble_eq_true rfl) rfl rfl ?_
      intro _ _ hq
      rw [hq.1, hq.2]
      show mGo w kL_law 72 4414 303 [some (va_rf v0), some (va_rf v1), some (va_rf v2), some (.int v3)] [.int x23.1] x23.2 Q
      refine mGo.aload_n (n := 304) (r := v2) dL_law_303 rfl rfl ?_
      refine mGo.aload_n (n := 305) (r := v0) dL_law_304 rfl rfl ?_
      refine mGo.iload_n (n := 306) (x := v3) dL_law_305 rfl rfl ?_
      refine mGo.iconst (n := 307) (v := (1 : Int32)) dL_law_306 (by decide) rfl ?_
      refine mGo.iadd (n := 308) dL_law_307 rfl ?_
      obtain ⟨x24, e_x24, e⟩ := mBind e
      refine mGo.iald (n := 309) dL_law_308 e_x24 rfl ?_
      obtain ⟨x25, e_x25, e⟩ := mBind e
      refine mGo.callV (n := 312) (y := zX9_doubled) (R' := (mRoom (3) 0 0)) (as := [.int x24]) (st := [.int x23.1]) (r0 := v2) dL_law_309 sc_RL_34 rfl (s_X9_doubled v2 x24 x23.2 e_x25) (e_X9_doubled v2 x24 x23.2 e_x25) ⟨⟨(Nat.le_of_ble_eq_true rfl), (Nat.le_of_ble_eq_true rfl)⟩, (Nat.le_of_ble_eq_true rfl), (Nat.le_of_ble_eq_true rfl)⟩ (Nat.le_of_ble_eq_true rfl) rfl rfl ?_
      intro _ _ hq
      rw [hq.1, hq.2]
      show mGo w kL_law 72 4414 312 [some (va_rf v0), some (va_rf v1), some (va_rf v2), some (.int v3)] [.int x25.1, .int x23.1] x25.2 Q
      refine mGo.icmp_eq (tgt := 1873) (n := 315) dL_law_312 (by decide) rfl (fun hc => ?_) (fun hc => ?_)
      · replace e := mIft hc e
        refine mGo.iinc (n := 1876) (x := v3) (v := (v3 + 7)) (ls' := [some (va_rf v0), some (va_rf v1), some (va_rf v2), some (.int (v3 + 7))]) dL_law_1873 rfl rfl ((mSt_set (fun u _ hu => by cases hu; exact mRfc _)).trans rfl) (Nat.le_of_ble_eq_true rfl) rfl ?_
        refine mGo.goto (tgt := 18) dL_law_1876 (by decide) ?_
        cases e
        refine mGo.mk [true, true, true, true] ?_
        exact q
      · replace e := mIff hc e
        refine mGo.iconst (n := 316) (v := (0 : Int32)) dL_law_315 (by decide) rfl ?_
        cases e
        exact mGo.zret dL_law_316 rfl (by decide) (Nat.le_of_ble_eq_true rfl) (Nat.le_of_ble_eq_true rfl) q
    replace e := mIff hc21 e
    by_cases hc26 : (x2 &&& (63 : Int32)) = 5
    · replace e := mIft hc26 e
      refine mGo.tcase (v := 5) (tgt := 317) hc26 dL_law_33 (by decide) (by decide) (off := 284) (by decide) (by decide) ?_
      refine mGo.aload_n (n := 318) (r := v1) dL_law_317 rfl rfl ?_
      refine mGo.aload_n (n := 319) (r := v0) dL_law_318 rfl rfl ?_
      refine mGo.iload_n (n := 320) (x := v3) dL_law_319 rfl rfl ?_
      refine mGo.iconst (n := 321) (v := (1 : Int32)) dL_law_320 (by decide) rfl ?_
      refine mGo.iadd (n := 322) dL_law_321 rfl ?_
      obtain ⟨x27, e_x27, e⟩ := mBind e
      refine mGo.iald (n := 323) dL_law_322 e_x27 rfl ?_
      refine mGo.aload_n (n := 324) (r := v0) dL_law_323 rfl rfl ?_
      refine mGo.iload_n (n := 325) (x := v3) dL_law_324 rfl rfl ?_
      refine mGo.iconst (n := 326) (v := (2 : Int32)) dL_law_325 (by decide) rfl ?_
      refine mGo.iadd (n := 327) dL_law_326 rfl ?_
      obtain ⟨x28, e_x28, e⟩ := mBind e
      refine mGo.iald (n := 328) dL_law_327 e_x28 rfl ?_
      obtain ⟨x29, e_x29, e⟩ := mBind e
      refine mGo.callV (n := 331) (y := zX8_product) (R' := (mRoom (4) 0 0)) (as := [.int x27, .int x28]) (st := []) (r0 := v1) dL_law_328 sc_RL_35 rfl (s_X8_product v1 x27 x28 h e_x29) (e_X8_product v1 x27 x28 h e_x29) ⟨⟨(Nat.le_of_ble_eq_true rfl), (Nat.le_of_ble_eq_true rfl)⟩, (Nat.le_of_ble_eq_true rfl), (Nat.le_of_ble_eq_true rfl)⟩ (Nat.le_of_ble_eq_true rfl) rfl rfl ?_
      intro _ _ hq
      rw [hq.1, hq.2]
      show mGo w kL_law 72 4414 331 [some (va_rf v0), some (va_rf v1), some (va_rf v2), some (.int v3)] [.int x29.1] x29.2 Q
      refine mGo.aload_n (n := 332) (r := v2) dL_law_331 rfl rfl ?_
      refine mGo.aload_n (n := 333) (r := v0) dL_law_332 rfl rfl ?_
      refine mGo.iload_n (n := 334) (x := v3) dL_law_333 rfl rfl ?_
      refine mGo.iconst (n := 335) (v := (1 : Int32)) dL_law_334 (by decide) rfl ?_
      refine mGo.iadd (n := 336) dL_law_335 rfl ?_
      obtain ⟨x30, e_x30, e⟩ := mBind e
      refine mGo.iald (n := 337) dL_law_336 e_x30 rfl ?_
      refine mGo.aload_n (n := 338) (r := v0) dL_law_337 rfl rfl ?_
      refine mGo.iload_n (n := 339) (x := v3) dL_law_338 rfl rfl ?_
      refine mGo.iconst (n := 340) (v := (2 : Int32)) dL_law_339 (by decide) rfl ?_
      refine mGo.iadd (n := 341) dL_law_340 rfl ?_
      obtain ⟨x31, e_x31, e⟩ := mBind e
      refine mGo.iald (n := 342) dL_law_341 e_x31 rfl ?_
      obtain ⟨x32, e_x32, e⟩ := mBind e
      refine mGo.callV (n := 345) (y := zX9_product) (R' := (mRoom (3) 0 0)) (as := [.int x30, .int x31]) (st := [.int x29.1]) (r0 := v2) dL_law_342 sc_RL_39 rfl (s_X9_product v2 x30 x31 x29.2 e_x32) (e_X9_product v2 x30 x31 x29.2 e_x32) ⟨⟨(Nat.le_of_ble_eq_true rfl), (Nat.le_of_ble_eq_true rfl)⟩, (Nat.le_of_ble_eq_true rfl), (Nat.le_of_ble_eq_true rfl)⟩ (Nat.le_of_ble_eq_true rfl) rfl rfl ?_
      intro _ _ hq
      rw [hq.1, hq.2]
      show mGo w kL_law 72 4414 345 [some (va_rf v0), some (va_rf v1), some (va_rf v2), some (.int v3)] [.int x32.1, .int x29.1] x32.2 Q
      refine mGo.icmp_eq (tgt := 1873) (n := 348) dL_law_345 (by decide) rfl (fun hc => ?_) (fun hc => ?_)
      · replace e := mIft hc e
        refine mGo.iinc (n := 1876) (x := v3) (v := (v3 + 7)) (ls' := [some (va_rf v0), some (va_rf v1), some (va_rf v2), some (.int (v3 + 7))]) dL_law_1873 rfl rfl ((mSt_set (fun u _ hu => by cases hu; exact mRfc _)).trans rfl) (Nat.le_of_ble_eq_true rfl) rfl ?_
        refine mGo.goto (tgt := 18) dL_law_1876 (by decide) ?_
        cases e
        refine mGo.mk [true, true, true, true] ?_
        exact q
      · replace e := mIff hc e
        refine mGo.iconst (n := 349) (v := (0 : Int32)) dL_law_348 (by decide) rfl ?_
        cases e
        exact mGo.zret dL_law_349 rfl (by decide) (Nat.le_of_ble_eq_true rfl) (Nat.le_of_ble_eq_true rfl) q
    replace e := mIff hc26 e
    by_cases hc33 : (x2 &&& (63 : Int32)) = 6
    · replace e := mIft hc33 e
      refine mGo.tcase (v := 6) (tgt := 350) hc33 dL_law_33 (by decide) (by decide) (off := 317) (by decide) (by decide) ?_
      refine mGo.aload_n (n := 351) (r := v1) dL_law_350 rfl rfl ?_
      refine mGo.aload_n (n := 352) (r := v0) dL_law_351 rfl rfl ?_
      refine mGo.iload_n (n := 353) (x := v3) dL_law_352 rfl rfl ?_
      refine mGo.iconst (n := 354) (v := (1 : Int32)) dL_law_353 (by decide) rfl ?_
      refine mGo.iadd (n := 355) dL_law_354 rfl ?_
      obtain ⟨x34, e_x34, e⟩ := mBind e
      refine mGo.iald (n := 356) dL_law_355 e_x34 rfl ?_
      refine mGo.aload_n (n := 357) (r := v0) dL_law_356 rfl rfl ?_
      refine mGo.iload_n (n := 358) (x := v3) dL_law_357 rfl rfl ?_
      refine mGo.iconst (n := 359) (v := (2 : Int32)) dL_law_358 (by decide) rfl ?_
      refine mGo.iadd (n := 360) dL_law_359 rfl ?_
      obtain ⟨x35, e_x35, e⟩ := mBind e
      refine mGo.iald (n := 361) dL_law_360 e_x35 rfl ?_
      refine mGo.aload_n (n := 362) (r := v0) dL_law_361 rfl rfl ?_
      refine mGo.iload_n (n := 363) (x := v3) dL_law_362 rfl rfl ?_
      refine mGo.iconst (n := 364) (v := (3 : Int32)) dL_law_363 (by decide) rfl ?_
      refine mGo.iadd (n := 365) dL_law_364 rfl ?_
      obtain ⟨x36, e_x36, e⟩ := mBind e
      refine mGo.iald (n := 366) dL_law_365 e_x36 rfl ?_
      refine mGo.aload_n (n := 367) (r := v0) dL_law_366 rfl rfl ?_
      refine mGo.iload_n (n := 368) (x := v3) dL_law_367 rfl rfl ?_
      refine mGo.iconst (n := 369) (v := (4 : Int32)) dL_law_368 (by decide) rfl ?_
      refine mGo.iadd (n := 370) dL_law_369 rfl ?_
      obtain ⟨x37, e_x37, e⟩ := mBind e
      refine mGo.iald (n := 371) dL_law_370 e_x37 rfl ?_
      refine mGo.aload_n (n := 372) (r := v0) dL_law_371 rfl rfl ?_
      refine mGo.iload_n (n := 373) (x := v3) dL_law_372 rfl rfl ?_
      refine mGo.iconst (n := 374) (v := (5 : Int32)) dL_law_373 (by decide) rfl ?_
      refine mGo.iadd (n := 375) dL_law_374 rfl ?_
      obtain ⟨x38, e_x38, e⟩ := mBind e
      refine mGo.iald (n := 376) dL_law_375 e_x38 rfl ?_
      obtain ⟨x39, e_x39, e⟩ := mBind e
      refine mGo.callV (n := 379) (y := zX8_four) (R' := (mRoom (3) 0 0)) (as := [.int x34, .int x35, .int x36, .int x37, .int x38]) (st := []) (r0 := v1) dL_law_376 sc_RL_40 rfl (s_X8_four v1 x34 x35 x36 x37 x38 h e_x39) (e_X8_four v1 x34 x35 x36 x37 x38 h e_x39) ⟨⟨(Nat.le_of_ble_eq_true rfl), (Nat.le_of_ble_eq_true rfl)⟩, (Nat.le_of_ble_eq_true rfl), (Nat.le_of_ble_eq_true rfl)⟩ (Nat.le_of_ble_eq_true rfl) rfl rfl ?_
      intro _ _ hq
      rw [hq.1, hq.2]
      show mGo w kL_law 72 4414 379 [some (va_rf v0), some (va_rf v1), some (va_rf v2), some (.int v3)] [.int x39.1] x39.2 Q
      refine mGo.aload_n (n := 380) (r := v2) dL_law_379 rfl rfl ?_
      refine mGo.aload_n (n := 381) (r := v0) dL_law_380 rfl rfl ?_
      refine mGo.iload_n (n := 382) (x := v3) dL_law_381 rfl rfl ?_
      refine mGo.iconst (n := 383) (v := (1 : Int32)) dL_law_382 (by decide) rfl ?_
      refine mGo.iadd (n := 384) dL_law_383 rfl ?_
      obtain ⟨x40, e_x40, e⟩ := mBind e
      refine mGo.iald (n := 385) dL_law_384 e_x40 rfl ?_
      refine mGo.aload_n (n := 386) (r := v0) dL_law_385 rfl rfl ?_
      refine mGo.iload_n (n := 387) (x := v3) dL_law_386 rfl rfl ?_
      refine mGo.iconst (n := 388) (v := (2 : Int32)) dL_law_387 (by decide) rfl ?_
      refine mGo.iadd (n := 389) dL_law_388 rfl ?_
      obtain ⟨x41, e_x41, e⟩ := mBind e
      refine mGo.iald (n := 390) dL_law_389 e_x41 rfl ?_
      refine mGo.aload_n (n := 391) (r := v0) dL_law_390 rfl rfl ?_
      refine mGo.iload_n (n := 392) (x := v3) dL_law_391 rfl rfl ?_
      refine mGo.iconst (n := 393) (v := (3 : Int32)) dL_law_392 (by decide) rfl ?_
      refine mGo.iadd (n := 394) dL_law_393 rfl ?_
      obtain ⟨x42, e_x42, e⟩ := mBind e
      refine mGo.iald (n := 395) dL_law_394 e_x42 rfl ?_
      refine mGo.aload_n (n := 396) (r := v0) dL_law_395 rfl rfl ?_
      refine mGo.iload_n (n := 397) (x := v3) dL_law_396 rfl rfl ?_
      refine mGo.iconst (n := 398) (v := (4 : Int32)) dL_law_397 (by decide) rfl ?_
      refine mGo.iadd (n := 399) dL_law_398 rfl ?_
      obtain ⟨x43, e_x43, e⟩ := mBind e
      refine mGo.iald (n := 400) dL_law_399 e_x43 rfl ?_
      refine mGo.aload_n (n := 401) (r := v0) dL_law_400 rfl rfl ?_
      refine mGo.iload_n (n := 402) (x := v3) dL_law_401 rfl rfl ?_
      refine mGo.iconst (n := 403) (v := (5 : Int32)) dL_law_402 (by decide) rfl ?_
      refine mGo.iadd (n := 404) dL_law_403 rfl ?_
      obtain ⟨x44, e_x44, e⟩ := mBind e
      refine mGo.iald (n := 405) dL_law_404 e_x44 rfl ?_
      obtain ⟨x45, e_x45, e⟩ := mBind e
      refine mGo.callV (n := 408) (y := zX9_four) (R' := (mRoom (3) 0 0)) (as := [.int x40, .int x41, .int x42, .int x43, .int x44]) (st := [.int x39.1]) (r0 := v2) dL_law_405 sc_RL_44 rfl (s_X9_four v2 x40 x41 x42 x43 x44 x39.2 e_x45) (e_X9_four v2 x40 x41 x42 x43 x44 x39.2 e_x45) ⟨⟨(Nat.le_of_ble_eq_true rfl), (Nat.le_of_ble_eq_true rfl)⟩, (Nat.le_of_ble_eq_true rfl), (Nat.le_of_ble_eq_true rfl)⟩ (Nat.le_of_ble_eq_true rfl) rfl rfl ?_
      intro _ _ hq
      rw [hq.1, hq.2]
      show mGo w kL_law 72 4414 408 [some (va_rf v0), some (va_rf v1), some (va_rf v2), some (.int v3)] [.int x45.1, .int x39.1] x45.2 Q
      refine mGo.icmp_eq (tgt := 1873) (n := 411) dL_law_408 (by decide) rfl (fun hc => ?_) (fun hc => ?_)
      · replace e := mIft hc e
        refine mGo.iinc (n := 1876) (x := v3) (v := (v3 + 7)) (ls' := [some (va_rf v0), some (va_rf v1), some (va_rf v2), some (.int (v3 + 7))]) dL_law_1873 rfl rfl ((mSt_set (fun u _ hu => by cases hu; exact mRfc _)).trans rfl) (Nat.le_of_ble_eq_true rfl) rfl ?_
        refine mGo.goto (tgt := 18) dL_law_1876 (by decide) ?_
        cases e
        refine mGo.mk [true, true, true, true] ?_
        exact q
      · replace e := mIff hc e
        refine mGo.iconst (n := 412) (v := (0 : Int32)) dL_law_411 (by decide) rfl ?_
        cases e
        exact mGo.zret dL_law_412 rfl (by decide) (Nat.le_of_ble_eq_true rfl) (Nat.le_of_ble_eq_true rfl) q
    replace e := mIff hc33 e
    by_cases hc46 : (x2 &&& (63 : Int32)) = 7
    · replace e := mIft hc46 e
      refine mGo.tcase (v := 7) (tgt := 413) hc46 dL_law_33 (by decide) (by decide) (off := 380) (by decide) (by decide) ?_
      refine mGo.aload_n (n := 414) (r := v1) dL_law_413 rfl rfl ?_
      refine mGo.aload_n (n := 415) (r := v0) dL_law_414 rfl rfl ?_
      refine mGo.iload_n (n := 416) (x := v3) dL_law_415 rfl rfl ?_
      refine mGo.iconst (n := 417) (v := (1 : Int32)) dL_law_416 (by decide) rfl ?_
      refine mGo.iadd (n := 418) dL_law_417 rfl ?_
      obtain ⟨x47, e_x47, e⟩ := mBind e
      refine mGo.iald (n := 419) dL_law_418 e_x47 rfl ?_
      refine mGo.aload_n (n := 420) (r := v0) dL_law_419 rfl rfl ?_
      refine mGo.iload_n (n := 421) (x := v3) dL_law_420 rfl rfl ?_
      refine mGo.iconst (n := 422) (v := (2 : Int32)) dL_law_421 (by decide) rfl ?_
      refine mGo.iadd (n := 423) dL_law_422 rfl ?_
      obtain ⟨x48, e_x48, e⟩ := mBind e
      refine mGo.iald (n := 424) dL_law_423 e_x48 rfl ?_
      obtain ⟨x49, e_x49, e⟩ := mBind e
      refine mGo.callV (n := 427) (y := zX8_bordered) (R' := (mRoom (3) 0 0)) (as := [.int x47, .int x48]) (st := []) (r0 := v1) dL_law_424 sc_RL_45 rfl (s_X8_bordered v1 x47 x48 h e_x49) (e_X8_bordered v1 x47 x48 h e_x49) ⟨⟨(Nat.le_of_ble_eq_true rfl), (Nat.le_of_ble_eq_true rfl)⟩, (Nat.le_of_ble_eq_true rfl), (Nat.le_of_ble_eq_true rfl)⟩ (Nat.le_of_ble_eq_true rfl) rfl rfl ?_
      intro _ _ hq
      rw [hq.1, hq.2]
      show mGo w kL_law 72 4414 427 [some (va_rf v0), some (va_rf v1), some (va_rf v2), some (.int v3)] [.int x49.1] x49.2 Q
      refine mGo.aload_n (n := 428) (r := v2) dL_law_427 rfl rfl ?_
      refine mGo.aload_n (n := 429) (r := v0) dL_law_428 rfl rfl ?_
      refine mGo.iload_n (n := 430) (x := v3) dL_law_429 rfl rfl ?_
      refine mGo.iconst (n := 431) (v := (1 : Int32)) dL_law_430 (by decide) rfl ?_
      refine mGo.iadd (n := 432) dL_law_431 rfl ?_
      obtain ⟨x50, e_x50, e⟩ := mBind e
      refine mGo.iald (n := 433) dL_law_432 e_x50 rfl ?_
      refine mGo.aload_n (n := 434) (r := v0) dL_law_433 rfl rfl ?_
      refine mGo.iload_n (n := 435) (x := v3) dL_law_434 rfl rfl ?_
      refine mGo.iconst (n := 436) (v := (2 : Int32)) dL_law_435 (by decide) rfl ?_
      refine mGo.iadd (n := 437) dL_law_436 rfl ?_
      obtain ⟨x51, e_x51, e⟩ := mBind e
      refine mGo.iald (n := 438) dL_law_437 e_x51 rfl ?_
      obtain ⟨x52, e_x52, e⟩ := mBind e
      refine mGo.callV (n := 441) (y := zX9_bordered) (R' := (mRoom (3) 0 0)) (as := [.int x50, .int x51]) (st := [.int x49.1]) (r0 := v2) dL_law_438 sc_RL_48 rfl (s_X9_bordered v2 x50 x51 x49.2 e_x52) (e_X9_bordered v2 x50 x51 x49.2 e_x52) ⟨⟨(Nat.le_of_ble_eq_true rfl), (Nat.le_of_ble_eq_true rfl)⟩, (Nat.le_of_ble_eq_true rfl), (Nat.le_of_ble_eq_true rfl)⟩ (Nat.le_of_ble_eq_true rfl) rfl rfl ?_
      intro _ _ hq
      rw [hq.1, hq.2]
      show mGo w kL_law 72 4414 441 [some (va_rf v0), some (va_rf v1), some (va_rf v2), some (.int v3)] [.int x52.1, .int x49.1] x52.2 Q
      refine mGo.icmp_eq (tgt := 1873) (n := 444) dL_law_441 (by decide) rfl (fun hc => ?_) (fun hc => ?_)
      · replace e := mIft hc e
        refine mGo.iinc (n := 1876) (x := v3) (v := (v3 + 7)) (ls' := [some (va_rf v0), some (va_rf v1), some (va_rf v2), some (.int (v3 + 7))]) dL_law_1873 rfl rfl ((mSt_set (fun u _ hu => by cases hu; exact mRfc _)).trans rfl) (Nat.le_of_ble_eq_true rfl) rfl ?_
        refine mGo.goto (tgt := 18) dL_law_1876 (by decide) ?_
        cases e
        refine mGo.mk [true, true, true, true] ?_
        exact q
      · replace e := mIff hc e
        refine mGo.iconst (n := 445) (v := (0 : Int32)) dL_law_444 (by decide) rfl ?_
        cases e
        exact mGo.zret dL_law_445 rfl (by decide) (Nat.le_of_ble_eq_true rfl) (Nat.le_of_ble_eq_true rfl) q
    replace e := mIff hc46 e
    by_cases hc53 : (x2 &&& (63 : Int32)) = 8
    · replace e := mIft hc53 e
      refine mGo.tcase (v := 8) (tgt := 446) hc53 dL_law_33 (by decide) (by decide) (off := 413) (by decide) (by decide) ?_
      refine mGo.aload_n (n := 447) (r := v1) dL_law_446 rfl rfl ?_
      refine mGo.aload_n (n := 448) (r := v0) dL_law_447 rfl rfl ?_
      refine mGo.iload_n (n := 449) (x := v3) dL_law_448 rfl rfl ?_
      refine mGo.iconst (n := 450) (v := (1 : Int32)) dL_law_449 (by decide) rfl ?_
      refine mGo.iadd (n := 451) dL_law_450 rfl ?_
      obtain ⟨x54, e_x54, e⟩ := mBind e
      refine mGo.iald (n := 452) dL_law_451 e_x54 rfl ?_
      obtain ⟨x55, e_x55, e⟩ := mBind e
      refine mGo.callV (n := 455) (y := zX8_completed) (R' := (mRoom (25) 0 0)) (as := [.int x54]) (st := []) (r0 := v1) dL_law_452 sc_RL_49 rfl (s_X8_completed v1 x54 h e_x55) (e_X8_completed v1 x54 h e_x55) ⟨⟨(Nat.le_of_ble_eq_true rfl), (Nat.le_of_ble_eq_true rfl)⟩, (Nat.le_of_ble_eq_true rfl), (Nat.le_of_ble_eq_true rfl)⟩ (Nat.le_of_ble_eq_true rfl) rfl rfl ?_
      intro _ _ hq
      rw [hq.1, hq.2]
      show mGo w kL_law 72 4414 455 [some (va_rf v0), some (va_rf v1), some (va_rf v2), some (.int v3)] [.int x55.1] x55.2 Q
      refine mGo.aload_n (n := 456) (r := v2) dL_law_455 rfl rfl ?_
      refine mGo.aload_n (n := 457) (r := v0) dL_law_456 rfl rfl ?_
      refine mGo.iload_n (n := 458) (x := v3) dL_law_457 rfl rfl ?_
      refine mGo.iconst (n := 459) (v := (1 : Int32)) dL_law_458 (by decide) rfl ?_
      refine mGo.iadd (n := 460) dL_law_459 rfl ?_
      obtain ⟨x56, e_x56, e⟩ := mBind e
      refine mGo.iald (n := 461) dL_law_460 e_x56 rfl ?_
      obtain ⟨x57, e_x57, e⟩ := mBind e
      refine mGo.callV (n := 464) (y := zX9_completed) (R' := (mRoom (5) 0 0)) (as := [.int x56]) (st := [.int x55.1]) (r0 := v2) dL_law_461 sc_RL_52 rfl (s_X9_completed v2 x56 x55.2 e_x57) (e_X9_completed v2 x56 x55.2 e_x57) ⟨⟨(Nat.le_of_ble_eq_true rfl), (Nat.le_of_ble_eq_true rfl)⟩, (Nat.le_of_ble_eq_true rfl), (Nat.le_of_ble_eq_true rfl)⟩ (Nat.le_of_ble_eq_true rfl) rfl rfl ?_
      intro _ _ hq
      rw [hq.1, hq.2]
      show mGo w kL_law 72 4414 464 [some (va_rf v0), some (va_rf v1), some (va_rf v2), some (.int v3)] [.int x57.1, .int x55.1] x57.2 Q
      refine mGo.icmp_eq (tgt := 1873) (n := 467) dL_law_464 (by decide) rfl (fun hc => ?_) (fun hc => ?_)
      · replace e := mIft hc e
        refine mGo.iinc (n := 1876) (x := v3) (v := (v3 + 7)) (ls' := [some (va_rf v0), some (va_rf v1), some (va_rf v2), some (.int (v3 + 7))]) dL_law_1873 rfl rfl ((mSt_set (fun u _ hu => by cases hu; exact mRfc _)).trans rfl) (Nat.le_of_ble_eq_true rfl) rfl ?_
        refine mGo.goto (tgt := 18) dL_law_1876 (by decide) ?_
        cases e
        refine mGo.mk [true, true, true, true] ?_
        exact q
      · replace e := mIff hc e
        refine mGo.iconst (n := 468) (v := (0 : Int32)) dL_law_467 (by decide) rfl ?_
        cases e
        exact mGo.zret dL_law_468 rfl (by decide) (Nat.le_of_ble_eq_true rfl) (Nat.le_of_ble_eq_true rfl) q
    replace e := mIff hc53 e
    by_cases hc58 : (x2 &&& (63 : Int32)) = 9
    · replace e := mIft hc58 e
      refine mGo.tcase (v := 9) (tgt := 469) hc58 dL_law_33 (by decide) (by decide) (off := 436) (by decide) (by decide) ?_
      refine mGo.aload_n (n := 470) (r := v1) dL_law_469 rfl rfl ?_
      refine mGo.aload_n (n := 471) (r := v0) dL_law_470 rfl rfl ?_
      refine mGo.iload_n (n := 472) (x := v3) dL_law_471 rfl rfl ?_
      refine mGo.iconst (n := 473) (v := (1 : Int32)) dL_law_472 (by decide) rfl ?_
      refine mGo.iadd (n := 474) dL_law_473 rfl ?_
      obtain ⟨x59, e_x59, e⟩ := mBind e
      refine mGo.iald (n := 475) dL_law_474 e_x59 rfl ?_
      obtain ⟨x60, e_x60, e⟩ := mBind e
      refine mGo.callV (n := 478) (y := zX8_copy) (R' := (mRoom (4) 0 0)) (as := [.int x59]) (st := []) (r0 := v1) dL_law_475 sc_RL_53 rfl (s_X8_copy v1 x59 h e_x60) (e_X8_copy v1 x59 h e_x60) ⟨⟨(Nat.le_of_ble_eq_true rfl), (Nat.le_of_ble_eq_true rfl)⟩, (Nat.le_of_ble_eq_true rfl), (Nat.le_of_ble_eq_true rfl)⟩ (Nat.le_of_ble_eq_true rfl) rfl rfl ?_
      intro _ _ hq
      rw [hq.1, hq.2]
      show mGo w kL_law 72 4414 478 [some (va_rf v0), some (va_rf v1), some (va_rf v2), some (.int v3)] [.int x60.1] x60.2 Q
      refine mGo.aload_n (n := 479) (r := v2) dL_law_478 rfl rfl ?_
      refine mGo.aload_n (n := 480) (r := v0) dL_law_479 rfl rfl ?_
      refine mGo.iload_n (n := 481) (x := v3) dL_law_480 rfl rfl ?_
      refine mGo.iconst (n := 482) (v := (1 : Int32)) dL_law_481 (by decide) rfl ?_
      refine mGo.iadd (n := 483) dL_law_482 rfl ?_
      obtain ⟨x61, e_x61, e⟩ := mBind e
      refine mGo.iald (n := 484) dL_law_483 e_x61 rfl ?_
      obtain ⟨x62, e_x62, e⟩ := mBind e
      refine mGo.callV (n := 487) (y := zX9_copy) (R' := (mRoom (3) 0 0)) (as := [.int x61]) (st := [.int x60.1]) (r0 := v2) dL_law_484 sc_RL_56 rfl (s_X9_copy v2 x61 x60.2 e_x62) (e_X9_copy v2 x61 x60.2 e_x62) ⟨⟨(Nat.le_of_ble_eq_true rfl), (Nat.le_of_ble_eq_true rfl)⟩, (Nat.le_of_ble_eq_true rfl), (Nat.le_of_ble_eq_true rfl)⟩ (Nat.le_of_ble_eq_true rfl) rfl rfl ?_
      intro _ _ hq
      rw [hq.1, hq.2]
      show mGo w kL_law 72 4414 487 [some (va_rf v0), some (va_rf v1), some (va_rf v2), some (.int v3)] [.int x62.1, .int x60.1] x62.2 Q
      refine mGo.icmp_eq (tgt := 1873) (n := 490) dL_law_487 (by decide) rfl (fun hc => ?_) (fun hc => ?_)
      · replace e := mIft hc e
        refine mGo.iinc (n := 1876) (x := v3) (v := (v3 + 7)) (ls' := [some (va_rf v0), some (va_rf v1), some (va_rf v2), some (.int (v3 + 7))]) dL_law_1873 rfl rfl ((mSt_set (fun u _ hu => by cases hu; exact mRfc _)).trans rfl) (Nat.le_of_ble_eq_true rfl) rfl ?_
        refine mGo.goto (tgt := 18) dL_law_1876 (by decide) ?_
        cases e
        refine mGo.mk [true, true, true, true] ?_
        exact q
      · replace e := mIff hc e
        refine mGo.iconst (n := 491) (v := (0 : Int32)) dL_law_490 (by decide) rfl ?_
        cases e
        exact mGo.zret dL_law_491 rfl (by decide) (Nat.le_of_ble_eq_true rfl) (Nat.le_of_ble_eq_true rfl) q
    replace e := mIff hc58 e
    by_cases hc63 : (x2 &&& (63 : Int32)) = 10
    · replace e := mIft hc63 e
      refine mGo.tcase (v := 10) (tgt := 492) hc63 dL_law_33 (by decide) (by decide) (off := 459) (by decide) (by decide) ?_
      refine mGo.aload_n (n := 493) (r := v1) dL_law_492 rfl rfl ?_
      refine mGo.aload_n (n := 494) (r := v0) dL_law_493 rfl rfl ?_
      refine mGo.iload_n (n := 495) (x := v3) dL_law_494 rfl rfl ?_
      refine mGo.iconst (n := 496) (v := (1 : Int32)) dL_law_495 (by decide) rfl ?_
      refine mGo.iadd (n := 497) dL_law_496 rfl ?_
      obtain ⟨x64, e_x64, e⟩ := mBind e
      refine mGo.iald (n := 498) dL_law_497 e_x64 rfl ?_
      obtain ⟨x65, e_x65, e⟩ := mBind e
      refine mGo.callV (n := 501) (y := zX8_drop) (R' := (mRoom (2) 0 0)) (as := [.int x64]) (st := []) (r0 := v1) dL_law_498 sc_RL_57 rfl (s_X8_drop v1 x64 h e_x65) (e_X8_drop v1 x64 h e_x65) ⟨⟨(Nat.le_of_ble_eq_true rfl), (Nat.le_of_ble_eq_true rfl)⟩, (Nat.le_of_ble_eq_true rfl), (Nat.le_of_ble_eq_true rfl)⟩ (Nat.le_of_ble_eq_true rfl) rfl rfl ?_
      intro _ _ hq
      rw [hq.1, hq.2]
      show mGo w kL_law 72 4414 501 [some (va_rf v0), some (va_rf v1), some (va_rf v2), some (.int v3)] [.int x65.1] x65.2 Q
      refine mGo.aload_n (n := 502) (r := v2) dL_law_501 rfl rfl ?_
      refine mGo.aload_n (n := 503) (r := v0) dL_law_502 rfl rfl ?_
      refine mGo.iload_n (n := 504) (x := v3) dL_law_503 rfl rfl ?_
      refine mGo.iconst (n := 505) (v := (1 : Int32)) dL_law_504 (by decide) rfl ?_
      refine mGo.iadd (n := 506) dL_law_505 rfl ?_
      obtain ⟨x66, e_x66, e⟩ := mBind e
      refine mGo.iald (n := 507) dL_law_506 e_x66 rfl ?_
      obtain ⟨x67, e_x67, e⟩ := mBind e
      refine mGo.callV (n := 510) (y := zX9_drop) (R' := (mRoom (3) 0 0)) (as := [.int x66]) (st := [.int x65.1]) (r0 := v2) dL_law_507 sc_RL_61 rfl (s_X9_drop v2 x66 x65.2 e_x67) (e_X9_drop v2 x66 x65.2 e_x67) ⟨⟨(Nat.le_of_ble_eq_true rfl), (Nat.le_of_ble_eq_true rfl)⟩, (Nat.le_of_ble_eq_true rfl), (Nat.le_of_ble_eq_true rfl)⟩ (Nat.le_of_ble_eq_true rfl) rfl rfl ?_
      intro _ _ hq
      rw [hq.1, hq.2]
      show mGo w kL_law 72 4414 510 [some (va_rf v0), some (va_rf v1), some (va_rf v2), some (.int v3)] [.int x67.1, .int x65.1] x67.2 Q
      refine mGo.icmp_eq (tgt := 1873) (n := 513) dL_law_510 (by decide) rfl (fun hc => ?_) (fun hc => ?_)
      · replace e := mIft hc e
        refine mGo.iinc (n := 1876) (x := v3) (v := (v3 + 7)) (ls' := [some (va_rf v0), some (va_rf v1), some (va_rf v2), some (.int (v3 + 7))]) dL_law_1873 rfl rfl ((mSt_set (fun u _ hu => by cases hu; exact mRfc _)).trans rfl) (Nat.le_of_ble_eq_true rfl) rfl ?_
        refine mGo.goto (tgt := 18) dL_law_1876 (by decide) ?_
        cases e
        refine mGo.mk [true, true, true, true] ?_
        exact q
      · replace e := mIff hc e
        refine mGo.iconst (n := 514) (v := (0 : Int32)) dL_law_513 (by decide) rfl ?_
        cases e
        exact mGo.zret dL_law_514 rfl (by decide) (Nat.le_of_ble_eq_true rfl) (Nat.le_of_ble_eq_true rfl) q
    replace e := mIff hc63 e
    by_cases hc68 : (x2 &&& (63 : Int32)) = 11
    · replace e := mIft hc68 e
      refine mGo.tcase (v := 11) (tgt := 515) hc68 dL_law_33 (by decide) (by decide) (off := 482) (by decide) (by decide) ?_
      refine mGo.aload_n (n := 516) (r := v1) dL_law_515 rfl rfl ?_
      refine mGo.aload_n (n := 517) (r := v0) dL_law_516 rfl rfl ?_
      refine mGo.iload_n (n := 518) (x := v3) dL_law_517 rfl rfl ?_
      refine mGo.iconst (n := 519) (v := (1 : Int32)) dL_law_518 (by decide) rfl ?_
      refine mGo.iadd (n := 520) dL_law_519 rfl ?_
      obtain ⟨x69, e_x69, e⟩ := mBind e
      refine mGo.iald (n := 521) dL_law_520 e_x69 rfl ?_
      refine mGo.aload_n (n := 522) (r := v0) dL_law_521 rfl rfl ?_
      refine mGo.iload_n (n := 523) (x := v3) dL_law_522 rfl rfl ?_
      refine mGo.iconst (n := 524) (v := (2 : Int32)) dL_law_523 (by decide) rfl ?_
      refine mGo.iadd (n := 525) dL_law_524 rfl ?_
      obtain ⟨x70, e_x70, e⟩ := mBind e
      refine mGo.iald (n := 526) dL_law_525 e_x70 rfl ?_
      refine mGo.if_eq (tgt := 533) (n := 529) dL_law_526 (by decide) rfl (fun hc => ?_) (fun hc => ?_)
      · replace e := mIft hc e
        refine mGo.iconst (n := 534) (v := (0 : Int32)) dL_law_533 (by decide) rfl ?_
        refine mGo.mk [true, true, true, true] ?_
        exact g_L_law_c534 v0 v1 v2 v3 v1 x69 (0 : Int32) h e q
      · replace e := mIff hc e
        refine mGo.iconst (n := 530) (v := (1 : Int32)) dL_law_529 (by decide) rfl ?_
        refine mGo.goto (tgt := 534) dL_law_530 (by decide) ?_
        refine mGo.mk [true, true, true, true] ?_
        exact g_L_law_c534 v0 v1 v2 v3 v1 x69 (1 : Int32) h e q
    replace e := mIff hc68 e
    by_cases hc71 : (x2 &&& (63 : Int32)) = 12
    · replace e := mIft hc71 e
      refine mGo.tcase (v := 12) (tgt := 574) hc71 dL_law_33 (by decide) (by decide) (off := 541) (by decide) (by decide) ?_
      refine mGo.aload_n (n := 575) (r := v1) dL_law_574 rfl rfl ?_
      refine mGo.aload_n (n := 576) (r := v0) dL_law_575 rfl rfl ?_
      refine mGo.iload_n (n := 577) (x := v3) dL_law_576 rfl rfl ?_
      refine mGo.iconst (n := 578) (v := (1 : Int32)) dL_law_577 (by decide) rfl ?_
      refine mGo.iadd (n := 579) dL_law_578 rfl ?_
      obtain ⟨x72, e_x72, e⟩ := mBind e
      refine mGo.iald (n := 580) dL_law_579 e_x72 rfl ?_
      refine mGo.aload_n (n := 581) (r := v0) dL_law_580 rfl rfl ?_
      refine mGo.iload_n (n := 582) (x := v3) dL_law_581 rfl rfl ?_
      refine mGo.iconst (n := 583) (v := (2 : Int32)) dL_law_582 (by decide) rfl ?_
      refine mGo.iadd (n := 584) dL_law_583 rfl ?_
      obtain ⟨x73, e_x73, e⟩ := mBind e
      refine mGo.iald (n := 585) dL_law_584 e_x73 rfl ?_
      refine mGo.if_eq (tgt := 592) (n := 588) dL_law_585 (by decide) rfl (fun hc => ?_) (fun hc => ?_)
      · replace e := mIft hc e
        refine mGo.iconst (n := 593) (v := (0 : Int32)) dL_law_592 (by decide) rfl ?_
        refine mGo.mk [true, true, true, true] ?_
        exact g_L_law_c593 v0 v1 v2 v3 v1 x72 (0 : Int32) h e q
      · replace e := mIff hc e
        refine mGo.iconst (n := 589) (v := (1 : Int32)) dL_law_588 (by decide) rfl ?_
        refine mGo.goto (tgt := 593) dL_law_589 (by decide) ?_
        refine mGo.mk [true, true, true, true] ?_
        exact g_L_law_c593 v0 v1 v2 v3 v1 x72 (1 : Int32) h e q
    replace e := mIff hc71 e
    by_cases hc74 : (x2 &&& (63 : Int32)) = 13
    · replace e := mIft hc74 e
      refine mGo.tcase (v := 13) (tgt := 643) hc74 dL_law_33 (by decide) (by decide) (off := 610) (by decide) (by decide) ?_
      refine mGo.aload_n (n := 644) (r := v1) dL_law_643 rfl rfl ?_
      refine mGo.aload_n (n := 645) (r := v0) dL_law_644 rfl rfl ?_
      refine mGo.iload_n (n := 646) (x := v3) dL_law_645 rfl rfl ?_
      refine mGo.iconst (n := 647) (v := (1 : Int32)) dL_law_646 (by decide) rfl ?_
      refine mGo.iadd (n := 648) dL_law_647 rfl ?_
      obtain ⟨x75, e_x75, e⟩ := mBind e
      refine mGo.iald (n := 649) dL_law_648 e_x75 rfl ?_
      obtain ⟨x76, e_x76, e⟩ := mBind e
      refine mGo.callV (n := 652) (y := zX8_turn) (R' := (mRoom (2) 0 0)) (as := [.int x75]) (st := []) (r0 := v1) dL_law_649 sc_RL_72 rfl (s_X8_turn v1 x75 h e_x76) (e_X8_turn v1 x75 h e_x76) ⟨⟨(Nat.le_of_ble_eq_true rfl), (Nat.le_of_ble_eq_true rfl)⟩, (Nat.le_of_ble_eq_true rfl), (Nat.le_of_ble_eq_true rfl)⟩ (Nat.le_of_ble_eq_true rfl) rfl rfl ?_
      intro _ _ hq
      rw [hq.1, hq.2]
      show mGo w kL_law 72 4414 652 [some (va_rf v0), some (va_rf v1), some (va_rf v2), some (.int v3)] [.int x76.1] x76.2 Q
      refine mGo.aload_n (n := 653) (r := v2) dL_law_652 rfl rfl ?_
      refine mGo.aload_n (n := 654) (r := v0) dL_law_653 rfl rfl ?_
      refine mGo.iload_n (n := 655) (x := v3) dL_law_654 rfl rfl ?_
      refine mGo.iconst (n := 656) (v := (1 : Int32)) dL_law_655 (by decide) rfl ?_
      refine mGo.iadd (n := 657) dL_law_656 rfl ?_
      obtain ⟨x77, e_x77, e⟩ := mBind e
      refine mGo.iald (n := 658) dL_law_657 e_x77 rfl ?_
      obtain ⟨x78, e_x78, e⟩ := mBind e
      refine mGo.callV (n := 661) (y := zX9_turn) (R' := (mRoom (4) 0 0)) (as := [.int x77]) (st := [.int x76.1]) (r0 := v2) dL_law_658 sc_RL_75 rfl (s_X9_turn v2 x77 x76.2 e_x78) (e_X9_turn v2 x77 x76.2 e_x78) ⟨⟨(Nat.le_of_ble_eq_true rfl), (Nat.le_of_ble_eq_true rfl)⟩, (Nat.le_of_ble_eq_true rfl), (Nat.le_of_ble_eq_true rfl)⟩ (Nat.le_of_ble_eq_true rfl) rfl rfl ?_
      intro _ _ hq
      rw [hq.1, hq.2]
      show mGo w kL_law 72 4414 661 [some (va_rf v0), some (va_rf v1), some (va_rf v2), some (.int v3)] [.int x78.1, .int x76.1] x78.2 Q
      refine mGo.icmp_eq (tgt := 1873) (n := 664) dL_law_661 (by decide) rfl (fun hc => ?_) (fun hc => ?_)
      · replace e := mIft hc e
        refine mGo.iinc (n := 1876) (x := v3) (v := (v3 + 7)) (ls' := [some (va_rf v0), some (va_rf v1), some (va_rf v2), some (.int (v3 + 7))]) dL_law_1873 rfl rfl ((mSt_set (fun u _ hu => by cases hu; exact mRfc _)).trans rfl) (Nat.le_of_ble_eq_true rfl) rfl ?_
        refine mGo.goto (tgt := 18) dL_law_1876 (by decide) ?_
        cases e
        refine mGo.mk [true, true, true, true] ?_
        exact q
      · replace e := mIff hc e
        refine mGo.iconst (n := 665) (v := (0 : Int32)) dL_law_664 (by decide) rfl ?_
        cases e
        exact mGo.zret dL_law_665 rfl (by decide) (Nat.le_of_ble_eq_true rfl) (Nat.le_of_ble_eq_true rfl) q
    replace e := mIff hc74 e
    by_cases hc79 : (x2 &&& (63 : Int32)) = 14
    · replace e := mIft hc79 e
      refine mGo.tcase (v := 14) (tgt := 666) hc79 dL_law_33 (by decide) (by decide) (off := 633) (by decide) (by decide) ?_
      refine mGo.aload_n (n := 667) (r := v1) dL_law_666 rfl rfl ?_
      refine mGo.aload_n (n := 668) (r := v0) dL_law_667 rfl rfl ?_
      refine mGo.iload_n (n := 669) (x := v3) dL_law_668 rfl rfl ?_
      refine mGo.iconst (n := 670) (v := (1 : Int32)) dL_law_669 (by decide) rfl ?_
      refine mGo.iadd (n := 671) dL_law_670 rfl ?_
      obtain ⟨x80, e_x80, e⟩ := mBind e
      refine mGo.iald (n := 672) dL_law_671 e_x80 rfl ?_
      refine mGo.aload_n (n := 673) (r := v0) dL_law_672 rfl rfl ?_
      refine mGo.iload_n (n := 674) (x := v3) dL_law_673 rfl rfl ?_
      refine mGo.iconst (n := 675) (v := (2 : Int32)) dL_law_674 (by decide) rfl ?_
      refine mGo.iadd (n := 676) dL_law_675 rfl ?_
      obtain ⟨x81, e_x81, e⟩ := mBind e
      refine mGo.iald (n := 677) dL_law_676 e_x81 rfl ?_
      refine mGo.aload_n (n := 678) (r := v0) dL_law_677 rfl rfl ?_
      refine mGo.iload_n (n := 679) (x := v3) dL_law_678 rfl rfl ?_
      refine mGo.iconst (n := 680) (v := (3 : Int32)) dL_law_679 (by decide) rfl ?_
      refine mGo.iadd (n := 681) dL_law_680 rfl ?_
      obtain ⟨x82, e_x82, e⟩ := mBind e
      refine mGo.iald (n := 682) dL_law_681 e_x82 rfl ?_
      refine mGo.aload_n (n := 683) (r := v0) dL_law_682 rfl rfl ?_
      refine mGo.iload_n (n := 684) (x := v3) dL_law_683 rfl rfl ?_
      refine mGo.iconst (n := 685) (v := (4 : Int32)) dL_law_684 (by decide) rfl ?_
      refine mGo.iadd (n := 686) dL_law_685 rfl ?_
      obtain ⟨x83, e_x83, e⟩ := mBind e
      refine mGo.iald (n := 687) dL_law_686 e_x83 rfl ?_
      refine mGo.aload_n (n := 688) (r := v0) dL_law_687 rfl rfl ?_
      refine mGo.iload_n (n := 689) (x := v3) dL_law_688 rfl rfl ?_
      refine mGo.iconst (n := 690) (v := (5 : Int32)) dL_law_689 (by decide) rfl ?_
      refine mGo.iadd (n := 691) dL_law_690 rfl ?_
      obtain ⟨x84, e_x84, e⟩ := mBind e
      refine mGo.iald (n := 692) dL_law_691 e_x84 rfl ?_
      refine mGo.aload_n (n := 693) (r := v0) dL_law_692 rfl rfl ?_
      refine mGo.iload_n (n := 694) (x := v3) dL_law_693 rfl rfl ?_
      refine mGo.bipush (n := 696) (v := (6 : Int32)) dL_law_694 (by decide) rfl ?_
      refine mGo.iadd (n := 697) dL_law_696 rfl ?_
      obtain ⟨x85, e_x85, e⟩ := mBind e
      refine mGo.iald (n := 698) dL_law_697 e_x85 rfl ?_
      obtain ⟨x86, e_x86, e⟩ := mBind e
      refine mGo.callV (n := 701) (y := zX8_switched) (R' := (mRoom (4) 0 0)) (as := [.int x80, .int x81, .int x82, .int x83, .int x84, .int x85]) (st := []) (r0 := v1) dL_law_698 sc_RL_76 rfl (s_X8_switched v1 x80 x81 x82 x83 x84 x85 h e_x86) (e_X8_switched v1 x80 x81 x82 x83 x84 x85 h e_x86) ⟨⟨(Nat.le_of_ble_eq_true rfl), (Nat.le_of_ble_eq_true rfl)⟩, (Nat.le_of_ble_eq_true rfl), (Nat.le_of_ble_eq_true rfl)⟩ (Nat.le_of_ble_eq_true rfl) rfl rfl ?_
      intro _ _ hq
      rw [hq.1, hq.2]
      show mGo w kL_law 72 4414 701 [some (va_rf v0), some (va_rf v1), some (va_rf v2), some (.int v3)] [.int x86.1] x86.2 Q
      refine mGo.aload_n (n := 702) (r := v2) dL_law_701 rfl rfl ?_
      refine mGo.aload_n (n := 703) (r := v0) dL_law_702 rfl rfl ?_
      refine mGo.iload_n (n := 704) (x := v3) dL_law_703 rfl rfl ?_
      refine mGo.iconst (n := 705) (v := (1 : Int32)) dL_law_704 (by decide) rfl ?_
      refine mGo.iadd (n := 706) dL_law_705 rfl ?_
      obtain ⟨x87, e_x87, e⟩ := mBind e
      refine mGo.iald (n := 707) dL_law_706 e_x87 rfl ?_
      refine mGo.aload_n (n := 708) (r := v0) dL_law_707 rfl rfl ?_
      refine mGo.iload_n (n := 709) (x := v3) dL_law_708 rfl rfl ?_
      refine mGo.iconst (n := 710) (v := (2 : Int32)) dL_law_709 (by decide) rfl ?_
      refine mGo.iadd (n := 711) dL_law_710 rfl ?_
      obtain ⟨x88, e_x88, e⟩ := mBind e
      refine mGo.iald (n := 712) dL_law_711 e_x88 rfl ?_
      refine mGo.aload_n (n := 713) (r := v0) dL_law_712 rfl rfl ?_
      refine mGo.iload_n (n := 714) (x := v3) dL_law_713 rfl rfl ?_
      refine mGo.iconst (n := 715) (v := (3 : Int32)) dL_law_714 (by decide) rfl ?_
      refine mGo.iadd (n := 716) dL_law_715 rfl ?_
      obtain ⟨x89, e_x89, e⟩ := mBind e
      refine mGo.iald (n := 717) dL_law_716 e_x89 rfl ?_
      refine mGo.aload_n (n := 718) (r := v0) dL_law_717 rfl rfl ?_
      refine mGo.iload_n (n := 719) (x := v3) dL_law_718 rfl rfl ?_
      refine mGo.iconst (n := 720) (v := (4 : Int32)) dL_law_719 (by decide) rfl ?_
      refine mGo.iadd (n := 721) dL_law_720 rfl ?_
      obtain ⟨x90, e_x90, e⟩ := mBind e
      refine mGo.iald (n := 722) dL_law_721 e_x90 rfl ?_
      refine mGo.aload_n (n := 723) (r := v0) dL_law_722 rfl rfl ?_
      refine mGo.iload_n (n := 724) (x := v3) dL_law_723 rfl rfl ?_
      refine mGo.iconst (n := 725) (v := (5 : Int32)) dL_law_724 (by decide) rfl ?_
      refine mGo.iadd (n := 726) dL_law_725 rfl ?_
      obtain ⟨x91, e_x91, e⟩ := mBind e
      refine mGo.iald (n := 727) dL_law_726 e_x91 rfl ?_
      refine mGo.aload_n (n := 728) (r := v0) dL_law_727 rfl rfl ?_
      refine mGo.iload_n (n := 729) (x := v3) dL_law_728 rfl rfl ?_
      refine mGo.bipush (n := 731) (v := (6 : Int32)) dL_law_729 (by decide) rfl ?_
      refine mGo.iadd (n := 732) dL_law_731 rfl ?_
      obtain ⟨x92, e_x92, e⟩ := mBind e
      refine mGo.iald (n := 733) dL_law_732 e_x92 rfl ?_
      obtain ⟨x93, e_x93, e⟩ := mBind e
      refine mGo.callV (n := 736) (y := zX9_switched) (R' := (mRoom (4) 0 0)) (as := [.int x87, .int x88, .int x89, .int x90, .int x91, .int x92]) (st := [.int x86.1]) (r0 := v2) dL_law_733 sc_RL_80 rfl (s_X9_switched v2 x87 x88 x89 x90 x91 x92 x86.2 e_x93) (e_X9_switched v2 x87 x88 x89 x90 x91 x92 x86.2 e_x93) ⟨⟨(Nat.le_of_ble_eq_true rfl), (Nat.le_of_ble_eq_true rfl)⟩, (Nat.le_of_ble_eq_true rfl), (Nat.le_of_ble_eq_true rfl)⟩ (Nat.le_of_ble_eq_true rfl) rfl rfl ?_
      intro _ _ hq
      rw [hq.1, hq.2]
      show mGo w kL_law 72 4414 736 [some (va_rf v0), some (va_rf v1), some (va_rf v2), some (.int v3)] [.int x93.1, .int x86.1] x93.2 Q
      refine mGo.icmp_eq (tgt := 1873) (n := 739) dL_law_736 (by decide) rfl (fun hc => ?_) (fun hc => ?_)
      · replace e := mIft hc e
        refine mGo.iinc (n := 1876) (x := v3) (v := (v3 + 7)) (ls' := [some (va_rf v0), some (va_rf v1), some (va_rf v2), some (.int (v3 + 7))]) dL_law_1873 rfl rfl ((mSt_set (fun u _ hu => by cases hu; exact mRfc _)).trans rfl) (Nat.le_of_ble_eq_true rfl) rfl ?_
        refine mGo.goto (tgt := 18) dL_law_1876 (by decide) ?_
        cases e
        refine mGo.mk [true, true, true, true] ?_
        exact q
      · replace e := mIff hc e
        refine mGo.iconst (n := 740) (v := (0 : Int32)) dL_law_739 (by decide) rfl ?_
        cases e
        exact mGo.zret dL_law_740 rfl (by decide) (Nat.le_of_ble_eq_true rfl) (Nat.le_of_ble_eq_true rfl) q
    replace e := mIff hc79 e
    by_cases hc94 : (x2 &&& (63 : Int32)) = 15
    · replace e := mIft hc94 e
      refine mGo.tcase (v := 15) (tgt := 741) hc94 dL_law_33 (by decide) (by decide) (off := 708) (by decide) (by decide) ?_
      refine mGo.aload_n (n := 742) (r := v1) dL_law_741 rfl rfl ?_
      refine mGo.aload_n (n := 743) (r := v0) dL_law_742 rfl rfl ?_
      refine mGo.iload_n (n := 744) (x := v3) dL_law_743 rfl rfl ?_
      refine mGo.iconst (n := 745) (v := (1 : Int32)) dL_law_744 (by decide) rfl ?_
      refine mGo.iadd (n := 746) dL_law_745 rfl ?_
      obtain ⟨x95, e_x95, e⟩ := mBind e
      refine mGo.iald (n := 747) dL_law_746 e_x95 rfl ?_
      obtain ⟨x96, e_x96, e⟩ := mBind e
      refine mGo.callV (n := 750) (y := zX8_norm) (R' := (mRoom (3) 0 0)) (as := [.int x95]) (st := []) (r0 := v1) dL_law_747 sc_RL_81 rfl (s_X8_norm v1 x95 h e_x96) (e_X8_norm v1 x95 h e_x96) ⟨⟨(Nat.le_of_ble_eq_true rfl), (Nat.le_of_ble_eq_true rfl)⟩, (Nat.le_of_ble_eq_true rfl), (Nat.le_of_ble_eq_true rfl)⟩ (Nat.le_of_ble_eq_true rfl) rfl rfl ?_
      intro _ _ hq
      rw [hq.1, hq.2]
      show mGo w kL_law 72 4414 750 [some (va_rf v0), some (va_rf v1), some (va_rf v2), some (.int v3)] [.int x96.1] x96.2 Q
      refine mGo.aload_n (n := 751) (r := v2) dL_law_750 rfl rfl ?_
      refine mGo.aload_n (n := 752) (r := v0) dL_law_751 rfl rfl ?_
      refine mGo.iload_n (n := 753) (x := v3) dL_law_752 rfl rfl ?_
      refine mGo.iconst (n := 754) (v := (1 : Int32)) dL_law_753 (by decide) rfl ?_
      refine mGo.iadd (n := 755) dL_law_754 rfl ?_
      obtain ⟨x97, e_x97, e⟩ := mBind e
      refine mGo.iald (n := 756) dL_law_755 e_x97 rfl ?_
      obtain ⟨x98, e_x98, e⟩ := mBind e
      refine mGo.callV (n := 759) (y := zX9_norm) (R' := (mRoom (3) 0 0)) (as := [.int x97]) (st := [.int x96.1]) (r0 := v2) dL_law_756 sc_RL_84 rfl (s_X9_norm v2 x97 x96.2 e_x98) (e_X9_norm v2 x97 x96.2 e_x98) ⟨⟨(Nat.le_of_ble_eq_true rfl), (Nat.le_of_ble_eq_true rfl)⟩, (Nat.le_of_ble_eq_true rfl), (Nat.le_of_ble_eq_true rfl)⟩ (Nat.le_of_ble_eq_true rfl) rfl rfl ?_
      intro _ _ hq
      rw [hq.1, hq.2]
      show mGo w kL_law 72 4414 759 [some (va_rf v0), some (va_rf v1), some (va_rf v2), some (.int v3)] [.int x98.1, .int x96.1] x98.2 Q
      refine mGo.icmp_eq (tgt := 1873) (n := 762) dL_law_759 (by decide) rfl (fun hc => ?_) (fun hc => ?_)
      · replace e := mIft hc e
        refine mGo.iinc (n := 1876) (x := v3) (v := (v3 + 7)) (ls' := [some (va_rf v0), some (va_rf v1), some (va_rf v2), some (.int (v3 + 7))]) dL_law_1873 rfl rfl ((mSt_set (fun u _ hu => by cases hu; exact mRfc _)).trans rfl) (Nat.le_of_ble_eq_true rfl) rfl ?_
        refine mGo.goto (tgt := 18) dL_law_1876 (by decide) ?_
        cases e
        refine mGo.mk [true, true, true, true] ?_
        exact q
      · replace e := mIff hc e
        refine mGo.iconst (n := 763) (v := (0 : Int32)) dL_law_762 (by decide) rfl ?_
        cases e
        exact mGo.zret dL_law_763 rfl (by decide) (Nat.le_of_ble_eq_true rfl) (Nat.le_of_ble_eq_true rfl) q
    replace e := mIff hc94 e
    by_cases hc99 : (x2 &&& (63 : Int32)) = 16
    · replace e := mIft hc99 e
      refine mGo.tcase (v := 16) (tgt := 764) hc99 dL_law_33 (by decide) (by decide) (off := 731) (by decide) (by decide) ?_
      refine mGo.aload_n (n := 765) (r := v1) dL_law_764 rfl rfl ?_
      refine mGo.aload_n (n := 766) (r := v0) dL_law_765 rfl rfl ?_
      refine mGo.iload_n (n := 767) (x := v3) dL_law_766 rfl rfl ?_
      refine mGo.iconst (n := 768) (v := (1 : Int32)) dL_law_767 (by decide) rfl ?_
      refine mGo.iadd (n := 769) dL_law_768 rfl ?_
      obtain ⟨x100, e_x100, e⟩ := mBind e
      refine mGo.iald (n := 770) dL_law_769 e_x100 rfl ?_
      obtain ⟨x101, e_x101, e⟩ := mBind e
      refine mGo.callV (n := 773) (y := zX8_order) (R' := (mRoom (1) 0 0)) (as := [.int x100]) (st := []) (r0 := v1) dL_law_770 sc_RL_85 rfl (s_X8_order v1 x100 h e_x101) (e_X8_order v1 x100 h e_x101) ⟨⟨(Nat.le_of_ble_eq_true rfl), (Nat.le_of_ble_eq_true rfl)⟩, (Nat.le_of_ble_eq_true rfl), (Nat.le_of_ble_eq_true rfl)⟩ (Nat.le_of_ble_eq_true rfl) rfl rfl ?_
      intro _ _ hq
      rw [hq.1, hq.2]
      show mGo w kL_law 72 4414 773 [some (va_rf v0), some (va_rf v1), some (va_rf v2), some (.int v3)] [.int x101] h Q
      refine mGo.aload_n (n := 774) (r := v2) dL_law_773 rfl rfl ?_
      refine mGo.aload_n (n := 775) (r := v0) dL_law_774 rfl rfl ?_
      refine mGo.iload_n (n := 776) (x := v3) dL_law_775 rfl rfl ?_
      refine mGo.iconst (n := 777) (v := (1 : Int32)) dL_law_776 (by decide) rfl ?_
      refine mGo.iadd (n := 778) dL_law_777 rfl ?_
      obtain ⟨x102, e_x102, e⟩ := mBind e
      refine mGo.iald (n := 779) dL_law_778 e_x102 rfl ?_
      obtain ⟨x103, e_x103, e⟩ := mBind e
      refine mGo.callV (n := 782) (y := zX9_order) (R' := (mRoom (2) 0 0)) (as := [.int x102]) (st := [.int x101]) (r0 := v2) dL_law_779 sc_RL_88 rfl (s_X9_order v2 x102 h e_x103) (e_X9_order v2 x102 h e_x103) ⟨⟨(Nat.le_of_ble_eq_true rfl), (Nat.le_of_ble_eq_true rfl)⟩, (Nat.le_of_ble_eq_true rfl), (Nat.le_of_ble_eq_true rfl)⟩ (Nat.le_of_ble_eq_true rfl) rfl rfl ?_
      intro _ _ hq
      rw [hq.1, hq.2]
      show mGo w kL_law 72 4414 782 [some (va_rf v0), some (va_rf v1), some (va_rf v2), some (.int v3)] [.int x103, .int x101] h Q
      refine mGo.icmp_eq (tgt := 1873) (n := 785) dL_law_782 (by decide) rfl (fun hc => ?_) (fun hc => ?_)
      · replace e := mIft hc e
        refine mGo.iinc (n := 1876) (x := v3) (v := (v3 + 7)) (ls' := [some (va_rf v0), some (va_rf v1), some (va_rf v2), some (.int (v3 + 7))]) dL_law_1873 rfl rfl ((mSt_set (fun u _ hu => by cases hu; exact mRfc _)).trans rfl) (Nat.le_of_ble_eq_true rfl) rfl ?_
        refine mGo.goto (tgt := 18) dL_law_1876 (by decide) ?_
        cases e
        refine mGo.mk [true, true, true, true] ?_
        exact q
      · replace e := mIff hc e
        refine mGo.iconst (n := 786) (v := (0 : Int32)) dL_law_785 (by decide) rfl ?_
        cases e
        exact mGo.zret dL_law_786 rfl (by decide) (Nat.le_of_ble_eq_true rfl) (Nat.le_of_ble_eq_true rfl) q
    replace e := mIff hc99 e
    by_cases hc104 : (x2 &&& (63 : Int32)) = 17
    · replace e := mIft hc104 e
      refine mGo.tcase (v := 17) (tgt := 787) hc104 dL_law_33 (by decide) (by decide) (off := 754) (by decide) (by decide) ?_
      refine mGo.aload_n (n := 788) (r := v1) dL_law_787 rfl rfl ?_
      refine mGo.aload_n (n := 789) (r := v0) dL_law_788 rfl rfl ?_
      refine mGo.iload_n (n := 790) (x := v3) dL_law_789 rfl rfl ?_
      refine mGo.iconst (n := 791) (v := (1 : Int32)) dL_law_790 (by decide) rfl ?_
      refine mGo.iadd (n := 792) dL_law_791 rfl ?_
      obtain ⟨x105, e_x105, e⟩ := mBind e
      refine mGo.iald (n := 793) dL_law_792 e_x105 rfl ?_
      refine mGo.aload_n (n := 794) (r := v0) dL_law_793 rfl rfl ?_
      refine mGo.iload_n (n := 795) (x := v3) dL_law_794 rfl rfl ?_
      refine mGo.iconst (n := 796) (v := (2 : Int32)) dL_law_795 (by decide) rfl ?_
      refine mGo.iadd (n := 797) dL_law_796 rfl ?_
      obtain ⟨x106, e_x106, e⟩ := mBind e
      refine mGo.iald (n := 798) dL_law_797 e_x106 rfl ?_
      refine mGo.if_eq (tgt := 805) (n := 801) dL_law_798 (by decide) rfl (fun hc => ?_) (fun hc => ?_)
      · replace e := mIft hc e
        refine mGo.iconst (n := 806) (v := (0 : Int32)) dL_law_805 (by decide) rfl ?_
        refine mGo.mk [true, true, true, true] ?_
        exact g_L_law_c806 v0 v1 v2 v3 v1 x105 (0 : Int32) h e q
      · replace e := mIff hc e
        refine mGo.iconst (n := 802) (v := (1 : Int32)) dL_law_801 (by decide) rfl ?_
        refine mGo.goto (tgt := 806) dL_law_802 (by decide) ?_
        refine mGo.mk [true, true, true, true] ?_
        exact g_L_law_c806 v0 v1 v2 v3 v1 x105 (1 : Int32) h e q
    replace e := mIff hc104 e
    by_cases hc107 : (x2 &&& (63 : Int32)) = 18
    · replace e := mIft hc107 e
      refine mGo.tcase (v := 18) (tgt := 846) hc107 dL_law_33 (by decide) (by decide) (off := 813) (by decide) (by decide) ?_
      refine mGo.aload_n (n := 847) (r := v1) dL_law_846 rfl rfl ?_
      refine mGo.aload_n (n := 848) (r := v0) dL_law_847 rfl rfl ?_
      refine mGo.iload_n (n := 849) (x := v3) dL_law_848 rfl rfl ?_
      refine mGo.iconst (n := 850) (v := (1 : Int32)) dL_law_849 (by decide) rfl ?_
      refine mGo.iadd (n := 851) dL_law_850 rfl ?_
      obtain ⟨x108, e_x108, e⟩ := mBind e
      refine mGo.iald (n := 852) dL_law_851 e_x108 rfl ?_
      refine mGo.aload_n (n := 853) (r := v0) dL_law_852 rfl rfl ?_
      refine mGo.iload_n (n := 854) (x := v3) dL_law_853 rfl rfl ?_
      refine mGo.iconst (n := 855) (v := (2 : Int32)) dL_law_854 (by decide) rfl ?_
      refine mGo.iadd (n := 856) dL_law_855 rfl ?_
      obtain ⟨x109, e_x109, e⟩ := mBind e
      refine mGo.iald (n := 857) dL_law_856 e_x109 rfl ?_
      refine mGo.if_eq (tgt := 864) (n := 860) dL_law_857 (by decide) rfl (fun hc => ?_) (fun hc => ?_)
      · replace e := mIft hc e
        refine mGo.iconst (n := 865) (v := (0 : Int32)) dL_law_864 (by decide) rfl ?_
        refine mGo.mk [true, true, true, true] ?_
        exact g_L_law_c865 v0 v1 v2 v3 v1 x108 (0 : Int32) h e q
      · replace e := mIff hc e
        refine mGo.iconst (n := 861) (v := (1 : Int32)) dL_law_860 (by decide) rfl ?_
        refine mGo.goto (tgt := 865) dL_law_861 (by decide) ?_
        refine mGo.mk [true, true, true, true] ?_
        exact g_L_law_c865 v0 v1 v2 v3 v1 x108 (1 : Int32) h e q
    replace e := mIff hc107 e
    by_cases hc110 : (x2 &&& (63 : Int32)) = 19
    · replace e := mIft hc110 e
      refine mGo.tcase (v := 19) (tgt := 915) hc110 dL_law_33 (by decide) (by decide) (off := 882) (by decide) (by decide) ?_
      refine mGo.aload_n (n := 916) (r := v1) dL_law_915 rfl rfl ?_
      refine mGo.aload_n (n := 917) (r := v0) dL_law_916 rfl rfl ?_
      refine mGo.iload_n (n := 918) (x := v3) dL_law_917 rfl rfl ?_
      refine mGo.iconst (n := 919) (v := (1 : Int32)) dL_law_918 (by decide) rfl ?_
      refine mGo.iadd (n := 920) dL_law_919 rfl ?_
      obtain ⟨x111, e_x111, e⟩ := mBind e
      refine mGo.iald (n := 921) dL_law_920 e_x111 rfl ?_
      refine mGo.aload_n (n := 922) (r := v0) dL_law_921 rfl rfl ?_
      refine mGo.iload_n (n := 923) (x := v3) dL_law_922 rfl rfl ?_
      refine mGo.iconst (n := 924) (v := (2 : Int32)) dL_law_923 (by decide) rfl ?_
      refine mGo.iadd (n := 925) dL_law_924 rfl ?_
      obtain ⟨x112, e_x112, e⟩ := mBind e
      refine mGo.iald (n := 926) dL_law_925 e_x112 rfl ?_
      refine mGo.if_eq (tgt := 933) (n := 929) dL_law_926 (by decide) rfl (fun hc => ?_) (fun hc => ?_)
      · replace e := mIft hc e
        refine mGo.iconst (n := 934) (v := (0 : Int32)) dL_law_933 (by decide) rfl ?_
        refine mGo.mk [true, true, true, true] ?_
        exact g_L_law_c934 v0 v1 v2 v3 v1 x111 (0 : Int32) h e q
      · replace e := mIff hc e
        refine mGo.iconst (n := 930) (v := (1 : Int32)) dL_law_929 (by decide) rfl ?_
        refine mGo.goto (tgt := 934) dL_law_930 (by decide) ?_
        refine mGo.mk [true, true, true, true] ?_
        exact g_L_law_c934 v0 v1 v2 v3 v1 x111 (1 : Int32) h e q
    replace e := mIff hc110 e
    by_cases hc113 : (x2 &&& (63 : Int32)) = 20
    · replace e := mIft hc113 e
      refine mGo.tcase (v := 20) (tgt := 984) hc113 dL_law_33 (by decide) (by decide) (off := 951) (by decide) (by decide) ?_
      refine mGo.aload_n (n := 985) (r := v1) dL_law_984 rfl rfl ?_
      refine mGo.aload_n (n := 986) (r := v0) dL_law_985 rfl rfl ?_
      refine mGo.iload_n (n := 987) (x := v3) dL_law_986 rfl rfl ?_
      refine mGo.iconst (n := 988) (v := (1 : Int32)) dL_law_987 (by decide) rfl ?_
      refine mGo.iadd (n := 989) dL_law_988 rfl ?_
      obtain ⟨x114, e_x114, e⟩ := mBind e
      refine mGo.iald (n := 990) dL_law_989 e_x114 rfl ?_
      refine mGo.aload_n (n := 991) (r := v0) dL_law_990 rfl rfl ?_
      refine mGo.iload_n (n := 992) (x := v3) dL_law_991 rfl rfl ?_
      refine mGo.iconst (n := 993) (v := (2 : Int32)) dL_law_992 (by decide) rfl ?_
      refine mGo.iadd (n := 994) dL_law_993 rfl ?_
      obtain ⟨x115, e_x115, e⟩ := mBind e
      refine mGo.iald (n := 995) dL_law_994 e_x115 rfl ?_
      obtain ⟨x116, e_x116, e⟩ := mBind e
      refine mGo.callV (n := 998) (y := zX8_perpendicular) (R' := (mRoom (4) 0 0)) (as := [.int x114, .int x115]) (st := []) (r0 := v1) dL_law_995 sc_RL_103 rfl (s_X8_perpendicular v1 x114 x115 h e_x116) (e_X8_perpendicular v1 x114 x115 h e_x116) ⟨⟨(Nat.le_of_ble_eq_true rfl), (Nat.le_of_ble_eq_true rfl)⟩, (Nat.le_of_ble_eq_true rfl), (Nat.le_of_ble_eq_true rfl)⟩ (Nat.le_of_ble_eq_true rfl) rfl rfl ?_
      intro _ _ hq
      rw [hq.1, hq.2]
      show mGo w kL_law 72 4414 998 [some (va_rf v0), some (va_rf v1), some (va_rf v2), some (.int v3)] [.int x116] h Q
      refine mGo.aload_n (n := 999) (r := v2) dL_law_998 rfl rfl ?_
      refine mGo.aload_n (n := 1000) (r := v0) dL_law_999 rfl rfl ?_
      refine mGo.iload_n (n := 1001) (x := v3) dL_law_1000 rfl rfl ?_
      refine mGo.iconst (n := 1002) (v := (1 : Int32)) dL_law_1001 (by decide) rfl ?_
      refine mGo.iadd (n := 1003) dL_law_1002 rfl ?_
      obtain ⟨x117, e_x117, e⟩ := mBind e
      refine mGo.iald (n := 1004) dL_law_1003 e_x117 rfl ?_
      refine mGo.aload_n (n := 1005) (r := v0) dL_law_1004 rfl rfl ?_
      refine mGo.iload_n (n := 1006) (x := v3) dL_law_1005 rfl rfl ?_
      refine mGo.iconst (n := 1007) (v := (2 : Int32)) dL_law_1006 (by decide) rfl ?_
      refine mGo.iadd (n := 1008) dL_law_1007 rfl ?_
      obtain ⟨x118, e_x118, e⟩ := mBind e
      refine mGo.iald (n := 1009) dL_law_1008 e_x118 rfl ?_
      obtain ⟨x119, e_x119, e⟩ := mBind e
      refine mGo.callV (n := 1012) (y := zX9_perpendicular) (R' := (mRoom (4) 0 0)) (as := [.int x117, .int x118]) (st := [.int x116]) (r0 := v2) dL_law_1009 sc_RL_106 rfl (s_X9_perpendicular v2 x117 x118 h e_x119) (e_X9_perpendicular v2 x117 x118 h e_x119) ⟨⟨(Nat.le_of_ble_eq_true rfl), (Nat.le_of_ble_eq_true rfl)⟩, (Nat.le_of_ble_eq_true rfl), (Nat.le_of_ble_eq_true rfl)⟩ (Nat.le_of_ble_eq_true rfl) rfl rfl ?_
      intro _ _ hq
      rw [hq.1, hq.2]
      show mGo w kL_law 72 4414 1012 [some (va_rf v0), some (va_rf v1), some (va_rf v2), some (.int v3)] [.int x119.1, .int x116] x119.2 Q
      refine mGo.icmp_eq (tgt := 1873) (n := 1015) dL_law_1012 (by decide) rfl (fun hc => ?_) (fun hc => ?_)
      · replace e := mIft hc e
        refine mGo.iinc (n := 1876) (x := v3) (v := (v3 + 7)) (ls' := [some (va_rf v0), some (va_rf v1), some (va_rf v2), some (.int (v3 + 7))]) dL_law_1873 rfl rfl ((mSt_set (fun u _ hu => by cases hu; exact mRfc _)).trans rfl) (Nat.le_of_ble_eq_true rfl) rfl ?_
        refine mGo.goto (tgt := 18) dL_law_1876 (by decide) ?_
        cases e
        refine mGo.mk [true, true, true, true] ?_
        exact q
      · replace e := mIff hc e
        refine mGo.iconst (n := 1016) (v := (0 : Int32)) dL_law_1015 (by decide) rfl ?_
        cases e
        exact mGo.zret dL_law_1016 rfl (by decide) (Nat.le_of_ble_eq_true rfl) (Nat.le_of_ble_eq_true rfl) q
    replace e := mIff hc113 e
    by_cases hc120 : (x2 &&& (63 : Int32)) = 21
    · replace e := mIft hc120 e
      refine mGo.tcase (v := 21) (tgt := 1017) hc120 dL_law_33 (by decide) (by decide) (off := 984) (by decide) (by decide) ?_
      refine mGo.aload_n (n := 1018) (r := v1) dL_law_1017 rfl rfl ?_
      refine mGo.aload_n (n := 1019) (r := v0) dL_law_1018 rfl rfl ?_
      refine mGo.iload_n (n := 1020) (x := v3) dL_law_1019 rfl rfl ?_
      refine mGo.iconst (n := 1021) (v := (1 : Int32)) dL_law_1020 (by decide) rfl ?_
      refine mGo.iadd (n := 1022) dL_law_1021 rfl ?_
      obtain ⟨x121, e_x121, e⟩ := mBind e
      refine mGo.iald (n := 1023) dL_law_1022 e_x121 rfl ?_
      obtain ⟨x122, e_x122, e⟩ := mBind e
      refine mGo.callV (n := 1026) (y := zX8_sum) (R' := (mRoom (3) 0 0)) (as := [.int x121]) (st := []) (r0 := v1) dL_law_1023 sc_RL_107 rfl (s_X8_sum v1 x121 h e_x122) (e_X8_sum v1 x121 h e_x122) ⟨⟨(Nat.le_of_ble_eq_true rfl), (Nat.le_of_ble_eq_true rfl)⟩, (Nat.le_of_ble_eq_true rfl), (Nat.le_of_ble_eq_true rfl)⟩ (Nat.le_of_ble_eq_true rfl) rfl rfl ?_
      intro _ _ hq
      rw [hq.1, hq.2]
      show mGo w kL_law 72 4414 1026 [some (va_rf v0), some (va_rf v1), some (va_rf v2), some (.int v3)] [.int x122] h Q
      refine mGo.aload_n (n := 1027) (r := v2) dL_law_1026 rfl rfl ?_
      refine mGo.aload_n (n := 1028) (r := v0) dL_law_1027 rfl rfl ?_
      refine mGo.iload_n (n := 1029) (x := v3) dL_law_1028 rfl rfl ?_
      refine mGo.iconst (n := 1030) (v := (1 : Int32)) dL_law_1029 (by decide) rfl ?_
      refine mGo.iadd (n := 1031) dL_law_1030 rfl ?_
      obtain ⟨x123, e_x123, e⟩ := mBind e
      refine mGo.iald (n := 1032) dL_law_1031 e_x123 rfl ?_
      obtain ⟨x124, e_x124, e⟩ := mBind e
      refine mGo.callV (n := 1035) (y := zX9_sum) (R' := (mRoom (3) 0 0)) (as := [.int x123]) (st := [.int x122]) (r0 := v2) dL_law_1032 sc_RL_110 rfl (s_X9_sum v2 x123 h e_x124) (e_X9_sum v2 x123 h e_x124) ⟨⟨(Nat.le_of_ble_eq_true rfl), (Nat.le_of_ble_eq_true rfl)⟩, (Nat.le_of_ble_eq_true rfl), (Nat.le_of_ble_eq_true rfl)⟩ (Nat.le_of_ble_eq_true rfl) rfl rfl ?_
      intro _ _ hq
      rw [hq.1, hq.2]
      show mGo w kL_law 72 4414 1035 [some (va_rf v0), some (va_rf v1), some (va_rf v2), some (.int v3)] [.int x124, .int x122] h Q
      refine mGo.icmp_eq (tgt := 1873) (n := 1038) dL_law_1035 (by decide) rfl (fun hc => ?_) (fun hc => ?_)
      · replace e := mIft hc e
        refine mGo.iinc (n := 1876) (x := v3) (v := (v3 + 7)) (ls' := [some (va_rf v0), some (va_rf v1), some (va_rf v2), some (.int (v3 + 7))]) dL_law_1873 rfl rfl ((mSt_set (fun u _ hu => by cases hu; exact mRfc _)).trans rfl) (Nat.le_of_ble_eq_true rfl) rfl ?_
        refine mGo.goto (tgt := 18) dL_law_1876 (by decide) ?_
        cases e
        refine mGo.mk [true, true, true, true] ?_
        exact q
      · replace e := mIff hc e
        refine mGo.iconst (n := 1039) (v := (0 : Int32)) dL_law_1038 (by decide) rfl ?_
        cases e
        exact mGo.zret dL_law_1039 rfl (by decide) (Nat.le_of_ble_eq_true rfl) (Nat.le_of_ble_eq_true rfl) q
    replace e := mIff hc120 e
    by_cases hc125 : (x2 &&& (63 : Int32)) = 22
    · replace e := mIft hc125 e
      refine mGo.tcase (v := 22) (tgt := 1040) hc125 dL_law_33 (by decide) (by decide) (off := 1007) (by decide) (by decide) ?_
      refine mGo.aload_n (n := 1041) (r := v1) dL_law_1040 rfl rfl ?_
      refine mGo.aload_n (n := 1042) (r := v0) dL_law_1041 rfl rfl ?_
      refine mGo.iload_n (n := 1043) (x := v3) dL_law_1042 rfl rfl ?_
      refine mGo.iconst (n := 1044) (v := (1 : Int32)) dL_law_1043 (by decide) rfl ?_
      refine mGo.iadd (n := 1045) dL_law_1044 rfl ?_
      obtain ⟨x126, e_x126, e⟩ := mBind e
      refine mGo.iald (n := 1046) dL_law_1045 e_x126 rfl ?_
      refine mGo.aload_n (n := 1047) (r := v0) dL_law_1046 rfl rfl ?_
      refine mGo.iload_n (n := 1048) (x := v3) dL_law_1047 rfl rfl ?_
      refine mGo.iconst (n := 1049) (v := (2 : Int32)) dL_law_1048 (by decide) rfl ?_
      refine mGo.iadd (n := 1050) dL_law_1049 rfl ?_
      obtain ⟨x127, e_x127, e⟩ := mBind e
      refine mGo.iald (n := 1051) dL_law_1050 e_x127 rfl ?_
      obtain ⟨x128, e_x128, e⟩ := mBind e
      refine mGo.callV (n := 1054) (y := zX8_best) (R' := (mRoom (5) 0 0)) (as := [.int x126, .int x127]) (st := []) (r0 := v1) dL_law_1051 sc_RL_111 rfl (s_X8_best v1 x126 x127 h e_x128) (e_X8_best v1 x126 x127 h e_x128) ⟨⟨(Nat.le_of_ble_eq_true rfl), (Nat.le_of_ble_eq_true rfl)⟩, (Nat.le_of_ble_eq_true rfl), (Nat.le_of_ble_eq_true rfl)⟩ (Nat.le_of_ble_eq_true rfl) rfl rfl ?_
      intro _ _ hq
      rw [hq.1, hq.2]
      show mGo w kL_law 72 4414 1054 [some (va_rf v0), some (va_rf v1), some (va_rf v2), some (.int v3)] [.int x128.1] x128.2 Q
      refine mGo.aload_n (n := 1055) (r := v2) dL_law_1054 rfl rfl ?_
      refine mGo.aload_n (n := 1056) (r := v0) dL_law_1055 rfl rfl ?_
      refine mGo.iload_n (n := 1057) (x := v3) dL_law_1056 rfl rfl ?_
      refine mGo.iconst (n := 1058) (v := (1 : Int32)) dL_law_1057 (by decide) rfl ?_
      refine mGo.iadd (n := 1059) dL_law_1058 rfl ?_
      obtain ⟨x129, e_x129, e⟩ := mBind e
      refine mGo.iald (n := 1060) dL_law_1059 e_x129 rfl ?_
      refine mGo.aload_n (n := 1061) (r := v0) dL_law_1060 rfl rfl ?_
      refine mGo.iload_n (n := 1062) (x := v3) dL_law_1061 rfl rfl ?_
      refine mGo.iconst (n := 1063) (v := (2 : Int32)) dL_law_1062 (by decide) rfl ?_
      refine mGo.iadd (n := 1064) dL_law_1063 rfl ?_
      obtain ⟨x130, e_x130, e⟩ := mBind e
      refine mGo.iald (n := 1065) dL_law_1064 e_x130 rfl ?_
      obtain ⟨x131, e_x131, e⟩ := mBind e
      refine mGo.callV (n := 1068) (y := zX9_best) (R' := (mRoom (4) 0 0)) (as := [.int x129, .int x130]) (st := [.int x128.1]) (r0 := v2) dL_law_1065 sc_RL_114 rfl (s_X9_best v2 x129 x130 x128.2 e_x131) (e_X9_best v2 x129 x130 x128.2 e_x131) ⟨⟨(Nat.le_of_ble_eq_true rfl), (Nat.le_of_ble_eq_true rfl)⟩, (Nat.le_of_ble_eq_true rfl), (Nat.le_of_ble_eq_true rfl)⟩ (Nat.le_of_ble_eq_true rfl) rfl rfl ?_
      intro _ _ hq
      rw [hq.1, hq.2]
      show mGo w kL_law 72 4414 1068 [some (va_rf v0), some (va_rf v1), some (va_rf v2), some (.int v3)] [.int x131, .int x128.1] x128.2 Q
      refine mGo.icmp_eq (tgt := 1873) (n := 1071) dL_law_1068 (by decide) rfl (fun hc => ?_) (fun hc => ?_)
      · replace e := mIft hc e
        refine mGo.iinc (n := 1876) (x := v3) (v := (v3 + 7)) (ls' := [some (va_rf v0), some (va_rf v1), some (va_rf v2), some (.int (v3 + 7))]) dL_law_1873 rfl rfl ((mSt_set (fun u _ hu => by cases hu; exact mRfc _)).trans rfl) (Nat.le_of_ble_eq_true rfl) rfl ?_
        refine mGo.goto (tgt := 18) dL_law_1876 (by decide) ?_
        cases e
        refine mGo.mk [true, true, true, true] ?_
        exact q
      · replace e := mIff hc e
        refine mGo.iconst (n := 1072) (v := (0 : Int32)) dL_law_1071 (by decide) rfl ?_
        cases e
        exact mGo.zret dL_law_1072 rfl (by decide) (Nat.le_of_ble_eq_true rfl) (Nat.le_of_ble_eq_true rfl) q
    replace e := mIff hc125 e
    by_cases hc132 : (x2 &&& (63 : Int32)) = 23
    · replace e := mIft hc132 e
      refine mGo.tcase (v := 23) (tgt := 1073) hc132 dL_law_33 (by decide) (by decide) (off := 1040) (by decide) (by decide) ?_
      refine mGo.aload_n (n := 1074) (r := v1) dL_law_1073 rfl rfl ?_
      refine mGo.aload_n (n := 1075) (r := v0) dL_law_1074 rfl rfl ?_
      refine mGo.iload_n (n := 1076) (x := v3) dL_law_1075 rfl rfl ?_
      refine mGo.iconst (n := 1077) (v := (1 : Int32)) dL_law_1076 (by decide) rfl ?_
      refine mGo.iadd (n := 1078) dL_law_1077 rfl ?_
      obtain ⟨x133, e_x133, e⟩ := mBind e
      refine mGo.iald (n := 1079) dL_law_1078 e_x133 rfl ?_
      refine mGo.aload_n (n := 1080) (r := v0) dL_law_1079 rfl rfl ?_
      refine mGo.iload_n (n := 1081) (x := v3) dL_law_1080 rfl rfl ?_
      refine mGo.iconst (n := 1082) (v := (2 : Int32)) dL_law_1081 (by decide) rfl ?_
      refine mGo.iadd (n := 1083) dL_law_1082 rfl ?_
      obtain ⟨x134, e_x134, e⟩ := mBind e
      refine mGo.iald (n := 1084) dL_law_1083 e_x134 rfl ?_
      refine mGo.if_eq (tgt := 1091) (n := 1087) dL_law_1084 (by decide) rfl (fun hc => ?_) (fun hc => ?_)
      · replace e := mIft hc e
        refine mGo.iconst (n := 1092) (v := (0 : Int32)) dL_law_1091 (by decide) rfl ?_
        refine mGo.mk [true, true, true, true] ?_
        exact g_L_law_c1092 v0 v1 v2 v3 v1 x133 (0 : Int32) h e q
      · replace e := mIff hc e
        refine mGo.iconst (n := 1088) (v := (1 : Int32)) dL_law_1087 (by decide) rfl ?_
        refine mGo.goto (tgt := 1092) dL_law_1088 (by decide) ?_
        refine mGo.mk [true, true, true, true] ?_
        exact g_L_law_c1092 v0 v1 v2 v3 v1 x133 (1 : Int32) h e q
    replace e := mIff hc132 e
    by_cases hc135 : (x2 &&& (63 : Int32)) = 24
    · replace e := mIft hc135 e
      refine mGo.tcase (v := 24) (tgt := 1132) hc135 dL_law_33 (by decide) (by decide) (off := 1099) (by decide) (by decide) ?_
      refine mGo.aload_n (n := 1133) (r := v1) dL_law_1132 rfl rfl ?_
      refine mGo.aload_n (n := 1134) (r := v0) dL_law_1133 rfl rfl ?_
      refine mGo.iload_n (n := 1135) (x := v3) dL_law_1134 rfl rfl ?_
      refine mGo.iconst (n := 1136) (v := (1 : Int32)) dL_law_1135 (by decide) rfl ?_
      refine mGo.iadd (n := 1137) dL_law_1136 rfl ?_
      obtain ⟨x136, e_x136, e⟩ := mBind e
      refine mGo.iald (n := 1138) dL_law_1137 e_x136 rfl ?_
      refine mGo.aload_n (n := 1139) (r := v0) dL_law_1138 rfl rfl ?_
      refine mGo.iload_n (n := 1140) (x := v3) dL_law_1139 rfl rfl ?_
      refine mGo.iconst (n := 1141) (v := (2 : Int32)) dL_law_1140 (by decide) rfl ?_
      refine mGo.iadd (n := 1142) dL_law_1141 rfl ?_
      obtain ⟨x137, e_x137, e⟩ := mBind e
      refine mGo.iald (n := 1143) dL_law_1142 e_x137 rfl ?_
      refine mGo.if_eq (tgt := 1150) (n := 1146) dL_law_1143 (by decide) rfl (fun hc => ?_) (fun hc => ?_)
      · replace e := mIft hc e
        refine mGo.iconst (n := 1151) (v := (0 : Int32)) dL_law_1150 (by decide) rfl ?_
        refine mGo.mk [true, true, true, true] ?_
        exact g_L_law_c1151 v0 v1 v2 v3 v1 x136 (0 : Int32) h e q
      · replace e := mIff hc e
        refine mGo.iconst (n := 1147) (v := (1 : Int32)) dL_law_1146 (by decide) rfl ?_
        refine mGo.goto (tgt := 1151) dL_law_1147 (by decide) ?_
        refine mGo.mk [true, true, true, true] ?_
        exact g_L_law_c1151 v0 v1 v2 v3 v1 x136 (1 : Int32) h e q
    replace e := mIff hc135 e
    by_cases hc138 : (x2 &&& (63 : Int32)) = 25
    · replace e := mIft hc138 e
      refine mGo.tcase (v := 25) (tgt := 1201) hc138 dL_law_33 (by decide) (by decide) (off := 1168) (by decide) (by decide) ?_
      refine mGo.aload_n (n := 1202) (r := v1) dL_law_1201 rfl rfl ?_
      refine mGo.aload_n (n := 1203) (r := v0) dL_law_1202 rfl rfl ?_
      refine mGo.iload_n (n := 1204) (x := v3) dL_law_1203 rfl rfl ?_
      refine mGo.iconst (n := 1205) (v := (1 : Int32)) dL_law_1204 (by decide) rfl ?_
      refine mGo.iadd (n := 1206) dL_law_1205 rfl ?_
      obtain ⟨x139, e_x139, e⟩ := mBind e
      refine mGo.iald (n := 1207) dL_law_1206 e_x139 rfl ?_
      refine mGo.aload_n (n := 1208) (r := v0) dL_law_1207 rfl rfl ?_
      refine mGo.iload_n (n := 1209) (x := v3) dL_law_1208 rfl rfl ?_
      refine mGo.iconst (n := 1210) (v := (2 : Int32)) dL_law_1209 (by decide) rfl ?_
      refine mGo.iadd (n := 1211) dL_law_1210 rfl ?_
      obtain ⟨x140, e_x140, e⟩ := mBind e
      refine mGo.iald (n := 1212) dL_law_1211 e_x140 rfl ?_
      obtain ⟨x141, e_x141, e⟩ := mBind e
      refine mGo.callV (n := 1215) (y := zX8_form) (R' := (mRoom (25) 0 0)) (as := [.int x139, .int x140]) (st := []) (r0 := v1) dL_law_1212 sc_RL_123 rfl (s_X8_form v1 x139 x140 h e_x141) (e_X8_form v1 x139 x140 h e_x141) ⟨⟨(Nat.le_of_ble_eq_true rfl), (Nat.le_of_ble_eq_true rfl)⟩, (Nat.le_of_ble_eq_true rfl), (Nat.le_of_ble_eq_true rfl)⟩ (Nat.le_of_ble_eq_true rfl) rfl rfl ?_
      intro _ _ hq
      rw [hq.1, hq.2]
      show mGo w kL_law 72 4414 1215 [some (va_rf v0), some (va_rf v1), some (va_rf v2), some (.int v3)] [.int x141.1] x141.2 Q
      refine mGo.aload_n (n := 1216) (r := v2) dL_law_1215 rfl rfl ?_
      refine mGo.aload_n (n := 1217) (r := v0) dL_law_1216 rfl rfl ?_
      refine mGo.iload_n (n := 1218) (x := v3) dL_law_1217 rfl rfl ?_
      refine mGo.iconst (n := 1219) (v := (1 : Int32)) dL_law_1218 (by decide) rfl ?_
      refine mGo.iadd (n := 1220) dL_law_1219 rfl ?_
      obtain ⟨x142, e_x142, e⟩ := mBind e
      refine mGo.iald (n := 1221) dL_law_1220 e_x142 rfl ?_
      refine mGo.aload_n (n := 1222) (r := v0) dL_law_1221 rfl rfl ?_
      refine mGo.iload_n (n := 1223) (x := v3) dL_law_1222 rfl rfl ?_
      refine mGo.iconst (n := 1224) (v := (2 : Int32)) dL_law_1223 (by decide) rfl ?_
      refine mGo.iadd (n := 1225) dL_law_1224 rfl ?_
      obtain ⟨x143, e_x143, e⟩ := mBind e
      refine mGo.iald (n := 1226) dL_law_1225 e_x143 rfl ?_
      obtain ⟨x144, e_x144, e⟩ := mBind e
      refine mGo.callV (n := 1229) (y := zX9_form) (R' := (mRoom (4) 0 0)) (as := [.int x142, .int x143]) (st := [.int x141.1]) (r0 := v2) dL_law_1226 sc_RL_126 rfl (s_X9_form v2 x142 x143 x141.2 e_x144) (e_X9_form v2 x142 x143 x141.2 e_x144) ⟨⟨(Nat.le_of_ble_eq_true rfl), (Nat.le_of_ble_eq_true rfl)⟩, (Nat.le_of_ble_eq_true rfl), (Nat.le_of_ble_eq_true rfl)⟩ (Nat.le_of_ble_eq_true rfl) rfl rfl ?_
      intro _ _ hq
      rw [hq.1, hq.2]
      show mGo w kL_law 72 4414 1229 [some (va_rf v0), some (va_rf v1), some (va_rf v2), some (.int v3)] [.int x144.1, .int x141.1] x144.2 Q
      refine mGo.icmp_eq (tgt := 1873) (n := 1232) dL_law_1229 (by decide) rfl (fun hc => ?_) (fun hc => ?_)
      · replace e := mIft hc e
        refine mGo.iinc (n := 1876) (x := v3) (v := (v3 + 7)) (ls' := [some (va_rf v0), some (va_rf v1), some (va_rf v2), some (.int (v3 + 7))]) dL_law_1873 rfl rfl ((mSt_set (fun u _ hu => by cases hu; exact mRfc _)).trans rfl) (Nat.le_of_ble_eq_true rfl) rfl ?_
        refine mGo.goto (tgt := 18) dL_law_1876 (by decide) ?_
        cases e
        refine mGo.mk [true, true, true, true] ?_
        exact q
      · replace e := mIff hc e
        refine mGo.iconst (n := 1233) (v := (0 : Int32)) dL_law_1232 (by decide) rfl ?_
        cases e
        exact mGo.zret dL_law_1233 rfl (by decide) (Nat.le_of_ble_eq_true rfl) (Nat.le_of_ble_eq_true rfl) q
    replace e := mIff hc138 e
    by_cases hc145 : (x2 &&& (63 : Int32)) = 26
    · replace e := mIft hc145 e
      refine mGo.tcase (v := 26) (tgt := 1234) hc145 dL_law_33 (by decide) (by decide) (off := 1201) (by decide) (by decide) ?_
      refine mGo.aload_n (n := 1235) (r := v1) dL_law_1234 rfl rfl ?_
      refine mGo.aload_n (n := 1236) (r := v0) dL_law_1235 rfl rfl ?_
      refine mGo.iload_n (n := 1237) (x := v3) dL_law_1236 rfl rfl ?_
      refine mGo.iconst (n := 1238) (v := (1 : Int32)) dL_law_1237 (by decide) rfl ?_
      refine mGo.iadd (n := 1239) dL_law_1238 rfl ?_
      obtain ⟨x146, e_x146, e⟩ := mBind e
      refine mGo.iald (n := 1240) dL_law_1239 e_x146 rfl ?_
      obtain ⟨x147, e_x147, e⟩ := mBind e
      refine mGo.callV (n := 1243) (y := zX8_determinant) (R' := (mRoom (4) 0 0)) (as := [.int x146]) (st := []) (r0 := v1) dL_law_1240 sc_RL_127 rfl (s_X8_determinant v1 x146 h e_x147) (e_X8_determinant v1 x146 h e_x147) ⟨⟨(Nat.le_of_ble_eq_true rfl), (Nat.le_of_ble_eq_true rfl)⟩, (Nat.le_of_ble_eq_true rfl), (Nat.le_of_ble_eq_true rfl)⟩ (Nat.le_of_ble_eq_true rfl) rfl rfl ?_
      intro _ _ hq
      rw [hq.1, hq.2]
      show mGo w kL_law 72 4414 1243 [some (va_rf v0), some (va_rf v1), some (va_rf v2), some (.int v3)] [.long x147.1] x147.2 Q
      refine mGo.aload_n (n := 1244) (r := v2) dL_law_1243 rfl rfl ?_
      refine mGo.aload_n (n := 1245) (r := v0) dL_law_1244 rfl rfl ?_
      refine mGo.iload_n (n := 1246) (x := v3) dL_law_1245 rfl rfl ?_
      refine mGo.iconst (n := 1247) (v := (1 : Int32)) dL_law_1246 (by decide) rfl ?_
      refine mGo.iadd (n := 1248) dL_law_1247 rfl ?_
      obtain ⟨x148, e_x148, e⟩ := mBind e
      refine mGo.iald (n := 1249) dL_law_1248 e_x148 rfl ?_
      obtain ⟨x149, e_x149, e⟩ := mBind e
      refine mGo.callV (n := 1252) (y := zX9_determinant) (R' := (mRoom (3) 0 0)) (as := [.int x148]) (st := [.long x147.1]) (r0 := v2) dL_law_1249 sc_RL_131 rfl (s_X9_determinant v2 x148 x147.2 e_x149) (e_X9_determinant v2 x148 x147.2 e_x149) ⟨⟨(Nat.le_of_ble_eq_true rfl), (Nat.le_of_ble_eq_true rfl)⟩, (Nat.le_of_ble_eq_true rfl), (Nat.le_of_ble_eq_true rfl)⟩ (Nat.le_of_ble_eq_true rfl) rfl rfl ?_
      intro _ _ hq
      rw [hq.1, hq.2]
      show mGo w kL_law 72 4414 1252 [some (va_rf v0), some (va_rf v1), some (va_rf v2), some (.int v3)] [.long x149.1, .long x147.1] x149.2 Q
      refine mGo.lcmp (n := 1253) dL_law_1252 rfl ?_
      refine mGo.if_eq (tgt := 1873) (n := 1256) dL_law_1253 (by decide) rfl (fun hc => ?_) (fun hc => ?_)
      · replace e := mIft hc e
        refine mGo.iinc (n := 1876) (x := v3) (v := (v3 + 7)) (ls' := [some (va_rf v0), some (va_rf v1), some (va_rf v2), some (.int (v3 + 7))]) dL_law_1873 rfl rfl ((mSt_set (fun u _ hu => by cases hu; exact mRfc _)).trans rfl) (Nat.le_of_ble_eq_true rfl) rfl ?_
        refine mGo.goto (tgt := 18) dL_law_1876 (by decide) ?_
        cases e
        refine mGo.mk [true, true, true, true] ?_
        exact q
      · replace e := mIff hc e
        refine mGo.iconst (n := 1257) (v := (0 : Int32)) dL_law_1256 (by decide) rfl ?_
        cases e
        exact mGo.zret dL_law_1257 rfl (by decide) (Nat.le_of_ble_eq_true rfl) (Nat.le_of_ble_eq_true rfl) q
    replace e := mIff hc145 e
    by_cases hc150 : (x2 &&& (63 : Int32)) = 27
    · replace e := mIft hc150 e
      refine mGo.tcase (v := 27) (tgt := 1258) hc150 dL_law_33 (by decide) (by decide) (off := 1225) (by decide) (by decide) ?_
      refine mGo.aload_n (n := 1259) (r := v1) dL_law_1258 rfl rfl ?_
      refine mGo.aload_n (n := 1260) (r := v0) dL_law_1259 rfl rfl ?_
      refine mGo.iload_n (n := 1261) (x := v3) dL_law_1260 rfl rfl ?_
      refine mGo.iconst (n := 1262) (v := (1 : Int32)) dL_law_1261 (by decide) rfl ?_
      refine mGo.iadd (n := 1263) dL_law_1262 rfl ?_
      obtain ⟨x151, e_x151, e⟩ := mBind e
      refine mGo.iald (n := 1264) dL_law_1263 e_x151 rfl ?_
      refine mGo.aload_n (n := 1265) (r := v0) dL_law_1264 rfl rfl ?_
      refine mGo.iload_n (n := 1266) (x := v3) dL_law_1265 rfl rfl ?_
      refine mGo.iconst (n := 1267) (v := (2 : Int32)) dL_law_1266 (by decide) rfl ?_
      refine mGo.iadd (n := 1268) dL_law_1267 rfl ?_
      obtain ⟨x152, e_x152, e⟩ := mBind e
      refine mGo.iald (n := 1269) dL_law_1268 e_x152 rfl ?_
      obtain ⟨x153, e_x153, e⟩ := mBind e
      refine mGo.callV (n := 1272) (y := zX8_like) (R' := (mRoom (25) 0 0)) (as := [.int x151, .int x152]) (st := []) (r0 := v1) dL_law_1269 sc_RL_132 rfl (s_X8_like v1 x151 x152 h e_x153) (e_X8_like v1 x151 x152 h e_x153) ⟨⟨(Nat.le_of_ble_eq_true rfl), (Nat.le_of_ble_eq_true rfl)⟩, (Nat.le_of_ble_eq_true rfl), (Nat.le_of_ble_eq_true rfl)⟩ (Nat.le_of_ble_eq_true rfl) rfl rfl ?_
      intro _ _ hq
      rw [hq.1, hq.2]
      show mGo w kL_law 72 4414 1272 [some (va_rf v0), some (va_rf v1), some (va_rf v2), some (.int v3)] [.int x153.1] x153.2 Q
      refine mGo.aload_n (n := 1273) (r := v2) dL_law_1272 rfl rfl ?_
      refine mGo.aload_n (n := 1274) (r := v0) dL_law_1273 rfl rfl ?_
      refine mGo.iload_n (n := 1275) (x := v3) dL_law_1274 rfl rfl ?_
      refine mGo.iconst (n := 1276) (v := (1 : Int32)) dL_law_1275 (by decide) rfl ?_
      refine mGo.iadd (n := 1277) dL_law_1276 rfl ?_
      obtain ⟨x154, e_x154, e⟩ := mBind e
      refine mGo.iald (n := 1278) dL_law_1277 e_x154 rfl ?_
      refine mGo.aload_n (n := 1279) (r := v0) dL_law_1278 rfl rfl ?_
      refine mGo.iload_n (n := 1280) (x := v3) dL_law_1279 rfl rfl ?_
      refine mGo.iconst (n := 1281) (v := (2 : Int32)) dL_law_1280 (by decide) rfl ?_
      refine mGo.iadd (n := 1282) dL_law_1281 rfl ?_
      obtain ⟨x155, e_x155, e⟩ := mBind e
      refine mGo.iald (n := 1283) dL_law_1282 e_x155 rfl ?_
      obtain ⟨x156, e_x156, e⟩ := mBind e
      refine mGo.callV (n := 1286) (y := zX9_like) (R' := (mRoom (6) 0 0)) (as := [.int x154, .int x155]) (st := [.int x153.1]) (r0 := v2) dL_law_1283 sc_RL_135 rfl (s_X9_like v2 x154 x155 x153.2 e_x156) (e_X9_like v2 x154 x155 x153.2 e_x156) ⟨⟨(Nat.le_of_ble_eq_true rfl), (Nat.le_of_ble_eq_true rfl)⟩, (Nat.le_of_ble_eq_true rfl), (Nat.le_of_ble_eq_true rfl)⟩ (Nat.le_of_ble_eq_true rfl) rfl rfl ?_
      intro _ _ hq
      rw [hq.1, hq.2]
      show mGo w kL_law 72 4414 1286 [some (va_rf v0), some (va_rf v1), some (va_rf v2), some (.int v3)] [.int x156.1, .int x153.1] x156.2 Q
      refine mGo.icmp_eq (tgt := 1873) (n := 1289) dL_law_1286 (by decide) rfl (fun hc => ?_) (fun hc => ?_)
      · replace e := mIft hc e
        refine mGo.iinc (n := 1876) (x := v3) (v := (v3 + 7)) (ls' := [some (va_rf v0), some (va_rf v1), some (va_rf v2), some (.int (v3 + 7))]) dL_law_1873 rfl rfl ((mSt_set (fun u _ hu => by cases hu; exact mRfc _)).trans rfl) (Nat.le_of_ble_eq_true rfl) rfl ?_
        refine mGo.goto (tgt := 18) dL_law_1876 (by decide) ?_
        cases e
        refine mGo.mk [true, true, true, true] ?_
        exact q
      · replace e := mIff hc e
        refine mGo.iconst (n := 1290) (v := (0 : Int32)) dL_law_1289 (by decide) rfl ?_
        cases e
        exact mGo.zret dL_law_1290 rfl (by decide) (Nat.le_of_ble_eq_true rfl) (Nat.le_of_ble_eq_true rfl) q
    replace e := mIff hc150 e
    by_cases hc157 : (x2 &&& (63 : Int32)) = 28
    · replace e := mIft hc157 e
      refine mGo.tcase (v := 28) (tgt := 1291) hc157 dL_law_33 (by decide) (by decide) (off := 1258) (by decide) (by decide) ?_
      refine mGo.aload_n (n := 1292) (r := v1) dL_law_1291 rfl rfl ?_
      refine mGo.aload_n (n := 1293) (r := v0) dL_law_1292 rfl rfl ?_
      refine mGo.iload_n (n := 1294) (x := v3) dL_law_1293 rfl rfl ?_
      refine mGo.iconst (n := 1295) (v := (1 : Int32)) dL_law_1294 (by decide) rfl ?_
      refine mGo.iadd (n := 1296) dL_law_1295 rfl ?_
      obtain ⟨x158, e_x158, e⟩ := mBind e
      refine mGo.iald (n := 1297) dL_law_1296 e_x158 rfl ?_
      refine mGo.aload_n (n := 1298) (r := v0) dL_law_1297 rfl rfl ?_
      refine mGo.iload_n (n := 1299) (x := v3) dL_law_1298 rfl rfl ?_
      refine mGo.iconst (n := 1300) (v := (2 : Int32)) dL_law_1299 (by decide) rfl ?_
      refine mGo.iadd (n := 1301) dL_law_1300 rfl ?_
      obtain ⟨x159, e_x159, e⟩ := mBind e
      refine mGo.iald (n := 1302) dL_law_1301 e_x159 rfl ?_
      refine mGo.aload_n (n := 1303) (r := v0) dL_law_1302 rfl rfl ?_
      refine mGo.iload_n (n := 1304) (x := v3) dL_law_1303 rfl rfl ?_
      refine mGo.iconst (n := 1305) (v := (3 : Int32)) dL_law_1304 (by decide) rfl ?_
      refine mGo.iadd (n := 1306) dL_law_1305 rfl ?_
      obtain ⟨x160, e_x160, e⟩ := mBind e
      refine mGo.iald (n := 1307) dL_law_1306 e_x160 rfl ?_
      refine mGo.if_eq (tgt := 1314) (n := 1310) dL_law_1307 (by decide) rfl (fun hc => ?_) (fun hc => ?_)
      · replace e := mIft hc e
        refine mGo.iconst (n := 1315) (v := (0 : Int32)) dL_law_1314 (by decide) rfl ?_
        refine mGo.mk [true, true, true, true] ?_
        exact g_L_law_c1315 v0 v1 v2 v3 v1 x158 x159 (0 : Int32) h e q
      · replace e := mIff hc e
        refine mGo.iconst (n := 1311) (v := (1 : Int32)) dL_law_1310 (by decide) rfl ?_
        refine mGo.goto (tgt := 1315) dL_law_1311 (by decide) ?_
        refine mGo.mk [true, true, true, true] ?_
        exact g_L_law_c1315 v0 v1 v2 v3 v1 x158 x159 (1 : Int32) h e q
    replace e := mIff hc157 e
    by_cases hc161 : (x2 &&& (63 : Int32)) = 29
    · replace e := mIft hc161 e
      refine mGo.tcase (v := 29) (tgt := 1360) hc161 dL_law_33 (by decide) (by decide) (off := 1327) (by decide) (by decide) ?_
      refine mGo.aload_n (n := 1361) (r := v1) dL_law_1360 rfl rfl ?_
      refine mGo.aload_n (n := 1362) (r := v0) dL_law_1361 rfl rfl ?_
      refine mGo.iload_n (n := 1363) (x := v3) dL_law_1362 rfl rfl ?_
      refine mGo.iconst (n := 1364) (v := (1 : Int32)) dL_law_1363 (by decide) rfl ?_
      refine mGo.iadd (n := 1365) dL_law_1364 rfl ?_
      obtain ⟨x162, e_x162, e⟩ := mBind e
      refine mGo.iald (n := 1366) dL_law_1365 e_x162 rfl ?_
      obtain ⟨x163, e_x163, e⟩ := mBind e
      refine mGo.callV (n := 1369) (y := zX8_symmetries) (R' := (mRoom (25) 0 0)) (as := [.int x162]) (st := []) (r0 := v1) dL_law_1366 sc_RL_141 rfl (s_X8_symmetries v1 x162 h e_x163) (e_X8_symmetries v1 x162 h e_x163) ⟨⟨(Nat.le_of_ble_eq_true rfl), (Nat.le_of_ble_eq_true rfl)⟩, (Nat.le_of_ble_eq_true rfl), (Nat.le_of_ble_eq_true rfl)⟩ (Nat.le_of_ble_eq_true rfl) rfl rfl ?_
      intro _ _ hq
      rw [hq.1, hq.2]
      show mGo w kL_law 72 4414 1369 [some (va_rf v0), some (va_rf v1), some (va_rf v2), some (.int v3)] [.long x163.1] x163.2 Q
      refine mGo.aload_n (n := 1370) (r := v2) dL_law_1369 rfl rfl ?_
      refine mGo.aload_n (n := 1371) (r := v0) dL_law_1370 rfl rfl ?_
      refine mGo.iload_n (n := 1372) (x := v3) dL_law_1371 rfl rfl ?_
      refine mGo.iconst (n := 1373) (v := (1 : Int32)) dL_law_1372 (by decide) rfl ?_
      refine mGo.iadd (n := 1374) dL_law_1373 rfl ?_
      obtain ⟨x164, e_x164, e⟩ := mBind e
      refine mGo.iald (n := 1375) dL_law_1374 e_x164 rfl ?_
      obtain ⟨x165, e_x165, e⟩ := mBind e
      refine mGo.callV (n := 1378) (y := zX9_symmetries) (R' := (mRoom (6) 0 0)) (as := [.int x164]) (st := [.long x163.1]) (r0 := v2) dL_law_1375 sc_RL_144 rfl (s_X9_symmetries v2 x164 x163.2 e_x165) (e_X9_symmetries v2 x164 x163.2 e_x165) ⟨⟨(Nat.le_of_ble_eq_true rfl), (Nat.le_of_ble_eq_true rfl)⟩, (Nat.le_of_ble_eq_true rfl), (Nat.le_of_ble_eq_true rfl)⟩ (Nat.le_of_ble_eq_true rfl) rfl rfl ?_
      intro _ _ hq
      rw [hq.1, hq.2]
      show mGo w kL_law 72 4414 1378 [some (va_rf v0), some (va_rf v1), some (va_rf v2), some (.int v3)] [.long x165.1, .long x163.1] x165.2 Q
      refine mGo.lcmp (n := 1379) dL_law_1378 rfl ?_
      refine mGo.if_eq (tgt := 1873) (n := 1382) dL_law_1379 (by decide) rfl (fun hc => ?_) (fun hc => ?_)
      · replace e := mIft hc e
        refine mGo.iinc (n := 1876) (x := v3) (v := (v3 + 7)) (ls' := [some (va_rf v0), some (va_rf v1), some (va_rf v2), some (.int (v3 + 7))]) dL_law_1873 rfl rfl ((mSt_set (fun u _ hu => by cases hu; exact mRfc _)).trans rfl) (Nat.le_of_ble_eq_true rfl) rfl ?_
        refine mGo.goto (tgt := 18) dL_law_1876 (by decide) ?_
        cases e
        refine mGo.mk [true, true, true, true] ?_
        exact q
      · replace e := mIff hc e
        refine mGo.iconst (n := 1383) (v := (0 : Int32)) dL_law_1382 (by decide) rfl ?_
        cases e
        exact mGo.zret dL_law_1383 rfl (by decide) (Nat.le_of_ble_eq_true rfl) (Nat.le_of_ble_eq_true rfl) q
    replace e := mIff hc161 e
    by_cases hc166 : (x2 &&& (63 : Int32)) = 30
    · replace e := mIft hc166 e
      refine mGo.tcase (v := 30) (tgt := 1384) hc166 dL_law_33 (by decide) (by decide) (off := 1351) (by decide) (by decide) ?_
      refine mGo.aload_n (n := 1385) (r := v1) dL_law_1384 rfl rfl ?_
      refine mGo.aload_n (n := 1386) (r := v0) dL_law_1385 rfl rfl ?_
      refine mGo.iload_n (n := 1387) (x := v3) dL_law_1386 rfl rfl ?_
      refine mGo.iconst (n := 1388) (v := (1 : Int32)) dL_law_1387 (by decide) rfl ?_
      refine mGo.iadd (n := 1389) dL_law_1388 rfl ?_
      obtain ⟨x167, e_x167, e⟩ := mBind e
      refine mGo.iald (n := 1390) dL_law_1389 e_x167 rfl ?_
      refine mGo.aload_n (n := 1391) (r := v0) dL_law_1390 rfl rfl ?_
      refine mGo.iload_n (n := 1392) (x := v3) dL_law_1391 rfl rfl ?_
      refine mGo.iconst (n := 1393) (v := (2 : Int32)) dL_law_1392 (by decide) rfl ?_
      refine mGo.iadd (n := 1394) dL_law_1393 rfl ?_
      obtain ⟨x168, e_x168, e⟩ := mBind e
      refine mGo.iald (n := 1395) dL_law_1394 e_x168 rfl ?_
      refine mGo.aload_n (n := 1396) (r := v0) dL_law_1395 rfl rfl ?_
      refine mGo.iload_n (n := 1397) (x := v3) dL_law_1396 rfl rfl ?_
      refine mGo.iconst (n := 1398) (v := (3 : Int32)) dL_law_1397 (by decide) rfl ?_
      refine mGo.iadd (n := 1399) dL_law_1398 rfl ?_
      obtain ⟨x169, e_x169, e⟩ := mBind e
      refine mGo.iald (n := 1400) dL_law_1399 e_x169 rfl ?_
      obtain ⟨x170, e_x170, e⟩ := mBind e
      refine mGo.callV (n := 1403) (y := zX8_joined) (R' := (mRoom (3) 0 0)) (as := [.int x167, .int x168, .int x169]) (st := []) (r0 := v1) dL_law_1400 sc_RL_145 rfl (s_X8_joined v1 x167 x168 x169 h e_x170) (e_X8_joined v1 x167 x168 x169 h e_x170) ⟨⟨(Nat.le_of_ble_eq_true rfl), (Nat.le_of_ble_eq_true rfl)⟩, (Nat.le_of_ble_eq_true rfl), (Nat.le_of_ble_eq_true rfl)⟩ (Nat.le_of_ble_eq_true rfl) rfl rfl ?_
      intro _ _ hq
      rw [hq.1, hq.2]
      show mGo w kL_law 72 4414 1403 [some (va_rf v0), some (va_rf v1), some (va_rf v2), some (.int v3)] [.int x170] h Q
      refine mGo.aload_n (n := 1404) (r := v2) dL_law_1403 rfl rfl ?_
      refine mGo.aload_n (n := 1405) (r := v0) dL_law_1404 rfl rfl ?_
      refine mGo.iload_n (n := 1406) (x := v3) dL_law_1405 rfl rfl ?_
      refine mGo.iconst (n := 1407) (v := (1 : Int32)) dL_law_1406 (by decide) rfl ?_
      refine mGo.iadd (n := 1408) dL_law_1407 rfl ?_
      obtain ⟨x171, e_x171, e⟩ := mBind e
      refine mGo.iald (n := 1409) dL_law_1408 e_x171 rfl ?_
      refine mGo.aload_n (n := 1410) (r := v0) dL_law_1409 rfl rfl ?_
      refine mGo.iload_n (n := 1411) (x := v3) dL_law_1410 rfl rfl ?_
      refine mGo.iconst (n := 1412) (v := (2 : Int32)) dL_law_1411 (by decide) rfl ?_
      refine mGo.iadd (n := 1413) dL_law_1412 rfl ?_
      obtain ⟨x172, e_x172, e⟩ := mBind e
      refine mGo.iald (n := 1414) dL_law_1413 e_x172 rfl ?_
      refine mGo.aload_n (n := 1415) (r := v0) dL_law_1414 rfl rfl ?_
      refine mGo.iload_n (n := 1416) (x := v3) dL_law_1415 rfl rfl ?_
      refine mGo.iconst (n := 1417) (v := (3 : Int32)) dL_law_1416 (by decide) rfl ?_
      refine mGo.iadd (n := 1418) dL_law_1417 rfl ?_
      obtain ⟨x173, e_x173, e⟩ := mBind e
      refine mGo.iald (n := 1419) dL_law_1418 e_x173 rfl ?_
      obtain ⟨x174, e_x174, e⟩ := mBind e
      refine mGo.callV (n := 1422) (y := zX9_joined) (R' := (mRoom (4) 0 0)) (as := [.int x171, .int x172, .int x173]) (st := [.int x170]) (r0 := v2) dL_law_1419 sc_RL_149 rfl (s_X9_joined v2 x171 x172 x173 h e_x174) (e_X9_joined v2 x171 x172 x173 h e_x174) ⟨⟨(Nat.le_of_ble_eq_true rfl), (Nat.le_of_ble_eq_true rfl)⟩, (Nat.le_of_ble_eq_true rfl), (Nat.le_of_ble_eq_true rfl)⟩ (Nat.le_of_ble_eq_true rfl) rfl rfl ?_
      intro _ _ hq
      rw [hq.1, hq.2]
      show mGo w kL_law 72 4414 1422 [some (va_rf v0), some (va_rf v1), some (va_rf v2), some (.int v3)] [.int x174, .int x170] h Q
      refine mGo.icmp_eq (tgt := 1873) (n := 1425) dL_law_1422 (by decide) rfl (fun hc => ?_) (fun hc => ?_)
      · replace e := mIft hc e
        refine mGo.iinc (n := 1876) (x := v3) (v := (v3 + 7)) (ls' := [some (va_rf v0), some (va_rf v1), some (va_rf v2), some (.int (v3 + 7))]) dL_law_1873 rfl rfl ((mSt_set (fun u _ hu => by cases hu; exact mRfc _)).trans rfl) (Nat.le_of_ble_eq_true rfl) rfl ?_
        refine mGo.goto (tgt := 18) dL_law_1876 (by decide) ?_
        cases e
        refine mGo.mk [true, true, true, true] ?_
        exact q
      · replace e := mIff hc e
        refine mGo.iconst (n := 1426) (v := (0 : Int32)) dL_law_1425 (by decide) rfl ?_
        cases e
        exact mGo.zret dL_law_1426 rfl (by decide) (Nat.le_of_ble_eq_true rfl) (Nat.le_of_ble_eq_true rfl) q
    replace e := mIff hc166 e
    by_cases hc175 : (x2 &&& (63 : Int32)) = 31
    · replace e := mIft hc175 e
      refine mGo.tcase (v := 31) (tgt := 1427) hc175 dL_law_33 (by decide) (by decide) (off := 1394) (by decide) (by decide) ?_
      refine mGo.aload_n (n := 1428) (r := v1) dL_law_1427 rfl rfl ?_
      refine mGo.aload_n (n := 1429) (r := v0) dL_law_1428 rfl rfl ?_
      refine mGo.iload_n (n := 1430) (x := v3) dL_law_1429 rfl rfl ?_
      refine mGo.iconst (n := 1431) (v := (1 : Int32)) dL_law_1430 (by decide) rfl ?_
      refine mGo.iadd (n := 1432) dL_law_1431 rfl ?_
      obtain ⟨x176, e_x176, e⟩ := mBind e
      refine mGo.iald (n := 1433) dL_law_1432 e_x176 rfl ?_
      refine mGo.aload_n (n := 1434) (r := v0) dL_law_1433 rfl rfl ?_
      refine mGo.iload_n (n := 1435) (x := v3) dL_law_1434 rfl rfl ?_
      refine mGo.iconst (n := 1436) (v := (2 : Int32)) dL_law_1435 (by decide) rfl ?_
      refine mGo.iadd (n := 1437) dL_law_1436 rfl ?_
      obtain ⟨x177, e_x177, e⟩ := mBind e
      refine mGo.iald (n := 1438) dL_law_1437 e_x177 rfl ?_
      refine mGo.aload_n (n := 1439) (r := v0) dL_law_1438 rfl rfl ?_
      refine mGo.iload_n (n := 1440) (x := v3) dL_law_1439 rfl rfl ?_
      refine mGo.iconst (n := 1441) (v := (3 : Int32)) dL_law_1440 (by decide) rfl ?_
      refine mGo.iadd (n := 1442) dL_law_1441 rfl ?_
      obtain ⟨x178, e_x178, e⟩ := mBind e
      refine mGo.iald (n := 1443) dL_law_1442 e_x178 rfl ?_
      obtain ⟨x179, e_x179, e⟩ := mBind e
      refine mGo.callV (n := 1446) (y := zX8_common) (R' := (mRoom (2) 0 0)) (as := [.int x176, .int x177, .int x178]) (st := []) (r0 := v1) dL_law_1443 sc_RL_150 rfl (s_X8_common v1 x176 x177 x178 h e_x179) (e_X8_common v1 x176 x177 x178 h e_x179) ⟨⟨(Nat.le_of_ble_eq_true rfl), (Nat.le_of_ble_eq_true rfl)⟩, (Nat.le_of_ble_eq_true rfl), (Nat.le_of_ble_eq_true rfl)⟩ (Nat.le_of_ble_eq_true rfl) rfl rfl ?_
      intro _ _ hq
      rw [hq.1, hq.2]
      show mGo w kL_law 72 4414 1446 [some (va_rf v0), some (va_rf v1), some (va_rf v2), some (.int v3)] [.int x179] h Q
      refine mGo.aload_n (n := 1447) (r := v2) dL_law_1446 rfl rfl ?_
      refine mGo.aload_n (n := 1448) (r := v0) dL_law_1447 rfl rfl ?_
      refine mGo.iload_n (n := 1449) (x := v3) dL_law_1448 rfl rfl ?_
      refine mGo.iconst (n := 1450) (v := (1 : Int32)) dL_law_1449 (by decide) rfl ?_
      refine mGo.iadd (n := 1451) dL_law_1450 rfl ?_
      obtain ⟨x180, e_x180, e⟩ := mBind e
      refine mGo.iald (n := 1452) dL_law_1451 e_x180 rfl ?_
      refine mGo.aload_n (n := 1453) (r := v0) dL_law_1452 rfl rfl ?_
      refine mGo.iload_n (n := 1454) (x := v3) dL_law_1453 rfl rfl ?_
      refine mGo.iconst (n := 1455) (v := (2 : Int32)) dL_law_1454 (by decide) rfl ?_
      refine mGo.iadd (n := 1456) dL_law_1455 rfl ?_
      obtain ⟨x181, e_x181, e⟩ := mBind e
      refine mGo.iald (n := 1457) dL_law_1456 e_x181 rfl ?_
      refine mGo.aload_n (n := 1458) (r := v0) dL_law_1457 rfl rfl ?_
      refine mGo.iload_n (n := 1459) (x := v3) dL_law_1458 rfl rfl ?_
      refine mGo.iconst (n := 1460) (v := (3 : Int32)) dL_law_1459 (by decide) rfl ?_
      refine mGo.iadd (n := 1461) dL_law_1460 rfl ?_
      obtain ⟨x182, e_x182, e⟩ := mBind e
      refine mGo.iald (n := 1462) dL_law_1461 e_x182 rfl ?_
      obtain ⟨x183, e_x183, e⟩ := mBind e
      refine mGo.callV (n := 1465) (y := zX9_common) (R' := (mRoom (4) 0 0)) (as := [.int x180, .int x181, .int x182]) (st := [.int x179]) (r0 := v2) dL_law_1462 sc_RL_153 rfl (s_X9_common v2 x180 x181 x182 h e_x183) (e_X9_common v2 x180 x181 x182 h e_x183) ⟨⟨(Nat.le_of_ble_eq_true rfl), (Nat.le_of_ble_eq_true rfl)⟩, (Nat.le_of_ble_eq_true rfl), (Nat.le_of_ble_eq_true rfl)⟩ (Nat.le_of_ble_eq_true rfl) rfl rfl ?_
      intro _ _ hq
      rw [hq.1, hq.2]
      show mGo w kL_law 72 4414 1465 [some (va_rf v0), some (va_rf v1), some (va_rf v2), some (.int v3)] [.int x183, .int x179] h Q
      refine mGo.icmp_eq (tgt := 1873) (n := 1468) dL_law_1465 (by decide) rfl (fun hc => ?_) (fun hc => ?_)
      · replace e := mIft hc e
        refine mGo.iinc (n := 1876) (x := v3) (v := (v3 + 7)) (ls' := [some (va_rf v0), some (va_rf v1), some (va_rf v2), some (.int (v3 + 7))]) dL_law_1873 rfl rfl ((mSt_set (fun u _ hu => by cases hu; exact mRfc _)).trans rfl) (Nat.le_of_ble_eq_true rfl) rfl ?_
        refine mGo.goto (tgt := 18) dL_law_1876 (by decide) ?_
        cases e
        refine mGo.mk [true, true, true, true] ?_
        exact q
      · replace e := mIff hc e
        refine mGo.iconst (n := 1469) (v := (0 : Int32)) dL_law_1468 (by decide) rfl ?_
        cases e
        exact mGo.zret dL_law_1469 rfl (by decide) (Nat.le_of_ble_eq_true rfl) (Nat.le_of_ble_eq_true rfl) q
    replace e := mIff hc175 e
    by_cases hc184 : (x2 &&& (63 : Int32)) = 32
    · replace e := mIft hc184 e
      refine mGo.tcase (v := 32) (tgt := 1470) hc184 dL_law_33 (by decide) (by decide) (off := 1437) (by decide) (by decide) ?_
      refine mGo.aload_n (n := 1471) (r := v1) dL_law_1470 rfl rfl ?_
      refine mGo.aload_n (n := 1472) (r := v0) dL_law_1471 rfl rfl ?_
      refine mGo.iload_n (n := 1473) (x := v3) dL_law_1472 rfl rfl ?_
      refine mGo.iconst (n := 1474) (v := (1 : Int32)) dL_law_1473 (by decide) rfl ?_
      refine mGo.iadd (n := 1475) dL_law_1474 rfl ?_
      obtain ⟨x185, e_x185, e⟩ := mBind e
      refine mGo.iald (n := 1476) dL_law_1475 e_x185 rfl ?_
      refine mGo.aload_n (n := 1477) (r := v0) dL_law_1476 rfl rfl ?_
      refine mGo.iload_n (n := 1478) (x := v3) dL_law_1477 rfl rfl ?_
      refine mGo.iconst (n := 1479) (v := (2 : Int32)) dL_law_1478 (by decide) rfl ?_
      refine mGo.iadd (n := 1480) dL_law_1479 rfl ?_
      obtain ⟨x186, e_x186, e⟩ := mBind e
      refine mGo.iald (n := 1481) dL_law_1480 e_x186 rfl ?_
      refine mGo.aload_n (n := 1482) (r := v0) dL_law_1481 rfl rfl ?_
      refine mGo.iload_n (n := 1483) (x := v3) dL_law_1482 rfl rfl ?_
      refine mGo.iconst (n := 1484) (v := (3 : Int32)) dL_law_1483 (by decide) rfl ?_
      refine mGo.iadd (n := 1485) dL_law_1484 rfl ?_
      obtain ⟨x187, e_x187, e⟩ := mBind e
      refine mGo.iald (n := 1486) dL_law_1485 e_x187 rfl ?_
      refine mGo.aload_n (n := 1487) (r := v0) dL_law_1486 rfl rfl ?_
      refine mGo.iload_n (n := 1488) (x := v3) dL_law_1487 rfl rfl ?_
      refine mGo.iconst (n := 1489) (v := (4 : Int32)) dL_law_1488 (by decide) rfl ?_
      refine mGo.iadd (n := 1490) dL_law_1489 rfl ?_
      obtain ⟨x188, e_x188, e⟩ := mBind e
      refine mGo.iald (n := 1491) dL_law_1490 e_x188 rfl ?_
      obtain ⟨x189, e_x189, e⟩ := mBind e
      refine mGo.callV (n := 1494) (y := zX8_block) (R' := (mRoom (4) 0 0)) (as := [.int x185, .int x186, .int x187, .int x188]) (st := []) (r0 := v1) dL_law_1491 sc_RL_154 rfl (s_X8_block v1 x185 x186 x187 x188 h e_x189) (e_X8_block v1 x185 x186 x187 x188 h e_x189) ⟨⟨(Nat.le_of_ble_eq_true rfl), (Nat.le_of_ble_eq_true rfl)⟩, (Nat.le_of_ble_eq_true rfl), (Nat.le_of_ble_eq_true rfl)⟩ (Nat.le_of_ble_eq_true rfl) rfl rfl ?_
      intro _ _ hq
      rw [hq.1, hq.2]
      show mGo w kL_law 72 4414 1494 [some (va_rf v0), some (va_rf v1), some (va_rf v2), some (.int v3)] [.int x189] h Q
      refine mGo.aload_n (n := 1495) (r := v2) dL_law_1494 rfl rfl ?_
      refine mGo.aload_n (n := 1496) (r := v0) dL_law_1495 rfl rfl ?_
      refine mGo.iload_n (n := 1497) (x := v3) dL_law_1496 rfl rfl ?_
      refine mGo.iconst (n := 1498) (v := (1 : Int32)) dL_law_1497 (by decide) rfl ?_
      refine mGo.iadd (n := 1499) dL_law_1498 rfl ?_
      obtain ⟨x190, e_x190, e⟩ := mBind e
      refine mGo.iald (n := 1500) dL_law_1499 e_x190 rfl ?_
      refine mGo.aload_n (n := 1501) (r := v0) dL_law_1500 rfl rfl ?_
      refine mGo.iload_n (n := 1502) (x := v3) dL_law_1501 rfl rfl ?_
      refine mGo.iconst (n := 1503) (v := (2 : Int32)) dL_law_1502 (by decide) rfl ?_
      refine mGo.iadd (n := 1504) dL_law_1503 rfl ?_
      obtain ⟨x191, e_x191, e⟩ := mBind e
      refine mGo.iald (n := 1505) dL_law_1504 e_x191 rfl ?_
      refine mGo.aload_n (n := 1506) (r := v0) dL_law_1505 rfl rfl ?_
      refine mGo.iload_n (n := 1507) (x := v3) dL_law_1506 rfl rfl ?_
      refine mGo.iconst (n := 1508) (v := (3 : Int32)) dL_law_1507 (by decide) rfl ?_
      refine mGo.iadd (n := 1509) dL_law_1508 rfl ?_
      obtain ⟨x192, e_x192, e⟩ := mBind e
      refine mGo.iald (n := 1510) dL_law_1509 e_x192 rfl ?_
      refine mGo.aload_n (n := 1511) (r := v0) dL_law_1510 rfl rfl ?_
      refine mGo.iload_n (n := 1512) (x := v3) dL_law_1511 rfl rfl ?_
      refine mGo.iconst (n := 1513) (v := (4 : Int32)) dL_law_1512 (by decide) rfl ?_
      refine mGo.iadd (n := 1514) dL_law_1513 rfl ?_
      obtain ⟨x193, e_x193, e⟩ := mBind e
      refine mGo.iald (n := 1515) dL_law_1514 e_x193 rfl ?_
      obtain ⟨x194, e_x194, e⟩ := mBind e
      refine mGo.callV (n := 1518) (y := zX9_block) (R' := (mRoom (5) 0 0)) (as := [.int x190, .int x191, .int x192, .int x193]) (st := [.int x189]) (r0 := v2) dL_law_1515 sc_RL_158 rfl (s_X9_block v2 x190 x191 x192 x193 h e_x194) (e_X9_block v2 x190 x191 x192 x193 h e_x194) ⟨⟨(Nat.le_of_ble_eq_true rfl), (Nat.le_of_ble_eq_true rfl)⟩, (Nat.le_of_ble_eq_true rfl), (Nat.le_of_ble_eq_true rfl)⟩ (Nat.le_of_ble_eq_true rfl) rfl rfl ?_
      intro _ _ hq
      rw [hq.1, hq.2]
      show mGo w kL_law 72 4414 1518 [some (va_rf v0), some (va_rf v1), some (va_rf v2), some (.int v3)] [.int x194, .int x189] h Q
      refine mGo.icmp_eq (tgt := 1873) (n := 1521) dL_law_1518 (by decide) rfl (fun hc => ?_) (fun hc => ?_)
      · replace e := mIft hc e
        refine mGo.iinc (n := 1876) (x := v3) (v := (v3 + 7)) (ls' := [some (va_rf v0), some (va_rf v1), some (va_rf v2), some (.int (v3 + 7))]) dL_law_1873 rfl rfl ((mSt_set (fun u _ hu => by cases hu; exact mRfc _)).trans rfl) (Nat.le_of_ble_eq_true rfl) rfl ?_
        refine mGo.goto (tgt := 18) dL_law_1876 (by decide) ?_
        cases e
        refine mGo.mk [true, true, true, true] ?_
        exact q
      · replace e := mIff hc e
        refine mGo.iconst (n := 1522) (v := (0 : Int32)) dL_law_1521 (by decide) rfl ?_
        cases e
        exact mGo.zret dL_law_1522 rfl (by decide) (Nat.le_of_ble_eq_true rfl) (Nat.le_of_ble_eq_true rfl) q
    replace e := mIff hc184 e
    by_cases hc195 : (x2 &&& (63 : Int32)) = 33
    · replace e := mIft hc195 e
      refine mGo.tcase (v := 33) (tgt := 1523) hc195 dL_law_33 (by decide) (by decide) (off := 1490) (by decide) (by decide) ?_
      refine mGo.aload_n (n := 1524) (r := v1) dL_law_1523 rfl rfl ?_
      refine mGo.aload_n (n := 1525) (r := v0) dL_law_1524 rfl rfl ?_
      refine mGo.iload_n (n := 1526) (x := v3) dL_law_1525 rfl rfl ?_
      refine mGo.iconst (n := 1527) (v := (1 : Int32)) dL_law_1526 (by decide) rfl ?_
      refine mGo.iadd (n := 1528) dL_law_1527 rfl ?_
      obtain ⟨x196, e_x196, e⟩ := mBind e
      refine mGo.iald (n := 1529) dL_law_1528 e_x196 rfl ?_
      refine mGo.aload_n (n := 1530) (r := v0) dL_law_1529 rfl rfl ?_
      refine mGo.iload_n (n := 1531) (x := v3) dL_law_1530 rfl rfl ?_
      refine mGo.iconst (n := 1532) (v := (2 : Int32)) dL_law_1531 (by decide) rfl ?_
      refine mGo.iadd (n := 1533) dL_law_1532 rfl ?_
      obtain ⟨x197, e_x197, e⟩ := mBind e
      refine mGo.iald (n := 1534) dL_law_1533 e_x197 rfl ?_
      refine mGo.aload_n (n := 1535) (r := v0) dL_law_1534 rfl rfl ?_
      refine mGo.iload_n (n := 1536) (x := v3) dL_law_1535 rfl rfl ?_
      refine mGo.iconst (n := 1537) (v := (3 : Int32)) dL_law_1536 (by decide) rfl ?_
      refine mGo.iadd (n := 1538) dL_law_1537 rfl ?_
      obtain ⟨x198, e_x198, e⟩ := mBind e
      refine mGo.iald (n := 1539) dL_law_1538 e_x198 rfl ?_
      refine mGo.aload_n (n := 1540) (r := v0) dL_law_1539 rfl rfl ?_
      refine mGo.iload_n (n := 1541) (x := v3) dL_law_1540 rfl rfl ?_
      refine mGo.iconst (n := 1542) (v := (4 : Int32)) dL_law_1541 (by decide) rfl ?_
      refine mGo.iadd (n := 1543) dL_law_1542 rfl ?_
      obtain ⟨x199, e_x199, e⟩ := mBind e
      refine mGo.iald (n := 1544) dL_law_1543 e_x199 rfl ?_
      obtain ⟨x200, e_x200, e⟩ := mBind e
      refine mGo.callV (n := 1547) (y := zX8_through) (R' := (mRoom (4) 0 0)) (as := [.int x196, .int x197, .int x198, .int x199]) (st := []) (r0 := v1) dL_law_1544 sc_RL_159 rfl (s_X8_through v1 x196 x197 x198 x199 h e_x200) (e_X8_through v1 x196 x197 x198 x199 h e_x200) ⟨⟨(Nat.le_of_ble_eq_true rfl), (Nat.le_of_ble_eq_true rfl)⟩, (Nat.le_of_ble_eq_true rfl), (Nat.le_of_ble_eq_true rfl)⟩ (Nat.le_of_ble_eq_true rfl) rfl rfl ?_
      intro _ _ hq
      rw [hq.1, hq.2]
      show mGo w kL_law 72 4414 1547 [some (va_rf v0), some (va_rf v1), some (va_rf v2), some (.int v3)] [.int x200] h Q
      refine mGo.aload_n (n := 1548) (r := v2) dL_law_1547 rfl rfl ?_
      refine mGo.aload_n (n := 1549) (r := v0) dL_law_1548 rfl rfl ?_
      refine mGo.iload_n (n := 1550) (x := v3) dL_law_1549 rfl rfl ?_
      refine mGo.iconst (n := 1551) (v := (1 : Int32)) dL_law_1550 (by decide) rfl ?_
      refine mGo.iadd (n := 1552) dL_law_1551 rfl ?_
      obtain ⟨x201, e_x201, e⟩ := mBind e
      refine mGo.iald (n := 1553) dL_law_1552 e_x201 rfl ?_
      refine mGo.aload_n (n := 1554) (r := v0) dL_law_1553 rfl rfl ?_
      refine mGo.iload_n (n := 1555) (x := v3) dL_law_1554 rfl rfl ?_
      refine mGo.iconst (n := 1556) (v := (2 : Int32)) dL_law_1555 (by decide) rfl ?_
      refine mGo.iadd (n := 1557) dL_law_1556 rfl ?_
      obtain ⟨x202, e_x202, e⟩ := mBind e
      refine mGo.iald (n := 1558) dL_law_1557 e_x202 rfl ?_
      refine mGo.aload_n (n := 1559) (r := v0) dL_law_1558 rfl rfl ?_
      refine mGo.iload_n (n := 1560) (x := v3) dL_law_1559 rfl rfl ?_
      refine mGo.iconst (n := 1561) (v := (3 : Int32)) dL_law_1560 (by decide) rfl ?_
      refine mGo.iadd (n := 1562) dL_law_1561 rfl ?_
      obtain ⟨x203, e_x203, e⟩ := mBind e
      refine mGo.iald (n := 1563) dL_law_1562 e_x203 rfl ?_
      refine mGo.aload_n (n := 1564) (r := v0) dL_law_1563 rfl rfl ?_
      refine mGo.iload_n (n := 1565) (x := v3) dL_law_1564 rfl rfl ?_
      refine mGo.iconst (n := 1566) (v := (4 : Int32)) dL_law_1565 (by decide) rfl ?_
      refine mGo.iadd (n := 1567) dL_law_1566 rfl ?_
      obtain ⟨x204, e_x204, e⟩ := mBind e
      refine mGo.iald (n := 1568) dL_law_1567 e_x204 rfl ?_
      obtain ⟨x205, e_x205, e⟩ := mBind e
      refine mGo.callV (n := 1571) (y := zX9_through) (R' := (mRoom (5) 0 0)) (as := [.int x201, .int x202, .int x203, .int x204]) (st := [.int x200]) (r0 := v2) dL_law_1568 sc_RL_162 rfl (s_X9_through v2 x201 x202 x203 x204 h e_x205) (e_X9_through v2 x201 x202 x203 x204 h e_x205) ⟨⟨(Nat.le_of_ble_eq_true rfl), (Nat.le_of_ble_eq_true rfl)⟩, (Nat.le_of_ble_eq_true rfl), (Nat.le_of_ble_eq_true rfl)⟩ (Nat.le_of_ble_eq_true rfl) rfl rfl ?_
      intro _ _ hq
      rw [hq.1, hq.2]
      show mGo w kL_law 72 4414 1571 [some (va_rf v0), some (va_rf v1), some (va_rf v2), some (.int v3)] [.int x205, .int x200] h Q
      refine mGo.icmp_eq (tgt := 1873) (n := 1574) dL_law_1571 (by decide) rfl (fun hc => ?_) (fun hc => ?_)
      · replace e := mIft hc e
        refine mGo.iinc (n := 1876) (x := v3) (v := (v3 + 7)) (ls' := [some (va_rf v0), some (va_rf v1), some (va_rf v2), some (.int (v3 + 7))]) dL_law_1873 rfl rfl ((mSt_set (fun u _ hu => by cases hu; exact mRfc _)).trans rfl) (Nat.le_of_ble_eq_true rfl) rfl ?_
        refine mGo.goto (tgt := 18) dL_law_1876 (by decide) ?_
        cases e
        refine mGo.mk [true, true, true, true] ?_
        exact q
      · replace e := mIff hc e
        refine mGo.iconst (n := 1575) (v := (0 : Int32)) dL_law_1574 (by decide) rfl ?_
        cases e
        exact mGo.zret dL_law_1575 rfl (by decide) (Nat.le_of_ble_eq_true rfl) (Nat.le_of_ble_eq_true rfl) q
    replace e := mIff hc195 e
    by_cases hc206 : (x2 &&& (63 : Int32)) = 34
    · replace e := mIft hc206 e
      refine mGo.tcase (v := 34) (tgt := 1576) hc206 dL_law_33 (by decide) (by decide) (off := 1543) (by decide) (by decide) ?_
      refine mGo.aload_n (n := 1577) (r := v1) dL_law_1576 rfl rfl ?_
      refine mGo.aload_n (n := 1578) (r := v0) dL_law_1577 rfl rfl ?_
      refine mGo.iload_n (n := 1579) (x := v3) dL_law_1578 rfl rfl ?_
      refine mGo.iconst (n := 1580) (v := (1 : Int32)) dL_law_1579 (by decide) rfl ?_
      refine mGo.iadd (n := 1581) dL_law_1580 rfl ?_
      obtain ⟨x207, e_x207, e⟩ := mBind e
      refine mGo.iald (n := 1582) dL_law_1581 e_x207 rfl ?_
      refine mGo.aload_n (n := 1583) (r := v0) dL_law_1582 rfl rfl ?_
      refine mGo.iload_n (n := 1584) (x := v3) dL_law_1583 rfl rfl ?_
      refine mGo.iconst (n := 1585) (v := (2 : Int32)) dL_law_1584 (by decide) rfl ?_
      refine mGo.iadd (n := 1586) dL_law_1585 rfl ?_
      obtain ⟨x208, e_x208, e⟩ := mBind e
      refine mGo.iald (n := 1587) dL_law_1586 e_x208 rfl ?_
      refine mGo.aload_n (n := 1588) (r := v0) dL_law_1587 rfl rfl ?_
      refine mGo.iload_n (n := 1589) (x := v3) dL_law_1588 rfl rfl ?_
      refine mGo.iconst (n := 1590) (v := (3 : Int32)) dL_law_1589 (by decide) rfl ?_
      refine mGo.iadd (n := 1591) dL_law_1590 rfl ?_
      obtain ⟨x209, e_x209, e⟩ := mBind e
      refine mGo.iald (n := 1592) dL_law_1591 e_x209 rfl ?_
      obtain ⟨x210, e_x210, e⟩ := mBind e
      refine mGo.callV (n := 1595) (y := zX8_halves) (R' := (mRoom (2) 0 0)) (as := [.int x207, .int x208, .int x209]) (st := []) (r0 := v1) dL_law_1592 sc_RL_163 rfl (s_X8_halves v1 x207 x208 x209 h e_x210) (e_X8_halves v1 x207 x208 x209 h e_x210) ⟨⟨(Nat.le_of_ble_eq_true rfl), (Nat.le_of_ble_eq_true rfl)⟩, (Nat.le_of_ble_eq_true rfl), (Nat.le_of_ble_eq_true rfl)⟩ (Nat.le_of_ble_eq_true rfl) rfl rfl ?_
      intro _ _ hq
      rw [hq.1, hq.2]
      show mGo w kL_law 72 4414 1595 [some (va_rf v0), some (va_rf v1), some (va_rf v2), some (.int v3)] [.int x210] h Q
      refine mGo.aload_n (n := 1596) (r := v2) dL_law_1595 rfl rfl ?_
      refine mGo.aload_n (n := 1597) (r := v0) dL_law_1596 rfl rfl ?_
      refine mGo.iload_n (n := 1598) (x := v3) dL_law_1597 rfl rfl ?_
      refine mGo.iconst (n := 1599) (v := (1 : Int32)) dL_law_1598 (by decide) rfl ?_
      refine mGo.iadd (n := 1600) dL_law_1599 rfl ?_
      obtain ⟨x211, e_x211, e⟩ := mBind e
      refine mGo.iald (n := 1601) dL_law_1600 e_x211 rfl ?_
      refine mGo.aload_n (n := 1602) (r := v0) dL_law_1601 rfl rfl ?_
      refine mGo.iload_n (n := 1603) (x := v3) dL_law_1602 rfl rfl ?_
      refine mGo.iconst (n := 1604) (v := (2 : Int32)) dL_law_1603 (by decide) rfl ?_
      refine mGo.iadd (n := 1605) dL_law_1604 rfl ?_
      obtain ⟨x212, e_x212, e⟩ := mBind e
      refine mGo.iald (n := 1606) dL_law_1605 e_x212 rfl ?_
      refine mGo.aload_n (n := 1607) (r := v0) dL_law_1606 rfl rfl ?_
      refine mGo.iload_n (n := 1608) (x := v3) dL_law_1607 rfl rfl ?_
      refine mGo.iconst (n := 1609) (v := (3 : Int32)) dL_law_1608 (by decide) rfl ?_
      refine mGo.iadd (n := 1610) dL_law_1609 rfl ?_
      obtain ⟨x213, e_x213, e⟩ := mBind e
      refine mGo.iald (n := 1611) dL_law_1610 e_x213 rfl ?_
      obtain ⟨x214, e_x214, e⟩ := mBind e
      refine mGo.callV (n := 1614) (y := zX9_halves) (R' := (mRoom (4) 0 0)) (as := [.int x211, .int x212, .int x213]) (st := [.int x210]) (r0 := v2) dL_law_1611 sc_RL_166 rfl (s_X9_halves v2 x211 x212 x213 h e_x214) (e_X9_halves v2 x211 x212 x213 h e_x214) ⟨⟨(Nat.le_of_ble_eq_true rfl), (Nat.le_of_ble_eq_true rfl)⟩, (Nat.le_of_ble_eq_true rfl), (Nat.le_of_ble_eq_true rfl)⟩ (Nat.le_of_ble_eq_true rfl) rfl rfl ?_
      intro _ _ hq
      rw [hq.1, hq.2]
      show mGo w kL_law 72 4414 1614 [some (va_rf v0), some (va_rf v1), some (va_rf v2), some (.int v3)] [.int x214, .int x210] h Q
      refine mGo.icmp_eq (tgt := 1873) (n := 1617) dL_law_1614 (by decide) rfl (fun hc => ?_) (fun hc => ?_)
      · replace e := mIft hc e
        refine mGo.iinc (n := 1876) (x := v3) (v := (v3 + 7)) (ls' := [some (va_rf v0), some (va_rf v1), some (va_rf v2), some (.int (v3 + 7))]) dL_law_1873 rfl rfl ((mSt_set (fun u _ hu => by cases hu; exact mRfc _)).trans rfl) (Nat.le_of_ble_eq_true rfl) rfl ?_
        refine mGo.goto (tgt := 18) dL_law_1876 (by decide) ?_
        cases e
        refine mGo.mk [true, true, true, true] ?_
        exact q
      · replace e := mIff hc e
        refine mGo.iconst (n := 1618) (v := (0 : Int32)) dL_law_1617 (by decide) rfl ?_
        cases e
        exact mGo.zret dL_law_1618 rfl (by decide) (Nat.le_of_ble_eq_true rfl) (Nat.le_of_ble_eq_true rfl) q
    replace e := mIff hc206 e
    by_cases hc215 : (x2 &&& (63 : Int32)) = 35
    · replace e := mIft hc215 e
      refine mGo.tcase (v := 35) (tgt := 1619) hc215 dL_law_33 (by decide) (by decide) (off := 1586) (by decide) (by decide) ?_
      refine mGo.aload_n (n := 1620) (r := v1) dL_law_1619 rfl rfl ?_
      refine mGo.aload_n (n := 1621) (r := v0) dL_law_1620 rfl rfl ?_
      refine mGo.iload_n (n := 1622) (x := v3) dL_law_1621 rfl rfl ?_
      refine mGo.iconst (n := 1623) (v := (1 : Int32)) dL_law_1622 (by decide) rfl ?_
      refine mGo.iadd (n := 1624) dL_law_1623 rfl ?_
      obtain ⟨x216, e_x216, e⟩ := mBind e
      refine mGo.iald (n := 1625) dL_law_1624 e_x216 rfl ?_
      refine mGo.aload_n (n := 1626) (r := v0) dL_law_1625 rfl rfl ?_
      refine mGo.iload_n (n := 1627) (x := v3) dL_law_1626 rfl rfl ?_
      refine mGo.iconst (n := 1628) (v := (2 : Int32)) dL_law_1627 (by decide) rfl ?_
      refine mGo.iadd (n := 1629) dL_law_1628 rfl ?_
      obtain ⟨x217, e_x217, e⟩ := mBind e
      refine mGo.iald (n := 1630) dL_law_1629 e_x217 rfl ?_
      refine mGo.aload_n (n := 1631) (r := v0) dL_law_1630 rfl rfl ?_
      refine mGo.iload_n (n := 1632) (x := v3) dL_law_1631 rfl rfl ?_
      refine mGo.iconst (n := 1633) (v := (3 : Int32)) dL_law_1632 (by decide) rfl ?_
      refine mGo.iadd (n := 1634) dL_law_1633 rfl ?_
      obtain ⟨x218, e_x218, e⟩ := mBind e
      refine mGo.iald (n := 1635) dL_law_1634 e_x218 rfl ?_
      obtain ⟨x219, e_x219, e⟩ := mBind e
      refine mGo.callV (n := 1638) (y := zX8_nearest) (R' := (mRoom (2) 0 0)) (as := [.int x216, .int x217, .int x218]) (st := []) (r0 := v1) dL_law_1635 sc_RL_167 rfl (s_X8_nearest v1 x216 x217 x218 h e_x219) (e_X8_nearest v1 x216 x217 x218 h e_x219) ⟨⟨(Nat.le_of_ble_eq_true rfl), (Nat.le_of_ble_eq_true rfl)⟩, (Nat.le_of_ble_eq_true rfl), (Nat.le_of_ble_eq_true rfl)⟩ (Nat.le_of_ble_eq_true rfl) rfl rfl ?_
      intro _ _ hq
      rw [hq.1, hq.2]
      show mGo w kL_law 72 4414 1638 [some (va_rf v0), some (va_rf v1), some (va_rf v2), some (.int v3)] [.int x219] h Q
      refine mGo.aload_n (n := 1639) (r := v2) dL_law_1638 rfl rfl ?_
      refine mGo.aload_n (n := 1640) (r := v0) dL_law_1639 rfl rfl ?_
      refine mGo.iload_n (n := 1641) (x := v3) dL_law_1640 rfl rfl ?_
      refine mGo.iconst (n := 1642) (v := (1 : Int32)) dL_law_1641 (by decide) rfl ?_
      refine mGo.iadd (n := 1643) dL_law_1642 rfl ?_
      obtain ⟨x220, e_x220, e⟩ := mBind e
      refine mGo.iald (n := 1644) dL_law_1643 e_x220 rfl ?_
      refine mGo.aload_n (n := 1645) (r := v0) dL_law_1644 rfl rfl ?_
      refine mGo.iload_n (n := 1646) (x := v3) dL_law_1645 rfl rfl ?_
      refine mGo.iconst (n := 1647) (v := (2 : Int32)) dL_law_1646 (by decide) rfl ?_
      refine mGo.iadd (n := 1648) dL_law_1647 rfl ?_
      obtain ⟨x221, e_x221, e⟩ := mBind e
      refine mGo.iald (n := 1649) dL_law_1648 e_x221 rfl ?_
      refine mGo.aload_n (n := 1650) (r := v0) dL_law_1649 rfl rfl ?_
      refine mGo.iload_n (n := 1651) (x := v3) dL_law_1650 rfl rfl ?_
      refine mGo.iconst (n := 1652) (v := (3 : Int32)) dL_law_1651 (by decide) rfl ?_
      refine mGo.iadd (n := 1653) dL_law_1652 rfl ?_
      obtain ⟨x222, e_x222, e⟩ := mBind e
      refine mGo.iald (n := 1654) dL_law_1653 e_x222 rfl ?_
      obtain ⟨x223, e_x223, e⟩ := mBind e
      refine mGo.callV (n := 1657) (y := zX9_nearest) (R' := (mRoom (3) 0 0)) (as := [.int x220, .int x221, .int x222]) (st := [.int x219]) (r0 := v2) dL_law_1654 sc_RL_170 rfl (s_X9_nearest v2 x220 x221 x222 h e_x223) (e_X9_nearest v2 x220 x221 x222 h e_x223) ⟨⟨(Nat.le_of_ble_eq_true rfl), (Nat.le_of_ble_eq_true rfl)⟩, (Nat.le_of_ble_eq_true rfl), (Nat.le_of_ble_eq_true rfl)⟩ (Nat.le_of_ble_eq_true rfl) rfl rfl ?_
      intro _ _ hq
      rw [hq.1, hq.2]
      show mGo w kL_law 72 4414 1657 [some (va_rf v0), some (va_rf v1), some (va_rf v2), some (.int v3)] [.int x223, .int x219] h Q
      refine mGo.icmp_eq (tgt := 1873) (n := 1660) dL_law_1657 (by decide) rfl (fun hc => ?_) (fun hc => ?_)
      · replace e := mIft hc e
        refine mGo.iinc (n := 1876) (x := v3) (v := (v3 + 7)) (ls' := [some (va_rf v0), some (va_rf v1), some (va_rf v2), some (.int (v3 + 7))]) dL_law_1873 rfl rfl ((mSt_set (fun u _ hu => by cases hu; exact mRfc _)).trans rfl) (Nat.le_of_ble_eq_true rfl) rfl ?_
        refine mGo.goto (tgt := 18) dL_law_1876 (by decide) ?_
        cases e
        refine mGo.mk [true, true, true, true] ?_
        exact q
      · replace e := mIff hc e
        refine mGo.iconst (n := 1661) (v := (0 : Int32)) dL_law_1660 (by decide) rfl ?_
        cases e
        exact mGo.zret dL_law_1661 rfl (by decide) (Nat.le_of_ble_eq_true rfl) (Nat.le_of_ble_eq_true rfl) q
    replace e := mIff hc215 e
    by_cases hc224 : (x2 &&& (63 : Int32)) = 36
    · replace e := mIft hc224 e
      refine mGo.tcase (v := 36) (tgt := 1662) hc224 dL_law_33 (by decide) (by decide) (off := 1629) (by decide) (by decide) ?_
      refine mGo.aload_n (n := 1663) (r := v1) dL_law_1662 rfl rfl ?_
      refine mGo.aload_n (n := 1664) (r := v0) dL_law_1663 rfl rfl ?_
      refine mGo.iload_n (n := 1665) (x := v3) dL_law_1664 rfl rfl ?_
      refine mGo.iconst (n := 1666) (v := (1 : Int32)) dL_law_1665 (by decide) rfl ?_
      refine mGo.iadd (n := 1667) dL_law_1666 rfl ?_
      obtain ⟨x225, e_x225, e⟩ := mBind e
      refine mGo.iald (n := 1668) dL_law_1667 e_x225 rfl ?_
      refine mGo.aload_n (n := 1669) (r := v0) dL_law_1668 rfl rfl ?_
      refine mGo.iload_n (n := 1670) (x := v3) dL_law_1669 rfl rfl ?_
      refine mGo.iconst (n := 1671) (v := (2 : Int32)) dL_law_1670 (by decide) rfl ?_
      refine mGo.iadd (n := 1672) dL_law_1671 rfl ?_
      obtain ⟨x226, e_x226, e⟩ := mBind e
      refine mGo.iald (n := 1673) dL_law_1672 e_x226 rfl ?_
      obtain ⟨x227, e_x227, e⟩ := mBind e
      refine mGo.callV (n := 1676) (y := zX8_signal) (R' := (mRoom (1) 0 0)) (as := [.int x225, .int x226]) (st := []) (r0 := v1) dL_law_1673 sc_RL_171 rfl (s_X8_signal v1 x225 x226 h e_x227) (e_X8_signal v1 x225 x226 h e_x227) ⟨⟨(Nat.le_of_ble_eq_true rfl), (Nat.le_of_ble_eq_true rfl)⟩, (Nat.le_of_ble_eq_true rfl), (Nat.le_of_ble_eq_true rfl)⟩ (Nat.le_of_ble_eq_true rfl) rfl rfl ?_
      intro _ _ hq
      rw [hq.1, hq.2]
      show mGo w kL_law 72 4414 1676 [some (va_rf v0), some (va_rf v1), some (va_rf v2), some (.int v3)] [.int x227.1] x227.2 Q
      refine mGo.aload_n (n := 1677) (r := v2) dL_law_1676 rfl rfl ?_
      refine mGo.aload_n (n := 1678) (r := v0) dL_law_1677 rfl rfl ?_
      refine mGo.iload_n (n := 1679) (x := v3) dL_law_1678 rfl rfl ?_
      refine mGo.iconst (n := 1680) (v := (1 : Int32)) dL_law_1679 (by decide) rfl ?_
      refine mGo.iadd (n := 1681) dL_law_1680 rfl ?_
      obtain ⟨x228, e_x228, e⟩ := mBind e
      refine mGo.iald (n := 1682) dL_law_1681 e_x228 rfl ?_
      refine mGo.aload_n (n := 1683) (r := v0) dL_law_1682 rfl rfl ?_
      refine mGo.iload_n (n := 1684) (x := v3) dL_law_1683 rfl rfl ?_
      refine mGo.iconst (n := 1685) (v := (2 : Int32)) dL_law_1684 (by decide) rfl ?_
      refine mGo.iadd (n := 1686) dL_law_1685 rfl ?_
      obtain ⟨x229, e_x229, e⟩ := mBind e
      refine mGo.iald (n := 1687) dL_law_1686 e_x229 rfl ?_
      obtain ⟨x230, e_x230, e⟩ := mBind e
      refine mGo.callV (n := 1690) (y := zX9_signal) (R' := (mRoom (2) 0 0)) (as := [.int x228, .int x229]) (st := [.int x227.1]) (r0 := v2) dL_law_1687 sc_RL_174 rfl (s_X9_signal v2 x228 x229 x227.2 e_x230) (e_X9_signal v2 x228 x229 x227.2 e_x230) ⟨⟨(Nat.le_of_ble_eq_true rfl), (Nat.le_of_ble_eq_true rfl)⟩, (Nat.le_of_ble_eq_true rfl), (Nat.le_of_ble_eq_true rfl)⟩ (Nat.le_of_ble_eq_true rfl) rfl rfl ?_
      intro _ _ hq
      rw [hq.1, hq.2]
      show mGo w kL_law 72 4414 1690 [some (va_rf v0), some (va_rf v1), some (va_rf v2), some (.int v3)] [.int x230.1, .int x227.1] x230.2 Q
      refine mGo.icmp_eq (tgt := 1873) (n := 1693) dL_law_1690 (by decide) rfl (fun hc => ?_) (fun hc => ?_)
      · replace e := mIft hc e
        refine mGo.iinc (n := 1876) (x := v3) (v := (v3 + 7)) (ls' := [some (va_rf v0), some (va_rf v1), some (va_rf v2), some (.int (v3 + 7))]) dL_law_1873 rfl rfl ((mSt_set (fun u _ hu => by cases hu; exact mRfc _)).trans rfl) (Nat.le_of_ble_eq_true rfl) rfl ?_
        refine mGo.goto (tgt := 18) dL_law_1876 (by decide) ?_
        cases e
        refine mGo.mk [true, true, true, true] ?_
        exact q
      · replace e := mIff hc e
        refine mGo.iconst (n := 1694) (v := (0 : Int32)) dL_law_1693 (by decide) rfl ?_
        cases e
        exact mGo.zret dL_law_1694 rfl (by decide) (Nat.le_of_ble_eq_true rfl) (Nat.le_of_ble_eq_true rfl) q
    replace e := mIff hc224 e
    by_cases hc231 : (x2 &&& (63 : Int32)) = 37
    · replace e := mIft hc231 e
      refine mGo.tcase (v := 37) (tgt := 1695) hc231 dL_law_33 (by decide) (by decide) (off := 1662) (by decide) (by decide) ?_
      refine mGo.aload_n (n := 1696) (r := v1) dL_law_1695 rfl rfl ?_
      refine mGo.aload_n (n := 1697) (r := v0) dL_law_1696 rfl rfl ?_
      refine mGo.iload_n (n := 1698) (x := v3) dL_law_1697 rfl rfl ?_
      refine mGo.iconst (n := 1699) (v := (1 : Int32)) dL_law_1698 (by decide) rfl ?_
      refine mGo.iadd (n := 1700) dL_law_1699 rfl ?_
      obtain ⟨x232, e_x232, e⟩ := mBind e
      refine mGo.iald (n := 1701) dL_law_1700 e_x232 rfl ?_
      refine mGo.aload_n (n := 1702) (r := v0) dL_law_1701 rfl rfl ?_
      refine mGo.iload_n (n := 1703) (x := v3) dL_law_1702 rfl rfl ?_
      refine mGo.iconst (n := 1704) (v := (2 : Int32)) dL_law_1703 (by decide) rfl ?_
      refine mGo.iadd (n := 1705) dL_law_1704 rfl ?_
      obtain ⟨x233, e_x233, e⟩ := mBind e
      refine mGo.iald (n := 1706) dL_law_1705 e_x233 rfl ?_
      refine mGo.aload_n (n := 1707) (r := v0) dL_law_1706 rfl rfl ?_
      refine mGo.iload_n (n := 1708) (x := v3) dL_law_1707 rfl rfl ?_
      refine mGo.iconst (n := 1709) (v := (3 : Int32)) dL_law_1708 (by decide) rfl ?_
      refine mGo.iadd (n := 1710) dL_law_1709 rfl ?_
      obtain ⟨x234, e_x234, e⟩ := mBind e
      refine mGo.iald (n := 1711) dL_law_1710 e_x234 rfl ?_
      refine mGo.if_eq (tgt := 1718) (n := 1714) dL_law_1711 (by decide) rfl (fun hc => ?_) (fun hc => ?_)
      · replace e := mIft hc e
        refine mGo.iconst (n := 1719) (v := (0 : Int32)) dL_law_1718 (by decide) rfl ?_
        refine mGo.mk [true, true, true, true] ?_
        exact g_L_law_c1719 v0 v1 v2 v3 v1 x232 x233 (0 : Int32) h e q
      · replace e := mIff hc e
        refine mGo.iconst (n := 1715) (v := (1 : Int32)) dL_law_1714 (by decide) rfl ?_
        refine mGo.goto (tgt := 1719) dL_law_1715 (by decide) ?_
        refine mGo.mk [true, true, true, true] ?_
        exact g_L_law_c1719 v0 v1 v2 v3 v1 x232 x233 (1 : Int32) h e q
    replace e := mIff hc231 e
    by_cases hc235 : (x2 &&& (63 : Int32)) = 38
    · replace e := mIft hc235 e
      refine mGo.tcase (v := 38) (tgt := 1754) hc235 dL_law_33 (by decide) (by decide) (off := 1721) (by decide) (by decide) ?_
      refine mGo.aload_n (n := 1755) (r := v1) dL_law_1754 rfl rfl ?_
      refine mGo.aload_n (n := 1756) (r := v0) dL_law_1755 rfl rfl ?_
      refine mGo.iload_n (n := 1757) (x := v3) dL_law_1756 rfl rfl ?_
      refine mGo.iconst (n := 1758) (v := (1 : Int32)) dL_law_1757 (by decide) rfl ?_
      refine mGo.iadd (n := 1759) dL_law_1758 rfl ?_
      obtain ⟨x236, e_x236, e⟩ := mBind e
      refine mGo.iald (n := 1760) dL_law_1759 e_x236 rfl ?_
      refine mGo.aload_n (n := 1761) (r := v0) dL_law_1760 rfl rfl ?_
      refine mGo.iload_n (n := 1762) (x := v3) dL_law_1761 rfl rfl ?_
      refine mGo.iconst (n := 1763) (v := (2 : Int32)) dL_law_1762 (by decide) rfl ?_
      refine mGo.iadd (n := 1764) dL_law_1763 rfl ?_
      obtain ⟨x237, e_x237, e⟩ := mBind e
      refine mGo.iald (n := 1765) dL_law_1764 e_x237 rfl ?_
      refine mGo.aload_n (n := 1766) (r := v0) dL_law_1765 rfl rfl ?_
      refine mGo.iload_n (n := 1767) (x := v3) dL_law_1766 rfl rfl ?_
      refine mGo.iconst (n := 1768) (v := (3 : Int32)) dL_law_1767 (by decide) rfl ?_
      refine mGo.iadd (n := 1769) dL_law_1768 rfl ?_
      obtain ⟨x238, e_x238, e⟩ := mBind e
      refine mGo.iald (n := 1770) dL_law_1769 e_x238 rfl ?_
      refine mGo.aload_n (n := 1771) (r := v0) dL_law_1770 rfl rfl ?_
      refine mGo.iload_n (n := 1772) (x := v3) dL_law_1771 rfl rfl ?_
      refine mGo.iconst (n := 1773) (v := (4 : Int32)) dL_law_1772 (by decide) rfl ?_
      refine mGo.iadd (n := 1774) dL_law_1773 rfl ?_
      obtain ⟨x239, e_x239, e⟩ := mBind e
      refine mGo.iald (n := 1775) dL_law_1774 e_x239 rfl ?_
      obtain ⟨x240, e_x240, e⟩ := mBind e
      refine mGo.callV (n := 1778) (y := zX8_field) (R' := (mRoom (5) 0 0)) (as := [.int x236, .int x237, .int x238, .int x239]) (st := []) (r0 := v1) dL_law_1775 sc_RL_180 rfl (s_X8_field v1 x236 x237 x238 x239 h e_x240) (e_X8_field v1 x236 x237 x238 x239 h e_x240) ⟨⟨(Nat.le_of_ble_eq_true rfl), (Nat.le_of_ble_eq_true rfl)⟩, (Nat.le_of_ble_eq_true rfl), (Nat.le_of_ble_eq_true rfl)⟩ (Nat.le_of_ble_eq_true rfl) rfl rfl ?_
      intro _ _ hq
      rw [hq.1, hq.2]
      show mGo w kL_law 72 4414 1778 [some (va_rf v0), some (va_rf v1), some (va_rf v2), some (.int v3)] [.int x240] h Q
      refine mGo.aload_n (n := 1779) (r := v2) dL_law_1778 rfl rfl ?_
      refine mGo.aload_n (n := 1780) (r := v0) dL_law_1779 rfl rfl ?_
      refine mGo.iload_n (n := 1781) (x := v3) dL_law_1780 rfl rfl ?_
      refine mGo.iconst (n := 1782) (v := (1 : Int32)) dL_law_1781 (by decide) rfl ?_
      refine mGo.iadd (n := 1783) dL_law_1782 rfl ?_
      obtain ⟨x241, e_x241, e⟩ := mBind e
      refine mGo.iald (n := 1784) dL_law_1783 e_x241 rfl ?_
      refine mGo.aload_n (n := 1785) (r := v0) dL_law_1784 rfl rfl ?_
      refine mGo.iload_n (n := 1786) (x := v3) dL_law_1785 rfl rfl ?_
      refine mGo.iconst (n := 1787) (v := (2 : Int32)) dL_law_1786 (by decide) rfl ?_
      refine mGo.iadd (n := 1788) dL_law_1787 rfl ?_
      obtain ⟨x242, e_x242, e⟩ := mBind e
      refine mGo.iald (n := 1789) dL_law_1788 e_x242 rfl ?_
      refine mGo.aload_n (n := 1790) (r := v0) dL_law_1789 rfl rfl ?_
      refine mGo.iload_n (n := 1791) (x := v3) dL_law_1790 rfl rfl ?_
      refine mGo.iconst (n := 1792) (v := (3 : Int32)) dL_law_1791 (by decide) rfl ?_
      refine mGo.iadd (n := 1793) dL_law_1792 rfl ?_
      obtain ⟨x243, e_x243, e⟩ := mBind e
      refine mGo.iald (n := 1794) dL_law_1793 e_x243 rfl ?_
      refine mGo.aload_n (n := 1795) (r := v0) dL_law_1794 rfl rfl ?_
      refine mGo.iload_n (n := 1796) (x := v3) dL_law_1795 rfl rfl ?_
      refine mGo.iconst (n := 1797) (v := (4 : Int32)) dL_law_1796 (by decide) rfl ?_
      refine mGo.iadd (n := 1798) dL_law_1797 rfl ?_
      obtain ⟨x244, e_x244, e⟩ := mBind e
      refine mGo.iald (n := 1799) dL_law_1798 e_x244 rfl ?_
      obtain ⟨x245, e_x245, e⟩ := mBind e
      refine mGo.callV (n := 1802) (y := zX9_field) (R' := (mRoom (4) 0 0)) (as := [.int x241, .int x242, .int x243, .int x244]) (st := [.int x240]) (r0 := v2) dL_law_1799 sc_RL_183 rfl (s_X9_field v2 x241 x242 x243 x244 h e_x245) (e_X9_field v2 x241 x242 x243 x244 h e_x245) ⟨⟨(Nat.le_of_ble_eq_true rfl), (Nat.le_of_ble_eq_true rfl)⟩, (Nat.le_of_ble_eq_true rfl), (Nat.le_of_ble_eq_true rfl)⟩ (Nat.le_of_ble_eq_true rfl) rfl rfl ?_
      intro _ _ hq
      rw [hq.1, hq.2]
      show mGo w kL_law 72 4414 1802 [some (va_rf v0), some (va_rf v1), some (va_rf v2), some (.int v3)] [.int x245, .int x240] h Q
      refine mGo.icmp_eq (tgt := 1873) (n := 1805) dL_law_1802 (by decide) rfl (fun hc => ?_) (fun hc => ?_)
      · replace e := mIft hc e
        refine mGo.iinc (n := 1876) (x := v3) (v := (v3 + 7)) (ls' := [some (va_rf v0), some (va_rf v1), some (va_rf v2), some (.int (v3 + 7))]) dL_law_1873 rfl rfl ((mSt_set (fun u _ hu => by cases hu; exact mRfc _)).trans rfl) (Nat.le_of_ble_eq_true rfl) rfl ?_
        refine mGo.goto (tgt := 18) dL_law_1876 (by decide) ?_
        cases e
        refine mGo.mk [true, true, true, true] ?_
        exact q
      · replace e := mIff hc e
        refine mGo.iconst (n := 1806) (v := (0 : Int32)) dL_law_1805 (by decide) rfl ?_
        cases e
        exact mGo.zret dL_law_1806 rfl (by decide) (Nat.le_of_ble_eq_true rfl) (Nat.le_of_ble_eq_true rfl) q
    replace e := mIff hc235 e
    by_cases hc246 : (x2 &&& (63 : Int32)) = 39
    · replace e := mIft hc246 e
      refine mGo.tcase (v := 39) (tgt := 1807) hc246 dL_law_33 (by decide) (by decide) (off := 1774) (by decide) (by decide) ?_
      refine mGo.aload_n (n := 1808) (r := v1) dL_law_1807 rfl rfl ?_
      refine mGo.aload_n (n := 1809) (r := v0) dL_law_1808 rfl rfl ?_
      refine mGo.iload_n (n := 1810) (x := v3) dL_law_1809 rfl rfl ?_
      refine mGo.iconst (n := 1811) (v := (1 : Int32)) dL_law_1810 (by decide) rfl ?_
      refine mGo.iadd (n := 1812) dL_law_1811 rfl ?_
      obtain ⟨x247, e_x247, e⟩ := mBind e
      refine mGo.iald (n := 1813) dL_law_1812 e_x247 rfl ?_
      refine mGo.aload_n (n := 1814) (r := v0) dL_law_1813 rfl rfl ?_
      refine mGo.iload_n (n := 1815) (x := v3) dL_law_1814 rfl rfl ?_
      refine mGo.iconst (n := 1816) (v := (2 : Int32)) dL_law_1815 (by decide) rfl ?_
      refine mGo.iadd (n := 1817) dL_law_1816 rfl ?_
      obtain ⟨x248, e_x248, e⟩ := mBind e
      refine mGo.iald (n := 1818) dL_law_1817 e_x248 rfl ?_
      refine mGo.aload_n (n := 1819) (r := v0) dL_law_1818 rfl rfl ?_
      refine mGo.iload_n (n := 1820) (x := v3) dL_law_1819 rfl rfl ?_
      refine mGo.iconst (n := 1821) (v := (3 : Int32)) dL_law_1820 (by decide) rfl ?_
      refine mGo.iadd (n := 1822) dL_law_1821 rfl ?_
      obtain ⟨x249, e_x249, e⟩ := mBind e
      refine mGo.iald (n := 1823) dL_law_1822 e_x249 rfl ?_
      obtain ⟨x250, e_x250, e⟩ := mBind e
      refine mGo.callV (n := 1826) (y := zX8_fours) (R' := (mRoom (6) 0 0)) (as := [.int x247, .int x248, .int x249]) (st := []) (r0 := v1) dL_law_1823 sc_RL_184 rfl (s_X8_fours v1 x247 x248 x249 h e_x250) (e_X8_fours v1 x247 x248 x249 h e_x250) ⟨⟨(Nat.le_of_ble_eq_true rfl), (Nat.le_of_ble_eq_true rfl)⟩, (Nat.le_of_ble_eq_true rfl), (Nat.le_of_ble_eq_true rfl)⟩ (Nat.le_of_ble_eq_true rfl) rfl rfl ?_
      intro _ _ hq
      rw [hq.1, hq.2]
      show mGo w kL_law 72 4414 1826 [some (va_rf v0), some (va_rf v1), some (va_rf v2), some (.int v3)] [.int x250.1] x250.2 Q
      refine mGo.aload_n (n := 1827) (r := v2) dL_law_1826 rfl rfl ?_
      refine mGo.aload_n (n := 1828) (r := v0) dL_law_1827 rfl rfl ?_
      refine mGo.iload_n (n := 1829) (x := v3) dL_law_1828 rfl rfl ?_
      refine mGo.iconst (n := 1830) (v := (1 : Int32)) dL_law_1829 (by decide) rfl ?_
      refine mGo.iadd (n := 1831) dL_law_1830 rfl ?_
      obtain ⟨x251, e_x251, e⟩ := mBind e
      refine mGo.iald (n := 1832) dL_law_1831 e_x251 rfl ?_
      refine mGo.aload_n (n := 1833) (r := v0) dL_law_1832 rfl rfl ?_
      refine mGo.iload_n (n := 1834) (x := v3) dL_law_1833 rfl rfl ?_
      refine mGo.iconst (n := 1835) (v := (2 : Int32)) dL_law_1834 (by decide) rfl ?_
      refine mGo.iadd (n := 1836) dL_law_1835 rfl ?_
      obtain ⟨x252, e_x252, e⟩ := mBind e
      refine mGo.iald (n := 1837) dL_law_1836 e_x252 rfl ?_
      refine mGo.aload_n (n := 1838) (r := v0) dL_law_1837 rfl rfl ?_
      refine mGo.iload_n (n := 1839) (x := v3) dL_law_1838 rfl rfl ?_
      refine mGo.iconst (n := 1840) (v := (3 : Int32)) dL_law_1839 (by decide) rfl ?_
      refine mGo.iadd (n := 1841) dL_law_1840 rfl ?_
      obtain ⟨x253, e_x253, e⟩ := mBind e
      refine mGo.iald (n := 1842) dL_law_1841 e_x253 rfl ?_
      obtain ⟨x254, e_x254, e⟩ := mBind e
      refine mGo.callV (n := 1845) (y := zX9_fours) (R' := (mRoom (4) 0 0)) (as := [.int x251, .int x252, .int x253]) (st := [.int x250.1]) (r0 := v2) dL_law_1842 sc_RL_187 rfl (s_X9_fours v2 x251 x252 x253 x250.2 e_x254) (e_X9_fours v2 x251 x252 x253 x250.2 e_x254) ⟨⟨(Nat.le_of_ble_eq_true rfl), (Nat.le_of_ble_eq_true rfl)⟩, (Nat.le_of_ble_eq_true rfl), (Nat.le_of_ble_eq_true rfl)⟩ (Nat.le_of_ble_eq_true rfl) rfl rfl ?_
      intro _ _ hq
      rw [hq.1, hq.2]
      show mGo w kL_law 72 4414 1845 [some (va_rf v0), some (va_rf v1), some (va_rf v2), some (.int v3)] [.int x254.1, .int x250.1] x254.2 Q
      refine mGo.icmp_eq (tgt := 1873) (n := 1848) dL_law_1845 (by decide) rfl (fun hc => ?_) (fun hc => ?_)
      · replace e := mIft hc e
        refine mGo.iinc (n := 1876) (x := v3) (v := (v3 + 7)) (ls' := [some (va_rf v0), some (va_rf v1), some (va_rf v2), some (.int (v3 + 7))]) dL_law_1873 rfl rfl ((mSt_set (fun u _ hu => by cases hu; exact mRfc _)).trans rfl) (Nat.le_of_ble_eq_true rfl) rfl ?_
        refine mGo.goto (tgt := 18) dL_law_1876 (by decide) ?_
        cases e
        refine mGo.mk [true, true, true, true] ?_
        exact q
      · replace e := mIff hc e
        refine mGo.iconst (n := 1849) (v := (0 : Int32)) dL_law_1848 (by decide) rfl ?_
        cases e
        exact mGo.zret dL_law_1849 rfl (by decide) (Nat.le_of_ble_eq_true rfl) (Nat.le_of_ble_eq_true rfl) q
    replace e := mIff hc246 e
    by_cases hc255 : (x2 &&& (63 : Int32)) = 40
    · replace e := mIft hc255 e
      refine mGo.tcase (v := 40) (tgt := 1850) hc255 dL_law_33 (by decide) (by decide) (off := 1817) (by decide) (by decide) ?_
      refine mGo.aload_n (n := 1851) (r := v1) dL_law_1850 rfl rfl ?_
      refine mGo.aload_n (n := 1852) (r := v0) dL_law_1851 rfl rfl ?_
      refine mGo.iload_n (n := 1853) (x := v3) dL_law_1852 rfl rfl ?_
      refine mGo.iconst (n := 1854) (v := (1 : Int32)) dL_law_1853 (by decide) rfl ?_
      refine mGo.iadd (n := 1855) dL_law_1854 rfl ?_
      obtain ⟨x256, e_x256, e⟩ := mBind e
      refine mGo.iald (n := 1856) dL_law_1855 e_x256 rfl ?_
      obtain ⟨x257, e_x257, e⟩ := mBind e
      refine mGo.callV (n := 1859) (y := zX8_count) (R' := (mRoom (5) 0 0)) (as := [.int x256]) (st := []) (r0 := v1) dL_law_1856 sc_RL_188 rfl (s_X8_count v1 x256 h e_x257) (e_X8_count v1 x256 h e_x257) ⟨⟨(Nat.le_of_ble_eq_true rfl), (Nat.le_of_ble_eq_true rfl)⟩, (Nat.le_of_ble_eq_true rfl), (Nat.le_of_ble_eq_true rfl)⟩ (Nat.le_of_ble_eq_true rfl) rfl rfl ?_
      intro _ _ hq
      rw [hq.1, hq.2]
      show mGo w kL_law 72 4414 1859 [some (va_rf v0), some (va_rf v1), some (va_rf v2), some (.int v3)] [.int x257] h Q
      refine mGo.aload_n (n := 1860) (r := v2) dL_law_1859 rfl rfl ?_
      refine mGo.aload_n (n := 1861) (r := v0) dL_law_1860 rfl rfl ?_
      refine mGo.iload_n (n := 1862) (x := v3) dL_law_1861 rfl rfl ?_
      refine mGo.iconst (n := 1863) (v := (1 : Int32)) dL_law_1862 (by decide) rfl ?_
      refine mGo.iadd (n := 1864) dL_law_1863 rfl ?_
      obtain ⟨x258, e_x258, e⟩ := mBind e
      refine mGo.iald (n := 1865) dL_law_1864 e_x258 rfl ?_
      obtain ⟨x259, e_x259, e⟩ := mBind e
      refine mGo.callV (n := 1868) (y := zX9_count) (R' := (mRoom (5) 0 0)) (as := [.int x258]) (st := [.int x257]) (r0 := v2) dL_law_1865 sc_RL_191 rfl (s_X9_count v2 x258 h e_x259) (e_X9_count v2 x258 h e_x259) ⟨⟨(Nat.le_of_ble_eq_true rfl), (Nat.le_of_ble_eq_true rfl)⟩, (Nat.le_of_ble_eq_true rfl), (Nat.le_of_ble_eq_true rfl)⟩ (Nat.le_of_ble_eq_true rfl) rfl rfl ?_
      intro _ _ hq
      rw [hq.1, hq.2]
      show mGo w kL_law 72 4414 1868 [some (va_rf v0), some (va_rf v1), some (va_rf v2), some (.int v3)] [.int x259.1, .int x257] x259.2 Q
      refine mGo.icmp_eq (tgt := 1873) (n := 1871) dL_law_1868 (by decide) rfl (fun hc => ?_) (fun hc => ?_)
      · replace e := mIft hc e
        refine mGo.iinc (n := 1876) (x := v3) (v := (v3 + 7)) (ls' := [some (va_rf v0), some (va_rf v1), some (va_rf v2), some (.int (v3 + 7))]) dL_law_1873 rfl rfl ((mSt_set (fun u _ hu => by cases hu; exact mRfc _)).trans rfl) (Nat.le_of_ble_eq_true rfl) rfl ?_
        refine mGo.goto (tgt := 18) dL_law_1876 (by decide) ?_
        cases e
        refine mGo.mk [true, true, true, true] ?_
        exact q
      · replace e := mIff hc e
        refine mGo.iconst (n := 1872) (v := (0 : Int32)) dL_law_1871 (by decide) rfl ?_
        cases e
        exact mGo.zret dL_law_1872 rfl (by decide) (Nat.le_of_ble_eq_true rfl) (Nat.le_of_ble_eq_true rfl) q
    replace e := mIff hc255 e
    refine mGo.tdef (tgt := 1873) [0, 1, 2, 3, 4, 5, 6, 7, 8, 9, 10, 11, 12, 13, 14, 15, 16, 17, 18, 19, 20, 21, 22, 23, 24, 25, 26, 27, 28, 29, 30, 31, 32, 33, 34, 35, 36, 37, 38, 39, 40] dL_law_33 (List.forall_mem_cons.mpr ⟨hc3, (List.forall_mem_cons.mpr ⟨hc8, (List.forall_mem_cons.mpr ⟨hc11, (List.forall_mem_cons.mpr ⟨hc16, (List.forall_mem_cons.mpr ⟨hc21, (List.forall_mem_cons.mpr ⟨hc26, (List.forall_mem_cons.mpr ⟨hc33, (List.forall_mem_cons.mpr ⟨hc46, (List.forall_mem_cons.mpr ⟨hc53, (List.forall_mem_cons.mpr ⟨hc58, (List.forall_mem_cons.mpr ⟨hc63, (List.forall_mem_cons.mpr ⟨hc68, (List.forall_mem_cons.mpr ⟨hc71, (List.forall_mem_cons.mpr ⟨hc74, (List.forall_mem_cons.mpr ⟨hc79, (List.forall_mem_cons.mpr ⟨hc94, (List.forall_mem_cons.mpr ⟨hc99, (List.forall_mem_cons.mpr ⟨hc104, (List.forall_mem_cons.mpr ⟨hc107, (List.forall_mem_cons.mpr ⟨hc110, (List.forall_mem_cons.mpr ⟨hc113, (List.forall_mem_cons.mpr ⟨hc120, (List.forall_mem_cons.mpr ⟨hc125, (List.forall_mem_cons.mpr ⟨hc132, (List.forall_mem_cons.mpr ⟨hc135, (List.forall_mem_cons.mpr ⟨hc138, (List.forall_mem_cons.mpr ⟨hc145, (List.forall_mem_cons.mpr ⟨hc150, (List.forall_mem_cons.mpr ⟨hc157, (List.forall_mem_cons.mpr ⟨hc161, (List.forall_mem_cons.mpr ⟨hc166, (List.forall_mem_cons.mpr ⟨hc175, (List.forall_mem_cons.mpr ⟨hc184, (List.forall_mem_cons.mpr ⟨hc195, (List.forall_mem_cons.mpr ⟨hc206, (List.forall_mem_cons.mpr ⟨hc215, (List.forall_mem_cons.mpr ⟨hc224, (List.forall_mem_cons.mpr ⟨hc231, (List.forall_mem_cons.mpr ⟨hc235, (List.forall_mem_cons.mpr ⟨hc246, (List.forall_mem_cons.mpr ⟨hc255, (fun _ hm => absurd hm List.not_mem_nil)⟩)⟩)⟩)⟩)⟩)⟩)⟩)⟩)⟩)⟩)⟩)⟩)⟩)⟩)⟩)⟩)⟩)⟩)⟩)⟩)⟩)⟩)⟩)⟩)⟩)⟩)⟩)⟩)⟩)⟩)⟩)⟩)⟩)⟩)⟩)⟩)⟩)⟩)⟩)⟩)⟩) (by decide) (by decide +kernel) (by decide) ?_
    refine mGo.iinc (n := 1876) (x := v3) (v := (v3 + 7)) (ls' := [some (va_rf v0), some (va_rf v1), some (va_rf v2), some (.int (v3 + 7))]) dL_law_1873 rfl rfl ((mSt_set (fun u _ hu => by cases hu; exact mRfc _)).trans rfl) (Nat.le_of_ble_eq_true rfl) rfl ?_
    refine mGo.goto (tgt := 18) dL_law_1876 (by decide) ?_
    cases e
    refine mGo.mk [true, true, true, true] ?_
    exact q
noncomputable def f_L_law_l18 (v0 : Option Nat) (v1 : Option Nat) (v2 : Option Nat) (v3 : Int32) (h : mH) : Option (Int32 × mH) :=
  mLoop (fun x : Int32 × mH => f_L_law_b18 v0 v1 v2 x.1 x.2) (v3, h)
set_option maxRecDepth 100000 in
set_option maxHeartbeats 4000000 in
theorem g_L_law_l18 {w : mWp} {Q : Option Value → mH → Prop} (v0 : Option Nat) (v1 : Option Nat) (v2 : Option Nat) (v3 : Int32) (h : mH) {res : Int32 × mH} (e : f_L_law_l18 v0 v1 v2 v3 h = some res) (q : (fun r : Int32 × mH => Q (some (.int r.1)) r.2) res) : mGo w kL_law 72 4414 18 [some (va_rf v0), some (va_rf v1), some (va_rf v2), some (.int v3)] [] h Q := by
  unfold f_L_law_l18 at e
  refine mLoop_go (x := (v3, h)) (fun x : Int32 × mH => mGo w kL_law 72 4414 18 [some (va_rf v0), some (va_rf v1), some (va_rf v2), some (.int x.1)] [] x.2 Q) (fun r : Int32 × mH => Q (some (.int r.1)) r.2) ?_ e q
  rintro ⟨v3, h1⟩ res e q
  exact g_L_law_b18 v0 v1 v2 v3 h1 e q
noncomputable def f_L_law (v0 : Option Nat) (h : mH) : Option (Int32 × mH) :=
  (some (mNew h (.inr (7, [.null, .null, .int 0, .null, .null, .null, .null, .null, .null, .null, .null])))).bind fun h1 =>
  (f_X8_init (h.1 + 1) h1).bind fun x2 =>
  (some (mNew x2 (.inr (8, [.int 0, .null, .null, .null, .null, .null, .null, .int 0, .null, .null, .null, .null, .int 0, .int 0, .null, .null, .null, .null, .null, .null, .null, .null, .null, .null, .null])))).bind fun h3 =>
  (f_X9_init (x2.1 + 1) h3).bind fun x4 =>
  f_L_law_l18 v0 (some (h.1 + 1)) (some (x2.1 + 1)) (0 : Int32) x4
set_option maxRecDepth 100000 in
set_option maxHeartbeats 4000000 in
theorem g_L_law {w : mWp} {Q : Option Value → mH → Prop} (v0 : Option Nat) (h : mH) {res : Int32 × mH} (e : f_L_law v0 h = some res) (q : (fun r : Int32 × mH => Q (some (.int r.1)) r.2) res) : mGo w kL_law 0 0 0 [some (va_rf v0), none, none, none] [] h Q := by
  unfold f_L_law at e
  obtain ⟨h1, e_h1, e⟩ := mBind e
  refine mGo.newO' (n := 3) (ci := 7) (fs := [.null, .null, .int 0, .null, .null, .null, .null, .null, .null, .null, .null]) dL_law_0 (by decide) (mT_at 96 (by decide +kernel) rfl) (mT_at 97 (by decide +kernel) rfl) (mT_at 83 (by decide +kernel) rfl) (by decide) (Nat.le_of_ble_eq_true rfl) (Nat.le_of_ble_eq_true rfl) rfl e_h1 ?_
  show mGo w kL_law 1 11 3 [some (va_rf v0), none, none, none] [va_rf (some (h.1 + 1))] h1 Q
  refine mGo.dup (n := 4) dL_law_3 (mRfc _) rfl ?_
  obtain ⟨x2, e_x2, e⟩ := mBind e
  refine mGo.callI (n := 7) (y := (yX8_init, cX8_init, 2)) (R' := (mRoom (3) 49 2866)) (as := []) (st := [va_rf (some (h.1 + 1))]) (b := (h.1 + 1)) dL_law_4 sc_RL_9 rfl (e_X8_init (h.1 + 1) h1 e_x2) ⟨⟨(Nat.le_of_ble_eq_true rfl), (Nat.le_of_ble_eq_true rfl)⟩, (Nat.le_of_ble_eq_true rfl), (Nat.le_of_ble_eq_true rfl)⟩ (mCat8 (Nat.le_of_ble_eq_true rfl)) rfl rfl ?_
  intro _ _ hq
  rw [hq.1, hq.2]
  show mGo w kL_law 50 2877 7 [some (va_rf v0), none, none, none] [va_rf (some (h.1 + 1))] x2 Q
  refine mGo.astore_n (n := 8) (ls' := [some (va_rf v0), some (va_rf (some (h.1 + 1))), none, none]) dL_law_7 ((mSt_set (fun u _ hu => by cases hu; exact mRfc _)).trans rfl) (Nat.le_of_ble_eq_true rfl) rfl ?_
  obtain ⟨h3, e_h3, e⟩ := mBind e
  refine mGo.newO' (n := 11) (ci := 8) (fs := [.int 0, .null, .null, .null, .null, .null, .null, .int 0, .null, .null, .null, .null, .int 0, .int 0, .null, .null, .null, .null, .null, .null, .null, .null, .null, .null, .null]) dL_law_8 (by decide) (mT_at 797 (by decide +kernel) rfl) (mT_at 798 (by decide +kernel) rfl) (mT_at 91 (by decide +kernel) rfl) (by decide) (Nat.le_of_ble_eq_true rfl) (Nat.le_of_ble_eq_true rfl) rfl e_h3 ?_
  show mGo w kL_law 51 2902 11 [some (va_rf v0), some (va_rf (some (h.1 + 1))), none, none] [va_rf (some (x2.1 + 1))] h3 Q
  refine mGo.dup (n := 12) dL_law_11 (mRfc _) rfl ?_
  obtain ⟨x4, e_x4, e⟩ := mBind e
  refine mGo.callI (n := 15) (y := (yX9_init, cX9_init, 1)) (R' := (mRoom (2) 21 1512)) (as := []) (st := [va_rf (some (x2.1 + 1))]) (b := (x2.1 + 1)) dL_law_12 sc_RL_12 rfl (e_X9_init (x2.1 + 1) h3 e_x4) ⟨⟨(Nat.le_of_ble_eq_true rfl), (Nat.le_of_ble_eq_true rfl)⟩, (Nat.le_of_ble_eq_true rfl), (Nat.le_of_ble_eq_true rfl)⟩ (mCat8 (Nat.le_of_ble_eq_true rfl)) rfl rfl ?_
  intro _ _ hq
  rw [hq.1, hq.2]
  show mGo w kL_law 72 4414 15 [some (va_rf v0), some (va_rf (some (h.1 + 1))), none, none] [va_rf (some (x2.1 + 1))] x4 Q
  refine mGo.astore_n (n := 16) (ls' := [some (va_rf v0), some (va_rf (some (h.1 + 1))), some (va_rf (some (x2.1 + 1))), none]) dL_law_15 ((mSt_set (fun u _ hu => by cases hu; exact mRfc _)).trans rfl) (Nat.le_of_ble_eq_true rfl) rfl ?_
  refine mGo.iconst (n := 17) (v := (0 : Int32)) dL_law_16 (by decide) rfl ?_
  refine mGo.istore_n (n := 18) (ls' := [some (va_rf v0), some (va_rf (some (h.1 + 1))), some (va_rf (some (x2.1 + 1))), some (.int (0 : Int32))]) dL_law_17 ((mSt_set (fun u _ hu => by cases hu; exact mRfc _)).trans rfl) (Nat.le_of_ble_eq_true rfl) rfl ?_
  refine mGo.mk [true, true, true, true] ?_
  exact g_L_law_l18 v0 (some (h.1 + 1)) (some (x2.1 + 1)) (0 : Int32) x4 e q
