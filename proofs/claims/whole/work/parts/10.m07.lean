-- X9_in
def kX9_in : mK := (cX9_in, RX9, 3, some (.boolean), "in", mRoom 1 0 0)
def zX9_in : mY := (yX9_in, cX9_in, 3, some (.boolean))
def f_X9_in (v0 : Int32) (v1 : Int32) (v2 : Int32)  : Option (Int32) :=
  if v0 < v1 then
    some (0 : Int32)
  else
    if v2 < v0 then
      some (0 : Int32)
    else
      some (1 : Int32)
set_option maxRecDepth 100000 in
set_option maxHeartbeats 4000000 in
theorem g_X9_in {w : mWp} {Q : Option Value → mH → Prop} (v0 : Int32) (v1 : Int32) (v2 : Int32) (h : mH) {res : Int32} (e : f_X9_in v0 v1 v2 = some res) (q : (fun r : Int32 => Q (some (.int r)) h) res) : mGo w kX9_in 0 0 0 [some (.int v0), some (.int v1), some (.int v2)] [] h Q := by
  unfold f_X9_in at e
  refine mGo.iload_n (n := 1) (x := v0) dX9_in_0 rfl rfl ?_
  refine mGo.iload_n (n := 2) (x := v1) dX9_in_1 rfl rfl ?_
  refine mGo.icmp_lt (tgt := 14) (n := 5) dX9_in_2 (by decide) rfl (fun hc => ?_) (fun hc => ?_)
  · replace e := mIft hc e
    refine mGo.iconst (n := 15) (v := (0 : Int32)) dX9_in_14 (by decide) rfl ?_
    cases e
    exact mGo.zret dX9_in_15 rfl (by decide) (Nat.le_of_ble_eq_true rfl) (Nat.le_of_ble_eq_true rfl) q
  · replace e := mIff hc e
    refine mGo.iload_n (n := 6) (x := v0) dX9_in_5 rfl rfl ?_
    refine mGo.iload_n (n := 7) (x := v2) dX9_in_6 rfl rfl ?_
    refine mGo.icmp_gt (tgt := 14) (n := 10) dX9_in_7 (by decide) rfl (fun hc => ?_) (fun hc => ?_)
    · replace e := mIft hc e
      refine mGo.iconst (n := 15) (v := (0 : Int32)) dX9_in_14 (by decide) rfl ?_
      cases e
      exact mGo.zret dX9_in_15 rfl (by decide) (Nat.le_of_ble_eq_true rfl) (Nat.le_of_ble_eq_true rfl) q
    · replace e := mIff hc e
      refine mGo.iconst (n := 11) (v := (1 : Int32)) dX9_in_10 (by decide) rfl ?_
      refine mGo.goto (tgt := 15) dX9_in_11 (by decide) ?_
      cases e
      exact mGo.zret dX9_in_15 rfl (by decide) (Nat.le_of_ble_eq_true rfl) (Nat.le_of_ble_eq_true rfl) q
theorem e_X9_in {w : mWp} (v0 : Int32) (v1 : Int32) (v2 : Int32) (h : mH) {res : Int32} (e : f_X9_in v0 v1 v2 = some res) : mEx w zX9_in (mRoom 1 0 0) [.int v0, .int v1, .int v2] h (fun r h2 => r = some (.int res) ∧ h2 = h) := by
  refine mEx.of (by decide +kernel) rfl (Nat.le_of_ble_eq_true rfl) ?_
  refine g_X9_in v0 v1 v2 h e ?_
  exact ⟨rfl, rfl⟩
-- X9_has
def kX9_has : mK := (cX9_has, RX9, 2, some (.boolean), "has", mRoom 1 0 0)
def zX9_has : mY := (yX9_has, cX9_has, 2, some (.boolean))
def f_X9_has (v0 : Int32) (v1 : Int32)  : Option (Int32) :=
  if ((v0 >>> (v1 &&& 31)) &&& (1 : Int32)) = (1 : Int32) then
    some (1 : Int32)
  else
    some (0 : Int32)
set_option maxRecDepth 100000 in
set_option maxHeartbeats 4000000 in
theorem g_X9_has {w : mWp} {Q : Option Value → mH → Prop} (v0 : Int32) (v1 : Int32) (h : mH) {res : Int32} (e : f_X9_has v0 v1 = some res) (q : (fun r : Int32 => Q (some (.int r)) h) res) : mGo w kX9_has 0 0 0 [some (.int v0), some (.int v1)] [] h Q := by
  unfold f_X9_has at e
  refine mGo.iload_n (n := 1) (x := v0) dX9_has_0 rfl rfl ?_
  refine mGo.iload_n (n := 2) (x := v1) dX9_has_1 rfl rfl ?_
  refine mGo.ishr (n := 3) dX9_has_2 rfl ?_
  refine mGo.iconst (n := 4) (v := (1 : Int32)) dX9_has_3 (by decide) rfl ?_
  refine mGo.iand (n := 5) dX9_has_4 rfl ?_
  refine mGo.iconst (n := 6) (v := (1 : Int32)) dX9_has_5 (by decide) rfl ?_
  refine mGo.icmp_ne (tgt := 13) (n := 9) dX9_has_6 (by decide) rfl (fun hc => ?_) (fun hc => ?_)
  · replace e := mIff hc e
    refine mGo.iconst (n := 14) (v := (0 : Int32)) dX9_has_13 (by decide) rfl ?_
    cases e
    exact mGo.zret dX9_has_14 rfl (by decide) (Nat.le_of_ble_eq_true rfl) (Nat.le_of_ble_eq_true rfl) q
  · replace e := mIft hc e
    refine mGo.iconst (n := 10) (v := (1 : Int32)) dX9_has_9 (by decide) rfl ?_
    refine mGo.goto (tgt := 14) dX9_has_10 (by decide) ?_
    cases e
    exact mGo.zret dX9_has_14 rfl (by decide) (Nat.le_of_ble_eq_true rfl) (Nat.le_of_ble_eq_true rfl) q
theorem e_X9_has {w : mWp} (v0 : Int32) (v1 : Int32) (h : mH) {res : Int32} (e : f_X9_has v0 v1 = some res) : mEx w zX9_has (mRoom 1 0 0) [.int v0, .int v1] h (fun r h2 => r = some (.int res) ∧ h2 = h) := by
  refine mEx.of (by decide +kernel) rfl (Nat.le_of_ble_eq_true rfl) ?_
  refine g_X9_has v0 v1 h e ?_
  exact ⟨rfl, rfl⟩
-- X9_bitsOf
def kX9_bitsOf : mK := (cX9_bitsOf, RX9, 2, some (.int), "bitsOf", mRoom 1 0 0)
def zX9_bitsOf : mY := (yX9_bitsOf, cX9_bitsOf, 2, some (.int))
def f_X9_bitsOf_c24 (s0 : Int32) (s1 : Int32) (s2 : Int32)  : Option (Int32) :=
  some ((((s0 + (s1 >>> (s2 &&& 31))) &&& (252645135 : Int32)) * (16843009 : Int32)) >>> ((24 : Int32) &&& 31))
set_option maxRecDepth 100000 in
set_option maxHeartbeats 4000000 in
theorem g_X9_bitsOf_c24 {w : mWp} {Q : Option Value → mH → Prop} (s0 : Int32) (s1 : Int32) (s2 : Int32) (h : mH) {res : Int32} (e : f_X9_bitsOf_c24 s0 s1 s2 = some res) (q : (fun r : Int32 => Q (some (.int r)) h) res) : mGo w kX9_bitsOf 0 0 24 [none, none] [.int s2, .int s1, .int s0] h Q := by
  unfold f_X9_bitsOf_c24 at e
  refine mGo.ishr (n := 25) dX9_bitsOf_24 rfl ?_
  refine mGo.iadd (n := 26) dX9_bitsOf_25 rfl ?_
  refine mGo.ldc (n := 28) (v := (252645135 : Int32)) dX9_bitsOf_26 (mT_at 1008 (by decide +kernel) rfl) rfl ?_
  refine mGo.iand (n := 29) dX9_bitsOf_28 rfl ?_
  refine mGo.istore_n (n := 30) (ls' := [none, some (.int ((s0 + (s1 >>> (s2 &&& 31))) &&& (252645135 : Int32)))]) dX9_bitsOf_29 rfl (Nat.le_of_ble_eq_true rfl) rfl ?_
  refine mGo.iload_n (n := 31) (x := ((s0 + (s1 >>> (s2 &&& 31))) &&& (252645135 : Int32))) dX9_bitsOf_30 rfl rfl ?_
  refine mGo.ldc (n := 33) (v := (16843009 : Int32)) dX9_bitsOf_31 (mT_at 1009 (by decide +kernel) rfl) rfl ?_
  refine mGo.imul (n := 34) dX9_bitsOf_33 rfl ?_
  refine mGo.bipush (n := 36) (v := (24 : Int32)) dX9_bitsOf_34 (by decide) rfl ?_
  refine mGo.ishr (n := 37) dX9_bitsOf_36 rfl ?_
  cases e
  exact mGo.iret dX9_bitsOf_37 rfl (Nat.le_of_ble_eq_true rfl) (Nat.le_of_ble_eq_true rfl) q
def f_X9_bitsOf_c10 (v1 : Int32) (s0 : Int32)  : Option (Int32) :=
  f_X9_bitsOf_c24 ((s0 &&& (858993459 : Int32)) + ((v1 >>> ((2 : Int32) &&& 31)) &&& (858993459 : Int32))) ((s0 &&& (858993459 : Int32)) + ((v1 >>> ((2 : Int32) &&& 31)) &&& (858993459 : Int32))) (4 : Int32)
set_option maxRecDepth 100000 in
set_option maxHeartbeats 4000000 in
theorem g_X9_bitsOf_c10 {w : mWp} {Q : Option Value → mH → Prop} (v1 : Int32) (s0 : Int32) (h : mH) {res : Int32} (e : f_X9_bitsOf_c10 v1 s0 = some res) (q : (fun r : Int32 => Q (some (.int r)) h) res) : mGo w kX9_bitsOf 0 0 10 [none, some (.int v1)] [.int s0] h Q := by
  unfold f_X9_bitsOf_c10 at e
  refine mGo.ldc (n := 12) (v := (858993459 : Int32)) dX9_bitsOf_10 (mT_at 1007 (by decide +kernel) rfl) rfl ?_
  refine mGo.iand (n := 13) dX9_bitsOf_12 rfl ?_
  refine mGo.iload_n (n := 14) (x := v1) dX9_bitsOf_13 rfl rfl ?_
  refine mGo.iconst (n := 15) (v := (2 : Int32)) dX9_bitsOf_14 (by decide) rfl ?_
  refine mGo.ishr (n := 16) dX9_bitsOf_15 rfl ?_
  refine mGo.ldc (n := 18) (v := (858993459 : Int32)) dX9_bitsOf_16 (mT_at 1007 (by decide +kernel) rfl) rfl ?_
  refine mGo.iand (n := 19) dX9_bitsOf_18 rfl ?_
  refine mGo.iadd (n := 20) dX9_bitsOf_19 rfl ?_
  refine mGo.istore_n (n := 21) (ls' := [none, some (.int ((s0 &&& (858993459 : Int32)) + ((v1 >>> ((2 : Int32) &&& 31)) &&& (858993459 : Int32))))]) dX9_bitsOf_20 rfl (Nat.le_of_ble_eq_true rfl) rfl ?_
  refine mGo.iload_n (n := 22) (x := ((s0 &&& (858993459 : Int32)) + ((v1 >>> ((2 : Int32) &&& 31)) &&& (858993459 : Int32)))) dX9_bitsOf_21 rfl rfl ?_
  refine mGo.iload_n (n := 23) (x := ((s0 &&& (858993459 : Int32)) + ((v1 >>> ((2 : Int32) &&& 31)) &&& (858993459 : Int32)))) dX9_bitsOf_22 rfl rfl ?_
  refine mGo.iconst (n := 24) (v := (4 : Int32)) dX9_bitsOf_23 (by decide) rfl ?_
  refine mGo.mk [false, false] ?_
  exact g_X9_bitsOf_c24 ((s0 &&& (858993459 : Int32)) + ((v1 >>> ((2 : Int32) &&& 31)) &&& (858993459 : Int32))) ((s0 &&& (858993459 : Int32)) + ((v1 >>> ((2 : Int32) &&& 31)) &&& (858993459 : Int32))) (4 : Int32) h e q
def f_X9_bitsOf (v0 : Int32)  : Option (Int32) :=
  f_X9_bitsOf_c10 (v0 - ((v0 >>> ((1 : Int32) &&& 31)) &&& (1431655765 : Int32))) (v0 - ((v0 >>> ((1 : Int32) &&& 31)) &&& (1431655765 : Int32)))
set_option maxRecDepth 100000 in
set_option maxHeartbeats 4000000 in
theorem g_X9_bitsOf {w : mWp} {Q : Option Value → mH → Prop} (v0 : Int32) (h : mH) {res : Int32} (e : f_X9_bitsOf v0 = some res) (q : (fun r : Int32 => Q (some (.int r)) h) res) : mGo w kX9_bitsOf 0 0 0 [some (.int v0), none] [] h Q := by
  unfold f_X9_bitsOf at e
  refine mGo.iload_n (n := 1) (x := v0) dX9_bitsOf_0 rfl rfl ?_
  refine mGo.iload_n (n := 2) (x := v0) dX9_bitsOf_1 rfl rfl ?_
  refine mGo.iconst (n := 3) (v := (1 : Int32)) dX9_bitsOf_2 (by decide) rfl ?_
  refine mGo.ishr (n := 4) dX9_bitsOf_3 rfl ?_
  refine mGo.ldc (n := 6) (v := (1431655765 : Int32)) dX9_bitsOf_4 (mT_at 1006 (by decide +kernel) rfl) rfl ?_
  refine mGo.iand (n := 7) dX9_bitsOf_6 rfl ?_
  refine mGo.isub (n := 8) dX9_bitsOf_7 rfl ?_
  refine mGo.istore_n (n := 9) (ls' := [some (.int v0), some (.int (v0 - ((v0 >>> ((1 : Int32) &&& 31)) &&& (1431655765 : Int32))))]) dX9_bitsOf_8 rfl (Nat.le_of_ble_eq_true rfl) rfl ?_
  refine mGo.iload_n (n := 10) (x := (v0 - ((v0 >>> ((1 : Int32) &&& 31)) &&& (1431655765 : Int32)))) dX9_bitsOf_9 rfl rfl ?_
  refine mGo.mk [false, true] ?_
  exact g_X9_bitsOf_c10 (v0 - ((v0 >>> ((1 : Int32) &&& 31)) &&& (1431655765 : Int32))) (v0 - ((v0 >>> ((1 : Int32) &&& 31)) &&& (1431655765 : Int32))) h e q
theorem e_X9_bitsOf {w : mWp} (v0 : Int32) (h : mH) {res : Int32} (e : f_X9_bitsOf v0 = some res) : mEx w zX9_bitsOf (mRoom 1 0 0) [.int v0] h (fun r h2 => r = some (.int res) ∧ h2 = h) := by
  refine mEx.of (by decide +kernel) rfl (Nat.le_of_ble_eq_true rfl) ?_
  refine g_X9_bitsOf v0 h e ?_
  exact ⟨rfl, rfl⟩
-- X9_isTable
def kX9_isTable : mK := (cX9_isTable, RX9, 2, some (.boolean), "isTable", mRoom 2 0 0)
def zX9_isTable : mY := (yX9_isTable, cX9_isTable, 2, some (.boolean))
set_option maxRecDepth 100000 in
theorem sc_RX9_82 : mSS RX9 82 zX9_in 3 := ⟨Or.inl (mT_at 883 (by decide +kernel) rfl), mT_at 884 (by decide +kernel) rfl, mT_at 91 (by decide +kernel) rfl, mT_at 885 (by decide +kernel) rfl, ⟨by decide +kernel, by decide +kernel, by decide +kernel⟩⟩
def f_X9_isTable (v0 : Option Nat) (v1 : Int32) (h : mH) : Option (Int32) :=
  (mIs h v0 8).bind fun _ =>
  (f_X9_in v1 (0 : Int32) (5 : Int32)).bind fun x1 =>
  if x1 = 0 then
    some (0 : Int32)
  else
    (mGR h v0 8 1).bind fun x2 =>
    (mAI h x2 v1).bind fun x3 =>
    if x3 ≤ 0 then
      some (0 : Int32)
    else
      some (1 : Int32)
set_option maxRecDepth 100000 in
set_option maxHeartbeats 4000000 in
theorem g_X9_isTable {w : mWp} {Q : Option Value → mH → Prop} (v0 : Option Nat) (v1 : Int32) (h : mH) {res : Int32} (e : f_X9_isTable v0 v1 h = some res) (q : (fun r : Int32 => Q (some (.int r)) h) res) : mGo w kX9_isTable 0 0 0 [some (va_rf v0), some (.int v1)] [] h Q := by
  unfold f_X9_isTable at e
  obtain ⟨_, _, e⟩ := mBind e
  refine mGo.iload_n (n := 1) (x := v1) dX9_isTable_0 rfl rfl ?_
  refine mGo.iconst (n := 2) (v := (0 : Int32)) dX9_isTable_1 (by decide) rfl ?_
  refine mGo.iconst (n := 3) (v := (5 : Int32)) dX9_isTable_2 (by decide) rfl ?_
  obtain ⟨x1, e_x1, e⟩ := mBind e
  refine mGo.callS (n := 6) (y := zX9_in) (R' := (mRoom (1) 0 0)) (as := [.int v1, .int (0 : Int32), .int (5 : Int32)]) (st := []) dX9_isTable_3 sc_RX9_82 rfl (e_X9_in v1 (0 : Int32) (5 : Int32) h e_x1) (mFit_of rfl (Nat.le_of_ble_eq_true rfl) (by decide) (Nat.le_of_ble_eq_true rfl) (Nat.le_of_ble_eq_true rfl)) (Nat.le_of_ble_eq_true rfl) rfl rfl ?_
  intro _ _ hq
  rw [hq.1, hq.2]
  show mGo w kX9_isTable 0 0 6 [some (va_rf v0), some (.int v1)] [.int x1] h Q
  refine mGo.if_eq (tgt := 22) (n := 9) dX9_isTable_6 (by decide) rfl (fun hc => ?_) (fun hc => ?_)
  · replace e := mIft hc e
    refine mGo.iconst (n := 23) (v := (0 : Int32)) dX9_isTable_22 (by decide) rfl ?_
    cases e
    exact mGo.zret dX9_isTable_23 rfl (by decide) (Nat.le_of_ble_eq_true rfl) (Nat.le_of_ble_eq_true rfl) q
  · replace e := mIff hc e
    refine mGo.aload_n (n := 10) (r := v0) dX9_isTable_9 rfl rfl ?_
    obtain ⟨x2, e_x2, e⟩ := mBind e
    refine mGo.getR (n := 13) dX9_isTable_10 sf_RX9_13 e_x2 rfl ?_
    refine mGo.iload_n (n := 14) (x := v1) dX9_isTable_13 rfl rfl ?_
    obtain ⟨x3, e_x3, e⟩ := mBind e
    refine mGo.iald (n := 15) dX9_isTable_14 e_x3 rfl ?_
    refine mGo.if_le (tgt := 22) (n := 18) dX9_isTable_15 (by decide) rfl (fun hc => ?_) (fun hc => ?_)
    · replace e := mIft hc e
      refine mGo.iconst (n := 23) (v := (0 : Int32)) dX9_isTable_22 (by decide) rfl ?_
      cases e
      exact mGo.zret dX9_isTable_23 rfl (by decide) (Nat.le_of_ble_eq_true rfl) (Nat.le_of_ble_eq_true rfl) q
    · replace e := mIff hc e
      refine mGo.iconst (n := 19) (v := (1 : Int32)) dX9_isTable_18 (by decide) rfl ?_
      refine mGo.goto (tgt := 23) dX9_isTable_19 (by decide) ?_
      cases e
      exact mGo.zret dX9_isTable_23 rfl (by decide) (Nat.le_of_ble_eq_true rfl) (Nat.le_of_ble_eq_true rfl) q
theorem e_X9_isTable {w : mWp} (v0 : Option Nat) (v1 : Int32) (h : mH) {res : Int32} (e : f_X9_isTable v0 v1 h = some res) : mEx w zX9_isTable (mRoom 2 0 0) [va_rf v0, .int v1] h (fun r h2 => r = some (.int res) ∧ h2 = h) := by
  refine mEx.of (by decide +kernel) (show mEnt [va_rf v0, .int v1] 2 = [some (va_rf v0), some (.int v1)] by rw [mEnt_r, mEnt_i] <;> rfl) (by simp only [List.map_cons, List.map_nil, mRfc, mCi, mCj, List.sum_cons, List.sum_nil]; exact Nat.le_of_ble_eq_true rfl) ?_
  refine g_X9_isTable v0 v1 h e ?_
  exact ⟨rfl, rfl⟩
theorem s_X9_isTable (v0 : Option Nat) (v1 : Int32) (h : mH) {res : Int32} (e : f_X9_isTable v0 v1 h = some res) : mIs h v0 8 = some () := by
  unfold f_X9_isTable at e
  obtain ⟨u, e1, _⟩ := mBind e
  cases u
  exact e1
-- X9_isLine
def kX9_isLine : mK := (cX9_isLine, RX9, 3, some (.boolean), "isLine", mRoom 3 0 0)
def zX9_isLine : mY := (yX9_isLine, cX9_isLine, 3, some (.boolean))
set_option maxRecDepth 100000 in
theorem sc_RX9_86 : mSV RX9 86 zX9_isTable 1 8 := ⟨Or.inl (mT_at 958 (by decide +kernel) rfl), mT_at 960 (by decide +kernel) rfl, mT_at 49 (by decide +kernel) rfl, mT_at 91 (by decide +kernel) rfl, mT_at 961 (by decide +kernel) rfl, ⟨by decide +kernel, by decide +kernel, by decide +kernel⟩, by decide, rfl⟩
def f_X9_isLine (v0 : Option Nat) (v1 : Int32) (v2 : Int32) (h : mH) : Option (Int32) :=
  (mIs h v0 8).bind fun _ =>
  (f_X9_isTable v0 v1 h).bind fun x1 =>
  if x1 = 0 then
    some (0 : Int32)
  else
    (mGR h v0 8 1).bind fun x2 =>
    (mAI h x2 v1).bind fun x3 =>
    (f_X9_in v2 (0 : Int32) (x3 - (1 : Int32))).bind fun x4 =>
    if x4 = 0 then
      some (0 : Int32)
    else
      some (1 : Int32)
set_option maxRecDepth 100000 in
set_option maxHeartbeats 4000000 in
theorem g_X9_isLine {w : mWp} {Q : Option Value → mH → Prop} (v0 : Option Nat) (v1 : Int32) (v2 : Int32) (h : mH) {res : Int32} (e : f_X9_isLine v0 v1 v2 h = some res) (q : (fun r : Int32 => Q (some (.int r)) h) res) : mGo w kX9_isLine 0 0 0 [some (va_rf v0), some (.int v1), some (.int v2)] [] h Q := by
  unfold f_X9_isLine at e
  obtain ⟨_, _, e⟩ := mBind e
  refine mGo.aload_n (n := 1) (r := v0) dX9_isLine_0 rfl rfl ?_
  refine mGo.iload_n (n := 2) (x := v1) dX9_isLine_1 rfl rfl ?_
  obtain ⟨x1, e_x1, e⟩ := mBind e
  refine mGo.callV (n := 5) (y := zX9_isTable) (R' := (mRoom (2) 0 0)) (as := [.int v1]) (st := []) (r0 := v0) dX9_isLine_2 sc_RX9_86 rfl (s_X9_isTable v0 v1 h e_x1) (e_X9_isTable v0 v1 h e_x1) (mFit_of rfl (Nat.le_of_ble_eq_true rfl) (by decide) (Nat.le_of_ble_eq_true rfl) (Nat.le_of_ble_eq_true rfl)) (Nat.le_of_ble_eq_true rfl) rfl rfl ?_
  intro _ _ hq
  rw [hq.1, hq.2]
  show mGo w kX9_isLine 0 0 5 [some (va_rf v0), some (.int v1), some (.int v2)] [.int x1] h Q
  refine mGo.if_eq (tgt := 28) (n := 8) dX9_isLine_5 (by decide) rfl (fun hc => ?_) (fun hc => ?_)
  · replace e := mIft hc e
    refine mGo.iconst (n := 29) (v := (0 : Int32)) dX9_isLine_28 (by decide) rfl ?_
    cases e
    exact mGo.zret dX9_isLine_29 rfl (by decide) (Nat.le_of_ble_eq_true rfl) (Nat.le_of_ble_eq_true rfl) q
  · replace e := mIff hc e
    refine mGo.iload_n (n := 9) (x := v2) dX9_isLine_8 rfl rfl ?_
    refine mGo.iconst (n := 10) (v := (0 : Int32)) dX9_isLine_9 (by decide) rfl ?_
    refine mGo.aload_n (n := 11) (r := v0) dX9_isLine_10 rfl rfl ?_
    obtain ⟨x2, e_x2, e⟩ := mBind e
    refine mGo.getR (n := 14) dX9_isLine_11 sf_RX9_13 e_x2 rfl ?_
    refine mGo.iload_n (n := 15) (x := v1) dX9_isLine_14 rfl rfl ?_
    obtain ⟨x3, e_x3, e⟩ := mBind e
    refine mGo.iald (n := 16) dX9_isLine_15 e_x3 rfl ?_
    refine mGo.iconst (n := 17) (v := (1 : Int32)) dX9_isLine_16 (by decide) rfl ?_
    refine mGo.isub (n := 18) dX9_isLine_17 rfl ?_
    obtain ⟨x4, e_x4, e⟩ := mBind e
    refine mGo.callS (n := 21) (y := zX9_in) (R' := (mRoom (1) 0 0)) (as := [.int v2, .int (0 : Int32), .int (x3 - (1 : Int32))]) (st := []) dX9_isLine_18 sc_RX9_82 rfl (e_X9_in v2 (0 : Int32) (x3 - (1 : Int32)) h e_x4) (mFit_of rfl (Nat.le_of_ble_eq_true rfl) (by decide) (Nat.le_of_ble_eq_true rfl) (Nat.le_of_ble_eq_true rfl)) (Nat.le_of_ble_eq_true rfl) rfl rfl ?_
    intro _ _ hq
    rw [hq.1, hq.2]
    show mGo w kX9_isLine 0 0 21 [some (va_rf v0), some (.int v1), some (.int v2)] [.int x4] h Q
    refine mGo.if_eq (tgt := 28) (n := 24) dX9_isLine_21 (by decide) rfl (fun hc => ?_) (fun hc => ?_)
    · replace e := mIft hc e
      refine mGo.iconst (n := 29) (v := (0 : Int32)) dX9_isLine_28 (by decide) rfl ?_
      cases e
      exact mGo.zret dX9_isLine_29 rfl (by decide) (Nat.le_of_ble_eq_true rfl) (Nat.le_of_ble_eq_true rfl) q
    · replace e := mIff hc e
      refine mGo.iconst (n := 25) (v := (1 : Int32)) dX9_isLine_24 (by decide) rfl ?_
      refine mGo.goto (tgt := 29) dX9_isLine_25 (by decide) ?_
      cases e
      exact mGo.zret dX9_isLine_29 rfl (by decide) (Nat.le_of_ble_eq_true rfl) (Nat.le_of_ble_eq_true rfl) q
theorem e_X9_isLine {w : mWp} (v0 : Option Nat) (v1 : Int32) (v2 : Int32) (h : mH) {res : Int32} (e : f_X9_isLine v0 v1 v2 h = some res) : mEx w zX9_isLine (mRoom 3 0 0) [va_rf v0, .int v1, .int v2] h (fun r h2 => r = some (.int res) ∧ h2 = h) := by
  refine mEx.of (by decide +kernel) (show mEnt [va_rf v0, .int v1, .int v2] 3 = [some (va_rf v0), some (.int v1), some (.int v2)] by rw [mEnt_r, mEnt_i, mEnt_i] <;> rfl) (by simp only [List.map_cons, List.map_nil, mRfc, mCi, mCj, List.sum_cons, List.sum_nil]; exact Nat.le_of_ble_eq_true rfl) ?_
  refine g_X9_isLine v0 v1 v2 h e ?_
  exact ⟨rfl, rfl⟩
theorem s_X9_isLine (v0 : Option Nat) (v1 : Int32) (v2 : Int32) (h : mH) {res : Int32} (e : f_X9_isLine v0 v1 v2 h = some res) : mIs h v0 8 = some () := by
  unfold f_X9_isLine at e
  obtain ⟨u, e1, _⟩ := mBind e
  cases u
  exact e1
-- X9_rowOf
def kX9_rowOf : mK := (cX9_rowOf, RX9, 3, some (.int), "rowOf", mRoom 1 0 0)
def zX9_rowOf : mY := (yX9_rowOf, cX9_rowOf, 3, some (.int))
def f_X9_rowOf (v0 : Option Nat) (v1 : Int32) (v2 : Int32) (h : mH) : Option (Int32) :=
  (mIs h v0 8).bind fun _ =>
  (mGR h v0 8 2).bind fun x1 =>
  (mAI h x1 (((28 : Int32) * v1) + v2)).bind fun x2 =>
  some x2
set_option maxRecDepth 100000 in
set_option maxHeartbeats 4000000 in
theorem g_X9_rowOf {w : mWp} {Q : Option Value → mH → Prop} (v0 : Option Nat) (v1 : Int32) (v2 : Int32) (h : mH) {res : Int32} (e : f_X9_rowOf v0 v1 v2 h = some res) (q : (fun r : Int32 => Q (some (.int r)) h) res) : mGo w kX9_rowOf 0 0 0 [some (va_rf v0), some (.int v1), some (.int v2)] [] h Q := by
  unfold f_X9_rowOf at e
  obtain ⟨_, _, e⟩ := mBind e
  refine mGo.aload_n (n := 1) (r := v0) dX9_rowOf_0 rfl rfl ?_
  obtain ⟨x1, e_x1, e⟩ := mBind e
  refine mGo.getR (n := 4) dX9_rowOf_1 sf_RX9_17 e_x1 rfl ?_
  refine mGo.bipush (n := 6) (v := (28 : Int32)) dX9_rowOf_4 (by decide) rfl ?_
  refine mGo.iload_n (n := 7) (x := v1) dX9_rowOf_6 rfl rfl ?_
  refine mGo.imul (n := 8) dX9_rowOf_7 rfl ?_
  refine mGo.iload_n (n := 9) (x := v2) dX9_rowOf_8 rfl rfl ?_
  refine mGo.iadd (n := 10) dX9_rowOf_9 rfl ?_
  obtain ⟨x2, e_x2, e⟩ := mBind e
  refine mGo.iald (n := 11) dX9_rowOf_10 e_x2 rfl ?_
  cases e
  exact mGo.iret dX9_rowOf_11 rfl (Nat.le_of_ble_eq_true rfl) (Nat.le_of_ble_eq_true rfl) q
theorem e_X9_rowOf {w : mWp} (v0 : Option Nat) (v1 : Int32) (v2 : Int32) (h : mH) {res : Int32} (e : f_X9_rowOf v0 v1 v2 h = some res) : mEx w zX9_rowOf (mRoom 1 0 0) [va_rf v0, .int v1, .int v2] h (fun r h2 => r = some (.int res) ∧ h2 = h) := by
  refine mEx.of (by decide +kernel) (show mEnt [va_rf v0, .int v1, .int v2] 3 = [some (va_rf v0), some (.int v1), some (.int v2)] by rw [mEnt_r, mEnt_i, mEnt_i] <;> rfl) (by simp only [List.map_cons, List.map_nil, mRfc, mCi, mCj, List.sum_cons, List.sum_nil]; exact Nat.le_of_ble_eq_true rfl) ?_
  refine g_X9_rowOf v0 v1 v2 h e ?_
  exact ⟨rfl, rfl⟩
theorem s_X9_rowOf (v0 : Option Nat) (v1 : Int32) (v2 : Int32) (h : mH) {res : Int32} (e : f_X9_rowOf v0 v1 v2 h = some res) : mIs h v0 8 = some () := by
  unfold f_X9_rowOf at e
  obtain ⟨u, e1, _⟩ := mBind e
  cases u
  exact e1
-- X9_isMinus
def kX9_isMinus : mK := (cX9_isMinus, RX9, 4, some (.boolean), "isMinus", mRoom 2 0 0)
def zX9_isMinus : mY := (yX9_isMinus, cX9_isMinus, 4, some (.boolean))
set_option maxRecDepth 100000 in
theorem sc_RX9_90 : mSV RX9 90 zX9_rowOf 2 8 := ⟨Or.inl (mT_at 966 (by decide +kernel) rfl), mT_at 968 (by decide +kernel) rfl, mT_at 51 (by decide +kernel) rfl, mT_at 91 (by decide +kernel) rfl, mT_at 969 (by decide +kernel) rfl, ⟨by decide +kernel, by decide +kernel, by decide +kernel⟩, by decide, rfl⟩
set_option maxRecDepth 100000 in
theorem sc_RX9_94 : mSS RX9 94 zX9_has 2 := ⟨Or.inl (mT_at 970 (by decide +kernel) rfl), mT_at 971 (by decide +kernel) rfl, mT_at 91 (by decide +kernel) rfl, mT_at 972 (by decide +kernel) rfl, ⟨by decide +kernel, by decide +kernel, by decide +kernel⟩⟩
def f_X9_isMinus (v0 : Option Nat) (v1 : Int32) (v2 : Int32) (v3 : Int32) (h : mH) : Option (Int32) :=
  (mIs h v0 8).bind fun _ =>
  (f_X9_rowOf v0 v1 v2 h).bind fun x1 =>
  (f_X9_has x1 v3).bind fun x2 =>
  if x2 = 0 ∨ x2 = 1 then some x2 else none
set_option maxRecDepth 100000 in
set_option maxHeartbeats 4000000 in
theorem g_X9_isMinus {w : mWp} {Q : Option Value → mH → Prop} (v0 : Option Nat) (v1 : Int32) (v2 : Int32) (v3 : Int32) (h : mH) {res : Int32} (e : f_X9_isMinus v0 v1 v2 v3 h = some res) (q : (fun r : Int32 => Q (some (.int r)) h) res) : mGo w kX9_isMinus 0 0 0 [some (va_rf v0), some (.int v1), some (.int v2), some (.int v3)] [] h Q := by
  unfold f_X9_isMinus at e
  obtain ⟨_, _, e⟩ := mBind e
  refine mGo.aload_n (n := 1) (r := v0) dX9_isMinus_0 rfl rfl ?_
  refine mGo.iload_n (n := 2) (x := v1) dX9_isMinus_1 rfl rfl ?_
  refine mGo.iload_n (n := 3) (x := v2) dX9_isMinus_2 rfl rfl ?_
  obtain ⟨x1, e_x1, e⟩ := mBind e
  refine mGo.callV (n := 6) (y := zX9_rowOf) (R' := (mRoom (1) 0 0)) (as := [.int v1, .int v2]) (st := []) (r0 := v0) dX9_isMinus_3 sc_RX9_90 rfl (s_X9_rowOf v0 v1 v2 h e_x1) (e_X9_rowOf v0 v1 v2 h e_x1) (mFit_of rfl (Nat.le_of_ble_eq_true rfl) (by decide) (Nat.le_of_ble_eq_true rfl) (Nat.le_of_ble_eq_true rfl)) (Nat.le_of_ble_eq_true rfl) rfl rfl ?_
  intro _ _ hq
  rw [hq.1, hq.2]
  show mGo w kX9_isMinus 0 0 6 [some (va_rf v0), some (.int v1), some (.int v2), some (.int v3)] [.int x1] h Q
  refine mGo.iload_n (n := 7) (x := v3) dX9_isMinus_6 rfl rfl ?_
  obtain ⟨x2, e_x2, e⟩ := mBind e
  refine mGo.callS (n := 10) (y := zX9_has) (R' := (mRoom (1) 0 0)) (as := [.int x1, .int v3]) (st := []) dX9_isMinus_7 sc_RX9_94 rfl (e_X9_has x1 v3 h e_x2) (mFit_of rfl (Nat.le_of_ble_eq_true rfl) (by decide) (Nat.le_of_ble_eq_true rfl) (Nat.le_of_ble_eq_true rfl)) (Nat.le_of_ble_eq_true rfl) rfl rfl ?_
  intro _ _ hq
  rw [hq.1, hq.2]
  show mGo w kX9_isMinus 0 0 10 [some (va_rf v0), some (.int v1), some (.int v2), some (.int v3)] [.int x2] h Q
  obtain ⟨hz, e⟩ := mIfP e
  cases e
  exact mGo.zret dX9_isMinus_10 rfl hz (Nat.le_of_ble_eq_true rfl) (Nat.le_of_ble_eq_true rfl) q
theorem e_X9_isMinus {w : mWp} (v0 : Option Nat) (v1 : Int32) (v2 : Int32) (v3 : Int32) (h : mH) {res : Int32} (e : f_X9_isMinus v0 v1 v2 v3 h = some res) : mEx w zX9_isMinus (mRoom 2 0 0) [va_rf v0, .int v1, .int v2, .int v3] h (fun r h2 => r = some (.int res) ∧ h2 = h) := by
  refine mEx.of (by decide +kernel) (show mEnt [va_rf v0, .int v1, .int v2, .int v3] 4 = [some (va_rf v0), some (.int v1), some (.int v2), some (.int v3)] by rw [mEnt_r, mEnt_i, mEnt_i, mEnt_i] <;> rfl) (by simp only [List.map_cons, List.map_nil, mRfc, mCi, mCj, List.sum_cons, List.sum_nil]; exact Nat.le_of_ble_eq_true rfl) ?_
  refine g_X9_isMinus v0 v1 v2 v3 h e ?_
  exact ⟨rfl, rfl⟩
theorem s_X9_isMinus (v0 : Option Nat) (v1 : Int32) (v2 : Int32) (v3 : Int32) (h : mH) {res : Int32} (e : f_X9_isMinus v0 v1 v2 v3 h = some res) : mIs h v0 8 = some () := by
  unfold f_X9_isMinus at e
  obtain ⟨u, e1, _⟩ := mBind e
  cases u
  exact e1
-- X9_columnOf
def kX9_columnOf : mK := (cX9_columnOf, RX9, 5, some (.int), "columnOf", mRoom 3 0 0)
def zX9_columnOf : mY := (yX9_columnOf, cX9_columnOf, 5, some (.int))
set_option maxRecDepth 100000 in
theorem sc_RX9_98 : mSV RX9 98 zX9_isMinus 3 8 := ⟨Or.inl (mT_at 962 (by decide +kernel) rfl), mT_at 964 (by decide +kernel) rfl, mT_at 50 (by decide +kernel) rfl, mT_at 91 (by decide +kernel) rfl, mT_at 965 (by decide +kernel) rfl, ⟨by decide +kernel, by decide +kernel, by decide +kernel⟩, by decide, rfl⟩
def f_X9_columnOf_b5 (v0 : Option Nat) (v1 : Int32) (v2 : Int32) (v3 : Int32) (v4 : Int32) (h : mH) : Option ((Int32 × Int32) ⊕ (Int32)) :=
  (mGR h v0 8 1).bind fun x1 =>
  (mAI h x1 v1).bind fun x2 =>
  if x2 ≤ v4 then
    some (Sum.inr v3)
  else
    (f_X9_isMinus v0 v1 v4 v2 h).bind fun x3 =>
    if x3 = 0 then
      some (Sum.inl (v3, (v4 + 1)))
    else
      some (Sum.inl ((v3 ||| ((1 : Int32) <<< (v4 &&& 31))), (v4 + 1)))
set_option maxRecDepth 100000 in
set_option maxHeartbeats 4000000 in
theorem g_X9_columnOf_b5 {w : mWp} {Q : Option Value → mH → Prop} (v0 : Option Nat) (v1 : Int32) (v2 : Int32) (v3 : Int32) (v4 : Int32) (h : mH) {res : (Int32 × Int32) ⊕ (Int32)} (e : f_X9_columnOf_b5 v0 v1 v2 v3 v4 h = some res) (q : (Sum.elim (fun x : Int32 × Int32 => mGo w kX9_columnOf 0 0 5 [some (va_rf v0), some (.int v1), some (.int v2), some (.int x.1), some (.int x.2)] [] h Q) (fun r : Int32 => Q (some (.int r)) h)) res) : mGo w kX9_columnOf 0 0 5 [some (va_rf v0), some (.int v1), some (.int v2), some (.int v3), some (.int v4)] [] h Q := by
  unfold f_X9_columnOf_b5 at e
  refine mGo.iload (n := 7) (x := v4) dX9_columnOf_5 rfl rfl ?_
  refine mGo.aload_n (n := 8) (r := v0) dX9_columnOf_7 rfl rfl ?_
  obtain ⟨x1, e_x1, e⟩ := mBind e
  refine mGo.getR (n := 11) dX9_columnOf_8 sf_RX9_13 e_x1 rfl ?_
  refine mGo.iload_n (n := 12) (x := v1) dX9_columnOf_11 rfl rfl ?_
  obtain ⟨x2, e_x2, e⟩ := mBind e
  refine mGo.iald (n := 13) dX9_columnOf_12 e_x2 rfl ?_
  refine mGo.icmp_ge (tgt := 40) (n := 16) dX9_columnOf_13 (by decide) rfl (fun hc => ?_) (fun hc => ?_)
  · replace e := mIft hc e
    refine mGo.iload_n (n := 41) (x := v3) dX9_columnOf_40 rfl rfl ?_
    cases e
    exact mGo.iret dX9_columnOf_41 rfl (Nat.le_of_ble_eq_true rfl) (Nat.le_of_ble_eq_true rfl) q
  · replace e := mIff hc e
    refine mGo.aload_n (n := 17) (r := v0) dX9_columnOf_16 rfl rfl ?_
    refine mGo.iload_n (n := 18) (x := v1) dX9_columnOf_17 rfl rfl ?_
    refine mGo.iload (n := 20) (x := v4) dX9_columnOf_18 rfl rfl ?_
    refine mGo.iload_n (n := 21) (x := v2) dX9_columnOf_20 rfl rfl ?_
    obtain ⟨x3, e_x3, e⟩ := mBind e
    refine mGo.callV (n := 24) (y := zX9_isMinus) (R' := (mRoom (2) 0 0)) (as := [.int v1, .int v4, .int v2]) (st := []) (r0 := v0) dX9_columnOf_21 sc_RX9_98 rfl (s_X9_isMinus v0 v1 v4 v2 h e_x3) (e_X9_isMinus v0 v1 v4 v2 h e_x3) (mFit_of rfl (Nat.le_of_ble_eq_true rfl) (by decide) (Nat.le_of_ble_eq_true rfl) (Nat.le_of_ble_eq_true rfl)) (Nat.le_of_ble_eq_true rfl) rfl rfl ?_
    intro _ _ hq
    rw [hq.1, hq.2]
    show mGo w kX9_columnOf 0 0 24 [some (va_rf v0), some (.int v1), some (.int v2), some (.int v3), some (.int v4)] [.int x3] h Q
    refine mGo.if_eq (tgt := 34) (n := 27) dX9_columnOf_24 (by decide) rfl (fun hc => ?_) (fun hc => ?_)
    · replace e := mIft hc e
      refine mGo.iinc (n := 37) (x := v4) (v := (v4 + 1)) (ls' := [some (va_rf v0), some (.int v1), some (.int v2), some (.int v3), some (.int (v4 + 1))]) dX9_columnOf_34 rfl rfl rfl (Nat.le_of_ble_eq_true rfl) rfl ?_
      refine mGo.goto (tgt := 5) dX9_columnOf_37 (by decide) ?_
      cases e
      refine mGo.mk [true, true, true, true, true] ?_
      exact q
    · replace e := mIff hc e
      refine mGo.iload_n (n := 28) (x := v3) dX9_columnOf_27 rfl rfl ?_
      refine mGo.iconst (n := 29) (v := (1 : Int32)) dX9_columnOf_28 (by decide) rfl ?_
      refine mGo.iload (n := 31) (x := v4) dX9_columnOf_29 rfl rfl ?_
      refine mGo.ishl (n := 32) dX9_columnOf_31 rfl ?_
      refine mGo.ior (n := 33) dX9_columnOf_32 rfl ?_
      refine mGo.istore_n (n := 34) (ls' := [some (va_rf v0), some (.int v1), some (.int v2), some (.int (v3 ||| ((1 : Int32) <<< (v4 &&& 31)))), some (.int v4)]) dX9_columnOf_33 rfl (Nat.le_of_ble_eq_true rfl) rfl ?_
      refine mGo.iinc (n := 37) (x := v4) (v := (v4 + 1)) (ls' := [some (va_rf v0), some (.int v1), some (.int v2), some (.int (v3 ||| ((1 : Int32) <<< (v4 &&& 31)))), some (.int (v4 + 1))]) dX9_columnOf_34 rfl rfl rfl (Nat.le_of_ble_eq_true rfl) rfl ?_
      refine mGo.goto (tgt := 5) dX9_columnOf_37 (by decide) ?_
      cases e
      refine mGo.mk [true, true, true, true, true] ?_
      exact q
noncomputable def f_X9_columnOf_l5 (v0 : Option Nat) (v1 : Int32) (v2 : Int32) (v3 : Int32) (v4 : Int32) (h : mH) : Option (Int32) :=
  mLoop (fun x : Int32 × Int32 => f_X9_columnOf_b5 v0 v1 v2 x.1 x.2 h) (v3, v4)
set_option maxRecDepth 100000 in
set_option maxHeartbeats 4000000 in
theorem g_X9_columnOf_l5 {w : mWp} {Q : Option Value → mH → Prop} (v0 : Option Nat) (v1 : Int32) (v2 : Int32) (v3 : Int32) (v4 : Int32) (h : mH) {res : Int32} (e : f_X9_columnOf_l5 v0 v1 v2 v3 v4 h = some res) (q : (fun r : Int32 => Q (some (.int r)) h) res) : mGo w kX9_columnOf 0 0 5 [some (va_rf v0), some (.int v1), some (.int v2), some (.int v3), some (.int v4)] [] h Q := by
  unfold f_X9_columnOf_l5 at e
  refine mLoop_go (x := (v3, v4)) (fun x : Int32 × Int32 => mGo w kX9_columnOf 0 0 5 [some (va_rf v0), some (.int v1), some (.int v2), some (.int x.1), some (.int x.2)] [] h Q) (fun r : Int32 => Q (some (.int r)) h) ?_ e q
  rintro ⟨v3, v4⟩ res e q
  exact g_X9_columnOf_b5 v0 v1 v2 v3 v4 h e q
noncomputable def f_X9_columnOf (v0 : Option Nat) (v1 : Int32) (v2 : Int32) (h : mH) : Option (Int32) :=
  (mIs h v0 8).bind fun _ =>
  f_X9_columnOf_l5 v0 v1 v2 (0 : Int32) (0 : Int32) h
set_option maxRecDepth 100000 in
set_option maxHeartbeats 4000000 in
theorem g_X9_columnOf {w : mWp} {Q : Option Value → mH → Prop} (v0 : Option Nat) (v1 : Int32) (v2 : Int32) (h : mH) {res : Int32} (e : f_X9_columnOf v0 v1 v2 h = some res) (q : (fun r : Int32 => Q (some (.int r)) h) res) : mGo w kX9_columnOf 0 0 0 [some (va_rf v0), some (.int v1), some (.int v2), none, none] [] h Q := by
  unfold f_X9_columnOf at e
  obtain ⟨_, _, e⟩ := mBind e
  refine mGo.iconst (n := 1) (v := (0 : Int32)) dX9_columnOf_0 (by decide) rfl ?_
  refine mGo.istore_n (n := 2) (ls' := [some (va_rf v0), some (.int v1), some (.int v2), some (.int (0 : Int32)), none]) dX9_columnOf_1 rfl (Nat.le_of_ble_eq_true rfl) rfl ?_
  refine mGo.iconst (n := 3) (v := (0 : Int32)) dX9_columnOf_2 (by decide) rfl ?_
  refine mGo.istore (n := 5) (ls' := [some (va_rf v0), some (.int v1), some (.int v2), some (.int (0 : Int32)), some (.int (0 : Int32))]) dX9_columnOf_3 rfl (Nat.le_of_ble_eq_true rfl) rfl ?_
  refine mGo.mk [true, true, true, true, true] ?_
  exact g_X9_columnOf_l5 v0 v1 v2 (0 : Int32) (0 : Int32) h e q
theorem e_X9_columnOf {w : mWp} (v0 : Option Nat) (v1 : Int32) (v2 : Int32) (h : mH) {res : Int32} (e : f_X9_columnOf v0 v1 v2 h = some res) : mEx w zX9_columnOf (mRoom 3 0 0) [va_rf v0, .int v1, .int v2] h (fun r h2 => r = some (.int res) ∧ h2 = h) := by
  refine mEx.of (by decide +kernel) (show mEnt [va_rf v0, .int v1, .int v2] 5 = [some (va_rf v0), some (.int v1), some (.int v2), none, none] by rw [mEnt_r, mEnt_i, mEnt_i] <;> rfl) (by simp only [List.map_cons, List.map_nil, mRfc, mCi, mCj, List.sum_cons, List.sum_nil]; exact Nat.le_of_ble_eq_true rfl) ?_
  refine g_X9_columnOf v0 v1 v2 h e ?_
  exact ⟨rfl, rfl⟩
theorem s_X9_columnOf (v0 : Option Nat) (v1 : Int32) (v2 : Int32) (h : mH) {res : Int32} (e : f_X9_columnOf v0 v1 v2 h = some res) : mIs h v0 8 = some () := by
  unfold f_X9_columnOf at e
  obtain ⟨u, e1, _⟩ := mBind e
  cases u
  exact e1
-- X9_lineOf
def kX9_lineOf : mK := (cX9_lineOf, RX9, 4, some (.int), "lineOf", mRoom 4 0 0)
def zX9_lineOf : mY := (yX9_lineOf, cX9_lineOf, 4, some (.int))
set_option maxRecDepth 100000 in
theorem sc_RX9_101 : mSV RX9 101 zX9_columnOf 2 8 := ⟨Or.inl (mT_at 1049 (by decide +kernel) rfl), mT_at 1051 (by decide +kernel) rfl, mT_at 58 (by decide +kernel) rfl, mT_at 91 (by decide +kernel) rfl, mT_at 1052 (by decide +kernel) rfl, ⟨by decide +kernel, by decide +kernel, by decide +kernel⟩, by decide, rfl⟩
noncomputable def f_X9_lineOf (v0 : Option Nat) (v1 : Int32) (v2 : Int32) (v3 : Int32) (h : mH) : Option (Int32) :=
  (mIs h v0 8).bind fun _ =>
  if v2 = 0 then
    (f_X9_columnOf v0 v1 v3 h).bind fun x1 =>
    some x1
  else
    (f_X9_rowOf v0 v1 v3 h).bind fun x2 =>
    some x2
set_option maxRecDepth 100000 in
set_option maxHeartbeats 4000000 in
theorem g_X9_lineOf {w : mWp} {Q : Option Value → mH → Prop} (v0 : Option Nat) (v1 : Int32) (v2 : Int32) (v3 : Int32) (h : mH) {res : Int32} (e : f_X9_lineOf v0 v1 v2 v3 h = some res) (q : (fun r : Int32 => Q (some (.int r)) h) res) : mGo w kX9_lineOf 0 0 0 [some (va_rf v0), some (.int v1), some (.int v2), some (.int v3)] [] h Q := by
  unfold f_X9_lineOf at e
  obtain ⟨_, _, e⟩ := mBind e
  refine mGo.iload_n (n := 1) (x := v2) dX9_lineOf_0 rfl rfl ?_
  refine mGo.if_eq (tgt := 13) (n := 4) dX9_lineOf_1 (by decide) rfl (fun hc => ?_) (fun hc => ?_)
  · replace e := mIft hc e
    refine mGo.aload_n (n := 14) (r := v0) dX9_lineOf_13 rfl rfl ?_
    refine mGo.iload_n (n := 15) (x := v1) dX9_lineOf_14 rfl rfl ?_
    refine mGo.iload_n (n := 16) (x := v3) dX9_lineOf_15 rfl rfl ?_
    obtain ⟨x1, e_x1, e⟩ := mBind e
    refine mGo.callV (n := 19) (y := zX9_columnOf) (R' := (mRoom (3) 0 0)) (as := [.int v1, .int v3]) (st := []) (r0 := v0) dX9_lineOf_16 sc_RX9_101 rfl (s_X9_columnOf v0 v1 v3 h e_x1) (e_X9_columnOf v0 v1 v3 h e_x1) (mFit_of rfl (Nat.le_of_ble_eq_true rfl) (by decide) (Nat.le_of_ble_eq_true rfl) (Nat.le_of_ble_eq_true rfl)) (Nat.le_of_ble_eq_true rfl) rfl rfl ?_
    intro _ _ hq
    rw [hq.1, hq.2]
    show mGo w kX9_lineOf 0 0 19 [some (va_rf v0), some (.int v1), some (.int v2), some (.int v3)] [.int x1] h Q
    cases e
    exact mGo.iret dX9_lineOf_19 rfl (Nat.le_of_ble_eq_true rfl) (Nat.le_of_ble_eq_true rfl) q
  · replace e := mIff hc e
    refine mGo.aload_n (n := 5) (r := v0) dX9_lineOf_4 rfl rfl ?_
    refine mGo.iload_n (n := 6) (x := v1) dX9_lineOf_5 rfl rfl ?_
    refine mGo.iload_n (n := 7) (x := v3) dX9_lineOf_6 rfl rfl ?_
    obtain ⟨x2, e_x2, e⟩ := mBind e
    refine mGo.callV (n := 10) (y := zX9_rowOf) (R' := (mRoom (1) 0 0)) (as := [.int v1, .int v3]) (st := []) (r0 := v0) dX9_lineOf_7 sc_RX9_90 rfl (s_X9_rowOf v0 v1 v3 h e_x2) (e_X9_rowOf v0 v1 v3 h e_x2) (mFit_of rfl (Nat.le_of_ble_eq_true rfl) (by decide) (Nat.le_of_ble_eq_true rfl) (Nat.le_of_ble_eq_true rfl)) (Nat.le_of_ble_eq_true rfl) rfl rfl ?_
    intro _ _ hq
    rw [hq.1, hq.2]
    show mGo w kX9_lineOf 0 0 10 [some (va_rf v0), some (.int v1), some (.int v2), some (.int v3)] [.int x2] h Q
    refine mGo.goto (tgt := 19) dX9_lineOf_10 (by decide) ?_
    cases e
    exact mGo.iret dX9_lineOf_19 rfl (Nat.le_of_ble_eq_true rfl) (Nat.le_of_ble_eq_true rfl) q
theorem e_X9_lineOf {w : mWp} (v0 : Option Nat) (v1 : Int32) (v2 : Int32) (v3 : Int32) (h : mH) {res : Int32} (e : f_X9_lineOf v0 v1 v2 v3 h = some res) : mEx w zX9_lineOf (mRoom 4 0 0) [va_rf v0, .int v1, .int v2, .int v3] h (fun r h2 => r = some (.int res) ∧ h2 = h) := by
  refine mEx.of (by decide +kernel) (show mEnt [va_rf v0, .int v1, .int v2, .int v3] 4 = [some (va_rf v0), some (.int v1), some (.int v2), some (.int v3)] by rw [mEnt_r, mEnt_i, mEnt_i, mEnt_i] <;> rfl) (by simp only [List.map_cons, List.map_nil, mRfc, mCi, mCj, List.sum_cons, List.sum_nil]; exact Nat.le_of_ble_eq_true rfl) ?_
  refine g_X9_lineOf v0 v1 v2 v3 h e ?_
  exact ⟨rfl, rfl⟩
theorem s_X9_lineOf (v0 : Option Nat) (v1 : Int32) (v2 : Int32) (v3 : Int32) (h : mH) {res : Int32} (e : f_X9_lineOf v0 v1 v2 v3 h = some res) : mIs h v0 8 = some () := by
  unfold f_X9_lineOf at e
  obtain ⟨u, e1, _⟩ := mBind e
  cases u
  exact e1
-- X9_freePlace
def kX9_freePlace : mK := (cX9_freePlace, RX9, 2, some (.int), "freePlace", mRoom 1 0 0)
def zX9_freePlace : mY := (yX9_freePlace, cX9_freePlace, 2, some (.int))
def f_X9_freePlace_b2 (v0 : Option Nat) (v1 : Int32) (h : mH) : Option ((Int32) ⊕ (Int32)) :=
  if (6 : Int32) ≤ v1 then
    some (Sum.inr (-1 : Int32))
  else
    (mGR h v0 8 1).bind fun x1 =>
    (mAI h x1 v1).bind fun x2 =>
    if x2 = 0 then
      some (Sum.inr v1)
    else
      some (Sum.inl (v1 + 1))
set_option maxRecDepth 100000 in
set_option maxHeartbeats 4000000 in
theorem g_X9_freePlace_b2 {w : mWp} {Q : Option Value → mH → Prop} (v0 : Option Nat) (v1 : Int32) (h : mH) {res : (Int32) ⊕ (Int32)} (e : f_X9_freePlace_b2 v0 v1 h = some res) (q : (Sum.elim (fun x : Int32 => mGo w kX9_freePlace 0 0 2 [some (va_rf v0), some (.int x)] [] h Q) (fun r : Int32 => Q (some (.int r)) h)) res) : mGo w kX9_freePlace 0 0 2 [some (va_rf v0), some (.int v1)] [] h Q := by
  unfold f_X9_freePlace_b2 at e
  refine mGo.iload_n (n := 3) (x := v1) dX9_freePlace_2 rfl rfl ?_
  refine mGo.bipush (n := 5) (v := (6 : Int32)) dX9_freePlace_3 (by decide) rfl ?_
  refine mGo.icmp_ge (tgt := 25) (n := 8) dX9_freePlace_5 (by decide) rfl (fun hc => ?_) (fun hc => ?_)
  · replace e := mIft hc e
    refine mGo.iconst (n := 26) (v := (-1 : Int32)) dX9_freePlace_25 (by decide) rfl ?_
    cases e
    exact mGo.iret dX9_freePlace_26 rfl (Nat.le_of_ble_eq_true rfl) (Nat.le_of_ble_eq_true rfl) q
  · replace e := mIff hc e
    refine mGo.aload_n (n := 9) (r := v0) dX9_freePlace_8 rfl rfl ?_
    obtain ⟨x1, e_x1, e⟩ := mBind e
    refine mGo.getR (n := 12) dX9_freePlace_9 sf_RX9_13 e_x1 rfl ?_
    refine mGo.iload_n (n := 13) (x := v1) dX9_freePlace_12 rfl rfl ?_
    obtain ⟨x2, e_x2, e⟩ := mBind e
    refine mGo.iald (n := 14) dX9_freePlace_13 e_x2 rfl ?_
    refine mGo.if_ne (tgt := 19) (n := 17) dX9_freePlace_14 (by decide) rfl (fun hc => ?_) (fun hc => ?_)
    · replace e := mIff hc e
      refine mGo.iinc (n := 22) (x := v1) (v := (v1 + 1)) (ls' := [some (va_rf v0), some (.int (v1 + 1))]) dX9_freePlace_19 rfl rfl ((mSt_set (fun u _ hu => by cases hu; exact mRfc _)).trans rfl) (Nat.le_of_ble_eq_true rfl) rfl ?_
      refine mGo.goto (tgt := 2) dX9_freePlace_22 (by decide) ?_
      cases e
      refine mGo.mk [true, true] ?_
      exact q
    · replace e := mIft hc e
      refine mGo.iload_n (n := 18) (x := v1) dX9_freePlace_17 rfl rfl ?_
      cases e
      exact mGo.iret dX9_freePlace_18 rfl (Nat.le_of_ble_eq_true rfl) (Nat.le_of_ble_eq_true rfl) q
noncomputable def f_X9_freePlace_l2 (v0 : Option Nat) (v1 : Int32) (h : mH) : Option (Int32) :=
  mLoop (fun x : Int32 => f_X9_freePlace_b2 v0 x h) (v1)
set_option maxRecDepth 100000 in
set_option maxHeartbeats 4000000 in
theorem g_X9_freePlace_l2 {w : mWp} {Q : Option Value → mH → Prop} (v0 : Option Nat) (v1 : Int32) (h : mH) {res : Int32} (e : f_X9_freePlace_l2 v0 v1 h = some res) (q : (fun r : Int32 => Q (some (.int r)) h) res) : mGo w kX9_freePlace 0 0 2 [some (va_rf v0), some (.int v1)] [] h Q := by
  unfold f_X9_freePlace_l2 at e
  refine mLoop_go (x := (v1)) (fun x : Int32 => mGo w kX9_freePlace 0 0 2 [some (va_rf v0), some (.int x)] [] h Q) (fun r : Int32 => Q (some (.int r)) h) ?_ e q
  rintro v1 res e q
  exact g_X9_freePlace_b2 v0 v1 h e q
noncomputable def f_X9_freePlace (v0 : Option Nat) (h : mH) : Option (Int32) :=
  (mIs h v0 8).bind fun _ =>
  f_X9_freePlace_l2 v0 (0 : Int32) h
set_option maxRecDepth 100000 in
set_option maxHeartbeats 4000000 in
theorem g_X9_freePlace {w : mWp} {Q : Option Value → mH → Prop} (v0 : Option Nat) (h : mH) {res : Int32} (e : f_X9_freePlace v0 h = some res) (q : (fun r : Int32 => Q (some (.int r)) h) res) : mGo w kX9_freePlace 0 0 0 [some (va_rf v0), none] [] h Q := by
  unfold f_X9_freePlace at e
  obtain ⟨_, _, e⟩ := mBind e
  refine mGo.iconst (n := 1) (v := (0 : Int32)) dX9_freePlace_0 (by decide) rfl ?_
  refine mGo.istore_n (n := 2) (ls' := [some (va_rf v0), some (.int (0 : Int32))]) dX9_freePlace_1 ((mSt_set (fun u _ hu => by cases hu; exact mRfc _)).trans rfl) (Nat.le_of_ble_eq_true rfl) rfl ?_
  refine mGo.mk [true, true] ?_
  exact g_X9_freePlace_l2 v0 (0 : Int32) h e q
theorem e_X9_freePlace {w : mWp} (v0 : Option Nat) (h : mH) {res : Int32} (e : f_X9_freePlace v0 h = some res) : mEx w zX9_freePlace (mRoom 1 0 0) [va_rf v0] h (fun r h2 => r = some (.int res) ∧ h2 = h) := by
  refine mEx.of (by decide +kernel) (show mEnt [va_rf v0] 2 = [some (va_rf v0), none] by rw [mEnt_r] <;> rfl) (by simp only [List.map_cons, List.map_nil, mRfc, mCi, mCj, List.sum_cons, List.sum_nil]; exact Nat.le_of_ble_eq_true rfl) ?_
  refine g_X9_freePlace v0 h e ?_
  exact ⟨rfl, rfl⟩
theorem s_X9_freePlace (v0 : Option Nat) (h : mH) {res : Int32} (e : f_X9_freePlace v0 h = some res) : mIs h v0 8 = some () := by
  unfold f_X9_freePlace at e
  obtain ⟨u, e1, _⟩ := mBind e
  cases u
  exact e1
-- X9_clearsMade
def kX9_clearsMade : mK := (cX9_clearsMade, RX9, 2, none, "clearsMade", mRoom 1 0 0)
def zX9_clearsMade : mY := (yX9_clearsMade, cX9_clearsMade, 2, none)
def f_X9_clearsMade_b2 (v0 : Option Nat) (v1 : Int32) (h : mH) : Option ((Int32 × mH) ⊕ (mH)) :=
  if (28 : Int32) ≤ v1 then
    some (Sum.inr h)
  else
    (mGR h v0 8 8).bind fun x1 =>
    (mSI h x1 v1 (0 : Int32)).bind fun h2 =>
    some (Sum.inl ((v1 + 1), h2))
set_option maxRecDepth 100000 in
set_option maxHeartbeats 4000000 in
theorem g_X9_clearsMade_b2 {w : mWp} {Q : Option Value → mH → Prop} (v0 : Option Nat) (v1 : Int32) (h : mH) {res : (Int32 × mH) ⊕ (mH)} (e : f_X9_clearsMade_b2 v0 v1 h = some res) (q : (Sum.elim (fun x : Int32 × mH => mGo w kX9_clearsMade 0 0 2 [some (va_rf v0), some (.int x.1)] [] x.2 Q) (fun r : mH => Q none r)) res) : mGo w kX9_clearsMade 0 0 2 [some (va_rf v0), some (.int v1)] [] h Q := by
  unfold f_X9_clearsMade_b2 at e
  refine mGo.iload_n (n := 3) (x := v1) dX9_clearsMade_2 rfl rfl ?_
  refine mGo.bipush (n := 5) (v := (28 : Int32)) dX9_clearsMade_3 (by decide) rfl ?_
  refine mGo.icmp_ge (tgt := 21) (n := 8) dX9_clearsMade_5 (by decide) rfl (fun hc => ?_) (fun hc => ?_)
  · replace e := mIft hc e
    cases e
    exact mGo.vret dX9_clearsMade_21 rfl (Nat.le_of_ble_eq_true rfl) (Nat.le_of_ble_eq_true rfl) q
  · replace e := mIff hc e
    refine mGo.aload_n (n := 9) (r := v0) dX9_clearsMade_8 rfl rfl ?_
    obtain ⟨x1, e_x1, e⟩ := mBind e
    refine mGo.getR (n := 12) dX9_clearsMade_9 sf_RX9_32 e_x1 rfl ?_
    refine mGo.iload_n (n := 13) (x := v1) dX9_clearsMade_12 rfl rfl ?_
    refine mGo.iconst (n := 14) (v := (0 : Int32)) dX9_clearsMade_13 (by decide) rfl ?_
    obtain ⟨h2, e_h2, e⟩ := mBind e
    refine mGo.iast (n := 15) dX9_clearsMade_14 e_h2 rfl ?_
    refine mGo.iinc (n := 18) (x := v1) (v := (v1 + 1)) (ls' := [some (va_rf v0), some (.int (v1 + 1))]) dX9_clearsMade_15 rfl rfl ((mSt_set (fun u _ hu => by cases hu; exact mRfc _)).trans rfl) (Nat.le_of_ble_eq_true rfl) rfl ?_
    refine mGo.goto (tgt := 2) dX9_clearsMade_18 (by decide) ?_
    cases e
    refine mGo.mk [true, true] ?_
    exact q
noncomputable def f_X9_clearsMade_l2 (v0 : Option Nat) (v1 : Int32) (h : mH) : Option (mH) :=
  mLoop (fun x : Int32 × mH => f_X9_clearsMade_b2 v0 x.1 x.2) (v1, h)
set_option maxRecDepth 100000 in
set_option maxHeartbeats 4000000 in
theorem g_X9_clearsMade_l2 {w : mWp} {Q : Option Value → mH → Prop} (v0 : Option Nat) (v1 : Int32) (h : mH) {res : mH} (e : f_X9_clearsMade_l2 v0 v1 h = some res) (q : (fun r : mH => Q none r) res) : mGo w kX9_clearsMade 0 0 2 [some (va_rf v0), some (.int v1)] [] h Q := by
  unfold f_X9_clearsMade_l2 at e
  refine mLoop_go (x := (v1, h)) (fun x : Int32 × mH => mGo w kX9_clearsMade 0 0 2 [some (va_rf v0), some (.int x.1)] [] x.2 Q) (fun r : mH => Q none r) ?_ e q
  rintro ⟨v1, h1⟩ res e q
  exact g_X9_clearsMade_b2 v0 v1 h1 e q
noncomputable def f_X9_clearsMade (v0 : Option Nat) (h : mH) : Option (mH) :=
  (mIs h v0 8).bind fun _ =>
  f_X9_clearsMade_l2 v0 (0 : Int32) h
set_option maxRecDepth 100000 in
set_option maxHeartbeats 4000000 in
theorem g_X9_clearsMade {w : mWp} {Q : Option Value → mH → Prop} (v0 : Option Nat) (h : mH) {res : mH} (e : f_X9_clearsMade v0 h = some res) (q : (fun r : mH => Q none r) res) : mGo w kX9_clearsMade 0 0 0 [some (va_rf v0), none] [] h Q := by
  unfold f_X9_clearsMade at e
  obtain ⟨_, _, e⟩ := mBind e
  refine mGo.iconst (n := 1) (v := (0 : Int32)) dX9_clearsMade_0 (by decide) rfl ?_
  refine mGo.istore_n (n := 2) (ls' := [some (va_rf v0), some (.int (0 : Int32))]) dX9_clearsMade_1 ((mSt_set (fun u _ hu => by cases hu; exact mRfc _)).trans rfl) (Nat.le_of_ble_eq_true rfl) rfl ?_
  refine mGo.mk [true, true] ?_
  exact g_X9_clearsMade_l2 v0 (0 : Int32) h e q
theorem e_X9_clearsMade {w : mWp} (v0 : Option Nat) (h : mH) {res : mH} (e : f_X9_clearsMade v0 h = some res) : mEx w zX9_clearsMade (mRoom 1 0 0) [va_rf v0] h (fun r h2 => r = none ∧ h2 = res) := by
  refine mEx.of (by decide +kernel) (show mEnt [va_rf v0] 2 = [some (va_rf v0), none] by rw [mEnt_r] <;> rfl) (by simp only [List.map_cons, List.map_nil, mRfc, mCi, mCj, List.sum_cons, List.sum_nil]; exact Nat.le_of_ble_eq_true rfl) ?_
  refine g_X9_clearsMade v0 h e ?_
  exact ⟨rfl, rfl⟩
theorem s_X9_clearsMade (v0 : Option Nat) (h : mH) {res : mH} (e : f_X9_clearsMade v0 h = some res) : mIs h v0 8 = some () := by
  unfold f_X9_clearsMade at e
  obtain ⟨u, e1, _⟩ := mBind e
  cases u
  exact e1
-- X9_lays
def kX9_lays : mK := (cX9_lays, RX9, 4, none, "lays", mRoom 1 0 0)
def zX9_lays : mY := (yX9_lays, cX9_lays, 4, none)
def f_X9_lays (v0 : Option Nat) (v1 : Int32) (v2 : Int32) (v3 : Int32) (h : mH) : Option (mH) :=
  (mIs h v0 8).bind fun _ =>
  if v3 = 0 then
    some h
  else
    (mGR h v0 8 8).bind fun x1 =>
    (mAI h x1 v1).bind fun x2 =>
    (mSI h x1 v1 (x2 ||| ((1 : Int32) <<< (v2 &&& 31)))).bind fun h3 =>
    some h3
set_option maxRecDepth 100000 in
set_option maxHeartbeats 4000000 in
theorem g_X9_lays {w : mWp} {Q : Option Value → mH → Prop} (v0 : Option Nat) (v1 : Int32) (v2 : Int32) (v3 : Int32) (h : mH) {res : mH} (e : f_X9_lays v0 v1 v2 v3 h = some res) (q : (fun r : mH => Q none r) res) : mGo w kX9_lays 0 0 0 [some (va_rf v0), some (.int v1), some (.int v2), some (.int v3)] [] h Q := by
  unfold f_X9_lays at e
  obtain ⟨_, _, e⟩ := mBind e
  refine mGo.iload_n (n := 1) (x := v3) dX9_lays_0 rfl rfl ?_
  refine mGo.if_eq (tgt := 16) (n := 4) dX9_lays_1 (by decide) rfl (fun hc => ?_) (fun hc => ?_)
  · replace e := mIft hc e
    cases e
    exact mGo.vret dX9_lays_16 rfl (Nat.le_of_ble_eq_true rfl) (Nat.le_of_ble_eq_true rfl) q
  · replace e := mIff hc e
    refine mGo.aload_n (n := 5) (r := v0) dX9_lays_4 rfl rfl ?_
    obtain ⟨x1, e_x1, e⟩ := mBind e
    refine mGo.getR (n := 8) dX9_lays_5 sf_RX9_32 e_x1 rfl ?_
    refine mGo.iload_n (n := 9) (x := v1) dX9_lays_8 rfl rfl ?_
    refine mGo.dup2 (n := 10) dX9_lays_9 rfl (mRfc _) rfl ?_
    obtain ⟨x2, e_x2, e⟩ := mBind e
    refine mGo.iald (n := 11) dX9_lays_10 e_x2 rfl ?_
    refine mGo.iconst (n := 12) (v := (1 : Int32)) dX9_lays_11 (by decide) rfl ?_
    refine mGo.iload_n (n := 13) (x := v2) dX9_lays_12 rfl rfl ?_
    refine mGo.ishl (n := 14) dX9_lays_13 rfl ?_
    refine mGo.ior (n := 15) dX9_lays_14 rfl ?_
    obtain ⟨h3, e_h3, e⟩ := mBind e
    refine mGo.iast (n := 16) dX9_lays_15 e_h3 rfl ?_
    cases e
    exact mGo.vret dX9_lays_16 rfl (Nat.le_of_ble_eq_true rfl) (Nat.le_of_ble_eq_true rfl) q
theorem e_X9_lays {w : mWp} (v0 : Option Nat) (v1 : Int32) (v2 : Int32) (v3 : Int32) (h : mH) {res : mH} (e : f_X9_lays v0 v1 v2 v3 h = some res) : mEx w zX9_lays (mRoom 1 0 0) [va_rf v0, .int v1, .int v2, .int v3] h (fun r h2 => r = none ∧ h2 = res) := by
  refine mEx.of (by decide +kernel) (show mEnt [va_rf v0, .int v1, .int v2, .int v3] 4 = [some (va_rf v0), some (.int v1), some (.int v2), some (.int v3)] by rw [mEnt_r, mEnt_i, mEnt_i, mEnt_i] <;> rfl) (by simp only [List.map_cons, List.map_nil, mRfc, mCi, mCj, List.sum_cons, List.sum_nil]; exact Nat.le_of_ble_eq_true rfl) ?_
  refine g_X9_lays v0 v1 v2 v3 h e ?_
  exact ⟨rfl, rfl⟩
theorem s_X9_lays (v0 : Option Nat) (v1 : Int32) (v2 : Int32) (v3 : Int32) (h : mH) {res : mH} (e : f_X9_lays v0 v1 v2 v3 h = some res) : mIs h v0 8 = some () := by
  unfold f_X9_lays at e
  obtain ⟨u, e1, _⟩ := mBind e
  cases u
  exact e1
-- X9_trailsAnew
def kX9_trailsAnew : mK := (cX9_trailsAnew, RX9, 4, none, "trailsAnew", mRoom 1 0 0)
def zX9_trailsAnew : mY := (yX9_trailsAnew, cX9_trailsAnew, 4, none)
def f_X9_trailsAnew_b22 (v0 : Option Nat) (v1 : Int32) (v2 : Int32) (v3 : Int32) (h : mH) : Option ((Int32 × mH) ⊕ ((Int32 × mH) ⊕ (mH))) :=
  if (28 : Int32) ≤ v3 then
    some (Sum.inr (Sum.inl ((v2 + 1), h)))
  else
    (mGR h v0 8 3).bind fun x1 =>
    (mSI h x1 (((28 : Int32) * (((2 : Int32) * v1) + v2)) + v3) v3).bind fun h2 =>
    (mGR h2 v0 8 4).bind fun x3 =>
    (mSI h2 x3 (((28 : Int32) * (((2 : Int32) * v1) + v2)) + v3) (0 : Int32)).bind fun h4 =>
    some (Sum.inl ((v3 + 1), h4))
set_option maxRecDepth 100000 in
set_option maxHeartbeats 4000000 in
theorem g_X9_trailsAnew_b22 {w : mWp} {Q : Option Value → mH → Prop} (v0 : Option Nat) (v1 : Int32) (v2 : Int32) (v3 : Int32) (h : mH) {res : (Int32 × mH) ⊕ ((Int32 × mH) ⊕ (mH))} (e : f_X9_trailsAnew_b22 v0 v1 v2 v3 h = some res) (q : (Sum.elim (fun x : Int32 × mH => mGo w kX9_trailsAnew 0 0 22 [some (va_rf v0), some (.int v1), some (.int v2), some (.int x.1)] [] x.2 Q) (Sum.elim (fun x : Int32 × mH => mGo w kX9_trailsAnew 0 0 2 [some (va_rf v0), some (.int v1), some (.int x.1), none] [] x.2 Q) (fun r : mH => Q none r))) res) : mGo w kX9_trailsAnew 0 0 22 [some (va_rf v0), some (.int v1), some (.int v2), some (.int v3)] [] h Q := by
  unfold f_X9_trailsAnew_b22 at e
  refine mGo.iload_n (n := 23) (x := v3) dX9_trailsAnew_22 rfl rfl ?_
  refine mGo.bipush (n := 25) (v := (28 : Int32)) dX9_trailsAnew_23 (by decide) rfl ?_
  refine mGo.icmp_ge (tgt := 66) (n := 28) dX9_trailsAnew_25 (by decide) rfl (fun hc => ?_) (fun hc => ?_)
  · replace e := mIft hc e
    refine mGo.iinc (n := 69) (x := v2) (v := (v2 + 1)) (ls' := [some (va_rf v0), some (.int v1), some (.int (v2 + 1)), some (.int v3)]) dX9_trailsAnew_66 rfl rfl rfl (Nat.le_of_ble_eq_true rfl) rfl ?_
    refine mGo.goto (tgt := 2) dX9_trailsAnew_69 (by decide) ?_
    cases e
    refine mGo.mk [true, true, true, false] ?_
    exact q
  · replace e := mIff hc e
    refine mGo.aload_n (n := 29) (r := v0) dX9_trailsAnew_28 rfl rfl ?_
    obtain ⟨x1, e_x1, e⟩ := mBind e
    refine mGo.getR (n := 32) dX9_trailsAnew_29 sf_RX9_20 e_x1 rfl ?_
    refine mGo.bipush (n := 34) (v := (28 : Int32)) dX9_trailsAnew_32 (by decide) rfl ?_
    refine mGo.iconst (n := 35) (v := (2 : Int32)) dX9_trailsAnew_34 (by decide) rfl ?_
    refine mGo.iload_n (n := 36) (x := v1) dX9_trailsAnew_35 rfl rfl ?_
    refine mGo.imul (n := 37) dX9_trailsAnew_36 rfl ?_
    refine mGo.iload_n (n := 38) (x := v2) dX9_trailsAnew_37 rfl rfl ?_
    refine mGo.iadd (n := 39) dX9_trailsAnew_38 rfl ?_
    refine mGo.imul (n := 40) dX9_trailsAnew_39 rfl ?_
    refine mGo.iload_n (n := 41) (x := v3) dX9_trailsAnew_40 rfl rfl ?_
    refine mGo.iadd (n := 42) dX9_trailsAnew_41 rfl ?_
    refine mGo.iload_n (n := 43) (x := v3) dX9_trailsAnew_42 rfl rfl ?_
    obtain ⟨h2, e_h2, e⟩ := mBind e
    refine mGo.iast (n := 44) dX9_trailsAnew_43 e_h2 rfl ?_
    refine mGo.aload_n (n := 45) (r := v0) dX9_trailsAnew_44 rfl rfl ?_
    obtain ⟨x3, e_x3, e⟩ := mBind e
    refine mGo.getR (n := 48) dX9_trailsAnew_45 sf_RX9_23 e_x3 rfl ?_
    refine mGo.bipush (n := 50) (v := (28 : Int32)) dX9_trailsAnew_48 (by decide) rfl ?_
    refine mGo.iconst (n := 51) (v := (2 : Int32)) dX9_trailsAnew_50 (by decide) rfl ?_
    refine mGo.iload_n (n := 52) (x := v1) dX9_trailsAnew_51 rfl rfl ?_
    refine mGo.imul (n := 53) dX9_trailsAnew_52 rfl ?_
    refine mGo.iload_n (n := 54) (x := v2) dX9_trailsAnew_53 rfl rfl ?_
    refine mGo.iadd (n := 55) dX9_trailsAnew_54 rfl ?_
    refine mGo.imul (n := 56) dX9_trailsAnew_55 rfl ?_
    refine mGo.iload_n (n := 57) (x := v3) dX9_trailsAnew_56 rfl rfl ?_
    refine mGo.iadd (n := 58) dX9_trailsAnew_57 rfl ?_
    refine mGo.iconst (n := 59) (v := (0 : Int32)) dX9_trailsAnew_58 (by decide) rfl ?_
    obtain ⟨h4, e_h4, e⟩ := mBind e
    refine mGo.iast (n := 60) dX9_trailsAnew_59 e_h4 rfl ?_
    refine mGo.iinc (n := 63) (x := v3) (v := (v3 + 1)) (ls' := [some (va_rf v0), some (.int v1), some (.int v2), some (.int (v3 + 1))]) dX9_trailsAnew_60 rfl rfl rfl (Nat.le_of_ble_eq_true rfl) rfl ?_
    refine mGo.goto (tgt := 22) dX9_trailsAnew_63 (by decide) ?_
    cases e
    refine mGo.mk [true, true, true, true] ?_
    exact q
noncomputable def f_X9_trailsAnew_l22 (v0 : Option Nat) (v1 : Int32) (v2 : Int32) (v3 : Int32) (h : mH) : Option ((Int32 × mH) ⊕ (mH)) :=
  mLoop (fun x : Int32 × mH => f_X9_trailsAnew_b22 v0 v1 v2 x.1 x.2) (v3, h)
set_option maxRecDepth 100000 in
set_option maxHeartbeats 4000000 in
theorem g_X9_trailsAnew_l22 {w : mWp} {Q : Option Value → mH → Prop} (v0 : Option Nat) (v1 : Int32) (v2 : Int32) (v3 : Int32) (h : mH) {res : (Int32 × mH) ⊕ (mH)} (e : f_X9_trailsAnew_l22 v0 v1 v2 v3 h = some res) (q : (Sum.elim (fun x : Int32 × mH => mGo w kX9_trailsAnew 0 0 2 [some (va_rf v0), some (.int v1), some (.int x.1), none] [] x.2 Q) (fun r : mH => Q none r)) res) : mGo w kX9_trailsAnew 0 0 22 [some (va_rf v0), some (.int v1), some (.int v2), some (.int v3)] [] h Q := by
  unfold f_X9_trailsAnew_l22 at e
  refine mLoop_go (x := (v3, h)) (fun x : Int32 × mH => mGo w kX9_trailsAnew 0 0 22 [some (va_rf v0), some (.int v1), some (.int v2), some (.int x.1)] [] x.2 Q) (Sum.elim (fun x : Int32 × mH => mGo w kX9_trailsAnew 0 0 2 [some (va_rf v0), some (.int v1), some (.int x.1), none] [] x.2 Q) (fun r : mH => Q none r)) ?_ e q
  rintro ⟨v3, h1⟩ res e q
  exact g_X9_trailsAnew_b22 v0 v1 v2 v3 h1 e q
noncomputable def f_X9_trailsAnew_b2 (v0 : Option Nat) (v1 : Int32) (v2 : Int32) (h : mH) : Option ((Int32 × mH) ⊕ (mH)) :=
  if (2 : Int32) ≤ v2 then
    some (Sum.inr h)
  else
    (mGR h v0 8 5).bind fun x1 =>
    (mSI h x1 (((2 : Int32) * v1) + v2) ((1 : Int32) - v2)).bind fun h2 =>
    f_X9_trailsAnew_l22 v0 v1 v2 (0 : Int32) h2
set_option maxRecDepth 100000 in
set_option maxHeartbeats 4000000 in
theorem g_X9_trailsAnew_b2 {w : mWp} {Q : Option Value → mH → Prop} (v0 : Option Nat) (v1 : Int32) (v2 : Int32) (h : mH) {res : (Int32 × mH) ⊕ (mH)} (e : f_X9_trailsAnew_b2 v0 v1 v2 h = some res) (q : (Sum.elim (fun x : Int32 × mH => mGo w kX9_trailsAnew 0 0 2 [some (va_rf v0), some (.int v1), some (.int x.1), none] [] x.2 Q) (fun r : mH => Q none r)) res) : mGo w kX9_trailsAnew 0 0 2 [some (va_rf v0), some (.int v1), some (.int v2), none] [] h Q := by
  unfold f_X9_trailsAnew_b2 at e
  refine mGo.iload_n (n := 3) (x := v2) dX9_trailsAnew_2 rfl rfl ?_
  refine mGo.iconst (n := 4) (v := (2 : Int32)) dX9_trailsAnew_3 (by decide) rfl ?_
  refine mGo.icmp_ge (tgt := 72) (n := 7) dX9_trailsAnew_4 (by decide) rfl (fun hc => ?_) (fun hc => ?_)
  · replace e := mIft hc e
    cases e
    exact mGo.vret dX9_trailsAnew_72 rfl (Nat.le_of_ble_eq_true rfl) (Nat.le_of_ble_eq_true rfl) q
  · replace e := mIff hc e
    refine mGo.aload_n (n := 8) (r := v0) dX9_trailsAnew_7 rfl rfl ?_
    obtain ⟨x1, e_x1, e⟩ := mBind e
    refine mGo.getR (n := 11) dX9_trailsAnew_8 sf_RX9_26 e_x1 rfl ?_
    refine mGo.iconst (n := 12) (v := (2 : Int32)) dX9_trailsAnew_11 (by decide) rfl ?_
    refine mGo.iload_n (n := 13) (x := v1) dX9_trailsAnew_12 rfl rfl ?_
    refine mGo.imul (n := 14) dX9_trailsAnew_13 rfl ?_
    refine mGo.iload_n (n := 15) (x := v2) dX9_trailsAnew_14 rfl rfl ?_
    refine mGo.iadd (n := 16) dX9_trailsAnew_15 rfl ?_
    refine mGo.iconst (n := 17) (v := (1 : Int32)) dX9_trailsAnew_16 (by decide) rfl ?_
    refine mGo.iload_n (n := 18) (x := v2) dX9_trailsAnew_17 rfl rfl ?_
    refine mGo.isub (n := 19) dX9_trailsAnew_18 rfl ?_
    obtain ⟨h2, e_h2, e⟩ := mBind e
    refine mGo.iast (n := 20) dX9_trailsAnew_19 e_h2 rfl ?_
    refine mGo.iconst (n := 21) (v := (0 : Int32)) dX9_trailsAnew_20 (by decide) rfl ?_
    refine mGo.istore_n (n := 22) (ls' := [some (va_rf v0), some (.int v1), some (.int v2), some (.int (0 : Int32))]) dX9_trailsAnew_21 rfl (Nat.le_of_ble_eq_true rfl) rfl ?_
    refine mGo.mk [true, true, true, true] ?_
    exact g_X9_trailsAnew_l22 v0 v1 v2 (0 : Int32) h2 e q
noncomputable def f_X9_trailsAnew_l2 (v0 : Option Nat) (v1 : Int32) (v2 : Int32) (h : mH) : Option (mH) :=
  mLoop (fun x : Int32 × mH => f_X9_trailsAnew_b2 v0 v1 x.1 x.2) (v2, h)
set_option maxRecDepth 100000 in
set_option maxHeartbeats 4000000 in
theorem g_X9_trailsAnew_l2 {w : mWp} {Q : Option Value → mH → Prop} (v0 : Option Nat) (v1 : Int32) (v2 : Int32) (h : mH) {res : mH} (e : f_X9_trailsAnew_l2 v0 v1 v2 h = some res) (q : (fun r : mH => Q none r) res) : mGo w kX9_trailsAnew 0 0 2 [some (va_rf v0), some (.int v1), some (.int v2), none] [] h Q := by
  unfold f_X9_trailsAnew_l2 at e
  refine mLoop_go (x := (v2, h)) (fun x : Int32 × mH => mGo w kX9_trailsAnew 0 0 2 [some (va_rf v0), some (.int v1), some (.int x.1), none] [] x.2 Q) (fun r : mH => Q none r) ?_ e q
  rintro ⟨v2, h1⟩ res e q
  exact g_X9_trailsAnew_b2 v0 v1 v2 h1 e q
noncomputable def f_X9_trailsAnew (v0 : Option Nat) (v1 : Int32) (h : mH) : Option (mH) :=
  (mIs h v0 8).bind fun _ =>
  f_X9_trailsAnew_l2 v0 v1 (0 : Int32) h
set_option maxRecDepth 100000 in
set_option maxHeartbeats 4000000 in
theorem g_X9_trailsAnew {w : mWp} {Q : Option Value → mH → Prop} (v0 : Option Nat) (v1 : Int32) (h : mH) {res : mH} (e : f_X9_trailsAnew v0 v1 h = some res) (q : (fun r : mH => Q none r) res) : mGo w kX9_trailsAnew 0 0 0 [some (va_rf v0), some (.int v1), none, none] [] h Q := by
  unfold f_X9_trailsAnew at e
  obtain ⟨_, _, e⟩ := mBind e
  refine mGo.iconst (n := 1) (v := (0 : Int32)) dX9_trailsAnew_0 (by decide) rfl ?_
  refine mGo.istore_n (n := 2) (ls' := [some (va_rf v0), some (.int v1), some (.int (0 : Int32)), none]) dX9_trailsAnew_1 rfl (Nat.le_of_ble_eq_true rfl) rfl ?_
  refine mGo.mk [true, true, true, false] ?_
  exact g_X9_trailsAnew_l2 v0 v1 (0 : Int32) h e q
theorem e_X9_trailsAnew {w : mWp} (v0 : Option Nat) (v1 : Int32) (h : mH) {res : mH} (e : f_X9_trailsAnew v0 v1 h = some res) : mEx w zX9_trailsAnew (mRoom 1 0 0) [va_rf v0, .int v1] h (fun r h2 => r = none ∧ h2 = res) := by
  refine mEx.of (by decide +kernel) (show mEnt [va_rf v0, .int v1] 4 = [some (va_rf v0), some (.int v1), none, none] by rw [mEnt_r, mEnt_i] <;> rfl) (by simp only [List.map_cons, List.map_nil, mRfc, mCi, mCj, List.sum_cons, List.sum_nil]; exact Nat.le_of_ble_eq_true rfl) ?_
  refine g_X9_trailsAnew v0 v1 h e ?_
  exact ⟨rfl, rfl⟩
theorem s_X9_trailsAnew (v0 : Option Nat) (v1 : Int32) (h : mH) {res : mH} (e : f_X9_trailsAnew v0 v1 h = some res) : mIs h v0 8 = some () := by
  unfold f_X9_trailsAnew at e
  obtain ⟨u, e1, _⟩ := mBind e
  cases u
  exact e1
-- X9_comes
def kX9_comes : mK := (cX9_comes, RX9, 4, some (.int), "comes", mRoom 2 0 0)
def zX9_comes : mY := (yX9_comes, cX9_comes, 4, some (.int))
set_option maxRecDepth 100000 in
theorem sc_RX9_104 : mSV RX9 104 zX9_freePlace 0 8 := ⟨Or.inl (mT_at 894 (by decide +kernel) rfl), mT_at 896 (by decide +kernel) rfl, mT_at 43 (by decide +kernel) rfl, mT_at 91 (by decide +kernel) rfl, mT_at 897 (by decide +kernel) rfl, ⟨by decide +kernel, by decide +kernel, by decide +kernel⟩, by decide, rfl⟩
set_option maxRecDepth 100000 in
theorem sc_RX9_108 : mSV RX9 108 zX9_trailsAnew 1 8 := ⟨Or.inl (mT_at 910 (by decide +kernel) rfl), mT_at 912 (by decide +kernel) rfl, mT_at 47 (by decide +kernel) rfl, mT_at 91 (by decide +kernel) rfl, mT_at 913 (by decide +kernel) rfl, ⟨by decide +kernel, by decide +kernel, by decide +kernel⟩, by decide, rfl⟩
noncomputable def f_X9_comes_b14 (v0 : Option Nat) (v2 : Int32) (v3 : Int32) (h : mH) : Option ((Int32 × mH) ⊕ (Int32 × mH)) :=
  if (28 : Int32) ≤ v3 then
    (f_X9_trailsAnew v0 v2 h).bind fun x1 =>
    some (Sum.inr (v2, x1))
  else
    (mGR h v0 8 2).bind fun x2 =>
    (mGR h v0 8 8).bind fun x3 =>
    (mAI h x3 v3).bind fun x4 =>
    (mSI h x2 (((28 : Int32) * v2) + v3) x4).bind fun h5 =>
    some (Sum.inl ((v3 + 1), h5))
set_option maxRecDepth 100000 in
set_option maxHeartbeats 4000000 in
theorem g_X9_comes_b14 {w : mWp} {Q : Option Value → mH → Prop} (v0 : Option Nat) (v2 : Int32) (v3 : Int32) (h : mH) {res : (Int32 × mH) ⊕ (Int32 × mH)} (e : f_X9_comes_b14 v0 v2 v3 h = some res) (q : (Sum.elim (fun x : Int32 × mH => mGo w kX9_comes 0 0 14 [some (va_rf v0), none, some (.int v2), some (.int x.1)] [] x.2 Q) (fun r : Int32 × mH => Q (some (.int r.1)) r.2)) res) : mGo w kX9_comes 0 0 14 [some (va_rf v0), none, some (.int v2), some (.int v3)] [] h Q := by
  unfold f_X9_comes_b14 at e
  refine mGo.iload_n (n := 15) (x := v3) dX9_comes_14 rfl rfl ?_
  refine mGo.bipush (n := 17) (v := (28 : Int32)) dX9_comes_15 (by decide) rfl ?_
  refine mGo.icmp_ge (tgt := 43) (n := 20) dX9_comes_17 (by decide) rfl (fun hc => ?_) (fun hc => ?_)
  · replace e := mIft hc e
    refine mGo.aload_n (n := 44) (r := v0) dX9_comes_43 rfl rfl ?_
    refine mGo.iload_n (n := 45) (x := v2) dX9_comes_44 rfl rfl ?_
    obtain ⟨x1, e_x1, e⟩ := mBind e
    refine mGo.callV (n := 48) (y := zX9_trailsAnew) (R' := (mRoom (1) 0 0)) (as := [.int v2]) (st := []) (r0 := v0) dX9_comes_45 sc_RX9_108 rfl (s_X9_trailsAnew v0 v2 h e_x1) (e_X9_trailsAnew v0 v2 h e_x1) (mFit_of rfl (Nat.le_of_ble_eq_true rfl) (by decide) (Nat.le_of_ble_eq_true rfl) (Nat.le_of_ble_eq_true rfl)) (Nat.le_of_ble_eq_true rfl) rfl rfl ?_
    intro _ _ hq
    rw [hq.1, hq.2]
    show mGo w kX9_comes 0 0 48 [some (va_rf v0), none, some (.int v2), some (.int v3)] [] x1 Q
    refine mGo.iload_n (n := 49) (x := v2) dX9_comes_48 rfl rfl ?_
    cases e
    exact mGo.iret dX9_comes_49 rfl (Nat.le_of_ble_eq_true rfl) (Nat.le_of_ble_eq_true rfl) q
  · replace e := mIff hc e
    refine mGo.aload_n (n := 21) (r := v0) dX9_comes_20 rfl rfl ?_
    obtain ⟨x2, e_x2, e⟩ := mBind e
    refine mGo.getR (n := 24) dX9_comes_21 sf_RX9_17 e_x2 rfl ?_
    refine mGo.bipush (n := 26) (v := (28 : Int32)) dX9_comes_24 (by decide) rfl ?_
    refine mGo.iload_n (n := 27) (x := v2) dX9_comes_26 rfl rfl ?_
    refine mGo.imul (n := 28) dX9_comes_27 rfl ?_
    refine mGo.iload_n (n := 29) (x := v3) dX9_comes_28 rfl rfl ?_
    refine mGo.iadd (n := 30) dX9_comes_29 rfl ?_
    refine mGo.aload_n (n := 31) (r := v0) dX9_comes_30 rfl rfl ?_
    obtain ⟨x3, e_x3, e⟩ := mBind e
    refine mGo.getR (n := 34) dX9_comes_31 sf_RX9_32 e_x3 rfl ?_
    refine mGo.iload_n (n := 35) (x := v3) dX9_comes_34 rfl rfl ?_
    obtain ⟨x4, e_x4, e⟩ := mBind e
    refine mGo.iald (n := 36) dX9_comes_35 e_x4 rfl ?_
    obtain ⟨h5, e_h5, e⟩ := mBind e
    refine mGo.iast (n := 37) dX9_comes_36 e_h5 rfl ?_
    refine mGo.iinc (n := 40) (x := v3) (v := (v3 + 1)) (ls' := [some (va_rf v0), none, some (.int v2), some (.int (v3 + 1))]) dX9_comes_37 rfl rfl rfl (Nat.le_of_ble_eq_true rfl) rfl ?_
    refine mGo.goto (tgt := 14) dX9_comes_40 (by decide) ?_
    cases e
    refine mGo.mk [true, false, true, true] ?_
    exact q
noncomputable def f_X9_comes_l14 (v0 : Option Nat) (v2 : Int32) (v3 : Int32) (h : mH) : Option (Int32 × mH) :=
  mLoop (fun x : Int32 × mH => f_X9_comes_b14 v0 v2 x.1 x.2) (v3, h)
set_option maxRecDepth 100000 in
set_option maxHeartbeats 4000000 in
theorem g_X9_comes_l14 {w : mWp} {Q : Option Value → mH → Prop} (v0 : Option Nat) (v2 : Int32) (v3 : Int32) (h : mH) {res : Int32 × mH} (e : f_X9_comes_l14 v0 v2 v3 h = some res) (q : (fun r : Int32 × mH => Q (some (.int r.1)) r.2) res) : mGo w kX9_comes 0 0 14 [some (va_rf v0), none, some (.int v2), some (.int v3)] [] h Q := by
  unfold f_X9_comes_l14 at e
  refine mLoop_go (x := (v3, h)) (fun x : Int32 × mH => mGo w kX9_comes 0 0 14 [some (va_rf v0), none, some (.int v2), some (.int x.1)] [] x.2 Q) (fun r : Int32 × mH => Q (some (.int r.1)) r.2) ?_ e q
  rintro ⟨v3, h1⟩ res e q
  exact g_X9_comes_b14 v0 v2 v3 h1 e q
noncomputable def f_X9_comes (v0 : Option Nat) (v1 : Int32) (h : mH) : Option (Int32 × mH) :=
  (mIs h v0 8).bind fun _ =>
  (f_X9_freePlace v0 h).bind fun x1 =>
  (mGR h v0 8 1).bind fun x2 =>
  (mSI h x2 x1 v1).bind fun h3 =>
  f_X9_comes_l14 v0 x1 (0 : Int32) h3
set_option maxRecDepth 100000 in
set_option maxHeartbeats 4000000 in
theorem g_X9_comes {w : mWp} {Q : Option Value → mH → Prop} (v0 : Option Nat) (v1 : Int32) (h : mH) {res : Int32 × mH} (e : f_X9_comes v0 v1 h = some res) (q : (fun r : Int32 × mH => Q (some (.int r.1)) r.2) res) : mGo w kX9_comes 0 0 0 [some (va_rf v0), some (.int v1), none, none] [] h Q := by
  unfold f_X9_comes at e
  obtain ⟨_, _, e⟩ := mBind e
  refine mGo.aload_n (n := 1) (r := v0) dX9_comes_0 rfl rfl ?_
  obtain ⟨x1, e_x1, e⟩ := mBind e
  refine mGo.callV (n := 4) (y := zX9_freePlace) (R' := (mRoom (1) 0 0)) (as := []) (st := []) (r0 := v0) dX9_comes_1 sc_RX9_104 rfl (s_X9_freePlace v0 h e_x1) (e_X9_freePlace v0 h e_x1) (mFit_of rfl (Nat.le_of_ble_eq_true rfl) (by decide) (Nat.le_of_ble_eq_true rfl) (Nat.le_of_ble_eq_true rfl)) (Nat.le_of_ble_eq_true rfl) rfl rfl ?_
  intro _ _ hq
  rw [hq.1, hq.2]
  show mGo w kX9_comes 0 0 4 [some (va_rf v0), some (.int v1), none, none] [.int x1] h Q
  refine mGo.istore_n (n := 5) (ls' := [some (va_rf v0), some (.int v1), some (.int x1), none]) dX9_comes_4 rfl (Nat.le_of_ble_eq_true rfl) rfl ?_
  refine mGo.aload_n (n := 6) (r := v0) dX9_comes_5 rfl rfl ?_
  obtain ⟨x2, e_x2, e⟩ := mBind e
  refine mGo.getR (n := 9) dX9_comes_6 sf_RX9_13 e_x2 rfl ?_
  refine mGo.iload_n (n := 10) (x := x1) dX9_comes_9 rfl rfl ?_
  refine mGo.iload_n (n := 11) (x := v1) dX9_comes_10 rfl rfl ?_
  obtain ⟨h3, e_h3, e⟩ := mBind e
  refine mGo.iast (n := 12) dX9_comes_11 e_h3 rfl ?_
  refine mGo.iconst (n := 13) (v := (0 : Int32)) dX9_comes_12 (by decide) rfl ?_
  refine mGo.istore_n (n := 14) (ls' := [some (va_rf v0), some (.int v1), some (.int x1), some (.int (0 : Int32))]) dX9_comes_13 rfl (Nat.le_of_ble_eq_true rfl) rfl ?_
  refine mGo.mk [true, false, true, true] ?_
  exact g_X9_comes_l14 v0 x1 (0 : Int32) h3 e q
theorem e_X9_comes {w : mWp} (v0 : Option Nat) (v1 : Int32) (h : mH) {res : Int32 × mH} (e : f_X9_comes v0 v1 h = some res) : mEx w zX9_comes (mRoom 2 0 0) [va_rf v0, .int v1] h (fun r h2 => r = some (.int res.1) ∧ h2 = res.2) := by
  refine mEx.of (by decide +kernel) (show mEnt [va_rf v0, .int v1] 4 = [some (va_rf v0), some (.int v1), none, none] by rw [mEnt_r, mEnt_i] <;> rfl) (by simp only [List.map_cons, List.map_nil, mRfc, mCi, mCj, List.sum_cons, List.sum_nil]; exact Nat.le_of_ble_eq_true rfl) ?_
  refine g_X9_comes v0 v1 h e ?_
  exact ⟨rfl, rfl⟩
theorem s_X9_comes (v0 : Option Nat) (v1 : Int32) (h : mH) {res : Int32 × mH} (e : f_X9_comes v0 v1 h = some res) : mIs h v0 8 = some () := by
  unfold f_X9_comes at e
  obtain ⟨u, e1, _⟩ := mBind e
  cases u
  exact e1
-- X9_isFull
def kX9_isFull : mK := (cX9_isFull, RX9, 1, some (.boolean), "isFull", mRoom 2 0 0)
def zX9_isFull : mY := (yX9_isFull, cX9_isFull, 1, some (.boolean))
noncomputable def f_X9_isFull (v0 : Option Nat) (h : mH) : Option (Int32) :=
  (mIs h v0 8).bind fun _ =>
  (f_X9_freePlace v0 h).bind fun x1 =>
  if x1 = (-1 : Int32) then
    some (1 : Int32)
  else
    some (0 : Int32)
set_option maxRecDepth 100000 in
set_option maxHeartbeats 4000000 in
theorem g_X9_isFull {w : mWp} {Q : Option Value → mH → Prop} (v0 : Option Nat) (h : mH) {res : Int32} (e : f_X9_isFull v0 h = some res) (q : (fun r : Int32 => Q (some (.int r)) h) res) : mGo w kX9_isFull 0 0 0 [some (va_rf v0)] [] h Q := by
  unfold f_X9_isFull at e
  obtain ⟨_, _, e⟩ := mBind e
  refine mGo.aload_n (n := 1) (r := v0) dX9_isFull_0 rfl rfl ?_
  obtain ⟨x1, e_x1, e⟩ := mBind e
  refine mGo.callV (n := 4) (y := zX9_freePlace) (R' := (mRoom (1) 0 0)) (as := []) (st := []) (r0 := v0) dX9_isFull_1 sc_RX9_104 rfl (s_X9_freePlace v0 h e_x1) (e_X9_freePlace v0 h e_x1) (mFit_of rfl (Nat.le_of_ble_eq_true rfl) (by decide) (Nat.le_of_ble_eq_true rfl) (Nat.le_of_ble_eq_true rfl)) (Nat.le_of_ble_eq_true rfl) rfl rfl ?_
  intro _ _ hq
  rw [hq.1, hq.2]
  show mGo w kX9_isFull 0 0 4 [some (va_rf v0)] [.int x1] h Q
  refine mGo.iconst (n := 5) (v := (-1 : Int32)) dX9_isFull_4 (by decide) rfl ?_
  refine mGo.icmp_ne (tgt := 12) (n := 8) dX9_isFull_5 (by decide) rfl (fun hc => ?_) (fun hc => ?_)
  · replace e := mIff hc e
    refine mGo.iconst (n := 13) (v := (0 : Int32)) dX9_isFull_12 (by decide) rfl ?_
    cases e
    exact mGo.zret dX9_isFull_13 rfl (by decide) (Nat.le_of_ble_eq_true rfl) (Nat.le_of_ble_eq_true rfl) q
  · replace e := mIft hc e
    refine mGo.iconst (n := 9) (v := (1 : Int32)) dX9_isFull_8 (by decide) rfl ?_
    refine mGo.goto (tgt := 13) dX9_isFull_9 (by decide) ?_
    cases e
    exact mGo.zret dX9_isFull_13 rfl (by decide) (Nat.le_of_ble_eq_true rfl) (Nat.le_of_ble_eq_true rfl) q
theorem e_X9_isFull {w : mWp} (v0 : Option Nat) (h : mH) {res : Int32} (e : f_X9_isFull v0 h = some res) : mEx w zX9_isFull (mRoom 2 0 0) [va_rf v0] h (fun r h2 => r = some (.int res) ∧ h2 = h) := by
  refine mEx.of (by decide +kernel) (show mEnt [va_rf v0] 1 = [some (va_rf v0)] by rw [mEnt_r] <;> rfl) (by simp only [List.map_cons, List.map_nil, mRfc, mCi, mCj, List.sum_cons, List.sum_nil]; exact Nat.le_of_ble_eq_true rfl) ?_
  refine g_X9_isFull v0 h e ?_
  exact ⟨rfl, rfl⟩
theorem s_X9_isFull (v0 : Option Nat) (h : mH) {res : Int32} (e : f_X9_isFull v0 h = some res) : mIs h v0 8 = some () := by
  unfold f_X9_isFull at e
  obtain ⟨u, e1, _⟩ := mBind e
  cases u
  exact e1
-- X9_tell
def kX9_tell : mK := (cX9_tell, RX9, 2, some (.int), "tell", mRoom 2 0 0)
def zX9_tell : mY := (yX9_tell, cX9_tell, 2, some (.int))
set_option maxRecDepth 100000 in
theorem sf_RX9_112 : mFld RX9 112 8 7 := ⟨by decide, by decide, Or.inl (mT_at 809 (by decide +kernel) rfl)⟩
def f_X9_tell (v0 : Option Nat) (v1 : Int32) (h : mH) : Option (Int32 × mH) :=
  (mIs h v0 8).bind fun _ =>
  (mGI h v0 8 7).bind fun x1 =>
  if x1 = (28 : Int32) then
    some ((-1 : Int32), h)
  else
    (f_X9_in v1 (0 : Int32) (268435455 : Int32)).bind fun x2 =>
    if x2 = 0 then
      some ((-1 : Int32), h)
    else
      (mGR h v0 8 6).bind fun x3 =>
      (mGI h v0 8 7).bind fun x4 =>
      (mSI h x3 x4 v1).bind fun h5 =>
      (mGI h5 v0 8 7).bind fun x6 =>
      (mPF h5 v0 8 7 (.int (x6 + (1 : Int32)))).bind fun h7 =>
      (mGI h7 v0 8 7).bind fun x8 =>
      some (x8, h7)
set_option maxRecDepth 100000 in
set_option maxHeartbeats 4000000 in
theorem g_X9_tell {w : mWp} {Q : Option Value → mH → Prop} (v0 : Option Nat) (v1 : Int32) (h : mH) {res : Int32 × mH} (e : f_X9_tell v0 v1 h = some res) (q : (fun r : Int32 × mH => Q (some (.int r.1)) r.2) res) : mGo w kX9_tell 0 0 0 [some (va_rf v0), some (.int v1)] [] h Q := by
  unfold f_X9_tell at e
  obtain ⟨_, _, e⟩ := mBind e
  refine mGo.aload_n (n := 1) (r := v0) dX9_tell_0 rfl rfl ?_
  obtain ⟨x1, e_x1, e⟩ := mBind e
  refine mGo.getI (n := 4) dX9_tell_1 sf_RX9_112 e_x1 rfl ?_
  refine mGo.bipush (n := 6) (v := (28 : Int32)) dX9_tell_4 (by decide) rfl ?_
  refine mGo.icmp_eq (tgt := 19) (n := 9) dX9_tell_6 (by decide) rfl (fun hc => ?_) (fun hc => ?_)
  · replace e := mIft hc e
    refine mGo.iconst (n := 20) (v := (-1 : Int32)) dX9_tell_19 (by decide) rfl ?_
    cases e
    exact mGo.iret dX9_tell_20 rfl (Nat.le_of_ble_eq_true rfl) (Nat.le_of_ble_eq_true rfl) q
  · replace e := mIff hc e
    refine mGo.iload_n (n := 10) (x := v1) dX9_tell_9 rfl rfl ?_
    refine mGo.iconst (n := 11) (v := (0 : Int32)) dX9_tell_10 (by decide) rfl ?_
    refine mGo.ldc (n := 13) (v := (268435455 : Int32)) dX9_tell_11 (mT_at 882 (by decide +kernel) rfl) rfl ?_
    obtain ⟨x2, e_x2, e⟩ := mBind e
    refine mGo.callS (n := 16) (y := zX9_in) (R' := (mRoom (1) 0 0)) (as := [.int v1, .int (0 : Int32), .int (268435455 : Int32)]) (st := []) dX9_tell_13 sc_RX9_82 rfl (e_X9_in v1 (0 : Int32) (268435455 : Int32) h e_x2) (mFit_of rfl (Nat.le_of_ble_eq_true rfl) (by decide) (Nat.le_of_ble_eq_true rfl) (Nat.le_of_ble_eq_true rfl)) (Nat.le_of_ble_eq_true rfl) rfl rfl ?_
    intro _ _ hq
    rw [hq.1, hq.2]
    show mGo w kX9_tell 0 0 16 [some (va_rf v0), some (.int v1)] [.int x2] h Q
    refine mGo.if_ne (tgt := 21) (n := 19) dX9_tell_16 (by decide) rfl (fun hc => ?_) (fun hc => ?_)
    · replace e := mIff hc e
      refine mGo.aload_n (n := 22) (r := v0) dX9_tell_21 rfl rfl ?_
      obtain ⟨x3, e_x3, e⟩ := mBind e
      refine mGo.getR (n := 25) dX9_tell_22 sf_RX9_29 e_x3 rfl ?_
      refine mGo.aload_n (n := 26) (r := v0) dX9_tell_25 rfl rfl ?_
      obtain ⟨x4, e_x4, e⟩ := mBind e
      refine mGo.getI (n := 29) dX9_tell_26 sf_RX9_112 e_x4 rfl ?_
      refine mGo.iload_n (n := 30) (x := v1) dX9_tell_29 rfl rfl ?_
      obtain ⟨h5, e_h5, e⟩ := mBind e
      refine mGo.iast (n := 31) dX9_tell_30 e_h5 rfl ?_
      refine mGo.aload_n (n := 32) (r := v0) dX9_tell_31 rfl rfl ?_
      refine mGo.dup (n := 33) dX9_tell_32 (mRfc _) rfl ?_
      obtain ⟨x6, e_x6, e⟩ := mBind e
      refine mGo.getI (n := 36) dX9_tell_33 sf_RX9_112 e_x6 rfl ?_
      refine mGo.iconst (n := 37) (v := (1 : Int32)) dX9_tell_36 (by decide) rfl ?_
      refine mGo.iadd (n := 38) dX9_tell_37 rfl ?_
      obtain ⟨h7, e_h7, e⟩ := mBind e
      refine mGo.putI (n := 41) dX9_tell_38 sf_RX9_112 rfl rfl e_h7 rfl ?_
      refine mGo.aload_n (n := 42) (r := v0) dX9_tell_41 rfl rfl ?_
      obtain ⟨x8, e_x8, e⟩ := mBind e
      refine mGo.getI (n := 45) dX9_tell_42 sf_RX9_112 e_x8 rfl ?_
      cases e
      exact mGo.iret dX9_tell_45 rfl (Nat.le_of_ble_eq_true rfl) (Nat.le_of_ble_eq_true rfl) q
    · replace e := mIft hc e
      refine mGo.iconst (n := 20) (v := (-1 : Int32)) dX9_tell_19 (by decide) rfl ?_
      cases e
      exact mGo.iret dX9_tell_20 rfl (Nat.le_of_ble_eq_true rfl) (Nat.le_of_ble_eq_true rfl) q
theorem e_X9_tell {w : mWp} (v0 : Option Nat) (v1 : Int32) (h : mH) {res : Int32 × mH} (e : f_X9_tell v0 v1 h = some res) : mEx w zX9_tell (mRoom 2 0 0) [va_rf v0, .int v1] h (fun r h2 => r = some (.int res.1) ∧ h2 = res.2) := by
  refine mEx.of (by decide +kernel) (show mEnt [va_rf v0, .int v1] 2 = [some (va_rf v0), some (.int v1)] by rw [mEnt_r, mEnt_i] <;> rfl) (by simp only [List.map_cons, List.map_nil, mRfc, mCi, mCj, List.sum_cons, List.sum_nil]; exact Nat.le_of_ble_eq_true rfl) ?_
  refine g_X9_tell v0 v1 h e ?_
  exact ⟨rfl, rfl⟩
theorem s_X9_tell (v0 : Option Nat) (v1 : Int32) (h : mH) {res : Int32 × mH} (e : f_X9_tell v0 v1 h = some res) : mIs h v0 8 = some () := by
  unfold f_X9_tell at e
  obtain ⟨u, e1, _⟩ := mBind e
  cases u
  exact e1
-- X9_areTold
def kX9_areTold : mK := (cX9_areTold, RX9, 3, some (.boolean), "areTold", mRoom 1 0 0)
def zX9_areTold : mY := (yX9_areTold, cX9_areTold, 3, some (.boolean))
def f_X9_areTold_b2 (v0 : Option Nat) (v1 : Int32) (v2 : Int32) (h : mH) : Option ((Int32) ⊕ (Int32)) :=
  (mGI h v0 8 7).bind fun x1 =>
  if x1 ≤ v2 then
    some (Sum.inr (1 : Int32))
  else
    (mGR h v0 8 6).bind fun x2 =>
    (mAI h x2 v2).bind fun x3 =>
    if (x3 >>> (v1 &&& 31)) = 0 then
      some (Sum.inl (v2 + 1))
    else
      some (Sum.inr (0 : Int32))
set_option maxRecDepth 100000 in
set_option maxHeartbeats 4000000 in
theorem g_X9_areTold_b2 {w : mWp} {Q : Option Value → mH → Prop} (v0 : Option Nat) (v1 : Int32) (v2 : Int32) (h : mH) {res : (Int32) ⊕ (Int32)} (e : f_X9_areTold_b2 v0 v1 v2 h = some res) (q : (Sum.elim (fun x : Int32 => mGo w kX9_areTold 0 0 2 [some (va_rf v0), some (.int v1), some (.int x)] [] h Q) (fun r : Int32 => Q (some (.int r)) h)) res) : mGo w kX9_areTold 0 0 2 [some (va_rf v0), some (.int v1), some (.int v2)] [] h Q := by
  unfold f_X9_areTold_b2 at e
  refine mGo.iload_n (n := 3) (x := v2) dX9_areTold_2 rfl rfl ?_
  refine mGo.aload_n (n := 4) (r := v0) dX9_areTold_3 rfl rfl ?_
  obtain ⟨x1, e_x1, e⟩ := mBind e
  refine mGo.getI (n := 7) dX9_areTold_4 sf_RX9_112 e_x1 rfl ?_
  refine mGo.icmp_ge (tgt := 29) (n := 10) dX9_areTold_7 (by decide) rfl (fun hc => ?_) (fun hc => ?_)
  · replace e := mIft hc e
    refine mGo.iconst (n := 30) (v := (1 : Int32)) dX9_areTold_29 (by decide) rfl ?_
    cases e
    exact mGo.zret dX9_areTold_30 rfl (by decide) (Nat.le_of_ble_eq_true rfl) (Nat.le_of_ble_eq_true rfl) q
  · replace e := mIff hc e
    refine mGo.aload_n (n := 11) (r := v0) dX9_areTold_10 rfl rfl ?_
    obtain ⟨x2, e_x2, e⟩ := mBind e
    refine mGo.getR (n := 14) dX9_areTold_11 sf_RX9_29 e_x2 rfl ?_
    refine mGo.iload_n (n := 15) (x := v2) dX9_areTold_14 rfl rfl ?_
    obtain ⟨x3, e_x3, e⟩ := mBind e
    refine mGo.iald (n := 16) dX9_areTold_15 e_x3 rfl ?_
    refine mGo.iload_n (n := 17) (x := v1) dX9_areTold_16 rfl rfl ?_
    refine mGo.ishr (n := 18) dX9_areTold_17 rfl ?_
    refine mGo.if_eq (tgt := 23) (n := 21) dX9_areTold_18 (by decide) rfl (fun hc => ?_) (fun hc => ?_)
    · replace e := mIft hc e
      refine mGo.iinc (n := 26) (x := v2) (v := (v2 + 1)) (ls' := [some (va_rf v0), some (.int v1), some (.int (v2 + 1))]) dX9_areTold_23 rfl rfl rfl (Nat.le_of_ble_eq_true rfl) rfl ?_
      refine mGo.goto (tgt := 2) dX9_areTold_26 (by decide) ?_
      cases e
      refine mGo.mk [true, true, true] ?_
      exact q
    · replace e := mIff hc e
      refine mGo.iconst (n := 22) (v := (0 : Int32)) dX9_areTold_21 (by decide) rfl ?_
      cases e
      exact mGo.zret dX9_areTold_22 rfl (by decide) (Nat.le_of_ble_eq_true rfl) (Nat.le_of_ble_eq_true rfl) q
noncomputable def f_X9_areTold_l2 (v0 : Option Nat) (v1 : Int32) (v2 : Int32) (h : mH) : Option (Int32) :=
  mLoop (fun x : Int32 => f_X9_areTold_b2 v0 v1 x h) (v2)
set_option maxRecDepth 100000 in
set_option maxHeartbeats 4000000 in
theorem g_X9_areTold_l2 {w : mWp} {Q : Option Value → mH → Prop} (v0 : Option Nat) (v1 : Int32) (v2 : Int32) (h : mH) {res : Int32} (e : f_X9_areTold_l2 v0 v1 v2 h = some res) (q : (fun r : Int32 => Q (some (.int r)) h) res) : mGo w kX9_areTold 0 0 2 [some (va_rf v0), some (.int v1), some (.int v2)] [] h Q := by
  unfold f_X9_areTold_l2 at e
  refine mLoop_go (x := (v2)) (fun x : Int32 => mGo w kX9_areTold 0 0 2 [some (va_rf v0), some (.int v1), some (.int x)] [] h Q) (fun r : Int32 => Q (some (.int r)) h) ?_ e q
  rintro v2 res e q
  exact g_X9_areTold_b2 v0 v1 v2 h e q
noncomputable def f_X9_areTold (v0 : Option Nat) (v1 : Int32) (h : mH) : Option (Int32) :=
  (mIs h v0 8).bind fun _ =>
  f_X9_areTold_l2 v0 v1 (0 : Int32) h
set_option maxRecDepth 100000 in
set_option maxHeartbeats 4000000 in
theorem g_X9_areTold {w : mWp} {Q : Option Value → mH → Prop} (v0 : Option Nat) (v1 : Int32) (h : mH) {res : Int32} (e : f_X9_areTold v0 v1 h = some res) (q : (fun r : Int32 => Q (some (.int r)) h) res) : mGo w kX9_areTold 0 0 0 [some (va_rf v0), some (.int v1), none] [] h Q := by
  unfold f_X9_areTold at e
  obtain ⟨_, _, e⟩ := mBind e
  refine mGo.iconst (n := 1) (v := (0 : Int32)) dX9_areTold_0 (by decide) rfl ?_
  refine mGo.istore_n (n := 2) (ls' := [some (va_rf v0), some (.int v1), some (.int (0 : Int32))]) dX9_areTold_1 rfl (Nat.le_of_ble_eq_true rfl) rfl ?_
  refine mGo.mk [true, true, true] ?_
  exact g_X9_areTold_l2 v0 v1 (0 : Int32) h e q
theorem e_X9_areTold {w : mWp} (v0 : Option Nat) (v1 : Int32) (h : mH) {res : Int32} (e : f_X9_areTold v0 v1 h = some res) : mEx w zX9_areTold (mRoom 1 0 0) [va_rf v0, .int v1] h (fun r h2 => r = some (.int res) ∧ h2 = h) := by
  refine mEx.of (by decide +kernel) (show mEnt [va_rf v0, .int v1] 3 = [some (va_rf v0), some (.int v1), none] by rw [mEnt_r, mEnt_i] <;> rfl) (by simp only [List.map_cons, List.map_nil, mRfc, mCi, mCj, List.sum_cons, List.sum_nil]; exact Nat.le_of_ble_eq_true rfl) ?_
  refine g_X9_areTold v0 v1 h e ?_
  exact ⟨rfl, rfl⟩
theorem s_X9_areTold (v0 : Option Nat) (v1 : Int32) (h : mH) {res : Int32} (e : f_X9_areTold v0 v1 h = some res) : mIs h v0 8 = some () := by
  unfold f_X9_areTold at e
  obtain ⟨u, e1, _⟩ := mBind e
  cases u
  exact e1
-- X9_take
def kX9_take : mK := (cX9_take, RX9, 2, some (.int), "take", mRoom 3 0 0)
def zX9_take : mY := (yX9_take, cX9_take, 2, some (.int))
set_option maxRecDepth 100000 in
theorem sc_RX9_116 : mSV RX9 116 zX9_isFull 0 8 := ⟨Or.inl (mT_at 890 (by decide +kernel) rfl), mT_at 892 (by decide +kernel) rfl, mT_at 42 (by decide +kernel) rfl, mT_at 91 (by decide +kernel) rfl, mT_at 893 (by decide +kernel) rfl, ⟨by decide +kernel, by decide +kernel, by decide +kernel⟩, by decide, rfl⟩
set_option maxRecDepth 100000 in
theorem sc_RX9_120 : mSV RX9 120 zX9_areTold 1 8 := ⟨Or.inl (mT_at 898 (by decide +kernel) rfl), mT_at 900 (by decide +kernel) rfl, mT_at 44 (by decide +kernel) rfl, mT_at 91 (by decide +kernel) rfl, mT_at 901 (by decide +kernel) rfl, ⟨by decide +kernel, by decide +kernel, by decide +kernel⟩, by decide, rfl⟩
set_option maxRecDepth 100000 in
theorem sc_RX9_123 : mSV RX9 123 zX9_clearsMade 0 8 := ⟨Or.inl (mT_at 902 (by decide +kernel) rfl), mT_at 904 (by decide +kernel) rfl, mT_at 45 (by decide +kernel) rfl, mT_at 91 (by decide +kernel) rfl, mT_at 905 (by decide +kernel) rfl, ⟨by decide +kernel, by decide +kernel, by decide +kernel⟩, by decide, rfl⟩
set_option maxRecDepth 100000 in
theorem sc_RX9_126 : mSV RX9 126 zX9_comes 1 8 := ⟨Or.inl (mT_at 906 (by decide +kernel) rfl), mT_at 908 (by decide +kernel) rfl, mT_at 46 (by decide +kernel) rfl, mT_at 91 (by decide +kernel) rfl, mT_at 909 (by decide +kernel) rfl, ⟨by decide +kernel, by decide +kernel, by decide +kernel⟩, by decide, rfl⟩
noncomputable def f_X9_take_b33 (v0 : Option Nat) (v1 : Int32) (h : mH) : Option ((Int32 × mH) ⊕ (Int32 × mH)) :=
  (mGI h v0 8 7).bind fun x1 =>
  if x1 ≤ v1 then
    (mGI h v0 8 7).bind fun x2 =>
    (mPF h v0 8 7 (.int (0 : Int32))).bind fun h3 =>
    (f_X9_comes v0 x2 h3).bind fun x4 =>
    some (Sum.inr (x4.1, x4.2))
  else
    (mGR h v0 8 8).bind fun x5 =>
    (mGR h v0 8 6).bind fun x6 =>
    (mAI h x6 v1).bind fun x7 =>
    (mSI h x5 v1 x7).bind fun h8 =>
    some (Sum.inl ((v1 + 1), h8))
set_option maxRecDepth 100000 in
set_option maxHeartbeats 4000000 in
theorem g_X9_take_b33 {w : mWp} {Q : Option Value → mH → Prop} (v0 : Option Nat) (v1 : Int32) (h : mH) {res : (Int32 × mH) ⊕ (Int32 × mH)} (e : f_X9_take_b33 v0 v1 h = some res) (q : (Sum.elim (fun x : Int32 × mH => mGo w kX9_take 0 0 33 [some (va_rf v0), some (.int x.1)] [] x.2 Q) (fun r : Int32 × mH => Q (some (.int r.1)) r.2)) res) : mGo w kX9_take 0 0 33 [some (va_rf v0), some (.int v1)] [] h Q := by
  unfold f_X9_take_b33 at e
  refine mGo.iload_n (n := 34) (x := v1) dX9_take_33 rfl rfl ?_
  refine mGo.aload_n (n := 35) (r := v0) dX9_take_34 rfl rfl ?_
  obtain ⟨x1, e_x1, e⟩ := mBind e
  refine mGo.getI (n := 38) dX9_take_35 sf_RX9_112 e_x1 rfl ?_
  refine mGo.icmp_ge (tgt := 59) (n := 41) dX9_take_38 (by decide) rfl (fun hc => ?_) (fun hc => ?_)
  · replace e := mIft hc e
    refine mGo.aload_n (n := 60) (r := v0) dX9_take_59 rfl rfl ?_
    obtain ⟨x2, e_x2, e⟩ := mBind e
    refine mGo.getI (n := 63) dX9_take_60 sf_RX9_112 e_x2 rfl ?_
    refine mGo.istore_n (n := 64) (ls' := [some (va_rf v0), some (.int x2)]) dX9_take_63 ((mSt_set (fun u _ hu => by cases hu; exact mRfc _)).trans rfl) (Nat.le_of_ble_eq_true rfl) rfl ?_
    refine mGo.aload_n (n := 65) (r := v0) dX9_take_64 rfl rfl ?_
    refine mGo.iconst (n := 66) (v := (0 : Int32)) dX9_take_65 (by decide) rfl ?_
    obtain ⟨h3, e_h3, e⟩ := mBind e
    refine mGo.putI (n := 69) dX9_take_66 sf_RX9_112 rfl rfl e_h3 rfl ?_
    refine mGo.aload_n (n := 70) (r := v0) dX9_take_69 rfl rfl ?_
    refine mGo.iload_n (n := 71) (x := x2) dX9_take_70 rfl rfl ?_
    obtain ⟨x4, e_x4, e⟩ := mBind e
    refine mGo.callV (n := 74) (y := zX9_comes) (R' := (mRoom (2) 0 0)) (as := [.int x2]) (st := []) (r0 := v0) dX9_take_71 sc_RX9_126 rfl (s_X9_comes v0 x2 h3 e_x4) (e_X9_comes v0 x2 h3 e_x4) (mFit_of rfl (Nat.le_of_ble_eq_true rfl) (by decide) (Nat.le_of_ble_eq_true rfl) (Nat.le_of_ble_eq_true rfl)) (Nat.le_of_ble_eq_true rfl) rfl rfl ?_
    intro _ _ hq
    rw [hq.1, hq.2]
    show mGo w kX9_take 0 0 74 [some (va_rf v0), some (.int x2)] [.int x4.1] x4.2 Q
    cases e
    exact mGo.iret dX9_take_74 rfl (Nat.le_of_ble_eq_true rfl) (Nat.le_of_ble_eq_true rfl) q
  · replace e := mIff hc e
    refine mGo.aload_n (n := 42) (r := v0) dX9_take_41 rfl rfl ?_
    obtain ⟨x5, e_x5, e⟩ := mBind e
    refine mGo.getR (n := 45) dX9_take_42 sf_RX9_32 e_x5 rfl ?_
    refine mGo.iload_n (n := 46) (x := v1) dX9_take_45 rfl rfl ?_
    refine mGo.aload_n (n := 47) (r := v0) dX9_take_46 rfl rfl ?_
    obtain ⟨x6, e_x6, e⟩ := mBind e
    refine mGo.getR (n := 50) dX9_take_47 sf_RX9_29 e_x6 rfl ?_
    refine mGo.iload_n (n := 51) (x := v1) dX9_take_50 rfl rfl ?_
    obtain ⟨x7, e_x7, e⟩ := mBind e
    refine mGo.iald (n := 52) dX9_take_51 e_x7 rfl ?_
    obtain ⟨h8, e_h8, e⟩ := mBind e
    refine mGo.iast (n := 53) dX9_take_52 e_h8 rfl ?_
    refine mGo.iinc (n := 56) (x := v1) (v := (v1 + 1)) (ls' := [some (va_rf v0), some (.int (v1 + 1))]) dX9_take_53 rfl rfl ((mSt_set (fun u _ hu => by cases hu; exact mRfc _)).trans rfl) (Nat.le_of_ble_eq_true rfl) rfl ?_
    refine mGo.goto (tgt := 33) dX9_take_56 (by decide) ?_
    cases e
    refine mGo.mk [true, true] ?_
    exact q
noncomputable def f_X9_take_l33 (v0 : Option Nat) (v1 : Int32) (h : mH) : Option (Int32 × mH) :=
  mLoop (fun x : Int32 × mH => f_X9_take_b33 v0 x.1 x.2) (v1, h)
set_option maxRecDepth 100000 in
set_option maxHeartbeats 4000000 in
theorem g_X9_take_l33 {w : mWp} {Q : Option Value → mH → Prop} (v0 : Option Nat) (v1 : Int32) (h : mH) {res : Int32 × mH} (e : f_X9_take_l33 v0 v1 h = some res) (q : (fun r : Int32 × mH => Q (some (.int r.1)) r.2) res) : mGo w kX9_take 0 0 33 [some (va_rf v0), some (.int v1)] [] h Q := by
  unfold f_X9_take_l33 at e
  refine mLoop_go (x := (v1, h)) (fun x : Int32 × mH => mGo w kX9_take 0 0 33 [some (va_rf v0), some (.int x.1)] [] x.2 Q) (fun r : Int32 × mH => Q (some (.int r.1)) r.2) ?_ e q
  rintro ⟨v1, h1⟩ res e q
  exact g_X9_take_b33 v0 v1 h1 e q
noncomputable def f_X9_take (v0 : Option Nat) (h : mH) : Option (Int32 × mH) :=
  (mIs h v0 8).bind fun _ =>
  (mGI h v0 8 7).bind fun x1 =>
  if x1 = 0 then
    some ((-1 : Int32), h)
  else
    (f_X9_isFull v0 h).bind fun x2 =>
    if x2 = 0 then
      (mGI h v0 8 7).bind fun x3 =>
      (f_X9_areTold v0 x3 h).bind fun x4 =>
      if x4 = 0 then
        some ((-1 : Int32), h)
      else
        (f_X9_clearsMade v0 h).bind fun x5 =>
        f_X9_take_l33 v0 (0 : Int32) x5
    else
      some ((-1 : Int32), h)
set_option maxRecDepth 100000 in
set_option maxHeartbeats 4000000 in
theorem g_X9_take {w : mWp} {Q : Option Value → mH → Prop} (v0 : Option Nat) (h : mH) {res : Int32 × mH} (e : f_X9_take v0 h = some res) (q : (fun r : Int32 × mH => Q (some (.int r.1)) r.2) res) : mGo w kX9_take 0 0 0 [some (va_rf v0), none] [] h Q := by
  unfold f_X9_take at e
  obtain ⟨_, _, e⟩ := mBind e
  refine mGo.aload_n (n := 1) (r := v0) dX9_take_0 rfl rfl ?_
  obtain ⟨x1, e_x1, e⟩ := mBind e
  refine mGo.getI (n := 4) dX9_take_1 sf_RX9_112 e_x1 rfl ?_
  refine mGo.if_eq (tgt := 25) (n := 7) dX9_take_4 (by decide) rfl (fun hc => ?_) (fun hc => ?_)
  · replace e := mIft hc e
    refine mGo.iconst (n := 26) (v := (-1 : Int32)) dX9_take_25 (by decide) rfl ?_
    cases e
    exact mGo.iret dX9_take_26 rfl (Nat.le_of_ble_eq_true rfl) (Nat.le_of_ble_eq_true rfl) q
  · replace e := mIff hc e
    refine mGo.aload_n (n := 8) (r := v0) dX9_take_7 rfl rfl ?_
    obtain ⟨x2, e_x2, e⟩ := mBind e
    refine mGo.callV (n := 11) (y := zX9_isFull) (R' := (mRoom (2) 0 0)) (as := []) (st := []) (r0 := v0) dX9_take_8 sc_RX9_116 rfl (s_X9_isFull v0 h e_x2) (e_X9_isFull v0 h e_x2) (mFit_of rfl (Nat.le_of_ble_eq_true rfl) (by decide) (Nat.le_of_ble_eq_true rfl) (Nat.le_of_ble_eq_true rfl)) (Nat.le_of_ble_eq_true rfl) rfl rfl ?_
    intro _ _ hq
    rw [hq.1, hq.2]
    show mGo w kX9_take 0 0 11 [some (va_rf v0), none] [.int x2] h Q
    refine mGo.if_ne (tgt := 25) (n := 14) dX9_take_11 (by decide) rfl (fun hc => ?_) (fun hc => ?_)
    · replace e := mIff hc e
      refine mGo.iconst (n := 26) (v := (-1 : Int32)) dX9_take_25 (by decide) rfl ?_
      cases e
      exact mGo.iret dX9_take_26 rfl (Nat.le_of_ble_eq_true rfl) (Nat.le_of_ble_eq_true rfl) q
    · replace e := mIft hc e
      refine mGo.aload_n (n := 15) (r := v0) dX9_take_14 rfl rfl ?_
      refine mGo.aload_n (n := 16) (r := v0) dX9_take_15 rfl rfl ?_
      obtain ⟨x3, e_x3, e⟩ := mBind e
      refine mGo.getI (n := 19) dX9_take_16 sf_RX9_112 e_x3 rfl ?_
      obtain ⟨x4, e_x4, e⟩ := mBind e
      refine mGo.callV (n := 22) (y := zX9_areTold) (R' := (mRoom (1) 0 0)) (as := [.int x3]) (st := []) (r0 := v0) dX9_take_19 sc_RX9_120 rfl (s_X9_areTold v0 x3 h e_x4) (e_X9_areTold v0 x3 h e_x4) (mFit_of rfl (Nat.le_of_ble_eq_true rfl) (by decide) (Nat.le_of_ble_eq_true rfl) (Nat.le_of_ble_eq_true rfl)) (Nat.le_of_ble_eq_true rfl) rfl rfl ?_
      intro _ _ hq
      rw [hq.1, hq.2]
      show mGo w kX9_take 0 0 22 [some (va_rf v0), none] [.int x4] h Q
      refine mGo.if_ne (tgt := 27) (n := 25) dX9_take_22 (by decide) rfl (fun hc => ?_) (fun hc => ?_)
      · replace e := mIff hc e
        refine mGo.aload_n (n := 28) (r := v0) dX9_take_27 rfl rfl ?_
        obtain ⟨x5, e_x5, e⟩ := mBind e
        refine mGo.callV (n := 31) (y := zX9_clearsMade) (R' := (mRoom (1) 0 0)) (as := []) (st := []) (r0 := v0) dX9_take_28 sc_RX9_123 rfl (s_X9_clearsMade v0 h e_x5) (e_X9_clearsMade v0 h e_x5) (mFit_of rfl (Nat.le_of_ble_eq_true rfl) (by decide) (Nat.le_of_ble_eq_true rfl) (Nat.le_of_ble_eq_true rfl)) (Nat.le_of_ble_eq_true rfl) rfl rfl ?_
        intro _ _ hq
        rw [hq.1, hq.2]
        show mGo w kX9_take 0 0 31 [some (va_rf v0), none] [] x5 Q
        refine mGo.iconst (n := 32) (v := (0 : Int32)) dX9_take_31 (by decide) rfl ?_
        refine mGo.istore_n (n := 33) (ls' := [some (va_rf v0), some (.int (0 : Int32))]) dX9_take_32 ((mSt_set (fun u _ hu => by cases hu; exact mRfc _)).trans rfl) (Nat.le_of_ble_eq_true rfl) rfl ?_
        refine mGo.mk [true, true] ?_
        exact g_X9_take_l33 v0 (0 : Int32) x5 e q
      · replace e := mIft hc e
        refine mGo.iconst (n := 26) (v := (-1 : Int32)) dX9_take_25 (by decide) rfl ?_
        cases e
        exact mGo.iret dX9_take_26 rfl (Nat.le_of_ble_eq_true rfl) (Nat.le_of_ble_eq_true rfl) q
theorem e_X9_take {w : mWp} (v0 : Option Nat) (h : mH) {res : Int32 × mH} (e : f_X9_take v0 h = some res) : mEx w zX9_take (mRoom 3 0 0) [va_rf v0] h (fun r h2 => r = some (.int res.1) ∧ h2 = res.2) := by
  refine mEx.of (by decide +kernel) (show mEnt [va_rf v0] 2 = [some (va_rf v0), none] by rw [mEnt_r] <;> rfl) (by simp only [List.map_cons, List.map_nil, mRfc, mCi, mCj, List.sum_cons, List.sum_nil]; exact Nat.le_of_ble_eq_true rfl) ?_
  refine g_X9_take v0 h e ?_
  exact ⟨rfl, rfl⟩
theorem s_X9_take (v0 : Option Nat) (h : mH) {res : Int32 × mH} (e : f_X9_take v0 h = some res) : mIs h v0 8 = some () := by
  unfold f_X9_take at e
  obtain ⟨u, e1, _⟩ := mBind e
  cases u
  exact e1
-- X9_primeOf
def kX9_primeOf : mK := (cX9_primeOf, RX9, 1, some (.int), "primeOf", mRoom 1 0 0)
def zX9_primeOf : mY := (yX9_primeOf, cX9_primeOf, 1, some (.int))
def f_X9_primeOf (v0 : Int32)  : Option (Int32) :=
  if v0 = (9 : Int32) then
    some (3 : Int32)
  else
    if v0 = (27 : Int32) then
      some (3 : Int32)
    else
      if v0 = (25 : Int32) then
        some (5 : Int32)
      else
        some v0
set_option maxRecDepth 100000 in
set_option maxHeartbeats 4000000 in
theorem g_X9_primeOf {w : mWp} {Q : Option Value → mH → Prop} (v0 : Int32) (h : mH) {res : Int32} (e : f_X9_primeOf v0 = some res) (q : (fun r : Int32 => Q (some (.int r)) h) res) : mGo w kX9_primeOf 0 0 0 [some (.int v0)] [] h Q := by
  unfold f_X9_primeOf at e
  refine mGo.iload_n (n := 1) (x := v0) dX9_primeOf_0 rfl rfl ?_
  refine mGo.bipush (n := 3) (v := (9 : Int32)) dX9_primeOf_1 (by decide) rfl ?_
  refine mGo.icmp_eq (tgt := 12) (n := 6) dX9_primeOf_3 (by decide) rfl (fun hc => ?_) (fun hc => ?_)
  · replace e := mIft hc e
    refine mGo.iconst (n := 13) (v := (3 : Int32)) dX9_primeOf_12 (by decide) rfl ?_
    refine mGo.goto (tgt := 27) dX9_primeOf_13 (by decide) ?_
    cases e
    exact mGo.iret dX9_primeOf_27 rfl (Nat.le_of_ble_eq_true rfl) (Nat.le_of_ble_eq_true rfl) q
  · replace e := mIff hc e
    refine mGo.iload_n (n := 7) (x := v0) dX9_primeOf_6 rfl rfl ?_
    refine mGo.bipush (n := 9) (v := (27 : Int32)) dX9_primeOf_7 (by decide) rfl ?_
    refine mGo.icmp_ne (tgt := 16) (n := 12) dX9_primeOf_9 (by decide) rfl (fun hc => ?_) (fun hc => ?_)
    · replace e := mIff hc e
      refine mGo.iload_n (n := 17) (x := v0) dX9_primeOf_16 rfl rfl ?_
      refine mGo.bipush (n := 19) (v := (25 : Int32)) dX9_primeOf_17 (by decide) rfl ?_
      refine mGo.icmp_ne (tgt := 26) (n := 22) dX9_primeOf_19 (by decide) rfl (fun hc => ?_) (fun hc => ?_)
      · replace e := mIff hc e
        refine mGo.iload_n (n := 27) (x := v0) dX9_primeOf_26 rfl rfl ?_
        cases e
        exact mGo.iret dX9_primeOf_27 rfl (Nat.le_of_ble_eq_true rfl) (Nat.le_of_ble_eq_true rfl) q
      · replace e := mIft hc e
        refine mGo.iconst (n := 23) (v := (5 : Int32)) dX9_primeOf_22 (by decide) rfl ?_
        refine mGo.goto (tgt := 27) dX9_primeOf_23 (by decide) ?_
        cases e
        exact mGo.iret dX9_primeOf_27 rfl (Nat.le_of_ble_eq_true rfl) (Nat.le_of_ble_eq_true rfl) q
    · replace e := mIft hc e
      refine mGo.iconst (n := 13) (v := (3 : Int32)) dX9_primeOf_12 (by decide) rfl ?_
      refine mGo.goto (tgt := 27) dX9_primeOf_13 (by decide) ?_
      cases e
      exact mGo.iret dX9_primeOf_27 rfl (Nat.le_of_ble_eq_true rfl) (Nat.le_of_ble_eq_true rfl) q
theorem e_X9_primeOf {w : mWp} (v0 : Int32) (h : mH) {res : Int32} (e : f_X9_primeOf v0 = some res) : mEx w zX9_primeOf (mRoom 1 0 0) [.int v0] h (fun r h2 => r = some (.int res) ∧ h2 = h) := by
  refine mEx.of (by decide +kernel) rfl (Nat.le_of_ble_eq_true rfl) ?_
  refine g_X9_primeOf v0 h e ?_
  exact ⟨rfl, rfl⟩
-- X9_isField
def kX9_isField : mK := (cX9_isField, RX9, 2, some (.boolean), "isField", mRoom 2 0 0)
def zX9_isField : mY := (yX9_isField, cX9_isField, 2, some (.boolean))
def f_X9_isField_b40 (v0 : Int32) (v1 : Int32)  : Option ((Int32) ⊕ (Int32)) :=
  if v0 ≤ v1 then
    some (Sum.inr (1 : Int32))
  else
    if v1 = 0 then none else
    if (mRem v0 v1) = 0 then
      some (Sum.inr (0 : Int32))
    else
      some (Sum.inl (v1 + 2))
set_option maxRecDepth 100000 in
set_option maxHeartbeats 4000000 in
theorem g_X9_isField_b40 {w : mWp} {Q : Option Value → mH → Prop} (v0 : Int32) (v1 : Int32) (h : mH) {res : (Int32) ⊕ (Int32)} (e : f_X9_isField_b40 v0 v1 = some res) (q : (Sum.elim (fun x : Int32 => mGo w kX9_isField 0 0 40 [some (.int v0), some (.int x)] [] h Q) (fun r : Int32 => Q (some (.int r)) h)) res) : mGo w kX9_isField 0 0 40 [some (.int v0), some (.int v1)] [] h Q := by
  unfold f_X9_isField_b40 at e
  refine mGo.iload_n (n := 41) (x := v1) dX9_isField_40 rfl rfl ?_
  refine mGo.iload_n (n := 42) (x := v0) dX9_isField_41 rfl rfl ?_
  refine mGo.icmp_ge (tgt := 59) (n := 45) dX9_isField_42 (by decide) rfl (fun hc => ?_) (fun hc => ?_)
  · replace e := mIft hc e
    refine mGo.iconst (n := 60) (v := (1 : Int32)) dX9_isField_59 (by decide) rfl ?_
    cases e
    exact mGo.zret dX9_isField_60 rfl (by decide) (Nat.le_of_ble_eq_true rfl) (Nat.le_of_ble_eq_true rfl) q
  · replace e := mIff hc e
    refine mGo.iload_n (n := 46) (x := v0) dX9_isField_45 rfl rfl ?_
    refine mGo.iload_n (n := 47) (x := v1) dX9_isField_46 rfl rfl ?_
    obtain ⟨z1, e⟩ := mIfN e
    refine mGo.irem (n := 48) dX9_isField_47 z1 rfl ?_
    refine mGo.if_ne (tgt := 53) (n := 51) dX9_isField_48 (by decide) rfl (fun hc => ?_) (fun hc => ?_)
    · replace e := mIff hc e
      refine mGo.iinc (n := 56) (x := v1) (v := (v1 + 2)) (ls' := [some (.int v0), some (.int (v1 + 2))]) dX9_isField_53 rfl rfl rfl (Nat.le_of_ble_eq_true rfl) rfl ?_
      refine mGo.goto (tgt := 40) dX9_isField_56 (by decide) ?_
      cases e
      refine mGo.mk [true, true] ?_
      exact q
    · replace e := mIft hc e
      refine mGo.iconst (n := 52) (v := (0 : Int32)) dX9_isField_51 (by decide) rfl ?_
      cases e
      exact mGo.zret dX9_isField_52 rfl (by decide) (Nat.le_of_ble_eq_true rfl) (Nat.le_of_ble_eq_true rfl) q
noncomputable def f_X9_isField_l40 (v0 : Int32) (v1 : Int32)  : Option (Int32) :=
  mLoop (fun x : Int32 => f_X9_isField_b40 v0 x) (v1)
set_option maxRecDepth 100000 in
set_option maxHeartbeats 4000000 in
theorem g_X9_isField_l40 {w : mWp} {Q : Option Value → mH → Prop} (v0 : Int32) (v1 : Int32) (h : mH) {res : Int32} (e : f_X9_isField_l40 v0 v1 = some res) (q : (fun r : Int32 => Q (some (.int r)) h) res) : mGo w kX9_isField 0 0 40 [some (.int v0), some (.int v1)] [] h Q := by
  unfold f_X9_isField_l40 at e
  refine mLoop_go (x := (v1)) (fun x : Int32 => mGo w kX9_isField 0 0 40 [some (.int v0), some (.int x)] [] h Q) (fun r : Int32 => Q (some (.int r)) h) ?_ e q
  rintro v1 res e q
  exact g_X9_isField_b40 v0 v1 h e q
noncomputable def f_X9_isField (v0 : Int32)  : Option (Int32) :=
  (f_X9_in v0 (3 : Int32) (27 : Int32)).bind fun x1 =>
  if x1 = 0 then
    some (0 : Int32)
  else
    if (mRem v0 (2 : Int32)) = 0 then
      some (0 : Int32)
    else
      if v0 = (9 : Int32) then
        some (1 : Int32)
      else
        if v0 = (25 : Int32) then
          some (1 : Int32)
        else
          if v0 = (27 : Int32) then
            some (1 : Int32)
          else
            f_X9_isField_l40 v0 (3 : Int32)
set_option maxRecDepth 100000 in
set_option maxHeartbeats 4000000 in
theorem g_X9_isField {w : mWp} {Q : Option Value → mH → Prop} (v0 : Int32) (h : mH) {res : Int32} (e : f_X9_isField v0 = some res) (q : (fun r : Int32 => Q (some (.int r)) h) res) : mGo w kX9_isField 0 0 0 [some (.int v0), none] [] h Q := by
  unfold f_X9_isField at e
  refine mGo.iload_n (n := 1) (x := v0) dX9_isField_0 rfl rfl ?_
  refine mGo.iconst (n := 2) (v := (3 : Int32)) dX9_isField_1 (by decide) rfl ?_
  refine mGo.bipush (n := 4) (v := (27 : Int32)) dX9_isField_2 (by decide) rfl ?_
  obtain ⟨x1, e_x1, e⟩ := mBind e
  refine mGo.callS (n := 7) (y := zX9_in) (R' := (mRoom (1) 0 0)) (as := [.int v0, .int (3 : Int32), .int (27 : Int32)]) (st := []) dX9_isField_4 sc_RX9_82 rfl (e_X9_in v0 (3 : Int32) (27 : Int32) h e_x1) (mFit_of rfl (Nat.le_of_ble_eq_true rfl) (by decide) (Nat.le_of_ble_eq_true rfl) (Nat.le_of_ble_eq_true rfl)) (Nat.le_of_ble_eq_true rfl) rfl rfl ?_
  intro _ _ hq
  rw [hq.1, hq.2]
  show mGo w kX9_isField 0 0 7 [some (.int v0), none] [.int x1] h Q
  refine mGo.if_eq (tgt := 16) (n := 10) dX9_isField_7 (by decide) rfl (fun hc => ?_) (fun hc => ?_)
  · replace e := mIft hc e
    refine mGo.iconst (n := 17) (v := (0 : Int32)) dX9_isField_16 (by decide) rfl ?_
    cases e
    exact mGo.zret dX9_isField_17 rfl (by decide) (Nat.le_of_ble_eq_true rfl) (Nat.le_of_ble_eq_true rfl) q
  · replace e := mIff hc e
    refine mGo.iload_n (n := 11) (x := v0) dX9_isField_10 rfl rfl ?_
    refine mGo.iconst (n := 12) (v := (2 : Int32)) dX9_isField_11 (by decide) rfl ?_
    refine mGo.irem (n := 13) dX9_isField_12 (by decide) rfl ?_
    refine mGo.if_ne (tgt := 18) (n := 16) dX9_isField_13 (by decide) rfl (fun hc => ?_) (fun hc => ?_)
    · replace e := mIff hc e
      refine mGo.iload_n (n := 19) (x := v0) dX9_isField_18 rfl rfl ?_
      refine mGo.bipush (n := 21) (v := (9 : Int32)) dX9_isField_19 (by decide) rfl ?_
      refine mGo.icmp_eq (tgt := 36) (n := 24) dX9_isField_21 (by decide) rfl (fun hc => ?_) (fun hc => ?_)
      · replace e := mIft hc e
        refine mGo.iconst (n := 37) (v := (1 : Int32)) dX9_isField_36 (by decide) rfl ?_
        cases e
        exact mGo.zret dX9_isField_37 rfl (by decide) (Nat.le_of_ble_eq_true rfl) (Nat.le_of_ble_eq_true rfl) q
      · replace e := mIff hc e
        refine mGo.iload_n (n := 25) (x := v0) dX9_isField_24 rfl rfl ?_
        refine mGo.bipush (n := 27) (v := (25 : Int32)) dX9_isField_25 (by decide) rfl ?_
        refine mGo.icmp_eq (tgt := 36) (n := 30) dX9_isField_27 (by decide) rfl (fun hc => ?_) (fun hc => ?_)
        · replace e := mIft hc e
          refine mGo.iconst (n := 37) (v := (1 : Int32)) dX9_isField_36 (by decide) rfl ?_
          cases e
          exact mGo.zret dX9_isField_37 rfl (by decide) (Nat.le_of_ble_eq_true rfl) (Nat.le_of_ble_eq_true rfl) q
        · replace e := mIff hc e
          refine mGo.iload_n (n := 31) (x := v0) dX9_isField_30 rfl rfl ?_
          refine mGo.bipush (n := 33) (v := (27 : Int32)) dX9_isField_31 (by decide) rfl ?_
          refine mGo.icmp_ne (tgt := 38) (n := 36) dX9_isField_33 (by decide) rfl (fun hc => ?_) (fun hc => ?_)
          · replace e := mIff hc e
            refine mGo.iconst (n := 39) (v := (3 : Int32)) dX9_isField_38 (by decide) rfl ?_
            refine mGo.istore_n (n := 40) (ls' := [some (.int v0), some (.int (3 : Int32))]) dX9_isField_39 rfl (Nat.le_of_ble_eq_true rfl) rfl ?_
            refine mGo.mk [true, true] ?_
            exact g_X9_isField_l40 v0 (3 : Int32) h e q
          · replace e := mIft hc e
            refine mGo.iconst (n := 37) (v := (1 : Int32)) dX9_isField_36 (by decide) rfl ?_
            cases e
            exact mGo.zret dX9_isField_37 rfl (by decide) (Nat.le_of_ble_eq_true rfl) (Nat.le_of_ble_eq_true rfl) q
    · replace e := mIft hc e
      refine mGo.iconst (n := 17) (v := (0 : Int32)) dX9_isField_16 (by decide) rfl ?_
      cases e
      exact mGo.zret dX9_isField_17 rfl (by decide) (Nat.le_of_ble_eq_true rfl) (Nat.le_of_ble_eq_true rfl) q
theorem e_X9_isField {w : mWp} (v0 : Int32) (h : mH) {res : Int32} (e : f_X9_isField v0 = some res) : mEx w zX9_isField (mRoom 2 0 0) [.int v0] h (fun r h2 => r = some (.int res) ∧ h2 = h) := by
  refine mEx.of (by decide +kernel) rfl (Nat.le_of_ble_eq_true rfl) ?_
  refine g_X9_isField v0 h e ?_
  exact ⟨rfl, rfl⟩
-- X9_digit
def kX9_digit : mK := (cX9_digit, RX9, 5, some (.int), "digit", mRoom 1 0 0)
def zX9_digit : mY := (yX9_digit, cX9_digit, 5, some (.int))
def f_X9_digit_b5 (v1 : Int32) (v2 : Int32) (v3 : Int32) (v4 : Int32)  : Option ((Int32 × Int32) ⊕ (Int32)) :=
  if v2 ≤ v4 then
    if v1 = 0 then none else
    some (Sum.inr (mRem v3 v1))
  else
    if v1 = 0 then none else
    some (Sum.inl ((v3 / v1), (v4 + 1)))
set_option maxRecDepth 100000 in
set_option maxHeartbeats 4000000 in
theorem g_X9_digit_b5 {w : mWp} {Q : Option Value → mH → Prop} (v1 : Int32) (v2 : Int32) (v3 : Int32) (v4 : Int32) (h : mH) {res : (Int32 × Int32) ⊕ (Int32)} (e : f_X9_digit_b5 v1 v2 v3 v4 = some res) (q : (Sum.elim (fun x : Int32 × Int32 => mGo w kX9_digit 0 0 5 [none, some (.int v1), some (.int v2), some (.int x.1), some (.int x.2)] [] h Q) (fun r : Int32 => Q (some (.int r)) h)) res) : mGo w kX9_digit 0 0 5 [none, some (.int v1), some (.int v2), some (.int v3), some (.int v4)] [] h Q := by
  unfold f_X9_digit_b5 at e
  refine mGo.iload (n := 7) (x := v4) dX9_digit_5 rfl rfl ?_
  refine mGo.iload_n (n := 8) (x := v2) dX9_digit_7 rfl rfl ?_
  refine mGo.icmp_ge (tgt := 21) (n := 11) dX9_digit_8 (by decide) rfl (fun hc => ?_) (fun hc => ?_)
  · replace e := mIft hc e
    refine mGo.iload_n (n := 22) (x := v3) dX9_digit_21 rfl rfl ?_
    refine mGo.iload_n (n := 23) (x := v1) dX9_digit_22 rfl rfl ?_
    obtain ⟨z1, e⟩ := mIfN e
    refine mGo.irem (n := 24) dX9_digit_23 z1 rfl ?_
    cases e
    exact mGo.iret dX9_digit_24 rfl (Nat.le_of_ble_eq_true rfl) (Nat.le_of_ble_eq_true rfl) q
  · replace e := mIff hc e
    refine mGo.iload_n (n := 12) (x := v3) dX9_digit_11 rfl rfl ?_
    refine mGo.iload_n (n := 13) (x := v1) dX9_digit_12 rfl rfl ?_
    obtain ⟨z2, e⟩ := mIfN e
    refine mGo.idiv (n := 14) dX9_digit_13 z2 rfl ?_
    refine mGo.istore_n (n := 15) (ls' := [none, some (.int v1), some (.int v2), some (.int (v3 / v1)), some (.int v4)]) dX9_digit_14 rfl (Nat.le_of_ble_eq_true rfl) rfl ?_
    refine mGo.iinc (n := 18) (x := v4) (v := (v4 + 1)) (ls' := [none, some (.int v1), some (.int v2), some (.int (v3 / v1)), some (.int (v4 + 1))]) dX9_digit_15 rfl rfl rfl (Nat.le_of_ble_eq_true rfl) rfl ?_
    refine mGo.goto (tgt := 5) dX9_digit_18 (by decide) ?_
    cases e
    refine mGo.mk [false, true, true, true, true] ?_
    exact q
noncomputable def f_X9_digit_l5 (v1 : Int32) (v2 : Int32) (v3 : Int32) (v4 : Int32)  : Option (Int32) :=
  mLoop (fun x : Int32 × Int32 => f_X9_digit_b5 v1 v2 x.1 x.2) (v3, v4)
set_option maxRecDepth 100000 in
set_option maxHeartbeats 4000000 in
theorem g_X9_digit_l5 {w : mWp} {Q : Option Value → mH → Prop} (v1 : Int32) (v2 : Int32) (v3 : Int32) (v4 : Int32) (h : mH) {res : Int32} (e : f_X9_digit_l5 v1 v2 v3 v4 = some res) (q : (fun r : Int32 => Q (some (.int r)) h) res) : mGo w kX9_digit 0 0 5 [none, some (.int v1), some (.int v2), some (.int v3), some (.int v4)] [] h Q := by
  unfold f_X9_digit_l5 at e
  refine mLoop_go (x := (v3, v4)) (fun x : Int32 × Int32 => mGo w kX9_digit 0 0 5 [none, some (.int v1), some (.int v2), some (.int x.1), some (.int x.2)] [] h Q) (fun r : Int32 => Q (some (.int r)) h) ?_ e q
  rintro ⟨v3, v4⟩ res e q
  exact g_X9_digit_b5 v1 v2 v3 v4 h e q
noncomputable def f_X9_digit (v0 : Int32) (v1 : Int32) (v2 : Int32)  : Option (Int32) :=
  f_X9_digit_l5 v1 v2 v0 (0 : Int32)
set_option maxRecDepth 100000 in
set_option maxHeartbeats 4000000 in
theorem g_X9_digit {w : mWp} {Q : Option Value → mH → Prop} (v0 : Int32) (v1 : Int32) (v2 : Int32) (h : mH) {res : Int32} (e : f_X9_digit v0 v1 v2 = some res) (q : (fun r : Int32 => Q (some (.int r)) h) res) : mGo w kX9_digit 0 0 0 [some (.int v0), some (.int v1), some (.int v2), none, none] [] h Q := by
  unfold f_X9_digit at e
  refine mGo.iload_n (n := 1) (x := v0) dX9_digit_0 rfl rfl ?_
  refine mGo.istore_n (n := 2) (ls' := [some (.int v0), some (.int v1), some (.int v2), some (.int v0), none]) dX9_digit_1 rfl (Nat.le_of_ble_eq_true rfl) rfl ?_
  refine mGo.iconst (n := 3) (v := (0 : Int32)) dX9_digit_2 (by decide) rfl ?_
  refine mGo.istore (n := 5) (ls' := [some (.int v0), some (.int v1), some (.int v2), some (.int v0), some (.int (0 : Int32))]) dX9_digit_3 rfl (Nat.le_of_ble_eq_true rfl) rfl ?_
  refine mGo.mk [false, true, true, true, true] ?_
  exact g_X9_digit_l5 v1 v2 v0 (0 : Int32) h e q
theorem e_X9_digit {w : mWp} (v0 : Int32) (v1 : Int32) (v2 : Int32) (h : mH) {res : Int32} (e : f_X9_digit v0 v1 v2 = some res) : mEx w zX9_digit (mRoom 1 0 0) [.int v0, .int v1, .int v2] h (fun r h2 => r = some (.int res) ∧ h2 = h) := by
  refine mEx.of (by decide +kernel) rfl (Nat.le_of_ble_eq_true rfl) ?_
  refine g_X9_digit v0 v1 v2 h e ?_
  exact ⟨rfl, rfl⟩
-- X9_summed
def kX9_summed : mK := (cX9_summed, RX9, 8, some (.int), "summed", mRoom 2 0 0)
def zX9_summed : mY := (yX9_summed, cX9_summed, 8, some (.int))
set_option maxRecDepth 100000 in
theorem sc_RX9_130 : mSS RX9 130 zX9_primeOf 1 := ⟨Or.inl (mT_at 924 (by decide +kernel) rfl), mT_at 925 (by decide +kernel) rfl, mT_at 91 (by decide +kernel) rfl, mT_at 926 (by decide +kernel) rfl, ⟨by decide +kernel, by decide +kernel, by decide +kernel⟩⟩
set_option maxRecDepth 100000 in
theorem sc_RX9_133 : mSS RX9 133 zX9_digit 3 := ⟨Or.inl (mT_at 927 (by decide +kernel) rfl), mT_at 928 (by decide +kernel) rfl, mT_at 91 (by decide +kernel) rfl, mT_at 929 (by decide +kernel) rfl, ⟨by decide +kernel, by decide +kernel, by decide +kernel⟩⟩
noncomputable def f_X9_summed_b15 (v0 : Int32) (v1 : Int32) (v2 : Int32) (v3 : Int32) (v4 : Int32) (v5 : Int32) (v6 : Int32) (v7 : Int32)  : Option ((Int32 × Int32 × Int32) ⊕ (Int32)) :=
  if v0 ≤ v6 then
    some (Sum.inr v5)
  else
    (f_X9_digit v1 v4 v7).bind fun x1 =>
    (f_X9_digit v2 v4 v7).bind fun x2 =>
    if v4 = 0 then none else
    some (Sum.inl ((v5 + (v6 * (mRem ((x1 + (v3 * x2)) + v4) v4))), (v6 * v4), (v7 + 1)))
set_option maxRecDepth 100000 in
set_option maxHeartbeats 4000000 in
theorem g_X9_summed_b15 {w : mWp} {Q : Option Value → mH → Prop} (v0 : Int32) (v1 : Int32) (v2 : Int32) (v3 : Int32) (v4 : Int32) (v5 : Int32) (v6 : Int32) (v7 : Int32) (h : mH) {res : (Int32 × Int32 × Int32) ⊕ (Int32)} (e : f_X9_summed_b15 v0 v1 v2 v3 v4 v5 v6 v7 = some res) (q : (Sum.elim (fun x : Int32 × Int32 × Int32 => mGo w kX9_summed 0 0 15 [some (.int v0), some (.int v1), some (.int v2), some (.int v3), some (.int v4), some (.int x.1), some (.int x.2.1), some (.int x.2.2)] [] h Q) (fun r : Int32 => Q (some (.int r)) h)) res) : mGo w kX9_summed 0 0 15 [some (.int v0), some (.int v1), some (.int v2), some (.int v3), some (.int v4), some (.int v5), some (.int v6), some (.int v7)] [] h Q := by
  unfold f_X9_summed_b15 at e
  refine mGo.iload (n := 17) (x := v6) dX9_summed_15 rfl rfl ?_
  refine mGo.iload_n (n := 18) (x := v0) dX9_summed_17 rfl rfl ?_
  refine mGo.icmp_ge (tgt := 67) (n := 21) dX9_summed_18 (by decide) rfl (fun hc => ?_) (fun hc => ?_)
  · replace e := mIft hc e
    refine mGo.iload (n := 69) (x := v5) dX9_summed_67 rfl rfl ?_
    cases e
    exact mGo.iret dX9_summed_69 rfl (Nat.le_of_ble_eq_true rfl) (Nat.le_of_ble_eq_true rfl) q
  · replace e := mIff hc e
    refine mGo.iload (n := 23) (x := v5) dX9_summed_21 rfl rfl ?_
    refine mGo.iload (n := 25) (x := v6) dX9_summed_23 rfl rfl ?_
    refine mGo.iload_n (n := 26) (x := v1) dX9_summed_25 rfl rfl ?_
    refine mGo.iload (n := 28) (x := v4) dX9_summed_26 rfl rfl ?_
    refine mGo.iload (n := 30) (x := v7) dX9_summed_28 rfl rfl ?_
    obtain ⟨x1, e_x1, e⟩ := mBind e
    refine mGo.callS (n := 33) (y := zX9_digit) (R' := (mRoom (1) 0 0)) (as := [.int v1, .int v4, .int v7]) (st := [.int v6, .int v5]) dX9_summed_30 sc_RX9_133 rfl (e_X9_digit v1 v4 v7 h e_x1) (mFit_of rfl (Nat.le_of_ble_eq_true rfl) (by decide) (Nat.le_of_ble_eq_true rfl) (Nat.le_of_ble_eq_true rfl)) (Nat.le_of_ble_eq_true rfl) rfl rfl ?_
    intro _ _ hq
    rw [hq.1, hq.2]
    show mGo w kX9_summed 0 0 33 [some (.int v0), some (.int v1), some (.int v2), some (.int v3), some (.int v4), some (.int v5), some (.int v6), some (.int v7)] [.int x1, .int v6, .int v5] h Q
    refine mGo.iload_n (n := 34) (x := v3) dX9_summed_33 rfl rfl ?_
    refine mGo.iload_n (n := 35) (x := v2) dX9_summed_34 rfl rfl ?_
    refine mGo.iload (n := 37) (x := v4) dX9_summed_35 rfl rfl ?_
    refine mGo.iload (n := 39) (x := v7) dX9_summed_37 rfl rfl ?_
    obtain ⟨x2, e_x2, e⟩ := mBind e
    refine mGo.callS (n := 42) (y := zX9_digit) (R' := (mRoom (1) 0 0)) (as := [.int v2, .int v4, .int v7]) (st := [.int v3, .int x1, .int v6, .int v5]) dX9_summed_39 sc_RX9_133 rfl (e_X9_digit v2 v4 v7 h e_x2) (mFit_of rfl (Nat.le_of_ble_eq_true rfl) (by decide) (Nat.le_of_ble_eq_true rfl) (Nat.le_of_ble_eq_true rfl)) (Nat.le_of_ble_eq_true rfl) rfl rfl ?_
    intro _ _ hq
    rw [hq.1, hq.2]
    show mGo w kX9_summed 0 0 42 [some (.int v0), some (.int v1), some (.int v2), some (.int v3), some (.int v4), some (.int v5), some (.int v6), some (.int v7)] [.int x2, .int v3, .int x1, .int v6, .int v5] h Q
    refine mGo.imul (n := 43) dX9_summed_42 rfl ?_
    refine mGo.iadd (n := 44) dX9_summed_43 rfl ?_
    refine mGo.iload (n := 46) (x := v4) dX9_summed_44 rfl rfl ?_
    refine mGo.iadd (n := 47) dX9_summed_46 rfl ?_
    refine mGo.iload (n := 49) (x := v4) dX9_summed_47 rfl rfl ?_
    obtain ⟨z3, e⟩ := mIfN e
    refine mGo.irem (n := 50) dX9_summed_49 z3 rfl ?_
    refine mGo.imul (n := 51) dX9_summed_50 rfl ?_
    refine mGo.iadd (n := 52) dX9_summed_51 rfl ?_
    refine mGo.istore (n := 54) (ls' := [some (.int v0), some (.int v1), some (.int v2), some (.int v3), some (.int v4), some (.int (v5 + (v6 * (mRem ((x1 + (v3 * x2)) + v4) v4)))), some (.int v6), some (.int v7)]) dX9_summed_52 rfl (Nat.le_of_ble_eq_true rfl) rfl ?_
    refine mGo.iload (n := 56) (x := v6) dX9_summed_54 rfl rfl ?_
    refine mGo.iload (n := 58) (x := v4) dX9_summed_56 rfl rfl ?_
    refine mGo.imul (n := 59) dX9_summed_58 rfl ?_
    refine mGo.istore (n := 61) (ls' := [some (.int v0), some (.int v1), some (.int v2), some (.int v3), some (.int v4), some (.int (v5 + (v6 * (mRem ((x1 + (v3 * x2)) + v4) v4)))), some (.int (v6 * v4)), some (.int v7)]) dX9_summed_59 rfl (Nat.le_of_ble_eq_true rfl) rfl ?_
    refine mGo.iinc (n := 64) (x := v7) (v := (v7 + 1)) (ls' := [some (.int v0), some (.int v1), some (.int v2), some (.int v3), some (.int v4), some (.int (v5 + (v6 * (mRem ((x1 + (v3 * x2)) + v4) v4)))), some (.int (v6 * v4)), some (.int (v7 + 1))]) dX9_summed_61 rfl rfl rfl (Nat.le_of_ble_eq_true rfl) rfl ?_
    refine mGo.goto (tgt := 15) dX9_summed_64 (by decide) ?_
    cases e
    refine mGo.mk [true, true, true, true, true, true, true, true] ?_
    exact q
noncomputable def f_X9_summed_l15 (v0 : Int32) (v1 : Int32) (v2 : Int32) (v3 : Int32) (v4 : Int32) (v5 : Int32) (v6 : Int32) (v7 : Int32)  : Option (Int32) :=
  mLoop (fun x : Int32 × Int32 × Int32 => f_X9_summed_b15 v0 v1 v2 v3 v4 x.1 x.2.1 x.2.2) (v5, v6, v7)
set_option maxRecDepth 100000 in
set_option maxHeartbeats 4000000 in
theorem g_X9_summed_l15 {w : mWp} {Q : Option Value → mH → Prop} (v0 : Int32) (v1 : Int32) (v2 : Int32) (v3 : Int32) (v4 : Int32) (v5 : Int32) (v6 : Int32) (v7 : Int32) (h : mH) {res : Int32} (e : f_X9_summed_l15 v0 v1 v2 v3 v4 v5 v6 v7 = some res) (q : (fun r : Int32 => Q (some (.int r)) h) res) : mGo w kX9_summed 0 0 15 [some (.int v0), some (.int v1), some (.int v2), some (.int v3), some (.int v4), some (.int v5), some (.int v6), some (.int v7)] [] h Q := by
  unfold f_X9_summed_l15 at e
  refine mLoop_go (x := (v5, v6, v7)) (fun x : Int32 × Int32 × Int32 => mGo w kX9_summed 0 0 15 [some (.int v0), some (.int v1), some (.int v2), some (.int v3), some (.int v4), some (.int x.1), some (.int x.2.1), some (.int x.2.2)] [] h Q) (fun r : Int32 => Q (some (.int r)) h) ?_ e q
  rintro ⟨v5, v6, v7⟩ res e q
  exact g_X9_summed_b15 v0 v1 v2 v3 v4 v5 v6 v7 h e q
noncomputable def f_X9_summed (v0 : Int32) (v1 : Int32) (v2 : Int32) (v3 : Int32)  : Option (Int32) :=
  (f_X9_primeOf v0).bind fun x1 =>
  f_X9_summed_l15 v0 v1 v2 v3 x1 (0 : Int32) (1 : Int32) (0 : Int32)
set_option maxRecDepth 100000 in
set_option maxHeartbeats 4000000 in
theorem g_X9_summed {w : mWp} {Q : Option Value → mH → Prop} (v0 : Int32) (v1 : Int32) (v2 : Int32) (v3 : Int32) (h : mH) {res : Int32} (e : f_X9_summed v0 v1 v2 v3 = some res) (q : (fun r : Int32 => Q (some (.int r)) h) res) : mGo w kX9_summed 0 0 0 [some (.int v0), some (.int v1), some (.int v2), some (.int v3), none, none, none, none] [] h Q := by
  unfold f_X9_summed at e
  refine mGo.iload_n (n := 1) (x := v0) dX9_summed_0 rfl rfl ?_
  obtain ⟨x1, e_x1, e⟩ := mBind e
  refine mGo.callS (n := 4) (y := zX9_primeOf) (R' := (mRoom (1) 0 0)) (as := [.int v0]) (st := []) dX9_summed_1 sc_RX9_130 rfl (e_X9_primeOf v0 h e_x1) (mFit_of rfl (Nat.le_of_ble_eq_true rfl) (by decide) (Nat.le_of_ble_eq_true rfl) (Nat.le_of_ble_eq_true rfl)) (Nat.le_of_ble_eq_true rfl) rfl rfl ?_
  intro _ _ hq
  rw [hq.1, hq.2]
  show mGo w kX9_summed 0 0 4 [some (.int v0), some (.int v1), some (.int v2), some (.int v3), none, none, none, none] [.int x1] h Q
  refine mGo.istore (n := 6) (ls' := [some (.int v0), some (.int v1), some (.int v2), some (.int v3), some (.int x1), none, none, none]) dX9_summed_4 rfl (Nat.le_of_ble_eq_true rfl) rfl ?_
  refine mGo.iconst (n := 7) (v := (0 : Int32)) dX9_summed_6 (by decide) rfl ?_
  refine mGo.istore (n := 9) (ls' := [some (.int v0), some (.int v1), some (.int v2), some (.int v3), some (.int x1), some (.int (0 : Int32)), none, none]) dX9_summed_7 rfl (Nat.le_of_ble_eq_true rfl) rfl ?_
  refine mGo.iconst (n := 10) (v := (1 : Int32)) dX9_summed_9 (by decide) rfl ?_
  refine mGo.istore (n := 12) (ls' := [some (.int v0), some (.int v1), some (.int v2), some (.int v3), some (.int x1), some (.int (0 : Int32)), some (.int (1 : Int32)), none]) dX9_summed_10 rfl (Nat.le_of_ble_eq_true rfl) rfl ?_
  refine mGo.iconst (n := 13) (v := (0 : Int32)) dX9_summed_12 (by decide) rfl ?_
  refine mGo.istore (n := 15) (ls' := [some (.int v0), some (.int v1), some (.int v2), some (.int v3), some (.int x1), some (.int (0 : Int32)), some (.int (1 : Int32)), some (.int (0 : Int32))]) dX9_summed_13 rfl (Nat.le_of_ble_eq_true rfl) rfl ?_
  refine mGo.mk [true, true, true, true, true, true, true, true] ?_
  exact g_X9_summed_l15 v0 v1 v2 v3 x1 (0 : Int32) (1 : Int32) (0 : Int32) h e q
theorem e_X9_summed {w : mWp} (v0 : Int32) (v1 : Int32) (v2 : Int32) (v3 : Int32) (h : mH) {res : Int32} (e : f_X9_summed v0 v1 v2 v3 = some res) : mEx w zX9_summed (mRoom 2 0 0) [.int v0, .int v1, .int v2, .int v3] h (fun r h2 => r = some (.int res) ∧ h2 = h) := by
  refine mEx.of (by decide +kernel) rfl (Nat.le_of_ble_eq_true rfl) ?_
  refine g_X9_summed v0 v1 v2 v3 h e ?_
  exact ⟨rfl, rfl⟩
-- X9_times
def kX9_times : mK := (cX9_times, RX9, 13, some (.int), "times", mRoom 2 0 0)
def zX9_times : mY := (yX9_times, cX9_times, 13, some (.int))
noncomputable def f_X9_times (v0 : Int32) (v1 : Int32) (v2 : Int32)  : Option (Int32) :=
  (f_X9_primeOf v0).bind fun x1 =>
  (f_X9_digit v1 x1 (0 : Int32)).bind fun x2 =>
  (f_X9_digit v1 x1 (1 : Int32)).bind fun x3 =>
  (f_X9_digit v1 x1 (2 : Int32)).bind fun x4 =>
  (f_X9_digit v2 x1 (0 : Int32)).bind fun x5 =>
  (f_X9_digit v2 x1 (1 : Int32)).bind fun x6 =>
  (f_X9_digit v2 x1 (2 : Int32)).bind fun x7 =>
  if v0 = x1 then
    if x1 = 0 then none else
    some (mRem (x2 * x5) x1)
  else
    if v0 = (27 : Int32) then
      some (((mRem ((x2 * x5) + ((x3 * x7) + (x4 * x6))) (3 : Int32)) + ((3 : Int32) * (mRem ((((x2 * x6) + (x3 * x5)) + ((x3 * x7) + (x4 * x6))) + (x4 * x7)) (3 : Int32)))) + ((9 : Int32) * (mRem ((((x2 * x7) + (x3 * x6)) + (x4 * x5)) + (x4 * x7)) (3 : Int32))))
    else
      if x1 = 0 then none else
      if x1 = 0 then none else
      some ((mRem ((x2 * x5) + (((2 : Int32) * x3) * x6)) x1) + (x1 * (mRem ((x2 * x6) + (x3 * x5)) x1)))
set_option maxRecDepth 100000 in
set_option maxHeartbeats 4000000 in
theorem g_X9_times {w : mWp} {Q : Option Value → mH → Prop} (v0 : Int32) (v1 : Int32) (v2 : Int32) (h : mH) {res : Int32} (e : f_X9_times v0 v1 v2 = some res) (q : (fun r : Int32 => Q (some (.int r)) h) res) : mGo w kX9_times 0 0 0 [some (.int v0), some (.int v1), some (.int v2), none, none, none, none, none, none, none, none, none, none] [] h Q := by
  unfold f_X9_times at e
  refine mGo.iload_n (n := 1) (x := v0) dX9_times_0 rfl rfl ?_
  obtain ⟨x1, e_x1, e⟩ := mBind e
  refine mGo.callS (n := 4) (y := zX9_primeOf) (R' := (mRoom (1) 0 0)) (as := [.int v0]) (st := []) dX9_times_1 sc_RX9_130 rfl (e_X9_primeOf v0 h e_x1) (mFit_of rfl (Nat.le_of_ble_eq_true rfl) (by decide) (Nat.le_of_ble_eq_true rfl) (Nat.le_of_ble_eq_true rfl)) (Nat.le_of_ble_eq_true rfl) rfl rfl ?_
  intro _ _ hq
  rw [hq.1, hq.2]
  show mGo w kX9_times 0 0 4 [some (.int v0), some (.int v1), some (.int v2), none, none, none, none, none, none, none, none, none, none] [.int x1] h Q
  refine mGo.istore_n (n := 5) (ls' := [some (.int v0), some (.int v1), some (.int v2), some (.int x1), none, none, none, none, none, none, none, none, none]) dX9_times_4 rfl (Nat.le_of_ble_eq_true rfl) rfl ?_
  refine mGo.iload_n (n := 6) (x := v1) dX9_times_5 rfl rfl ?_
  refine mGo.iload_n (n := 7) (x := x1) dX9_times_6 rfl rfl ?_
  refine mGo.iconst (n := 8) (v := (0 : Int32)) dX9_times_7 (by decide) rfl ?_
  obtain ⟨x2, e_x2, e⟩ := mBind e
  refine mGo.callS (n := 11) (y := zX9_digit) (R' := (mRoom (1) 0 0)) (as := [.int v1, .int x1, .int (0 : Int32)]) (st := []) dX9_times_8 sc_RX9_133 rfl (e_X9_digit v1 x1 (0 : Int32) h e_x2) (mFit_of rfl (Nat.le_of_ble_eq_true rfl) (by decide) (Nat.le_of_ble_eq_true rfl) (Nat.le_of_ble_eq_true rfl)) (Nat.le_of_ble_eq_true rfl) rfl rfl ?_
  intro _ _ hq
  rw [hq.1, hq.2]
  show mGo w kX9_times 0 0 11 [some (.int v0), some (.int v1), some (.int v2), some (.int x1), none, none, none, none, none, none, none, none, none] [.int x2] h Q
  refine mGo.istore (n := 13) (ls' := [some (.int v0), some (.int v1), some (.int v2), some (.int x1), some (.int x2), none, none, none, none, none, none, none, none]) dX9_times_11 rfl (Nat.le_of_ble_eq_true rfl) rfl ?_
  refine mGo.iload_n (n := 14) (x := v1) dX9_times_13 rfl rfl ?_
  refine mGo.iload_n (n := 15) (x := x1) dX9_times_14 rfl rfl ?_
  refine mGo.iconst (n := 16) (v := (1 : Int32)) dX9_times_15 (by decide) rfl ?_
  obtain ⟨x3, e_x3, e⟩ := mBind e
  refine mGo.callS (n := 19) (y := zX9_digit) (R' := (mRoom (1) 0 0)) (as := [.int v1, .int x1, .int (1 : Int32)]) (st := []) dX9_times_16 sc_RX9_133 rfl (e_X9_digit v1 x1 (1 : Int32) h e_x3) (mFit_of rfl (Nat.le_of_ble_eq_true rfl) (by decide) (Nat.le_of_ble_eq_true rfl) (Nat.le_of_ble_eq_true rfl)) (Nat.le_of_ble_eq_true rfl) rfl rfl ?_
  intro _ _ hq
  rw [hq.1, hq.2]
  show mGo w kX9_times 0 0 19 [some (.int v0), some (.int v1), some (.int v2), some (.int x1), some (.int x2), none, none, none, none, none, none, none, none] [.int x3] h Q
  refine mGo.istore (n := 21) (ls' := [some (.int v0), some (.int v1), some (.int v2), some (.int x1), some (.int x2), some (.int x3), none, none, none, none, none, none, none]) dX9_times_19 rfl (Nat.le_of_ble_eq_true rfl) rfl ?_
  refine mGo.iload_n (n := 22) (x := v1) dX9_times_21 rfl rfl ?_
  refine mGo.iload_n (n := 23) (x := x1) dX9_times_22 rfl rfl ?_
  refine mGo.iconst (n := 24) (v := (2 : Int32)) dX9_times_23 (by decide) rfl ?_
  obtain ⟨x4, e_x4, e⟩ := mBind e
  refine mGo.callS (n := 27) (y := zX9_digit) (R' := (mRoom (1) 0 0)) (as := [.int v1, .int x1, .int (2 : Int32)]) (st := []) dX9_times_24 sc_RX9_133 rfl (e_X9_digit v1 x1 (2 : Int32) h e_x4) (mFit_of rfl (Nat.le_of_ble_eq_true rfl) (by decide) (Nat.le_of_ble_eq_true rfl) (Nat.le_of_ble_eq_true rfl)) (Nat.le_of_ble_eq_true rfl) rfl rfl ?_
  intro _ _ hq
  rw [hq.1, hq.2]
  show mGo w kX9_times 0 0 27 [some (.int v0), some (.int v1), some (.int v2), some (.int x1), some (.int x2), some (.int x3), none, none, none, none, none, none, none] [.int x4] h Q
  refine mGo.istore (n := 29) (ls' := [some (.int v0), some (.int v1), some (.int v2), some (.int x1), some (.int x2), some (.int x3), some (.int x4), none, none, none, none, none, none]) dX9_times_27 rfl (Nat.le_of_ble_eq_true rfl) rfl ?_
  refine mGo.iload_n (n := 30) (x := v2) dX9_times_29 rfl rfl ?_
  refine mGo.iload_n (n := 31) (x := x1) dX9_times_30 rfl rfl ?_
  refine mGo.iconst (n := 32) (v := (0 : Int32)) dX9_times_31 (by decide) rfl ?_
  obtain ⟨x5, e_x5, e⟩ := mBind e
  refine mGo.callS (n := 35) (y := zX9_digit) (R' := (mRoom (1) 0 0)) (as := [.int v2, .int x1, .int (0 : Int32)]) (st := []) dX9_times_32 sc_RX9_133 rfl (e_X9_digit v2 x1 (0 : Int32) h e_x5) (mFit_of rfl (Nat.le_of_ble_eq_true rfl) (by decide) (Nat.le_of_ble_eq_true rfl) (Nat.le_of_ble_eq_true rfl)) (Nat.le_of_ble_eq_true rfl) rfl rfl ?_
  intro _ _ hq
  rw [hq.1, hq.2]
  show mGo w kX9_times 0 0 35 [some (.int v0), some (.int v1), some (.int v2), some (.int x1), some (.int x2), some (.int x3), some (.int x4), none, none, none, none, none, none] [.int x5] h Q
  refine mGo.istore (n := 37) (ls' := [some (.int v0), some (.int v1), some (.int v2), some (.int x1), some (.int x2), some (.int x3), some (.int x4), some (.int x5), none, none, none, none, none]) dX9_times_35 rfl (Nat.le_of_ble_eq_true rfl) rfl ?_
  refine mGo.iload_n (n := 38) (x := v2) dX9_times_37 rfl rfl ?_
  refine mGo.iload_n (n := 39) (x := x1) dX9_times_38 rfl rfl ?_
  refine mGo.iconst (n := 40) (v := (1 : Int32)) dX9_times_39 (by decide) rfl ?_
  obtain ⟨x6, e_x6, e⟩ := mBind e
  refine mGo.callS (n := 43) (y := zX9_digit) (R' := (mRoom (1) 0 0)) (as := [.int v2, .int x1, .int (1 : Int32)]) (st := []) dX9_times_40 sc_RX9_133 rfl (e_X9_digit v2 x1 (1 : Int32) h e_x6) (mFit_of rfl (Nat.le_of_ble_eq_true rfl) (by decide) (Nat.le_of_ble_eq_true rfl) (Nat.le_of_ble_eq_true rfl)) (Nat.le_of_ble_eq_true rfl) rfl rfl ?_
  intro _ _ hq
  rw [hq.1, hq.2]
  show mGo w kX9_times 0 0 43 [some (.int v0), some (.int v1), some (.int v2), some (.int x1), some (.int x2), some (.int x3), some (.int x4), some (.int x5), none, none, none, none, none] [.int x6] h Q
  refine mGo.istore (n := 45) (ls' := [some (.int v0), some (.int v1), some (.int v2), some (.int x1), some (.int x2), some (.int x3), some (.int x4), some (.int x5), some (.int x6), none, none, none, none]) dX9_times_43 rfl (Nat.le_of_ble_eq_true rfl) rfl ?_
  refine mGo.iload_n (n := 46) (x := v2) dX9_times_45 rfl rfl ?_
  refine mGo.iload_n (n := 47) (x := x1) dX9_times_46 rfl rfl ?_
  refine mGo.iconst (n := 48) (v := (2 : Int32)) dX9_times_47 (by decide) rfl ?_
  obtain ⟨x7, e_x7, e⟩ := mBind e
  refine mGo.callS (n := 51) (y := zX9_digit) (R' := (mRoom (1) 0 0)) (as := [.int v2, .int x1, .int (2 : Int32)]) (st := []) dX9_times_48 sc_RX9_133 rfl (e_X9_digit v2 x1 (2 : Int32) h e_x7) (mFit_of rfl (Nat.le_of_ble_eq_true rfl) (by decide) (Nat.le_of_ble_eq_true rfl) (Nat.le_of_ble_eq_true rfl)) (Nat.le_of_ble_eq_true rfl) rfl rfl ?_
  intro _ _ hq
  rw [hq.1, hq.2]
  show mGo w kX9_times 0 0 51 [some (.int v0), some (.int v1), some (.int v2), some (.int x1), some (.int x2), some (.int x3), some (.int x4), some (.int x5), some (.int x6), none, none, none, none] [.int x7] h Q
  refine mGo.istore (n := 53) (ls' := [some (.int v0), some (.int v1), some (.int v2), some (.int x1), some (.int x2), some (.int x3), some (.int x4), some (.int x5), some (.int x6), some (.int x7), none, none, none]) dX9_times_51 rfl (Nat.le_of_ble_eq_true rfl) rfl ?_
  refine mGo.iload_n (n := 54) (x := v0) dX9_times_53 rfl rfl ?_
  refine mGo.iload_n (n := 55) (x := x1) dX9_times_54 rfl rfl ?_
  refine mGo.icmp_ne (tgt := 66) (n := 58) dX9_times_55 (by decide) rfl (fun hc => ?_) (fun hc => ?_)
  · replace e := mIff hc e
    refine mGo.iload_n (n := 67) (x := v0) dX9_times_66 rfl rfl ?_
    refine mGo.bipush (n := 69) (v := (27 : Int32)) dX9_times_67 (by decide) rfl ?_
    refine mGo.icmp_ne (tgt := 159) (n := 72) dX9_times_69 (by decide) rfl (fun hc => ?_) (fun hc => ?_)
    · replace e := mIff hc e
      refine mGo.iload (n := 161) (x := x2) dX9_times_159 rfl rfl ?_
      refine mGo.iload (n := 163) (x := x5) dX9_times_161 rfl rfl ?_
      refine mGo.imul (n := 164) dX9_times_163 rfl ?_
      refine mGo.iconst (n := 165) (v := (2 : Int32)) dX9_times_164 (by decide) rfl ?_
      refine mGo.iload (n := 167) (x := x3) dX9_times_165 rfl rfl ?_
      refine mGo.imul (n := 168) dX9_times_167 rfl ?_
      refine mGo.iload (n := 170) (x := x6) dX9_times_168 rfl rfl ?_
      refine mGo.imul (n := 171) dX9_times_170 rfl ?_
      refine mGo.iadd (n := 172) dX9_times_171 rfl ?_
      refine mGo.iload_n (n := 173) (x := x1) dX9_times_172 rfl rfl ?_
      obtain ⟨z8, e⟩ := mIfN e
      refine mGo.irem (n := 174) dX9_times_173 z8 rfl ?_
      refine mGo.iload_n (n := 175) (x := x1) dX9_times_174 rfl rfl ?_
      refine mGo.iload (n := 177) (x := x2) dX9_times_175 rfl rfl ?_
      refine mGo.iload (n := 179) (x := x6) dX9_times_177 rfl rfl ?_
      refine mGo.imul (n := 180) dX9_times_179 rfl ?_
      refine mGo.iload (n := 182) (x := x3) dX9_times_180 rfl rfl ?_
      refine mGo.iload (n := 184) (x := x5) dX9_times_182 rfl rfl ?_
      refine mGo.imul (n := 185) dX9_times_184 rfl ?_
      refine mGo.iadd (n := 186) dX9_times_185 rfl ?_
      refine mGo.iload_n (n := 187) (x := x1) dX9_times_186 rfl rfl ?_
      obtain ⟨z9, e⟩ := mIfN e
      refine mGo.irem (n := 188) dX9_times_187 z9 rfl ?_
      refine mGo.imul (n := 189) dX9_times_188 rfl ?_
      refine mGo.iadd (n := 190) dX9_times_189 rfl ?_
      cases e
      exact mGo.iret dX9_times_190 rfl (Nat.le_of_ble_eq_true rfl) (Nat.le_of_ble_eq_true rfl) q
    · replace e := mIft hc e
      refine mGo.iload (n := 74) (x := x3) dX9_times_72 rfl rfl ?_
      refine mGo.iload (n := 76) (x := x7) dX9_times_74 rfl rfl ?_
      refine mGo.imul (n := 77) dX9_times_76 rfl ?_
      refine mGo.iload (n := 79) (x := x4) dX9_times_77 rfl rfl ?_
      refine mGo.iload (n := 81) (x := x6) dX9_times_79 rfl rfl ?_
      refine mGo.imul (n := 82) dX9_times_81 rfl ?_
      refine mGo.iadd (n := 83) dX9_times_82 rfl ?_
      refine mGo.istore (n := 85) (ls' := [some (.int v0), some (.int v1), some (.int v2), some (.int x1), some (.int x2), some (.int x3), some (.int x4), some (.int x5), some (.int x6), some (.int x7), some (.int ((x3 * x7) + (x4 * x6))), none, none]) dX9_times_83 rfl (Nat.le_of_ble_eq_true rfl) rfl ?_
      refine mGo.iload (n := 87) (x := x4) dX9_times_85 rfl rfl ?_
      refine mGo.iload (n := 89) (x := x7) dX9_times_87 rfl rfl ?_
      refine mGo.imul (n := 90) dX9_times_89 rfl ?_
      refine mGo.istore (n := 92) (ls' := [some (.int v0), some (.int v1), some (.int v2), some (.int x1), some (.int x2), some (.int x3), some (.int x4), some (.int x5), some (.int x6), some (.int x7), some (.int ((x3 * x7) + (x4 * x6))), some (.int (x4 * x7)), none]) dX9_times_90 rfl (Nat.le_of_ble_eq_true rfl) rfl ?_
      refine mGo.iload (n := 94) (x := x2) dX9_times_92 rfl rfl ?_
      refine mGo.iload (n := 96) (x := x5) dX9_times_94 rfl rfl ?_
      refine mGo.imul (n := 97) dX9_times_96 rfl ?_
      refine mGo.iload (n := 99) (x := ((x3 * x7) + (x4 * x6))) dX9_times_97 rfl rfl ?_
      refine mGo.iadd (n := 100) dX9_times_99 rfl ?_
      refine mGo.iconst (n := 101) (v := (3 : Int32)) dX9_times_100 (by decide) rfl ?_
      refine mGo.irem (n := 102) dX9_times_101 (by decide) rfl ?_
      refine mGo.istore (n := 104) (ls' := [some (.int v0), some (.int v1), some (.int v2), some (.int x1), some (.int x2), some (.int x3), some (.int x4), some (.int x5), some (.int x6), some (.int x7), some (.int ((x3 * x7) + (x4 * x6))), some (.int (x4 * x7)), some (.int (mRem ((x2 * x5) + ((x3 * x7) + (x4 * x6))) (3 : Int32)))]) dX9_times_102 rfl (Nat.le_of_ble_eq_true rfl) rfl ?_
      refine mGo.iload (n := 106) (x := (mRem ((x2 * x5) + ((x3 * x7) + (x4 * x6))) (3 : Int32))) dX9_times_104 rfl rfl ?_
      refine mGo.iconst (n := 107) (v := (3 : Int32)) dX9_times_106 (by decide) rfl ?_
      refine mGo.iload (n := 109) (x := x2) dX9_times_107 rfl rfl ?_
      refine mGo.iload (n := 111) (x := x6) dX9_times_109 rfl rfl ?_
      refine mGo.imul (n := 112) dX9_times_111 rfl ?_
      refine mGo.iload (n := 114) (x := x3) dX9_times_112 rfl rfl ?_
      refine mGo.iload (n := 116) (x := x5) dX9_times_114 rfl rfl ?_
      refine mGo.imul (n := 117) dX9_times_116 rfl ?_
      refine mGo.iadd (n := 118) dX9_times_117 rfl ?_
      refine mGo.iload (n := 120) (x := ((x3 * x7) + (x4 * x6))) dX9_times_118 rfl rfl ?_
      refine mGo.iadd (n := 121) dX9_times_120 rfl ?_
      refine mGo.iload (n := 123) (x := (x4 * x7)) dX9_times_121 rfl rfl ?_
      refine mGo.iadd (n := 124) dX9_times_123 rfl ?_
      refine mGo.iconst (n := 125) (v := (3 : Int32)) dX9_times_124 (by decide) rfl ?_
      refine mGo.irem (n := 126) dX9_times_125 (by decide) rfl ?_
      refine mGo.imul (n := 127) dX9_times_126 rfl ?_
      refine mGo.iadd (n := 128) dX9_times_127 rfl ?_
      refine mGo.istore (n := 130) (ls' := [some (.int v0), some (.int v1), some (.int v2), some (.int x1), some (.int x2), some (.int x3), some (.int x4), some (.int x5), some (.int x6), some (.int x7), some (.int ((x3 * x7) + (x4 * x6))), some (.int (x4 * x7)), some (.int ((mRem ((x2 * x5) + ((x3 * x7) + (x4 * x6))) (3 : Int32)) + ((3 : Int32) * (mRem ((((x2 * x6) + (x3 * x5)) + ((x3 * x7) + (x4 * x6))) + (x4 * x7)) (3 : Int32)))))]) dX9_times_128 rfl (Nat.le_of_ble_eq_true rfl) rfl ?_
      refine mGo.iload (n := 132) (x := ((mRem ((x2 * x5) + ((x3 * x7) + (x4 * x6))) (3 : Int32)) + ((3 : Int32) * (mRem ((((x2 * x6) + (x3 * x5)) + ((x3 * x7) + (x4 * x6))) + (x4 * x7)) (3 : Int32))))) dX9_times_130 rfl rfl ?_
      refine mGo.bipush (n := 134) (v := (9 : Int32)) dX9_times_132 (by decide) rfl ?_
      refine mGo.iload (n := 136) (x := x2) dX9_times_134 rfl rfl ?_
      refine mGo.iload (n := 138) (x := x7) dX9_times_136 rfl rfl ?_
      refine mGo.imul (n := 139) dX9_times_138 rfl ?_
      refine mGo.iload (n := 141) (x := x3) dX9_times_139 rfl rfl ?_
      refine mGo.iload (n := 143) (x := x6) dX9_times_141 rfl rfl ?_
      refine mGo.imul (n := 144) dX9_times_143 rfl ?_
      refine mGo.iadd (n := 145) dX9_times_144 rfl ?_
      refine mGo.iload (n := 147) (x := x4) dX9_times_145 rfl rfl ?_
      refine mGo.iload (n := 149) (x := x5) dX9_times_147 rfl rfl ?_
      refine mGo.imul (n := 150) dX9_times_149 rfl ?_
      refine mGo.iadd (n := 151) dX9_times_150 rfl ?_
      refine mGo.iload (n := 153) (x := (x4 * x7)) dX9_times_151 rfl rfl ?_
      refine mGo.iadd (n := 154) dX9_times_153 rfl ?_
      refine mGo.iconst (n := 155) (v := (3 : Int32)) dX9_times_154 (by decide) rfl ?_
      refine mGo.irem (n := 156) dX9_times_155 (by decide) rfl ?_
      refine mGo.imul (n := 157) dX9_times_156 rfl ?_
      refine mGo.iadd (n := 158) dX9_times_157 rfl ?_
      cases e
      exact mGo.iret dX9_times_158 rfl (Nat.le_of_ble_eq_true rfl) (Nat.le_of_ble_eq_true rfl) q
  · replace e := mIft hc e
    refine mGo.iload (n := 60) (x := x2) dX9_times_58 rfl rfl ?_
    refine mGo.iload (n := 62) (x := x5) dX9_times_60 rfl rfl ?_
    refine mGo.imul (n := 63) dX9_times_62 rfl ?_
    refine mGo.iload_n (n := 64) (x := x1) dX9_times_63 rfl rfl ?_
    obtain ⟨z10, e⟩ := mIfN e
    refine mGo.irem (n := 65) dX9_times_64 z10 rfl ?_
    cases e
    exact mGo.iret dX9_times_65 rfl (Nat.le_of_ble_eq_true rfl) (Nat.le_of_ble_eq_true rfl) q
theorem e_X9_times {w : mWp} (v0 : Int32) (v1 : Int32) (v2 : Int32) (h : mH) {res : Int32} (e : f_X9_times v0 v1 v2 = some res) : mEx w zX9_times (mRoom 2 0 0) [.int v0, .int v1, .int v2] h (fun r h2 => r = some (.int res) ∧ h2 = h) := by
  refine mEx.of (by decide +kernel) rfl (Nat.le_of_ble_eq_true rfl) ?_
  refine g_X9_times v0 v1 v2 h e ?_
  exact ⟨rfl, rfl⟩
-- X9_isSquare
def kX9_isSquare : mK := (cX9_isSquare, RX9, 3, some (.boolean), "isSquare", mRoom 3 0 0)
def zX9_isSquare : mY := (yX9_isSquare, cX9_isSquare, 3, some (.boolean))
set_option maxRecDepth 100000 in
theorem sc_RX9_137 : mSS RX9 137 zX9_times 3 := ⟨Or.inl (mT_at 930 (by decide +kernel) rfl), mT_at 931 (by decide +kernel) rfl, mT_at 91 (by decide +kernel) rfl, mT_at 932 (by decide +kernel) rfl, ⟨by decide +kernel, by decide +kernel, by decide +kernel⟩⟩
noncomputable def f_X9_isSquare_b2 (v0 : Int32) (v1 : Int32) (v2 : Int32)  : Option ((Int32) ⊕ (Int32)) :=
  if v0 ≤ v2 then
    some (Sum.inr (0 : Int32))
  else
    (f_X9_times v0 v2 v2).bind fun x1 =>
    if x1 = v1 then
      some (Sum.inr (1 : Int32))
    else
      some (Sum.inl (v2 + 1))
set_option maxRecDepth 100000 in
set_option maxHeartbeats 4000000 in
theorem g_X9_isSquare_b2 {w : mWp} {Q : Option Value → mH → Prop} (v0 : Int32) (v1 : Int32) (v2 : Int32) (h : mH) {res : (Int32) ⊕ (Int32)} (e : f_X9_isSquare_b2 v0 v1 v2 = some res) (q : (Sum.elim (fun x : Int32 => mGo w kX9_isSquare 0 0 2 [some (.int v0), some (.int v1), some (.int x)] [] h Q) (fun r : Int32 => Q (some (.int r)) h)) res) : mGo w kX9_isSquare 0 0 2 [some (.int v0), some (.int v1), some (.int v2)] [] h Q := by
  unfold f_X9_isSquare_b2 at e
  refine mGo.iload_n (n := 3) (x := v2) dX9_isSquare_2 rfl rfl ?_
  refine mGo.iload_n (n := 4) (x := v0) dX9_isSquare_3 rfl rfl ?_
  refine mGo.icmp_ge (tgt := 25) (n := 7) dX9_isSquare_4 (by decide) rfl (fun hc => ?_) (fun hc => ?_)
  · replace e := mIft hc e
    refine mGo.iconst (n := 26) (v := (0 : Int32)) dX9_isSquare_25 (by decide) rfl ?_
    cases e
    exact mGo.zret dX9_isSquare_26 rfl (by decide) (Nat.le_of_ble_eq_true rfl) (Nat.le_of_ble_eq_true rfl) q
  · replace e := mIff hc e
    refine mGo.iload_n (n := 8) (x := v0) dX9_isSquare_7 rfl rfl ?_
    refine mGo.iload_n (n := 9) (x := v2) dX9_isSquare_8 rfl rfl ?_
    refine mGo.iload_n (n := 10) (x := v2) dX9_isSquare_9 rfl rfl ?_
    obtain ⟨x1, e_x1, e⟩ := mBind e
    refine mGo.callS (n := 13) (y := zX9_times) (R' := (mRoom (2) 0 0)) (as := [.int v0, .int v2, .int v2]) (st := []) dX9_isSquare_10 sc_RX9_137 rfl (e_X9_times v0 v2 v2 h e_x1) (mFit_of rfl (Nat.le_of_ble_eq_true rfl) (by decide) (Nat.le_of_ble_eq_true rfl) (Nat.le_of_ble_eq_true rfl)) (Nat.le_of_ble_eq_true rfl) rfl rfl ?_
    intro _ _ hq
    rw [hq.1, hq.2]
    show mGo w kX9_isSquare 0 0 13 [some (.int v0), some (.int v1), some (.int v2)] [.int x1] h Q
    refine mGo.iload_n (n := 14) (x := v1) dX9_isSquare_13 rfl rfl ?_
    refine mGo.icmp_ne (tgt := 19) (n := 17) dX9_isSquare_14 (by decide) rfl (fun hc => ?_) (fun hc => ?_)
    · replace e := mIff hc e
      refine mGo.iinc (n := 22) (x := v2) (v := (v2 + 1)) (ls' := [some (.int v0), some (.int v1), some (.int (v2 + 1))]) dX9_isSquare_19 rfl rfl rfl (Nat.le_of_ble_eq_true rfl) rfl ?_
      refine mGo.goto (tgt := 2) dX9_isSquare_22 (by decide) ?_
      cases e
      refine mGo.mk [true, true, true] ?_
      exact q
    · replace e := mIft hc e
      refine mGo.iconst (n := 18) (v := (1 : Int32)) dX9_isSquare_17 (by decide) rfl ?_
      cases e
      exact mGo.zret dX9_isSquare_18 rfl (by decide) (Nat.le_of_ble_eq_true rfl) (Nat.le_of_ble_eq_true rfl) q
noncomputable def f_X9_isSquare_l2 (v0 : Int32) (v1 : Int32) (v2 : Int32)  : Option (Int32) :=
  mLoop (fun x : Int32 => f_X9_isSquare_b2 v0 v1 x) (v2)
set_option maxRecDepth 100000 in
set_option maxHeartbeats 4000000 in
theorem g_X9_isSquare_l2 {w : mWp} {Q : Option Value → mH → Prop} (v0 : Int32) (v1 : Int32) (v2 : Int32) (h : mH) {res : Int32} (e : f_X9_isSquare_l2 v0 v1 v2 = some res) (q : (fun r : Int32 => Q (some (.int r)) h) res) : mGo w kX9_isSquare 0 0 2 [some (.int v0), some (.int v1), some (.int v2)] [] h Q := by
  unfold f_X9_isSquare_l2 at e
  refine mLoop_go (x := (v2)) (fun x : Int32 => mGo w kX9_isSquare 0 0 2 [some (.int v0), some (.int v1), some (.int x)] [] h Q) (fun r : Int32 => Q (some (.int r)) h) ?_ e q
  rintro v2 res e q
  exact g_X9_isSquare_b2 v0 v1 v2 h e q
noncomputable def f_X9_isSquare (v0 : Int32) (v1 : Int32)  : Option (Int32) :=
  f_X9_isSquare_l2 v0 v1 (1 : Int32)
set_option maxRecDepth 100000 in
set_option maxHeartbeats 4000000 in
theorem g_X9_isSquare {w : mWp} {Q : Option Value → mH → Prop} (v0 : Int32) (v1 : Int32) (h : mH) {res : Int32} (e : f_X9_isSquare v0 v1 = some res) (q : (fun r : Int32 => Q (some (.int r)) h) res) : mGo w kX9_isSquare 0 0 0 [some (.int v0), some (.int v1), none] [] h Q := by
  unfold f_X9_isSquare at e
  refine mGo.iconst (n := 1) (v := (1 : Int32)) dX9_isSquare_0 (by decide) rfl ?_
  refine mGo.istore_n (n := 2) (ls' := [some (.int v0), some (.int v1), some (.int (1 : Int32))]) dX9_isSquare_1 rfl (Nat.le_of_ble_eq_true rfl) rfl ?_
  refine mGo.mk [true, true, true] ?_
  exact g_X9_isSquare_l2 v0 v1 (1 : Int32) h e q
theorem e_X9_isSquare {w : mWp} (v0 : Int32) (v1 : Int32) (h : mH) {res : Int32} (e : f_X9_isSquare v0 v1 = some res) : mEx w zX9_isSquare (mRoom 3 0 0) [.int v0, .int v1] h (fun r h2 => r = some (.int res) ∧ h2 = h) := by
  refine mEx.of (by decide +kernel) rfl (Nat.le_of_ble_eq_true rfl) ?_
  refine g_X9_isSquare v0 v1 h e ?_
  exact ⟨rfl, rfl⟩
-- X9_chi
def kX9_chi : mK := (cX9_chi, RX9, 2, some (.int), "chi", mRoom 4 0 0)
def zX9_chi : mY := (yX9_chi, cX9_chi, 2, some (.int))
set_option maxRecDepth 100000 in
theorem sc_RX9_140 : mSS RX9 140 zX9_isSquare 2 := ⟨Or.inl (mT_at 933 (by decide +kernel) rfl), mT_at 934 (by decide +kernel) rfl, mT_at 91 (by decide +kernel) rfl, mT_at 935 (by decide +kernel) rfl, ⟨by decide +kernel, by decide +kernel, by decide +kernel⟩⟩
noncomputable def f_X9_chi (v0 : Int32) (v1 : Int32)  : Option (Int32) :=
  if v1 = 0 then
    some (0 : Int32)
  else
    (f_X9_isSquare v0 v1).bind fun x1 =>
    if x1 = 0 then
      some (-1 : Int32)
    else
      some (1 : Int32)
set_option maxRecDepth 100000 in
set_option maxHeartbeats 4000000 in
theorem g_X9_chi {w : mWp} {Q : Option Value → mH → Prop} (v0 : Int32) (v1 : Int32) (h : mH) {res : Int32} (e : f_X9_chi v0 v1 = some res) (q : (fun r : Int32 => Q (some (.int r)) h) res) : mGo w kX9_chi 0 0 0 [some (.int v0), some (.int v1)] [] h Q := by
  unfold f_X9_chi at e
  refine mGo.iload_n (n := 1) (x := v1) dX9_chi_0 rfl rfl ?_
  refine mGo.if_ne (tgt := 8) (n := 4) dX9_chi_1 (by decide) rfl (fun hc => ?_) (fun hc => ?_)
  · replace e := mIff hc e
    refine mGo.iload_n (n := 9) (x := v0) dX9_chi_8 rfl rfl ?_
    refine mGo.iload_n (n := 10) (x := v1) dX9_chi_9 rfl rfl ?_
    obtain ⟨x1, e_x1, e⟩ := mBind e
    refine mGo.callS (n := 13) (y := zX9_isSquare) (R' := (mRoom (3) 0 0)) (as := [.int v0, .int v1]) (st := []) dX9_chi_10 sc_RX9_140 rfl (e_X9_isSquare v0 v1 h e_x1) (mFit_of rfl (Nat.le_of_ble_eq_true rfl) (by decide) (Nat.le_of_ble_eq_true rfl) (Nat.le_of_ble_eq_true rfl)) (Nat.le_of_ble_eq_true rfl) rfl rfl ?_
    intro _ _ hq
    rw [hq.1, hq.2]
    show mGo w kX9_chi 0 0 13 [some (.int v0), some (.int v1)] [.int x1] h Q
    refine mGo.if_eq (tgt := 20) (n := 16) dX9_chi_13 (by decide) rfl (fun hc => ?_) (fun hc => ?_)
    · replace e := mIft hc e
      refine mGo.iconst (n := 21) (v := (-1 : Int32)) dX9_chi_20 (by decide) rfl ?_
      cases e
      exact mGo.iret dX9_chi_21 rfl (Nat.le_of_ble_eq_true rfl) (Nat.le_of_ble_eq_true rfl) q
    · replace e := mIff hc e
      refine mGo.iconst (n := 17) (v := (1 : Int32)) dX9_chi_16 (by decide) rfl ?_
      refine mGo.goto (tgt := 21) dX9_chi_17 (by decide) ?_
      cases e
      exact mGo.iret dX9_chi_21 rfl (Nat.le_of_ble_eq_true rfl) (Nat.le_of_ble_eq_true rfl) q
  · replace e := mIft hc e
    refine mGo.iconst (n := 5) (v := (0 : Int32)) dX9_chi_4 (by decide) rfl ?_
    refine mGo.goto (tgt := 21) dX9_chi_5 (by decide) ?_
    cases e
    exact mGo.iret dX9_chi_21 rfl (Nat.le_of_ble_eq_true rfl) (Nat.le_of_ble_eq_true rfl) q
theorem e_X9_chi {w : mWp} (v0 : Int32) (v1 : Int32) (h : mH) {res : Int32} (e : f_X9_chi v0 v1 = some res) : mEx w zX9_chi (mRoom 4 0 0) [.int v0, .int v1] h (fun r h2 => r = some (.int res) ∧ h2 = h) := by
  refine mEx.of (by decide +kernel) rfl (Nat.le_of_ble_eq_true rfl) ?_
  refine g_X9_chi v0 v1 h e ?_
  exact ⟨rfl, rfl⟩
-- X9_field
def kX9_field : mK := (cX9_field, RX9, 5, some (.int), "field", mRoom 4 0 0)
def zX9_field : mY := (yX9_field, cX9_field, 5, some (.int))
set_option maxRecDepth 100000 in
theorem sc_RX9_143 : mSS RX9 143 zX9_isField 1 := ⟨Or.inl (mT_at 918 (by decide +kernel) rfl), mT_at 919 (by decide +kernel) rfl, mT_at 91 (by decide +kernel) rfl, mT_at 920 (by decide +kernel) rfl, ⟨by decide +kernel, by decide +kernel, by decide +kernel⟩⟩
set_option maxRecDepth 100000 in
theorem sc_RX9_146 : mSS RX9 146 zX9_summed 4 := ⟨Or.inl (mT_at 921 (by decide +kernel) rfl), mT_at 922 (by decide +kernel) rfl, mT_at 91 (by decide +kernel) rfl, mT_at 923 (by decide +kernel) rfl, ⟨by decide +kernel, by decide +kernel, by decide +kernel⟩⟩
noncomputable def f_X9_field (v0 : Option Nat) (v1 : Int32) (v2 : Int32) (v3 : Int32) (v4 : Int32) (h : mH) : Option (Int32) :=
  (mIs h v0 8).bind fun _ =>
  (f_X9_isField v1).bind fun x1 =>
  if x1 = 0 then
    some (-1 : Int32)
  else
    (f_X9_in v2 (0 : Int32) (v1 - (1 : Int32))).bind fun x2 =>
    if x2 = 0 then
      some (-1 : Int32)
    else
      (f_X9_in v3 (0 : Int32) (v1 - (1 : Int32))).bind fun x3 =>
      if x3 = 0 then
        some (-1 : Int32)
      else
        (f_X9_in v4 (0 : Int32) (3 : Int32)).bind fun x4 =>
        if x4 = 0 then
          some (-1 : Int32)
        else
          if v4 = 0 then
            (f_X9_summed v1 v2 v3 (1 : Int32)).bind fun x6 =>
            some x6
          else
          if v4 = 1 then
            (f_X9_times v1 v2 v3).bind fun x8 =>
            some x8
          else
          if v4 = 2 then
            (f_X9_summed v1 v2 v3 (-1 : Int32)).bind fun x10 =>
            some x10
          else
          (f_X9_isSquare v1 v2).bind fun x11 =>
          if x11 = 0 then
            some (0 : Int32)
          else
            some (1 : Int32)
set_option maxRecDepth 100000 in
set_option maxHeartbeats 4000000 in
theorem g_X9_field {w : mWp} {Q : Option Value → mH → Prop} (v0 : Option Nat) (v1 : Int32) (v2 : Int32) (v3 : Int32) (v4 : Int32) (h : mH) {res : Int32} (e : f_X9_field v0 v1 v2 v3 v4 h = some res) (q : (fun r : Int32 => Q (some (.int r)) h) res) : mGo w kX9_field 0 0 0 [some (va_rf v0), some (.int v1), some (.int v2), some (.int v3), some (.int v4)] [] h Q := by
  unfold f_X9_field at e
  obtain ⟨_, _, e⟩ := mBind e
  refine mGo.iload_n (n := 1) (x := v1) dX9_field_0 rfl rfl ?_
  obtain ⟨x1, e_x1, e⟩ := mBind e
  refine mGo.callS (n := 4) (y := zX9_isField) (R' := (mRoom (2) 0 0)) (as := [.int v1]) (st := []) dX9_field_1 sc_RX9_143 rfl (e_X9_isField v1 h e_x1) (mFit_of rfl (Nat.le_of_ble_eq_true rfl) (by decide) (Nat.le_of_ble_eq_true rfl) (Nat.le_of_ble_eq_true rfl)) (Nat.le_of_ble_eq_true rfl) rfl rfl ?_
  intro _ _ hq
  rw [hq.1, hq.2]
  show mGo w kX9_field 0 0 4 [some (va_rf v0), some (.int v1), some (.int v2), some (.int v3), some (.int v4)] [.int x1] h Q
  refine mGo.if_eq (tgt := 39) (n := 7) dX9_field_4 (by decide) rfl (fun hc => ?_) (fun hc => ?_)
  · replace e := mIft hc e
    refine mGo.iconst (n := 40) (v := (-1 : Int32)) dX9_field_39 (by decide) rfl ?_
    cases e
    exact mGo.iret dX9_field_40 rfl (Nat.le_of_ble_eq_true rfl) (Nat.le_of_ble_eq_true rfl) q
  · replace e := mIff hc e
    refine mGo.iload_n (n := 8) (x := v2) dX9_field_7 rfl rfl ?_
    refine mGo.iconst (n := 9) (v := (0 : Int32)) dX9_field_8 (by decide) rfl ?_
    refine mGo.iload_n (n := 10) (x := v1) dX9_field_9 rfl rfl ?_
    refine mGo.iconst (n := 11) (v := (1 : Int32)) dX9_field_10 (by decide) rfl ?_
    refine mGo.isub (n := 12) dX9_field_11 rfl ?_
    obtain ⟨x2, e_x2, e⟩ := mBind e
    refine mGo.callS (n := 15) (y := zX9_in) (R' := (mRoom (1) 0 0)) (as := [.int v2, .int (0 : Int32), .int (v1 - (1 : Int32))]) (st := []) dX9_field_12 sc_RX9_82 rfl (e_X9_in v2 (0 : Int32) (v1 - (1 : Int32)) h e_x2) (mFit_of rfl (Nat.le_of_ble_eq_true rfl) (by decide) (Nat.le_of_ble_eq_true rfl) (Nat.le_of_ble_eq_true rfl)) (Nat.le_of_ble_eq_true rfl) rfl rfl ?_
    intro _ _ hq
    rw [hq.1, hq.2]
    show mGo w kX9_field 0 0 15 [some (va_rf v0), some (.int v1), some (.int v2), some (.int v3), some (.int v4)] [.int x2] h Q
    refine mGo.if_eq (tgt := 39) (n := 18) dX9_field_15 (by decide) rfl (fun hc => ?_) (fun hc => ?_)
    · replace e := mIft hc e
      refine mGo.iconst (n := 40) (v := (-1 : Int32)) dX9_field_39 (by decide) rfl ?_
      cases e
      exact mGo.iret dX9_field_40 rfl (Nat.le_of_ble_eq_true rfl) (Nat.le_of_ble_eq_true rfl) q
    · replace e := mIff hc e
      refine mGo.iload_n (n := 19) (x := v3) dX9_field_18 rfl rfl ?_
      refine mGo.iconst (n := 20) (v := (0 : Int32)) dX9_field_19 (by decide) rfl ?_
      refine mGo.iload_n (n := 21) (x := v1) dX9_field_20 rfl rfl ?_
      refine mGo.iconst (n := 22) (v := (1 : Int32)) dX9_field_21 (by decide) rfl ?_
      refine mGo.isub (n := 23) dX9_field_22 rfl ?_
      obtain ⟨x3, e_x3, e⟩ := mBind e
      refine mGo.callS (n := 26) (y := zX9_in) (R' := (mRoom (1) 0 0)) (as := [.int v3, .int (0 : Int32), .int (v1 - (1 : Int32))]) (st := []) dX9_field_23 sc_RX9_82 rfl (e_X9_in v3 (0 : Int32) (v1 - (1 : Int32)) h e_x3) (mFit_of rfl (Nat.le_of_ble_eq_true rfl) (by decide) (Nat.le_of_ble_eq_true rfl) (Nat.le_of_ble_eq_true rfl)) (Nat.le_of_ble_eq_true rfl) rfl rfl ?_
      intro _ _ hq
      rw [hq.1, hq.2]
      show mGo w kX9_field 0 0 26 [some (va_rf v0), some (.int v1), some (.int v2), some (.int v3), some (.int v4)] [.int x3] h Q
      refine mGo.if_eq (tgt := 39) (n := 29) dX9_field_26 (by decide) rfl (fun hc => ?_) (fun hc => ?_)
      · replace e := mIft hc e
        refine mGo.iconst (n := 40) (v := (-1 : Int32)) dX9_field_39 (by decide) rfl ?_
        cases e
        exact mGo.iret dX9_field_40 rfl (Nat.le_of_ble_eq_true rfl) (Nat.le_of_ble_eq_true rfl) q
      · replace e := mIff hc e
        refine mGo.iload (n := 31) (x := v4) dX9_field_29 rfl rfl ?_
        refine mGo.iconst (n := 32) (v := (0 : Int32)) dX9_field_31 (by decide) rfl ?_
        refine mGo.iconst (n := 33) (v := (3 : Int32)) dX9_field_32 (by decide) rfl ?_
        obtain ⟨x4, e_x4, e⟩ := mBind e
        refine mGo.callS (n := 36) (y := zX9_in) (R' := (mRoom (1) 0 0)) (as := [.int v4, .int (0 : Int32), .int (3 : Int32)]) (st := []) dX9_field_33 sc_RX9_82 rfl (e_X9_in v4 (0 : Int32) (3 : Int32) h e_x4) (mFit_of rfl (Nat.le_of_ble_eq_true rfl) (by decide) (Nat.le_of_ble_eq_true rfl) (Nat.le_of_ble_eq_true rfl)) (Nat.le_of_ble_eq_true rfl) rfl rfl ?_
        intro _ _ hq
        rw [hq.1, hq.2]
        show mGo w kX9_field 0 0 36 [some (va_rf v0), some (.int v1), some (.int v2), some (.int v3), some (.int v4)] [.int x4] h Q
        refine mGo.if_ne (tgt := 41) (n := 39) dX9_field_36 (by decide) rfl (fun hc => ?_) (fun hc => ?_)
        · replace e := mIff hc e
          refine mGo.iload (n := 43) (x := v4) dX9_field_41 rfl rfl ?_
          by_cases hc5 : v4 = 0
          · replace e := mIft hc5 e
            refine mGo.tcase (v := 0) (tgt := 68) hc5 dX9_field_43 (by decide) (by decide) (off := 25) (by decide) (by decide) ?_
            refine mGo.iload_n (n := 69) (x := v1) dX9_field_68 rfl rfl ?_
            refine mGo.iload_n (n := 70) (x := v2) dX9_field_69 rfl rfl ?_
            refine mGo.iload_n (n := 71) (x := v3) dX9_field_70 rfl rfl ?_
            refine mGo.iconst (n := 72) (v := (1 : Int32)) dX9_field_71 (by decide) rfl ?_
            obtain ⟨x6, e_x6, e⟩ := mBind e
            refine mGo.callS (n := 75) (y := zX9_summed) (R' := (mRoom (2) 0 0)) (as := [.int v1, .int v2, .int v3, .int (1 : Int32)]) (st := []) dX9_field_72 sc_RX9_146 rfl (e_X9_summed v1 v2 v3 (1 : Int32) h e_x6) (mFit_of rfl (Nat.le_of_ble_eq_true rfl) (by decide) (Nat.le_of_ble_eq_true rfl) (Nat.le_of_ble_eq_true rfl)) (Nat.le_of_ble_eq_true rfl) rfl rfl ?_
            intro _ _ hq
            rw [hq.1, hq.2]
            show mGo w kX9_field 0 0 75 [some (va_rf v0), some (.int v1), some (.int v2), some (.int v3), some (.int v4)] [.int x6] h Q
            cases e
            exact mGo.iret dX9_field_75 rfl (Nat.le_of_ble_eq_true rfl) (Nat.le_of_ble_eq_true rfl) q
          replace e := mIff hc5 e
          by_cases hc7 : v4 = 1
          · replace e := mIft hc7 e
            refine mGo.tcase (v := 1) (tgt := 76) hc7 dX9_field_43 (by decide) (by decide) (off := 33) (by decide) (by decide) ?_
            refine mGo.iload_n (n := 77) (x := v1) dX9_field_76 rfl rfl ?_
            refine mGo.iload_n (n := 78) (x := v2) dX9_field_77 rfl rfl ?_
            refine mGo.iload_n (n := 79) (x := v3) dX9_field_78 rfl rfl ?_
            obtain ⟨x8, e_x8, e⟩ := mBind e
            refine mGo.callS (n := 82) (y := zX9_times) (R' := (mRoom (2) 0 0)) (as := [.int v1, .int v2, .int v3]) (st := []) dX9_field_79 sc_RX9_137 rfl (e_X9_times v1 v2 v3 h e_x8) (mFit_of rfl (Nat.le_of_ble_eq_true rfl) (by decide) (Nat.le_of_ble_eq_true rfl) (Nat.le_of_ble_eq_true rfl)) (Nat.le_of_ble_eq_true rfl) rfl rfl ?_
            intro _ _ hq
            rw [hq.1, hq.2]
            show mGo w kX9_field 0 0 82 [some (va_rf v0), some (.int v1), some (.int v2), some (.int v3), some (.int v4)] [.int x8] h Q
            cases e
            exact mGo.iret dX9_field_82 rfl (Nat.le_of_ble_eq_true rfl) (Nat.le_of_ble_eq_true rfl) q
          replace e := mIff hc7 e
          by_cases hc9 : v4 = 2
          · replace e := mIft hc9 e
            refine mGo.tcase (v := 2) (tgt := 83) hc9 dX9_field_43 (by decide) (by decide) (off := 40) (by decide) (by decide) ?_
            refine mGo.iload_n (n := 84) (x := v1) dX9_field_83 rfl rfl ?_
            refine mGo.iload_n (n := 85) (x := v2) dX9_field_84 rfl rfl ?_
            refine mGo.iload_n (n := 86) (x := v3) dX9_field_85 rfl rfl ?_
            refine mGo.iconst (n := 87) (v := (-1 : Int32)) dX9_field_86 (by decide) rfl ?_
            obtain ⟨x10, e_x10, e⟩ := mBind e
            refine mGo.callS (n := 90) (y := zX9_summed) (R' := (mRoom (2) 0 0)) (as := [.int v1, .int v2, .int v3, .int (-1 : Int32)]) (st := []) dX9_field_87 sc_RX9_146 rfl (e_X9_summed v1 v2 v3 (-1 : Int32) h e_x10) (mFit_of rfl (Nat.le_of_ble_eq_true rfl) (by decide) (Nat.le_of_ble_eq_true rfl) (Nat.le_of_ble_eq_true rfl)) (Nat.le_of_ble_eq_true rfl) rfl rfl ?_
            intro _ _ hq
            rw [hq.1, hq.2]
            show mGo w kX9_field 0 0 90 [some (va_rf v0), some (.int v1), some (.int v2), some (.int v3), some (.int v4)] [.int x10] h Q
            cases e
            exact mGo.iret dX9_field_90 rfl (Nat.le_of_ble_eq_true rfl) (Nat.le_of_ble_eq_true rfl) q
          replace e := mIff hc9 e
          refine mGo.tdef (tgt := 91) [0, 1, 2] dX9_field_43 (List.forall_mem_cons.mpr ⟨hc5, (List.forall_mem_cons.mpr ⟨hc7, (List.forall_mem_cons.mpr ⟨hc9, (fun _ hm => absurd hm List.not_mem_nil)⟩)⟩)⟩) (by decide) (by decide +kernel) (by decide) ?_
          refine mGo.iload_n (n := 92) (x := v1) dX9_field_91 rfl rfl ?_
          refine mGo.iload_n (n := 93) (x := v2) dX9_field_92 rfl rfl ?_
          obtain ⟨x11, e_x11, e⟩ := mBind e
          refine mGo.callS (n := 96) (y := zX9_isSquare) (R' := (mRoom (3) 0 0)) (as := [.int v1, .int v2]) (st := []) dX9_field_93 sc_RX9_140 rfl (e_X9_isSquare v1 v2 h e_x11) (mFit_of rfl (Nat.le_of_ble_eq_true rfl) (by decide) (Nat.le_of_ble_eq_true rfl) (Nat.le_of_ble_eq_true rfl)) (Nat.le_of_ble_eq_true rfl) rfl rfl ?_
          intro _ _ hq
          rw [hq.1, hq.2]
          show mGo w kX9_field 0 0 96 [some (va_rf v0), some (.int v1), some (.int v2), some (.int v3), some (.int v4)] [.int x11] h Q
          refine mGo.if_eq (tgt := 103) (n := 99) dX9_field_96 (by decide) rfl (fun hc => ?_) (fun hc => ?_)
          · replace e := mIft hc e
            refine mGo.iconst (n := 104) (v := (0 : Int32)) dX9_field_103 (by decide) rfl ?_
            cases e
            exact mGo.iret dX9_field_104 rfl (Nat.le_of_ble_eq_true rfl) (Nat.le_of_ble_eq_true rfl) q
          · replace e := mIff hc e
            refine mGo.iconst (n := 100) (v := (1 : Int32)) dX9_field_99 (by decide) rfl ?_
            refine mGo.goto (tgt := 104) dX9_field_100 (by decide) ?_
            cases e
            exact mGo.iret dX9_field_104 rfl (Nat.le_of_ble_eq_true rfl) (Nat.le_of_ble_eq_true rfl) q
        · replace e := mIft hc e
          refine mGo.iconst (n := 40) (v := (-1 : Int32)) dX9_field_39 (by decide) rfl ?_
          cases e
          exact mGo.iret dX9_field_40 rfl (Nat.le_of_ble_eq_true rfl) (Nat.le_of_ble_eq_true rfl) q
theorem e_X9_field {w : mWp} (v0 : Option Nat) (v1 : Int32) (v2 : Int32) (v3 : Int32) (v4 : Int32) (h : mH) {res : Int32} (e : f_X9_field v0 v1 v2 v3 v4 h = some res) : mEx w zX9_field (mRoom 4 0 0) [va_rf v0, .int v1, .int v2, .int v3, .int v4] h (fun r h2 => r = some (.int res) ∧ h2 = h) := by
  refine mEx.of (by decide +kernel) (show mEnt [va_rf v0, .int v1, .int v2, .int v3, .int v4] 5 = [some (va_rf v0), some (.int v1), some (.int v2), some (.int v3), some (.int v4)] by rw [mEnt_r, mEnt_i, mEnt_i, mEnt_i, mEnt_i] <;> rfl) (by simp only [List.map_cons, List.map_nil, mRfc, mCi, mCj, List.sum_cons, List.sum_nil]; exact Nat.le_of_ble_eq_true rfl) ?_
  refine g_X9_field v0 v1 v2 v3 v4 h e ?_
  exact ⟨rfl, rfl⟩
theorem s_X9_field (v0 : Option Nat) (v1 : Int32) (v2 : Int32) (v3 : Int32) (v4 : Int32) (h : mH) {res : Int32} (e : f_X9_field v0 v1 v2 v3 v4 h = some res) : mIs h v0 8 = some () := by
  unfold f_X9_field at e
  obtain ⟨u, e1, _⟩ := mBind e
  cases u
  exact e1
-- X9_residues
def kX9_residues : mK := (cX9_residues, RX9, 4, some (.int), "residues", mRoom 5 0 0)
def zX9_residues : mY := (yX9_residues, cX9_residues, 4, some (.int))
set_option maxRecDepth 100000 in
theorem sc_RX9_150 : mSV RX9 150 zX9_lays 3 8 := ⟨Or.inl (mT_at 940 (by decide +kernel) rfl), mT_at 942 (by decide +kernel) rfl, mT_at 48 (by decide +kernel) rfl, mT_at 91 (by decide +kernel) rfl, mT_at 943 (by decide +kernel) rfl, ⟨by decide +kernel, by decide +kernel, by decide +kernel⟩, by decide, rfl⟩
set_option maxRecDepth 100000 in
theorem sc_RX9_154 : mSS RX9 154 zX9_chi 2 := ⟨Or.inl (mT_at 944 (by decide +kernel) rfl), mT_at 945 (by decide +kernel) rfl, mT_at 91 (by decide +kernel) rfl, mT_at 946 (by decide +kernel) rfl, ⟨by decide +kernel, by decide +kernel, by decide +kernel⟩⟩
def f_X9_residues_c79 (v0 : Option Nat) (v1 : Int32) (v2 : Int32) (v3 : Int32) (s0 : Option Nat) (s1 : Int32) (s2 : Int32) (s3 : Int32) (h : mH) : Option ((Int32 × mH) ⊕ ((Int32 × mH) ⊕ (Int32 × mH))) :=
  (f_X9_lays s0 s1 s2 s3 h).bind fun x1 =>
  some (Sum.inl ((v3 + 1), x1))
set_option maxRecDepth 100000 in
set_option maxHeartbeats 4000000 in
theorem g_X9_residues_c79 {w : mWp} {Q : Option Value → mH → Prop} (v0 : Option Nat) (v1 : Int32) (v2 : Int32) (v3 : Int32) (s0 : Option Nat) (s1 : Int32) (s2 : Int32) (s3 : Int32) (h : mH) {res : (Int32 × mH) ⊕ ((Int32 × mH) ⊕ (Int32 × mH))} (e : f_X9_residues_c79 v0 v1 v2 v3 s0 s1 s2 s3 h = some res) (q : (Sum.elim (fun x : Int32 × mH => mGo w kX9_residues 0 0 43 [some (va_rf v0), some (.int v1), some (.int v2), some (.int x.1)] [] x.2 Q) (Sum.elim (fun x : Int32 × mH => mGo w kX9_residues 0 0 29 [some (va_rf v0), some (.int v1), some (.int x.1), none] [] x.2 Q) (fun r : Int32 × mH => Q (some (.int r.1)) r.2))) res) : mGo w kX9_residues 0 0 79 [some (va_rf v0), some (.int v1), some (.int v2), some (.int v3)] [.int s3, .int s2, .int s1, va_rf s0] h Q := by
  unfold f_X9_residues_c79 at e
  obtain ⟨x1, e_x1, e⟩ := mBind e
  refine mGo.callV (n := 82) (y := zX9_lays) (R' := (mRoom (1) 0 0)) (as := [.int s1, .int s2, .int s3]) (st := []) (r0 := s0) dX9_residues_79 sc_RX9_150 rfl (s_X9_lays s0 s1 s2 s3 h e_x1) (e_X9_lays s0 s1 s2 s3 h e_x1) (mFit_of rfl (Nat.le_of_ble_eq_true rfl) (by decide) (Nat.le_of_ble_eq_true rfl) (Nat.le_of_ble_eq_true rfl)) (Nat.le_of_ble_eq_true rfl) rfl rfl ?_
  intro _ _ hq
  rw [hq.1, hq.2]
  show mGo w kX9_residues 0 0 82 [some (va_rf v0), some (.int v1), some (.int v2), some (.int v3)] [] x1 Q
  refine mGo.iinc (n := 85) (x := v3) (v := (v3 + 1)) (ls' := [some (va_rf v0), some (.int v1), some (.int v2), some (.int (v3 + 1))]) dX9_residues_82 rfl rfl rfl (Nat.le_of_ble_eq_true rfl) rfl ?_
  refine mGo.goto (tgt := 43) dX9_residues_85 (by decide) ?_
  cases e
  refine mGo.mk [true, true, true, true] ?_
  exact q
noncomputable def f_X9_residues_b43 (v0 : Option Nat) (v1 : Int32) (v2 : Int32) (v3 : Int32) (h : mH) : Option ((Int32 × mH) ⊕ ((Int32 × mH) ⊕ (Int32 × mH))) :=
  if v1 < v3 then
    some (Sum.inr (Sum.inl ((v2 + 1), h)))
  else
    if v3 = v2 then
      some (Sum.inl ((v3 + 1), h))
    else
      (f_X9_summed v1 (v3 - (1 : Int32)) (v2 - (1 : Int32)) (-1 : Int32)).bind fun x1 =>
      (f_X9_chi v1 x1).bind fun x2 =>
      if 0 ≤ x2 then
        f_X9_residues_c79 v0 v1 v2 v3 v0 v2 v3 (0 : Int32) h
      else
        f_X9_residues_c79 v0 v1 v2 v3 v0 v2 v3 (1 : Int32) h
set_option maxRecDepth 100000 in
set_option maxHeartbeats 4000000 in
theorem g_X9_residues_b43 {w : mWp} {Q : Option Value → mH → Prop} (v0 : Option Nat) (v1 : Int32) (v2 : Int32) (v3 : Int32) (h : mH) {res : (Int32 × mH) ⊕ ((Int32 × mH) ⊕ (Int32 × mH))} (e : f_X9_residues_b43 v0 v1 v2 v3 h = some res) (q : (Sum.elim (fun x : Int32 × mH => mGo w kX9_residues 0 0 43 [some (va_rf v0), some (.int v1), some (.int v2), some (.int x.1)] [] x.2 Q) (Sum.elim (fun x : Int32 × mH => mGo w kX9_residues 0 0 29 [some (va_rf v0), some (.int v1), some (.int x.1), none] [] x.2 Q) (fun r : Int32 × mH => Q (some (.int r.1)) r.2))) res) : mGo w kX9_residues 0 0 43 [some (va_rf v0), some (.int v1), some (.int v2), some (.int v3)] [] h Q := by
  unfold f_X9_residues_b43 at e
  refine mGo.iload_n (n := 44) (x := v3) dX9_residues_43 rfl rfl ?_
  refine mGo.iload_n (n := 45) (x := v1) dX9_residues_44 rfl rfl ?_
  refine mGo.icmp_gt (tgt := 88) (n := 48) dX9_residues_45 (by decide) rfl (fun hc => ?_) (fun hc => ?_)
  · replace e := mIft hc e
    refine mGo.iinc (n := 91) (x := v2) (v := (v2 + 1)) (ls' := [some (va_rf v0), some (.int v1), some (.int (v2 + 1)), some (.int v3)]) dX9_residues_88 rfl rfl rfl (Nat.le_of_ble_eq_true rfl) rfl ?_
    refine mGo.goto (tgt := 29) dX9_residues_91 (by decide) ?_
    cases e
    refine mGo.mk [true, true, true, false] ?_
    exact q
  · replace e := mIff hc e
    refine mGo.iload_n (n := 49) (x := v3) dX9_residues_48 rfl rfl ?_
    refine mGo.iload_n (n := 50) (x := v2) dX9_residues_49 rfl rfl ?_
    refine mGo.icmp_eq (tgt := 82) (n := 53) dX9_residues_50 (by decide) rfl (fun hc => ?_) (fun hc => ?_)
    · replace e := mIft hc e
      refine mGo.iinc (n := 85) (x := v3) (v := (v3 + 1)) (ls' := [some (va_rf v0), some (.int v1), some (.int v2), some (.int (v3 + 1))]) dX9_residues_82 rfl rfl rfl (Nat.le_of_ble_eq_true rfl) rfl ?_
      refine mGo.goto (tgt := 43) dX9_residues_85 (by decide) ?_
      cases e
      refine mGo.mk [true, true, true, true] ?_
      exact q
    · replace e := mIff hc e
      refine mGo.aload_n (n := 54) (r := v0) dX9_residues_53 rfl rfl ?_
      refine mGo.iload_n (n := 55) (x := v2) dX9_residues_54 rfl rfl ?_
      refine mGo.iload_n (n := 56) (x := v3) dX9_residues_55 rfl rfl ?_
      refine mGo.iload_n (n := 57) (x := v1) dX9_residues_56 rfl rfl ?_
      refine mGo.iload_n (n := 58) (x := v1) dX9_residues_57 rfl rfl ?_
      refine mGo.iload_n (n := 59) (x := v3) dX9_residues_58 rfl rfl ?_
      refine mGo.iconst (n := 60) (v := (1 : Int32)) dX9_residues_59 (by decide) rfl ?_
      refine mGo.isub (n := 61) dX9_residues_60 rfl ?_
      refine mGo.iload_n (n := 62) (x := v2) dX9_residues_61 rfl rfl ?_
      refine mGo.iconst (n := 63) (v := (1 : Int32)) dX9_residues_62 (by decide) rfl ?_
      refine mGo.isub (n := 64) dX9_residues_63 rfl ?_
      refine mGo.iconst (n := 65) (v := (-1 : Int32)) dX9_residues_64 (by decide) rfl ?_
      obtain ⟨x1, e_x1, e⟩ := mBind e
      refine mGo.callS (n := 68) (y := zX9_summed) (R' := (mRoom (2) 0 0)) (as := [.int v1, .int (v3 - (1 : Int32)), .int (v2 - (1 : Int32)), .int (-1 : Int32)]) (st := [.int v1, .int v3, .int v2, va_rf v0]) dX9_residues_65 sc_RX9_146 rfl (e_X9_summed v1 (v3 - (1 : Int32)) (v2 - (1 : Int32)) (-1 : Int32) h e_x1) (mFit_of rfl (Nat.le_of_ble_eq_true rfl) (by decide) (Nat.le_of_ble_eq_true rfl) (Nat.le_of_ble_eq_true rfl)) (mCat8 (Nat.le_of_ble_eq_true rfl)) rfl rfl ?_
      intro _ _ hq
      rw [hq.1, hq.2]
      show mGo w kX9_residues 0 0 68 [some (va_rf v0), some (.int v1), some (.int v2), some (.int v3)] [.int x1, .int v1, .int v3, .int v2, va_rf v0] h Q
      obtain ⟨x2, e_x2, e⟩ := mBind e
      refine mGo.callS (n := 71) (y := zX9_chi) (R' := (mRoom (4) 0 0)) (as := [.int v1, .int x1]) (st := [.int v3, .int v2, va_rf v0]) dX9_residues_68 sc_RX9_154 rfl (e_X9_chi v1 x1 h e_x2) (mFit_of rfl (Nat.le_of_ble_eq_true rfl) (by decide) (Nat.le_of_ble_eq_true rfl) (Nat.le_of_ble_eq_true rfl)) (mCat8 (Nat.le_of_ble_eq_true rfl)) rfl rfl ?_
      intro _ _ hq
      rw [hq.1, hq.2]
      show mGo w kX9_residues 0 0 71 [some (va_rf v0), some (.int v1), some (.int v2), some (.int v3)] [.int x2, .int v3, .int v2, va_rf v0] h Q
      refine mGo.if_ge (tgt := 78) (n := 74) dX9_residues_71 (by decide) rfl (fun hc => ?_) (fun hc => ?_)
      · replace e := mIft hc e
        refine mGo.iconst (n := 79) (v := (0 : Int32)) dX9_residues_78 (by decide) rfl ?_
        refine mGo.mk [true, true, true, true] ?_
        exact g_X9_residues_c79 v0 v1 v2 v3 v0 v2 v3 (0 : Int32) h e q
      · replace e := mIff hc e
        refine mGo.iconst (n := 75) (v := (1 : Int32)) dX9_residues_74 (by decide) rfl ?_
        refine mGo.goto (tgt := 79) dX9_residues_75 (by decide) ?_
        refine mGo.mk [true, true, true, true] ?_
        exact g_X9_residues_c79 v0 v1 v2 v3 v0 v2 v3 (1 : Int32) h e q
noncomputable def f_X9_residues_l43 (v0 : Option Nat) (v1 : Int32) (v2 : Int32) (v3 : Int32) (h : mH) : Option ((Int32 × mH) ⊕ (Int32 × mH)) :=
  mLoop (fun x : Int32 × mH => f_X9_residues_b43 v0 v1 v2 x.1 x.2) (v3, h)
set_option maxRecDepth 100000 in
set_option maxHeartbeats 4000000 in
theorem g_X9_residues_l43 {w : mWp} {Q : Option Value → mH → Prop} (v0 : Option Nat) (v1 : Int32) (v2 : Int32) (v3 : Int32) (h : mH) {res : (Int32 × mH) ⊕ (Int32 × mH)} (e : f_X9_residues_l43 v0 v1 v2 v3 h = some res) (q : (Sum.elim (fun x : Int32 × mH => mGo w kX9_residues 0 0 29 [some (va_rf v0), some (.int v1), some (.int x.1), none] [] x.2 Q) (fun r : Int32 × mH => Q (some (.int r.1)) r.2)) res) : mGo w kX9_residues 0 0 43 [some (va_rf v0), some (.int v1), some (.int v2), some (.int v3)] [] h Q := by
  unfold f_X9_residues_l43 at e
  refine mLoop_go (x := (v3, h)) (fun x : Int32 × mH => mGo w kX9_residues 0 0 43 [some (va_rf v0), some (.int v1), some (.int v2), some (.int x.1)] [] x.2 Q) (Sum.elim (fun x : Int32 × mH => mGo w kX9_residues 0 0 29 [some (va_rf v0), some (.int v1), some (.int x.1), none] [] x.2 Q) (fun r : Int32 × mH => Q (some (.int r.1)) r.2)) ?_ e q
  rintro ⟨v3, h1⟩ res e q
  exact g_X9_residues_b43 v0 v1 v2 v3 h1 e q
noncomputable def f_X9_residues_b29 (v0 : Option Nat) (v1 : Int32) (v2 : Int32) (h : mH) : Option ((Int32 × mH) ⊕ (Int32 × mH)) :=
  if v1 < v2 then
    (f_X9_comes v0 (v1 + (1 : Int32)) h).bind fun x1 =>
    some (Sum.inr (x1.1, x1.2))
  else
    (f_X9_lays v0 v2 (0 : Int32) (1 : Int32) h).bind fun x2 =>
    f_X9_residues_l43 v0 v1 v2 (1 : Int32) x2
set_option maxRecDepth 100000 in
set_option maxHeartbeats 4000000 in
theorem g_X9_residues_b29 {w : mWp} {Q : Option Value → mH → Prop} (v0 : Option Nat) (v1 : Int32) (v2 : Int32) (h : mH) {res : (Int32 × mH) ⊕ (Int32 × mH)} (e : f_X9_residues_b29 v0 v1 v2 h = some res) (q : (Sum.elim (fun x : Int32 × mH => mGo w kX9_residues 0 0 29 [some (va_rf v0), some (.int v1), some (.int x.1), none] [] x.2 Q) (fun r : Int32 × mH => Q (some (.int r.1)) r.2)) res) : mGo w kX9_residues 0 0 29 [some (va_rf v0), some (.int v1), some (.int v2), none] [] h Q := by
  unfold f_X9_residues_b29 at e
  refine mGo.iload_n (n := 30) (x := v2) dX9_residues_29 rfl rfl ?_
  refine mGo.iload_n (n := 31) (x := v1) dX9_residues_30 rfl rfl ?_
  refine mGo.icmp_gt (tgt := 94) (n := 34) dX9_residues_31 (by decide) rfl (fun hc => ?_) (fun hc => ?_)
  · replace e := mIft hc e
    refine mGo.aload_n (n := 95) (r := v0) dX9_residues_94 rfl rfl ?_
    refine mGo.iload_n (n := 96) (x := v1) dX9_residues_95 rfl rfl ?_
    refine mGo.iconst (n := 97) (v := (1 : Int32)) dX9_residues_96 (by decide) rfl ?_
    refine mGo.iadd (n := 98) dX9_residues_97 rfl ?_
    obtain ⟨x1, e_x1, e⟩ := mBind e
    refine mGo.callV (n := 101) (y := zX9_comes) (R' := (mRoom (2) 0 0)) (as := [.int (v1 + (1 : Int32))]) (st := []) (r0 := v0) dX9_residues_98 sc_RX9_126 rfl (s_X9_comes v0 (v1 + (1 : Int32)) h e_x1) (e_X9_comes v0 (v1 + (1 : Int32)) h e_x1) (mFit_of rfl (Nat.le_of_ble_eq_true rfl) (by decide) (Nat.le_of_ble_eq_true rfl) (Nat.le_of_ble_eq_true rfl)) (Nat.le_of_ble_eq_true rfl) rfl rfl ?_
    intro _ _ hq
    rw [hq.1, hq.2]
    show mGo w kX9_residues 0 0 101 [some (va_rf v0), some (.int v1), some (.int v2), none] [.int x1.1] x1.2 Q
    cases e
    exact mGo.iret dX9_residues_101 rfl (Nat.le_of_ble_eq_true rfl) (Nat.le_of_ble_eq_true rfl) q
  · replace e := mIff hc e
    refine mGo.aload_n (n := 35) (r := v0) dX9_residues_34 rfl rfl ?_
    refine mGo.iload_n (n := 36) (x := v2) dX9_residues_35 rfl rfl ?_
    refine mGo.iconst (n := 37) (v := (0 : Int32)) dX9_residues_36 (by decide) rfl ?_
    refine mGo.iconst (n := 38) (v := (1 : Int32)) dX9_residues_37 (by decide) rfl ?_
    obtain ⟨x2, e_x2, e⟩ := mBind e
    refine mGo.callV (n := 41) (y := zX9_lays) (R' := (mRoom (1) 0 0)) (as := [.int v2, .int (0 : Int32), .int (1 : Int32)]) (st := []) (r0 := v0) dX9_residues_38 sc_RX9_150 rfl (s_X9_lays v0 v2 (0 : Int32) (1 : Int32) h e_x2) (e_X9_lays v0 v2 (0 : Int32) (1 : Int32) h e_x2) (mFit_of rfl (Nat.le_of_ble_eq_true rfl) (by decide) (Nat.le_of_ble_eq_true rfl) (Nat.le_of_ble_eq_true rfl)) (Nat.le_of_ble_eq_true rfl) rfl rfl ?_
    intro _ _ hq
    rw [hq.1, hq.2]
    show mGo w kX9_residues 0 0 41 [some (va_rf v0), some (.int v1), some (.int v2), none] [] x2 Q
    refine mGo.iconst (n := 42) (v := (1 : Int32)) dX9_residues_41 (by decide) rfl ?_
    refine mGo.istore_n (n := 43) (ls' := [some (va_rf v0), some (.int v1), some (.int v2), some (.int (1 : Int32))]) dX9_residues_42 rfl (Nat.le_of_ble_eq_true rfl) rfl ?_
    refine mGo.mk [true, true, true, true] ?_
    exact g_X9_residues_l43 v0 v1 v2 (1 : Int32) x2 e q
noncomputable def f_X9_residues_l29 (v0 : Option Nat) (v1 : Int32) (v2 : Int32) (h : mH) : Option (Int32 × mH) :=
  mLoop (fun x : Int32 × mH => f_X9_residues_b29 v0 v1 x.1 x.2) (v2, h)
set_option maxRecDepth 100000 in
set_option maxHeartbeats 4000000 in
theorem g_X9_residues_l29 {w : mWp} {Q : Option Value → mH → Prop} (v0 : Option Nat) (v1 : Int32) (v2 : Int32) (h : mH) {res : Int32 × mH} (e : f_X9_residues_l29 v0 v1 v2 h = some res) (q : (fun r : Int32 × mH => Q (some (.int r.1)) r.2) res) : mGo w kX9_residues 0 0 29 [some (va_rf v0), some (.int v1), some (.int v2), none] [] h Q := by
  unfold f_X9_residues_l29 at e
  refine mLoop_go (x := (v2, h)) (fun x : Int32 × mH => mGo w kX9_residues 0 0 29 [some (va_rf v0), some (.int v1), some (.int x.1), none] [] x.2 Q) (fun r : Int32 × mH => Q (some (.int r.1)) r.2) ?_ e q
  rintro ⟨v2, h1⟩ res e q
  exact g_X9_residues_b29 v0 v1 v2 h1 e q
noncomputable def f_X9_residues (v0 : Option Nat) (v1 : Int32) (h : mH) : Option (Int32 × mH) :=
  (mIs h v0 8).bind fun _ =>
  (f_X9_isField v1).bind fun x1 =>
  if x1 = 0 then
    some ((-1 : Int32), h)
  else
    if (mRem v1 (4 : Int32)) = (3 : Int32) then
      (f_X9_isFull v0 h).bind fun x2 =>
      if x2 = 0 then
        (f_X9_clearsMade v0 h).bind fun x3 =>
        f_X9_residues_l29 v0 v1 (1 : Int32) x3
      else
        some ((-1 : Int32), h)
    else
      some ((-1 : Int32), h)
set_option maxRecDepth 100000 in
set_option maxHeartbeats 4000000 in
theorem g_X9_residues {w : mWp} {Q : Option Value → mH → Prop} (v0 : Option Nat) (v1 : Int32) (h : mH) {res : Int32 × mH} (e : f_X9_residues v0 v1 h = some res) (q : (fun r : Int32 × mH => Q (some (.int r.1)) r.2) res) : mGo w kX9_residues 0 0 0 [some (va_rf v0), some (.int v1), none, none] [] h Q := by
  unfold f_X9_residues at e
  obtain ⟨_, _, e⟩ := mBind e
  refine mGo.iload_n (n := 1) (x := v1) dX9_residues_0 rfl rfl ?_
  obtain ⟨x1, e_x1, e⟩ := mBind e
  refine mGo.callS (n := 4) (y := zX9_isField) (R' := (mRoom (2) 0 0)) (as := [.int v1]) (st := []) dX9_residues_1 sc_RX9_143 rfl (e_X9_isField v1 h e_x1) (mFit_of rfl (Nat.le_of_ble_eq_true rfl) (by decide) (Nat.le_of_ble_eq_true rfl) (Nat.le_of_ble_eq_true rfl)) (Nat.le_of_ble_eq_true rfl) rfl rfl ?_
  intro _ _ hq
  rw [hq.1, hq.2]
  show mGo w kX9_residues 0 0 4 [some (va_rf v0), some (.int v1), none, none] [.int x1] h Q
  refine mGo.if_eq (tgt := 21) (n := 7) dX9_residues_4 (by decide) rfl (fun hc => ?_) (fun hc => ?_)
  · replace e := mIft hc e
    refine mGo.iconst (n := 22) (v := (-1 : Int32)) dX9_residues_21 (by decide) rfl ?_
    cases e
    exact mGo.iret dX9_residues_22 rfl (Nat.le_of_ble_eq_true rfl) (Nat.le_of_ble_eq_true rfl) q
  · replace e := mIff hc e
    refine mGo.iload_n (n := 8) (x := v1) dX9_residues_7 rfl rfl ?_
    refine mGo.iconst (n := 9) (v := (4 : Int32)) dX9_residues_8 (by decide) rfl ?_
    refine mGo.irem (n := 10) dX9_residues_9 (by decide) rfl ?_
    refine mGo.iconst (n := 11) (v := (3 : Int32)) dX9_residues_10 (by decide) rfl ?_
    refine mGo.icmp_ne (tgt := 21) (n := 14) dX9_residues_11 (by decide) rfl (fun hc => ?_) (fun hc => ?_)
    · replace e := mIff hc e
      refine mGo.iconst (n := 22) (v := (-1 : Int32)) dX9_residues_21 (by decide) rfl ?_
      cases e
      exact mGo.iret dX9_residues_22 rfl (Nat.le_of_ble_eq_true rfl) (Nat.le_of_ble_eq_true rfl) q
    · replace e := mIft hc e
      refine mGo.aload_n (n := 15) (r := v0) dX9_residues_14 rfl rfl ?_
      obtain ⟨x2, e_x2, e⟩ := mBind e
      refine mGo.callV (n := 18) (y := zX9_isFull) (R' := (mRoom (2) 0 0)) (as := []) (st := []) (r0 := v0) dX9_residues_15 sc_RX9_116 rfl (s_X9_isFull v0 h e_x2) (e_X9_isFull v0 h e_x2) (mFit_of rfl (Nat.le_of_ble_eq_true rfl) (by decide) (Nat.le_of_ble_eq_true rfl) (Nat.le_of_ble_eq_true rfl)) (Nat.le_of_ble_eq_true rfl) rfl rfl ?_
      intro _ _ hq
      rw [hq.1, hq.2]
      show mGo w kX9_residues 0 0 18 [some (va_rf v0), some (.int v1), none, none] [.int x2] h Q
      refine mGo.if_eq (tgt := 23) (n := 21) dX9_residues_18 (by decide) rfl (fun hc => ?_) (fun hc => ?_)
      · replace e := mIft hc e
        refine mGo.aload_n (n := 24) (r := v0) dX9_residues_23 rfl rfl ?_
        obtain ⟨x3, e_x3, e⟩ := mBind e
        refine mGo.callV (n := 27) (y := zX9_clearsMade) (R' := (mRoom (1) 0 0)) (as := []) (st := []) (r0 := v0) dX9_residues_24 sc_RX9_123 rfl (s_X9_clearsMade v0 h e_x3) (e_X9_clearsMade v0 h e_x3) (mFit_of rfl (Nat.le_of_ble_eq_true rfl) (by decide) (Nat.le_of_ble_eq_true rfl) (Nat.le_of_ble_eq_true rfl)) (Nat.le_of_ble_eq_true rfl) rfl rfl ?_
        intro _ _ hq
        rw [hq.1, hq.2]
        show mGo w kX9_residues 0 0 27 [some (va_rf v0), some (.int v1), none, none] [] x3 Q
        refine mGo.iconst (n := 28) (v := (1 : Int32)) dX9_residues_27 (by decide) rfl ?_
        refine mGo.istore_n (n := 29) (ls' := [some (va_rf v0), some (.int v1), some (.int (1 : Int32)), none]) dX9_residues_28 rfl (Nat.le_of_ble_eq_true rfl) rfl ?_
        refine mGo.mk [true, true, true, false] ?_
        exact g_X9_residues_l29 v0 v1 (1 : Int32) x3 e q
      · replace e := mIff hc e
        refine mGo.iconst (n := 22) (v := (-1 : Int32)) dX9_residues_21 (by decide) rfl ?_
        cases e
        exact mGo.iret dX9_residues_22 rfl (Nat.le_of_ble_eq_true rfl) (Nat.le_of_ble_eq_true rfl) q
theorem e_X9_residues {w : mWp} (v0 : Option Nat) (v1 : Int32) (h : mH) {res : Int32 × mH} (e : f_X9_residues v0 v1 h = some res) : mEx w zX9_residues (mRoom 5 0 0) [va_rf v0, .int v1] h (fun r h2 => r = some (.int res.1) ∧ h2 = res.2) := by
  refine mEx.of (by decide +kernel) (show mEnt [va_rf v0, .int v1] 4 = [some (va_rf v0), some (.int v1), none, none] by rw [mEnt_r, mEnt_i] <;> rfl) (by simp only [List.map_cons, List.map_nil, mRfc, mCi, mCj, List.sum_cons, List.sum_nil]; exact Nat.le_of_ble_eq_true rfl) ?_
  refine g_X9_residues v0 v1 h e ?_
  exact ⟨rfl, rfl⟩
theorem s_X9_residues (v0 : Option Nat) (v1 : Int32) (h : mH) {res : Int32 × mH} (e : f_X9_residues v0 v1 h = some res) : mIs h v0 8 = some () := by
  unfold f_X9_residues at e
  obtain ⟨u, e1, _⟩ := mBind e
  cases u
  exact e1
