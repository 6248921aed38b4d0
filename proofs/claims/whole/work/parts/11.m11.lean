-- X9_isUsed
def kX9_isUsed : mK := (cX9_isUsed, RX9, 3, some (.boolean), "isUsed", mRoom 1 0 0)
def zX9_isUsed : mY := (yX9_isUsed, cX9_isUsed, 3, some (.boolean))
def f_X9_isUsed_b2 (v0 : Option Nat) (v1 : Int32) (v2 : Int32) (h : mH) : Option ((Int32) ⊕ (Int32)) :=
  if v1 ≤ v2 then
    some (Sum.inr (0 : Int32))
  else
    (mGR h v0 8 19).bind fun x1 =>
    (mAI h x1 v2).bind fun x2 =>
    (mGR h v0 8 19).bind fun x3 =>
    (mAI h x3 v1).bind fun x4 =>
    if (x2 / (2 : Int32)) = (x4 / (2 : Int32)) then
      some (Sum.inr (1 : Int32))
    else
      some (Sum.inl (v2 + 1))
set_option maxRecDepth 100000 in
set_option maxHeartbeats 4000000 in
theorem g_X9_isUsed_b2 {w : mWp} {Q : Option Value → mH → Prop} (v0 : Option Nat) (v1 : Int32) (v2 : Int32) (h : mH) {res : (Int32) ⊕ (Int32)} (e : f_X9_isUsed_b2 v0 v1 v2 h = some res) (q : (Sum.elim (fun x : Int32 => mGo w kX9_isUsed 0 0 2 [some (va_rf v0), some (.int v1), some (.int x)] [] h Q) (fun r : Int32 => Q (some (.int r)) h)) res) : mGo w kX9_isUsed 0 0 2 [some (va_rf v0), some (.int v1), some (.int v2)] [] h Q := by
  unfold f_X9_isUsed_b2 at e
  refine mGo.iload_n (n := 3) (x := v2) dX9_isUsed_2 rfl rfl ?_
  refine mGo.iload_n (n := 4) (x := v1) dX9_isUsed_3 rfl rfl ?_
  refine mGo.icmp_ge (tgt := 34) (n := 7) dX9_isUsed_4 (by decide) rfl (fun hc => ?_) (fun hc => ?_)
  · replace e := mIft hc e
    refine mGo.iconst (n := 35) (v := (0 : Int32)) dX9_isUsed_34 (by decide) rfl ?_
    cases e
    exact mGo.zret dX9_isUsed_35 rfl (by decide) (Nat.le_of_ble_eq_true rfl) (Nat.le_of_ble_eq_true rfl) q
  · replace e := mIff hc e
    refine mGo.aload_n (n := 8) (r := v0) dX9_isUsed_7 rfl rfl ?_
    obtain ⟨x1, e_x1, e⟩ := mBind e
    refine mGo.getR (n := 11) dX9_isUsed_8 sf_RX9_60 e_x1 rfl ?_
    refine mGo.iload_n (n := 12) (x := v2) dX9_isUsed_11 rfl rfl ?_
    obtain ⟨x2, e_x2, e⟩ := mBind e
    refine mGo.iald (n := 13) dX9_isUsed_12 e_x2 rfl ?_
    refine mGo.iconst (n := 14) (v := (2 : Int32)) dX9_isUsed_13 (by decide) rfl ?_
    refine mGo.idiv (n := 15) dX9_isUsed_14 (by decide) rfl ?_
    refine mGo.aload_n (n := 16) (r := v0) dX9_isUsed_15 rfl rfl ?_
    obtain ⟨x3, e_x3, e⟩ := mBind e
    refine mGo.getR (n := 19) dX9_isUsed_16 sf_RX9_60 e_x3 rfl ?_
    refine mGo.iload_n (n := 20) (x := v1) dX9_isUsed_19 rfl rfl ?_
    obtain ⟨x4, e_x4, e⟩ := mBind e
    refine mGo.iald (n := 21) dX9_isUsed_20 e_x4 rfl ?_
    refine mGo.iconst (n := 22) (v := (2 : Int32)) dX9_isUsed_21 (by decide) rfl ?_
    refine mGo.idiv (n := 23) dX9_isUsed_22 (by decide) rfl ?_
    refine mGo.icmp_ne (tgt := 28) (n := 26) dX9_isUsed_23 (by decide) rfl (fun hc => ?_) (fun hc => ?_)
    · replace e := mIff hc e
      refine mGo.iinc (n := 31) (x := v2) (v := (v2 + 1)) (ls' := [some (va_rf v0), some (.int v1), some (.int (v2 + 1))]) dX9_isUsed_28 rfl rfl rfl (Nat.le_of_ble_eq_true rfl) rfl ?_
      refine mGo.goto (tgt := 2) dX9_isUsed_31 (by decide) ?_
      cases e
      refine mGo.mk [true, true, true] ?_
      exact q
    · replace e := mIft hc e
      refine mGo.iconst (n := 27) (v := (1 : Int32)) dX9_isUsed_26 (by decide) rfl ?_
      cases e
      exact mGo.zret dX9_isUsed_27 rfl (by decide) (Nat.le_of_ble_eq_true rfl) (Nat.le_of_ble_eq_true rfl) q
noncomputable def f_X9_isUsed_l2 (v0 : Option Nat) (v1 : Int32) (v2 : Int32) (h : mH) : Option (Int32) :=
  mLoop (fun x : Int32 => f_X9_isUsed_b2 v0 v1 x h) (v2)
set_option maxRecDepth 100000 in
set_option maxHeartbeats 4000000 in
theorem g_X9_isUsed_l2 {w : mWp} {Q : Option Value → mH → Prop} (v0 : Option Nat) (v1 : Int32) (v2 : Int32) (h : mH) {res : Int32} (e : f_X9_isUsed_l2 v0 v1 v2 h = some res) (q : (fun r : Int32 => Q (some (.int r)) h) res) : mGo w kX9_isUsed 0 0 2 [some (va_rf v0), some (.int v1), some (.int v2)] [] h Q := by
  unfold f_X9_isUsed_l2 at e
  refine mLoop_go (x := (v2)) (fun x : Int32 => mGo w kX9_isUsed 0 0 2 [some (va_rf v0), some (.int v1), some (.int x)] [] h Q) (fun r : Int32 => Q (some (.int r)) h) ?_ e q
  rintro v2 res e q
  exact g_X9_isUsed_b2 v0 v1 v2 h e q
noncomputable def f_X9_isUsed (v0 : Option Nat) (v1 : Int32) (h : mH) : Option (Int32) :=
  (mIs h v0 8).bind fun _ =>
  f_X9_isUsed_l2 v0 v1 (0 : Int32) h
set_option maxRecDepth 100000 in
set_option maxHeartbeats 4000000 in
theorem g_X9_isUsed {w : mWp} {Q : Option Value → mH → Prop} (v0 : Option Nat) (v1 : Int32) (h : mH) {res : Int32} (e : f_X9_isUsed v0 v1 h = some res) (q : (fun r : Int32 => Q (some (.int r)) h) res) : mGo w kX9_isUsed 0 0 0 [some (va_rf v0), some (.int v1), none] [] h Q := by
  unfold f_X9_isUsed at e
  obtain ⟨_, _, e⟩ := mBind e
  refine mGo.iconst (n := 1) (v := (0 : Int32)) dX9_isUsed_0 (by decide) rfl ?_
  refine mGo.istore_n (n := 2) (ls' := [some (va_rf v0), some (.int v1), some (.int (0 : Int32))]) dX9_isUsed_1 rfl (Nat.le_of_ble_eq_true rfl) rfl ?_
  refine mGo.mk [true, true, true] ?_
  exact g_X9_isUsed_l2 v0 v1 (0 : Int32) h e q
theorem e_X9_isUsed {w : mWp} (v0 : Option Nat) (v1 : Int32) (h : mH) {res : Int32} (e : f_X9_isUsed v0 v1 h = some res) : mEx w zX9_isUsed (mRoom 1 0 0) [va_rf v0, .int v1] h (fun r h2 => r = some (.int res) ∧ h2 = h) := by
  refine mEx.of (by decide +kernel) (show mEnt [va_rf v0, .int v1] 3 = [some (va_rf v0), some (.int v1), none] by rw [mEnt_r, mEnt_i] <;> rfl) (by simp only [List.map_cons, List.map_nil, mRfc, mCi, mCj, List.sum_cons, List.sum_nil]; exact Nat.le_of_ble_eq_true rfl) ?_
  refine g_X9_isUsed v0 v1 h e ?_
  exact ⟨rfl, rfl⟩
theorem s_X9_isUsed (v0 : Option Nat) (v1 : Int32) (h : mH) {res : Int32} (e : f_X9_isUsed v0 v1 h = some res) : mIs h v0 8 = some () := by
  unfold f_X9_isUsed at e
  obtain ⟨u, e1, _⟩ := mBind e
  cases u
  exact e1
-- X9_plain
def kX9_plain : mK := (cX9_plain, RX9, 3, some (.int), "plain", mRoom 1 0 0)
def zX9_plain : mY := (yX9_plain, cX9_plain, 3, some (.int))
def f_X9_plain (v0 : Int32) (v1 : Int32)  : Option (Int32) :=
  if (v0 ^^^ (((1 : Int32) <<< (v1 &&& 31)) - (1 : Int32))) ≤ v0 then
    some (v0 ^^^ (((1 : Int32) <<< (v1 &&& 31)) - (1 : Int32)))
  else
    some v0
set_option maxRecDepth 100000 in
set_option maxHeartbeats 4000000 in
theorem g_X9_plain {w : mWp} {Q : Option Value → mH → Prop} (v0 : Int32) (v1 : Int32) (h : mH) {res : Int32} (e : f_X9_plain v0 v1 = some res) (q : (fun r : Int32 => Q (some (.int r)) h) res) : mGo w kX9_plain 0 0 0 [some (.int v0), some (.int v1), none] [] h Q := by
  unfold f_X9_plain at e
  refine mGo.iload_n (n := 1) (x := v0) dX9_plain_0 rfl rfl ?_
  refine mGo.iconst (n := 2) (v := (1 : Int32)) dX9_plain_1 (by decide) rfl ?_
  refine mGo.iload_n (n := 3) (x := v1) dX9_plain_2 rfl rfl ?_
  refine mGo.ishl (n := 4) dX9_plain_3 rfl ?_
  refine mGo.iconst (n := 5) (v := (1 : Int32)) dX9_plain_4 (by decide) rfl ?_
  refine mGo.isub (n := 6) dX9_plain_5 rfl ?_
  refine mGo.ixor (n := 7) dX9_plain_6 rfl ?_
  refine mGo.istore_n (n := 8) (ls' := [some (.int v0), some (.int v1), some (.int (v0 ^^^ (((1 : Int32) <<< (v1 &&& 31)) - (1 : Int32))))]) dX9_plain_7 rfl (Nat.le_of_ble_eq_true rfl) rfl ?_
  refine mGo.iload_n (n := 9) (x := v0) dX9_plain_8 rfl rfl ?_
  refine mGo.iload_n (n := 10) (x := (v0 ^^^ (((1 : Int32) <<< (v1 &&& 31)) - (1 : Int32)))) dX9_plain_9 rfl rfl ?_
  refine mGo.icmp_ge (tgt := 17) (n := 13) dX9_plain_10 (by decide) rfl (fun hc => ?_) (fun hc => ?_)
  · replace e := mIft hc e
    refine mGo.iload_n (n := 18) (x := (v0 ^^^ (((1 : Int32) <<< (v1 &&& 31)) - (1 : Int32)))) dX9_plain_17 rfl rfl ?_
    cases e
    exact mGo.iret dX9_plain_18 rfl (Nat.le_of_ble_eq_true rfl) (Nat.le_of_ble_eq_true rfl) q
  · replace e := mIff hc e
    refine mGo.iload_n (n := 14) (x := v0) dX9_plain_13 rfl rfl ?_
    refine mGo.goto (tgt := 18) dX9_plain_14 (by decide) ?_
    cases e
    exact mGo.iret dX9_plain_18 rfl (Nat.le_of_ble_eq_true rfl) (Nat.le_of_ble_eq_true rfl) q
theorem e_X9_plain {w : mWp} (v0 : Int32) (v1 : Int32) (h : mH) {res : Int32} (e : f_X9_plain v0 v1 = some res) : mEx w zX9_plain (mRoom 1 0 0) [.int v0, .int v1] h (fun r h2 => r = some (.int res) ∧ h2 = h) := by
  refine mEx.of (by decide +kernel) rfl (Nat.le_of_ble_eq_true rfl) ?_
  refine g_X9_plain v0 v1 h e ?_
  exact ⟨rfl, rfl⟩
-- X9_agrees
def kX9_agrees : mK := (cX9_agrees, RX9, 9, some (.boolean), "agrees", mRoom 3 0 0)
def zX9_agrees : mY := (yX9_agrees, cX9_agrees, 9, some (.boolean))
set_option maxRecDepth 100000 in
theorem sc_RX9_235 : mSS RX9 235 zX9_plain 2 := ⟨Or.inl (mT_at 1170 (by decide +kernel) rfl), mT_at 1171 (by decide +kernel) rfl, mT_at 91 (by decide +kernel) rfl, mT_at 1172 (by decide +kernel) rfl, ⟨by decide +kernel, by decide +kernel, by decide +kernel⟩⟩
def f_X9_agrees_c219 (v0 : Option Nat) (v3 : Int32) (v4 : Int32) (v5 : Int32) (v6 : Int32) (v7 : Int32) (v8 : Int32) (h : mH) : Option ((Int32 × Int32) ⊕ ((Int32) ⊕ (Int32 × mH))) :=
  (mGR h v0 8 22).bind fun x1 =>
  (mAI h x1 (((12 : Int32) * (v3 + (1 : Int32))) + v8)).bind fun x2 =>
  (f_X9_plain x2 (v3 + (1 : Int32))).bind fun x3 =>
  if x3 = v6 then
    some (Sum.inl ((v7 + (-1)), (v8 + 1)))
  else
    some (Sum.inl (v7, (v8 + 1)))
set_option maxRecDepth 100000 in
set_option maxHeartbeats 4000000 in
theorem g_X9_agrees_c219 {w : mWp} {Q : Option Value → mH → Prop} (v0 : Option Nat) (v3 : Int32) (v4 : Int32) (v5 : Int32) (v6 : Int32) (v7 : Int32) (v8 : Int32) (h : mH) {res : (Int32 × Int32) ⊕ ((Int32) ⊕ (Int32 × mH))} (e : f_X9_agrees_c219 v0 v3 v4 v5 v6 v7 v8 h = some res) (q : (Sum.elim (fun x : Int32 × Int32 => mGo w kX9_agrees 0 0 184 [some (va_rf v0), none, none, some (.int v3), some (.int v4), some (.int v5), some (.int v6), some (.int x.1), some (.int x.2)] [] h Q) (Sum.elim (fun x : Int32 => mGo w kX9_agrees 0 0 149 [some (va_rf v0), none, none, some (.int v3), some (.int v4), some (.int x), none, none, none] [] h Q) (fun r : Int32 × mH => Q (some (.int r.1)) r.2))) res) : mGo w kX9_agrees 0 0 219 [some (va_rf v0), none, none, some (.int v3), some (.int v4), some (.int v5), some (.int v6), some (.int v7), some (.int v8)] [] h Q := by
  unfold f_X9_agrees_c219 at e
  refine mGo.aload_n (n := 220) (r := v0) dX9_agrees_219 rfl rfl ?_
  obtain ⟨x1, e_x1, e⟩ := mBind e
  refine mGo.getR (n := 223) dX9_agrees_220 sf_RX9_69 e_x1 rfl ?_
  refine mGo.bipush (n := 225) (v := (12 : Int32)) dX9_agrees_223 (by decide) rfl ?_
  refine mGo.iload_n (n := 226) (x := v3) dX9_agrees_225 rfl rfl ?_
  refine mGo.iconst (n := 227) (v := (1 : Int32)) dX9_agrees_226 (by decide) rfl ?_
  refine mGo.iadd (n := 228) dX9_agrees_227 rfl ?_
  refine mGo.imul (n := 229) dX9_agrees_228 rfl ?_
  refine mGo.iload (n := 231) (x := v8) dX9_agrees_229 rfl rfl ?_
  refine mGo.iadd (n := 232) dX9_agrees_231 rfl ?_
  obtain ⟨x2, e_x2, e⟩ := mBind e
  refine mGo.iald (n := 233) dX9_agrees_232 e_x2 rfl ?_
  refine mGo.iload_n (n := 234) (x := v3) dX9_agrees_233 rfl rfl ?_
  refine mGo.iconst (n := 235) (v := (1 : Int32)) dX9_agrees_234 (by decide) rfl ?_
  refine mGo.iadd (n := 236) dX9_agrees_235 rfl ?_
  obtain ⟨x3, e_x3, e⟩ := mBind e
  refine mGo.callS (n := 239) (y := zX9_plain) (R' := (mRoom (1) 0 0)) (as := [.int x2, .int (v3 + (1 : Int32))]) (st := []) dX9_agrees_236 sc_RX9_235 rfl (e_X9_plain x2 (v3 + (1 : Int32)) h e_x3) (mFit_of rfl (Nat.le_of_ble_eq_true rfl) (by decide) (Nat.le_of_ble_eq_true rfl) (Nat.le_of_ble_eq_true rfl)) (Nat.le_of_ble_eq_true rfl) rfl rfl ?_
  intro _ _ hq
  rw [hq.1, hq.2]
  show mGo w kX9_agrees 0 0 239 [some (va_rf v0), none, none, some (.int v3), some (.int v4), some (.int v5), some (.int v6), some (.int v7), some (.int v8)] [.int x3] h Q
  refine mGo.iload (n := 241) (x := v6) dX9_agrees_239 rfl rfl ?_
  refine mGo.icmp_ne (tgt := 247) (n := 244) dX9_agrees_241 (by decide) rfl (fun hc => ?_) (fun hc => ?_)
  · replace e := mIff hc e
    refine mGo.iinc (n := 250) (x := v8) (v := (v8 + 1)) (ls' := [some (va_rf v0), none, none, some (.int v3), some (.int v4), some (.int v5), some (.int v6), some (.int v7), some (.int (v8 + 1))]) dX9_agrees_247 rfl rfl rfl (Nat.le_of_ble_eq_true rfl) rfl ?_
    refine mGo.goto (tgt := 184) dX9_agrees_250 (by decide) ?_
    cases e
    refine mGo.mk [true, false, false, true, true, true, true, true, true] ?_
    exact q
  · replace e := mIft hc e
    refine mGo.iinc (n := 247) (x := v7) (v := (v7 + (-1))) (ls' := [some (va_rf v0), none, none, some (.int v3), some (.int v4), some (.int v5), some (.int v6), some (.int (v7 + (-1))), some (.int v8)]) dX9_agrees_244 rfl rfl rfl (Nat.le_of_ble_eq_true rfl) rfl ?_
    refine mGo.iinc (n := 250) (x := v8) (v := (v8 + 1)) (ls' := [some (va_rf v0), none, none, some (.int v3), some (.int v4), some (.int v5), some (.int v6), some (.int (v7 + (-1))), some (.int (v8 + 1))]) dX9_agrees_247 rfl rfl rfl (Nat.le_of_ble_eq_true rfl) rfl ?_
    refine mGo.goto (tgt := 184) dX9_agrees_250 (by decide) ?_
    cases e
    refine mGo.mk [true, false, false, true, true, true, true, true, true] ?_
    exact q
def f_X9_agrees_b184 (v0 : Option Nat) (v3 : Int32) (v4 : Int32) (v5 : Int32) (v6 : Int32) (v7 : Int32) (v8 : Int32) (h : mH) : Option ((Int32 × Int32) ⊕ ((Int32) ⊕ (Int32 × mH))) :=
  if v4 ≤ v8 then
    if v7 = 0 then
      some (Sum.inr (Sum.inl (v5 + 1)))
    else
      some (Sum.inr (Sum.inr ((0 : Int32), h)))
  else
    (mGR h v0 8 21).bind fun x1 =>
    (mAI h x1 (((12 : Int32) * (v3 + (1 : Int32))) + v8)).bind fun x2 =>
    (f_X9_plain x2 (v3 + (1 : Int32))).bind fun x3 =>
    if x3 = v6 then
      f_X9_agrees_c219 v0 v3 v4 v5 v6 (v7 + 1) v8 h
    else
      f_X9_agrees_c219 v0 v3 v4 v5 v6 v7 v8 h
set_option maxRecDepth 100000 in
set_option maxHeartbeats 4000000 in
theorem g_X9_agrees_b184 {w : mWp} {Q : Option Value → mH → Prop} (v0 : Option Nat) (v3 : Int32) (v4 : Int32) (v5 : Int32) (v6 : Int32) (v7 : Int32) (v8 : Int32) (h : mH) {res : (Int32 × Int32) ⊕ ((Int32) ⊕ (Int32 × mH))} (e : f_X9_agrees_b184 v0 v3 v4 v5 v6 v7 v8 h = some res) (q : (Sum.elim (fun x : Int32 × Int32 => mGo w kX9_agrees 0 0 184 [some (va_rf v0), none, none, some (.int v3), some (.int v4), some (.int v5), some (.int v6), some (.int x.1), some (.int x.2)] [] h Q) (Sum.elim (fun x : Int32 => mGo w kX9_agrees 0 0 149 [some (va_rf v0), none, none, some (.int v3), some (.int v4), some (.int x), none, none, none] [] h Q) (fun r : Int32 × mH => Q (some (.int r.1)) r.2))) res) : mGo w kX9_agrees 0 0 184 [some (va_rf v0), none, none, some (.int v3), some (.int v4), some (.int v5), some (.int v6), some (.int v7), some (.int v8)] [] h Q := by
  unfold f_X9_agrees_b184 at e
  refine mGo.iload (n := 186) (x := v8) dX9_agrees_184 rfl rfl ?_
  refine mGo.iload (n := 188) (x := v4) dX9_agrees_186 rfl rfl ?_
  refine mGo.icmp_ge (tgt := 253) (n := 191) dX9_agrees_188 (by decide) rfl (fun hc => ?_) (fun hc => ?_)
  · replace e := mIft hc e
    refine mGo.iload (n := 255) (x := v7) dX9_agrees_253 rfl rfl ?_
    refine mGo.if_eq (tgt := 260) (n := 258) dX9_agrees_255 (by decide) rfl (fun hc => ?_) (fun hc => ?_)
    · replace e := mIft hc e
      refine mGo.iinc (n := 263) (x := v5) (v := (v5 + 1)) (ls' := [some (va_rf v0), none, none, some (.int v3), some (.int v4), some (.int (v5 + 1)), some (.int v6), some (.int v7), some (.int v8)]) dX9_agrees_260 rfl rfl rfl (Nat.le_of_ble_eq_true rfl) rfl ?_
      refine mGo.goto (tgt := 149) dX9_agrees_263 (by decide) ?_
      cases e
      refine mGo.mk [true, false, false, true, true, true, false, false, false] ?_
      exact q
    · replace e := mIff hc e
      refine mGo.iconst (n := 259) (v := (0 : Int32)) dX9_agrees_258 (by decide) rfl ?_
      cases e
      exact mGo.zret dX9_agrees_259 rfl (by decide) (Nat.le_of_ble_eq_true rfl) (Nat.le_of_ble_eq_true rfl) q
  · replace e := mIff hc e
    refine mGo.aload_n (n := 192) (r := v0) dX9_agrees_191 rfl rfl ?_
    obtain ⟨x1, e_x1, e⟩ := mBind e
    refine mGo.getR (n := 195) dX9_agrees_192 sf_RX9_66 e_x1 rfl ?_
    refine mGo.bipush (n := 197) (v := (12 : Int32)) dX9_agrees_195 (by decide) rfl ?_
    refine mGo.iload_n (n := 198) (x := v3) dX9_agrees_197 rfl rfl ?_
    refine mGo.iconst (n := 199) (v := (1 : Int32)) dX9_agrees_198 (by decide) rfl ?_
    refine mGo.iadd (n := 200) dX9_agrees_199 rfl ?_
    refine mGo.imul (n := 201) dX9_agrees_200 rfl ?_
    refine mGo.iload (n := 203) (x := v8) dX9_agrees_201 rfl rfl ?_
    refine mGo.iadd (n := 204) dX9_agrees_203 rfl ?_
    obtain ⟨x2, e_x2, e⟩ := mBind e
    refine mGo.iald (n := 205) dX9_agrees_204 e_x2 rfl ?_
    refine mGo.iload_n (n := 206) (x := v3) dX9_agrees_205 rfl rfl ?_
    refine mGo.iconst (n := 207) (v := (1 : Int32)) dX9_agrees_206 (by decide) rfl ?_
    refine mGo.iadd (n := 208) dX9_agrees_207 rfl ?_
    obtain ⟨x3, e_x3, e⟩ := mBind e
    refine mGo.callS (n := 211) (y := zX9_plain) (R' := (mRoom (1) 0 0)) (as := [.int x2, .int (v3 + (1 : Int32))]) (st := []) dX9_agrees_208 sc_RX9_235 rfl (e_X9_plain x2 (v3 + (1 : Int32)) h e_x3) (mFit_of rfl (Nat.le_of_ble_eq_true rfl) (by decide) (Nat.le_of_ble_eq_true rfl) (Nat.le_of_ble_eq_true rfl)) (Nat.le_of_ble_eq_true rfl) rfl rfl ?_
    intro _ _ hq
    rw [hq.1, hq.2]
    show mGo w kX9_agrees 0 0 211 [some (va_rf v0), none, none, some (.int v3), some (.int v4), some (.int v5), some (.int v6), some (.int v7), some (.int v8)] [.int x3] h Q
    refine mGo.iload (n := 213) (x := v6) dX9_agrees_211 rfl rfl ?_
    refine mGo.icmp_ne (tgt := 219) (n := 216) dX9_agrees_213 (by decide) rfl (fun hc => ?_) (fun hc => ?_)
    · replace e := mIff hc e
      refine mGo.mk [true, false, false, true, true, true, true, true, true] ?_
      exact g_X9_agrees_c219 v0 v3 v4 v5 v6 v7 v8 h e q
    · replace e := mIft hc e
      refine mGo.iinc (n := 219) (x := v7) (v := (v7 + 1)) (ls' := [some (va_rf v0), none, none, some (.int v3), some (.int v4), some (.int v5), some (.int v6), some (.int (v7 + 1)), some (.int v8)]) dX9_agrees_216 rfl rfl rfl (Nat.le_of_ble_eq_true rfl) rfl ?_
      refine mGo.mk [true, false, false, true, true, true, true, true, true] ?_
      exact g_X9_agrees_c219 v0 v3 v4 v5 v6 (v7 + 1) v8 h e q
noncomputable def f_X9_agrees_l184 (v0 : Option Nat) (v3 : Int32) (v4 : Int32) (v5 : Int32) (v6 : Int32) (v7 : Int32) (v8 : Int32) (h : mH) : Option ((Int32) ⊕ (Int32 × mH)) :=
  mLoop (fun x : Int32 × Int32 => f_X9_agrees_b184 v0 v3 v4 v5 v6 x.1 x.2 h) (v7, v8)
set_option maxRecDepth 100000 in
set_option maxHeartbeats 4000000 in
theorem g_X9_agrees_l184 {w : mWp} {Q : Option Value → mH → Prop} (v0 : Option Nat) (v3 : Int32) (v4 : Int32) (v5 : Int32) (v6 : Int32) (v7 : Int32) (v8 : Int32) (h : mH) {res : (Int32) ⊕ (Int32 × mH)} (e : f_X9_agrees_l184 v0 v3 v4 v5 v6 v7 v8 h = some res) (q : (Sum.elim (fun x : Int32 => mGo w kX9_agrees 0 0 149 [some (va_rf v0), none, none, some (.int v3), some (.int v4), some (.int x), none, none, none] [] h Q) (fun r : Int32 × mH => Q (some (.int r.1)) r.2)) res) : mGo w kX9_agrees 0 0 184 [some (va_rf v0), none, none, some (.int v3), some (.int v4), some (.int v5), some (.int v6), some (.int v7), some (.int v8)] [] h Q := by
  unfold f_X9_agrees_l184 at e
  refine mLoop_go (x := (v7, v8)) (fun x : Int32 × Int32 => mGo w kX9_agrees 0 0 184 [some (va_rf v0), none, none, some (.int v3), some (.int v4), some (.int v5), some (.int v6), some (.int x.1), some (.int x.2)] [] h Q) (Sum.elim (fun x : Int32 => mGo w kX9_agrees 0 0 149 [some (va_rf v0), none, none, some (.int v3), some (.int v4), some (.int x), none, none, none] [] h Q) (fun r : Int32 × mH => Q (some (.int r.1)) r.2)) ?_ e q
  rintro ⟨v7, v8⟩ res e q
  exact g_X9_agrees_b184 v0 v3 v4 v5 v6 v7 v8 h e q
noncomputable def f_X9_agrees_b149 (v0 : Option Nat) (v3 : Int32) (v4 : Int32) (v5 : Int32) (h : mH) : Option ((Int32) ⊕ (Int32 × mH)) :=
  if v4 ≤ v5 then
    some (Sum.inr ((1 : Int32), h))
  else
    (mGR h v0 8 21).bind fun x1 =>
    (mAI h x1 (((12 : Int32) * (v3 + (1 : Int32))) + v5)).bind fun x2 =>
    (f_X9_plain x2 (v3 + (1 : Int32))).bind fun x3 =>
    f_X9_agrees_l184 v0 v3 v4 v5 x3 (0 : Int32) (0 : Int32) h
set_option maxRecDepth 100000 in
set_option maxHeartbeats 4000000 in
theorem g_X9_agrees_b149 {w : mWp} {Q : Option Value → mH → Prop} (v0 : Option Nat) (v3 : Int32) (v4 : Int32) (v5 : Int32) (h : mH) {res : (Int32) ⊕ (Int32 × mH)} (e : f_X9_agrees_b149 v0 v3 v4 v5 h = some res) (q : (Sum.elim (fun x : Int32 => mGo w kX9_agrees 0 0 149 [some (va_rf v0), none, none, some (.int v3), some (.int v4), some (.int x), none, none, none] [] h Q) (fun r : Int32 × mH => Q (some (.int r.1)) r.2)) res) : mGo w kX9_agrees 0 0 149 [some (va_rf v0), none, none, some (.int v3), some (.int v4), some (.int v5), none, none, none] [] h Q := by
  unfold f_X9_agrees_b149 at e
  refine mGo.iload (n := 151) (x := v5) dX9_agrees_149 rfl rfl ?_
  refine mGo.iload (n := 153) (x := v4) dX9_agrees_151 rfl rfl ?_
  refine mGo.icmp_ge (tgt := 266) (n := 156) dX9_agrees_153 (by decide) rfl (fun hc => ?_) (fun hc => ?_)
  · replace e := mIft hc e
    refine mGo.iconst (n := 267) (v := (1 : Int32)) dX9_agrees_266 (by decide) rfl ?_
    cases e
    exact mGo.zret dX9_agrees_267 rfl (by decide) (Nat.le_of_ble_eq_true rfl) (Nat.le_of_ble_eq_true rfl) q
  · replace e := mIff hc e
    refine mGo.aload_n (n := 157) (r := v0) dX9_agrees_156 rfl rfl ?_
    obtain ⟨x1, e_x1, e⟩ := mBind e
    refine mGo.getR (n := 160) dX9_agrees_157 sf_RX9_66 e_x1 rfl ?_
    refine mGo.bipush (n := 162) (v := (12 : Int32)) dX9_agrees_160 (by decide) rfl ?_
    refine mGo.iload_n (n := 163) (x := v3) dX9_agrees_162 rfl rfl ?_
    refine mGo.iconst (n := 164) (v := (1 : Int32)) dX9_agrees_163 (by decide) rfl ?_
    refine mGo.iadd (n := 165) dX9_agrees_164 rfl ?_
    refine mGo.imul (n := 166) dX9_agrees_165 rfl ?_
    refine mGo.iload (n := 168) (x := v5) dX9_agrees_166 rfl rfl ?_
    refine mGo.iadd (n := 169) dX9_agrees_168 rfl ?_
    obtain ⟨x2, e_x2, e⟩ := mBind e
    refine mGo.iald (n := 170) dX9_agrees_169 e_x2 rfl ?_
    refine mGo.iload_n (n := 171) (x := v3) dX9_agrees_170 rfl rfl ?_
    refine mGo.iconst (n := 172) (v := (1 : Int32)) dX9_agrees_171 (by decide) rfl ?_
    refine mGo.iadd (n := 173) dX9_agrees_172 rfl ?_
    obtain ⟨x3, e_x3, e⟩ := mBind e
    refine mGo.callS (n := 176) (y := zX9_plain) (R' := (mRoom (1) 0 0)) (as := [.int x2, .int (v3 + (1 : Int32))]) (st := []) dX9_agrees_173 sc_RX9_235 rfl (e_X9_plain x2 (v3 + (1 : Int32)) h e_x3) (mFit_of rfl (Nat.le_of_ble_eq_true rfl) (by decide) (Nat.le_of_ble_eq_true rfl) (Nat.le_of_ble_eq_true rfl)) (Nat.le_of_ble_eq_true rfl) rfl rfl ?_
    intro _ _ hq
    rw [hq.1, hq.2]
    show mGo w kX9_agrees 0 0 176 [some (va_rf v0), none, none, some (.int v3), some (.int v4), some (.int v5), none, none, none] [.int x3] h Q
    refine mGo.istore (n := 178) (ls' := [some (va_rf v0), none, none, some (.int v3), some (.int v4), some (.int v5), some (.int x3), none, none]) dX9_agrees_176 rfl (Nat.le_of_ble_eq_true rfl) rfl ?_
    refine mGo.iconst (n := 179) (v := (0 : Int32)) dX9_agrees_178 (by decide) rfl ?_
    refine mGo.istore (n := 181) (ls' := [some (va_rf v0), none, none, some (.int v3), some (.int v4), some (.int v5), some (.int x3), some (.int (0 : Int32)), none]) dX9_agrees_179 rfl (Nat.le_of_ble_eq_true rfl) rfl ?_
    refine mGo.iconst (n := 182) (v := (0 : Int32)) dX9_agrees_181 (by decide) rfl ?_
    refine mGo.istore (n := 184) (ls' := [some (va_rf v0), none, none, some (.int v3), some (.int v4), some (.int v5), some (.int x3), some (.int (0 : Int32)), some (.int (0 : Int32))]) dX9_agrees_182 rfl (Nat.le_of_ble_eq_true rfl) rfl ?_
    refine mGo.mk [true, false, false, true, true, true, true, true, true] ?_
    exact g_X9_agrees_l184 v0 v3 v4 v5 x3 (0 : Int32) (0 : Int32) h e q
noncomputable def f_X9_agrees_l149 (v0 : Option Nat) (v3 : Int32) (v4 : Int32) (v5 : Int32) (h : mH) : Option (Int32 × mH) :=
  mLoop (fun x : Int32 => f_X9_agrees_b149 v0 v3 v4 x h) (v5)
set_option maxRecDepth 100000 in
set_option maxHeartbeats 4000000 in
theorem g_X9_agrees_l149 {w : mWp} {Q : Option Value → mH → Prop} (v0 : Option Nat) (v3 : Int32) (v4 : Int32) (v5 : Int32) (h : mH) {res : Int32 × mH} (e : f_X9_agrees_l149 v0 v3 v4 v5 h = some res) (q : (fun r : Int32 × mH => Q (some (.int r.1)) r.2) res) : mGo w kX9_agrees 0 0 149 [some (va_rf v0), none, none, some (.int v3), some (.int v4), some (.int v5), none, none, none] [] h Q := by
  unfold f_X9_agrees_l149 at e
  refine mLoop_go (x := (v5)) (fun x : Int32 => mGo w kX9_agrees 0 0 149 [some (va_rf v0), none, none, some (.int v3), some (.int v4), some (.int x), none, none, none] [] h Q) (fun r : Int32 × mH => Q (some (.int r.1)) r.2) ?_ e q
  rintro v5 res e q
  exact g_X9_agrees_b149 v0 v3 v4 v5 h e q
def f_X9_agrees_c76 (v0 : Option Nat) (v1 : Int32) (v2 : Int32) (v3 : Int32) (v4 : Int32) (v5 : Int32) (v6 : Int32) (s0 : Int32) (h : mH) : Option ((Int32 × mH) ⊕ (Int32 × mH)) :=
  (mGR h v0 8 21).bind fun x1 =>
  (mGR h v0 8 21).bind fun x2 =>
  (mAI h x2 (((12 : Int32) * v3) + v5)).bind fun x3 =>
  (mSI h x1 (((12 : Int32) * (v3 + (1 : Int32))) + v5) (((2 : Int32) * x3) + v6)).bind fun h4 =>
  (mGR h4 v0 8 22).bind fun x5 =>
  (mGR h4 v0 8 22).bind fun x6 =>
  (mAI h4 x6 (((12 : Int32) * v3) + v5)).bind fun x7 =>
  (mSI h4 x5 (((12 : Int32) * (v3 + (1 : Int32))) + v5) (((2 : Int32) * x7) + s0)).bind fun h8 =>
  some (Sum.inl ((v5 + 1), h8))
set_option maxRecDepth 100000 in
set_option maxHeartbeats 4000000 in
theorem g_X9_agrees_c76 {w : mWp} {Q : Option Value → mH → Prop} (v0 : Option Nat) (v1 : Int32) (v2 : Int32) (v3 : Int32) (v4 : Int32) (v5 : Int32) (v6 : Int32) (s0 : Int32) (h : mH) {res : (Int32 × mH) ⊕ (Int32 × mH)} (e : f_X9_agrees_c76 v0 v1 v2 v3 v4 v5 v6 s0 h = some res) (q : (Sum.elim (fun x : Int32 × mH => mGo w kX9_agrees 0 0 11 [some (va_rf v0), some (.int v1), some (.int v2), some (.int v3), some (.int v4), some (.int x.1), none, none, none] [] x.2 Q) (fun r : Int32 × mH => Q (some (.int r.1)) r.2)) res) : mGo w kX9_agrees 0 0 76 [some (va_rf v0), some (.int v1), some (.int v2), some (.int v3), some (.int v4), some (.int v5), some (.int v6), none, none] [.int s0] h Q := by
  unfold f_X9_agrees_c76 at e
  refine mGo.istore (n := 78) (ls' := [some (va_rf v0), some (.int v1), some (.int v2), some (.int v3), some (.int v4), some (.int v5), some (.int v6), some (.int s0), none]) dX9_agrees_76 rfl (Nat.le_of_ble_eq_true rfl) rfl ?_
  refine mGo.aload_n (n := 79) (r := v0) dX9_agrees_78 rfl rfl ?_
  obtain ⟨x1, e_x1, e⟩ := mBind e
  refine mGo.getR (n := 82) dX9_agrees_79 sf_RX9_66 e_x1 rfl ?_
  refine mGo.bipush (n := 84) (v := (12 : Int32)) dX9_agrees_82 (by decide) rfl ?_
  refine mGo.iload_n (n := 85) (x := v3) dX9_agrees_84 rfl rfl ?_
  refine mGo.iconst (n := 86) (v := (1 : Int32)) dX9_agrees_85 (by decide) rfl ?_
  refine mGo.iadd (n := 87) dX9_agrees_86 rfl ?_
  refine mGo.imul (n := 88) dX9_agrees_87 rfl ?_
  refine mGo.iload (n := 90) (x := v5) dX9_agrees_88 rfl rfl ?_
  refine mGo.iadd (n := 91) dX9_agrees_90 rfl ?_
  refine mGo.iconst (n := 92) (v := (2 : Int32)) dX9_agrees_91 (by decide) rfl ?_
  refine mGo.aload_n (n := 93) (r := v0) dX9_agrees_92 rfl rfl ?_
  obtain ⟨x2, e_x2, e⟩ := mBind e
  refine mGo.getR (n := 96) dX9_agrees_93 sf_RX9_66 e_x2 rfl ?_
  refine mGo.bipush (n := 98) (v := (12 : Int32)) dX9_agrees_96 (by decide) rfl ?_
  refine mGo.iload_n (n := 99) (x := v3) dX9_agrees_98 rfl rfl ?_
  refine mGo.imul (n := 100) dX9_agrees_99 rfl ?_
  refine mGo.iload (n := 102) (x := v5) dX9_agrees_100 rfl rfl ?_
  refine mGo.iadd (n := 103) dX9_agrees_102 rfl ?_
  obtain ⟨x3, e_x3, e⟩ := mBind e
  refine mGo.iald (n := 104) dX9_agrees_103 e_x3 rfl ?_
  refine mGo.imul (n := 105) dX9_agrees_104 rfl ?_
  refine mGo.iload (n := 107) (x := v6) dX9_agrees_105 rfl rfl ?_
  refine mGo.iadd (n := 108) dX9_agrees_107 rfl ?_
  obtain ⟨h4, e_h4, e⟩ := mBind e
  refine mGo.iast (n := 109) dX9_agrees_108 e_h4 rfl ?_
  refine mGo.aload_n (n := 110) (r := v0) dX9_agrees_109 rfl rfl ?_
  obtain ⟨x5, e_x5, e⟩ := mBind e
  refine mGo.getR (n := 113) dX9_agrees_110 sf_RX9_69 e_x5 rfl ?_
  refine mGo.bipush (n := 115) (v := (12 : Int32)) dX9_agrees_113 (by decide) rfl ?_
  refine mGo.iload_n (n := 116) (x := v3) dX9_agrees_115 rfl rfl ?_
  refine mGo.iconst (n := 117) (v := (1 : Int32)) dX9_agrees_116 (by decide) rfl ?_
  refine mGo.iadd (n := 118) dX9_agrees_117 rfl ?_
  refine mGo.imul (n := 119) dX9_agrees_118 rfl ?_
  refine mGo.iload (n := 121) (x := v5) dX9_agrees_119 rfl rfl ?_
  refine mGo.iadd (n := 122) dX9_agrees_121 rfl ?_
  refine mGo.iconst (n := 123) (v := (2 : Int32)) dX9_agrees_122 (by decide) rfl ?_
  refine mGo.aload_n (n := 124) (r := v0) dX9_agrees_123 rfl rfl ?_
  obtain ⟨x6, e_x6, e⟩ := mBind e
  refine mGo.getR (n := 127) dX9_agrees_124 sf_RX9_69 e_x6 rfl ?_
  refine mGo.bipush (n := 129) (v := (12 : Int32)) dX9_agrees_127 (by decide) rfl ?_
  refine mGo.iload_n (n := 130) (x := v3) dX9_agrees_129 rfl rfl ?_
  refine mGo.imul (n := 131) dX9_agrees_130 rfl ?_
  refine mGo.iload (n := 133) (x := v5) dX9_agrees_131 rfl rfl ?_
  refine mGo.iadd (n := 134) dX9_agrees_133 rfl ?_
  obtain ⟨x7, e_x7, e⟩ := mBind e
  refine mGo.iald (n := 135) dX9_agrees_134 e_x7 rfl ?_
  refine mGo.imul (n := 136) dX9_agrees_135 rfl ?_
  refine mGo.iload (n := 138) (x := s0) dX9_agrees_136 rfl rfl ?_
  refine mGo.iadd (n := 139) dX9_agrees_138 rfl ?_
  obtain ⟨h8, e_h8, e⟩ := mBind e
  refine mGo.iast (n := 140) dX9_agrees_139 e_h8 rfl ?_
  refine mGo.iinc (n := 143) (x := v5) (v := (v5 + 1)) (ls' := [some (va_rf v0), some (.int v1), some (.int v2), some (.int v3), some (.int v4), some (.int (v5 + 1)), some (.int v6), some (.int s0), none]) dX9_agrees_140 rfl rfl rfl (Nat.le_of_ble_eq_true rfl) rfl ?_
  refine mGo.goto (tgt := 11) dX9_agrees_143 (by decide) ?_
  cases e
  refine mGo.mk [true, true, true, true, true, true, false, false, false] ?_
  exact q
def f_X9_agrees_c51 (v0 : Option Nat) (v1 : Int32) (v2 : Int32) (v3 : Int32) (v4 : Int32) (v5 : Int32) (s0 : Int32) (h : mH) : Option ((Int32 × mH) ⊕ (Int32 × mH)) :=
  (mGR h v0 8 19).bind fun x1 =>
  (mAI h x1 v3).bind fun x2 =>
  (f_X9_isMinus v0 v2 (x2 / (2 : Int32)) v5 h).bind fun x3 =>
  if x3 = 0 then
    f_X9_agrees_c76 v0 v1 v2 v3 v4 v5 s0 (0 : Int32) h
  else
    f_X9_agrees_c76 v0 v1 v2 v3 v4 v5 s0 (1 : Int32) h
set_option maxRecDepth 100000 in
set_option maxHeartbeats 4000000 in
theorem g_X9_agrees_c51 {w : mWp} {Q : Option Value → mH → Prop} (v0 : Option Nat) (v1 : Int32) (v2 : Int32) (v3 : Int32) (v4 : Int32) (v5 : Int32) (s0 : Int32) (h : mH) {res : (Int32 × mH) ⊕ (Int32 × mH)} (e : f_X9_agrees_c51 v0 v1 v2 v3 v4 v5 s0 h = some res) (q : (Sum.elim (fun x : Int32 × mH => mGo w kX9_agrees 0 0 11 [some (va_rf v0), some (.int v1), some (.int v2), some (.int v3), some (.int v4), some (.int x.1), none, none, none] [] x.2 Q) (fun r : Int32 × mH => Q (some (.int r.1)) r.2)) res) : mGo w kX9_agrees 0 0 51 [some (va_rf v0), some (.int v1), some (.int v2), some (.int v3), some (.int v4), some (.int v5), none, none, none] [.int s0] h Q := by
  unfold f_X9_agrees_c51 at e
  refine mGo.istore (n := 53) (ls' := [some (va_rf v0), some (.int v1), some (.int v2), some (.int v3), some (.int v4), some (.int v5), some (.int s0), none, none]) dX9_agrees_51 rfl (Nat.le_of_ble_eq_true rfl) rfl ?_
  refine mGo.aload_n (n := 54) (r := v0) dX9_agrees_53 rfl rfl ?_
  refine mGo.iload_n (n := 55) (x := v2) dX9_agrees_54 rfl rfl ?_
  refine mGo.aload_n (n := 56) (r := v0) dX9_agrees_55 rfl rfl ?_
  obtain ⟨x1, e_x1, e⟩ := mBind e
  refine mGo.getR (n := 59) dX9_agrees_56 sf_RX9_60 e_x1 rfl ?_
  refine mGo.iload_n (n := 60) (x := v3) dX9_agrees_59 rfl rfl ?_
  obtain ⟨x2, e_x2, e⟩ := mBind e
  refine mGo.iald (n := 61) dX9_agrees_60 e_x2 rfl ?_
  refine mGo.iconst (n := 62) (v := (2 : Int32)) dX9_agrees_61 (by decide) rfl ?_
  refine mGo.idiv (n := 63) dX9_agrees_62 (by decide) rfl ?_
  refine mGo.iload (n := 65) (x := v5) dX9_agrees_63 rfl rfl ?_
  obtain ⟨x3, e_x3, e⟩ := mBind e
  refine mGo.callV (n := 68) (y := zX9_isMinus) (R' := (mRoom (2) 0 0)) (as := [.int v2, .int (x2 / (2 : Int32)), .int v5]) (st := []) (r0 := v0) dX9_agrees_65 sc_RX9_98 rfl (s_X9_isMinus v0 v2 (x2 / (2 : Int32)) v5 h e_x3) (e_X9_isMinus v0 v2 (x2 / (2 : Int32)) v5 h e_x3) (mFit_of rfl (Nat.le_of_ble_eq_true rfl) (by decide) (Nat.le_of_ble_eq_true rfl) (Nat.le_of_ble_eq_true rfl)) (Nat.le_of_ble_eq_true rfl) rfl rfl ?_
  intro _ _ hq
  rw [hq.1, hq.2]
  show mGo w kX9_agrees 0 0 68 [some (va_rf v0), some (.int v1), some (.int v2), some (.int v3), some (.int v4), some (.int v5), some (.int s0), none, none] [.int x3] h Q
  refine mGo.if_eq (tgt := 75) (n := 71) dX9_agrees_68 (by decide) rfl (fun hc => ?_) (fun hc => ?_)
  · replace e := mIft hc e
    refine mGo.iconst (n := 76) (v := (0 : Int32)) dX9_agrees_75 (by decide) rfl ?_
    refine mGo.mk [true, true, true, true, true, true, true, false, false] ?_
    exact g_X9_agrees_c76 v0 v1 v2 v3 v4 v5 s0 (0 : Int32) h e q
  · replace e := mIff hc e
    refine mGo.iconst (n := 72) (v := (1 : Int32)) dX9_agrees_71 (by decide) rfl ?_
    refine mGo.goto (tgt := 76) dX9_agrees_72 (by decide) ?_
    refine mGo.mk [true, true, true, true, true, true, true, false, false] ?_
    exact g_X9_agrees_c76 v0 v1 v2 v3 v4 v5 s0 (1 : Int32) h e q
def f_X9_agrees_c43 (v0 : Option Nat) (v1 : Int32) (v2 : Int32) (v3 : Int32) (v4 : Int32) (v5 : Int32) (s0 : Int32) (s1 : Int32) (h : mH) : Option ((Int32 × mH) ⊕ (Int32 × mH)) :=
  if s0 = s1 then
    f_X9_agrees_c51 v0 v1 v2 v3 v4 v5 (0 : Int32) h
  else
    f_X9_agrees_c51 v0 v1 v2 v3 v4 v5 (1 : Int32) h
set_option maxRecDepth 100000 in
set_option maxHeartbeats 4000000 in
theorem g_X9_agrees_c43 {w : mWp} {Q : Option Value → mH → Prop} (v0 : Option Nat) (v1 : Int32) (v2 : Int32) (v3 : Int32) (v4 : Int32) (v5 : Int32) (s0 : Int32) (s1 : Int32) (h : mH) {res : (Int32 × mH) ⊕ (Int32 × mH)} (e : f_X9_agrees_c43 v0 v1 v2 v3 v4 v5 s0 s1 h = some res) (q : (Sum.elim (fun x : Int32 × mH => mGo w kX9_agrees 0 0 11 [some (va_rf v0), some (.int v1), some (.int v2), some (.int v3), some (.int v4), some (.int x.1), none, none, none] [] x.2 Q) (fun r : Int32 × mH => Q (some (.int r.1)) r.2)) res) : mGo w kX9_agrees 0 0 43 [some (va_rf v0), some (.int v1), some (.int v2), some (.int v3), some (.int v4), some (.int v5), none, none, none] [.int s1, .int s0] h Q := by
  unfold f_X9_agrees_c43 at e
  refine mGo.icmp_eq (tgt := 50) (n := 46) dX9_agrees_43 (by decide) rfl (fun hc => ?_) (fun hc => ?_)
  · replace e := mIft hc e
    refine mGo.iconst (n := 51) (v := (0 : Int32)) dX9_agrees_50 (by decide) rfl ?_
    refine mGo.mk [true, true, true, true, true, true, false, false, false] ?_
    exact g_X9_agrees_c51 v0 v1 v2 v3 v4 v5 (0 : Int32) h e q
  · replace e := mIff hc e
    refine mGo.iconst (n := 47) (v := (1 : Int32)) dX9_agrees_46 (by decide) rfl ?_
    refine mGo.goto (tgt := 51) dX9_agrees_47 (by decide) ?_
    refine mGo.mk [true, true, true, true, true, true, false, false, false] ?_
    exact g_X9_agrees_c51 v0 v1 v2 v3 v4 v5 (1 : Int32) h e q
noncomputable def f_X9_agrees_b11 (v0 : Option Nat) (v1 : Int32) (v2 : Int32) (v3 : Int32) (v4 : Int32) (v5 : Int32) (h : mH) : Option ((Int32 × mH) ⊕ (Int32 × mH)) :=
  if v4 ≤ v5 then
    (f_X9_agrees_l149 v0 v3 v4 (0 : Int32) h).map (fun r => (Sum.inr r))
  else
    (f_X9_isMinus v0 v1 v3 v5 h).bind fun x2 =>
    (mGR h v0 8 19).bind fun x3 =>
    (mAI h x3 v3).bind fun x4 =>
    if (mRem x4 (2 : Int32)) = (1 : Int32) then
      f_X9_agrees_c43 v0 v1 v2 v3 v4 v5 x2 (1 : Int32) h
    else
      f_X9_agrees_c43 v0 v1 v2 v3 v4 v5 x2 (0 : Int32) h
set_option maxRecDepth 100000 in
set_option maxHeartbeats 4000000 in
theorem g_X9_agrees_b11 {w : mWp} {Q : Option Value → mH → Prop} (v0 : Option Nat) (v1 : Int32) (v2 : Int32) (v3 : Int32) (v4 : Int32) (v5 : Int32) (h : mH) {res : (Int32 × mH) ⊕ (Int32 × mH)} (e : f_X9_agrees_b11 v0 v1 v2 v3 v4 v5 h = some res) (q : (Sum.elim (fun x : Int32 × mH => mGo w kX9_agrees 0 0 11 [some (va_rf v0), some (.int v1), some (.int v2), some (.int v3), some (.int v4), some (.int x.1), none, none, none] [] x.2 Q) (fun r : Int32 × mH => Q (some (.int r.1)) r.2)) res) : mGo w kX9_agrees 0 0 11 [some (va_rf v0), some (.int v1), some (.int v2), some (.int v3), some (.int v4), some (.int v5), none, none, none] [] h Q := by
  unfold f_X9_agrees_b11 at e
  refine mGo.iload (n := 13) (x := v5) dX9_agrees_11 rfl rfl ?_
  refine mGo.iload (n := 15) (x := v4) dX9_agrees_13 rfl rfl ?_
  refine mGo.icmp_ge (tgt := 146) (n := 18) dX9_agrees_15 (by decide) rfl (fun hc => ?_) (fun hc => ?_)
  · replace e := mIft hc e
    refine mGo.iconst (n := 147) (v := (0 : Int32)) dX9_agrees_146 (by decide) rfl ?_
    refine mGo.istore (n := 149) (ls' := [some (va_rf v0), some (.int v1), some (.int v2), some (.int v3), some (.int v4), some (.int (0 : Int32)), none, none, none]) dX9_agrees_147 rfl (Nat.le_of_ble_eq_true rfl) rfl ?_
    obtain ⟨r1, e2, rfl⟩ := mMap e
    refine mGo.mk [true, false, false, true, true, true, false, false, false] ?_
    exact g_X9_agrees_l149 v0 v3 v4 (0 : Int32) h e2 q
  · replace e := mIff hc e
    refine mGo.aload_n (n := 19) (r := v0) dX9_agrees_18 rfl rfl ?_
    refine mGo.iload_n (n := 20) (x := v1) dX9_agrees_19 rfl rfl ?_
    refine mGo.iload_n (n := 21) (x := v3) dX9_agrees_20 rfl rfl ?_
    refine mGo.iload (n := 23) (x := v5) dX9_agrees_21 rfl rfl ?_
    obtain ⟨x2, e_x2, e⟩ := mBind e
    refine mGo.callV (n := 26) (y := zX9_isMinus) (R' := (mRoom (2) 0 0)) (as := [.int v1, .int v3, .int v5]) (st := []) (r0 := v0) dX9_agrees_23 sc_RX9_98 rfl (s_X9_isMinus v0 v1 v3 v5 h e_x2) (e_X9_isMinus v0 v1 v3 v5 h e_x2) (mFit_of rfl (Nat.le_of_ble_eq_true rfl) (by decide) (Nat.le_of_ble_eq_true rfl) (Nat.le_of_ble_eq_true rfl)) (Nat.le_of_ble_eq_true rfl) rfl rfl ?_
    intro _ _ hq
    rw [hq.1, hq.2]
    show mGo w kX9_agrees 0 0 26 [some (va_rf v0), some (.int v1), some (.int v2), some (.int v3), some (.int v4), some (.int v5), none, none, none] [.int x2] h Q
    refine mGo.aload_n (n := 27) (r := v0) dX9_agrees_26 rfl rfl ?_
    obtain ⟨x3, e_x3, e⟩ := mBind e
    refine mGo.getR (n := 30) dX9_agrees_27 sf_RX9_60 e_x3 rfl ?_
    refine mGo.iload_n (n := 31) (x := v3) dX9_agrees_30 rfl rfl ?_
    obtain ⟨x4, e_x4, e⟩ := mBind e
    refine mGo.iald (n := 32) dX9_agrees_31 e_x4 rfl ?_
    refine mGo.iconst (n := 33) (v := (2 : Int32)) dX9_agrees_32 (by decide) rfl ?_
    refine mGo.irem (n := 34) dX9_agrees_33 (by decide) rfl ?_
    refine mGo.iconst (n := 35) (v := (1 : Int32)) dX9_agrees_34 (by decide) rfl ?_
    refine mGo.icmp_ne (tgt := 42) (n := 38) dX9_agrees_35 (by decide) rfl (fun hc => ?_) (fun hc => ?_)
    · replace e := mIff hc e
      refine mGo.iconst (n := 43) (v := (0 : Int32)) dX9_agrees_42 (by decide) rfl ?_
      refine mGo.mk [true, true, true, true, true, true, false, false, false] ?_
      exact g_X9_agrees_c43 v0 v1 v2 v3 v4 v5 x2 (0 : Int32) h e q
    · replace e := mIft hc e
      refine mGo.iconst (n := 39) (v := (1 : Int32)) dX9_agrees_38 (by decide) rfl ?_
      refine mGo.goto (tgt := 43) dX9_agrees_39 (by decide) ?_
      refine mGo.mk [true, true, true, true, true, true, false, false, false] ?_
      exact g_X9_agrees_c43 v0 v1 v2 v3 v4 v5 x2 (1 : Int32) h e q
noncomputable def f_X9_agrees_l11 (v0 : Option Nat) (v1 : Int32) (v2 : Int32) (v3 : Int32) (v4 : Int32) (v5 : Int32) (h : mH) : Option (Int32 × mH) :=
  mLoop (fun x : Int32 × mH => f_X9_agrees_b11 v0 v1 v2 v3 v4 x.1 x.2) (v5, h)
set_option maxRecDepth 100000 in
set_option maxHeartbeats 4000000 in
theorem g_X9_agrees_l11 {w : mWp} {Q : Option Value → mH → Prop} (v0 : Option Nat) (v1 : Int32) (v2 : Int32) (v3 : Int32) (v4 : Int32) (v5 : Int32) (h : mH) {res : Int32 × mH} (e : f_X9_agrees_l11 v0 v1 v2 v3 v4 v5 h = some res) (q : (fun r : Int32 × mH => Q (some (.int r.1)) r.2) res) : mGo w kX9_agrees 0 0 11 [some (va_rf v0), some (.int v1), some (.int v2), some (.int v3), some (.int v4), some (.int v5), none, none, none] [] h Q := by
  unfold f_X9_agrees_l11 at e
  refine mLoop_go (x := (v5, h)) (fun x : Int32 × mH => mGo w kX9_agrees 0 0 11 [some (va_rf v0), some (.int v1), some (.int v2), some (.int v3), some (.int v4), some (.int x.1), none, none, none] [] x.2 Q) (fun r : Int32 × mH => Q (some (.int r.1)) r.2) ?_ e q
  rintro ⟨v5, h1⟩ res e q
  exact g_X9_agrees_b11 v0 v1 v2 v3 v4 v5 h1 e q
noncomputable def f_X9_agrees (v0 : Option Nat) (v1 : Int32) (v2 : Int32) (v3 : Int32) (h : mH) : Option (Int32 × mH) :=
  (mIs h v0 8).bind fun _ =>
  (mGR h v0 8 1).bind fun x1 =>
  (mAI h x1 v1).bind fun x2 =>
  f_X9_agrees_l11 v0 v1 v2 v3 x2 (0 : Int32) h
set_option maxRecDepth 100000 in
set_option maxHeartbeats 4000000 in
theorem g_X9_agrees {w : mWp} {Q : Option Value → mH → Prop} (v0 : Option Nat) (v1 : Int32) (v2 : Int32) (v3 : Int32) (h : mH) {res : Int32 × mH} (e : f_X9_agrees v0 v1 v2 v3 h = some res) (q : (fun r : Int32 × mH => Q (some (.int r.1)) r.2) res) : mGo w kX9_agrees 0 0 0 [some (va_rf v0), some (.int v1), some (.int v2), some (.int v3), none, none, none, none, none] [] h Q := by
  unfold f_X9_agrees at e
  obtain ⟨_, _, e⟩ := mBind e
  refine mGo.aload_n (n := 1) (r := v0) dX9_agrees_0 rfl rfl ?_
  obtain ⟨x1, e_x1, e⟩ := mBind e
  refine mGo.getR (n := 4) dX9_agrees_1 sf_RX9_13 e_x1 rfl ?_
  refine mGo.iload_n (n := 5) (x := v1) dX9_agrees_4 rfl rfl ?_
  obtain ⟨x2, e_x2, e⟩ := mBind e
  refine mGo.iald (n := 6) dX9_agrees_5 e_x2 rfl ?_
  refine mGo.istore (n := 8) (ls' := [some (va_rf v0), some (.int v1), some (.int v2), some (.int v3), some (.int x2), none, none, none, none]) dX9_agrees_6 rfl (Nat.le_of_ble_eq_true rfl) rfl ?_
  refine mGo.iconst (n := 9) (v := (0 : Int32)) dX9_agrees_8 (by decide) rfl ?_
  refine mGo.istore (n := 11) (ls' := [some (va_rf v0), some (.int v1), some (.int v2), some (.int v3), some (.int x2), some (.int (0 : Int32)), none, none, none]) dX9_agrees_9 rfl (Nat.le_of_ble_eq_true rfl) rfl ?_
  refine mGo.mk [true, true, true, true, true, true, false, false, false] ?_
  exact g_X9_agrees_l11 v0 v1 v2 v3 x2 (0 : Int32) h e q
theorem e_X9_agrees {w : mWp} (v0 : Option Nat) (v1 : Int32) (v2 : Int32) (v3 : Int32) (h : mH) {res : Int32 × mH} (e : f_X9_agrees v0 v1 v2 v3 h = some res) : mEx w zX9_agrees (mRoom 3 0 0) [va_rf v0, .int v1, .int v2, .int v3] h (fun r h2 => r = some (.int res.1) ∧ h2 = res.2) := by
  refine mEx.of (by decide +kernel) (show mEnt [va_rf v0, .int v1, .int v2, .int v3] 9 = [some (va_rf v0), some (.int v1), some (.int v2), some (.int v3), none, none, none, none, none] by rw [mEnt_r, mEnt_i, mEnt_i, mEnt_i] <;> rfl) (by simp only [List.map_cons, List.map_nil, mRfc, mCi, mCj, List.sum_cons, List.sum_nil]; exact Nat.le_of_ble_eq_true rfl) ?_
  refine g_X9_agrees v0 v1 v2 v3 h e ?_
  exact ⟨rfl, rfl⟩
theorem s_X9_agrees (v0 : Option Nat) (v1 : Int32) (v2 : Int32) (v3 : Int32) (h : mH) {res : Int32 × mH} (e : f_X9_agrees v0 v1 v2 v3 h = some res) : mIs h v0 8 = some () := by
  unfold f_X9_agrees at e
  obtain ⟨u, e1, _⟩ := mBind e
  cases u
  exact e1
-- X9_finds
def kX9_finds : mK := (cX9_finds, RX9, 6, some (.boolean), "finds", mRoom 4 0 0)
def zX9_finds : mY := (yX9_finds, cX9_finds, 6, some (.boolean))
set_option maxRecDepth 100000 in
theorem sc_RX9_238 : mSV RX9 238 zX9_isUsed 1 8 := ⟨Or.inl (mT_at 1162 (by decide +kernel) rfl), mT_at 1164 (by decide +kernel) rfl, mT_at 71 (by decide +kernel) rfl, mT_at 91 (by decide +kernel) rfl, mT_at 1165 (by decide +kernel) rfl, ⟨by decide +kernel, by decide +kernel, by decide +kernel⟩, by decide, rfl⟩
set_option maxRecDepth 100000 in
theorem sc_RX9_241 : mSV RX9 241 zX9_agrees 3 8 := ⟨Or.inl (mT_at 1166 (by decide +kernel) rfl), mT_at 1168 (by decide +kernel) rfl, mT_at 72 (by decide +kernel) rfl, mT_at 91 (by decide +kernel) rfl, mT_at 1169 (by decide +kernel) rfl, ⟨by decide +kernel, by decide +kernel, by decide +kernel⟩, by decide, rfl⟩
def f_X9_finds_c180 (v4 : Int32) (v5 : Int32) (h : mH) : Option (Int32 × mH) :=
  if v5 = v4 then
    some ((1 : Int32), h)
  else
    some ((0 : Int32), h)
set_option maxRecDepth 100000 in
set_option maxHeartbeats 4000000 in
theorem g_X9_finds_c180 {w : mWp} {Q : Option Value → mH → Prop} (v4 : Int32) (v5 : Int32) (h : mH) {res : Int32 × mH} (e : f_X9_finds_c180 v4 v5 h = some res) (q : (fun r : Int32 × mH => Q (some (.int r.1)) r.2) res) : mGo w kX9_finds 0 0 180 [none, none, none, none, some (.int v4), some (.int v5)] [] h Q := by
  unfold f_X9_finds_c180 at e
  refine mGo.iload (n := 182) (x := v5) dX9_finds_180 rfl rfl ?_
  refine mGo.iload (n := 184) (x := v4) dX9_finds_182 rfl rfl ?_
  refine mGo.icmp_ne (tgt := 191) (n := 187) dX9_finds_184 (by decide) rfl (fun hc => ?_) (fun hc => ?_)
  · replace e := mIff hc e
    refine mGo.iconst (n := 192) (v := (0 : Int32)) dX9_finds_191 (by decide) rfl ?_
    cases e
    exact mGo.zret dX9_finds_192 rfl (by decide) (Nat.le_of_ble_eq_true rfl) (Nat.le_of_ble_eq_true rfl) q
  · replace e := mIft hc e
    refine mGo.iconst (n := 188) (v := (1 : Int32)) dX9_finds_187 (by decide) rfl ?_
    refine mGo.goto (tgt := 192) dX9_finds_188 (by decide) ?_
    cases e
    exact mGo.zret dX9_finds_192 rfl (by decide) (Nat.le_of_ble_eq_true rfl) (Nat.le_of_ble_eq_true rfl) q
noncomputable def f_X9_finds_b95 (v0 : Option Nat) (v1 : Int32) (v2 : Int32) (v3 : Int32) (v4 : Int32) (v5 : Int32) (h : mH) : Option ((Int32 × mH) ⊕ (Int32 × mH)) :=
  if v5 < v3 then
    (f_X9_finds_c180 v4 v5 h).map (fun r => (Sum.inr r))
  else
    if v4 ≤ v5 then
      (f_X9_finds_c180 v4 v5 h).map (fun r => (Sum.inr r))
    else
      (mGR h v0 8 19).bind fun x3 =>
      (mAI h x3 v5).bind fun x4 =>
      (mSI h x3 v5 (x4 + (1 : Int32))).bind fun h5 =>
      (mGR h5 v0 8 19).bind fun x6 =>
      (mAI h5 x6 v5).bind fun x7 =>
      if x7 = ((2 : Int32) * v4) then
        some (Sum.inl ((v5 + (-1)), h5))
      else
        (f_X9_isUsed v0 v5 h5).bind fun x8 =>
        if x8 = 0 then
          (f_X9_agrees v0 v1 v2 v5 h5).bind fun x9 =>
          if x9.1 = 0 then
            some (Sum.inl (v5, x9.2))
          else
            if v4 ≤ (v5 + 1) then
              some (Sum.inl ((v5 + 1), x9.2))
            else
              (mGR x9.2 v0 8 19).bind fun x10 =>
              (mSI x9.2 x10 (v5 + 1) (-1 : Int32)).bind fun h11 =>
              some (Sum.inl ((v5 + 1), h11))
        else
          some (Sum.inl (v5, h5))
set_option maxRecDepth 100000 in
set_option maxHeartbeats 4000000 in
theorem g_X9_finds_b95 {w : mWp} {Q : Option Value → mH → Prop} (v0 : Option Nat) (v1 : Int32) (v2 : Int32) (v3 : Int32) (v4 : Int32) (v5 : Int32) (h : mH) {res : (Int32 × mH) ⊕ (Int32 × mH)} (e : f_X9_finds_b95 v0 v1 v2 v3 v4 v5 h = some res) (q : (Sum.elim (fun x : Int32 × mH => mGo w kX9_finds 0 0 95 [some (va_rf v0), some (.int v1), some (.int v2), some (.int v3), some (.int v4), some (.int x.1)] [] x.2 Q) (fun r : Int32 × mH => Q (some (.int r.1)) r.2)) res) : mGo w kX9_finds 0 0 95 [some (va_rf v0), some (.int v1), some (.int v2), some (.int v3), some (.int v4), some (.int v5)] [] h Q := by
  unfold f_X9_finds_b95 at e
  refine mGo.iload (n := 97) (x := v5) dX9_finds_95 rfl rfl ?_
  refine mGo.iload_n (n := 98) (x := v3) dX9_finds_97 rfl rfl ?_
  refine mGo.icmp_lt (tgt := 180) (n := 101) dX9_finds_98 (by decide) rfl (fun hc => ?_) (fun hc => ?_)
  · replace e := mIft hc e
    obtain ⟨r1, e2, rfl⟩ := mMap e
    refine mGo.mk [false, false, false, false, true, true] ?_
    exact g_X9_finds_c180 v4 v5 h e2 q
  · replace e := mIff hc e
    refine mGo.iload (n := 103) (x := v5) dX9_finds_101 rfl rfl ?_
    refine mGo.iload (n := 105) (x := v4) dX9_finds_103 rfl rfl ?_
    refine mGo.icmp_ge (tgt := 180) (n := 108) dX9_finds_105 (by decide) rfl (fun hc => ?_) (fun hc => ?_)
    · replace e := mIft hc e
      obtain ⟨r2, e2, rfl⟩ := mMap e
      refine mGo.mk [false, false, false, false, true, true] ?_
      exact g_X9_finds_c180 v4 v5 h e2 q
    · replace e := mIff hc e
      refine mGo.aload_n (n := 109) (r := v0) dX9_finds_108 rfl rfl ?_
      obtain ⟨x3, e_x3, e⟩ := mBind e
      refine mGo.getR (n := 112) dX9_finds_109 sf_RX9_60 e_x3 rfl ?_
      refine mGo.iload (n := 114) (x := v5) dX9_finds_112 rfl rfl ?_
      refine mGo.dup2 (n := 115) dX9_finds_114 rfl (mRfc _) rfl ?_
      obtain ⟨x4, e_x4, e⟩ := mBind e
      refine mGo.iald (n := 116) dX9_finds_115 e_x4 rfl ?_
      refine mGo.iconst (n := 117) (v := (1 : Int32)) dX9_finds_116 (by decide) rfl ?_
      refine mGo.iadd (n := 118) dX9_finds_117 rfl ?_
      obtain ⟨h5, e_h5, e⟩ := mBind e
      refine mGo.iast (n := 119) dX9_finds_118 e_h5 rfl ?_
      refine mGo.aload_n (n := 120) (r := v0) dX9_finds_119 rfl rfl ?_
      obtain ⟨x6, e_x6, e⟩ := mBind e
      refine mGo.getR (n := 123) dX9_finds_120 sf_RX9_60 e_x6 rfl ?_
      refine mGo.iload (n := 125) (x := v5) dX9_finds_123 rfl rfl ?_
      obtain ⟨x7, e_x7, e⟩ := mBind e
      refine mGo.iald (n := 126) dX9_finds_125 e_x7 rfl ?_
      refine mGo.iconst (n := 127) (v := (2 : Int32)) dX9_finds_126 (by decide) rfl ?_
      refine mGo.iload (n := 129) (x := v4) dX9_finds_127 rfl rfl ?_
      refine mGo.imul (n := 130) dX9_finds_129 rfl ?_
      refine mGo.icmp_ne (tgt := 139) (n := 133) dX9_finds_130 (by decide) rfl (fun hc => ?_) (fun hc => ?_)
      · replace e := mIff hc e
        refine mGo.aload_n (n := 140) (r := v0) dX9_finds_139 rfl rfl ?_
        refine mGo.iload (n := 142) (x := v5) dX9_finds_140 rfl rfl ?_
        obtain ⟨x8, e_x8, e⟩ := mBind e
        refine mGo.callV (n := 145) (y := zX9_isUsed) (R' := (mRoom (1) 0 0)) (as := [.int v5]) (st := []) (r0 := v0) dX9_finds_142 sc_RX9_238 rfl (s_X9_isUsed v0 v5 h5 e_x8) (e_X9_isUsed v0 v5 h5 e_x8) (mFit_of rfl (Nat.le_of_ble_eq_true rfl) (by decide) (Nat.le_of_ble_eq_true rfl) (Nat.le_of_ble_eq_true rfl)) (Nat.le_of_ble_eq_true rfl) rfl rfl ?_
        intro _ _ hq
        rw [hq.1, hq.2]
        show mGo w kX9_finds 0 0 145 [some (va_rf v0), some (.int v1), some (.int v2), some (.int v3), some (.int v4), some (.int v5)] [.int x8] h5 Q
        refine mGo.if_ne (tgt := 95) (n := 148) dX9_finds_145 (by decide) rfl (fun hc => ?_) (fun hc => ?_)
        · replace e := mIff hc e
          cases e
          refine mGo.mk [true, true, true, true, true, true] ?_
          exact q
        · replace e := mIft hc e
          refine mGo.aload_n (n := 149) (r := v0) dX9_finds_148 rfl rfl ?_
          refine mGo.iload_n (n := 150) (x := v1) dX9_finds_149 rfl rfl ?_
          refine mGo.iload_n (n := 151) (x := v2) dX9_finds_150 rfl rfl ?_
          refine mGo.iload (n := 153) (x := v5) dX9_finds_151 rfl rfl ?_
          obtain ⟨x9, e_x9, e⟩ := mBind e
          refine mGo.callV (n := 156) (y := zX9_agrees) (R' := (mRoom (3) 0 0)) (as := [.int v1, .int v2, .int v5]) (st := []) (r0 := v0) dX9_finds_153 sc_RX9_241 rfl (s_X9_agrees v0 v1 v2 v5 h5 e_x9) (e_X9_agrees v0 v1 v2 v5 h5 e_x9) (mFit_of rfl (Nat.le_of_ble_eq_true rfl) (by decide) (Nat.le_of_ble_eq_true rfl) (Nat.le_of_ble_eq_true rfl)) (Nat.le_of_ble_eq_true rfl) rfl rfl ?_
          intro _ _ hq
          rw [hq.1, hq.2]
          show mGo w kX9_finds 0 0 156 [some (va_rf v0), some (.int v1), some (.int v2), some (.int v3), some (.int v4), some (.int v5)] [.int x9.1] x9.2 Q
          refine mGo.if_eq (tgt := 95) (n := 159) dX9_finds_156 (by decide) rfl (fun hc => ?_) (fun hc => ?_)
          · replace e := mIft hc e
            cases e
            refine mGo.mk [true, true, true, true, true, true] ?_
            exact q
          · replace e := mIff hc e
            refine mGo.iinc (n := 162) (x := v5) (v := (v5 + 1)) (ls' := [some (va_rf v0), some (.int v1), some (.int v2), some (.int v3), some (.int v4), some (.int (v5 + 1))]) dX9_finds_159 rfl rfl rfl (Nat.le_of_ble_eq_true rfl) rfl ?_
            refine mGo.iload (n := 164) (x := (v5 + 1)) dX9_finds_162 rfl rfl ?_
            refine mGo.iload (n := 166) (x := v4) dX9_finds_164 rfl rfl ?_
            refine mGo.icmp_ge (tgt := 95) (n := 169) dX9_finds_166 (by decide) rfl (fun hc => ?_) (fun hc => ?_)
            · replace e := mIft hc e
              cases e
              refine mGo.mk [true, true, true, true, true, true] ?_
              exact q
            · replace e := mIff hc e
              refine mGo.aload_n (n := 170) (r := v0) dX9_finds_169 rfl rfl ?_
              obtain ⟨x10, e_x10, e⟩ := mBind e
              refine mGo.getR (n := 173) dX9_finds_170 sf_RX9_60 e_x10 rfl ?_
              refine mGo.iload (n := 175) (x := (v5 + 1)) dX9_finds_173 rfl rfl ?_
              refine mGo.iconst (n := 176) (v := (-1 : Int32)) dX9_finds_175 (by decide) rfl ?_
              obtain ⟨h11, e_h11, e⟩ := mBind e
              refine mGo.iast (n := 177) dX9_finds_176 e_h11 rfl ?_
              refine mGo.goto (tgt := 95) dX9_finds_177 (by decide) ?_
              cases e
              refine mGo.mk [true, true, true, true, true, true] ?_
              exact q
      · replace e := mIft hc e
        refine mGo.iinc (n := 136) (x := v5) (v := (v5 + (-1))) (ls' := [some (va_rf v0), some (.int v1), some (.int v2), some (.int v3), some (.int v4), some (.int (v5 + (-1)))]) dX9_finds_133 rfl rfl rfl (Nat.le_of_ble_eq_true rfl) rfl ?_
        refine mGo.goto (tgt := 95) dX9_finds_136 (by decide) ?_
        cases e
        refine mGo.mk [true, true, true, true, true, true] ?_
        exact q
noncomputable def f_X9_finds_l95 (v0 : Option Nat) (v1 : Int32) (v2 : Int32) (v3 : Int32) (v4 : Int32) (v5 : Int32) (h : mH) : Option (Int32 × mH) :=
  mLoop (fun x : Int32 × mH => f_X9_finds_b95 v0 v1 v2 v3 v4 x.1 x.2) (v5, h)
set_option maxRecDepth 100000 in
set_option maxHeartbeats 4000000 in
theorem g_X9_finds_l95 {w : mWp} {Q : Option Value → mH → Prop} (v0 : Option Nat) (v1 : Int32) (v2 : Int32) (v3 : Int32) (v4 : Int32) (v5 : Int32) (h : mH) {res : Int32 × mH} (e : f_X9_finds_l95 v0 v1 v2 v3 v4 v5 h = some res) (q : (fun r : Int32 × mH => Q (some (.int r.1)) r.2) res) : mGo w kX9_finds 0 0 95 [some (va_rf v0), some (.int v1), some (.int v2), some (.int v3), some (.int v4), some (.int v5)] [] h Q := by
  unfold f_X9_finds_l95 at e
  refine mLoop_go (x := (v5, h)) (fun x : Int32 × mH => mGo w kX9_finds 0 0 95 [some (va_rf v0), some (.int v1), some (.int v2), some (.int v3), some (.int v4), some (.int x.1)] [] x.2 Q) (fun r : Int32 × mH => Q (some (.int r.1)) r.2) ?_ e q
  rintro ⟨v5, h1⟩ res e q
  exact g_X9_finds_b95 v0 v1 v2 v3 v4 v5 h1 e q
noncomputable def f_X9_finds_b43 (v0 : Option Nat) (v1 : Int32) (v2 : Int32) (v3 : Int32) (v4 : Int32) (v5 : Int32) (h : mH) : Option ((Int32 × mH) ⊕ (Int32 × mH)) :=
  if v3 ≤ v5 then
    if v4 ≤ v3 then
      (f_X9_finds_l95 v0 v1 v2 v3 v4 v3 h).map (fun r => (Sum.inr r))
    else
      (mGR h v0 8 19).bind fun x2 =>
      (mSI h x2 v3 (-1 : Int32)).bind fun h3 =>
      (f_X9_finds_l95 v0 v1 v2 v3 v4 v3 h3).map (fun r => (Sum.inr r))
  else
    (f_X9_isUsed v0 v5 h).bind fun x5 =>
    if x5 = 0 then
      (f_X9_agrees v0 v1 v2 v5 h).bind fun x6 =>
      if x6.1 = 0 then
        some (Sum.inr ((0 : Int32), x6.2))
      else
        some (Sum.inl ((v5 + 1), x6.2))
    else
      some (Sum.inr ((0 : Int32), h))
set_option maxRecDepth 100000 in
set_option maxHeartbeats 4000000 in
theorem g_X9_finds_b43 {w : mWp} {Q : Option Value → mH → Prop} (v0 : Option Nat) (v1 : Int32) (v2 : Int32) (v3 : Int32) (v4 : Int32) (v5 : Int32) (h : mH) {res : (Int32 × mH) ⊕ (Int32 × mH)} (e : f_X9_finds_b43 v0 v1 v2 v3 v4 v5 h = some res) (q : (Sum.elim (fun x : Int32 × mH => mGo w kX9_finds 0 0 43 [some (va_rf v0), some (.int v1), some (.int v2), some (.int v3), some (.int v4), some (.int x.1)] [] x.2 Q) (fun r : Int32 × mH => Q (some (.int r.1)) r.2)) res) : mGo w kX9_finds 0 0 43 [some (va_rf v0), some (.int v1), some (.int v2), some (.int v3), some (.int v4), some (.int v5)] [] h Q := by
  unfold f_X9_finds_b43 at e
  refine mGo.iload (n := 45) (x := v5) dX9_finds_43 rfl rfl ?_
  refine mGo.iload_n (n := 46) (x := v3) dX9_finds_45 rfl rfl ?_
  refine mGo.icmp_ge (tgt := 77) (n := 49) dX9_finds_46 (by decide) rfl (fun hc => ?_) (fun hc => ?_)
  · replace e := mIft hc e
    refine mGo.iload_n (n := 78) (x := v3) dX9_finds_77 rfl rfl ?_
    refine mGo.istore (n := 80) (ls' := [some (va_rf v0), some (.int v1), some (.int v2), some (.int v3), some (.int v4), some (.int v3)]) dX9_finds_78 rfl (Nat.le_of_ble_eq_true rfl) rfl ?_
    refine mGo.iload (n := 82) (x := v3) dX9_finds_80 rfl rfl ?_
    refine mGo.iload (n := 84) (x := v4) dX9_finds_82 rfl rfl ?_
    refine mGo.icmp_ge (tgt := 95) (n := 87) dX9_finds_84 (by decide) rfl (fun hc => ?_) (fun hc => ?_)
    · replace e := mIft hc e
      obtain ⟨r1, e2, rfl⟩ := mMap e
      refine mGo.mk [true, true, true, true, true, true] ?_
      exact g_X9_finds_l95 v0 v1 v2 v3 v4 v3 h e2 q
    · replace e := mIff hc e
      refine mGo.aload_n (n := 88) (r := v0) dX9_finds_87 rfl rfl ?_
      obtain ⟨x2, e_x2, e⟩ := mBind e
      refine mGo.getR (n := 91) dX9_finds_88 sf_RX9_60 e_x2 rfl ?_
      refine mGo.iload (n := 93) (x := v3) dX9_finds_91 rfl rfl ?_
      refine mGo.iconst (n := 94) (v := (-1 : Int32)) dX9_finds_93 (by decide) rfl ?_
      obtain ⟨h3, e_h3, e⟩ := mBind e
      refine mGo.iast (n := 95) dX9_finds_94 e_h3 rfl ?_
      obtain ⟨r4, e2, rfl⟩ := mMap e
      refine mGo.mk [true, true, true, true, true, true] ?_
      exact g_X9_finds_l95 v0 v1 v2 v3 v4 v3 h3 e2 q
  · replace e := mIff hc e
    refine mGo.aload_n (n := 50) (r := v0) dX9_finds_49 rfl rfl ?_
    refine mGo.iload (n := 52) (x := v5) dX9_finds_50 rfl rfl ?_
    obtain ⟨x5, e_x5, e⟩ := mBind e
    refine mGo.callV (n := 55) (y := zX9_isUsed) (R' := (mRoom (1) 0 0)) (as := [.int v5]) (st := []) (r0 := v0) dX9_finds_52 sc_RX9_238 rfl (s_X9_isUsed v0 v5 h e_x5) (e_X9_isUsed v0 v5 h e_x5) (mFit_of rfl (Nat.le_of_ble_eq_true rfl) (by decide) (Nat.le_of_ble_eq_true rfl) (Nat.le_of_ble_eq_true rfl)) (Nat.le_of_ble_eq_true rfl) rfl rfl ?_
    intro _ _ hq
    rw [hq.1, hq.2]
    show mGo w kX9_finds 0 0 55 [some (va_rf v0), some (.int v1), some (.int v2), some (.int v3), some (.int v4), some (.int v5)] [.int x5] h Q
    refine mGo.if_ne (tgt := 69) (n := 58) dX9_finds_55 (by decide) rfl (fun hc => ?_) (fun hc => ?_)
    · replace e := mIff hc e
      refine mGo.iconst (n := 70) (v := (0 : Int32)) dX9_finds_69 (by decide) rfl ?_
      cases e
      exact mGo.zret dX9_finds_70 rfl (by decide) (Nat.le_of_ble_eq_true rfl) (Nat.le_of_ble_eq_true rfl) q
    · replace e := mIft hc e
      refine mGo.aload_n (n := 59) (r := v0) dX9_finds_58 rfl rfl ?_
      refine mGo.iload_n (n := 60) (x := v1) dX9_finds_59 rfl rfl ?_
      refine mGo.iload_n (n := 61) (x := v2) dX9_finds_60 rfl rfl ?_
      refine mGo.iload (n := 63) (x := v5) dX9_finds_61 rfl rfl ?_
      obtain ⟨x6, e_x6, e⟩ := mBind e
      refine mGo.callV (n := 66) (y := zX9_agrees) (R' := (mRoom (3) 0 0)) (as := [.int v1, .int v2, .int v5]) (st := []) (r0 := v0) dX9_finds_63 sc_RX9_241 rfl (s_X9_agrees v0 v1 v2 v5 h e_x6) (e_X9_agrees v0 v1 v2 v5 h e_x6) (mFit_of rfl (Nat.le_of_ble_eq_true rfl) (by decide) (Nat.le_of_ble_eq_true rfl) (Nat.le_of_ble_eq_true rfl)) (Nat.le_of_ble_eq_true rfl) rfl rfl ?_
      intro _ _ hq
      rw [hq.1, hq.2]
      show mGo w kX9_finds 0 0 66 [some (va_rf v0), some (.int v1), some (.int v2), some (.int v3), some (.int v4), some (.int v5)] [.int x6.1] x6.2 Q
      refine mGo.if_ne (tgt := 71) (n := 69) dX9_finds_66 (by decide) rfl (fun hc => ?_) (fun hc => ?_)
      · replace e := mIff hc e
        refine mGo.iinc (n := 74) (x := v5) (v := (v5 + 1)) (ls' := [some (va_rf v0), some (.int v1), some (.int v2), some (.int v3), some (.int v4), some (.int (v5 + 1))]) dX9_finds_71 rfl rfl rfl (Nat.le_of_ble_eq_true rfl) rfl ?_
        refine mGo.goto (tgt := 43) dX9_finds_74 (by decide) ?_
        cases e
        refine mGo.mk [true, true, true, true, true, true] ?_
        exact q
      · replace e := mIft hc e
        refine mGo.iconst (n := 70) (v := (0 : Int32)) dX9_finds_69 (by decide) rfl ?_
        cases e
        exact mGo.zret dX9_finds_70 rfl (by decide) (Nat.le_of_ble_eq_true rfl) (Nat.le_of_ble_eq_true rfl) q
noncomputable def f_X9_finds_l43 (v0 : Option Nat) (v1 : Int32) (v2 : Int32) (v3 : Int32) (v4 : Int32) (v5 : Int32) (h : mH) : Option (Int32 × mH) :=
  mLoop (fun x : Int32 × mH => f_X9_finds_b43 v0 v1 v2 v3 v4 x.1 x.2) (v5, h)
set_option maxRecDepth 100000 in
set_option maxHeartbeats 4000000 in
theorem g_X9_finds_l43 {w : mWp} {Q : Option Value → mH → Prop} (v0 : Option Nat) (v1 : Int32) (v2 : Int32) (v3 : Int32) (v4 : Int32) (v5 : Int32) (h : mH) {res : Int32 × mH} (e : f_X9_finds_l43 v0 v1 v2 v3 v4 v5 h = some res) (q : (fun r : Int32 × mH => Q (some (.int r.1)) r.2) res) : mGo w kX9_finds 0 0 43 [some (va_rf v0), some (.int v1), some (.int v2), some (.int v3), some (.int v4), some (.int v5)] [] h Q := by
  unfold f_X9_finds_l43 at e
  refine mLoop_go (x := (v5, h)) (fun x : Int32 × mH => mGo w kX9_finds 0 0 43 [some (va_rf v0), some (.int v1), some (.int v2), some (.int v3), some (.int v4), some (.int x.1)] [] x.2 Q) (fun r : Int32 × mH => Q (some (.int r.1)) r.2) ?_ e q
  rintro ⟨v5, h1⟩ res e q
  exact g_X9_finds_b43 v0 v1 v2 v3 v4 v5 h1 e q
noncomputable def f_X9_finds_b11 (v0 : Option Nat) (v1 : Int32) (v2 : Int32) (v3 : Int32) (v4 : Int32) (v5 : Int32) (h : mH) : Option ((Int32 × mH) ⊕ (Int32 × mH)) :=
  if (12 : Int32) ≤ v5 then
    (f_X9_finds_l43 v0 v1 v2 v3 v4 (0 : Int32) h).map (fun r => (Sum.inr r))
  else
    (mGR h v0 8 21).bind fun x2 =>
    (mSI h x2 v5 (0 : Int32)).bind fun h3 =>
    (mGR h3 v0 8 22).bind fun x4 =>
    (mSI h3 x4 v5 (0 : Int32)).bind fun h5 =>
    some (Sum.inl ((v5 + 1), h5))
set_option maxRecDepth 100000 in
set_option maxHeartbeats 4000000 in
theorem g_X9_finds_b11 {w : mWp} {Q : Option Value → mH → Prop} (v0 : Option Nat) (v1 : Int32) (v2 : Int32) (v3 : Int32) (v4 : Int32) (v5 : Int32) (h : mH) {res : (Int32 × mH) ⊕ (Int32 × mH)} (e : f_X9_finds_b11 v0 v1 v2 v3 v4 v5 h = some res) (q : (Sum.elim (fun x : Int32 × mH => mGo w kX9_finds 0 0 11 [some (va_rf v0), some (.int v1), some (.int v2), some (.int v3), some (.int v4), some (.int x.1)] [] x.2 Q) (fun r : Int32 × mH => Q (some (.int r.1)) r.2)) res) : mGo w kX9_finds 0 0 11 [some (va_rf v0), some (.int v1), some (.int v2), some (.int v3), some (.int v4), some (.int v5)] [] h Q := by
  unfold f_X9_finds_b11 at e
  refine mGo.iload (n := 13) (x := v5) dX9_finds_11 rfl rfl ?_
  refine mGo.bipush (n := 15) (v := (12 : Int32)) dX9_finds_13 (by decide) rfl ?_
  refine mGo.icmp_ge (tgt := 40) (n := 18) dX9_finds_15 (by decide) rfl (fun hc => ?_) (fun hc => ?_)
  · replace e := mIft hc e
    refine mGo.iconst (n := 41) (v := (0 : Int32)) dX9_finds_40 (by decide) rfl ?_
    refine mGo.istore (n := 43) (ls' := [some (va_rf v0), some (.int v1), some (.int v2), some (.int v3), some (.int v4), some (.int (0 : Int32))]) dX9_finds_41 rfl (Nat.le_of_ble_eq_true rfl) rfl ?_
    obtain ⟨r1, e2, rfl⟩ := mMap e
    refine mGo.mk [true, true, true, true, true, true] ?_
    exact g_X9_finds_l43 v0 v1 v2 v3 v4 (0 : Int32) h e2 q
  · replace e := mIff hc e
    refine mGo.aload_n (n := 19) (r := v0) dX9_finds_18 rfl rfl ?_
    obtain ⟨x2, e_x2, e⟩ := mBind e
    refine mGo.getR (n := 22) dX9_finds_19 sf_RX9_66 e_x2 rfl ?_
    refine mGo.iload (n := 24) (x := v5) dX9_finds_22 rfl rfl ?_
    refine mGo.iconst (n := 25) (v := (0 : Int32)) dX9_finds_24 (by decide) rfl ?_
    obtain ⟨h3, e_h3, e⟩ := mBind e
    refine mGo.iast (n := 26) dX9_finds_25 e_h3 rfl ?_
    refine mGo.aload_n (n := 27) (r := v0) dX9_finds_26 rfl rfl ?_
    obtain ⟨x4, e_x4, e⟩ := mBind e
    refine mGo.getR (n := 30) dX9_finds_27 sf_RX9_69 e_x4 rfl ?_
    refine mGo.iload (n := 32) (x := v5) dX9_finds_30 rfl rfl ?_
    refine mGo.iconst (n := 33) (v := (0 : Int32)) dX9_finds_32 (by decide) rfl ?_
    obtain ⟨h5, e_h5, e⟩ := mBind e
    refine mGo.iast (n := 34) dX9_finds_33 e_h5 rfl ?_
    refine mGo.iinc (n := 37) (x := v5) (v := (v5 + 1)) (ls' := [some (va_rf v0), some (.int v1), some (.int v2), some (.int v3), some (.int v4), some (.int (v5 + 1))]) dX9_finds_34 rfl rfl rfl (Nat.le_of_ble_eq_true rfl) rfl ?_
    refine mGo.goto (tgt := 11) dX9_finds_37 (by decide) ?_
    cases e
    refine mGo.mk [true, true, true, true, true, true] ?_
    exact q
noncomputable def f_X9_finds_l11 (v0 : Option Nat) (v1 : Int32) (v2 : Int32) (v3 : Int32) (v4 : Int32) (v5 : Int32) (h : mH) : Option (Int32 × mH) :=
  mLoop (fun x : Int32 × mH => f_X9_finds_b11 v0 v1 v2 v3 v4 x.1 x.2) (v5, h)
set_option maxRecDepth 100000 in
set_option maxHeartbeats 4000000 in
theorem g_X9_finds_l11 {w : mWp} {Q : Option Value → mH → Prop} (v0 : Option Nat) (v1 : Int32) (v2 : Int32) (v3 : Int32) (v4 : Int32) (v5 : Int32) (h : mH) {res : Int32 × mH} (e : f_X9_finds_l11 v0 v1 v2 v3 v4 v5 h = some res) (q : (fun r : Int32 × mH => Q (some (.int r.1)) r.2) res) : mGo w kX9_finds 0 0 11 [some (va_rf v0), some (.int v1), some (.int v2), some (.int v3), some (.int v4), some (.int v5)] [] h Q := by
  unfold f_X9_finds_l11 at e
  refine mLoop_go (x := (v5, h)) (fun x : Int32 × mH => mGo w kX9_finds 0 0 11 [some (va_rf v0), some (.int v1), some (.int v2), some (.int v3), some (.int v4), some (.int x.1)] [] x.2 Q) (fun r : Int32 × mH => Q (some (.int r.1)) r.2) ?_ e q
  rintro ⟨v5, h1⟩ res e q
  exact g_X9_finds_b11 v0 v1 v2 v3 v4 v5 h1 e q
noncomputable def f_X9_finds (v0 : Option Nat) (v1 : Int32) (v2 : Int32) (v3 : Int32) (h : mH) : Option (Int32 × mH) :=
  (mIs h v0 8).bind fun _ =>
  (mGR h v0 8 1).bind fun x1 =>
  (mAI h x1 v1).bind fun x2 =>
  f_X9_finds_l11 v0 v1 v2 v3 x2 (0 : Int32) h
set_option maxRecDepth 100000 in
set_option maxHeartbeats 4000000 in
theorem g_X9_finds {w : mWp} {Q : Option Value → mH → Prop} (v0 : Option Nat) (v1 : Int32) (v2 : Int32) (v3 : Int32) (h : mH) {res : Int32 × mH} (e : f_X9_finds v0 v1 v2 v3 h = some res) (q : (fun r : Int32 × mH => Q (some (.int r.1)) r.2) res) : mGo w kX9_finds 0 0 0 [some (va_rf v0), some (.int v1), some (.int v2), some (.int v3), none, none] [] h Q := by
  unfold f_X9_finds at e
  obtain ⟨_, _, e⟩ := mBind e
  refine mGo.aload_n (n := 1) (r := v0) dX9_finds_0 rfl rfl ?_
  obtain ⟨x1, e_x1, e⟩ := mBind e
  refine mGo.getR (n := 4) dX9_finds_1 sf_RX9_13 e_x1 rfl ?_
  refine mGo.iload_n (n := 5) (x := v1) dX9_finds_4 rfl rfl ?_
  obtain ⟨x2, e_x2, e⟩ := mBind e
  refine mGo.iald (n := 6) dX9_finds_5 e_x2 rfl ?_
  refine mGo.istore (n := 8) (ls' := [some (va_rf v0), some (.int v1), some (.int v2), some (.int v3), some (.int x2), none]) dX9_finds_6 rfl (Nat.le_of_ble_eq_true rfl) rfl ?_
  refine mGo.iconst (n := 9) (v := (0 : Int32)) dX9_finds_8 (by decide) rfl ?_
  refine mGo.istore (n := 11) (ls' := [some (va_rf v0), some (.int v1), some (.int v2), some (.int v3), some (.int x2), some (.int (0 : Int32))]) dX9_finds_9 rfl (Nat.le_of_ble_eq_true rfl) rfl ?_
  refine mGo.mk [true, true, true, true, true, true] ?_
  exact g_X9_finds_l11 v0 v1 v2 v3 x2 (0 : Int32) h e q
theorem e_X9_finds {w : mWp} (v0 : Option Nat) (v1 : Int32) (v2 : Int32) (v3 : Int32) (h : mH) {res : Int32 × mH} (e : f_X9_finds v0 v1 v2 v3 h = some res) : mEx w zX9_finds (mRoom 4 0 0) [va_rf v0, .int v1, .int v2, .int v3] h (fun r h2 => r = some (.int res.1) ∧ h2 = res.2) := by
  refine mEx.of (by decide +kernel) (show mEnt [va_rf v0, .int v1, .int v2, .int v3] 6 = [some (va_rf v0), some (.int v1), some (.int v2), some (.int v3), none, none] by rw [mEnt_r, mEnt_i, mEnt_i, mEnt_i] <;> rfl) (by simp only [List.map_cons, List.map_nil, mRfc, mCi, mCj, List.sum_cons, List.sum_nil]; exact Nat.le_of_ble_eq_true rfl) ?_
  refine g_X9_finds v0 v1 v2 v3 h e ?_
  exact ⟨rfl, rfl⟩
theorem s_X9_finds (v0 : Option Nat) (v1 : Int32) (v2 : Int32) (v3 : Int32) (h : mH) {res : Int32 × mH} (e : f_X9_finds v0 v1 v2 v3 h = some res) : mIs h v0 8 = some () := by
  unfold f_X9_finds at e
  obtain ⟨u, e1, _⟩ := mBind e
  cases u
  exact e1
-- X9_laysColumns
def kX9_laysColumns : mK := (cX9_laysColumns, RX9, 6, none, "laysColumns", mRoom 2 0 0)
def zX9_laysColumns : mY := (yX9_laysColumns, cX9_laysColumns, 6, none)
def f_X9_laysColumns_c103 (v0 : Option Nat) (v1 : Int32) (v2 : Int32) (v3 : Int32) (s0 : Option Nat) (s1 : Int32) (s2 : Int32) (s3 : Int32) (h : mH) : Option ((Int32 × Int32 × mH) ⊕ (mH)) :=
  (mSI h s0 s1 (s2 + s3)).bind fun h1 =>
  some (Sum.inl (v2, (v3 + 1), h1))
set_option maxRecDepth 100000 in
set_option maxHeartbeats 4000000 in
theorem g_X9_laysColumns_c103 {w : mWp} {Q : Option Value → mH → Prop} (v0 : Option Nat) (v1 : Int32) (v2 : Int32) (v3 : Int32) (s0 : Option Nat) (s1 : Int32) (s2 : Int32) (s3 : Int32) (h : mH) {res : (Int32 × Int32 × mH) ⊕ (mH)} (e : f_X9_laysColumns_c103 v0 v1 v2 v3 s0 s1 s2 s3 h = some res) (q : (Sum.elim (fun x : Int32 × Int32 × mH => mGo w kX9_laysColumns 0 0 4 [some (va_rf v0), some (.int v1), some (.int x.1), some (.int x.2.1), none, none] [] x.2.2 Q) (fun r : mH => Q none r)) res) : mGo w kX9_laysColumns 0 0 103 [some (va_rf v0), some (.int v1), some (.int v2), some (.int v3), none, none] [.int s3, .int s2, .int s1, va_rf s0] h Q := by
  unfold f_X9_laysColumns_c103 at e
  refine mGo.iadd (n := 104) dX9_laysColumns_103 rfl ?_
  obtain ⟨h1, e_h1, e⟩ := mBind e
  refine mGo.iast (n := 105) dX9_laysColumns_104 e_h1 rfl ?_
  refine mGo.iinc (n := 108) (x := v3) (v := (v3 + 1)) (ls' := [some (va_rf v0), some (.int v1), some (.int v2), some (.int (v3 + 1)), none, none]) dX9_laysColumns_105 rfl rfl rfl (Nat.le_of_ble_eq_true rfl) rfl ?_
  refine mGo.goto (tgt := 4) dX9_laysColumns_108 (by decide) ?_
  cases e
  refine mGo.mk [true, true, true, true, false, false] ?_
  exact q
def f_X9_laysColumns_b25 (v0 : Option Nat) (v1 : Int32) (v2 : Int32) (v3 : Int32) (v4 : Int32) (v5 : Int32) (h : mH) : Option ((Int32) ⊕ ((Int32 × Int32 × mH) ⊕ (mH))) :=
  (f_X9_has v2 v5).bind fun x1 =>
  if x1 = 0 then
    (mGR h v0 8 22).bind fun x2 =>
    (mAI h x2 (((12 : Int32) * v1) + v5)).bind fun x3 =>
    (f_X9_plain x3 v1).bind fun x4 =>
    (f_X9_plain v4 v1).bind fun x5 =>
    if x4 = x5 then
      (mGR h v0 8 20).bind fun x6 =>
      (mGR h v0 8 22).bind fun x7 =>
      (mAI h x7 (((12 : Int32) * v1) + v5)).bind fun x8 =>
      if x8 = v4 then
        (f_X9_laysColumns_c103 v0 v1 (v2 ||| ((1 : Int32) <<< (v5 &&& 31))) v3 x6 v3 ((2 : Int32) * v5) (0 : Int32) h).map (fun r => (Sum.inr r))
      else
        (f_X9_laysColumns_c103 v0 v1 (v2 ||| ((1 : Int32) <<< (v5 &&& 31))) v3 x6 v3 ((2 : Int32) * v5) (1 : Int32) h).map (fun r => (Sum.inr r))
    else
      some (Sum.inl (v5 + 1))
  else
    some (Sum.inl (v5 + 1))
set_option maxRecDepth 100000 in
set_option maxHeartbeats 4000000 in
theorem g_X9_laysColumns_b25 {w : mWp} {Q : Option Value → mH → Prop} (v0 : Option Nat) (v1 : Int32) (v2 : Int32) (v3 : Int32) (v4 : Int32) (v5 : Int32) (h : mH) {res : (Int32) ⊕ ((Int32 × Int32 × mH) ⊕ (mH))} (e : f_X9_laysColumns_b25 v0 v1 v2 v3 v4 v5 h = some res) (q : (Sum.elim (fun x : Int32 => mGo w kX9_laysColumns 0 0 25 [some (va_rf v0), some (.int v1), some (.int v2), some (.int v3), some (.int v4), some (.int x)] [] h Q) (Sum.elim (fun x : Int32 × Int32 × mH => mGo w kX9_laysColumns 0 0 4 [some (va_rf v0), some (.int v1), some (.int x.1), some (.int x.2.1), none, none] [] x.2.2 Q) (fun r : mH => Q none r))) res) : mGo w kX9_laysColumns 0 0 25 [some (va_rf v0), some (.int v1), some (.int v2), some (.int v3), some (.int v4), some (.int v5)] [] h Q := by
  unfold f_X9_laysColumns_b25 at e
  refine mGo.iload_n (n := 26) (x := v2) dX9_laysColumns_25 rfl rfl ?_
  refine mGo.iload (n := 28) (x := v5) dX9_laysColumns_26 rfl rfl ?_
  obtain ⟨x1, e_x1, e⟩ := mBind e
  refine mGo.callS (n := 31) (y := zX9_has) (R' := (mRoom (1) 0 0)) (as := [.int v2, .int v5]) (st := []) dX9_laysColumns_28 sc_RX9_94 rfl (e_X9_has v2 v5 h e_x1) (mFit_of rfl (Nat.le_of_ble_eq_true rfl) (by decide) (Nat.le_of_ble_eq_true rfl) (Nat.le_of_ble_eq_true rfl)) (Nat.le_of_ble_eq_true rfl) rfl rfl ?_
  intro _ _ hq
  rw [hq.1, hq.2]
  show mGo w kX9_laysColumns 0 0 31 [some (va_rf v0), some (.int v1), some (.int v2), some (.int v3), some (.int v4), some (.int v5)] [.int x1] h Q
  refine mGo.if_ne (tgt := 59) (n := 34) dX9_laysColumns_31 (by decide) rfl (fun hc => ?_) (fun hc => ?_)
  · replace e := mIff hc e
    refine mGo.iinc (n := 62) (x := v5) (v := (v5 + 1)) (ls' := [some (va_rf v0), some (.int v1), some (.int v2), some (.int v3), some (.int v4), some (.int (v5 + 1))]) dX9_laysColumns_59 rfl rfl rfl (Nat.le_of_ble_eq_true rfl) rfl ?_
    refine mGo.goto (tgt := 25) dX9_laysColumns_62 (by decide) ?_
    cases e
    refine mGo.mk [true, true, true, true, true, true] ?_
    exact q
  · replace e := mIft hc e
    refine mGo.aload_n (n := 35) (r := v0) dX9_laysColumns_34 rfl rfl ?_
    obtain ⟨x2, e_x2, e⟩ := mBind e
    refine mGo.getR (n := 38) dX9_laysColumns_35 sf_RX9_69 e_x2 rfl ?_
    refine mGo.bipush (n := 40) (v := (12 : Int32)) dX9_laysColumns_38 (by decide) rfl ?_
    refine mGo.iload_n (n := 41) (x := v1) dX9_laysColumns_40 rfl rfl ?_
    refine mGo.imul (n := 42) dX9_laysColumns_41 rfl ?_
    refine mGo.iload (n := 44) (x := v5) dX9_laysColumns_42 rfl rfl ?_
    refine mGo.iadd (n := 45) dX9_laysColumns_44 rfl ?_
    obtain ⟨x3, e_x3, e⟩ := mBind e
    refine mGo.iald (n := 46) dX9_laysColumns_45 e_x3 rfl ?_
    refine mGo.iload_n (n := 47) (x := v1) dX9_laysColumns_46 rfl rfl ?_
    obtain ⟨x4, e_x4, e⟩ := mBind e
    refine mGo.callS (n := 50) (y := zX9_plain) (R' := (mRoom (1) 0 0)) (as := [.int x3, .int v1]) (st := []) dX9_laysColumns_47 sc_RX9_235 rfl (e_X9_plain x3 v1 h e_x4) (mFit_of rfl (Nat.le_of_ble_eq_true rfl) (by decide) (Nat.le_of_ble_eq_true rfl) (Nat.le_of_ble_eq_true rfl)) (Nat.le_of_ble_eq_true rfl) rfl rfl ?_
    intro _ _ hq
    rw [hq.1, hq.2]
    show mGo w kX9_laysColumns 0 0 50 [some (va_rf v0), some (.int v1), some (.int v2), some (.int v3), some (.int v4), some (.int v5)] [.int x4] h Q
    refine mGo.iload (n := 52) (x := v4) dX9_laysColumns_50 rfl rfl ?_
    refine mGo.iload_n (n := 53) (x := v1) dX9_laysColumns_52 rfl rfl ?_
    obtain ⟨x5, e_x5, e⟩ := mBind e
    refine mGo.callS (n := 56) (y := zX9_plain) (R' := (mRoom (1) 0 0)) (as := [.int v4, .int v1]) (st := [.int x4]) dX9_laysColumns_53 sc_RX9_235 rfl (e_X9_plain v4 v1 h e_x5) (mFit_of rfl (Nat.le_of_ble_eq_true rfl) (by decide) (Nat.le_of_ble_eq_true rfl) (Nat.le_of_ble_eq_true rfl)) (Nat.le_of_ble_eq_true rfl) rfl rfl ?_
    intro _ _ hq
    rw [hq.1, hq.2]
    show mGo w kX9_laysColumns 0 0 56 [some (va_rf v0), some (.int v1), some (.int v2), some (.int v3), some (.int v4), some (.int v5)] [.int x5, .int x4] h Q
    refine mGo.icmp_eq (tgt := 65) (n := 59) dX9_laysColumns_56 (by decide) rfl (fun hc => ?_) (fun hc => ?_)
    · replace e := mIft hc e
      refine mGo.iload_n (n := 66) (x := v2) dX9_laysColumns_65 rfl rfl ?_
      refine mGo.iconst (n := 67) (v := (1 : Int32)) dX9_laysColumns_66 (by decide) rfl ?_
      refine mGo.iload (n := 69) (x := v5) dX9_laysColumns_67 rfl rfl ?_
      refine mGo.ishl (n := 70) dX9_laysColumns_69 rfl ?_
      refine mGo.ior (n := 71) dX9_laysColumns_70 rfl ?_
      refine mGo.istore_n (n := 72) (ls' := [some (va_rf v0), some (.int v1), some (.int (v2 ||| ((1 : Int32) <<< (v5 &&& 31)))), some (.int v3), some (.int v4), some (.int v5)]) dX9_laysColumns_71 rfl (Nat.le_of_ble_eq_true rfl) rfl ?_
      refine mGo.aload_n (n := 73) (r := v0) dX9_laysColumns_72 rfl rfl ?_
      obtain ⟨x6, e_x6, e⟩ := mBind e
      refine mGo.getR (n := 76) dX9_laysColumns_73 sf_RX9_63 e_x6 rfl ?_
      refine mGo.iload_n (n := 77) (x := v3) dX9_laysColumns_76 rfl rfl ?_
      refine mGo.iconst (n := 78) (v := (2 : Int32)) dX9_laysColumns_77 (by decide) rfl ?_
      refine mGo.iload (n := 80) (x := v5) dX9_laysColumns_78 rfl rfl ?_
      refine mGo.imul (n := 81) dX9_laysColumns_80 rfl ?_
      refine mGo.aload_n (n := 82) (r := v0) dX9_laysColumns_81 rfl rfl ?_
      obtain ⟨x7, e_x7, e⟩ := mBind e
      refine mGo.getR (n := 85) dX9_laysColumns_82 sf_RX9_69 e_x7 rfl ?_
      refine mGo.bipush (n := 87) (v := (12 : Int32)) dX9_laysColumns_85 (by decide) rfl ?_
      refine mGo.iload_n (n := 88) (x := v1) dX9_laysColumns_87 rfl rfl ?_
      refine mGo.imul (n := 89) dX9_laysColumns_88 rfl ?_
      refine mGo.iload (n := 91) (x := v5) dX9_laysColumns_89 rfl rfl ?_
      refine mGo.iadd (n := 92) dX9_laysColumns_91 rfl ?_
      obtain ⟨x8, e_x8, e⟩ := mBind e
      refine mGo.iald (n := 93) dX9_laysColumns_92 e_x8 rfl ?_
      refine mGo.iload (n := 95) (x := v4) dX9_laysColumns_93 rfl rfl ?_
      refine mGo.icmp_ne (tgt := 102) (n := 98) dX9_laysColumns_95 (by decide) rfl (fun hc => ?_) (fun hc => ?_)
      · replace e := mIff hc e
        refine mGo.iconst (n := 103) (v := (1 : Int32)) dX9_laysColumns_102 (by decide) rfl ?_
        obtain ⟨r9, e2, rfl⟩ := mMap e
        refine mGo.mk [true, true, true, true, false, false] ?_
        exact g_X9_laysColumns_c103 v0 v1 (v2 ||| ((1 : Int32) <<< (v5 &&& 31))) v3 x6 v3 ((2 : Int32) * v5) (1 : Int32) h e2 q
      · replace e := mIft hc e
        refine mGo.iconst (n := 99) (v := (0 : Int32)) dX9_laysColumns_98 (by decide) rfl ?_
        refine mGo.goto (tgt := 103) dX9_laysColumns_99 (by decide) ?_
        obtain ⟨r10, e2, rfl⟩ := mMap e
        refine mGo.mk [true, true, true, true, false, false] ?_
        exact g_X9_laysColumns_c103 v0 v1 (v2 ||| ((1 : Int32) <<< (v5 &&& 31))) v3 x6 v3 ((2 : Int32) * v5) (0 : Int32) h e2 q
    · replace e := mIff hc e
      refine mGo.iinc (n := 62) (x := v5) (v := (v5 + 1)) (ls' := [some (va_rf v0), some (.int v1), some (.int v2), some (.int v3), some (.int v4), some (.int (v5 + 1))]) dX9_laysColumns_59 rfl rfl rfl (Nat.le_of_ble_eq_true rfl) rfl ?_
      refine mGo.goto (tgt := 25) dX9_laysColumns_62 (by decide) ?_
      cases e
      refine mGo.mk [true, true, true, true, true, true] ?_
      exact q
noncomputable def f_X9_laysColumns_l25 (v0 : Option Nat) (v1 : Int32) (v2 : Int32) (v3 : Int32) (v4 : Int32) (v5 : Int32) (h : mH) : Option ((Int32 × Int32 × mH) ⊕ (mH)) :=
  mLoop (fun x : Int32 => f_X9_laysColumns_b25 v0 v1 v2 v3 v4 x h) (v5)
set_option maxRecDepth 100000 in
set_option maxHeartbeats 4000000 in
theorem g_X9_laysColumns_l25 {w : mWp} {Q : Option Value → mH → Prop} (v0 : Option Nat) (v1 : Int32) (v2 : Int32) (v3 : Int32) (v4 : Int32) (v5 : Int32) (h : mH) {res : (Int32 × Int32 × mH) ⊕ (mH)} (e : f_X9_laysColumns_l25 v0 v1 v2 v3 v4 v5 h = some res) (q : (Sum.elim (fun x : Int32 × Int32 × mH => mGo w kX9_laysColumns 0 0 4 [some (va_rf v0), some (.int v1), some (.int x.1), some (.int x.2.1), none, none] [] x.2.2 Q) (fun r : mH => Q none r)) res) : mGo w kX9_laysColumns 0 0 25 [some (va_rf v0), some (.int v1), some (.int v2), some (.int v3), some (.int v4), some (.int v5)] [] h Q := by
  unfold f_X9_laysColumns_l25 at e
  refine mLoop_go (x := (v5)) (fun x : Int32 => mGo w kX9_laysColumns 0 0 25 [some (va_rf v0), some (.int v1), some (.int v2), some (.int v3), some (.int v4), some (.int x)] [] h Q) (Sum.elim (fun x : Int32 × Int32 × mH => mGo w kX9_laysColumns 0 0 4 [some (va_rf v0), some (.int v1), some (.int x.1), some (.int x.2.1), none, none] [] x.2.2 Q) (fun r : mH => Q none r)) ?_ e q
  rintro v5 res e q
  exact g_X9_laysColumns_b25 v0 v1 v2 v3 v4 v5 h e q
noncomputable def f_X9_laysColumns_b4 (v0 : Option Nat) (v1 : Int32) (v2 : Int32) (v3 : Int32) (h : mH) : Option ((Int32 × Int32 × mH) ⊕ (mH)) :=
  if v1 ≤ v3 then
    some (Sum.inr h)
  else
    (mGR h v0 8 21).bind fun x1 =>
    (mAI h x1 (((12 : Int32) * v1) + v3)).bind fun x2 =>
    f_X9_laysColumns_l25 v0 v1 v2 v3 x2 (0 : Int32) h
set_option maxRecDepth 100000 in
set_option maxHeartbeats 4000000 in
theorem g_X9_laysColumns_b4 {w : mWp} {Q : Option Value → mH → Prop} (v0 : Option Nat) (v1 : Int32) (v2 : Int32) (v3 : Int32) (h : mH) {res : (Int32 × Int32 × mH) ⊕ (mH)} (e : f_X9_laysColumns_b4 v0 v1 v2 v3 h = some res) (q : (Sum.elim (fun x : Int32 × Int32 × mH => mGo w kX9_laysColumns 0 0 4 [some (va_rf v0), some (.int v1), some (.int x.1), some (.int x.2.1), none, none] [] x.2.2 Q) (fun r : mH => Q none r)) res) : mGo w kX9_laysColumns 0 0 4 [some (va_rf v0), some (.int v1), some (.int v2), some (.int v3), none, none] [] h Q := by
  unfold f_X9_laysColumns_b4 at e
  refine mGo.iload_n (n := 5) (x := v3) dX9_laysColumns_4 rfl rfl ?_
  refine mGo.iload_n (n := 6) (x := v1) dX9_laysColumns_5 rfl rfl ?_
  refine mGo.icmp_ge (tgt := 111) (n := 9) dX9_laysColumns_6 (by decide) rfl (fun hc => ?_) (fun hc => ?_)
  · replace e := mIft hc e
    cases e
    exact mGo.vret dX9_laysColumns_111 rfl (Nat.le_of_ble_eq_true rfl) (Nat.le_of_ble_eq_true rfl) q
  · replace e := mIff hc e
    refine mGo.aload_n (n := 10) (r := v0) dX9_laysColumns_9 rfl rfl ?_
    obtain ⟨x1, e_x1, e⟩ := mBind e
    refine mGo.getR (n := 13) dX9_laysColumns_10 sf_RX9_66 e_x1 rfl ?_
    refine mGo.bipush (n := 15) (v := (12 : Int32)) dX9_laysColumns_13 (by decide) rfl ?_
    refine mGo.iload_n (n := 16) (x := v1) dX9_laysColumns_15 rfl rfl ?_
    refine mGo.imul (n := 17) dX9_laysColumns_16 rfl ?_
    refine mGo.iload_n (n := 18) (x := v3) dX9_laysColumns_17 rfl rfl ?_
    refine mGo.iadd (n := 19) dX9_laysColumns_18 rfl ?_
    obtain ⟨x2, e_x2, e⟩ := mBind e
    refine mGo.iald (n := 20) dX9_laysColumns_19 e_x2 rfl ?_
    refine mGo.istore (n := 22) (ls' := [some (va_rf v0), some (.int v1), some (.int v2), some (.int v3), some (.int x2), none]) dX9_laysColumns_20 rfl (Nat.le_of_ble_eq_true rfl) rfl ?_
    refine mGo.iconst (n := 23) (v := (0 : Int32)) dX9_laysColumns_22 (by decide) rfl ?_
    refine mGo.istore (n := 25) (ls' := [some (va_rf v0), some (.int v1), some (.int v2), some (.int v3), some (.int x2), some (.int (0 : Int32))]) dX9_laysColumns_23 rfl (Nat.le_of_ble_eq_true rfl) rfl ?_
    refine mGo.mk [true, true, true, true, true, true] ?_
    exact g_X9_laysColumns_l25 v0 v1 v2 v3 x2 (0 : Int32) h e q
noncomputable def f_X9_laysColumns_l4 (v0 : Option Nat) (v1 : Int32) (v2 : Int32) (v3 : Int32) (h : mH) : Option (mH) :=
  mLoop (fun x : Int32 × Int32 × mH => f_X9_laysColumns_b4 v0 v1 x.1 x.2.1 x.2.2) (v2, v3, h)
set_option maxRecDepth 100000 in
set_option maxHeartbeats 4000000 in
theorem g_X9_laysColumns_l4 {w : mWp} {Q : Option Value → mH → Prop} (v0 : Option Nat) (v1 : Int32) (v2 : Int32) (v3 : Int32) (h : mH) {res : mH} (e : f_X9_laysColumns_l4 v0 v1 v2 v3 h = some res) (q : (fun r : mH => Q none r) res) : mGo w kX9_laysColumns 0 0 4 [some (va_rf v0), some (.int v1), some (.int v2), some (.int v3), none, none] [] h Q := by
  unfold f_X9_laysColumns_l4 at e
  refine mLoop_go (x := (v2, v3, h)) (fun x : Int32 × Int32 × mH => mGo w kX9_laysColumns 0 0 4 [some (va_rf v0), some (.int v1), some (.int x.1), some (.int x.2.1), none, none] [] x.2.2 Q) (fun r : mH => Q none r) ?_ e q
  rintro ⟨v2, v3, h1⟩ res e q
  exact g_X9_laysColumns_b4 v0 v1 v2 v3 h1 e q
noncomputable def f_X9_laysColumns (v0 : Option Nat) (v1 : Int32) (h : mH) : Option (mH) :=
  (mIs h v0 8).bind fun _ =>
  f_X9_laysColumns_l4 v0 v1 (0 : Int32) (0 : Int32) h
set_option maxRecDepth 100000 in
set_option maxHeartbeats 4000000 in
theorem g_X9_laysColumns {w : mWp} {Q : Option Value → mH → Prop} (v0 : Option Nat) (v1 : Int32) (h : mH) {res : mH} (e : f_X9_laysColumns v0 v1 h = some res) (q : (fun r : mH => Q none r) res) : mGo w kX9_laysColumns 0 0 0 [some (va_rf v0), some (.int v1), none, none, none, none] [] h Q := by
  unfold f_X9_laysColumns at e
  obtain ⟨_, _, e⟩ := mBind e
  refine mGo.iconst (n := 1) (v := (0 : Int32)) dX9_laysColumns_0 (by decide) rfl ?_
  refine mGo.istore_n (n := 2) (ls' := [some (va_rf v0), some (.int v1), some (.int (0 : Int32)), none, none, none]) dX9_laysColumns_1 rfl (Nat.le_of_ble_eq_true rfl) rfl ?_
  refine mGo.iconst (n := 3) (v := (0 : Int32)) dX9_laysColumns_2 (by decide) rfl ?_
  refine mGo.istore_n (n := 4) (ls' := [some (va_rf v0), some (.int v1), some (.int (0 : Int32)), some (.int (0 : Int32)), none, none]) dX9_laysColumns_3 rfl (Nat.le_of_ble_eq_true rfl) rfl ?_
  refine mGo.mk [true, true, true, true, false, false] ?_
  exact g_X9_laysColumns_l4 v0 v1 (0 : Int32) (0 : Int32) h e q
theorem e_X9_laysColumns {w : mWp} (v0 : Option Nat) (v1 : Int32) (h : mH) {res : mH} (e : f_X9_laysColumns v0 v1 h = some res) : mEx w zX9_laysColumns (mRoom 2 0 0) [va_rf v0, .int v1] h (fun r h2 => r = none ∧ h2 = res) := by
  refine mEx.of (by decide +kernel) (show mEnt [va_rf v0, .int v1] 6 = [some (va_rf v0), some (.int v1), none, none, none, none] by rw [mEnt_r, mEnt_i] <;> rfl) (by simp only [List.map_cons, List.map_nil, mRfc, mCi, mCj, List.sum_cons, List.sum_nil]; exact Nat.le_of_ble_eq_true rfl) ?_
  refine g_X9_laysColumns v0 v1 h e ?_
  exact ⟨rfl, rfl⟩
theorem s_X9_laysColumns (v0 : Option Nat) (v1 : Int32) (h : mH) {res : mH} (e : f_X9_laysColumns v0 v1 h = some res) : mIs h v0 8 = some () := by
  unfold f_X9_laysColumns at e
  obtain ⟨u, e1, _⟩ := mBind e
  cases u
  exact e1
-- X9_canAsk
def kX9_canAsk : mK := (cX9_canAsk, RX9, 4, some (.boolean), "canAsk", mRoom 5 0 0)
def zX9_canAsk : mY := (yX9_canAsk, cX9_canAsk, 4, some (.boolean))
set_option maxRecDepth 100000 in
theorem sc_RX9_244 : mSV RX9 244 zX9_isPerpendicular 1 8 := ⟨Or.inl (mT_at 1154 (by decide +kernel) rfl), mT_at 1156 (by decide +kernel) rfl, mT_at 69 (by decide +kernel) rfl, mT_at 91 (by decide +kernel) rfl, mT_at 1157 (by decide +kernel) rfl, ⟨by decide +kernel, by decide +kernel, by decide +kernel⟩, by decide, rfl⟩
noncomputable def f_X9_canAsk (v0 : Option Nat) (v1 : Int32) (v2 : Int32) (h : mH) : Option (Int32 × mH) :=
  (mIs h v0 8).bind fun _ =>
  (mGR h v0 8 1).bind fun x1 =>
  (mAI h x1 v1).bind fun x2 =>
  (mGR h v0 8 1).bind fun x3 =>
  (mAI h x3 v2).bind fun x4 =>
  if x2 = x4 then
    if x2 ≤ (12 : Int32) then
      if x2 ≤ (6 : Int32) then
        some ((1 : Int32), h)
      else
        (f_X9_isPerpendicular v0 v1 h).bind fun x5 =>
        if x5.1 = 0 then
          some ((0 : Int32), x5.2)
        else
          (f_X9_isPerpendicular v0 v2 x5.2).bind fun x6 =>
          if x6.1 = 0 then
            some ((0 : Int32), x6.2)
          else
            some ((1 : Int32), x6.2)
    else
      some ((0 : Int32), h)
  else
    some ((0 : Int32), h)
set_option maxRecDepth 100000 in
set_option maxHeartbeats 4000000 in
theorem g_X9_canAsk {w : mWp} {Q : Option Value → mH → Prop} (v0 : Option Nat) (v1 : Int32) (v2 : Int32) (h : mH) {res : Int32 × mH} (e : f_X9_canAsk v0 v1 v2 h = some res) (q : (fun r : Int32 × mH => Q (some (.int r.1)) r.2) res) : mGo w kX9_canAsk 0 0 0 [some (va_rf v0), some (.int v1), some (.int v2), none] [] h Q := by
  unfold f_X9_canAsk at e
  obtain ⟨_, _, e⟩ := mBind e
  refine mGo.aload_n (n := 1) (r := v0) dX9_canAsk_0 rfl rfl ?_
  obtain ⟨x1, e_x1, e⟩ := mBind e
  refine mGo.getR (n := 4) dX9_canAsk_1 sf_RX9_13 e_x1 rfl ?_
  refine mGo.iload_n (n := 5) (x := v1) dX9_canAsk_4 rfl rfl ?_
  obtain ⟨x2, e_x2, e⟩ := mBind e
  refine mGo.iald (n := 6) dX9_canAsk_5 e_x2 rfl ?_
  refine mGo.istore_n (n := 7) (ls' := [some (va_rf v0), some (.int v1), some (.int v2), some (.int x2)]) dX9_canAsk_6 rfl (Nat.le_of_ble_eq_true rfl) rfl ?_
  refine mGo.iload_n (n := 8) (x := x2) dX9_canAsk_7 rfl rfl ?_
  refine mGo.aload_n (n := 9) (r := v0) dX9_canAsk_8 rfl rfl ?_
  obtain ⟨x3, e_x3, e⟩ := mBind e
  refine mGo.getR (n := 12) dX9_canAsk_9 sf_RX9_13 e_x3 rfl ?_
  refine mGo.iload_n (n := 13) (x := v2) dX9_canAsk_12 rfl rfl ?_
  obtain ⟨x4, e_x4, e⟩ := mBind e
  refine mGo.iald (n := 14) dX9_canAsk_13 e_x4 rfl ?_
  refine mGo.icmp_ne (tgt := 23) (n := 17) dX9_canAsk_14 (by decide) rfl (fun hc => ?_) (fun hc => ?_)
  · replace e := mIff hc e
    refine mGo.iconst (n := 24) (v := (0 : Int32)) dX9_canAsk_23 (by decide) rfl ?_
    cases e
    exact mGo.zret dX9_canAsk_24 rfl (by decide) (Nat.le_of_ble_eq_true rfl) (Nat.le_of_ble_eq_true rfl) q
  · replace e := mIft hc e
    refine mGo.iload_n (n := 18) (x := x2) dX9_canAsk_17 rfl rfl ?_
    refine mGo.bipush (n := 20) (v := (12 : Int32)) dX9_canAsk_18 (by decide) rfl ?_
    refine mGo.icmp_le (tgt := 25) (n := 23) dX9_canAsk_20 (by decide) rfl (fun hc => ?_) (fun hc => ?_)
    · replace e := mIft hc e
      refine mGo.iload_n (n := 26) (x := x2) dX9_canAsk_25 rfl rfl ?_
      refine mGo.bipush (n := 28) (v := (6 : Int32)) dX9_canAsk_26 (by decide) rfl ?_
      refine mGo.icmp_le (tgt := 47) (n := 31) dX9_canAsk_28 (by decide) rfl (fun hc => ?_) (fun hc => ?_)
      · replace e := mIft hc e
        refine mGo.iconst (n := 48) (v := (1 : Int32)) dX9_canAsk_47 (by decide) rfl ?_
        refine mGo.goto (tgt := 52) dX9_canAsk_48 (by decide) ?_
        cases e
        exact mGo.zret dX9_canAsk_52 rfl (by decide) (Nat.le_of_ble_eq_true rfl) (Nat.le_of_ble_eq_true rfl) q
      · replace e := mIff hc e
        refine mGo.aload_n (n := 32) (r := v0) dX9_canAsk_31 rfl rfl ?_
        refine mGo.iload_n (n := 33) (x := v1) dX9_canAsk_32 rfl rfl ?_
        obtain ⟨x5, e_x5, e⟩ := mBind e
        refine mGo.callV (n := 36) (y := zX9_isPerpendicular) (R' := (mRoom (4) 0 0)) (as := [.int v1]) (st := []) (r0 := v0) dX9_canAsk_33 sc_RX9_244 rfl (s_X9_isPerpendicular v0 v1 h e_x5) (e_X9_isPerpendicular v0 v1 h e_x5) (mFit_of rfl (Nat.le_of_ble_eq_true rfl) (by decide) (Nat.le_of_ble_eq_true rfl) (Nat.le_of_ble_eq_true rfl)) (Nat.le_of_ble_eq_true rfl) rfl rfl ?_
        intro _ _ hq
        rw [hq.1, hq.2]
        show mGo w kX9_canAsk 0 0 36 [some (va_rf v0), some (.int v1), some (.int v2), some (.int x2)] [.int x5.1] x5.2 Q
        refine mGo.if_eq (tgt := 51) (n := 39) dX9_canAsk_36 (by decide) rfl (fun hc => ?_) (fun hc => ?_)
        · replace e := mIft hc e
          refine mGo.iconst (n := 52) (v := (0 : Int32)) dX9_canAsk_51 (by decide) rfl ?_
          cases e
          exact mGo.zret dX9_canAsk_52 rfl (by decide) (Nat.le_of_ble_eq_true rfl) (Nat.le_of_ble_eq_true rfl) q
        · replace e := mIff hc e
          refine mGo.aload_n (n := 40) (r := v0) dX9_canAsk_39 rfl rfl ?_
          refine mGo.iload_n (n := 41) (x := v2) dX9_canAsk_40 rfl rfl ?_
          obtain ⟨x6, e_x6, e⟩ := mBind e
          refine mGo.callV (n := 44) (y := zX9_isPerpendicular) (R' := (mRoom (4) 0 0)) (as := [.int v2]) (st := []) (r0 := v0) dX9_canAsk_41 sc_RX9_244 rfl (s_X9_isPerpendicular v0 v2 x5.2 e_x6) (e_X9_isPerpendicular v0 v2 x5.2 e_x6) (mFit_of rfl (Nat.le_of_ble_eq_true rfl) (by decide) (Nat.le_of_ble_eq_true rfl) (Nat.le_of_ble_eq_true rfl)) (Nat.le_of_ble_eq_true rfl) rfl rfl ?_
          intro _ _ hq
          rw [hq.1, hq.2]
          show mGo w kX9_canAsk 0 0 44 [some (va_rf v0), some (.int v1), some (.int v2), some (.int x2)] [.int x6.1] x6.2 Q
          refine mGo.if_eq (tgt := 51) (n := 47) dX9_canAsk_44 (by decide) rfl (fun hc => ?_) (fun hc => ?_)
          · replace e := mIft hc e
            refine mGo.iconst (n := 52) (v := (0 : Int32)) dX9_canAsk_51 (by decide) rfl ?_
            cases e
            exact mGo.zret dX9_canAsk_52 rfl (by decide) (Nat.le_of_ble_eq_true rfl) (Nat.le_of_ble_eq_true rfl) q
          · replace e := mIff hc e
            refine mGo.iconst (n := 48) (v := (1 : Int32)) dX9_canAsk_47 (by decide) rfl ?_
            refine mGo.goto (tgt := 52) dX9_canAsk_48 (by decide) ?_
            cases e
            exact mGo.zret dX9_canAsk_52 rfl (by decide) (Nat.le_of_ble_eq_true rfl) (Nat.le_of_ble_eq_true rfl) q
    · replace e := mIff hc e
      refine mGo.iconst (n := 24) (v := (0 : Int32)) dX9_canAsk_23 (by decide) rfl ?_
      cases e
      exact mGo.zret dX9_canAsk_24 rfl (by decide) (Nat.le_of_ble_eq_true rfl) (Nat.le_of_ble_eq_true rfl) q
theorem e_X9_canAsk {w : mWp} (v0 : Option Nat) (v1 : Int32) (v2 : Int32) (h : mH) {res : Int32 × mH} (e : f_X9_canAsk v0 v1 v2 h = some res) : mEx w zX9_canAsk (mRoom 5 0 0) [va_rf v0, .int v1, .int v2] h (fun r h2 => r = some (.int res.1) ∧ h2 = res.2) := by
  refine mEx.of (by decide +kernel) (show mEnt [va_rf v0, .int v1, .int v2] 4 = [some (va_rf v0), some (.int v1), some (.int v2), none] by rw [mEnt_r, mEnt_i, mEnt_i] <;> rfl) (by simp only [List.map_cons, List.map_nil, mRfc, mCi, mCj, List.sum_cons, List.sum_nil]; exact Nat.le_of_ble_eq_true rfl) ?_
  refine g_X9_canAsk v0 v1 v2 h e ?_
  exact ⟨rfl, rfl⟩
theorem s_X9_canAsk (v0 : Option Nat) (v1 : Int32) (v2 : Int32) (h : mH) {res : Int32 × mH} (e : f_X9_canAsk v0 v1 v2 h = some res) : mIs h v0 8 = some () := by
  unfold f_X9_canAsk at e
  obtain ⟨u, e1, _⟩ := mBind e
  cases u
  exact e1
-- X9_like
def kX9_like : mK := (cX9_like, RX9, 3, some (.int), "like", mRoom 6 0 0)
def zX9_like : mY := (yX9_like, cX9_like, 3, some (.int))
set_option maxRecDepth 100000 in
theorem sc_RX9_247 : mSV RX9 247 zX9_canAsk 2 8 := ⟨Or.inl (mT_at 1150 (by decide +kernel) rfl), mT_at 1152 (by decide +kernel) rfl, mT_at 68 (by decide +kernel) rfl, mT_at 91 (by decide +kernel) rfl, mT_at 1153 (by decide +kernel) rfl, ⟨by decide +kernel, by decide +kernel, by decide +kernel⟩, by decide, rfl⟩
set_option maxRecDepth 100000 in
theorem sc_RX9_250 : mSV RX9 250 zX9_finds 3 8 := ⟨Or.inl (mT_at 1158 (by decide +kernel) rfl), mT_at 1160 (by decide +kernel) rfl, mT_at 70 (by decide +kernel) rfl, mT_at 91 (by decide +kernel) rfl, mT_at 1161 (by decide +kernel) rfl, ⟨by decide +kernel, by decide +kernel, by decide +kernel⟩, by decide, rfl⟩
noncomputable def f_X9_like (v0 : Option Nat) (v1 : Int32) (v2 : Int32) (h : mH) : Option (Int32 × mH) :=
  (mIs h v0 8).bind fun _ =>
  (f_X9_isTable v0 v1 h).bind fun x1 =>
  if x1 = 0 then
    some ((-1 : Int32), h)
  else
    (f_X9_isTable v0 v2 h).bind fun x2 =>
    if x2 = 0 then
      some ((-1 : Int32), h)
    else
      (f_X9_canAsk v0 v1 v2 h).bind fun x3 =>
      if x3.1 = 0 then
        some ((-2 : Int32), x3.2)
      else
        (f_X9_finds v0 v1 v2 (0 : Int32) x3.2).bind fun x4 =>
        if x4.1 = 0 then
          some ((0 : Int32), x4.2)
        else
          some ((1 : Int32), x4.2)
set_option maxRecDepth 100000 in
set_option maxHeartbeats 4000000 in
theorem g_X9_like {w : mWp} {Q : Option Value → mH → Prop} (v0 : Option Nat) (v1 : Int32) (v2 : Int32) (h : mH) {res : Int32 × mH} (e : f_X9_like v0 v1 v2 h = some res) (q : (fun r : Int32 × mH => Q (some (.int r.1)) r.2) res) : mGo w kX9_like 0 0 0 [some (va_rf v0), some (.int v1), some (.int v2)] [] h Q := by
  unfold f_X9_like at e
  obtain ⟨_, _, e⟩ := mBind e
  refine mGo.aload_n (n := 1) (r := v0) dX9_like_0 rfl rfl ?_
  refine mGo.iload_n (n := 2) (x := v1) dX9_like_1 rfl rfl ?_
  obtain ⟨x1, e_x1, e⟩ := mBind e
  refine mGo.callV (n := 5) (y := zX9_isTable) (R' := (mRoom (2) 0 0)) (as := [.int v1]) (st := []) (r0 := v0) dX9_like_2 sc_RX9_86 rfl (s_X9_isTable v0 v1 h e_x1) (e_X9_isTable v0 v1 h e_x1) (mFit_of rfl (Nat.le_of_ble_eq_true rfl) (by decide) (Nat.le_of_ble_eq_true rfl) (Nat.le_of_ble_eq_true rfl)) (Nat.le_of_ble_eq_true rfl) rfl rfl ?_
  intro _ _ hq
  rw [hq.1, hq.2]
  show mGo w kX9_like 0 0 5 [some (va_rf v0), some (.int v1), some (.int v2)] [.int x1] h Q
  refine mGo.if_eq (tgt := 16) (n := 8) dX9_like_5 (by decide) rfl (fun hc => ?_) (fun hc => ?_)
  · replace e := mIft hc e
    refine mGo.iconst (n := 17) (v := (-1 : Int32)) dX9_like_16 (by decide) rfl ?_
    cases e
    exact mGo.iret dX9_like_17 rfl (Nat.le_of_ble_eq_true rfl) (Nat.le_of_ble_eq_true rfl) q
  · replace e := mIff hc e
    refine mGo.aload_n (n := 9) (r := v0) dX9_like_8 rfl rfl ?_
    refine mGo.iload_n (n := 10) (x := v2) dX9_like_9 rfl rfl ?_
    obtain ⟨x2, e_x2, e⟩ := mBind e
    refine mGo.callV (n := 13) (y := zX9_isTable) (R' := (mRoom (2) 0 0)) (as := [.int v2]) (st := []) (r0 := v0) dX9_like_10 sc_RX9_86 rfl (s_X9_isTable v0 v2 h e_x2) (e_X9_isTable v0 v2 h e_x2) (mFit_of rfl (Nat.le_of_ble_eq_true rfl) (by decide) (Nat.le_of_ble_eq_true rfl) (Nat.le_of_ble_eq_true rfl)) (Nat.le_of_ble_eq_true rfl) rfl rfl ?_
    intro _ _ hq
    rw [hq.1, hq.2]
    show mGo w kX9_like 0 0 13 [some (va_rf v0), some (.int v1), some (.int v2)] [.int x2] h Q
    refine mGo.if_ne (tgt := 18) (n := 16) dX9_like_13 (by decide) rfl (fun hc => ?_) (fun hc => ?_)
    · replace e := mIff hc e
      refine mGo.aload_n (n := 19) (r := v0) dX9_like_18 rfl rfl ?_
      refine mGo.iload_n (n := 20) (x := v1) dX9_like_19 rfl rfl ?_
      refine mGo.iload_n (n := 21) (x := v2) dX9_like_20 rfl rfl ?_
      obtain ⟨x3, e_x3, e⟩ := mBind e
      refine mGo.callV (n := 24) (y := zX9_canAsk) (R' := (mRoom (5) 0 0)) (as := [.int v1, .int v2]) (st := []) (r0 := v0) dX9_like_21 sc_RX9_247 rfl (s_X9_canAsk v0 v1 v2 h e_x3) (e_X9_canAsk v0 v1 v2 h e_x3) (mFit_of rfl (Nat.le_of_ble_eq_true rfl) (by decide) (Nat.le_of_ble_eq_true rfl) (Nat.le_of_ble_eq_true rfl)) (Nat.le_of_ble_eq_true rfl) rfl rfl ?_
      intro _ _ hq
      rw [hq.1, hq.2]
      show mGo w kX9_like 0 0 24 [some (va_rf v0), some (.int v1), some (.int v2)] [.int x3.1] x3.2 Q
      refine mGo.if_ne (tgt := 30) (n := 27) dX9_like_24 (by decide) rfl (fun hc => ?_) (fun hc => ?_)
      · replace e := mIff hc e
        refine mGo.aload_n (n := 31) (r := v0) dX9_like_30 rfl rfl ?_
        refine mGo.iload_n (n := 32) (x := v1) dX9_like_31 rfl rfl ?_
        refine mGo.iload_n (n := 33) (x := v2) dX9_like_32 rfl rfl ?_
        refine mGo.iconst (n := 34) (v := (0 : Int32)) dX9_like_33 (by decide) rfl ?_
        obtain ⟨x4, e_x4, e⟩ := mBind e
        refine mGo.callV (n := 37) (y := zX9_finds) (R' := (mRoom (4) 0 0)) (as := [.int v1, .int v2, .int (0 : Int32)]) (st := []) (r0 := v0) dX9_like_34 sc_RX9_250 rfl (s_X9_finds v0 v1 v2 (0 : Int32) x3.2 e_x4) (e_X9_finds v0 v1 v2 (0 : Int32) x3.2 e_x4) (mFit_of rfl (Nat.le_of_ble_eq_true rfl) (by decide) (Nat.le_of_ble_eq_true rfl) (Nat.le_of_ble_eq_true rfl)) (Nat.le_of_ble_eq_true rfl) rfl rfl ?_
        intro _ _ hq
        rw [hq.1, hq.2]
        show mGo w kX9_like 0 0 37 [some (va_rf v0), some (.int v1), some (.int v2)] [.int x4.1] x4.2 Q
        refine mGo.if_eq (tgt := 44) (n := 40) dX9_like_37 (by decide) rfl (fun hc => ?_) (fun hc => ?_)
        · replace e := mIft hc e
          refine mGo.iconst (n := 45) (v := (0 : Int32)) dX9_like_44 (by decide) rfl ?_
          cases e
          exact mGo.iret dX9_like_45 rfl (Nat.le_of_ble_eq_true rfl) (Nat.le_of_ble_eq_true rfl) q
        · replace e := mIff hc e
          refine mGo.iconst (n := 41) (v := (1 : Int32)) dX9_like_40 (by decide) rfl ?_
          refine mGo.goto (tgt := 45) dX9_like_41 (by decide) ?_
          cases e
          exact mGo.iret dX9_like_45 rfl (Nat.le_of_ble_eq_true rfl) (Nat.le_of_ble_eq_true rfl) q
      · replace e := mIft hc e
        refine mGo.bipush (n := 29) (v := (-2 : Int32)) dX9_like_27 (by decide) rfl ?_
        cases e
        exact mGo.iret dX9_like_29 rfl (Nat.le_of_ble_eq_true rfl) (Nat.le_of_ble_eq_true rfl) q
    · replace e := mIft hc e
      refine mGo.iconst (n := 17) (v := (-1 : Int32)) dX9_like_16 (by decide) rfl ?_
      cases e
      exact mGo.iret dX9_like_17 rfl (Nat.le_of_ble_eq_true rfl) (Nat.le_of_ble_eq_true rfl) q
theorem e_X9_like {w : mWp} (v0 : Option Nat) (v1 : Int32) (v2 : Int32) (h : mH) {res : Int32 × mH} (e : f_X9_like v0 v1 v2 h = some res) : mEx w zX9_like (mRoom 6 0 0) [va_rf v0, .int v1, .int v2] h (fun r h2 => r = some (.int res.1) ∧ h2 = res.2) := by
  refine mEx.of (by decide +kernel) (show mEnt [va_rf v0, .int v1, .int v2] 3 = [some (va_rf v0), some (.int v1), some (.int v2)] by rw [mEnt_r, mEnt_i, mEnt_i] <;> rfl) (by simp only [List.map_cons, List.map_nil, mRfc, mCi, mCj, List.sum_cons, List.sum_nil]; exact Nat.le_of_ble_eq_true rfl) ?_
  refine g_X9_like v0 v1 v2 h e ?_
  exact ⟨rfl, rfl⟩
theorem s_X9_like (v0 : Option Nat) (v1 : Int32) (v2 : Int32) (h : mH) {res : Int32 × mH} (e : f_X9_like v0 v1 v2 h = some res) : mIs h v0 8 = some () := by
  unfold f_X9_like at e
  obtain ⟨u, e1, _⟩ := mBind e
  cases u
  exact e1
-- X9_image
def kX9_image : mK := (cX9_image, RX9, 5, some (.int), "image", mRoom 6 0 0)
def zX9_image : mY := (yX9_image, cX9_image, 5, some (.int))
set_option maxRecDepth 100000 in
theorem sc_RX9_253 : mSV RX9 253 zX9_laysColumns 1 8 := ⟨Or.inl (mT_at 1177 (by decide +kernel) rfl), mT_at 1179 (by decide +kernel) rfl, mT_at 73 (by decide +kernel) rfl, mT_at 91 (by decide +kernel) rfl, mT_at 1180 (by decide +kernel) rfl, ⟨by decide +kernel, by decide +kernel, by decide +kernel⟩, by decide, rfl⟩
noncomputable def f_X9_image (v0 : Option Nat) (v1 : Int32) (v2 : Int32) (v3 : Int32) (v4 : Int32) (h : mH) : Option (Int32 × mH) :=
  (mIs h v0 8).bind fun _ =>
  (f_X9_isLine v0 v1 v4 h).bind fun x1 =>
  if x1 = 0 then
    some ((-1 : Int32), h)
  else
    (f_X9_isTable v0 v2 h).bind fun x2 =>
    if x2 = 0 then
      some ((-1 : Int32), h)
    else
      (f_X9_canAsk v0 v1 v2 h).bind fun x3 =>
      if x3.1 = 0 then
        some ((-2 : Int32), x3.2)
      else
        (f_X9_finds v0 v1 v2 (0 : Int32) x3.2).bind fun x4 =>
        if x4.1 = 0 then
          some ((-2 : Int32), x4.2)
        else
          if v3 = 0 then
            (mGR x4.2 v0 8 1).bind fun x5 =>
            (mAI x4.2 x5 v1).bind fun x6 =>
            (f_X9_laysColumns v0 x6 x4.2).bind fun x7 =>
            (mGR x7 v0 8 20).bind fun x8 =>
            (mAI x7 x8 v4).bind fun x9 =>
            some (x9, x7)
          else
            (mGR x4.2 v0 8 19).bind fun x10 =>
            (mAI x4.2 x10 v4).bind fun x11 =>
            some (x11, x4.2)
set_option maxRecDepth 100000 in
set_option maxHeartbeats 4000000 in
theorem g_X9_image {w : mWp} {Q : Option Value → mH → Prop} (v0 : Option Nat) (v1 : Int32) (v2 : Int32) (v3 : Int32) (v4 : Int32) (h : mH) {res : Int32 × mH} (e : f_X9_image v0 v1 v2 v3 v4 h = some res) (q : (fun r : Int32 × mH => Q (some (.int r.1)) r.2) res) : mGo w kX9_image 0 0 0 [some (va_rf v0), some (.int v1), some (.int v2), some (.int v3), some (.int v4)] [] h Q := by
  unfold f_X9_image at e
  obtain ⟨_, _, e⟩ := mBind e
  refine mGo.aload_n (n := 1) (r := v0) dX9_image_0 rfl rfl ?_
  refine mGo.iload_n (n := 2) (x := v1) dX9_image_1 rfl rfl ?_
  refine mGo.iload (n := 4) (x := v4) dX9_image_2 rfl rfl ?_
  obtain ⟨x1, e_x1, e⟩ := mBind e
  refine mGo.callV (n := 7) (y := zX9_isLine) (R' := (mRoom (3) 0 0)) (as := [.int v1, .int v4]) (st := []) (r0 := v0) dX9_image_4 sc_RX9_182 rfl (s_X9_isLine v0 v1 v4 h e_x1) (e_X9_isLine v0 v1 v4 h e_x1) (mFit_of rfl (Nat.le_of_ble_eq_true rfl) (by decide) (Nat.le_of_ble_eq_true rfl) (Nat.le_of_ble_eq_true rfl)) (Nat.le_of_ble_eq_true rfl) rfl rfl ?_
  intro _ _ hq
  rw [hq.1, hq.2]
  show mGo w kX9_image 0 0 7 [some (va_rf v0), some (.int v1), some (.int v2), some (.int v3), some (.int v4)] [.int x1] h Q
  refine mGo.if_eq (tgt := 18) (n := 10) dX9_image_7 (by decide) rfl (fun hc => ?_) (fun hc => ?_)
  · replace e := mIft hc e
    refine mGo.iconst (n := 19) (v := (-1 : Int32)) dX9_image_18 (by decide) rfl ?_
    cases e
    exact mGo.iret dX9_image_19 rfl (Nat.le_of_ble_eq_true rfl) (Nat.le_of_ble_eq_true rfl) q
  · replace e := mIff hc e
    refine mGo.aload_n (n := 11) (r := v0) dX9_image_10 rfl rfl ?_
    refine mGo.iload_n (n := 12) (x := v2) dX9_image_11 rfl rfl ?_
    obtain ⟨x2, e_x2, e⟩ := mBind e
    refine mGo.callV (n := 15) (y := zX9_isTable) (R' := (mRoom (2) 0 0)) (as := [.int v2]) (st := []) (r0 := v0) dX9_image_12 sc_RX9_86 rfl (s_X9_isTable v0 v2 h e_x2) (e_X9_isTable v0 v2 h e_x2) (mFit_of rfl (Nat.le_of_ble_eq_true rfl) (by decide) (Nat.le_of_ble_eq_true rfl) (Nat.le_of_ble_eq_true rfl)) (Nat.le_of_ble_eq_true rfl) rfl rfl ?_
    intro _ _ hq
    rw [hq.1, hq.2]
    show mGo w kX9_image 0 0 15 [some (va_rf v0), some (.int v1), some (.int v2), some (.int v3), some (.int v4)] [.int x2] h Q
    refine mGo.if_ne (tgt := 20) (n := 18) dX9_image_15 (by decide) rfl (fun hc => ?_) (fun hc => ?_)
    · replace e := mIff hc e
      refine mGo.aload_n (n := 21) (r := v0) dX9_image_20 rfl rfl ?_
      refine mGo.iload_n (n := 22) (x := v1) dX9_image_21 rfl rfl ?_
      refine mGo.iload_n (n := 23) (x := v2) dX9_image_22 rfl rfl ?_
      obtain ⟨x3, e_x3, e⟩ := mBind e
      refine mGo.callV (n := 26) (y := zX9_canAsk) (R' := (mRoom (5) 0 0)) (as := [.int v1, .int v2]) (st := []) (r0 := v0) dX9_image_23 sc_RX9_247 rfl (s_X9_canAsk v0 v1 v2 h e_x3) (e_X9_canAsk v0 v1 v2 h e_x3) (mFit_of rfl (Nat.le_of_ble_eq_true rfl) (by decide) (Nat.le_of_ble_eq_true rfl) (Nat.le_of_ble_eq_true rfl)) (Nat.le_of_ble_eq_true rfl) rfl rfl ?_
      intro _ _ hq
      rw [hq.1, hq.2]
      show mGo w kX9_image 0 0 26 [some (va_rf v0), some (.int v1), some (.int v2), some (.int v3), some (.int v4)] [.int x3.1] x3.2 Q
      refine mGo.if_eq (tgt := 39) (n := 29) dX9_image_26 (by decide) rfl (fun hc => ?_) (fun hc => ?_)
      · replace e := mIft hc e
        refine mGo.bipush (n := 41) (v := (-2 : Int32)) dX9_image_39 (by decide) rfl ?_
        cases e
        exact mGo.iret dX9_image_41 rfl (Nat.le_of_ble_eq_true rfl) (Nat.le_of_ble_eq_true rfl) q
      · replace e := mIff hc e
        refine mGo.aload_n (n := 30) (r := v0) dX9_image_29 rfl rfl ?_
        refine mGo.iload_n (n := 31) (x := v1) dX9_image_30 rfl rfl ?_
        refine mGo.iload_n (n := 32) (x := v2) dX9_image_31 rfl rfl ?_
        refine mGo.iconst (n := 33) (v := (0 : Int32)) dX9_image_32 (by decide) rfl ?_
        obtain ⟨x4, e_x4, e⟩ := mBind e
        refine mGo.callV (n := 36) (y := zX9_finds) (R' := (mRoom (4) 0 0)) (as := [.int v1, .int v2, .int (0 : Int32)]) (st := []) (r0 := v0) dX9_image_33 sc_RX9_250 rfl (s_X9_finds v0 v1 v2 (0 : Int32) x3.2 e_x4) (e_X9_finds v0 v1 v2 (0 : Int32) x3.2 e_x4) (mFit_of rfl (Nat.le_of_ble_eq_true rfl) (by decide) (Nat.le_of_ble_eq_true rfl) (Nat.le_of_ble_eq_true rfl)) (Nat.le_of_ble_eq_true rfl) rfl rfl ?_
        intro _ _ hq
        rw [hq.1, hq.2]
        show mGo w kX9_image 0 0 36 [some (va_rf v0), some (.int v1), some (.int v2), some (.int v3), some (.int v4)] [.int x4.1] x4.2 Q
        refine mGo.if_ne (tgt := 42) (n := 39) dX9_image_36 (by decide) rfl (fun hc => ?_) (fun hc => ?_)
        · replace e := mIff hc e
          refine mGo.iload_n (n := 43) (x := v3) dX9_image_42 rfl rfl ?_
          refine mGo.if_eq (tgt := 54) (n := 46) dX9_image_43 (by decide) rfl (fun hc => ?_) (fun hc => ?_)
          · replace e := mIft hc e
            refine mGo.aload_n (n := 55) (r := v0) dX9_image_54 rfl rfl ?_
            refine mGo.aload_n (n := 56) (r := v0) dX9_image_55 rfl rfl ?_
            obtain ⟨x5, e_x5, e⟩ := mBind e
            refine mGo.getR (n := 59) dX9_image_56 sf_RX9_13 e_x5 rfl ?_
            refine mGo.iload_n (n := 60) (x := v1) dX9_image_59 rfl rfl ?_
            obtain ⟨x6, e_x6, e⟩ := mBind e
            refine mGo.iald (n := 61) dX9_image_60 e_x6 rfl ?_
            obtain ⟨x7, e_x7, e⟩ := mBind e
            refine mGo.callV (n := 64) (y := zX9_laysColumns) (R' := (mRoom (2) 0 0)) (as := [.int x6]) (st := []) (r0 := v0) dX9_image_61 sc_RX9_253 rfl (s_X9_laysColumns v0 x6 x4.2 e_x7) (e_X9_laysColumns v0 x6 x4.2 e_x7) (mFit_of rfl (Nat.le_of_ble_eq_true rfl) (by decide) (Nat.le_of_ble_eq_true rfl) (Nat.le_of_ble_eq_true rfl)) (Nat.le_of_ble_eq_true rfl) rfl rfl ?_
            intro _ _ hq
            rw [hq.1, hq.2]
            show mGo w kX9_image 0 0 64 [some (va_rf v0), some (.int v1), some (.int v2), some (.int v3), some (.int v4)] [] x7 Q
            refine mGo.aload_n (n := 65) (r := v0) dX9_image_64 rfl rfl ?_
            obtain ⟨x8, e_x8, e⟩ := mBind e
            refine mGo.getR (n := 68) dX9_image_65 sf_RX9_63 e_x8 rfl ?_
            refine mGo.iload (n := 70) (x := v4) dX9_image_68 rfl rfl ?_
            obtain ⟨x9, e_x9, e⟩ := mBind e
            refine mGo.iald (n := 71) dX9_image_70 e_x9 rfl ?_
            cases e
            exact mGo.iret dX9_image_71 rfl (Nat.le_of_ble_eq_true rfl) (Nat.le_of_ble_eq_true rfl) q
          · replace e := mIff hc e
            refine mGo.aload_n (n := 47) (r := v0) dX9_image_46 rfl rfl ?_
            obtain ⟨x10, e_x10, e⟩ := mBind e
            refine mGo.getR (n := 50) dX9_image_47 sf_RX9_60 e_x10 rfl ?_
            refine mGo.iload (n := 52) (x := v4) dX9_image_50 rfl rfl ?_
            obtain ⟨x11, e_x11, e⟩ := mBind e
            refine mGo.iald (n := 53) dX9_image_52 e_x11 rfl ?_
            cases e
            exact mGo.iret dX9_image_53 rfl (Nat.le_of_ble_eq_true rfl) (Nat.le_of_ble_eq_true rfl) q
        · replace e := mIft hc e
          refine mGo.bipush (n := 41) (v := (-2 : Int32)) dX9_image_39 (by decide) rfl ?_
          cases e
          exact mGo.iret dX9_image_41 rfl (Nat.le_of_ble_eq_true rfl) (Nat.le_of_ble_eq_true rfl) q
    · replace e := mIft hc e
      refine mGo.iconst (n := 19) (v := (-1 : Int32)) dX9_image_18 (by decide) rfl ?_
      cases e
      exact mGo.iret dX9_image_19 rfl (Nat.le_of_ble_eq_true rfl) (Nat.le_of_ble_eq_true rfl) q
theorem e_X9_image {w : mWp} (v0 : Option Nat) (v1 : Int32) (v2 : Int32) (v3 : Int32) (v4 : Int32) (h : mH) {res : Int32 × mH} (e : f_X9_image v0 v1 v2 v3 v4 h = some res) : mEx w zX9_image (mRoom 6 0 0) [va_rf v0, .int v1, .int v2, .int v3, .int v4] h (fun r h2 => r = some (.int res.1) ∧ h2 = res.2) := by
  refine mEx.of (by decide +kernel) (show mEnt [va_rf v0, .int v1, .int v2, .int v3, .int v4] 5 = [some (va_rf v0), some (.int v1), some (.int v2), some (.int v3), some (.int v4)] by rw [mEnt_r, mEnt_i, mEnt_i, mEnt_i, mEnt_i] <;> rfl) (by simp only [List.map_cons, List.map_nil, mRfc, mCi, mCj, List.sum_cons, List.sum_nil]; exact Nat.le_of_ble_eq_true rfl) ?_
  refine g_X9_image v0 v1 v2 v3 v4 h e ?_
  exact ⟨rfl, rfl⟩
theorem s_X9_image (v0 : Option Nat) (v1 : Int32) (v2 : Int32) (v3 : Int32) (v4 : Int32) (h : mH) {res : Int32 × mH} (e : f_X9_image v0 v1 v2 v3 v4 h = some res) : mIs h v0 8 = some () := by
  unfold f_X9_image at e
  obtain ⟨u, e1, _⟩ := mBind e
  cases u
  exact e1
-- X9_columnWays
def kX9_columnWays : mK := (cX9_columnWays, RX9, 8, some (.long), "columnWays", mRoom 4 0 0)
def zX9_columnWays : mY := (yX9_columnWays, cX9_columnWays, 8, some (.long))
noncomputable def f_X9_columnWays_b24 (v0 : Option Nat) (v1 : Int32) (v2 : Int32) (v3 : Int64) (v5 : Int32) (v6 : Int32) (v7 : Int32) (h : mH) : Option ((Int32 × Int32) ⊕ ((Int64 × Int32) ⊕ (Int64))) :=
  if v5 ≤ v7 then
    some (Sum.inr (Sum.inl ((v3 * (Int32.toInt64 v6)), (v5 + 1))))
  else
    (f_X9_columnOf v0 v1 v7 h).bind fun x1 =>
    (f_X9_plain x1 v2).bind fun x2 =>
    (f_X9_columnOf v0 v1 v5 h).bind fun x3 =>
    (f_X9_plain x3 v2).bind fun x4 =>
    if x2 = x4 then
      some (Sum.inl ((v6 + 1), (v7 + 1)))
    else
      some (Sum.inl (v6, (v7 + 1)))
set_option maxRecDepth 100000 in
set_option maxHeartbeats 4000000 in
theorem g_X9_columnWays_b24 {w : mWp} {Q : Option Value → mH → Prop} (v0 : Option Nat) (v1 : Int32) (v2 : Int32) (v3 : Int64) (v5 : Int32) (v6 : Int32) (v7 : Int32) (h : mH) {res : (Int32 × Int32) ⊕ ((Int64 × Int32) ⊕ (Int64))} (e : f_X9_columnWays_b24 v0 v1 v2 v3 v5 v6 v7 h = some res) (q : (Sum.elim (fun x : Int32 × Int32 => mGo w kX9_columnWays 0 0 24 [some (va_rf v0), some (.int v1), some (.int v2), some (.long v3), none, some (.int v5), some (.int x.1), some (.int x.2)] [] h Q) (Sum.elim (fun x : Int64 × Int32 => mGo w kX9_columnWays 0 0 12 [some (va_rf v0), some (.int v1), some (.int v2), some (.long x.1), none, some (.int x.2), none, none] [] h Q) (fun r : Int64 => Q (some (.long r)) h))) res) : mGo w kX9_columnWays 0 0 24 [some (va_rf v0), some (.int v1), some (.int v2), some (.long v3), none, some (.int v5), some (.int v6), some (.int v7)] [] h Q := by
  unfold f_X9_columnWays_b24 at e
  refine mGo.iload (n := 26) (x := v7) dX9_columnWays_24 rfl rfl ?_
  refine mGo.iload (n := 28) (x := v5) dX9_columnWays_26 rfl rfl ?_
  refine mGo.icmp_ge (tgt := 65) (n := 31) dX9_columnWays_28 (by decide) rfl (fun hc => ?_) (fun hc => ?_)
  · replace e := mIft hc e
    refine mGo.lload_n (n := 66) (x := v3) dX9_columnWays_65 rfl rfl ?_
    refine mGo.iload (n := 68) (x := v6) dX9_columnWays_66 rfl rfl ?_
    refine mGo.i2l (n := 69) dX9_columnWays_68 rfl ?_
    refine mGo.lmul (n := 70) dX9_columnWays_69 rfl ?_
    refine mGo.lstore_n (n := 71) (ls' := [some (va_rf v0), some (.int v1), some (.int v2), some (.long (v3 * (Int32.toInt64 v6))), none, some (.int v5), some (.int v6), some (.int v7)]) dX9_columnWays_70 rfl (Nat.le_of_ble_eq_true rfl) rfl ?_
    refine mGo.iinc (n := 74) (x := v5) (v := (v5 + 1)) (ls' := [some (va_rf v0), some (.int v1), some (.int v2), some (.long (v3 * (Int32.toInt64 v6))), none, some (.int (v5 + 1)), some (.int v6), some (.int v7)]) dX9_columnWays_71 rfl rfl rfl (Nat.le_of_ble_eq_true rfl) rfl ?_
    refine mGo.goto (tgt := 12) dX9_columnWays_74 (by decide) ?_
    cases e
    refine mGo.mk [true, true, true, true, false, true, false, false] ?_
    exact q
  · replace e := mIff hc e
    refine mGo.aload_n (n := 32) (r := v0) dX9_columnWays_31 rfl rfl ?_
    refine mGo.iload_n (n := 33) (x := v1) dX9_columnWays_32 rfl rfl ?_
    refine mGo.iload (n := 35) (x := v7) dX9_columnWays_33 rfl rfl ?_
    obtain ⟨x1, e_x1, e⟩ := mBind e
    refine mGo.callV (n := 38) (y := zX9_columnOf) (R' := (mRoom (3) 0 0)) (as := [.int v1, .int v7]) (st := []) (r0 := v0) dX9_columnWays_35 sc_RX9_101 rfl (s_X9_columnOf v0 v1 v7 h e_x1) (e_X9_columnOf v0 v1 v7 h e_x1) (mFit_of rfl (Nat.le_of_ble_eq_true rfl) (by decide) (Nat.le_of_ble_eq_true rfl) (Nat.le_of_ble_eq_true rfl)) (Nat.le_of_ble_eq_true rfl) rfl rfl ?_
    intro _ _ hq
    rw [hq.1, hq.2]
    show mGo w kX9_columnWays 0 0 38 [some (va_rf v0), some (.int v1), some (.int v2), some (.long v3), none, some (.int v5), some (.int v6), some (.int v7)] [.int x1] h Q
    refine mGo.iload_n (n := 39) (x := v2) dX9_columnWays_38 rfl rfl ?_
    obtain ⟨x2, e_x2, e⟩ := mBind e
    refine mGo.callS (n := 42) (y := zX9_plain) (R' := (mRoom (1) 0 0)) (as := [.int x1, .int v2]) (st := []) dX9_columnWays_39 sc_RX9_235 rfl (e_X9_plain x1 v2 h e_x2) (mFit_of rfl (Nat.le_of_ble_eq_true rfl) (by decide) (Nat.le_of_ble_eq_true rfl) (Nat.le_of_ble_eq_true rfl)) (Nat.le_of_ble_eq_true rfl) rfl rfl ?_
    intro _ _ hq
    rw [hq.1, hq.2]
    show mGo w kX9_columnWays 0 0 42 [some (va_rf v0), some (.int v1), some (.int v2), some (.long v3), none, some (.int v5), some (.int v6), some (.int v7)] [.int x2] h Q
    refine mGo.aload_n (n := 43) (r := v0) dX9_columnWays_42 rfl rfl ?_
    refine mGo.iload_n (n := 44) (x := v1) dX9_columnWays_43 rfl rfl ?_
    refine mGo.iload (n := 46) (x := v5) dX9_columnWays_44 rfl rfl ?_
    obtain ⟨x3, e_x3, e⟩ := mBind e
    refine mGo.callV (n := 49) (y := zX9_columnOf) (R' := (mRoom (3) 0 0)) (as := [.int v1, .int v5]) (st := [.int x2]) (r0 := v0) dX9_columnWays_46 sc_RX9_101 rfl (s_X9_columnOf v0 v1 v5 h e_x3) (e_X9_columnOf v0 v1 v5 h e_x3) (mFit_of rfl (Nat.le_of_ble_eq_true rfl) (by decide) (Nat.le_of_ble_eq_true rfl) (Nat.le_of_ble_eq_true rfl)) (Nat.le_of_ble_eq_true rfl) rfl rfl ?_
    intro _ _ hq
    rw [hq.1, hq.2]
    show mGo w kX9_columnWays 0 0 49 [some (va_rf v0), some (.int v1), some (.int v2), some (.long v3), none, some (.int v5), some (.int v6), some (.int v7)] [.int x3, .int x2] h Q
    refine mGo.iload_n (n := 50) (x := v2) dX9_columnWays_49 rfl rfl ?_
    obtain ⟨x4, e_x4, e⟩ := mBind e
    refine mGo.callS (n := 53) (y := zX9_plain) (R' := (mRoom (1) 0 0)) (as := [.int x3, .int v2]) (st := [.int x2]) dX9_columnWays_50 sc_RX9_235 rfl (e_X9_plain x3 v2 h e_x4) (mFit_of rfl (Nat.le_of_ble_eq_true rfl) (by decide) (Nat.le_of_ble_eq_true rfl) (Nat.le_of_ble_eq_true rfl)) (Nat.le_of_ble_eq_true rfl) rfl rfl ?_
    intro _ _ hq
    rw [hq.1, hq.2]
    show mGo w kX9_columnWays 0 0 53 [some (va_rf v0), some (.int v1), some (.int v2), some (.long v3), none, some (.int v5), some (.int v6), some (.int v7)] [.int x4, .int x2] h Q
    refine mGo.icmp_ne (tgt := 59) (n := 56) dX9_columnWays_53 (by decide) rfl (fun hc => ?_) (fun hc => ?_)
    · replace e := mIff hc e
      refine mGo.iinc (n := 62) (x := v7) (v := (v7 + 1)) (ls' := [some (va_rf v0), some (.int v1), some (.int v2), some (.long v3), none, some (.int v5), some (.int v6), some (.int (v7 + 1))]) dX9_columnWays_59 rfl rfl rfl (Nat.le_of_ble_eq_true rfl) rfl ?_
      refine mGo.goto (tgt := 24) dX9_columnWays_62 (by decide) ?_
      cases e
      refine mGo.mk [true, true, true, true, false, true, true, true] ?_
      exact q
    · replace e := mIft hc e
      refine mGo.iinc (n := 59) (x := v6) (v := (v6 + 1)) (ls' := [some (va_rf v0), some (.int v1), some (.int v2), some (.long v3), none, some (.int v5), some (.int (v6 + 1)), some (.int v7)]) dX9_columnWays_56 rfl rfl rfl (Nat.le_of_ble_eq_true rfl) rfl ?_
      refine mGo.iinc (n := 62) (x := v7) (v := (v7 + 1)) (ls' := [some (va_rf v0), some (.int v1), some (.int v2), some (.long v3), none, some (.int v5), some (.int (v6 + 1)), some (.int (v7 + 1))]) dX9_columnWays_59 rfl rfl rfl (Nat.le_of_ble_eq_true rfl) rfl ?_
      refine mGo.goto (tgt := 24) dX9_columnWays_62 (by decide) ?_
      cases e
      refine mGo.mk [true, true, true, true, false, true, true, true] ?_
      exact q
noncomputable def f_X9_columnWays_l24 (v0 : Option Nat) (v1 : Int32) (v2 : Int32) (v3 : Int64) (v5 : Int32) (v6 : Int32) (v7 : Int32) (h : mH) : Option ((Int64 × Int32) ⊕ (Int64)) :=
  mLoop (fun x : Int32 × Int32 => f_X9_columnWays_b24 v0 v1 v2 v3 v5 x.1 x.2 h) (v6, v7)
set_option maxRecDepth 100000 in
set_option maxHeartbeats 4000000 in
theorem g_X9_columnWays_l24 {w : mWp} {Q : Option Value → mH → Prop} (v0 : Option Nat) (v1 : Int32) (v2 : Int32) (v3 : Int64) (v5 : Int32) (v6 : Int32) (v7 : Int32) (h : mH) {res : (Int64 × Int32) ⊕ (Int64)} (e : f_X9_columnWays_l24 v0 v1 v2 v3 v5 v6 v7 h = some res) (q : (Sum.elim (fun x : Int64 × Int32 => mGo w kX9_columnWays 0 0 12 [some (va_rf v0), some (.int v1), some (.int v2), some (.long x.1), none, some (.int x.2), none, none] [] h Q) (fun r : Int64 => Q (some (.long r)) h)) res) : mGo w kX9_columnWays 0 0 24 [some (va_rf v0), some (.int v1), some (.int v2), some (.long v3), none, some (.int v5), some (.int v6), some (.int v7)] [] h Q := by
  unfold f_X9_columnWays_l24 at e
  refine mLoop_go (x := (v6, v7)) (fun x : Int32 × Int32 => mGo w kX9_columnWays 0 0 24 [some (va_rf v0), some (.int v1), some (.int v2), some (.long v3), none, some (.int v5), some (.int x.1), some (.int x.2)] [] h Q) (Sum.elim (fun x : Int64 × Int32 => mGo w kX9_columnWays 0 0 12 [some (va_rf v0), some (.int v1), some (.int v2), some (.long x.1), none, some (.int x.2), none, none] [] h Q) (fun r : Int64 => Q (some (.long r)) h)) ?_ e q
  rintro ⟨v6, v7⟩ res e q
  exact g_X9_columnWays_b24 v0 v1 v2 v3 v5 v6 v7 h e q
noncomputable def f_X9_columnWays_b12 (v0 : Option Nat) (v1 : Int32) (v2 : Int32) (v3 : Int64) (v5 : Int32) (h : mH) : Option ((Int64 × Int32) ⊕ (Int64)) :=
  if v2 ≤ v5 then
    some (Sum.inr v3)
  else
    f_X9_columnWays_l24 v0 v1 v2 v3 v5 (1 : Int32) (0 : Int32) h
set_option maxRecDepth 100000 in
set_option maxHeartbeats 4000000 in
theorem g_X9_columnWays_b12 {w : mWp} {Q : Option Value → mH → Prop} (v0 : Option Nat) (v1 : Int32) (v2 : Int32) (v3 : Int64) (v5 : Int32) (h : mH) {res : (Int64 × Int32) ⊕ (Int64)} (e : f_X9_columnWays_b12 v0 v1 v2 v3 v5 h = some res) (q : (Sum.elim (fun x : Int64 × Int32 => mGo w kX9_columnWays 0 0 12 [some (va_rf v0), some (.int v1), some (.int v2), some (.long x.1), none, some (.int x.2), none, none] [] h Q) (fun r : Int64 => Q (some (.long r)) h)) res) : mGo w kX9_columnWays 0 0 12 [some (va_rf v0), some (.int v1), some (.int v2), some (.long v3), none, some (.int v5), none, none] [] h Q := by
  unfold f_X9_columnWays_b12 at e
  refine mGo.iload (n := 14) (x := v5) dX9_columnWays_12 rfl rfl ?_
  refine mGo.iload_n (n := 15) (x := v2) dX9_columnWays_14 rfl rfl ?_
  refine mGo.icmp_ge (tgt := 77) (n := 18) dX9_columnWays_15 (by decide) rfl (fun hc => ?_) (fun hc => ?_)
  · replace e := mIft hc e
    refine mGo.lload_n (n := 78) (x := v3) dX9_columnWays_77 rfl rfl ?_
    cases e
    exact mGo.lret dX9_columnWays_78 rfl (Nat.le_of_ble_eq_true rfl) (Nat.le_of_ble_eq_true rfl) q
  · replace e := mIff hc e
    refine mGo.iconst (n := 19) (v := (1 : Int32)) dX9_columnWays_18 (by decide) rfl ?_
    refine mGo.istore (n := 21) (ls' := [some (va_rf v0), some (.int v1), some (.int v2), some (.long v3), none, some (.int v5), some (.int (1 : Int32)), none]) dX9_columnWays_19 rfl (Nat.le_of_ble_eq_true rfl) rfl ?_
    refine mGo.iconst (n := 22) (v := (0 : Int32)) dX9_columnWays_21 (by decide) rfl ?_
    refine mGo.istore (n := 24) (ls' := [some (va_rf v0), some (.int v1), some (.int v2), some (.long v3), none, some (.int v5), some (.int (1 : Int32)), some (.int (0 : Int32))]) dX9_columnWays_22 rfl (Nat.le_of_ble_eq_true rfl) rfl ?_
    refine mGo.mk [true, true, true, true, false, true, true, true] ?_
    exact g_X9_columnWays_l24 v0 v1 v2 v3 v5 (1 : Int32) (0 : Int32) h e q
noncomputable def f_X9_columnWays_l12 (v0 : Option Nat) (v1 : Int32) (v2 : Int32) (v3 : Int64) (v5 : Int32) (h : mH) : Option (Int64) :=
  mLoop (fun x : Int64 × Int32 => f_X9_columnWays_b12 v0 v1 v2 x.1 x.2 h) (v3, v5)
set_option maxRecDepth 100000 in
set_option maxHeartbeats 4000000 in
theorem g_X9_columnWays_l12 {w : mWp} {Q : Option Value → mH → Prop} (v0 : Option Nat) (v1 : Int32) (v2 : Int32) (v3 : Int64) (v5 : Int32) (h : mH) {res : Int64} (e : f_X9_columnWays_l12 v0 v1 v2 v3 v5 h = some res) (q : (fun r : Int64 => Q (some (.long r)) h) res) : mGo w kX9_columnWays 0 0 12 [some (va_rf v0), some (.int v1), some (.int v2), some (.long v3), none, some (.int v5), none, none] [] h Q := by
  unfold f_X9_columnWays_l12 at e
  refine mLoop_go (x := (v3, v5)) (fun x : Int64 × Int32 => mGo w kX9_columnWays 0 0 12 [some (va_rf v0), some (.int v1), some (.int v2), some (.long x.1), none, some (.int x.2), none, none] [] h Q) (fun r : Int64 => Q (some (.long r)) h) ?_ e q
  rintro ⟨v3, v5⟩ res e q
  exact g_X9_columnWays_b12 v0 v1 v2 v3 v5 h e q
noncomputable def f_X9_columnWays (v0 : Option Nat) (v1 : Int32) (h : mH) : Option (Int64) :=
  (mIs h v0 8).bind fun _ =>
  (mGR h v0 8 1).bind fun x1 =>
  (mAI h x1 v1).bind fun x2 =>
  f_X9_columnWays_l12 v0 v1 x2 (1 : Int64) (0 : Int32) h
set_option maxRecDepth 100000 in
set_option maxHeartbeats 4000000 in
theorem g_X9_columnWays {w : mWp} {Q : Option Value → mH → Prop} (v0 : Option Nat) (v1 : Int32) (h : mH) {res : Int64} (e : f_X9_columnWays v0 v1 h = some res) (q : (fun r : Int64 => Q (some (.long r)) h) res) : mGo w kX9_columnWays 0 0 0 [some (va_rf v0), some (.int v1), none, none, none, none, none, none] [] h Q := by
  unfold f_X9_columnWays at e
  obtain ⟨_, _, e⟩ := mBind e
  refine mGo.aload_n (n := 1) (r := v0) dX9_columnWays_0 rfl rfl ?_
  obtain ⟨x1, e_x1, e⟩ := mBind e
  refine mGo.getR (n := 4) dX9_columnWays_1 sf_RX9_13 e_x1 rfl ?_
  refine mGo.iload_n (n := 5) (x := v1) dX9_columnWays_4 rfl rfl ?_
  obtain ⟨x2, e_x2, e⟩ := mBind e
  refine mGo.iald (n := 6) dX9_columnWays_5 e_x2 rfl ?_
  refine mGo.istore_n (n := 7) (ls' := [some (va_rf v0), some (.int v1), some (.int x2), none, none, none, none, none]) dX9_columnWays_6 rfl (Nat.le_of_ble_eq_true rfl) rfl ?_
  refine mGo.lconst (n := 8) (v := (1 : Int64)) dX9_columnWays_7 (by decide) rfl ?_
  refine mGo.lstore_n (n := 9) (ls' := [some (va_rf v0), some (.int v1), some (.int x2), some (.long (1 : Int64)), none, none, none, none]) dX9_columnWays_8 rfl (Nat.le_of_ble_eq_true rfl) rfl ?_
  refine mGo.iconst (n := 10) (v := (0 : Int32)) dX9_columnWays_9 (by decide) rfl ?_
  refine mGo.istore (n := 12) (ls' := [some (va_rf v0), some (.int v1), some (.int x2), some (.long (1 : Int64)), none, some (.int (0 : Int32)), none, none]) dX9_columnWays_10 rfl (Nat.le_of_ble_eq_true rfl) rfl ?_
  refine mGo.mk [true, true, true, true, false, true, false, false] ?_
  exact g_X9_columnWays_l12 v0 v1 x2 (1 : Int64) (0 : Int32) h e q
theorem e_X9_columnWays {w : mWp} (v0 : Option Nat) (v1 : Int32) (h : mH) {res : Int64} (e : f_X9_columnWays v0 v1 h = some res) : mEx w zX9_columnWays (mRoom 4 0 0) [va_rf v0, .int v1] h (fun r h2 => r = some (.long res) ∧ h2 = h) := by
  refine mEx.of (by decide +kernel) (show mEnt [va_rf v0, .int v1] 8 = [some (va_rf v0), some (.int v1), none, none, none, none, none, none] by rw [mEnt_r, mEnt_i] <;> rfl) (by simp only [List.map_cons, List.map_nil, mRfc, mCi, mCj, List.sum_cons, List.sum_nil]; exact Nat.le_of_ble_eq_true rfl) ?_
  refine g_X9_columnWays v0 v1 h e ?_
  exact ⟨rfl, rfl⟩
theorem s_X9_columnWays (v0 : Option Nat) (v1 : Int32) (h : mH) {res : Int64} (e : f_X9_columnWays v0 v1 h = some res) : mIs h v0 8 = some () := by
  unfold f_X9_columnWays at e
  obtain ⟨u, e1, _⟩ := mBind e
  cases u
  exact e1
-- X9_symmetries
def kX9_symmetries : mK := (cX9_symmetries, RX9, 8, some (.long), "symmetries", mRoom 6 0 0)
def zX9_symmetries : mY := (yX9_symmetries, cX9_symmetries, 8, some (.long))
set_option maxRecDepth 100000 in
theorem sc_RX9_258 : mSV RX9 258 zX9_columnWays 1 8 := ⟨Or.inl (mT_at 1186 (by decide +kernel) rfl), mT_at 1188 (by decide +kernel) rfl, mT_at 74 (by decide +kernel) rfl, mT_at 91 (by decide +kernel) rfl, mT_at 1189 (by decide +kernel) rfl, ⟨by decide +kernel, by decide +kernel, by decide +kernel⟩, by decide, rfl⟩
noncomputable def f_X9_symmetries_b67 (v0 : Option Nat) (v1 : Int32) (v2 : Int64) (v4 : Int32) (v5 : Int32) (v6 : Int32) (v7 : Int32) (h : mH) : Option ((Int32 × mH) ⊕ ((Int32 × Int32 × mH) ⊕ ((Int64 × Int32 × mH) ⊕ (Int64 × mH)))) :=
  if v4 ≤ v7 then
    (mGR h v0 8 19).bind fun x1 =>
    (mSI h x1 v4 v6).bind fun h2 =>
    (f_X9_finds v0 v1 v1 (v4 + (1 : Int32)) h2).bind fun x3 =>
    if x3.1 = 0 then
      some (Sum.inr (Sum.inl (v5, (v6 + 1), x3.2)))
    else
      some (Sum.inr (Sum.inl ((v5 + 1), (v6 + 1), x3.2)))
  else
    (mGR h v0 8 19).bind fun x4 =>
    (mSI h x4 v7 ((2 : Int32) * v7)).bind fun h5 =>
    some (Sum.inl ((v7 + 1), h5))
set_option maxRecDepth 100000 in
set_option maxHeartbeats 4000000 in
theorem g_X9_symmetries_b67 {w : mWp} {Q : Option Value → mH → Prop} (v0 : Option Nat) (v1 : Int32) (v2 : Int64) (v4 : Int32) (v5 : Int32) (v6 : Int32) (v7 : Int32) (h : mH) {res : (Int32 × mH) ⊕ ((Int32 × Int32 × mH) ⊕ ((Int64 × Int32 × mH) ⊕ (Int64 × mH)))} (e : f_X9_symmetries_b67 v0 v1 v2 v4 v5 v6 v7 h = some res) (q : (Sum.elim (fun x : Int32 × mH => mGo w kX9_symmetries 0 0 67 [some (va_rf v0), some (.int v1), some (.long v2), none, some (.int v4), some (.int v5), some (.int v6), some (.int x.1)] [] x.2 Q) (Sum.elim (fun x : Int32 × Int32 × mH => mGo w kX9_symmetries 0 0 51 [some (va_rf v0), some (.int v1), some (.long v2), none, some (.int v4), some (.int x.1), some (.int x.2.1), none] [] x.2.2 Q) (Sum.elim (fun x : Int64 × Int32 × mH => mGo w kX9_symmetries 0 0 34 [some (va_rf v0), some (.int v1), some (.long x.1), none, some (.int x.2.1), none, none, none] [] x.2.2 Q) (fun r : Int64 × mH => Q (some (.long r.1)) r.2)))) res) : mGo w kX9_symmetries 0 0 67 [some (va_rf v0), some (.int v1), some (.long v2), none, some (.int v4), some (.int v5), some (.int v6), some (.int v7)] [] h Q := by
  unfold f_X9_symmetries_b67 at e
  refine mGo.iload (n := 69) (x := v7) dX9_symmetries_67 rfl rfl ?_
  refine mGo.iload (n := 71) (x := v4) dX9_symmetries_69 rfl rfl ?_
  refine mGo.icmp_ge (tgt := 91) (n := 74) dX9_symmetries_71 (by decide) rfl (fun hc => ?_) (fun hc => ?_)
  · replace e := mIft hc e
    refine mGo.aload_n (n := 92) (r := v0) dX9_symmetries_91 rfl rfl ?_
    obtain ⟨x1, e_x1, e⟩ := mBind e
    refine mGo.getR (n := 95) dX9_symmetries_92 sf_RX9_60 e_x1 rfl ?_
    refine mGo.iload (n := 97) (x := v4) dX9_symmetries_95 rfl rfl ?_
    refine mGo.iload (n := 99) (x := v6) dX9_symmetries_97 rfl rfl ?_
    obtain ⟨h2, e_h2, e⟩ := mBind e
    refine mGo.iast (n := 100) dX9_symmetries_99 e_h2 rfl ?_
    refine mGo.aload_n (n := 101) (r := v0) dX9_symmetries_100 rfl rfl ?_
    refine mGo.iload_n (n := 102) (x := v1) dX9_symmetries_101 rfl rfl ?_
    refine mGo.iload_n (n := 103) (x := v1) dX9_symmetries_102 rfl rfl ?_
    refine mGo.iload (n := 105) (x := v4) dX9_symmetries_103 rfl rfl ?_
    refine mGo.iconst (n := 106) (v := (1 : Int32)) dX9_symmetries_105 (by decide) rfl ?_
    refine mGo.iadd (n := 107) dX9_symmetries_106 rfl ?_
    obtain ⟨x3, e_x3, e⟩ := mBind e
    refine mGo.callV (n := 110) (y := zX9_finds) (R' := (mRoom (4) 0 0)) (as := [.int v1, .int v1, .int (v4 + (1 : Int32))]) (st := []) (r0 := v0) dX9_symmetries_107 sc_RX9_250 rfl (s_X9_finds v0 v1 v1 (v4 + (1 : Int32)) h2 e_x3) (e_X9_finds v0 v1 v1 (v4 + (1 : Int32)) h2 e_x3) (mFit_of rfl (Nat.le_of_ble_eq_true rfl) (by decide) (Nat.le_of_ble_eq_true rfl) (Nat.le_of_ble_eq_true rfl)) (Nat.le_of_ble_eq_true rfl) rfl rfl ?_
    intro _ _ hq
    rw [hq.1, hq.2]
    show mGo w kX9_symmetries 0 0 110 [some (va_rf v0), some (.int v1), some (.long v2), none, some (.int v4), some (.int v5), some (.int v6), some (.int v7)] [.int x3.1] x3.2 Q
    refine mGo.if_eq (tgt := 116) (n := 113) dX9_symmetries_110 (by decide) rfl (fun hc => ?_) (fun hc => ?_)
    · replace e := mIft hc e
      refine mGo.iinc (n := 119) (x := v6) (v := (v6 + 1)) (ls' := [some (va_rf v0), some (.int v1), some (.long v2), none, some (.int v4), some (.int v5), some (.int (v6 + 1)), some (.int v7)]) dX9_symmetries_116 rfl rfl rfl (Nat.le_of_ble_eq_true rfl) rfl ?_
      refine mGo.goto (tgt := 51) dX9_symmetries_119 (by decide) ?_
      cases e
      refine mGo.mk [true, true, true, false, true, true, true, false] ?_
      exact q
    · replace e := mIff hc e
      refine mGo.iinc (n := 116) (x := v5) (v := (v5 + 1)) (ls' := [some (va_rf v0), some (.int v1), some (.long v2), none, some (.int v4), some (.int (v5 + 1)), some (.int v6), some (.int v7)]) dX9_symmetries_113 rfl rfl rfl (Nat.le_of_ble_eq_true rfl) rfl ?_
      refine mGo.iinc (n := 119) (x := v6) (v := (v6 + 1)) (ls' := [some (va_rf v0), some (.int v1), some (.long v2), none, some (.int v4), some (.int (v5 + 1)), some (.int (v6 + 1)), some (.int v7)]) dX9_symmetries_116 rfl rfl rfl (Nat.le_of_ble_eq_true rfl) rfl ?_
      refine mGo.goto (tgt := 51) dX9_symmetries_119 (by decide) ?_
      cases e
      refine mGo.mk [true, true, true, false, true, true, true, false] ?_
      exact q
  · replace e := mIff hc e
    refine mGo.aload_n (n := 75) (r := v0) dX9_symmetries_74 rfl rfl ?_
    obtain ⟨x4, e_x4, e⟩ := mBind e
    refine mGo.getR (n := 78) dX9_symmetries_75 sf_RX9_60 e_x4 rfl ?_
    refine mGo.iload (n := 80) (x := v7) dX9_symmetries_78 rfl rfl ?_
    refine mGo.iconst (n := 81) (v := (2 : Int32)) dX9_symmetries_80 (by decide) rfl ?_
    refine mGo.iload (n := 83) (x := v7) dX9_symmetries_81 rfl rfl ?_
    refine mGo.imul (n := 84) dX9_symmetries_83 rfl ?_
    obtain ⟨h5, e_h5, e⟩ := mBind e
    refine mGo.iast (n := 85) dX9_symmetries_84 e_h5 rfl ?_
    refine mGo.iinc (n := 88) (x := v7) (v := (v7 + 1)) (ls' := [some (va_rf v0), some (.int v1), some (.long v2), none, some (.int v4), some (.int v5), some (.int v6), some (.int (v7 + 1))]) dX9_symmetries_85 rfl rfl rfl (Nat.le_of_ble_eq_true rfl) rfl ?_
    refine mGo.goto (tgt := 67) dX9_symmetries_88 (by decide) ?_
    cases e
    refine mGo.mk [true, true, true, false, true, true, true, true] ?_
    exact q
noncomputable def f_X9_symmetries_l67 (v0 : Option Nat) (v1 : Int32) (v2 : Int64) (v4 : Int32) (v5 : Int32) (v6 : Int32) (v7 : Int32) (h : mH) : Option ((Int32 × Int32 × mH) ⊕ ((Int64 × Int32 × mH) ⊕ (Int64 × mH))) :=
  mLoop (fun x : Int32 × mH => f_X9_symmetries_b67 v0 v1 v2 v4 v5 v6 x.1 x.2) (v7, h)
set_option maxRecDepth 100000 in
set_option maxHeartbeats 4000000 in
theorem g_X9_symmetries_l67 {w : mWp} {Q : Option Value → mH → Prop} (v0 : Option Nat) (v1 : Int32) (v2 : Int64) (v4 : Int32) (v5 : Int32) (v6 : Int32) (v7 : Int32) (h : mH) {res : (Int32 × Int32 × mH) ⊕ ((Int64 × Int32 × mH) ⊕ (Int64 × mH))} (e : f_X9_symmetries_l67 v0 v1 v2 v4 v5 v6 v7 h = some res) (q : (Sum.elim (fun x : Int32 × Int32 × mH => mGo w kX9_symmetries 0 0 51 [some (va_rf v0), some (.int v1), some (.long v2), none, some (.int v4), some (.int x.1), some (.int x.2.1), none] [] x.2.2 Q) (Sum.elim (fun x : Int64 × Int32 × mH => mGo w kX9_symmetries 0 0 34 [some (va_rf v0), some (.int v1), some (.long x.1), none, some (.int x.2.1), none, none, none] [] x.2.2 Q) (fun r : Int64 × mH => Q (some (.long r.1)) r.2))) res) : mGo w kX9_symmetries 0 0 67 [some (va_rf v0), some (.int v1), some (.long v2), none, some (.int v4), some (.int v5), some (.int v6), some (.int v7)] [] h Q := by
  unfold f_X9_symmetries_l67 at e
  refine mLoop_go (x := (v7, h)) (fun x : Int32 × mH => mGo w kX9_symmetries 0 0 67 [some (va_rf v0), some (.int v1), some (.long v2), none, some (.int v4), some (.int v5), some (.int v6), some (.int x.1)] [] x.2 Q) (Sum.elim (fun x : Int32 × Int32 × mH => mGo w kX9_symmetries 0 0 51 [some (va_rf v0), some (.int v1), some (.long v2), none, some (.int v4), some (.int x.1), some (.int x.2.1), none] [] x.2.2 Q) (Sum.elim (fun x : Int64 × Int32 × mH => mGo w kX9_symmetries 0 0 34 [some (va_rf v0), some (.int v1), some (.long x.1), none, some (.int x.2.1), none, none, none] [] x.2.2 Q) (fun r : Int64 × mH => Q (some (.long r.1)) r.2))) ?_ e q
  rintro ⟨v7, h1⟩ res e q
  exact g_X9_symmetries_b67 v0 v1 v2 v4 v5 v6 v7 h1 e q
noncomputable def f_X9_symmetries_b51 (v0 : Option Nat) (v1 : Int32) (v2 : Int64) (v4 : Int32) (v5 : Int32) (v6 : Int32) (h : mH) : Option ((Int32 × Int32 × mH) ⊕ ((Int64 × Int32 × mH) ⊕ (Int64 × mH))) :=
  (mGR h v0 8 1).bind fun x1 =>
  (mAI h x1 v1).bind fun x2 =>
  if ((2 : Int32) * x2) ≤ v6 then
    some (Sum.inr (Sum.inl ((v2 * (Int32.toInt64 v5)), (v4 + 1), h)))
  else
    f_X9_symmetries_l67 v0 v1 v2 v4 v5 v6 (0 : Int32) h
set_option maxRecDepth 100000 in
set_option maxHeartbeats 4000000 in
theorem g_X9_symmetries_b51 {w : mWp} {Q : Option Value → mH → Prop} (v0 : Option Nat) (v1 : Int32) (v2 : Int64) (v4 : Int32) (v5 : Int32) (v6 : Int32) (h : mH) {res : (Int32 × Int32 × mH) ⊕ ((Int64 × Int32 × mH) ⊕ (Int64 × mH))} (e : f_X9_symmetries_b51 v0 v1 v2 v4 v5 v6 h = some res) (q : (Sum.elim (fun x : Int32 × Int32 × mH => mGo w kX9_symmetries 0 0 51 [some (va_rf v0), some (.int v1), some (.long v2), none, some (.int v4), some (.int x.1), some (.int x.2.1), none] [] x.2.2 Q) (Sum.elim (fun x : Int64 × Int32 × mH => mGo w kX9_symmetries 0 0 34 [some (va_rf v0), some (.int v1), some (.long x.1), none, some (.int x.2.1), none, none, none] [] x.2.2 Q) (fun r : Int64 × mH => Q (some (.long r.1)) r.2))) res) : mGo w kX9_symmetries 0 0 51 [some (va_rf v0), some (.int v1), some (.long v2), none, some (.int v4), some (.int v5), some (.int v6), none] [] h Q := by
  unfold f_X9_symmetries_b51 at e
  refine mGo.iload (n := 53) (x := v6) dX9_symmetries_51 rfl rfl ?_
  refine mGo.iconst (n := 54) (v := (2 : Int32)) dX9_symmetries_53 (by decide) rfl ?_
  refine mGo.aload_n (n := 55) (r := v0) dX9_symmetries_54 rfl rfl ?_
  obtain ⟨x1, e_x1, e⟩ := mBind e
  refine mGo.getR (n := 58) dX9_symmetries_55 sf_RX9_13 e_x1 rfl ?_
  refine mGo.iload_n (n := 59) (x := v1) dX9_symmetries_58 rfl rfl ?_
  obtain ⟨x2, e_x2, e⟩ := mBind e
  refine mGo.iald (n := 60) dX9_symmetries_59 e_x2 rfl ?_
  refine mGo.imul (n := 61) dX9_symmetries_60 rfl ?_
  refine mGo.icmp_ge (tgt := 122) (n := 64) dX9_symmetries_61 (by decide) rfl (fun hc => ?_) (fun hc => ?_)
  · replace e := mIft hc e
    refine mGo.lload_n (n := 123) (x := v2) dX9_symmetries_122 rfl rfl ?_
    refine mGo.iload (n := 125) (x := v5) dX9_symmetries_123 rfl rfl ?_
    refine mGo.i2l (n := 126) dX9_symmetries_125 rfl ?_
    refine mGo.lmul (n := 127) dX9_symmetries_126 rfl ?_
    refine mGo.lstore_n (n := 128) (ls' := [some (va_rf v0), some (.int v1), some (.long (v2 * (Int32.toInt64 v5))), none, some (.int v4), some (.int v5), some (.int v6), none]) dX9_symmetries_127 rfl (Nat.le_of_ble_eq_true rfl) rfl ?_
    refine mGo.iinc (n := 131) (x := v4) (v := (v4 + 1)) (ls' := [some (va_rf v0), some (.int v1), some (.long (v2 * (Int32.toInt64 v5))), none, some (.int (v4 + 1)), some (.int v5), some (.int v6), none]) dX9_symmetries_128 rfl rfl rfl (Nat.le_of_ble_eq_true rfl) rfl ?_
    refine mGo.goto (tgt := 34) dX9_symmetries_131 (by decide) ?_
    cases e
    refine mGo.mk [true, true, true, false, true, false, false, false] ?_
    exact q
  · replace e := mIff hc e
    refine mGo.iconst (n := 65) (v := (0 : Int32)) dX9_symmetries_64 (by decide) rfl ?_
    refine mGo.istore (n := 67) (ls' := [some (va_rf v0), some (.int v1), some (.long v2), none, some (.int v4), some (.int v5), some (.int v6), some (.int (0 : Int32))]) dX9_symmetries_65 rfl (Nat.le_of_ble_eq_true rfl) rfl ?_
    refine mGo.mk [true, true, true, false, true, true, true, true] ?_
    exact g_X9_symmetries_l67 v0 v1 v2 v4 v5 v6 (0 : Int32) h e q
noncomputable def f_X9_symmetries_l51 (v0 : Option Nat) (v1 : Int32) (v2 : Int64) (v4 : Int32) (v5 : Int32) (v6 : Int32) (h : mH) : Option ((Int64 × Int32 × mH) ⊕ (Int64 × mH)) :=
  mLoop (fun x : Int32 × Int32 × mH => f_X9_symmetries_b51 v0 v1 v2 v4 x.1 x.2.1 x.2.2) (v5, v6, h)
set_option maxRecDepth 100000 in
set_option maxHeartbeats 4000000 in
theorem g_X9_symmetries_l51 {w : mWp} {Q : Option Value → mH → Prop} (v0 : Option Nat) (v1 : Int32) (v2 : Int64) (v4 : Int32) (v5 : Int32) (v6 : Int32) (h : mH) {res : (Int64 × Int32 × mH) ⊕ (Int64 × mH)} (e : f_X9_symmetries_l51 v0 v1 v2 v4 v5 v6 h = some res) (q : (Sum.elim (fun x : Int64 × Int32 × mH => mGo w kX9_symmetries 0 0 34 [some (va_rf v0), some (.int v1), some (.long x.1), none, some (.int x.2.1), none, none, none] [] x.2.2 Q) (fun r : Int64 × mH => Q (some (.long r.1)) r.2)) res) : mGo w kX9_symmetries 0 0 51 [some (va_rf v0), some (.int v1), some (.long v2), none, some (.int v4), some (.int v5), some (.int v6), none] [] h Q := by
  unfold f_X9_symmetries_l51 at e
  refine mLoop_go (x := (v5, v6, h)) (fun x : Int32 × Int32 × mH => mGo w kX9_symmetries 0 0 51 [some (va_rf v0), some (.int v1), some (.long v2), none, some (.int v4), some (.int x.1), some (.int x.2.1), none] [] x.2.2 Q) (Sum.elim (fun x : Int64 × Int32 × mH => mGo w kX9_symmetries 0 0 34 [some (va_rf v0), some (.int v1), some (.long x.1), none, some (.int x.2.1), none, none, none] [] x.2.2 Q) (fun r : Int64 × mH => Q (some (.long r.1)) r.2)) ?_ e q
  rintro ⟨v5, v6, h1⟩ res e q
  exact g_X9_symmetries_b51 v0 v1 v2 v4 v5 v6 h1 e q
noncomputable def f_X9_symmetries_b34 (v0 : Option Nat) (v1 : Int32) (v2 : Int64) (v4 : Int32) (h : mH) : Option ((Int64 × Int32 × mH) ⊕ (Int64 × mH)) :=
  (mGR h v0 8 1).bind fun x1 =>
  (mAI h x1 v1).bind fun x2 =>
  if x2 ≤ v4 then
    some (Sum.inr (v2, h))
  else
    f_X9_symmetries_l51 v0 v1 v2 v4 (0 : Int32) (0 : Int32) h
set_option maxRecDepth 100000 in
set_option maxHeartbeats 4000000 in
theorem g_X9_symmetries_b34 {w : mWp} {Q : Option Value → mH → Prop} (v0 : Option Nat) (v1 : Int32) (v2 : Int64) (v4 : Int32) (h : mH) {res : (Int64 × Int32 × mH) ⊕ (Int64 × mH)} (e : f_X9_symmetries_b34 v0 v1 v2 v4 h = some res) (q : (Sum.elim (fun x : Int64 × Int32 × mH => mGo w kX9_symmetries 0 0 34 [some (va_rf v0), some (.int v1), some (.long x.1), none, some (.int x.2.1), none, none, none] [] x.2.2 Q) (fun r : Int64 × mH => Q (some (.long r.1)) r.2)) res) : mGo w kX9_symmetries 0 0 34 [some (va_rf v0), some (.int v1), some (.long v2), none, some (.int v4), none, none, none] [] h Q := by
  unfold f_X9_symmetries_b34 at e
  refine mGo.iload (n := 36) (x := v4) dX9_symmetries_34 rfl rfl ?_
  refine mGo.aload_n (n := 37) (r := v0) dX9_symmetries_36 rfl rfl ?_
  obtain ⟨x1, e_x1, e⟩ := mBind e
  refine mGo.getR (n := 40) dX9_symmetries_37 sf_RX9_13 e_x1 rfl ?_
  refine mGo.iload_n (n := 41) (x := v1) dX9_symmetries_40 rfl rfl ?_
  obtain ⟨x2, e_x2, e⟩ := mBind e
  refine mGo.iald (n := 42) dX9_symmetries_41 e_x2 rfl ?_
  refine mGo.icmp_ge (tgt := 134) (n := 45) dX9_symmetries_42 (by decide) rfl (fun hc => ?_) (fun hc => ?_)
  · replace e := mIft hc e
    refine mGo.lload_n (n := 135) (x := v2) dX9_symmetries_134 rfl rfl ?_
    cases e
    exact mGo.lret dX9_symmetries_135 rfl (Nat.le_of_ble_eq_true rfl) (Nat.le_of_ble_eq_true rfl) q
  · replace e := mIff hc e
    refine mGo.iconst (n := 46) (v := (0 : Int32)) dX9_symmetries_45 (by decide) rfl ?_
    refine mGo.istore (n := 48) (ls' := [some (va_rf v0), some (.int v1), some (.long v2), none, some (.int v4), some (.int (0 : Int32)), none, none]) dX9_symmetries_46 rfl (Nat.le_of_ble_eq_true rfl) rfl ?_
    refine mGo.iconst (n := 49) (v := (0 : Int32)) dX9_symmetries_48 (by decide) rfl ?_
    refine mGo.istore (n := 51) (ls' := [some (va_rf v0), some (.int v1), some (.long v2), none, some (.int v4), some (.int (0 : Int32)), some (.int (0 : Int32)), none]) dX9_symmetries_49 rfl (Nat.le_of_ble_eq_true rfl) rfl ?_
    refine mGo.mk [true, true, true, false, true, true, true, false] ?_
    exact g_X9_symmetries_l51 v0 v1 v2 v4 (0 : Int32) (0 : Int32) h e q
noncomputable def f_X9_symmetries_l34 (v0 : Option Nat) (v1 : Int32) (v2 : Int64) (v4 : Int32) (h : mH) : Option (Int64 × mH) :=
  mLoop (fun x : Int64 × Int32 × mH => f_X9_symmetries_b34 v0 v1 x.1 x.2.1 x.2.2) (v2, v4, h)
set_option maxRecDepth 100000 in
set_option maxHeartbeats 4000000 in
theorem g_X9_symmetries_l34 {w : mWp} {Q : Option Value → mH → Prop} (v0 : Option Nat) (v1 : Int32) (v2 : Int64) (v4 : Int32) (h : mH) {res : Int64 × mH} (e : f_X9_symmetries_l34 v0 v1 v2 v4 h = some res) (q : (fun r : Int64 × mH => Q (some (.long r.1)) r.2) res) : mGo w kX9_symmetries 0 0 34 [some (va_rf v0), some (.int v1), some (.long v2), none, some (.int v4), none, none, none] [] h Q := by
  unfold f_X9_symmetries_l34 at e
  refine mLoop_go (x := (v2, v4, h)) (fun x : Int64 × Int32 × mH => mGo w kX9_symmetries 0 0 34 [some (va_rf v0), some (.int v1), some (.long x.1), none, some (.int x.2.1), none, none, none] [] x.2.2 Q) (fun r : Int64 × mH => Q (some (.long r.1)) r.2) ?_ e q
  rintro ⟨v2, v4, h1⟩ res e q
  exact g_X9_symmetries_b34 v0 v1 v2 v4 h1 e q
noncomputable def f_X9_symmetries (v0 : Option Nat) (v1 : Int32) (h : mH) : Option (Int64 × mH) :=
  (mIs h v0 8).bind fun _ =>
  (f_X9_isTable v0 v1 h).bind fun x1 =>
  if x1 = 0 then
    some ((-1 : Int64), h)
  else
    (f_X9_canAsk v0 v1 v1 h).bind fun x2 =>
    if x2.1 = 0 then
      some ((-2 : Int64), x2.2)
    else
      (f_X9_columnWays v0 v1 x2.2).bind fun x3 =>
      f_X9_symmetries_l34 v0 v1 x3 (0 : Int32) x2.2
set_option maxRecDepth 100000 in
set_option maxHeartbeats 4000000 in
theorem g_X9_symmetries {w : mWp} {Q : Option Value → mH → Prop} (v0 : Option Nat) (v1 : Int32) (h : mH) {res : Int64 × mH} (e : f_X9_symmetries v0 v1 h = some res) (q : (fun r : Int64 × mH => Q (some (.long r.1)) r.2) res) : mGo w kX9_symmetries 0 0 0 [some (va_rf v0), some (.int v1), none, none, none, none, none, none] [] h Q := by
  unfold f_X9_symmetries at e
  obtain ⟨_, _, e⟩ := mBind e
  refine mGo.aload_n (n := 1) (r := v0) dX9_symmetries_0 rfl rfl ?_
  refine mGo.iload_n (n := 2) (x := v1) dX9_symmetries_1 rfl rfl ?_
  obtain ⟨x1, e_x1, e⟩ := mBind e
  refine mGo.callV (n := 5) (y := zX9_isTable) (R' := (mRoom (2) 0 0)) (as := [.int v1]) (st := []) (r0 := v0) dX9_symmetries_2 sc_RX9_86 rfl (s_X9_isTable v0 v1 h e_x1) (e_X9_isTable v0 v1 h e_x1) (mFit_of rfl (Nat.le_of_ble_eq_true rfl) (by decide) (Nat.le_of_ble_eq_true rfl) (Nat.le_of_ble_eq_true rfl)) (Nat.le_of_ble_eq_true rfl) rfl rfl ?_
  intro _ _ hq
  rw [hq.1, hq.2]
  show mGo w kX9_symmetries 0 0 5 [some (va_rf v0), some (.int v1), none, none, none, none, none, none] [.int x1] h Q
  refine mGo.if_ne (tgt := 12) (n := 8) dX9_symmetries_5 (by decide) rfl (fun hc => ?_) (fun hc => ?_)
  · replace e := mIff hc e
    refine mGo.aload_n (n := 13) (r := v0) dX9_symmetries_12 rfl rfl ?_
    refine mGo.iload_n (n := 14) (x := v1) dX9_symmetries_13 rfl rfl ?_
    refine mGo.iload_n (n := 15) (x := v1) dX9_symmetries_14 rfl rfl ?_
    obtain ⟨x2, e_x2, e⟩ := mBind e
    refine mGo.callV (n := 18) (y := zX9_canAsk) (R' := (mRoom (5) 0 0)) (as := [.int v1, .int v1]) (st := []) (r0 := v0) dX9_symmetries_15 sc_RX9_247 rfl (s_X9_canAsk v0 v1 v1 h e_x2) (e_X9_canAsk v0 v1 v1 h e_x2) (mFit_of rfl (Nat.le_of_ble_eq_true rfl) (by decide) (Nat.le_of_ble_eq_true rfl) (Nat.le_of_ble_eq_true rfl)) (Nat.le_of_ble_eq_true rfl) rfl rfl ?_
    intro _ _ hq
    rw [hq.1, hq.2]
    show mGo w kX9_symmetries 0 0 18 [some (va_rf v0), some (.int v1), none, none, none, none, none, none] [.int x2.1] x2.2 Q
    refine mGo.if_ne (tgt := 25) (n := 21) dX9_symmetries_18 (by decide) rfl (fun hc => ?_) (fun hc => ?_)
    · replace e := mIff hc e
      refine mGo.aload_n (n := 26) (r := v0) dX9_symmetries_25 rfl rfl ?_
      refine mGo.iload_n (n := 27) (x := v1) dX9_symmetries_26 rfl rfl ?_
      obtain ⟨x3, e_x3, e⟩ := mBind e
      refine mGo.callV (n := 30) (y := zX9_columnWays) (R' := (mRoom (4) 0 0)) (as := [.int v1]) (st := []) (r0 := v0) dX9_symmetries_27 sc_RX9_258 rfl (s_X9_columnWays v0 v1 x2.2 e_x3) (e_X9_columnWays v0 v1 x2.2 e_x3) (mFit_of rfl (Nat.le_of_ble_eq_true rfl) (by decide) (Nat.le_of_ble_eq_true rfl) (Nat.le_of_ble_eq_true rfl)) (Nat.le_of_ble_eq_true rfl) rfl rfl ?_
      intro _ _ hq
      rw [hq.1, hq.2]
      show mGo w kX9_symmetries 0 0 30 [some (va_rf v0), some (.int v1), none, none, none, none, none, none] [.long x3] x2.2 Q
      refine mGo.lstore_n (n := 31) (ls' := [some (va_rf v0), some (.int v1), some (.long x3), none, none, none, none, none]) dX9_symmetries_30 rfl (Nat.le_of_ble_eq_true rfl) rfl ?_
      refine mGo.iconst (n := 32) (v := (0 : Int32)) dX9_symmetries_31 (by decide) rfl ?_
      refine mGo.istore (n := 34) (ls' := [some (va_rf v0), some (.int v1), some (.long x3), none, some (.int (0 : Int32)), none, none, none]) dX9_symmetries_32 rfl (Nat.le_of_ble_eq_true rfl) rfl ?_
      refine mGo.mk [true, true, true, false, true, false, false, false] ?_
      exact g_X9_symmetries_l34 v0 v1 x3 (0 : Int32) x2.2 e q
    · replace e := mIft hc e
      refine mGo.ldc2_w (n := 24) (v := (-2 : Int64)) dX9_symmetries_21 (mT_at 1185 (by decide +kernel) rfl) rfl ?_
      cases e
      exact mGo.lret dX9_symmetries_24 rfl (Nat.le_of_ble_eq_true rfl) (Nat.le_of_ble_eq_true rfl) q
  · replace e := mIft hc e
    refine mGo.ldc2_w (n := 11) (v := (-1 : Int64)) dX9_symmetries_8 (mT_at 1141 (by decide +kernel) rfl) rfl ?_
    cases e
    exact mGo.lret dX9_symmetries_11 rfl (Nat.le_of_ble_eq_true rfl) (Nat.le_of_ble_eq_true rfl) q
theorem e_X9_symmetries {w : mWp} (v0 : Option Nat) (v1 : Int32) (h : mH) {res : Int64 × mH} (e : f_X9_symmetries v0 v1 h = some res) : mEx w zX9_symmetries (mRoom 6 0 0) [va_rf v0, .int v1] h (fun r h2 => r = some (.long res.1) ∧ h2 = res.2) := by
  refine mEx.of (by decide +kernel) (show mEnt [va_rf v0, .int v1] 8 = [some (va_rf v0), some (.int v1), none, none, none, none, none, none] by rw [mEnt_r, mEnt_i] <;> rfl) (by simp only [List.map_cons, List.map_nil, mRfc, mCi, mCj, List.sum_cons, List.sum_nil]; exact Nat.le_of_ble_eq_true rfl) ?_
  refine g_X9_symmetries v0 v1 h e ?_
  exact ⟨rfl, rfl⟩
theorem s_X9_symmetries (v0 : Option Nat) (v1 : Int32) (h : mH) {res : Int64 × mH} (e : f_X9_symmetries v0 v1 h = some res) : mIs h v0 8 = some () := by
  unfold f_X9_symmetries at e
  obtain ⟨u, e1, _⟩ := mBind e
  cases u
  exact e1
-- X9_isKnot
def kX9_isKnot : mK := (cX9_isKnot, RX9, 3, some (.boolean), "isKnot", mRoom 3 0 0)
def zX9_isKnot : mY := (yX9_isKnot, cX9_isKnot, 3, some (.boolean))
def f_X9_isKnot (v0 : Option Nat) (v1 : Int32) (v2 : Int32) (h : mH) : Option (Int32) :=
  (mIs h v0 8).bind fun _ =>
  (f_X9_isTable v0 v1 h).bind fun x1 =>
  if x1 = 0 then
    some (0 : Int32)
  else
    (mGR h v0 8 1).bind fun x2 =>
    (mAI h x2 v1).bind fun x3 =>
    (f_X9_in v2 (0 : Int32) (((4 : Int32) * x3) - (1 : Int32))).bind fun x4 =>
    if x4 = 0 then
      some (0 : Int32)
    else
      some (1 : Int32)
set_option maxRecDepth 100000 in
set_option maxHeartbeats 4000000 in
theorem g_X9_isKnot {w : mWp} {Q : Option Value → mH → Prop} (v0 : Option Nat) (v1 : Int32) (v2 : Int32) (h : mH) {res : Int32} (e : f_X9_isKnot v0 v1 v2 h = some res) (q : (fun r : Int32 => Q (some (.int r)) h) res) : mGo w kX9_isKnot 0 0 0 [some (va_rf v0), some (.int v1), some (.int v2)] [] h Q := by
  unfold f_X9_isKnot at e
  obtain ⟨_, _, e⟩ := mBind e
  refine mGo.aload_n (n := 1) (r := v0) dX9_isKnot_0 rfl rfl ?_
  refine mGo.iload_n (n := 2) (x := v1) dX9_isKnot_1 rfl rfl ?_
  obtain ⟨x1, e_x1, e⟩ := mBind e
  refine mGo.callV (n := 5) (y := zX9_isTable) (R' := (mRoom (2) 0 0)) (as := [.int v1]) (st := []) (r0 := v0) dX9_isKnot_2 sc_RX9_86 rfl (s_X9_isTable v0 v1 h e_x1) (e_X9_isTable v0 v1 h e_x1) (mFit_of rfl (Nat.le_of_ble_eq_true rfl) (by decide) (Nat.le_of_ble_eq_true rfl) (Nat.le_of_ble_eq_true rfl)) (Nat.le_of_ble_eq_true rfl) rfl rfl ?_
  intro _ _ hq
  rw [hq.1, hq.2]
  show mGo w kX9_isKnot 0 0 5 [some (va_rf v0), some (.int v1), some (.int v2)] [.int x1] h Q
  refine mGo.if_eq (tgt := 30) (n := 8) dX9_isKnot_5 (by decide) rfl (fun hc => ?_) (fun hc => ?_)
  · replace e := mIft hc e
    refine mGo.iconst (n := 31) (v := (0 : Int32)) dX9_isKnot_30 (by decide) rfl ?_
    cases e
    exact mGo.zret dX9_isKnot_31 rfl (by decide) (Nat.le_of_ble_eq_true rfl) (Nat.le_of_ble_eq_true rfl) q
  · replace e := mIff hc e
    refine mGo.iload_n (n := 9) (x := v2) dX9_isKnot_8 rfl rfl ?_
    refine mGo.iconst (n := 10) (v := (0 : Int32)) dX9_isKnot_9 (by decide) rfl ?_
    refine mGo.iconst (n := 11) (v := (4 : Int32)) dX9_isKnot_10 (by decide) rfl ?_
    refine mGo.aload_n (n := 12) (r := v0) dX9_isKnot_11 rfl rfl ?_
    obtain ⟨x2, e_x2, e⟩ := mBind e
    refine mGo.getR (n := 15) dX9_isKnot_12 sf_RX9_13 e_x2 rfl ?_
    refine mGo.iload_n (n := 16) (x := v1) dX9_isKnot_15 rfl rfl ?_
    obtain ⟨x3, e_x3, e⟩ := mBind e
    refine mGo.iald (n := 17) dX9_isKnot_16 e_x3 rfl ?_
    refine mGo.imul (n := 18) dX9_isKnot_17 rfl ?_
    refine mGo.iconst (n := 19) (v := (1 : Int32)) dX9_isKnot_18 (by decide) rfl ?_
    refine mGo.isub (n := 20) dX9_isKnot_19 rfl ?_
    obtain ⟨x4, e_x4, e⟩ := mBind e
    refine mGo.callS (n := 23) (y := zX9_in) (R' := (mRoom (1) 0 0)) (as := [.int v2, .int (0 : Int32), .int (((4 : Int32) * x3) - (1 : Int32))]) (st := []) dX9_isKnot_20 sc_RX9_82 rfl (e_X9_in v2 (0 : Int32) (((4 : Int32) * x3) - (1 : Int32)) h e_x4) (mFit_of rfl (Nat.le_of_ble_eq_true rfl) (by decide) (Nat.le_of_ble_eq_true rfl) (Nat.le_of_ble_eq_true rfl)) (Nat.le_of_ble_eq_true rfl) rfl rfl ?_
    intro _ _ hq
    rw [hq.1, hq.2]
    show mGo w kX9_isKnot 0 0 23 [some (va_rf v0), some (.int v1), some (.int v2)] [.int x4] h Q
    refine mGo.if_eq (tgt := 30) (n := 26) dX9_isKnot_23 (by decide) rfl (fun hc => ?_) (fun hc => ?_)
    · replace e := mIft hc e
      refine mGo.iconst (n := 31) (v := (0 : Int32)) dX9_isKnot_30 (by decide) rfl ?_
      cases e
      exact mGo.zret dX9_isKnot_31 rfl (by decide) (Nat.le_of_ble_eq_true rfl) (Nat.le_of_ble_eq_true rfl) q
    · replace e := mIff hc e
      refine mGo.iconst (n := 27) (v := (1 : Int32)) dX9_isKnot_26 (by decide) rfl ?_
      refine mGo.goto (tgt := 31) dX9_isKnot_27 (by decide) ?_
      cases e
      exact mGo.zret dX9_isKnot_31 rfl (by decide) (Nat.le_of_ble_eq_true rfl) (Nat.le_of_ble_eq_true rfl) q
theorem e_X9_isKnot {w : mWp} (v0 : Option Nat) (v1 : Int32) (v2 : Int32) (h : mH) {res : Int32} (e : f_X9_isKnot v0 v1 v2 h = some res) : mEx w zX9_isKnot (mRoom 3 0 0) [va_rf v0, .int v1, .int v2] h (fun r h2 => r = some (.int res) ∧ h2 = h) := by
  refine mEx.of (by decide +kernel) (show mEnt [va_rf v0, .int v1, .int v2] 3 = [some (va_rf v0), some (.int v1), some (.int v2)] by rw [mEnt_r, mEnt_i, mEnt_i] <;> rfl) (by simp only [List.map_cons, List.map_nil, mRfc, mCi, mCj, List.sum_cons, List.sum_nil]; exact Nat.le_of_ble_eq_true rfl) ?_
  refine g_X9_isKnot v0 v1 v2 h e ?_
  exact ⟨rfl, rfl⟩
theorem s_X9_isKnot (v0 : Option Nat) (v1 : Int32) (v2 : Int32) (h : mH) {res : Int32} (e : f_X9_isKnot v0 v1 v2 h = some res) : mIs h v0 8 = some () := by
  unfold f_X9_isKnot at e
  obtain ⟨u, e1, _⟩ := mBind e
  cases u
  exact e1
-- X9_isLineBetween
def kX9_isLineBetween : mK := (cX9_isLineBetween, RX9, 7, some (.boolean), "isLineBetween", mRoom 3 0 0)
def zX9_isLineBetween : mY := (yX9_isLineBetween, cX9_isLineBetween, 7, some (.boolean))
def f_X9_isLineBetween_c98 (s0 : Int32) (s1 : Int32) (h : mH) : Option (Int32) :=
  if s0 = s1 then
    some (1 : Int32)
  else
    some (0 : Int32)
set_option maxRecDepth 100000 in
set_option maxHeartbeats 4000000 in
theorem g_X9_isLineBetween_c98 {w : mWp} {Q : Option Value → mH → Prop} (s0 : Int32) (s1 : Int32) (h : mH) {res : Int32} (e : f_X9_isLineBetween_c98 s0 s1 h = some res) (q : (fun r : Int32 => Q (some (.int r)) h) res) : mGo w kX9_isLineBetween 0 0 98 [none, none, none, none, none, none, none] [.int s1, .int s0] h Q := by
  unfold f_X9_isLineBetween_c98 at e
  refine mGo.icmp_ne (tgt := 105) (n := 101) dX9_isLineBetween_98 (by decide) rfl (fun hc => ?_) (fun hc => ?_)
  · replace e := mIff hc e
    refine mGo.iconst (n := 106) (v := (0 : Int32)) dX9_isLineBetween_105 (by decide) rfl ?_
    cases e
    exact mGo.zret dX9_isLineBetween_106 rfl (by decide) (Nat.le_of_ble_eq_true rfl) (Nat.le_of_ble_eq_true rfl) q
  · replace e := mIft hc e
    refine mGo.iconst (n := 102) (v := (1 : Int32)) dX9_isLineBetween_101 (by decide) rfl ?_
    refine mGo.goto (tgt := 106) dX9_isLineBetween_102 (by decide) ?_
    cases e
    exact mGo.zret dX9_isLineBetween_106 rfl (by decide) (Nat.le_of_ble_eq_true rfl) (Nat.le_of_ble_eq_true rfl) q
def f_X9_isLineBetween_c67 (v0 : Option Nat) (v1 : Int32) (v5 : Int32) (s0 : Int32) (h : mH) : Option (Int32) :=
  (f_X9_isMinus v0 v1 (v5 / (2 : Int32)) (s0 / (2 : Int32)) h).bind fun x1 =>
  if (mRem v5 (2 : Int32)) = (mRem s0 (2 : Int32)) then
    f_X9_isLineBetween_c98 x1 (0 : Int32) h
  else
    f_X9_isLineBetween_c98 x1 (1 : Int32) h
set_option maxRecDepth 100000 in
set_option maxHeartbeats 4000000 in
theorem g_X9_isLineBetween_c67 {w : mWp} {Q : Option Value → mH → Prop} (v0 : Option Nat) (v1 : Int32) (v5 : Int32) (s0 : Int32) (h : mH) {res : Int32} (e : f_X9_isLineBetween_c67 v0 v1 v5 s0 h = some res) (q : (fun r : Int32 => Q (some (.int r)) h) res) : mGo w kX9_isLineBetween 0 0 67 [some (va_rf v0), some (.int v1), none, none, none, some (.int v5), none] [.int s0] h Q := by
  unfold f_X9_isLineBetween_c67 at e
  refine mGo.istore (n := 69) (ls' := [some (va_rf v0), some (.int v1), none, none, none, some (.int v5), some (.int s0)]) dX9_isLineBetween_67 rfl (Nat.le_of_ble_eq_true rfl) rfl ?_
  refine mGo.aload_n (n := 70) (r := v0) dX9_isLineBetween_69 rfl rfl ?_
  refine mGo.iload_n (n := 71) (x := v1) dX9_isLineBetween_70 rfl rfl ?_
  refine mGo.iload (n := 73) (x := v5) dX9_isLineBetween_71 rfl rfl ?_
  refine mGo.iconst (n := 74) (v := (2 : Int32)) dX9_isLineBetween_73 (by decide) rfl ?_
  refine mGo.idiv (n := 75) dX9_isLineBetween_74 (by decide) rfl ?_
  refine mGo.iload (n := 77) (x := s0) dX9_isLineBetween_75 rfl rfl ?_
  refine mGo.iconst (n := 78) (v := (2 : Int32)) dX9_isLineBetween_77 (by decide) rfl ?_
  refine mGo.idiv (n := 79) dX9_isLineBetween_78 (by decide) rfl ?_
  obtain ⟨x1, e_x1, e⟩ := mBind e
  refine mGo.callV (n := 82) (y := zX9_isMinus) (R' := (mRoom (2) 0 0)) (as := [.int v1, .int (v5 / (2 : Int32)), .int (s0 / (2 : Int32))]) (st := []) (r0 := v0) dX9_isLineBetween_79 sc_RX9_98 rfl (s_X9_isMinus v0 v1 (v5 / (2 : Int32)) (s0 / (2 : Int32)) h e_x1) (e_X9_isMinus v0 v1 (v5 / (2 : Int32)) (s0 / (2 : Int32)) h e_x1) (mFit_of rfl (Nat.le_of_ble_eq_true rfl) (by decide) (Nat.le_of_ble_eq_true rfl) (Nat.le_of_ble_eq_true rfl)) (Nat.le_of_ble_eq_true rfl) rfl rfl ?_
  intro _ _ hq
  rw [hq.1, hq.2]
  show mGo w kX9_isLineBetween 0 0 82 [some (va_rf v0), some (.int v1), none, none, none, some (.int v5), some (.int s0)] [.int x1] h Q
  refine mGo.iload (n := 84) (x := v5) dX9_isLineBetween_82 rfl rfl ?_
  refine mGo.iconst (n := 85) (v := (2 : Int32)) dX9_isLineBetween_84 (by decide) rfl ?_
  refine mGo.irem (n := 86) dX9_isLineBetween_85 (by decide) rfl ?_
  refine mGo.iload (n := 88) (x := s0) dX9_isLineBetween_86 rfl rfl ?_
  refine mGo.iconst (n := 89) (v := (2 : Int32)) dX9_isLineBetween_88 (by decide) rfl ?_
  refine mGo.irem (n := 90) dX9_isLineBetween_89 (by decide) rfl ?_
  refine mGo.icmp_eq (tgt := 97) (n := 93) dX9_isLineBetween_90 (by decide) rfl (fun hc => ?_) (fun hc => ?_)
  · replace e := mIft hc e
    refine mGo.iconst (n := 98) (v := (0 : Int32)) dX9_isLineBetween_97 (by decide) rfl ?_
    refine mGo.mk [false, false, false, false, false, false, false] ?_
    exact g_X9_isLineBetween_c98 x1 (0 : Int32) h e q
  · replace e := mIff hc e
    refine mGo.iconst (n := 94) (v := (1 : Int32)) dX9_isLineBetween_93 (by decide) rfl ?_
    refine mGo.goto (tgt := 98) dX9_isLineBetween_94 (by decide) ?_
    refine mGo.mk [false, false, false, false, false, false, false] ?_
    exact g_X9_isLineBetween_c98 x1 (1 : Int32) h e q
def f_X9_isLineBetween_c48 (v0 : Option Nat) (v1 : Int32) (v2 : Int32) (v3 : Int32) (v4 : Int32) (s0 : Int32) (h : mH) : Option (Int32) :=
  if v4 ≤ v2 then
    f_X9_isLineBetween_c67 v0 v1 s0 (v2 - v4) h
  else
    f_X9_isLineBetween_c67 v0 v1 s0 (v3 - v4) h
set_option maxRecDepth 100000 in
set_option maxHeartbeats 4000000 in
theorem g_X9_isLineBetween_c48 {w : mWp} {Q : Option Value → mH → Prop} (v0 : Option Nat) (v1 : Int32) (v2 : Int32) (v3 : Int32) (v4 : Int32) (s0 : Int32) (h : mH) {res : Int32} (e : f_X9_isLineBetween_c48 v0 v1 v2 v3 v4 s0 h = some res) (q : (fun r : Int32 => Q (some (.int r)) h) res) : mGo w kX9_isLineBetween 0 0 48 [some (va_rf v0), some (.int v1), some (.int v2), some (.int v3), some (.int v4), none, none] [.int s0] h Q := by
  unfold f_X9_isLineBetween_c48 at e
  refine mGo.istore (n := 50) (ls' := [some (va_rf v0), some (.int v1), some (.int v2), some (.int v3), some (.int v4), some (.int s0), none]) dX9_isLineBetween_48 rfl (Nat.le_of_ble_eq_true rfl) rfl ?_
  refine mGo.iload_n (n := 51) (x := v2) dX9_isLineBetween_50 rfl rfl ?_
  refine mGo.iload (n := 53) (x := v4) dX9_isLineBetween_51 rfl rfl ?_
  refine mGo.icmp_ge (tgt := 63) (n := 56) dX9_isLineBetween_53 (by decide) rfl (fun hc => ?_) (fun hc => ?_)
  · replace e := mIft hc e
    refine mGo.iload_n (n := 64) (x := v2) dX9_isLineBetween_63 rfl rfl ?_
    refine mGo.iload (n := 66) (x := v4) dX9_isLineBetween_64 rfl rfl ?_
    refine mGo.isub (n := 67) dX9_isLineBetween_66 rfl ?_
    refine mGo.mk [true, true, false, false, false, true, false] ?_
    exact g_X9_isLineBetween_c67 v0 v1 s0 (v2 - v4) h e q
  · replace e := mIff hc e
    refine mGo.iload_n (n := 57) (x := v3) dX9_isLineBetween_56 rfl rfl ?_
    refine mGo.iload (n := 59) (x := v4) dX9_isLineBetween_57 rfl rfl ?_
    refine mGo.isub (n := 60) dX9_isLineBetween_59 rfl ?_
    refine mGo.goto (tgt := 67) dX9_isLineBetween_60 (by decide) ?_
    refine mGo.mk [true, true, false, false, false, true, false] ?_
    exact g_X9_isLineBetween_c67 v0 v1 s0 (v3 - v4) h e q
def f_X9_isLineBetween_c32 (v0 : Option Nat) (v1 : Int32) (v2 : Int32) (v3 : Int32) (v4 : Int32) (s0 : Int32) (s1 : Int32) (h : mH) : Option (Int32) :=
  if s0 = s1 then
    some (0 : Int32)
  else
    if v4 ≤ v2 then
      f_X9_isLineBetween_c48 v0 v1 v2 v3 v4 v3 h
    else
      f_X9_isLineBetween_c48 v0 v1 v2 v3 v4 v2 h
set_option maxRecDepth 100000 in
set_option maxHeartbeats 4000000 in
theorem g_X9_isLineBetween_c32 {w : mWp} {Q : Option Value → mH → Prop} (v0 : Option Nat) (v1 : Int32) (v2 : Int32) (v3 : Int32) (v4 : Int32) (s0 : Int32) (s1 : Int32) (h : mH) {res : Int32} (e : f_X9_isLineBetween_c32 v0 v1 v2 v3 v4 s0 s1 h = some res) (q : (fun r : Int32 => Q (some (.int r)) h) res) : mGo w kX9_isLineBetween 0 0 32 [some (va_rf v0), some (.int v1), some (.int v2), some (.int v3), some (.int v4), none, none] [.int s1, .int s0] h Q := by
  unfold f_X9_isLineBetween_c32 at e
  refine mGo.icmp_ne (tgt := 37) (n := 35) dX9_isLineBetween_32 (by decide) rfl (fun hc => ?_) (fun hc => ?_)
  · replace e := mIff hc e
    refine mGo.iload_n (n := 38) (x := v2) dX9_isLineBetween_37 rfl rfl ?_
    refine mGo.iload (n := 40) (x := v4) dX9_isLineBetween_38 rfl rfl ?_
    refine mGo.icmp_ge (tgt := 47) (n := 43) dX9_isLineBetween_40 (by decide) rfl (fun hc => ?_) (fun hc => ?_)
    · replace e := mIft hc e
      refine mGo.iload_n (n := 48) (x := v3) dX9_isLineBetween_47 rfl rfl ?_
      refine mGo.mk [true, true, true, true, true, false, false] ?_
      exact g_X9_isLineBetween_c48 v0 v1 v2 v3 v4 v3 h e q
    · replace e := mIff hc e
      refine mGo.iload_n (n := 44) (x := v2) dX9_isLineBetween_43 rfl rfl ?_
      refine mGo.goto (tgt := 48) dX9_isLineBetween_44 (by decide) ?_
      refine mGo.mk [true, true, true, true, true, false, false] ?_
      exact g_X9_isLineBetween_c48 v0 v1 v2 v3 v4 v2 h e q
  · replace e := mIft hc e
    refine mGo.iconst (n := 36) (v := (0 : Int32)) dX9_isLineBetween_35 (by decide) rfl ?_
    cases e
    exact mGo.zret dX9_isLineBetween_36 rfl (by decide) (Nat.le_of_ble_eq_true rfl) (Nat.le_of_ble_eq_true rfl) q
def f_X9_isLineBetween_c21 (v0 : Option Nat) (v1 : Int32) (v2 : Int32) (v3 : Int32) (v4 : Int32) (s0 : Int32) (h : mH) : Option (Int32) :=
  if v4 ≤ v3 then
    f_X9_isLineBetween_c32 v0 v1 v2 v3 v4 s0 (0 : Int32) h
  else
    f_X9_isLineBetween_c32 v0 v1 v2 v3 v4 s0 (1 : Int32) h
set_option maxRecDepth 100000 in
set_option maxHeartbeats 4000000 in
theorem g_X9_isLineBetween_c21 {w : mWp} {Q : Option Value → mH → Prop} (v0 : Option Nat) (v1 : Int32) (v2 : Int32) (v3 : Int32) (v4 : Int32) (s0 : Int32) (h : mH) {res : Int32} (e : f_X9_isLineBetween_c21 v0 v1 v2 v3 v4 s0 h = some res) (q : (fun r : Int32 => Q (some (.int r)) h) res) : mGo w kX9_isLineBetween 0 0 21 [some (va_rf v0), some (.int v1), some (.int v2), some (.int v3), some (.int v4), none, none] [.int s0] h Q := by
  unfold f_X9_isLineBetween_c21 at e
  refine mGo.iload_n (n := 22) (x := v3) dX9_isLineBetween_21 rfl rfl ?_
  refine mGo.iload (n := 24) (x := v4) dX9_isLineBetween_22 rfl rfl ?_
  refine mGo.icmp_ge (tgt := 31) (n := 27) dX9_isLineBetween_24 (by decide) rfl (fun hc => ?_) (fun hc => ?_)
  · replace e := mIft hc e
    refine mGo.iconst (n := 32) (v := (0 : Int32)) dX9_isLineBetween_31 (by decide) rfl ?_
    refine mGo.mk [true, true, true, true, true, false, false] ?_
    exact g_X9_isLineBetween_c32 v0 v1 v2 v3 v4 s0 (0 : Int32) h e q
  · replace e := mIff hc e
    refine mGo.iconst (n := 28) (v := (1 : Int32)) dX9_isLineBetween_27 (by decide) rfl ?_
    refine mGo.goto (tgt := 32) dX9_isLineBetween_28 (by decide) ?_
    refine mGo.mk [true, true, true, true, true, false, false] ?_
    exact g_X9_isLineBetween_c32 v0 v1 v2 v3 v4 s0 (1 : Int32) h e q
def f_X9_isLineBetween (v0 : Option Nat) (v1 : Int32) (v2 : Int32) (v3 : Int32) (h : mH) : Option (Int32) :=
  (mIs h v0 8).bind fun _ =>
  (mGR h v0 8 1).bind fun x1 =>
  (mAI h x1 v1).bind fun x2 =>
  if ((2 : Int32) * x2) ≤ v2 then
    f_X9_isLineBetween_c21 v0 v1 v2 v3 ((2 : Int32) * x2) (0 : Int32) h
  else
    f_X9_isLineBetween_c21 v0 v1 v2 v3 ((2 : Int32) * x2) (1 : Int32) h
set_option maxRecDepth 100000 in
set_option maxHeartbeats 4000000 in
theorem g_X9_isLineBetween {w : mWp} {Q : Option Value → mH → Prop} (v0 : Option Nat) (v1 : Int32) (v2 : Int32) (v3 : Int32) (h : mH) {res : Int32} (e : f_X9_isLineBetween v0 v1 v2 v3 h = some res) (q : (fun r : Int32 => Q (some (.int r)) h) res) : mGo w kX9_isLineBetween 0 0 0 [some (va_rf v0), some (.int v1), some (.int v2), some (.int v3), none, none, none] [] h Q := by
  unfold f_X9_isLineBetween at e
  obtain ⟨_, _, e⟩ := mBind e
  refine mGo.iconst (n := 1) (v := (2 : Int32)) dX9_isLineBetween_0 (by decide) rfl ?_
  refine mGo.aload_n (n := 2) (r := v0) dX9_isLineBetween_1 rfl rfl ?_
  obtain ⟨x1, e_x1, e⟩ := mBind e
  refine mGo.getR (n := 5) dX9_isLineBetween_2 sf_RX9_13 e_x1 rfl ?_
  refine mGo.iload_n (n := 6) (x := v1) dX9_isLineBetween_5 rfl rfl ?_
  obtain ⟨x2, e_x2, e⟩ := mBind e
  refine mGo.iald (n := 7) dX9_isLineBetween_6 e_x2 rfl ?_
  refine mGo.imul (n := 8) dX9_isLineBetween_7 rfl ?_
  refine mGo.istore (n := 10) (ls' := [some (va_rf v0), some (.int v1), some (.int v2), some (.int v3), some (.int ((2 : Int32) * x2)), none, none]) dX9_isLineBetween_8 rfl (Nat.le_of_ble_eq_true rfl) rfl ?_
  refine mGo.iload_n (n := 11) (x := v2) dX9_isLineBetween_10 rfl rfl ?_
  refine mGo.iload (n := 13) (x := ((2 : Int32) * x2)) dX9_isLineBetween_11 rfl rfl ?_
  refine mGo.icmp_ge (tgt := 20) (n := 16) dX9_isLineBetween_13 (by decide) rfl (fun hc => ?_) (fun hc => ?_)
  · replace e := mIft hc e
    refine mGo.iconst (n := 21) (v := (0 : Int32)) dX9_isLineBetween_20 (by decide) rfl ?_
    refine mGo.mk [true, true, true, true, true, false, false] ?_
    exact g_X9_isLineBetween_c21 v0 v1 v2 v3 ((2 : Int32) * x2) (0 : Int32) h e q
  · replace e := mIff hc e
    refine mGo.iconst (n := 17) (v := (1 : Int32)) dX9_isLineBetween_16 (by decide) rfl ?_
    refine mGo.goto (tgt := 21) dX9_isLineBetween_17 (by decide) ?_
    refine mGo.mk [true, true, true, true, true, false, false] ?_
    exact g_X9_isLineBetween_c21 v0 v1 v2 v3 ((2 : Int32) * x2) (1 : Int32) h e q
theorem e_X9_isLineBetween {w : mWp} (v0 : Option Nat) (v1 : Int32) (v2 : Int32) (v3 : Int32) (h : mH) {res : Int32} (e : f_X9_isLineBetween v0 v1 v2 v3 h = some res) : mEx w zX9_isLineBetween (mRoom 3 0 0) [va_rf v0, .int v1, .int v2, .int v3] h (fun r h2 => r = some (.int res) ∧ h2 = h) := by
  refine mEx.of (by decide +kernel) (show mEnt [va_rf v0, .int v1, .int v2, .int v3] 7 = [some (va_rf v0), some (.int v1), some (.int v2), some (.int v3), none, none, none] by rw [mEnt_r, mEnt_i, mEnt_i, mEnt_i] <;> rfl) (by simp only [List.map_cons, List.map_nil, mRfc, mCi, mCj, List.sum_cons, List.sum_nil]; exact Nat.le_of_ble_eq_true rfl) ?_
  refine g_X9_isLineBetween v0 v1 v2 v3 h e ?_
  exact ⟨rfl, rfl⟩
theorem s_X9_isLineBetween (v0 : Option Nat) (v1 : Int32) (v2 : Int32) (v3 : Int32) (h : mH) {res : Int32} (e : f_X9_isLineBetween v0 v1 v2 v3 h = some res) : mIs h v0 8 = some () := by
  unfold f_X9_isLineBetween at e
  obtain ⟨u, e1, _⟩ := mBind e
  cases u
  exact e1
-- X9_joined
def kX9_joined : mK := (cX9_joined, RX9, 4, some (.int), "joined", mRoom 4 0 0)
def zX9_joined : mY := (yX9_joined, cX9_joined, 4, some (.int))
set_option maxRecDepth 100000 in
theorem sc_RX9_262 : mSV RX9 262 zX9_isKnot 2 8 := ⟨Or.inl (mT_at 1194 (by decide +kernel) rfl), mT_at 1196 (by decide +kernel) rfl, mT_at 75 (by decide +kernel) rfl, mT_at 91 (by decide +kernel) rfl, mT_at 1197 (by decide +kernel) rfl, ⟨by decide +kernel, by decide +kernel, by decide +kernel⟩, by decide, rfl⟩
set_option maxRecDepth 100000 in
theorem sc_RX9_265 : mSV RX9 265 zX9_isLineBetween 3 8 := ⟨Or.inl (mT_at 1198 (by decide +kernel) rfl), mT_at 1200 (by decide +kernel) rfl, mT_at 76 (by decide +kernel) rfl, mT_at 91 (by decide +kernel) rfl, mT_at 1201 (by decide +kernel) rfl, ⟨by decide +kernel, by decide +kernel, by decide +kernel⟩, by decide, rfl⟩
def f_X9_joined (v0 : Option Nat) (v1 : Int32) (v2 : Int32) (v3 : Int32) (h : mH) : Option (Int32) :=
  (mIs h v0 8).bind fun _ =>
  (f_X9_isKnot v0 v1 v2 h).bind fun x1 =>
  if x1 = 0 then
    some (-1 : Int32)
  else
    (f_X9_isKnot v0 v1 v3 h).bind fun x2 =>
    if x2 = 0 then
      some (-1 : Int32)
    else
      (f_X9_isLineBetween v0 v1 v2 v3 h).bind fun x3 =>
      if x3 = 0 then
        some (0 : Int32)
      else
        some (1 : Int32)
set_option maxRecDepth 100000 in
set_option maxHeartbeats 4000000 in
theorem g_X9_joined {w : mWp} {Q : Option Value → mH → Prop} (v0 : Option Nat) (v1 : Int32) (v2 : Int32) (v3 : Int32) (h : mH) {res : Int32} (e : f_X9_joined v0 v1 v2 v3 h = some res) (q : (fun r : Int32 => Q (some (.int r)) h) res) : mGo w kX9_joined 0 0 0 [some (va_rf v0), some (.int v1), some (.int v2), some (.int v3)] [] h Q := by
  unfold f_X9_joined at e
  obtain ⟨_, _, e⟩ := mBind e
  refine mGo.aload_n (n := 1) (r := v0) dX9_joined_0 rfl rfl ?_
  refine mGo.iload_n (n := 2) (x := v1) dX9_joined_1 rfl rfl ?_
  refine mGo.iload_n (n := 3) (x := v2) dX9_joined_2 rfl rfl ?_
  obtain ⟨x1, e_x1, e⟩ := mBind e
  refine mGo.callV (n := 6) (y := zX9_isKnot) (R' := (mRoom (3) 0 0)) (as := [.int v1, .int v2]) (st := []) (r0 := v0) dX9_joined_3 sc_RX9_262 rfl (s_X9_isKnot v0 v1 v2 h e_x1) (e_X9_isKnot v0 v1 v2 h e_x1) (mFit_of rfl (Nat.le_of_ble_eq_true rfl) (by decide) (Nat.le_of_ble_eq_true rfl) (Nat.le_of_ble_eq_true rfl)) (Nat.le_of_ble_eq_true rfl) rfl rfl ?_
  intro _ _ hq
  rw [hq.1, hq.2]
  show mGo w kX9_joined 0 0 6 [some (va_rf v0), some (.int v1), some (.int v2), some (.int v3)] [.int x1] h Q
  refine mGo.if_eq (tgt := 18) (n := 9) dX9_joined_6 (by decide) rfl (fun hc => ?_) (fun hc => ?_)
  · replace e := mIft hc e
    refine mGo.iconst (n := 19) (v := (-1 : Int32)) dX9_joined_18 (by decide) rfl ?_
    cases e
    exact mGo.iret dX9_joined_19 rfl (Nat.le_of_ble_eq_true rfl) (Nat.le_of_ble_eq_true rfl) q
  · replace e := mIff hc e
    refine mGo.aload_n (n := 10) (r := v0) dX9_joined_9 rfl rfl ?_
    refine mGo.iload_n (n := 11) (x := v1) dX9_joined_10 rfl rfl ?_
    refine mGo.iload_n (n := 12) (x := v3) dX9_joined_11 rfl rfl ?_
    obtain ⟨x2, e_x2, e⟩ := mBind e
    refine mGo.callV (n := 15) (y := zX9_isKnot) (R' := (mRoom (3) 0 0)) (as := [.int v1, .int v3]) (st := []) (r0 := v0) dX9_joined_12 sc_RX9_262 rfl (s_X9_isKnot v0 v1 v3 h e_x2) (e_X9_isKnot v0 v1 v3 h e_x2) (mFit_of rfl (Nat.le_of_ble_eq_true rfl) (by decide) (Nat.le_of_ble_eq_true rfl) (Nat.le_of_ble_eq_true rfl)) (Nat.le_of_ble_eq_true rfl) rfl rfl ?_
    intro _ _ hq
    rw [hq.1, hq.2]
    show mGo w kX9_joined 0 0 15 [some (va_rf v0), some (.int v1), some (.int v2), some (.int v3)] [.int x2] h Q
    refine mGo.if_ne (tgt := 20) (n := 18) dX9_joined_15 (by decide) rfl (fun hc => ?_) (fun hc => ?_)
    · replace e := mIff hc e
      refine mGo.aload_n (n := 21) (r := v0) dX9_joined_20 rfl rfl ?_
      refine mGo.iload_n (n := 22) (x := v1) dX9_joined_21 rfl rfl ?_
      refine mGo.iload_n (n := 23) (x := v2) dX9_joined_22 rfl rfl ?_
      refine mGo.iload_n (n := 24) (x := v3) dX9_joined_23 rfl rfl ?_
      obtain ⟨x3, e_x3, e⟩ := mBind e
      refine mGo.callV (n := 27) (y := zX9_isLineBetween) (R' := (mRoom (3) 0 0)) (as := [.int v1, .int v2, .int v3]) (st := []) (r0 := v0) dX9_joined_24 sc_RX9_265 rfl (s_X9_isLineBetween v0 v1 v2 v3 h e_x3) (e_X9_isLineBetween v0 v1 v2 v3 h e_x3) (mFit_of rfl (Nat.le_of_ble_eq_true rfl) (by decide) (Nat.le_of_ble_eq_true rfl) (Nat.le_of_ble_eq_true rfl)) (Nat.le_of_ble_eq_true rfl) rfl rfl ?_
      intro _ _ hq
      rw [hq.1, hq.2]
      show mGo w kX9_joined 0 0 27 [some (va_rf v0), some (.int v1), some (.int v2), some (.int v3)] [.int x3] h Q
      refine mGo.if_eq (tgt := 34) (n := 30) dX9_joined_27 (by decide) rfl (fun hc => ?_) (fun hc => ?_)
      · replace e := mIft hc e
        refine mGo.iconst (n := 35) (v := (0 : Int32)) dX9_joined_34 (by decide) rfl ?_
        cases e
        exact mGo.iret dX9_joined_35 rfl (Nat.le_of_ble_eq_true rfl) (Nat.le_of_ble_eq_true rfl) q
      · replace e := mIff hc e
        refine mGo.iconst (n := 31) (v := (1 : Int32)) dX9_joined_30 (by decide) rfl ?_
        refine mGo.goto (tgt := 35) dX9_joined_31 (by decide) ?_
        cases e
        exact mGo.iret dX9_joined_35 rfl (Nat.le_of_ble_eq_true rfl) (Nat.le_of_ble_eq_true rfl) q
    · replace e := mIft hc e
      refine mGo.iconst (n := 19) (v := (-1 : Int32)) dX9_joined_18 (by decide) rfl ?_
      cases e
      exact mGo.iret dX9_joined_19 rfl (Nat.le_of_ble_eq_true rfl) (Nat.le_of_ble_eq_true rfl) q
theorem e_X9_joined {w : mWp} (v0 : Option Nat) (v1 : Int32) (v2 : Int32) (v3 : Int32) (h : mH) {res : Int32} (e : f_X9_joined v0 v1 v2 v3 h = some res) : mEx w zX9_joined (mRoom 4 0 0) [va_rf v0, .int v1, .int v2, .int v3] h (fun r h2 => r = some (.int res) ∧ h2 = h) := by
  refine mEx.of (by decide +kernel) (show mEnt [va_rf v0, .int v1, .int v2, .int v3] 4 = [some (va_rf v0), some (.int v1), some (.int v2), some (.int v3)] by rw [mEnt_r, mEnt_i, mEnt_i, mEnt_i] <;> rfl) (by simp only [List.map_cons, List.map_nil, mRfc, mCi, mCj, List.sum_cons, List.sum_nil]; exact Nat.le_of_ble_eq_true rfl) ?_
  refine g_X9_joined v0 v1 v2 v3 h e ?_
  exact ⟨rfl, rfl⟩
theorem s_X9_joined (v0 : Option Nat) (v1 : Int32) (v2 : Int32) (v3 : Int32) (h : mH) {res : Int32} (e : f_X9_joined v0 v1 v2 v3 h = some res) : mIs h v0 8 = some () := by
  unfold f_X9_joined at e
  obtain ⟨u, e1, _⟩ := mBind e
  cases u
  exact e1
-- X9_common
def kX9_common : mK := (cX9_common, RX9, 6, some (.int), "common", mRoom 4 0 0)
def zX9_common : mY := (yX9_common, cX9_common, 6, some (.int))
def f_X9_common_b26 (v0 : Option Nat) (v1 : Int32) (v2 : Int32) (v3 : Int32) (v4 : Int32) (v5 : Int32) (h : mH) : Option ((Int32 × Int32) ⊕ (Int32)) :=
  (mGR h v0 8 1).bind fun x1 =>
  (mAI h x1 v1).bind fun x2 =>
  if ((4 : Int32) * x2) ≤ v5 then
    some (Sum.inr v4)
  else
    (f_X9_isLineBetween v0 v1 v2 v5 h).bind fun x3 =>
    if x3 = 0 then
      some (Sum.inl (v4, (v5 + 1)))
    else
      (f_X9_isLineBetween v0 v1 v5 v3 h).bind fun x4 =>
      if x4 = 0 then
        some (Sum.inl (v4, (v5 + 1)))
      else
        some (Sum.inl ((v4 + 1), (v5 + 1)))
set_option maxRecDepth 100000 in
set_option maxHeartbeats 4000000 in
theorem g_X9_common_b26 {w : mWp} {Q : Option Value → mH → Prop} (v0 : Option Nat) (v1 : Int32) (v2 : Int32) (v3 : Int32) (v4 : Int32) (v5 : Int32) (h : mH) {res : (Int32 × Int32) ⊕ (Int32)} (e : f_X9_common_b26 v0 v1 v2 v3 v4 v5 h = some res) (q : (Sum.elim (fun x : Int32 × Int32 => mGo w kX9_common 0 0 26 [some (va_rf v0), some (.int v1), some (.int v2), some (.int v3), some (.int x.1), some (.int x.2)] [] h Q) (fun r : Int32 => Q (some (.int r)) h)) res) : mGo w kX9_common 0 0 26 [some (va_rf v0), some (.int v1), some (.int v2), some (.int v3), some (.int v4), some (.int v5)] [] h Q := by
  unfold f_X9_common_b26 at e
  refine mGo.iload (n := 28) (x := v5) dX9_common_26 rfl rfl ?_
  refine mGo.iconst (n := 29) (v := (4 : Int32)) dX9_common_28 (by decide) rfl ?_
  refine mGo.aload_n (n := 30) (r := v0) dX9_common_29 rfl rfl ?_
  obtain ⟨x1, e_x1, e⟩ := mBind e
  refine mGo.getR (n := 33) dX9_common_30 sf_RX9_13 e_x1 rfl ?_
  refine mGo.iload_n (n := 34) (x := v1) dX9_common_33 rfl rfl ?_
  obtain ⟨x2, e_x2, e⟩ := mBind e
  refine mGo.iald (n := 35) dX9_common_34 e_x2 rfl ?_
  refine mGo.imul (n := 36) dX9_common_35 rfl ?_
  refine mGo.icmp_ge (tgt := 70) (n := 39) dX9_common_36 (by decide) rfl (fun hc => ?_) (fun hc => ?_)
  · replace e := mIft hc e
    refine mGo.iload (n := 72) (x := v4) dX9_common_70 rfl rfl ?_
    cases e
    exact mGo.iret dX9_common_72 rfl (Nat.le_of_ble_eq_true rfl) (Nat.le_of_ble_eq_true rfl) q
  · replace e := mIff hc e
    refine mGo.aload_n (n := 40) (r := v0) dX9_common_39 rfl rfl ?_
    refine mGo.iload_n (n := 41) (x := v1) dX9_common_40 rfl rfl ?_
    refine mGo.iload_n (n := 42) (x := v2) dX9_common_41 rfl rfl ?_
    refine mGo.iload (n := 44) (x := v5) dX9_common_42 rfl rfl ?_
    obtain ⟨x3, e_x3, e⟩ := mBind e
    refine mGo.callV (n := 47) (y := zX9_isLineBetween) (R' := (mRoom (3) 0 0)) (as := [.int v1, .int v2, .int v5]) (st := []) (r0 := v0) dX9_common_44 sc_RX9_265 rfl (s_X9_isLineBetween v0 v1 v2 v5 h e_x3) (e_X9_isLineBetween v0 v1 v2 v5 h e_x3) (mFit_of rfl (Nat.le_of_ble_eq_true rfl) (by decide) (Nat.le_of_ble_eq_true rfl) (Nat.le_of_ble_eq_true rfl)) (Nat.le_of_ble_eq_true rfl) rfl rfl ?_
    intro _ _ hq
    rw [hq.1, hq.2]
    show mGo w kX9_common 0 0 47 [some (va_rf v0), some (.int v1), some (.int v2), some (.int v3), some (.int v4), some (.int v5)] [.int x3] h Q
    refine mGo.if_eq (tgt := 64) (n := 50) dX9_common_47 (by decide) rfl (fun hc => ?_) (fun hc => ?_)
    · replace e := mIft hc e
      refine mGo.iinc (n := 67) (x := v5) (v := (v5 + 1)) (ls' := [some (va_rf v0), some (.int v1), some (.int v2), some (.int v3), some (.int v4), some (.int (v5 + 1))]) dX9_common_64 rfl rfl rfl (Nat.le_of_ble_eq_true rfl) rfl ?_
      refine mGo.goto (tgt := 26) dX9_common_67 (by decide) ?_
      cases e
      refine mGo.mk [true, true, true, true, true, true] ?_
      exact q
    · replace e := mIff hc e
      refine mGo.aload_n (n := 51) (r := v0) dX9_common_50 rfl rfl ?_
      refine mGo.iload_n (n := 52) (x := v1) dX9_common_51 rfl rfl ?_
      refine mGo.iload (n := 54) (x := v5) dX9_common_52 rfl rfl ?_
      refine mGo.iload_n (n := 55) (x := v3) dX9_common_54 rfl rfl ?_
      obtain ⟨x4, e_x4, e⟩ := mBind e
      refine mGo.callV (n := 58) (y := zX9_isLineBetween) (R' := (mRoom (3) 0 0)) (as := [.int v1, .int v5, .int v3]) (st := []) (r0 := v0) dX9_common_55 sc_RX9_265 rfl (s_X9_isLineBetween v0 v1 v5 v3 h e_x4) (e_X9_isLineBetween v0 v1 v5 v3 h e_x4) (mFit_of rfl (Nat.le_of_ble_eq_true rfl) (by decide) (Nat.le_of_ble_eq_true rfl) (Nat.le_of_ble_eq_true rfl)) (Nat.le_of_ble_eq_true rfl) rfl rfl ?_
      intro _ _ hq
      rw [hq.1, hq.2]
      show mGo w kX9_common 0 0 58 [some (va_rf v0), some (.int v1), some (.int v2), some (.int v3), some (.int v4), some (.int v5)] [.int x4] h Q
      refine mGo.if_eq (tgt := 64) (n := 61) dX9_common_58 (by decide) rfl (fun hc => ?_) (fun hc => ?_)
      · replace e := mIft hc e
        refine mGo.iinc (n := 67) (x := v5) (v := (v5 + 1)) (ls' := [some (va_rf v0), some (.int v1), some (.int v2), some (.int v3), some (.int v4), some (.int (v5 + 1))]) dX9_common_64 rfl rfl rfl (Nat.le_of_ble_eq_true rfl) rfl ?_
        refine mGo.goto (tgt := 26) dX9_common_67 (by decide) ?_
        cases e
        refine mGo.mk [true, true, true, true, true, true] ?_
        exact q
      · replace e := mIff hc e
        refine mGo.iinc (n := 64) (x := v4) (v := (v4 + 1)) (ls' := [some (va_rf v0), some (.int v1), some (.int v2), some (.int v3), some (.int (v4 + 1)), some (.int v5)]) dX9_common_61 rfl rfl rfl (Nat.le_of_ble_eq_true rfl) rfl ?_
        refine mGo.iinc (n := 67) (x := v5) (v := (v5 + 1)) (ls' := [some (va_rf v0), some (.int v1), some (.int v2), some (.int v3), some (.int (v4 + 1)), some (.int (v5 + 1))]) dX9_common_64 rfl rfl rfl (Nat.le_of_ble_eq_true rfl) rfl ?_
        refine mGo.goto (tgt := 26) dX9_common_67 (by decide) ?_
        cases e
        refine mGo.mk [true, true, true, true, true, true] ?_
        exact q
noncomputable def f_X9_common_l26 (v0 : Option Nat) (v1 : Int32) (v2 : Int32) (v3 : Int32) (v4 : Int32) (v5 : Int32) (h : mH) : Option (Int32) :=
  mLoop (fun x : Int32 × Int32 => f_X9_common_b26 v0 v1 v2 v3 x.1 x.2 h) (v4, v5)
set_option maxRecDepth 100000 in
set_option maxHeartbeats 4000000 in
theorem g_X9_common_l26 {w : mWp} {Q : Option Value → mH → Prop} (v0 : Option Nat) (v1 : Int32) (v2 : Int32) (v3 : Int32) (v4 : Int32) (v5 : Int32) (h : mH) {res : Int32} (e : f_X9_common_l26 v0 v1 v2 v3 v4 v5 h = some res) (q : (fun r : Int32 => Q (some (.int r)) h) res) : mGo w kX9_common 0 0 26 [some (va_rf v0), some (.int v1), some (.int v2), some (.int v3), some (.int v4), some (.int v5)] [] h Q := by
  unfold f_X9_common_l26 at e
  refine mLoop_go (x := (v4, v5)) (fun x : Int32 × Int32 => mGo w kX9_common 0 0 26 [some (va_rf v0), some (.int v1), some (.int v2), some (.int v3), some (.int x.1), some (.int x.2)] [] h Q) (fun r : Int32 => Q (some (.int r)) h) ?_ e q
  rintro ⟨v4, v5⟩ res e q
  exact g_X9_common_b26 v0 v1 v2 v3 v4 v5 h e q
noncomputable def f_X9_common (v0 : Option Nat) (v1 : Int32) (v2 : Int32) (v3 : Int32) (h : mH) : Option (Int32) :=
  (mIs h v0 8).bind fun _ =>
  (f_X9_isKnot v0 v1 v2 h).bind fun x1 =>
  if x1 = 0 then
    some (-1 : Int32)
  else
    (f_X9_isKnot v0 v1 v3 h).bind fun x2 =>
    if x2 = 0 then
      some (-1 : Int32)
    else
      f_X9_common_l26 v0 v1 v2 v3 (0 : Int32) (0 : Int32) h
set_option maxRecDepth 100000 in
set_option maxHeartbeats 4000000 in
theorem g_X9_common {w : mWp} {Q : Option Value → mH → Prop} (v0 : Option Nat) (v1 : Int32) (v2 : Int32) (v3 : Int32) (h : mH) {res : Int32} (e : f_X9_common v0 v1 v2 v3 h = some res) (q : (fun r : Int32 => Q (some (.int r)) h) res) : mGo w kX9_common 0 0 0 [some (va_rf v0), some (.int v1), some (.int v2), some (.int v3), none, none] [] h Q := by
  unfold f_X9_common at e
  obtain ⟨_, _, e⟩ := mBind e
  refine mGo.aload_n (n := 1) (r := v0) dX9_common_0 rfl rfl ?_
  refine mGo.iload_n (n := 2) (x := v1) dX9_common_1 rfl rfl ?_
  refine mGo.iload_n (n := 3) (x := v2) dX9_common_2 rfl rfl ?_
  obtain ⟨x1, e_x1, e⟩ := mBind e
  refine mGo.callV (n := 6) (y := zX9_isKnot) (R' := (mRoom (3) 0 0)) (as := [.int v1, .int v2]) (st := []) (r0 := v0) dX9_common_3 sc_RX9_262 rfl (s_X9_isKnot v0 v1 v2 h e_x1) (e_X9_isKnot v0 v1 v2 h e_x1) (mFit_of rfl (Nat.le_of_ble_eq_true rfl) (by decide) (Nat.le_of_ble_eq_true rfl) (Nat.le_of_ble_eq_true rfl)) (Nat.le_of_ble_eq_true rfl) rfl rfl ?_
  intro _ _ hq
  rw [hq.1, hq.2]
  show mGo w kX9_common 0 0 6 [some (va_rf v0), some (.int v1), some (.int v2), some (.int v3), none, none] [.int x1] h Q
  refine mGo.if_eq (tgt := 18) (n := 9) dX9_common_6 (by decide) rfl (fun hc => ?_) (fun hc => ?_)
  · replace e := mIft hc e
    refine mGo.iconst (n := 19) (v := (-1 : Int32)) dX9_common_18 (by decide) rfl ?_
    cases e
    exact mGo.iret dX9_common_19 rfl (Nat.le_of_ble_eq_true rfl) (Nat.le_of_ble_eq_true rfl) q
  · replace e := mIff hc e
    refine mGo.aload_n (n := 10) (r := v0) dX9_common_9 rfl rfl ?_
    refine mGo.iload_n (n := 11) (x := v1) dX9_common_10 rfl rfl ?_
    refine mGo.iload_n (n := 12) (x := v3) dX9_common_11 rfl rfl ?_
    obtain ⟨x2, e_x2, e⟩ := mBind e
    refine mGo.callV (n := 15) (y := zX9_isKnot) (R' := (mRoom (3) 0 0)) (as := [.int v1, .int v3]) (st := []) (r0 := v0) dX9_common_12 sc_RX9_262 rfl (s_X9_isKnot v0 v1 v3 h e_x2) (e_X9_isKnot v0 v1 v3 h e_x2) (mFit_of rfl (Nat.le_of_ble_eq_true rfl) (by decide) (Nat.le_of_ble_eq_true rfl) (Nat.le_of_ble_eq_true rfl)) (Nat.le_of_ble_eq_true rfl) rfl rfl ?_
    intro _ _ hq
    rw [hq.1, hq.2]
    show mGo w kX9_common 0 0 15 [some (va_rf v0), some (.int v1), some (.int v2), some (.int v3), none, none] [.int x2] h Q
    refine mGo.if_ne (tgt := 20) (n := 18) dX9_common_15 (by decide) rfl (fun hc => ?_) (fun hc => ?_)
    · replace e := mIff hc e
      refine mGo.iconst (n := 21) (v := (0 : Int32)) dX9_common_20 (by decide) rfl ?_
      refine mGo.istore (n := 23) (ls' := [some (va_rf v0), some (.int v1), some (.int v2), some (.int v3), some (.int (0 : Int32)), none]) dX9_common_21 rfl (Nat.le_of_ble_eq_true rfl) rfl ?_
      refine mGo.iconst (n := 24) (v := (0 : Int32)) dX9_common_23 (by decide) rfl ?_
      refine mGo.istore (n := 26) (ls' := [some (va_rf v0), some (.int v1), some (.int v2), some (.int v3), some (.int (0 : Int32)), some (.int (0 : Int32))]) dX9_common_24 rfl (Nat.le_of_ble_eq_true rfl) rfl ?_
      refine mGo.mk [true, true, true, true, true, true] ?_
      exact g_X9_common_l26 v0 v1 v2 v3 (0 : Int32) (0 : Int32) h e q
    · replace e := mIft hc e
      refine mGo.iconst (n := 19) (v := (-1 : Int32)) dX9_common_18 (by decide) rfl ?_
      cases e
      exact mGo.iret dX9_common_19 rfl (Nat.le_of_ble_eq_true rfl) (Nat.le_of_ble_eq_true rfl) q
theorem e_X9_common {w : mWp} (v0 : Option Nat) (v1 : Int32) (v2 : Int32) (v3 : Int32) (h : mH) {res : Int32} (e : f_X9_common v0 v1 v2 v3 h = some res) : mEx w zX9_common (mRoom 4 0 0) [va_rf v0, .int v1, .int v2, .int v3] h (fun r h2 => r = some (.int res) ∧ h2 = h) := by
  refine mEx.of (by decide +kernel) (show mEnt [va_rf v0, .int v1, .int v2, .int v3] 6 = [some (va_rf v0), some (.int v1), some (.int v2), some (.int v3), none, none] by rw [mEnt_r, mEnt_i, mEnt_i, mEnt_i] <;> rfl) (by simp only [List.map_cons, List.map_nil, mRfc, mCi, mCj, List.sum_cons, List.sum_nil]; exact Nat.le_of_ble_eq_true rfl) ?_
  refine g_X9_common v0 v1 v2 v3 h e ?_
  exact ⟨rfl, rfl⟩
theorem s_X9_common (v0 : Option Nat) (v1 : Int32) (v2 : Int32) (v3 : Int32) (h : mH) {res : Int32} (e : f_X9_common v0 v1 v2 v3 h = some res) : mIs h v0 8 = some () := by
  unfold f_X9_common at e
  obtain ⟨u, e1, _⟩ := mBind e
  cases u
  exact e1
