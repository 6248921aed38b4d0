-- X8_sign
def kX8_sign : mK := (cX8_sign, RX8, 5, some (.boolean), "sign", mRoom 3 0 0)
def zX8_sign : mY := (yX8_sign, cX8_sign, 5, some (.boolean))
set_option maxRecDepth 100000 in
theorem sc_RX8_150 : mSV RX8 150 zX7_has 1 6 := ⟨Or.inr ⟨_, mNest_at 374 (x := Cond.methodLinkNest RX8 150 yX7_has "SignTables") (by decide +kernel) rfl⟩, mT_at 458 (by decide +kernel) rfl, mT_at 11 (by decide +kernel) rfl, mT_at 84 (by decide +kernel) rfl, mT_at 459 (by decide +kernel) rfl, ⟨by decide +kernel, by decide +kernel, by decide +kernel⟩, by decide, rfl⟩
set_option maxRecDepth 100000 in
theorem sc_RX8_153 : mSV RX8 153 zX7_signLine 2 6 := ⟨Or.inr ⟨_, mNest_at 378 (x := Cond.methodLinkNest RX8 153 yX7_signLine "SignTables") (by decide +kernel) rfl⟩, mT_at 462 (by decide +kernel) rfl, mT_at 12 (by decide +kernel) rfl, mT_at 84 (by decide +kernel) rfl, mT_at 463 (by decide +kernel) rfl, ⟨by decide +kernel, by decide +kernel, by decide +kernel⟩, by decide, rfl⟩
noncomputable def f_X8_sign (v0 : Option Nat) (v1 : Int32) (v2 : Int32) (v3 : Int32) (h : mH) : Option (Int32 × mH) :=
  (mIs h v0 7).bind fun _ =>
  (f_X8_tableAt v0 v1 h).bind fun x1 =>
  if x1 = none then
    some ((0 : Int32), h)
  else
    (f_X7_has x1 v3 h).bind fun x2 =>
    if x2 = 0 then
      some ((0 : Int32), h)
    else
      (f_X7_signLine x1 v2 v3 h).bind fun x3 =>
      some ((1 : Int32), x3)
set_option maxRecDepth 100000 in
set_option maxHeartbeats 4000000 in
theorem g_X8_sign {w : mWp} {Q : Option Value → mH → Prop} (v0 : Option Nat) (v1 : Int32) (v2 : Int32) (v3 : Int32) (h : mH) {res : Int32 × mH} (e : f_X8_sign v0 v1 v2 v3 h = some res) (q : (fun r : Int32 × mH => Q (some (.int r.1)) r.2) res) : mGo w kX8_sign 0 0 0 [some (va_rf v0), some (.int v1), some (.int v2), some (.int v3), none] [] h Q := by
  unfold f_X8_sign at e
  obtain ⟨_, _, e⟩ := mBind e
  refine mGo.aload_n (n := 1) (r := v0) dX8_sign_0 rfl rfl ?_
  refine mGo.iload_n (n := 2) (x := v1) dX8_sign_1 rfl rfl ?_
  obtain ⟨x1, e_x1, e⟩ := mBind e
  refine mGo.callV (n := 5) (y := zX8_tableAt) (R' := (mRoom (1) 0 0)) (as := [.int v1]) (st := []) (r0 := v0) dX8_sign_2 sc_RX8_118 rfl (s_X8_tableAt v0 v1 h e_x1) (e_X8_tableAt v0 v1 h e_x1) (mFit_of rfl (Nat.le_of_ble_eq_true rfl) (by decide) (Nat.le_of_ble_eq_true rfl) (Nat.le_of_ble_eq_true rfl)) (Nat.le_of_ble_eq_true rfl) rfl rfl ?_
  intro _ _ hq
  rw [hq.1, hq.2]
  show mGo w kX8_sign 0 0 5 [some (va_rf v0), some (.int v1), some (.int v2), some (.int v3), none] [va_rf x1] h Q
  refine mGo.astore (n := 7) (ls' := [some (va_rf v0), some (.int v1), some (.int v2), some (.int v3), some (va_rf x1)]) dX8_sign_5 rfl (Nat.le_of_ble_eq_true rfl) rfl ?_
  refine mGo.aload (n := 9) (r := x1) dX8_sign_7 rfl rfl ?_
  refine mGo.ifnull (tgt := 21) (n := 12) dX8_sign_9 (by decide) rfl (fun hc => ?_) (fun hc => ?_)
  · replace e := mIft hc e
    refine mGo.iconst (n := 22) (v := (0 : Int32)) dX8_sign_21 (by decide) rfl ?_
    cases e
    exact mGo.zret dX8_sign_22 rfl (by decide) (Nat.le_of_ble_eq_true rfl) (Nat.le_of_ble_eq_true rfl) q
  · replace e := mIff hc e
    refine mGo.aload (n := 14) (r := x1) dX8_sign_12 rfl rfl ?_
    refine mGo.iload_n (n := 15) (x := v3) dX8_sign_14 rfl rfl ?_
    obtain ⟨x2, e_x2, e⟩ := mBind e
    refine mGo.callV (n := 18) (y := zX7_has) (R' := (mRoom (1) 0 0)) (as := [.int v3]) (st := []) (r0 := x1) dX8_sign_15 sc_RX8_150 rfl (s_X7_has x1 v3 h e_x2) (e_X7_has x1 v3 h e_x2) (mFit_of rfl (Nat.le_of_ble_eq_true rfl) (by decide) (Nat.le_of_ble_eq_true rfl) (Nat.le_of_ble_eq_true rfl)) (Nat.le_of_ble_eq_true rfl) rfl rfl ?_
    intro _ _ hq
    rw [hq.1, hq.2]
    show mGo w kX8_sign 0 0 18 [some (va_rf v0), some (.int v1), some (.int v2), some (.int v3), some (va_rf x1)] [.int x2] h Q
    refine mGo.if_ne (tgt := 23) (n := 21) dX8_sign_18 (by decide) rfl (fun hc => ?_) (fun hc => ?_)
    · replace e := mIff hc e
      refine mGo.aload (n := 25) (r := x1) dX8_sign_23 rfl rfl ?_
      refine mGo.iload_n (n := 26) (x := v2) dX8_sign_25 rfl rfl ?_
      refine mGo.iload_n (n := 27) (x := v3) dX8_sign_26 rfl rfl ?_
      obtain ⟨x3, e_x3, e⟩ := mBind e
      refine mGo.callV (n := 30) (y := zX7_signLine) (R' := (mRoom (2) 0 0)) (as := [.int v2, .int v3]) (st := []) (r0 := x1) dX8_sign_27 sc_RX8_153 rfl (s_X7_signLine x1 v2 v3 h e_x3) (e_X7_signLine x1 v2 v3 h e_x3) (mFit_of rfl (Nat.le_of_ble_eq_true rfl) (by decide) (Nat.le_of_ble_eq_true rfl) (Nat.le_of_ble_eq_true rfl)) (Nat.le_of_ble_eq_true rfl) rfl rfl ?_
      intro _ _ hq
      rw [hq.1, hq.2]
      show mGo w kX8_sign 0 0 30 [some (va_rf v0), some (.int v1), some (.int v2), some (.int v3), some (va_rf x1)] [] x3 Q
      refine mGo.iconst (n := 31) (v := (1 : Int32)) dX8_sign_30 (by decide) rfl ?_
      cases e
      exact mGo.zret dX8_sign_31 rfl (by decide) (Nat.le_of_ble_eq_true rfl) (Nat.le_of_ble_eq_true rfl) q
    · replace e := mIft hc e
      refine mGo.iconst (n := 22) (v := (0 : Int32)) dX8_sign_21 (by decide) rfl ?_
      cases e
      exact mGo.zret dX8_sign_22 rfl (by decide) (Nat.le_of_ble_eq_true rfl) (Nat.le_of_ble_eq_true rfl) q
theorem e_X8_sign {w : mWp} (v0 : Option Nat) (v1 : Int32) (v2 : Int32) (v3 : Int32) (h : mH) {res : Int32 × mH} (e : f_X8_sign v0 v1 v2 v3 h = some res) : mEx w zX8_sign (mRoom 3 0 0) [va_rf v0, .int v1, .int v2, .int v3] h (fun r h2 => r = some (.int res.1) ∧ h2 = res.2) := by
  refine mEx.of (by decide +kernel) (show mEnt [va_rf v0, .int v1, .int v2, .int v3] 5 = [some (va_rf v0), some (.int v1), some (.int v2), some (.int v3), none] by rw [mEnt_r, mEnt_i, mEnt_i, mEnt_i] <;> rfl) (by simp only [List.map_cons, List.map_nil, mRfc, mCi, mCj, List.sum_cons, List.sum_nil]; exact Nat.le_of_ble_eq_true rfl) ?_
  refine g_X8_sign v0 v1 v2 v3 h e ?_
  exact ⟨rfl, rfl⟩
theorem s_X8_sign (v0 : Option Nat) (v1 : Int32) (v2 : Int32) (v3 : Int32) (h : mH) {res : Int32 × mH} (e : f_X8_sign v0 v1 v2 v3 h = some res) : mIs h v0 7 = some () := by
  unfold f_X8_sign at e
  obtain ⟨u, e1, _⟩ := mBind e
  cases u
  exact e1
-- X8_exchange
def kX8_exchange : mK := (cX8_exchange, RX8, 6, some (.boolean), "exchange", mRoom 3 0 0)
def zX8_exchange : mY := (yX8_exchange, cX8_exchange, 6, some (.boolean))
set_option maxRecDepth 100000 in
theorem sc_RX8_157 : mSV RX8 157 zX7_exchangeLines 3 6 := ⟨Or.inr ⟨_, mNest_at 387 (x := Cond.methodLinkNest RX8 157 yX7_exchangeLines "SignTables") (by decide +kernel) rfl⟩, mT_at 471 (by decide +kernel) rfl, mT_at 13 (by decide +kernel) rfl, mT_at 84 (by decide +kernel) rfl, mT_at 472 (by decide +kernel) rfl, ⟨by decide +kernel, by decide +kernel, by decide +kernel⟩, by decide, rfl⟩
noncomputable def f_X8_exchange (v0 : Option Nat) (v1 : Int32) (v2 : Int32) (v3 : Int32) (v4 : Int32) (h : mH) : Option (Int32 × mH) :=
  (mIs h v0 7).bind fun _ =>
  (f_X8_tableAt v0 v1 h).bind fun x1 =>
  if x1 = none then
    some ((0 : Int32), h)
  else
    (f_X7_has x1 v3 h).bind fun x2 =>
    if x2 = 0 then
      some ((0 : Int32), h)
    else
      (f_X7_has x1 v4 h).bind fun x3 =>
      if x3 = 0 then
        some ((0 : Int32), h)
      else
        if v3 = v4 then
          some ((0 : Int32), h)
        else
          (f_X7_exchangeLines x1 v2 v3 v4 h).bind fun x4 =>
          some ((1 : Int32), x4)
set_option maxRecDepth 100000 in
set_option maxHeartbeats 4000000 in
theorem g_X8_exchange {w : mWp} {Q : Option Value → mH → Prop} (v0 : Option Nat) (v1 : Int32) (v2 : Int32) (v3 : Int32) (v4 : Int32) (h : mH) {res : Int32 × mH} (e : f_X8_exchange v0 v1 v2 v3 v4 h = some res) (q : (fun r : Int32 × mH => Q (some (.int r.1)) r.2) res) : mGo w kX8_exchange 0 0 0 [some (va_rf v0), some (.int v1), some (.int v2), some (.int v3), some (.int v4), none] [] h Q := by
  unfold f_X8_exchange at e
  obtain ⟨_, _, e⟩ := mBind e
  refine mGo.aload_n (n := 1) (r := v0) dX8_exchange_0 rfl rfl ?_
  refine mGo.iload_n (n := 2) (x := v1) dX8_exchange_1 rfl rfl ?_
  obtain ⟨x1, e_x1, e⟩ := mBind e
  refine mGo.callV (n := 5) (y := zX8_tableAt) (R' := (mRoom (1) 0 0)) (as := [.int v1]) (st := []) (r0 := v0) dX8_exchange_2 sc_RX8_118 rfl (s_X8_tableAt v0 v1 h e_x1) (e_X8_tableAt v0 v1 h e_x1) (mFit_of rfl (Nat.le_of_ble_eq_true rfl) (by decide) (Nat.le_of_ble_eq_true rfl) (Nat.le_of_ble_eq_true rfl)) (Nat.le_of_ble_eq_true rfl) rfl rfl ?_
  intro _ _ hq
  rw [hq.1, hq.2]
  show mGo w kX8_exchange 0 0 5 [some (va_rf v0), some (.int v1), some (.int v2), some (.int v3), some (.int v4), none] [va_rf x1] h Q
  refine mGo.astore (n := 7) (ls' := [some (va_rf v0), some (.int v1), some (.int v2), some (.int v3), some (.int v4), some (va_rf x1)]) dX8_exchange_5 rfl (Nat.le_of_ble_eq_true rfl) rfl ?_
  refine mGo.aload (n := 9) (r := x1) dX8_exchange_7 rfl rfl ?_
  refine mGo.ifnull (tgt := 37) (n := 12) dX8_exchange_9 (by decide) rfl (fun hc => ?_) (fun hc => ?_)
  · replace e := mIft hc e
    refine mGo.iconst (n := 38) (v := (0 : Int32)) dX8_exchange_37 (by decide) rfl ?_
    cases e
    exact mGo.zret dX8_exchange_38 rfl (by decide) (Nat.le_of_ble_eq_true rfl) (Nat.le_of_ble_eq_true rfl) q
  · replace e := mIff hc e
    refine mGo.aload (n := 14) (r := x1) dX8_exchange_12 rfl rfl ?_
    refine mGo.iload_n (n := 15) (x := v3) dX8_exchange_14 rfl rfl ?_
    obtain ⟨x2, e_x2, e⟩ := mBind e
    refine mGo.callV (n := 18) (y := zX7_has) (R' := (mRoom (1) 0 0)) (as := [.int v3]) (st := []) (r0 := x1) dX8_exchange_15 sc_RX8_150 rfl (s_X7_has x1 v3 h e_x2) (e_X7_has x1 v3 h e_x2) (mFit_of rfl (Nat.le_of_ble_eq_true rfl) (by decide) (Nat.le_of_ble_eq_true rfl) (Nat.le_of_ble_eq_true rfl)) (Nat.le_of_ble_eq_true rfl) rfl rfl ?_
    intro _ _ hq
    rw [hq.1, hq.2]
    show mGo w kX8_exchange 0 0 18 [some (va_rf v0), some (.int v1), some (.int v2), some (.int v3), some (.int v4), some (va_rf x1)] [.int x2] h Q
    refine mGo.if_eq (tgt := 37) (n := 21) dX8_exchange_18 (by decide) rfl (fun hc => ?_) (fun hc => ?_)
    · replace e := mIft hc e
      refine mGo.iconst (n := 38) (v := (0 : Int32)) dX8_exchange_37 (by decide) rfl ?_
      cases e
      exact mGo.zret dX8_exchange_38 rfl (by decide) (Nat.le_of_ble_eq_true rfl) (Nat.le_of_ble_eq_true rfl) q
    · replace e := mIff hc e
      refine mGo.aload (n := 23) (r := x1) dX8_exchange_21 rfl rfl ?_
      refine mGo.iload (n := 25) (x := v4) dX8_exchange_23 rfl rfl ?_
      obtain ⟨x3, e_x3, e⟩ := mBind e
      refine mGo.callV (n := 28) (y := zX7_has) (R' := (mRoom (1) 0 0)) (as := [.int v4]) (st := []) (r0 := x1) dX8_exchange_25 sc_RX8_150 rfl (s_X7_has x1 v4 h e_x3) (e_X7_has x1 v4 h e_x3) (mFit_of rfl (Nat.le_of_ble_eq_true rfl) (by decide) (Nat.le_of_ble_eq_true rfl) (Nat.le_of_ble_eq_true rfl)) (Nat.le_of_ble_eq_true rfl) rfl rfl ?_
      intro _ _ hq
      rw [hq.1, hq.2]
      show mGo w kX8_exchange 0 0 28 [some (va_rf v0), some (.int v1), some (.int v2), some (.int v3), some (.int v4), some (va_rf x1)] [.int x3] h Q
      refine mGo.if_eq (tgt := 37) (n := 31) dX8_exchange_28 (by decide) rfl (fun hc => ?_) (fun hc => ?_)
      · replace e := mIft hc e
        refine mGo.iconst (n := 38) (v := (0 : Int32)) dX8_exchange_37 (by decide) rfl ?_
        cases e
        exact mGo.zret dX8_exchange_38 rfl (by decide) (Nat.le_of_ble_eq_true rfl) (Nat.le_of_ble_eq_true rfl) q
      · replace e := mIff hc e
        refine mGo.iload_n (n := 32) (x := v3) dX8_exchange_31 rfl rfl ?_
        refine mGo.iload (n := 34) (x := v4) dX8_exchange_32 rfl rfl ?_
        refine mGo.icmp_ne (tgt := 39) (n := 37) dX8_exchange_34 (by decide) rfl (fun hc => ?_) (fun hc => ?_)
        · replace e := mIff hc e
          refine mGo.aload (n := 41) (r := x1) dX8_exchange_39 rfl rfl ?_
          refine mGo.iload_n (n := 42) (x := v2) dX8_exchange_41 rfl rfl ?_
          refine mGo.iload_n (n := 43) (x := v3) dX8_exchange_42 rfl rfl ?_
          refine mGo.iload (n := 45) (x := v4) dX8_exchange_43 rfl rfl ?_
          obtain ⟨x4, e_x4, e⟩ := mBind e
          refine mGo.callV (n := 48) (y := zX7_exchangeLines) (R' := (mRoom (2) 0 0)) (as := [.int v2, .int v3, .int v4]) (st := []) (r0 := x1) dX8_exchange_45 sc_RX8_157 rfl (s_X7_exchangeLines x1 v2 v3 v4 h e_x4) (e_X7_exchangeLines x1 v2 v3 v4 h e_x4) (mFit_of rfl (Nat.le_of_ble_eq_true rfl) (by decide) (Nat.le_of_ble_eq_true rfl) (Nat.le_of_ble_eq_true rfl)) (Nat.le_of_ble_eq_true rfl) rfl rfl ?_
          intro _ _ hq
          rw [hq.1, hq.2]
          show mGo w kX8_exchange 0 0 48 [some (va_rf v0), some (.int v1), some (.int v2), some (.int v3), some (.int v4), some (va_rf x1)] [] x4 Q
          refine mGo.iconst (n := 49) (v := (1 : Int32)) dX8_exchange_48 (by decide) rfl ?_
          cases e
          exact mGo.zret dX8_exchange_49 rfl (by decide) (Nat.le_of_ble_eq_true rfl) (Nat.le_of_ble_eq_true rfl) q
        · replace e := mIft hc e
          refine mGo.iconst (n := 38) (v := (0 : Int32)) dX8_exchange_37 (by decide) rfl ?_
          cases e
          exact mGo.zret dX8_exchange_38 rfl (by decide) (Nat.le_of_ble_eq_true rfl) (Nat.le_of_ble_eq_true rfl) q
theorem e_X8_exchange {w : mWp} (v0 : Option Nat) (v1 : Int32) (v2 : Int32) (v3 : Int32) (v4 : Int32) (h : mH) {res : Int32 × mH} (e : f_X8_exchange v0 v1 v2 v3 v4 h = some res) : mEx w zX8_exchange (mRoom 3 0 0) [va_rf v0, .int v1, .int v2, .int v3, .int v4] h (fun r h2 => r = some (.int res.1) ∧ h2 = res.2) := by
  refine mEx.of (by decide +kernel) (show mEnt [va_rf v0, .int v1, .int v2, .int v3, .int v4] 6 = [some (va_rf v0), some (.int v1), some (.int v2), some (.int v3), some (.int v4), none] by rw [mEnt_r, mEnt_i, mEnt_i, mEnt_i, mEnt_i] <;> rfl) (by simp only [List.map_cons, List.map_nil, mRfc, mCi, mCj, List.sum_cons, List.sum_nil]; exact Nat.le_of_ble_eq_true rfl) ?_
  refine g_X8_exchange v0 v1 v2 v3 v4 h e ?_
  exact ⟨rfl, rfl⟩
theorem s_X8_exchange (v0 : Option Nat) (v1 : Int32) (v2 : Int32) (v3 : Int32) (v4 : Int32) (h : mH) {res : Int32 × mH} (e : f_X8_exchange v0 v1 v2 v3 v4 h = some res) : mIs h v0 7 = some () := by
  unfold f_X8_exchange at e
  obtain ⟨u, e1, _⟩ := mBind e
  cases u
  exact e1
-- X8_turn
def kX8_turn : mK := (cX8_turn, RX8, 3, some (.boolean), "turn", mRoom 2 0 0)
def zX8_turn : mY := (yX8_turn, cX8_turn, 3, some (.boolean))
set_option maxRecDepth 100000 in
theorem sc_RX8_161 : mSV RX8 161 zX7_transpose 0 6 := ⟨Or.inr ⟨_, mNest_at 398 (x := Cond.methodLinkNest RX8 161 yX7_transpose "SignTables") (by decide +kernel) rfl⟩, mT_at 482 (by decide +kernel) rfl, mT_at 14 (by decide +kernel) rfl, mT_at 84 (by decide +kernel) rfl, mT_at 483 (by decide +kernel) rfl, ⟨by decide +kernel, by decide +kernel, by decide +kernel⟩, by decide, rfl⟩
noncomputable def f_X8_turn (v0 : Option Nat) (v1 : Int32) (h : mH) : Option (Int32 × mH) :=
  (mIs h v0 7).bind fun _ =>
  (f_X8_tableAt v0 v1 h).bind fun x1 =>
  if x1 = none then
    some ((0 : Int32), h)
  else
    (f_X7_transpose x1 h).bind fun x2 =>
    some ((1 : Int32), x2)
set_option maxRecDepth 100000 in
set_option maxHeartbeats 4000000 in
theorem g_X8_turn {w : mWp} {Q : Option Value → mH → Prop} (v0 : Option Nat) (v1 : Int32) (h : mH) {res : Int32 × mH} (e : f_X8_turn v0 v1 h = some res) (q : (fun r : Int32 × mH => Q (some (.int r.1)) r.2) res) : mGo w kX8_turn 0 0 0 [some (va_rf v0), some (.int v1), none] [] h Q := by
  unfold f_X8_turn at e
  obtain ⟨_, _, e⟩ := mBind e
  refine mGo.aload_n (n := 1) (r := v0) dX8_turn_0 rfl rfl ?_
  refine mGo.iload_n (n := 2) (x := v1) dX8_turn_1 rfl rfl ?_
  obtain ⟨x1, e_x1, e⟩ := mBind e
  refine mGo.callV (n := 5) (y := zX8_tableAt) (R' := (mRoom (1) 0 0)) (as := [.int v1]) (st := []) (r0 := v0) dX8_turn_2 sc_RX8_118 rfl (s_X8_tableAt v0 v1 h e_x1) (e_X8_tableAt v0 v1 h e_x1) (mFit_of rfl (Nat.le_of_ble_eq_true rfl) (by decide) (Nat.le_of_ble_eq_true rfl) (Nat.le_of_ble_eq_true rfl)) (Nat.le_of_ble_eq_true rfl) rfl rfl ?_
  intro _ _ hq
  rw [hq.1, hq.2]
  show mGo w kX8_turn 0 0 5 [some (va_rf v0), some (.int v1), none] [va_rf x1] h Q
  refine mGo.astore_n (n := 6) (ls' := [some (va_rf v0), some (.int v1), some (va_rf x1)]) dX8_turn_5 rfl (Nat.le_of_ble_eq_true rfl) rfl ?_
  refine mGo.aload_n (n := 7) (r := x1) dX8_turn_6 rfl rfl ?_
  refine mGo.ifnonnull (tgt := 12) (n := 10) dX8_turn_7 (by decide) rfl (fun hc => ?_) (fun hc => ?_)
  · replace e := mIff hc e
    refine mGo.aload_n (n := 13) (r := x1) dX8_turn_12 rfl rfl ?_
    obtain ⟨x2, e_x2, e⟩ := mBind e
    refine mGo.callV (n := 16) (y := zX7_transpose) (R' := (mRoom (1) 0 0)) (as := []) (st := []) (r0 := x1) dX8_turn_13 sc_RX8_161 rfl (s_X7_transpose x1 h e_x2) (e_X7_transpose x1 h e_x2) (mFit_of rfl (Nat.le_of_ble_eq_true rfl) (by decide) (Nat.le_of_ble_eq_true rfl) (Nat.le_of_ble_eq_true rfl)) (Nat.le_of_ble_eq_true rfl) rfl rfl ?_
    intro _ _ hq
    rw [hq.1, hq.2]
    show mGo w kX8_turn 0 0 16 [some (va_rf v0), some (.int v1), some (va_rf x1)] [] x2 Q
    refine mGo.iconst (n := 17) (v := (1 : Int32)) dX8_turn_16 (by decide) rfl ?_
    cases e
    exact mGo.zret dX8_turn_17 rfl (by decide) (Nat.le_of_ble_eq_true rfl) (Nat.le_of_ble_eq_true rfl) q
  · replace e := mIft hc e
    refine mGo.iconst (n := 11) (v := (0 : Int32)) dX8_turn_10 (by decide) rfl ?_
    cases e
    exact mGo.zret dX8_turn_11 rfl (by decide) (Nat.le_of_ble_eq_true rfl) (Nat.le_of_ble_eq_true rfl) q
theorem e_X8_turn {w : mWp} (v0 : Option Nat) (v1 : Int32) (h : mH) {res : Int32 × mH} (e : f_X8_turn v0 v1 h = some res) : mEx w zX8_turn (mRoom 2 0 0) [va_rf v0, .int v1] h (fun r h2 => r = some (.int res.1) ∧ h2 = res.2) := by
  refine mEx.of (by decide +kernel) (show mEnt [va_rf v0, .int v1] 3 = [some (va_rf v0), some (.int v1), none] by rw [mEnt_r, mEnt_i] <;> rfl) (by simp only [List.map_cons, List.map_nil, mRfc, mCi, mCj, List.sum_cons, List.sum_nil]; exact Nat.le_of_ble_eq_true rfl) ?_
  refine g_X8_turn v0 v1 h e ?_
  exact ⟨rfl, rfl⟩
theorem s_X8_turn (v0 : Option Nat) (v1 : Int32) (h : mH) {res : Int32 × mH} (e : f_X8_turn v0 v1 h = some res) : mIs h v0 7 = some () := by
  unfold f_X8_turn at e
  obtain ⟨u, e1, _⟩ := mBind e
  cases u
  exact e1
-- X8_switched
def kX8_switched : mK := (cX8_switched, RX8, 8, some (.boolean), "switched", mRoom 4 0 0)
def zX8_switched : mY := (yX8_switched, cX8_switched, 8, some (.boolean))
set_option maxRecDepth 100000 in
theorem sc_RX8_164 : mSV RX8 164 zX7_switchRows 5 6 := ⟨Or.inr ⟨_, mNest_at 406 (x := Cond.methodLinkNest RX8 164 yX7_switchRows "SignTables") (by decide +kernel) rfl⟩, mT_at 490 (by decide +kernel) rfl, mT_at 15 (by decide +kernel) rfl, mT_at 84 (by decide +kernel) rfl, mT_at 491 (by decide +kernel) rfl, ⟨by decide +kernel, by decide +kernel, by decide +kernel⟩, by decide, rfl⟩
noncomputable def f_X8_switched (v0 : Option Nat) (v1 : Int32) (v2 : Int32) (v3 : Int32) (v4 : Int32) (v5 : Int32) (v6 : Int32) (h : mH) : Option (Int32 × mH) :=
  (mIs h v0 7).bind fun _ =>
  (f_X8_tableAt v0 v1 h).bind fun x1 =>
  if x1 = none then
    some ((0 : Int32), h)
  else
    (f_X7_has x1 v6 h).bind fun x2 =>
    if x2 = 0 then
      some ((0 : Int32), h)
    else
      (f_X7_has x1 v2 h).bind fun x3 =>
      if x3 = 0 then
        some ((0 : Int32), h)
      else
        (f_X7_has x1 v3 h).bind fun x4 =>
        if x4 = 0 then
          some ((0 : Int32), h)
        else
          (f_X7_has x1 v4 h).bind fun x5 =>
          if x5 = 0 then
            some ((0 : Int32), h)
          else
            (f_X7_has x1 v5 h).bind fun x6 =>
            if x6 = 0 then
              some ((0 : Int32), h)
            else
              if v2 = v3 then
                some ((0 : Int32), h)
              else
                if v2 = v4 then
                  some ((0 : Int32), h)
                else
                  if v2 = v5 then
                    some ((0 : Int32), h)
                  else
                    if v3 = v4 then
                      some ((0 : Int32), h)
                    else
                      if v3 = v5 then
                        some ((0 : Int32), h)
                      else
                        if v4 = v5 then
                          some ((0 : Int32), h)
                        else
                          (f_X7_switchRows x1 v2 v3 v4 v5 v6 h).bind fun x7 =>
                          if x7.1 = 0 ∨ x7.1 = 1 then some (x7.1, x7.2) else none
set_option maxRecDepth 100000 in
set_option maxHeartbeats 4000000 in
theorem g_X8_switched {w : mWp} {Q : Option Value → mH → Prop} (v0 : Option Nat) (v1 : Int32) (v2 : Int32) (v3 : Int32) (v4 : Int32) (v5 : Int32) (v6 : Int32) (h : mH) {res : Int32 × mH} (e : f_X8_switched v0 v1 v2 v3 v4 v5 v6 h = some res) (q : (fun r : Int32 × mH => Q (some (.int r.1)) r.2) res) : mGo w kX8_switched 0 0 0 [some (va_rf v0), some (.int v1), some (.int v2), some (.int v3), some (.int v4), some (.int v5), some (.int v6), none] [] h Q := by
  unfold f_X8_switched at e
  obtain ⟨_, _, e⟩ := mBind e
  refine mGo.aload_n (n := 1) (r := v0) dX8_switched_0 rfl rfl ?_
  refine mGo.iload_n (n := 2) (x := v1) dX8_switched_1 rfl rfl ?_
  obtain ⟨x1, e_x1, e⟩ := mBind e
  refine mGo.callV (n := 5) (y := zX8_tableAt) (R' := (mRoom (1) 0 0)) (as := [.int v1]) (st := []) (r0 := v0) dX8_switched_2 sc_RX8_118 rfl (s_X8_tableAt v0 v1 h e_x1) (e_X8_tableAt v0 v1 h e_x1) (mFit_of rfl (Nat.le_of_ble_eq_true rfl) (by decide) (Nat.le_of_ble_eq_true rfl) (Nat.le_of_ble_eq_true rfl)) (Nat.le_of_ble_eq_true rfl) rfl rfl ?_
  intro _ _ hq
  rw [hq.1, hq.2]
  show mGo w kX8_switched 0 0 5 [some (va_rf v0), some (.int v1), some (.int v2), some (.int v3), some (.int v4), some (.int v5), some (.int v6), none] [va_rf x1] h Q
  refine mGo.astore (n := 7) (ls' := [some (va_rf v0), some (.int v1), some (.int v2), some (.int v3), some (.int v4), some (.int v5), some (.int v6), some (va_rf x1)]) dX8_switched_5 rfl (Nat.le_of_ble_eq_true rfl) rfl ?_
  refine mGo.aload (n := 9) (r := x1) dX8_switched_7 rfl rfl ?_
  refine mGo.ifnull (tgt := 60) (n := 12) dX8_switched_9 (by decide) rfl (fun hc => ?_) (fun hc => ?_)
  · replace e := mIft hc e
    refine mGo.iconst (n := 61) (v := (0 : Int32)) dX8_switched_60 (by decide) rfl ?_
    cases e
    exact mGo.zret dX8_switched_61 rfl (by decide) (Nat.le_of_ble_eq_true rfl) (Nat.le_of_ble_eq_true rfl) q
  · replace e := mIff hc e
    refine mGo.aload (n := 14) (r := x1) dX8_switched_12 rfl rfl ?_
    refine mGo.iload (n := 16) (x := v6) dX8_switched_14 rfl rfl ?_
    obtain ⟨x2, e_x2, e⟩ := mBind e
    refine mGo.callV (n := 19) (y := zX7_has) (R' := (mRoom (1) 0 0)) (as := [.int v6]) (st := []) (r0 := x1) dX8_switched_16 sc_RX8_150 rfl (s_X7_has x1 v6 h e_x2) (e_X7_has x1 v6 h e_x2) (mFit_of rfl (Nat.le_of_ble_eq_true rfl) (by decide) (Nat.le_of_ble_eq_true rfl) (Nat.le_of_ble_eq_true rfl)) (Nat.le_of_ble_eq_true rfl) rfl rfl ?_
    intro _ _ hq
    rw [hq.1, hq.2]
    show mGo w kX8_switched 0 0 19 [some (va_rf v0), some (.int v1), some (.int v2), some (.int v3), some (.int v4), some (.int v5), some (.int v6), some (va_rf x1)] [.int x2] h Q
    refine mGo.if_eq (tgt := 60) (n := 22) dX8_switched_19 (by decide) rfl (fun hc => ?_) (fun hc => ?_)
    · replace e := mIft hc e
      refine mGo.iconst (n := 61) (v := (0 : Int32)) dX8_switched_60 (by decide) rfl ?_
      cases e
      exact mGo.zret dX8_switched_61 rfl (by decide) (Nat.le_of_ble_eq_true rfl) (Nat.le_of_ble_eq_true rfl) q
    · replace e := mIff hc e
      refine mGo.aload (n := 24) (r := x1) dX8_switched_22 rfl rfl ?_
      refine mGo.iload_n (n := 25) (x := v2) dX8_switched_24 rfl rfl ?_
      obtain ⟨x3, e_x3, e⟩ := mBind e
      refine mGo.callV (n := 28) (y := zX7_has) (R' := (mRoom (1) 0 0)) (as := [.int v2]) (st := []) (r0 := x1) dX8_switched_25 sc_RX8_150 rfl (s_X7_has x1 v2 h e_x3) (e_X7_has x1 v2 h e_x3) (mFit_of rfl (Nat.le_of_ble_eq_true rfl) (by decide) (Nat.le_of_ble_eq_true rfl) (Nat.le_of_ble_eq_true rfl)) (Nat.le_of_ble_eq_true rfl) rfl rfl ?_
      intro _ _ hq
      rw [hq.1, hq.2]
      show mGo w kX8_switched 0 0 28 [some (va_rf v0), some (.int v1), some (.int v2), some (.int v3), some (.int v4), some (.int v5), some (.int v6), some (va_rf x1)] [.int x3] h Q
      refine mGo.if_eq (tgt := 60) (n := 31) dX8_switched_28 (by decide) rfl (fun hc => ?_) (fun hc => ?_)
      · replace e := mIft hc e
        refine mGo.iconst (n := 61) (v := (0 : Int32)) dX8_switched_60 (by decide) rfl ?_
        cases e
        exact mGo.zret dX8_switched_61 rfl (by decide) (Nat.le_of_ble_eq_true rfl) (Nat.le_of_ble_eq_true rfl) q
      · replace e := mIff hc e
        refine mGo.aload (n := 33) (r := x1) dX8_switched_31 rfl rfl ?_
        refine mGo.iload_n (n := 34) (x := v3) dX8_switched_33 rfl rfl ?_
        obtain ⟨x4, e_x4, e⟩ := mBind e
        refine mGo.callV (n := 37) (y := zX7_has) (R' := (mRoom (1) 0 0)) (as := [.int v3]) (st := []) (r0 := x1) dX8_switched_34 sc_RX8_150 rfl (s_X7_has x1 v3 h e_x4) (e_X7_has x1 v3 h e_x4) (mFit_of rfl (Nat.le_of_ble_eq_true rfl) (by decide) (Nat.le_of_ble_eq_true rfl) (Nat.le_of_ble_eq_true rfl)) (Nat.le_of_ble_eq_true rfl) rfl rfl ?_
        intro _ _ hq
        rw [hq.1, hq.2]
        show mGo w kX8_switched 0 0 37 [some (va_rf v0), some (.int v1), some (.int v2), some (.int v3), some (.int v4), some (.int v5), some (.int v6), some (va_rf x1)] [.int x4] h Q
        refine mGo.if_eq (tgt := 60) (n := 40) dX8_switched_37 (by decide) rfl (fun hc => ?_) (fun hc => ?_)
        · replace e := mIft hc e
          refine mGo.iconst (n := 61) (v := (0 : Int32)) dX8_switched_60 (by decide) rfl ?_
          cases e
          exact mGo.zret dX8_switched_61 rfl (by decide) (Nat.le_of_ble_eq_true rfl) (Nat.le_of_ble_eq_true rfl) q
        · replace e := mIff hc e
          refine mGo.aload (n := 42) (r := x1) dX8_switched_40 rfl rfl ?_
          refine mGo.iload (n := 44) (x := v4) dX8_switched_42 rfl rfl ?_
          obtain ⟨x5, e_x5, e⟩ := mBind e
          refine mGo.callV (n := 47) (y := zX7_has) (R' := (mRoom (1) 0 0)) (as := [.int v4]) (st := []) (r0 := x1) dX8_switched_44 sc_RX8_150 rfl (s_X7_has x1 v4 h e_x5) (e_X7_has x1 v4 h e_x5) (mFit_of rfl (Nat.le_of_ble_eq_true rfl) (by decide) (Nat.le_of_ble_eq_true rfl) (Nat.le_of_ble_eq_true rfl)) (Nat.le_of_ble_eq_true rfl) rfl rfl ?_
          intro _ _ hq
          rw [hq.1, hq.2]
          show mGo w kX8_switched 0 0 47 [some (va_rf v0), some (.int v1), some (.int v2), some (.int v3), some (.int v4), some (.int v5), some (.int v6), some (va_rf x1)] [.int x5] h Q
          refine mGo.if_eq (tgt := 60) (n := 50) dX8_switched_47 (by decide) rfl (fun hc => ?_) (fun hc => ?_)
          · replace e := mIft hc e
            refine mGo.iconst (n := 61) (v := (0 : Int32)) dX8_switched_60 (by decide) rfl ?_
            cases e
            exact mGo.zret dX8_switched_61 rfl (by decide) (Nat.le_of_ble_eq_true rfl) (Nat.le_of_ble_eq_true rfl) q
          · replace e := mIff hc e
            refine mGo.aload (n := 52) (r := x1) dX8_switched_50 rfl rfl ?_
            refine mGo.iload (n := 54) (x := v5) dX8_switched_52 rfl rfl ?_
            obtain ⟨x6, e_x6, e⟩ := mBind e
            refine mGo.callV (n := 57) (y := zX7_has) (R' := (mRoom (1) 0 0)) (as := [.int v5]) (st := []) (r0 := x1) dX8_switched_54 sc_RX8_150 rfl (s_X7_has x1 v5 h e_x6) (e_X7_has x1 v5 h e_x6) (mFit_of rfl (Nat.le_of_ble_eq_true rfl) (by decide) (Nat.le_of_ble_eq_true rfl) (Nat.le_of_ble_eq_true rfl)) (Nat.le_of_ble_eq_true rfl) rfl rfl ?_
            intro _ _ hq
            rw [hq.1, hq.2]
            show mGo w kX8_switched 0 0 57 [some (va_rf v0), some (.int v1), some (.int v2), some (.int v3), some (.int v4), some (.int v5), some (.int v6), some (va_rf x1)] [.int x6] h Q
            refine mGo.if_ne (tgt := 62) (n := 60) dX8_switched_57 (by decide) rfl (fun hc => ?_) (fun hc => ?_)
            · replace e := mIff hc e
              refine mGo.iload_n (n := 63) (x := v2) dX8_switched_62 rfl rfl ?_
              refine mGo.iload_n (n := 64) (x := v3) dX8_switched_63 rfl rfl ?_
              refine mGo.icmp_eq (tgt := 98) (n := 67) dX8_switched_64 (by decide) rfl (fun hc => ?_) (fun hc => ?_)
              · replace e := mIft hc e
                refine mGo.iconst (n := 99) (v := (0 : Int32)) dX8_switched_98 (by decide) rfl ?_
                cases e
                exact mGo.zret dX8_switched_99 rfl (by decide) (Nat.le_of_ble_eq_true rfl) (Nat.le_of_ble_eq_true rfl) q
              · replace e := mIff hc e
                refine mGo.iload_n (n := 68) (x := v2) dX8_switched_67 rfl rfl ?_
                refine mGo.iload (n := 70) (x := v4) dX8_switched_68 rfl rfl ?_
                refine mGo.icmp_eq (tgt := 98) (n := 73) dX8_switched_70 (by decide) rfl (fun hc => ?_) (fun hc => ?_)
                · replace e := mIft hc e
                  refine mGo.iconst (n := 99) (v := (0 : Int32)) dX8_switched_98 (by decide) rfl ?_
                  cases e
                  exact mGo.zret dX8_switched_99 rfl (by decide) (Nat.le_of_ble_eq_true rfl) (Nat.le_of_ble_eq_true rfl) q
                · replace e := mIff hc e
                  refine mGo.iload_n (n := 74) (x := v2) dX8_switched_73 rfl rfl ?_
                  refine mGo.iload (n := 76) (x := v5) dX8_switched_74 rfl rfl ?_
                  refine mGo.icmp_eq (tgt := 98) (n := 79) dX8_switched_76 (by decide) rfl (fun hc => ?_) (fun hc => ?_)
                  · replace e := mIft hc e
                    refine mGo.iconst (n := 99) (v := (0 : Int32)) dX8_switched_98 (by decide) rfl ?_
                    cases e
                    exact mGo.zret dX8_switched_99 rfl (by decide) (Nat.le_of_ble_eq_true rfl) (Nat.le_of_ble_eq_true rfl) q
                  · replace e := mIff hc e
                    refine mGo.iload_n (n := 80) (x := v3) dX8_switched_79 rfl rfl ?_
                    refine mGo.iload (n := 82) (x := v4) dX8_switched_80 rfl rfl ?_
                    refine mGo.icmp_eq (tgt := 98) (n := 85) dX8_switched_82 (by decide) rfl (fun hc => ?_) (fun hc => ?_)
                    · replace e := mIft hc e
                      refine mGo.iconst (n := 99) (v := (0 : Int32)) dX8_switched_98 (by decide) rfl ?_
                      cases e
                      exact mGo.zret dX8_switched_99 rfl (by decide) (Nat.le_of_ble_eq_true rfl) (Nat.le_of_ble_eq_true rfl) q
                    · replace e := mIff hc e
                      refine mGo.iload_n (n := 86) (x := v3) dX8_switched_85 rfl rfl ?_
                      refine mGo.iload (n := 88) (x := v5) dX8_switched_86 rfl rfl ?_
                      refine mGo.icmp_eq (tgt := 98) (n := 91) dX8_switched_88 (by decide) rfl (fun hc => ?_) (fun hc => ?_)
                      · replace e := mIft hc e
                        refine mGo.iconst (n := 99) (v := (0 : Int32)) dX8_switched_98 (by decide) rfl ?_
                        cases e
                        exact mGo.zret dX8_switched_99 rfl (by decide) (Nat.le_of_ble_eq_true rfl) (Nat.le_of_ble_eq_true rfl) q
                      · replace e := mIff hc e
                        refine mGo.iload (n := 93) (x := v4) dX8_switched_91 rfl rfl ?_
                        refine mGo.iload (n := 95) (x := v5) dX8_switched_93 rfl rfl ?_
                        refine mGo.icmp_ne (tgt := 100) (n := 98) dX8_switched_95 (by decide) rfl (fun hc => ?_) (fun hc => ?_)
                        · replace e := mIff hc e
                          refine mGo.aload (n := 102) (r := x1) dX8_switched_100 rfl rfl ?_
                          refine mGo.iload_n (n := 103) (x := v2) dX8_switched_102 rfl rfl ?_
                          refine mGo.iload_n (n := 104) (x := v3) dX8_switched_103 rfl rfl ?_
                          refine mGo.iload (n := 106) (x := v4) dX8_switched_104 rfl rfl ?_
                          refine mGo.iload (n := 108) (x := v5) dX8_switched_106 rfl rfl ?_
                          refine mGo.iload (n := 110) (x := v6) dX8_switched_108 rfl rfl ?_
                          obtain ⟨x7, e_x7, e⟩ := mBind e
                          refine mGo.callV (n := 113) (y := zX7_switchRows) (R' := (mRoom (3) 0 0)) (as := [.int v2, .int v3, .int v4, .int v5, .int v6]) (st := []) (r0 := x1) dX8_switched_110 sc_RX8_164 rfl (s_X7_switchRows x1 v2 v3 v4 v5 v6 h e_x7) (e_X7_switchRows x1 v2 v3 v4 v5 v6 h e_x7) (mFit_of rfl (Nat.le_of_ble_eq_true rfl) (by decide) (Nat.le_of_ble_eq_true rfl) (Nat.le_of_ble_eq_true rfl)) (Nat.le_of_ble_eq_true rfl) rfl rfl ?_
                          intro _ _ hq
                          rw [hq.1, hq.2]
                          show mGo w kX8_switched 0 0 113 [some (va_rf v0), some (.int v1), some (.int v2), some (.int v3), some (.int v4), some (.int v5), some (.int v6), some (va_rf x1)] [.int x7.1] x7.2 Q
                          obtain ⟨hz, e⟩ := mIfP e
                          cases e
                          exact mGo.zret dX8_switched_113 rfl hz (Nat.le_of_ble_eq_true rfl) (Nat.le_of_ble_eq_true rfl) q
                        · replace e := mIft hc e
                          refine mGo.iconst (n := 99) (v := (0 : Int32)) dX8_switched_98 (by decide) rfl ?_
                          cases e
                          exact mGo.zret dX8_switched_99 rfl (by decide) (Nat.le_of_ble_eq_true rfl) (Nat.le_of_ble_eq_true rfl) q
            · replace e := mIft hc e
              refine mGo.iconst (n := 61) (v := (0 : Int32)) dX8_switched_60 (by decide) rfl ?_
              cases e
              exact mGo.zret dX8_switched_61 rfl (by decide) (Nat.le_of_ble_eq_true rfl) (Nat.le_of_ble_eq_true rfl) q
theorem e_X8_switched {w : mWp} (v0 : Option Nat) (v1 : Int32) (v2 : Int32) (v3 : Int32) (v4 : Int32) (v5 : Int32) (v6 : Int32) (h : mH) {res : Int32 × mH} (e : f_X8_switched v0 v1 v2 v3 v4 v5 v6 h = some res) : mEx w zX8_switched (mRoom 4 0 0) [va_rf v0, .int v1, .int v2, .int v3, .int v4, .int v5, .int v6] h (fun r h2 => r = some (.int res.1) ∧ h2 = res.2) := by
  refine mEx.of (by decide +kernel) (show mEnt [va_rf v0, .int v1, .int v2, .int v3, .int v4, .int v5, .int v6] 8 = [some (va_rf v0), some (.int v1), some (.int v2), some (.int v3), some (.int v4), some (.int v5), some (.int v6), none] by rw [mEnt_r, mEnt_i, mEnt_i, mEnt_i, mEnt_i, mEnt_i, mEnt_i] <;> rfl) (by simp only [List.map_cons, List.map_nil, mRfc, mCi, mCj, List.sum_cons, List.sum_nil]; exact Nat.le_of_ble_eq_true rfl) ?_
  refine g_X8_switched v0 v1 v2 v3 v4 v5 v6 h e ?_
  exact ⟨rfl, rfl⟩
theorem s_X8_switched (v0 : Option Nat) (v1 : Int32) (v2 : Int32) (v3 : Int32) (v4 : Int32) (v5 : Int32) (v6 : Int32) (h : mH) {res : Int32 × mH} (e : f_X8_switched v0 v1 v2 v3 v4 v5 v6 h = some res) : mIs h v0 7 = some () := by
  unfold f_X8_switched at e
  obtain ⟨u, e1, _⟩ := mBind e
  cases u
  exact e1
-- X8_norm
def kX8_norm : mK := (cX8_norm, RX8, 5, some (.int), "norm", mRoom 3 0 0)
def zX8_norm : mY := (yX8_norm, cX8_norm, 5, some (.int))
noncomputable def f_X8_norm_b55 (v2 : Option Nat) (v3 : Int32) (v4 : Int32) (h : mH) : Option ((Int32 × Int32 × mH) ⊕ (Int32 × mH)) :=
  (mGI h v2 6 0).bind fun x1 =>
  if x1 ≤ v4 then
    some (Sum.inr (v3, h))
  else
    (f_X7_isMinus v2 v4 (0 : Int32) h).bind fun x2 =>
    if x2 = 0 then
      some (Sum.inl (v3, (v4 + 1), h))
    else
      (f_X7_signLine v2 (1 : Int32) v4 h).bind fun x3 =>
      some (Sum.inl ((v3 + 1), (v4 + 1), x3))
set_option maxRecDepth 100000 in
set_option maxHeartbeats 4000000 in
theorem g_X8_norm_b55 {w : mWp} {Q : Option Value → mH → Prop} (v2 : Option Nat) (v3 : Int32) (v4 : Int32) (h : mH) {res : (Int32 × Int32 × mH) ⊕ (Int32 × mH)} (e : f_X8_norm_b55 v2 v3 v4 h = some res) (q : (Sum.elim (fun x : Int32 × Int32 × mH => mGo w kX8_norm 0 0 55 [none, none, some (va_rf v2), some (.int x.1), some (.int x.2.1)] [] x.2.2 Q) (fun r : Int32 × mH => Q (some (.int r.1)) r.2)) res) : mGo w kX8_norm 0 0 55 [none, none, some (va_rf v2), some (.int v3), some (.int v4)] [] h Q := by
  unfold f_X8_norm_b55 at e
  refine mGo.iload (n := 57) (x := v4) dX8_norm_55 rfl rfl ?_
  refine mGo.aload_n (n := 58) (r := v2) dX8_norm_57 rfl rfl ?_
  obtain ⟨x1, e_x1, e⟩ := mBind e
  refine mGo.getI (n := 61) dX8_norm_58 sf_RX8_122 e_x1 rfl ?_
  refine mGo.icmp_ge (tgt := 90) (n := 64) dX8_norm_61 (by decide) rfl (fun hc => ?_) (fun hc => ?_)
  · replace e := mIft hc e
    refine mGo.iload_n (n := 91) (x := v3) dX8_norm_90 rfl rfl ?_
    cases e
    exact mGo.iret dX8_norm_91 rfl (Nat.le_of_ble_eq_true rfl) (Nat.le_of_ble_eq_true rfl) q
  · replace e := mIff hc e
    refine mGo.aload_n (n := 65) (r := v2) dX8_norm_64 rfl rfl ?_
    refine mGo.iload (n := 67) (x := v4) dX8_norm_65 rfl rfl ?_
    refine mGo.iconst (n := 68) (v := (0 : Int32)) dX8_norm_67 (by decide) rfl ?_
    obtain ⟨x2, e_x2, e⟩ := mBind e
    refine mGo.callV (n := 71) (y := zX7_isMinus) (R' := (mRoom (2) 0 0)) (as := [.int v4, .int (0 : Int32)]) (st := []) (r0 := v2) dX8_norm_68 sc_RX8_168 rfl (s_X7_isMinus v2 v4 (0 : Int32) h e_x2) (e_X7_isMinus v2 v4 (0 : Int32) h e_x2) (mFit_of rfl (Nat.le_of_ble_eq_true rfl) (by decide) (Nat.le_of_ble_eq_true rfl) (Nat.le_of_ble_eq_true rfl)) (Nat.le_of_ble_eq_true rfl) rfl rfl ?_
    intro _ _ hq
    rw [hq.1, hq.2]
    show mGo w kX8_norm 0 0 71 [none, none, some (va_rf v2), some (.int v3), some (.int v4)] [.int x2] h Q
    refine mGo.if_eq (tgt := 84) (n := 74) dX8_norm_71 (by decide) rfl (fun hc => ?_) (fun hc => ?_)
    · replace e := mIft hc e
      refine mGo.iinc (n := 87) (x := v4) (v := (v4 + 1)) (ls' := [none, none, some (va_rf v2), some (.int v3), some (.int (v4 + 1))]) dX8_norm_84 rfl rfl rfl (Nat.le_of_ble_eq_true rfl) rfl ?_
      refine mGo.goto (tgt := 55) dX8_norm_87 (by decide) ?_
      cases e
      refine mGo.mk [false, false, true, true, true] ?_
      exact q
    · replace e := mIff hc e
      refine mGo.aload_n (n := 75) (r := v2) dX8_norm_74 rfl rfl ?_
      refine mGo.iconst (n := 76) (v := (1 : Int32)) dX8_norm_75 (by decide) rfl ?_
      refine mGo.iload (n := 78) (x := v4) dX8_norm_76 rfl rfl ?_
      obtain ⟨x3, e_x3, e⟩ := mBind e
      refine mGo.callV (n := 81) (y := zX7_signLine) (R' := (mRoom (2) 0 0)) (as := [.int (1 : Int32), .int v4]) (st := []) (r0 := v2) dX8_norm_78 sc_RX8_153 rfl (s_X7_signLine v2 (1 : Int32) v4 h e_x3) (e_X7_signLine v2 (1 : Int32) v4 h e_x3) (mFit_of rfl (Nat.le_of_ble_eq_true rfl) (by decide) (Nat.le_of_ble_eq_true rfl) (Nat.le_of_ble_eq_true rfl)) (Nat.le_of_ble_eq_true rfl) rfl rfl ?_
      intro _ _ hq
      rw [hq.1, hq.2]
      show mGo w kX8_norm 0 0 81 [none, none, some (va_rf v2), some (.int v3), some (.int v4)] [] x3 Q
      refine mGo.iinc (n := 84) (x := v3) (v := (v3 + 1)) (ls' := [none, none, some (va_rf v2), some (.int (v3 + 1)), some (.int v4)]) dX8_norm_81 rfl rfl ((mSt_set (fun u _ hu => by cases hu; exact mRfc _)).trans rfl) (Nat.le_of_ble_eq_true rfl) rfl ?_
      refine mGo.iinc (n := 87) (x := v4) (v := (v4 + 1)) (ls' := [none, none, some (va_rf v2), some (.int (v3 + 1)), some (.int (v4 + 1))]) dX8_norm_84 rfl rfl rfl (Nat.le_of_ble_eq_true rfl) rfl ?_
      refine mGo.goto (tgt := 55) dX8_norm_87 (by decide) ?_
      cases e
      refine mGo.mk [false, false, true, true, true] ?_
      exact q
noncomputable def f_X8_norm_l55 (v2 : Option Nat) (v3 : Int32) (v4 : Int32) (h : mH) : Option (Int32 × mH) :=
  mLoop (fun x : Int32 × Int32 × mH => f_X8_norm_b55 v2 x.1 x.2.1 x.2.2) (v3, v4, h)
set_option maxRecDepth 100000 in
set_option maxHeartbeats 4000000 in
theorem g_X8_norm_l55 {w : mWp} {Q : Option Value → mH → Prop} (v2 : Option Nat) (v3 : Int32) (v4 : Int32) (h : mH) {res : Int32 × mH} (e : f_X8_norm_l55 v2 v3 v4 h = some res) (q : (fun r : Int32 × mH => Q (some (.int r.1)) r.2) res) : mGo w kX8_norm 0 0 55 [none, none, some (va_rf v2), some (.int v3), some (.int v4)] [] h Q := by
  unfold f_X8_norm_l55 at e
  refine mLoop_go (x := (v3, v4, h)) (fun x : Int32 × Int32 × mH => mGo w kX8_norm 0 0 55 [none, none, some (va_rf v2), some (.int x.1), some (.int x.2.1)] [] x.2.2 Q) (fun r : Int32 × mH => Q (some (.int r.1)) r.2) ?_ e q
  rintro ⟨v3, v4, h1⟩ res e q
  exact g_X8_norm_b55 v2 v3 v4 h1 e q
noncomputable def f_X8_norm_b17 (v2 : Option Nat) (v3 : Int32) (v4 : Int32) (h : mH) : Option ((Int32 × Int32 × mH) ⊕ (Int32 × mH)) :=
  (mGI h v2 6 0).bind fun x1 =>
  if x1 ≤ v4 then
    (f_X8_norm_l55 v2 v3 (0 : Int32) h).map (fun r => (Sum.inr r))
  else
    (f_X7_isMinus v2 (0 : Int32) v4 h).bind fun x3 =>
    if x3 = 0 then
      some (Sum.inl (v3, (v4 + 1), h))
    else
      (f_X7_signLine v2 (0 : Int32) v4 h).bind fun x4 =>
      some (Sum.inl ((v3 + 1), (v4 + 1), x4))
set_option maxRecDepth 100000 in
set_option maxHeartbeats 4000000 in
theorem g_X8_norm_b17 {w : mWp} {Q : Option Value → mH → Prop} (v2 : Option Nat) (v3 : Int32) (v4 : Int32) (h : mH) {res : (Int32 × Int32 × mH) ⊕ (Int32 × mH)} (e : f_X8_norm_b17 v2 v3 v4 h = some res) (q : (Sum.elim (fun x : Int32 × Int32 × mH => mGo w kX8_norm 0 0 17 [none, none, some (va_rf v2), some (.int x.1), some (.int x.2.1)] [] x.2.2 Q) (fun r : Int32 × mH => Q (some (.int r.1)) r.2)) res) : mGo w kX8_norm 0 0 17 [none, none, some (va_rf v2), some (.int v3), some (.int v4)] [] h Q := by
  unfold f_X8_norm_b17 at e
  refine mGo.iload (n := 19) (x := v4) dX8_norm_17 rfl rfl ?_
  refine mGo.aload_n (n := 20) (r := v2) dX8_norm_19 rfl rfl ?_
  obtain ⟨x1, e_x1, e⟩ := mBind e
  refine mGo.getI (n := 23) dX8_norm_20 sf_RX8_122 e_x1 rfl ?_
  refine mGo.icmp_ge (tgt := 52) (n := 26) dX8_norm_23 (by decide) rfl (fun hc => ?_) (fun hc => ?_)
  · replace e := mIft hc e
    refine mGo.iconst (n := 53) (v := (0 : Int32)) dX8_norm_52 (by decide) rfl ?_
    refine mGo.istore (n := 55) (ls' := [none, none, some (va_rf v2), some (.int v3), some (.int (0 : Int32))]) dX8_norm_53 rfl (Nat.le_of_ble_eq_true rfl) rfl ?_
    obtain ⟨r2, e2, rfl⟩ := mMap e
    refine mGo.mk [false, false, true, true, true] ?_
    exact g_X8_norm_l55 v2 v3 (0 : Int32) h e2 q
  · replace e := mIff hc e
    refine mGo.aload_n (n := 27) (r := v2) dX8_norm_26 rfl rfl ?_
    refine mGo.iconst (n := 28) (v := (0 : Int32)) dX8_norm_27 (by decide) rfl ?_
    refine mGo.iload (n := 30) (x := v4) dX8_norm_28 rfl rfl ?_
    obtain ⟨x3, e_x3, e⟩ := mBind e
    refine mGo.callV (n := 33) (y := zX7_isMinus) (R' := (mRoom (2) 0 0)) (as := [.int (0 : Int32), .int v4]) (st := []) (r0 := v2) dX8_norm_30 sc_RX8_168 rfl (s_X7_isMinus v2 (0 : Int32) v4 h e_x3) (e_X7_isMinus v2 (0 : Int32) v4 h e_x3) (mFit_of rfl (Nat.le_of_ble_eq_true rfl) (by decide) (Nat.le_of_ble_eq_true rfl) (Nat.le_of_ble_eq_true rfl)) (Nat.le_of_ble_eq_true rfl) rfl rfl ?_
    intro _ _ hq
    rw [hq.1, hq.2]
    show mGo w kX8_norm 0 0 33 [none, none, some (va_rf v2), some (.int v3), some (.int v4)] [.int x3] h Q
    refine mGo.if_eq (tgt := 46) (n := 36) dX8_norm_33 (by decide) rfl (fun hc => ?_) (fun hc => ?_)
    · replace e := mIft hc e
      refine mGo.iinc (n := 49) (x := v4) (v := (v4 + 1)) (ls' := [none, none, some (va_rf v2), some (.int v3), some (.int (v4 + 1))]) dX8_norm_46 rfl rfl rfl (Nat.le_of_ble_eq_true rfl) rfl ?_
      refine mGo.goto (tgt := 17) dX8_norm_49 (by decide) ?_
      cases e
      refine mGo.mk [false, false, true, true, true] ?_
      exact q
    · replace e := mIff hc e
      refine mGo.aload_n (n := 37) (r := v2) dX8_norm_36 rfl rfl ?_
      refine mGo.iconst (n := 38) (v := (0 : Int32)) dX8_norm_37 (by decide) rfl ?_
      refine mGo.iload (n := 40) (x := v4) dX8_norm_38 rfl rfl ?_
      obtain ⟨x4, e_x4, e⟩ := mBind e
      refine mGo.callV (n := 43) (y := zX7_signLine) (R' := (mRoom (2) 0 0)) (as := [.int (0 : Int32), .int v4]) (st := []) (r0 := v2) dX8_norm_40 sc_RX8_153 rfl (s_X7_signLine v2 (0 : Int32) v4 h e_x4) (e_X7_signLine v2 (0 : Int32) v4 h e_x4) (mFit_of rfl (Nat.le_of_ble_eq_true rfl) (by decide) (Nat.le_of_ble_eq_true rfl) (Nat.le_of_ble_eq_true rfl)) (Nat.le_of_ble_eq_true rfl) rfl rfl ?_
      intro _ _ hq
      rw [hq.1, hq.2]
      show mGo w kX8_norm 0 0 43 [none, none, some (va_rf v2), some (.int v3), some (.int v4)] [] x4 Q
      refine mGo.iinc (n := 46) (x := v3) (v := (v3 + 1)) (ls' := [none, none, some (va_rf v2), some (.int (v3 + 1)), some (.int v4)]) dX8_norm_43 rfl rfl ((mSt_set (fun u _ hu => by cases hu; exact mRfc _)).trans rfl) (Nat.le_of_ble_eq_true rfl) rfl ?_
      refine mGo.iinc (n := 49) (x := v4) (v := (v4 + 1)) (ls' := [none, none, some (va_rf v2), some (.int (v3 + 1)), some (.int (v4 + 1))]) dX8_norm_46 rfl rfl rfl (Nat.le_of_ble_eq_true rfl) rfl ?_
      refine mGo.goto (tgt := 17) dX8_norm_49 (by decide) ?_
      cases e
      refine mGo.mk [false, false, true, true, true] ?_
      exact q
noncomputable def f_X8_norm_l17 (v2 : Option Nat) (v3 : Int32) (v4 : Int32) (h : mH) : Option (Int32 × mH) :=
  mLoop (fun x : Int32 × Int32 × mH => f_X8_norm_b17 v2 x.1 x.2.1 x.2.2) (v3, v4, h)
set_option maxRecDepth 100000 in
set_option maxHeartbeats 4000000 in
theorem g_X8_norm_l17 {w : mWp} {Q : Option Value → mH → Prop} (v2 : Option Nat) (v3 : Int32) (v4 : Int32) (h : mH) {res : Int32 × mH} (e : f_X8_norm_l17 v2 v3 v4 h = some res) (q : (fun r : Int32 × mH => Q (some (.int r.1)) r.2) res) : mGo w kX8_norm 0 0 17 [none, none, some (va_rf v2), some (.int v3), some (.int v4)] [] h Q := by
  unfold f_X8_norm_l17 at e
  refine mLoop_go (x := (v3, v4, h)) (fun x : Int32 × Int32 × mH => mGo w kX8_norm 0 0 17 [none, none, some (va_rf v2), some (.int x.1), some (.int x.2.1)] [] x.2.2 Q) (fun r : Int32 × mH => Q (some (.int r.1)) r.2) ?_ e q
  rintro ⟨v3, v4, h1⟩ res e q
  exact g_X8_norm_b17 v2 v3 v4 h1 e q
noncomputable def f_X8_norm (v0 : Option Nat) (v1 : Int32) (h : mH) : Option (Int32 × mH) :=
  (mIs h v0 7).bind fun _ =>
  (f_X8_tableAt v0 v1 h).bind fun x1 =>
  if x1 = none then
    some ((-1 : Int32), h)
  else
    f_X8_norm_l17 x1 (0 : Int32) (0 : Int32) h
set_option maxRecDepth 100000 in
set_option maxHeartbeats 4000000 in
theorem g_X8_norm {w : mWp} {Q : Option Value → mH → Prop} (v0 : Option Nat) (v1 : Int32) (h : mH) {res : Int32 × mH} (e : f_X8_norm v0 v1 h = some res) (q : (fun r : Int32 × mH => Q (some (.int r.1)) r.2) res) : mGo w kX8_norm 0 0 0 [some (va_rf v0), some (.int v1), none, none, none] [] h Q := by
  unfold f_X8_norm at e
  obtain ⟨_, _, e⟩ := mBind e
  refine mGo.aload_n (n := 1) (r := v0) dX8_norm_0 rfl rfl ?_
  refine mGo.iload_n (n := 2) (x := v1) dX8_norm_1 rfl rfl ?_
  obtain ⟨x1, e_x1, e⟩ := mBind e
  refine mGo.callV (n := 5) (y := zX8_tableAt) (R' := (mRoom (1) 0 0)) (as := [.int v1]) (st := []) (r0 := v0) dX8_norm_2 sc_RX8_118 rfl (s_X8_tableAt v0 v1 h e_x1) (e_X8_tableAt v0 v1 h e_x1) (mFit_of rfl (Nat.le_of_ble_eq_true rfl) (by decide) (Nat.le_of_ble_eq_true rfl) (Nat.le_of_ble_eq_true rfl)) (Nat.le_of_ble_eq_true rfl) rfl rfl ?_
  intro _ _ hq
  rw [hq.1, hq.2]
  show mGo w kX8_norm 0 0 5 [some (va_rf v0), some (.int v1), none, none, none] [va_rf x1] h Q
  refine mGo.astore_n (n := 6) (ls' := [some (va_rf v0), some (.int v1), some (va_rf x1), none, none]) dX8_norm_5 rfl (Nat.le_of_ble_eq_true rfl) rfl ?_
  refine mGo.aload_n (n := 7) (r := x1) dX8_norm_6 rfl rfl ?_
  refine mGo.ifnonnull (tgt := 12) (n := 10) dX8_norm_7 (by decide) rfl (fun hc => ?_) (fun hc => ?_)
  · replace e := mIff hc e
    refine mGo.iconst (n := 13) (v := (0 : Int32)) dX8_norm_12 (by decide) rfl ?_
    refine mGo.istore_n (n := 14) (ls' := [some (va_rf v0), some (.int v1), some (va_rf x1), some (.int (0 : Int32)), none]) dX8_norm_13 ((mSt_set (fun u _ hu => by cases hu; exact mRfc _)).trans rfl) (Nat.le_of_ble_eq_true rfl) rfl ?_
    refine mGo.iconst (n := 15) (v := (0 : Int32)) dX8_norm_14 (by decide) rfl ?_
    refine mGo.istore (n := 17) (ls' := [some (va_rf v0), some (.int v1), some (va_rf x1), some (.int (0 : Int32)), some (.int (0 : Int32))]) dX8_norm_15 rfl (Nat.le_of_ble_eq_true rfl) rfl ?_
    refine mGo.mk [false, false, true, true, true] ?_
    exact g_X8_norm_l17 x1 (0 : Int32) (0 : Int32) h e q
  · replace e := mIft hc e
    refine mGo.iconst (n := 11) (v := (-1 : Int32)) dX8_norm_10 (by decide) rfl ?_
    cases e
    exact mGo.iret dX8_norm_11 rfl (Nat.le_of_ble_eq_true rfl) (Nat.le_of_ble_eq_true rfl) q
theorem e_X8_norm {w : mWp} (v0 : Option Nat) (v1 : Int32) (h : mH) {res : Int32 × mH} (e : f_X8_norm v0 v1 h = some res) : mEx w zX8_norm (mRoom 3 0 0) [va_rf v0, .int v1] h (fun r h2 => r = some (.int res.1) ∧ h2 = res.2) := by
  refine mEx.of (by decide +kernel) (show mEnt [va_rf v0, .int v1] 5 = [some (va_rf v0), some (.int v1), none, none, none] by rw [mEnt_r, mEnt_i] <;> rfl) (by simp only [List.map_cons, List.map_nil, mRfc, mCi, mCj, List.sum_cons, List.sum_nil]; exact Nat.le_of_ble_eq_true rfl) ?_
  refine g_X8_norm v0 v1 h e ?_
  exact ⟨rfl, rfl⟩
theorem s_X8_norm (v0 : Option Nat) (v1 : Int32) (h : mH) {res : Int32 × mH} (e : f_X8_norm v0 v1 h = some res) : mIs h v0 7 = some () := by
  unfold f_X8_norm at e
  obtain ⟨u, e1, _⟩ := mBind e
  cases u
  exact e1
-- X8_order
def kX8_order : mK := (cX8_order, RX8, 2, some (.int), "order", mRoom 1 0 0)
def zX8_order : mY := (yX8_order, cX8_order, 2, some (.int))
def f_X8_order (v0 : Option Nat) (v1 : Int32) (h : mH) : Option (Int32) :=
  (mIs h v0 7).bind fun _ =>
  if v1 < 0 then
    some (-1 : Int32)
  else
    if v1 < (6 : Int32) then
      (mGR h v0 7 0).bind fun x1 =>
      (mAR h x1 v1).bind fun x2 =>
      (mGI h x2 6 0).bind fun x3 =>
      some x3
    else
      some (-1 : Int32)
set_option maxRecDepth 100000 in
set_option maxHeartbeats 4000000 in
theorem g_X8_order {w : mWp} {Q : Option Value → mH → Prop} (v0 : Option Nat) (v1 : Int32) (h : mH) {res : Int32} (e : f_X8_order v0 v1 h = some res) (q : (fun r : Int32 => Q (some (.int r)) h) res) : mGo w kX8_order 0 0 0 [some (va_rf v0), some (.int v1)] [] h Q := by
  unfold f_X8_order at e
  obtain ⟨_, _, e⟩ := mBind e
  refine mGo.iload_n (n := 1) (x := v1) dX8_order_0 rfl rfl ?_
  refine mGo.if_lt (tgt := 10) (n := 4) dX8_order_1 (by decide) rfl (fun hc => ?_) (fun hc => ?_)
  · replace e := mIft hc e
    refine mGo.iconst (n := 11) (v := (-1 : Int32)) dX8_order_10 (by decide) rfl ?_
    cases e
    exact mGo.iret dX8_order_11 rfl (Nat.le_of_ble_eq_true rfl) (Nat.le_of_ble_eq_true rfl) q
  · replace e := mIff hc e
    refine mGo.iload_n (n := 5) (x := v1) dX8_order_4 rfl rfl ?_
    refine mGo.bipush (n := 7) (v := (6 : Int32)) dX8_order_5 (by decide) rfl ?_
    refine mGo.icmp_lt (tgt := 12) (n := 10) dX8_order_7 (by decide) rfl (fun hc => ?_) (fun hc => ?_)
    · replace e := mIft hc e
      refine mGo.aload_n (n := 13) (r := v0) dX8_order_12 rfl rfl ?_
      obtain ⟨x1, e_x1, e⟩ := mBind e
      refine mGo.getR (n := 16) dX8_order_13 sf_RX8_11 e_x1 rfl ?_
      refine mGo.iload_n (n := 17) (x := v1) dX8_order_16 rfl rfl ?_
      obtain ⟨x2, e_x2, e⟩ := mBind e
      refine mGo.aald (n := 18) dX8_order_17 e_x2 rfl ?_
      obtain ⟨x3, e_x3, e⟩ := mBind e
      refine mGo.getI (n := 21) dX8_order_18 sf_RX8_122 e_x3 rfl ?_
      cases e
      exact mGo.iret dX8_order_21 rfl (Nat.le_of_ble_eq_true rfl) (Nat.le_of_ble_eq_true rfl) q
    · replace e := mIff hc e
      refine mGo.iconst (n := 11) (v := (-1 : Int32)) dX8_order_10 (by decide) rfl ?_
      cases e
      exact mGo.iret dX8_order_11 rfl (Nat.le_of_ble_eq_true rfl) (Nat.le_of_ble_eq_true rfl) q
theorem e_X8_order {w : mWp} (v0 : Option Nat) (v1 : Int32) (h : mH) {res : Int32} (e : f_X8_order v0 v1 h = some res) : mEx w zX8_order (mRoom 1 0 0) [va_rf v0, .int v1] h (fun r h2 => r = some (.int res) ∧ h2 = h) := by
  refine mEx.of (by decide +kernel) (show mEnt [va_rf v0, .int v1] 2 = [some (va_rf v0), some (.int v1)] by rw [mEnt_r, mEnt_i] <;> rfl) (by simp only [List.map_cons, List.map_nil, mRfc, mCi, mCj, List.sum_cons, List.sum_nil]; exact Nat.le_of_ble_eq_true rfl) ?_
  refine g_X8_order v0 v1 h e ?_
  exact ⟨rfl, rfl⟩
theorem s_X8_order (v0 : Option Nat) (v1 : Int32) (h : mH) {res : Int32} (e : f_X8_order v0 v1 h = some res) : mIs h v0 7 = some () := by
  unfold f_X8_order at e
  obtain ⟨u, e1, _⟩ := mBind e
  cases u
  exact e1
-- X8_bits
def kX8_bits : mK := (cX8_bits, RX8, 5, some (.int), "bits", mRoom 2 0 0)
def zX8_bits : mY := (yX8_bits, cX8_bits, 5, some (.int))
set_option maxRecDepth 100000 in
theorem sc_RX8_171 : mSV RX8 171 zX7_line 2 6 := ⟨Or.inr ⟨_, mNest_at 429 (x := Cond.methodLinkNest RX8 171 yX7_line "SignTables") (by decide +kernel) rfl⟩, mT_at 513 (by decide +kernel) rfl, mT_at 16 (by decide +kernel) rfl, mT_at 84 (by decide +kernel) rfl, mT_at 514 (by decide +kernel) rfl, ⟨by decide +kernel, by decide +kernel, by decide +kernel⟩, by decide, rfl⟩
noncomputable def f_X8_bits (v0 : Option Nat) (v1 : Int32) (v2 : Int32) (v3 : Int32) (h : mH) : Option (Int32) :=
  (mIs h v0 7).bind fun _ =>
  (f_X8_tableAt v0 v1 h).bind fun x1 =>
  if x1 = none then
    some (-1 : Int32)
  else
    (f_X7_has x1 v3 h).bind fun x2 =>
    if x2 = 0 then
      some (-1 : Int32)
    else
      (f_X7_line x1 v2 v3 h).bind fun x3 =>
      some x3
set_option maxRecDepth 100000 in
set_option maxHeartbeats 4000000 in
theorem g_X8_bits {w : mWp} {Q : Option Value → mH → Prop} (v0 : Option Nat) (v1 : Int32) (v2 : Int32) (v3 : Int32) (h : mH) {res : Int32} (e : f_X8_bits v0 v1 v2 v3 h = some res) (q : (fun r : Int32 => Q (some (.int r)) h) res) : mGo w kX8_bits 0 0 0 [some (va_rf v0), some (.int v1), some (.int v2), some (.int v3), none] [] h Q := by
  unfold f_X8_bits at e
  obtain ⟨_, _, e⟩ := mBind e
  refine mGo.aload_n (n := 1) (r := v0) dX8_bits_0 rfl rfl ?_
  refine mGo.iload_n (n := 2) (x := v1) dX8_bits_1 rfl rfl ?_
  obtain ⟨x1, e_x1, e⟩ := mBind e
  refine mGo.callV (n := 5) (y := zX8_tableAt) (R' := (mRoom (1) 0 0)) (as := [.int v1]) (st := []) (r0 := v0) dX8_bits_2 sc_RX8_118 rfl (s_X8_tableAt v0 v1 h e_x1) (e_X8_tableAt v0 v1 h e_x1) (mFit_of rfl (Nat.le_of_ble_eq_true rfl) (by decide) (Nat.le_of_ble_eq_true rfl) (Nat.le_of_ble_eq_true rfl)) (Nat.le_of_ble_eq_true rfl) rfl rfl ?_
  intro _ _ hq
  rw [hq.1, hq.2]
  show mGo w kX8_bits 0 0 5 [some (va_rf v0), some (.int v1), some (.int v2), some (.int v3), none] [va_rf x1] h Q
  refine mGo.astore (n := 7) (ls' := [some (va_rf v0), some (.int v1), some (.int v2), some (.int v3), some (va_rf x1)]) dX8_bits_5 rfl (Nat.le_of_ble_eq_true rfl) rfl ?_
  refine mGo.aload (n := 9) (r := x1) dX8_bits_7 rfl rfl ?_
  refine mGo.ifnull (tgt := 21) (n := 12) dX8_bits_9 (by decide) rfl (fun hc => ?_) (fun hc => ?_)
  · replace e := mIft hc e
    refine mGo.iconst (n := 22) (v := (-1 : Int32)) dX8_bits_21 (by decide) rfl ?_
    cases e
    exact mGo.iret dX8_bits_22 rfl (Nat.le_of_ble_eq_true rfl) (Nat.le_of_ble_eq_true rfl) q
  · replace e := mIff hc e
    refine mGo.aload (n := 14) (r := x1) dX8_bits_12 rfl rfl ?_
    refine mGo.iload_n (n := 15) (x := v3) dX8_bits_14 rfl rfl ?_
    obtain ⟨x2, e_x2, e⟩ := mBind e
    refine mGo.callV (n := 18) (y := zX7_has) (R' := (mRoom (1) 0 0)) (as := [.int v3]) (st := []) (r0 := x1) dX8_bits_15 sc_RX8_150 rfl (s_X7_has x1 v3 h e_x2) (e_X7_has x1 v3 h e_x2) (mFit_of rfl (Nat.le_of_ble_eq_true rfl) (by decide) (Nat.le_of_ble_eq_true rfl) (Nat.le_of_ble_eq_true rfl)) (Nat.le_of_ble_eq_true rfl) rfl rfl ?_
    intro _ _ hq
    rw [hq.1, hq.2]
    show mGo w kX8_bits 0 0 18 [some (va_rf v0), some (.int v1), some (.int v2), some (.int v3), some (va_rf x1)] [.int x2] h Q
    refine mGo.if_ne (tgt := 23) (n := 21) dX8_bits_18 (by decide) rfl (fun hc => ?_) (fun hc => ?_)
    · replace e := mIff hc e
      refine mGo.aload (n := 25) (r := x1) dX8_bits_23 rfl rfl ?_
      refine mGo.iload_n (n := 26) (x := v2) dX8_bits_25 rfl rfl ?_
      refine mGo.iload_n (n := 27) (x := v3) dX8_bits_26 rfl rfl ?_
      obtain ⟨x3, e_x3, e⟩ := mBind e
      refine mGo.callV (n := 30) (y := zX7_line) (R' := (mRoom (1) 0 0)) (as := [.int v2, .int v3]) (st := []) (r0 := x1) dX8_bits_27 sc_RX8_171 rfl (s_X7_line x1 v2 v3 h e_x3) (e_X7_line x1 v2 v3 h e_x3) (mFit_of rfl (Nat.le_of_ble_eq_true rfl) (by decide) (Nat.le_of_ble_eq_true rfl) (Nat.le_of_ble_eq_true rfl)) (Nat.le_of_ble_eq_true rfl) rfl rfl ?_
      intro _ _ hq
      rw [hq.1, hq.2]
      show mGo w kX8_bits 0 0 30 [some (va_rf v0), some (.int v1), some (.int v2), some (.int v3), some (va_rf x1)] [.int x3] h Q
      cases e
      exact mGo.iret dX8_bits_30 rfl (Nat.le_of_ble_eq_true rfl) (Nat.le_of_ble_eq_true rfl) q
    · replace e := mIft hc e
      refine mGo.iconst (n := 22) (v := (-1 : Int32)) dX8_bits_21 (by decide) rfl ?_
      cases e
      exact mGo.iret dX8_bits_22 rfl (Nat.le_of_ble_eq_true rfl) (Nat.le_of_ble_eq_true rfl) q
theorem e_X8_bits {w : mWp} (v0 : Option Nat) (v1 : Int32) (v2 : Int32) (v3 : Int32) (h : mH) {res : Int32} (e : f_X8_bits v0 v1 v2 v3 h = some res) : mEx w zX8_bits (mRoom 2 0 0) [va_rf v0, .int v1, .int v2, .int v3] h (fun r h2 => r = some (.int res) ∧ h2 = h) := by
  refine mEx.of (by decide +kernel) (show mEnt [va_rf v0, .int v1, .int v2, .int v3] 5 = [some (va_rf v0), some (.int v1), some (.int v2), some (.int v3), none] by rw [mEnt_r, mEnt_i, mEnt_i, mEnt_i] <;> rfl) (by simp only [List.map_cons, List.map_nil, mRfc, mCi, mCj, List.sum_cons, List.sum_nil]; exact Nat.le_of_ble_eq_true rfl) ?_
  refine g_X8_bits v0 v1 v2 v3 h e ?_
  exact ⟨rfl, rfl⟩
theorem s_X8_bits (v0 : Option Nat) (v1 : Int32) (v2 : Int32) (v3 : Int32) (h : mH) {res : Int32} (e : f_X8_bits v0 v1 v2 v3 h = some res) : mIs h v0 7 = some () := by
  unfold f_X8_bits at e
  obtain ⟨u, e1, _⟩ := mBind e
  cases u
  exact e1
-- X8_trail
def kX8_trail : mK := (cX8_trail, RX8, 7, some (.int), "trail", mRoom 2 0 0)
def zX8_trail : mY := (yX8_trail, cX8_trail, 7, some (.int))
set_option maxRecDepth 100000 in
theorem sf_RX8_178 : mFld RX8 178 6 3 := ⟨by decide, by decide, Or.inr ⟨_, mNest_at 43 (x := Cond.fieldLinkNest RX8 178 (mCR 6) (mCT 6 3).2.1 (mCT 6 3).2.2.1 "SignTables") (by decide +kernel) rfl⟩⟩
set_option maxRecDepth 100000 in
theorem sf_RX8_175 : mFld RX8 175 6 2 := ⟨by decide, by decide, Or.inr ⟨_, mNest_at 41 (x := Cond.fieldLinkNest RX8 175 (mCR 6) (mCT 6 2).2.1 (mCT 6 2).2.2.1 "SignTables") (by decide +kernel) rfl⟩⟩
set_option maxRecDepth 100000 in
theorem sf_RX8_181 : mFld RX8 181 6 4 := ⟨by decide, by decide, Or.inr ⟨_, mNest_at 45 (x := Cond.fieldLinkNest RX8 181 (mCR 6) (mCT 6 4).2.1 (mCT 6 4).2.2.1 "SignTables") (by decide +kernel) rfl⟩⟩
def f_X8_trail_c44 (v2 : Int32) (v4 : Int32) (v5 : Option Nat) (s0 : Int32) (h : mH) : Option (Int32) :=
  if v4 = 0 then
    some (s0 >>> ((1 : Int32) &&& 31))
  else
  if v4 = 1 then
    some (s0 &&& (1 : Int32))
  else
  if v4 = 2 then
    (mGI h v5 6 4).bind fun x4 =>
    if v2 = x4 then
      some (0 : Int32)
    else
      some (1 : Int32)
  else
  some (-1 : Int32)
set_option maxRecDepth 100000 in
set_option maxHeartbeats 4000000 in
theorem g_X8_trail_c44 {w : mWp} {Q : Option Value → mH → Prop} (v2 : Int32) (v4 : Int32) (v5 : Option Nat) (s0 : Int32) (h : mH) {res : Int32} (e : f_X8_trail_c44 v2 v4 v5 s0 h = some res) (q : (fun r : Int32 => Q (some (.int r)) h) res) : mGo w kX8_trail 0 0 44 [none, none, some (.int v2), none, some (.int v4), some (va_rf v5), none] [.int s0] h Q := by
  unfold f_X8_trail_c44 at e
  refine mGo.istore (n := 46) (ls' := [none, none, some (.int v2), none, some (.int v4), some (va_rf v5), some (.int s0)]) dX8_trail_44 ((mSt_set (fun u _ hu => by cases hu; exact mRfc _)).trans rfl) (Nat.le_of_ble_eq_true rfl) rfl ?_
  refine mGo.iload (n := 48) (x := v4) dX8_trail_46 rfl rfl ?_
  by_cases hc1 : v4 = 0
  · replace e := mIft hc1 e
    refine mGo.tcase (v := 0) (tgt := 76) hc1 dX8_trail_48 (by decide) (by decide) (off := 28) (by decide) (by decide) ?_
    refine mGo.iload (n := 78) (x := s0) dX8_trail_76 rfl rfl ?_
    refine mGo.iconst (n := 79) (v := (1 : Int32)) dX8_trail_78 (by decide) rfl ?_
    refine mGo.ishr (n := 80) dX8_trail_79 rfl ?_
    cases e
    exact mGo.iret dX8_trail_80 rfl (Nat.le_of_ble_eq_true rfl) (Nat.le_of_ble_eq_true rfl) q
  replace e := mIff hc1 e
  by_cases hc2 : v4 = 1
  · replace e := mIft hc2 e
    refine mGo.tcase (v := 1) (tgt := 81) hc2 dX8_trail_48 (by decide) (by decide) (off := 33) (by decide) (by decide) ?_
    refine mGo.iload (n := 83) (x := s0) dX8_trail_81 rfl rfl ?_
    refine mGo.iconst (n := 84) (v := (1 : Int32)) dX8_trail_83 (by decide) rfl ?_
    refine mGo.iand (n := 85) dX8_trail_84 rfl ?_
    cases e
    exact mGo.iret dX8_trail_85 rfl (Nat.le_of_ble_eq_true rfl) (Nat.le_of_ble_eq_true rfl) q
  replace e := mIff hc2 e
  by_cases hc3 : v4 = 2
  · replace e := mIft hc3 e
    refine mGo.tcase (v := 2) (tgt := 86) hc3 dX8_trail_48 (by decide) (by decide) (off := 38) (by decide) (by decide) ?_
    refine mGo.iload_n (n := 87) (x := v2) dX8_trail_86 rfl rfl ?_
    refine mGo.aload (n := 89) (r := v5) dX8_trail_87 rfl rfl ?_
    obtain ⟨x4, e_x4, e⟩ := mBind e
    refine mGo.getI (n := 92) dX8_trail_89 sf_RX8_181 e_x4 rfl ?_
    refine mGo.icmp_eq (tgt := 99) (n := 95) dX8_trail_92 (by decide) rfl (fun hc => ?_) (fun hc => ?_)
    · replace e := mIft hc e
      refine mGo.iconst (n := 100) (v := (0 : Int32)) dX8_trail_99 (by decide) rfl ?_
      cases e
      exact mGo.iret dX8_trail_100 rfl (Nat.le_of_ble_eq_true rfl) (Nat.le_of_ble_eq_true rfl) q
    · replace e := mIff hc e
      refine mGo.iconst (n := 96) (v := (1 : Int32)) dX8_trail_95 (by decide) rfl ?_
      refine mGo.goto (tgt := 100) dX8_trail_96 (by decide) ?_
      cases e
      exact mGo.iret dX8_trail_100 rfl (Nat.le_of_ble_eq_true rfl) (Nat.le_of_ble_eq_true rfl) q
  replace e := mIff hc3 e
  refine mGo.tdef (tgt := 101) [0, 1, 2] dX8_trail_48 (List.forall_mem_cons.mpr ⟨hc1, (List.forall_mem_cons.mpr ⟨hc2, (List.forall_mem_cons.mpr ⟨hc3, (fun _ hm => absurd hm List.not_mem_nil)⟩)⟩)⟩) (by decide) (by decide +kernel) (by decide) ?_
  refine mGo.iconst (n := 102) (v := (-1 : Int32)) dX8_trail_101 (by decide) rfl ?_
  cases e
  exact mGo.iret dX8_trail_102 rfl (Nat.le_of_ble_eq_true rfl) (Nat.le_of_ble_eq_true rfl) q
def f_X8_trail (v0 : Option Nat) (v1 : Int32) (v2 : Int32) (v3 : Int32) (v4 : Int32) (h : mH) : Option (Int32) :=
  (mIs h v0 7).bind fun _ =>
  (f_X8_tableAt v0 v1 h).bind fun x1 =>
  if x1 = none then
    some (-1 : Int32)
  else
    (f_X7_has x1 v3 h).bind fun x2 =>
    if x2 = 0 then
      some (-1 : Int32)
    else
      if v2 = 0 then
        (mGR h x1 6 3).bind fun x3 =>
        (mAI h x3 v3).bind fun x4 =>
        f_X8_trail_c44 v2 v4 x1 x4 h
      else
        (mGR h x1 6 2).bind fun x5 =>
        (mAI h x5 v3).bind fun x6 =>
        f_X8_trail_c44 v2 v4 x1 x6 h
set_option maxRecDepth 100000 in
set_option maxHeartbeats 4000000 in
theorem g_X8_trail {w : mWp} {Q : Option Value → mH → Prop} (v0 : Option Nat) (v1 : Int32) (v2 : Int32) (v3 : Int32) (v4 : Int32) (h : mH) {res : Int32} (e : f_X8_trail v0 v1 v2 v3 v4 h = some res) (q : (fun r : Int32 => Q (some (.int r)) h) res) : mGo w kX8_trail 0 0 0 [some (va_rf v0), some (.int v1), some (.int v2), some (.int v3), some (.int v4), none, none] [] h Q := by
  unfold f_X8_trail at e
  obtain ⟨_, _, e⟩ := mBind e
  refine mGo.aload_n (n := 1) (r := v0) dX8_trail_0 rfl rfl ?_
  refine mGo.iload_n (n := 2) (x := v1) dX8_trail_1 rfl rfl ?_
  obtain ⟨x1, e_x1, e⟩ := mBind e
  refine mGo.callV (n := 5) (y := zX8_tableAt) (R' := (mRoom (1) 0 0)) (as := [.int v1]) (st := []) (r0 := v0) dX8_trail_2 sc_RX8_118 rfl (s_X8_tableAt v0 v1 h e_x1) (e_X8_tableAt v0 v1 h e_x1) (mFit_of rfl (Nat.le_of_ble_eq_true rfl) (by decide) (Nat.le_of_ble_eq_true rfl) (Nat.le_of_ble_eq_true rfl)) (Nat.le_of_ble_eq_true rfl) rfl rfl ?_
  intro _ _ hq
  rw [hq.1, hq.2]
  show mGo w kX8_trail 0 0 5 [some (va_rf v0), some (.int v1), some (.int v2), some (.int v3), some (.int v4), none, none] [va_rf x1] h Q
  refine mGo.astore (n := 7) (ls' := [some (va_rf v0), some (.int v1), some (.int v2), some (.int v3), some (.int v4), some (va_rf x1), none]) dX8_trail_5 rfl (Nat.le_of_ble_eq_true rfl) rfl ?_
  refine mGo.aload (n := 9) (r := x1) dX8_trail_7 rfl rfl ?_
  refine mGo.ifnull (tgt := 21) (n := 12) dX8_trail_9 (by decide) rfl (fun hc => ?_) (fun hc => ?_)
  · replace e := mIft hc e
    refine mGo.iconst (n := 22) (v := (-1 : Int32)) dX8_trail_21 (by decide) rfl ?_
    cases e
    exact mGo.iret dX8_trail_22 rfl (Nat.le_of_ble_eq_true rfl) (Nat.le_of_ble_eq_true rfl) q
  · replace e := mIff hc e
    refine mGo.aload (n := 14) (r := x1) dX8_trail_12 rfl rfl ?_
    refine mGo.iload_n (n := 15) (x := v3) dX8_trail_14 rfl rfl ?_
    obtain ⟨x2, e_x2, e⟩ := mBind e
    refine mGo.callV (n := 18) (y := zX7_has) (R' := (mRoom (1) 0 0)) (as := [.int v3]) (st := []) (r0 := x1) dX8_trail_15 sc_RX8_150 rfl (s_X7_has x1 v3 h e_x2) (e_X7_has x1 v3 h e_x2) (mFit_of rfl (Nat.le_of_ble_eq_true rfl) (by decide) (Nat.le_of_ble_eq_true rfl) (Nat.le_of_ble_eq_true rfl)) (Nat.le_of_ble_eq_true rfl) rfl rfl ?_
    intro _ _ hq
    rw [hq.1, hq.2]
    show mGo w kX8_trail 0 0 18 [some (va_rf v0), some (.int v1), some (.int v2), some (.int v3), some (.int v4), some (va_rf x1), none] [.int x2] h Q
    refine mGo.if_ne (tgt := 23) (n := 21) dX8_trail_18 (by decide) rfl (fun hc => ?_) (fun hc => ?_)
    · replace e := mIff hc e
      refine mGo.iload_n (n := 24) (x := v2) dX8_trail_23 rfl rfl ?_
      refine mGo.if_eq (tgt := 37) (n := 27) dX8_trail_24 (by decide) rfl (fun hc => ?_) (fun hc => ?_)
      · replace e := mIft hc e
        refine mGo.aload (n := 39) (r := x1) dX8_trail_37 rfl rfl ?_
        obtain ⟨x3, e_x3, e⟩ := mBind e
        refine mGo.getR (n := 42) dX8_trail_39 sf_RX8_178 e_x3 rfl ?_
        refine mGo.iload_n (n := 43) (x := v3) dX8_trail_42 rfl rfl ?_
        obtain ⟨x4, e_x4, e⟩ := mBind e
        refine mGo.iald (n := 44) dX8_trail_43 e_x4 rfl ?_
        refine mGo.mk [false, false, true, false, true, true, false] ?_
        exact g_X8_trail_c44 v2 v4 x1 x4 h e q
      · replace e := mIff hc e
        refine mGo.aload (n := 29) (r := x1) dX8_trail_27 rfl rfl ?_
        obtain ⟨x5, e_x5, e⟩ := mBind e
        refine mGo.getR (n := 32) dX8_trail_29 sf_RX8_175 e_x5 rfl ?_
        refine mGo.iload_n (n := 33) (x := v3) dX8_trail_32 rfl rfl ?_
        obtain ⟨x6, e_x6, e⟩ := mBind e
        refine mGo.iald (n := 34) dX8_trail_33 e_x6 rfl ?_
        refine mGo.goto (tgt := 44) dX8_trail_34 (by decide) ?_
        refine mGo.mk [false, false, true, false, true, true, false] ?_
        exact g_X8_trail_c44 v2 v4 x1 x6 h e q
    · replace e := mIft hc e
      refine mGo.iconst (n := 22) (v := (-1 : Int32)) dX8_trail_21 (by decide) rfl ?_
      cases e
      exact mGo.iret dX8_trail_22 rfl (Nat.le_of_ble_eq_true rfl) (Nat.le_of_ble_eq_true rfl) q
theorem e_X8_trail {w : mWp} (v0 : Option Nat) (v1 : Int32) (v2 : Int32) (v3 : Int32) (v4 : Int32) (h : mH) {res : Int32} (e : f_X8_trail v0 v1 v2 v3 v4 h = some res) : mEx w zX8_trail (mRoom 2 0 0) [va_rf v0, .int v1, .int v2, .int v3, .int v4] h (fun r h2 => r = some (.int res) ∧ h2 = h) := by
  refine mEx.of (by decide +kernel) (show mEnt [va_rf v0, .int v1, .int v2, .int v3, .int v4] 7 = [some (va_rf v0), some (.int v1), some (.int v2), some (.int v3), some (.int v4), none, none] by rw [mEnt_r, mEnt_i, mEnt_i, mEnt_i, mEnt_i] <;> rfl) (by simp only [List.map_cons, List.map_nil, mRfc, mCi, mCj, List.sum_cons, List.sum_nil]; exact Nat.le_of_ble_eq_true rfl) ?_
  refine g_X8_trail v0 v1 v2 v3 v4 h e ?_
  exact ⟨rfl, rfl⟩
theorem s_X8_trail (v0 : Option Nat) (v1 : Int32) (v2 : Int32) (v3 : Int32) (v4 : Int32) (h : mH) {res : Int32} (e : f_X8_trail v0 v1 v2 v3 v4 h = some res) : mIs h v0 7 = some () := by
  unfold f_X8_trail at e
  obtain ⟨u, e1, _⟩ := mBind e
  cases u
  exact e1
-- X8_along
def kX8_along : mK := (cX8_along, RX8, 6, some (.int), "along", mRoom 3 0 0)
def zX8_along : mY := (yX8_along, cX8_along, 6, some (.int))
set_option maxRecDepth 100000 in
theorem sc_RX8_185 : mSS RX8 185 zX8_signSum 2 := ⟨Or.inl (mT_at 523 (by decide +kernel) rfl), mT_at 433 (by decide +kernel) rfl, mT_at 83 (by decide +kernel) rfl, mT_at 434 (by decide +kernel) rfl, ⟨by decide +kernel, by decide +kernel, by decide +kernel⟩⟩
noncomputable def f_X8_along (v0 : Option Nat) (v1 : Int32) (v2 : Int32) (v3 : Int32) (v4 : Int32) (h : mH) : Option (Int32) :=
  (mIs h v0 7).bind fun _ =>
  (f_X8_tableAt v0 v1 h).bind fun x1 =>
  if x1 = none then
    some (-1000 : Int32)
  else
    (f_X7_has x1 v3 h).bind fun x2 =>
    if x2 = 0 then
      some (-1000 : Int32)
    else
      (f_X7_has x1 v4 h).bind fun x3 =>
      if x3 = 0 then
        some (-1000 : Int32)
      else
        (f_X7_line x1 v2 v3 h).bind fun x4 =>
        (f_X7_line x1 v2 v4 h).bind fun x5 =>
        (mGI h x1 6 0).bind fun x6 =>
        (f_X8_signSum (x4 ^^^ x5) x6).bind fun x7 =>
        some x7
set_option maxRecDepth 100000 in
set_option maxHeartbeats 4000000 in
theorem g_X8_along {w : mWp} {Q : Option Value → mH → Prop} (v0 : Option Nat) (v1 : Int32) (v2 : Int32) (v3 : Int32) (v4 : Int32) (h : mH) {res : Int32} (e : f_X8_along v0 v1 v2 v3 v4 h = some res) (q : (fun r : Int32 => Q (some (.int r)) h) res) : mGo w kX8_along 0 0 0 [some (va_rf v0), some (.int v1), some (.int v2), some (.int v3), some (.int v4), none] [] h Q := by
  unfold f_X8_along at e
  obtain ⟨_, _, e⟩ := mBind e
  refine mGo.aload_n (n := 1) (r := v0) dX8_along_0 rfl rfl ?_
  refine mGo.iload_n (n := 2) (x := v1) dX8_along_1 rfl rfl ?_
  obtain ⟨x1, e_x1, e⟩ := mBind e
  refine mGo.callV (n := 5) (y := zX8_tableAt) (R' := (mRoom (1) 0 0)) (as := [.int v1]) (st := []) (r0 := v0) dX8_along_2 sc_RX8_118 rfl (s_X8_tableAt v0 v1 h e_x1) (e_X8_tableAt v0 v1 h e_x1) (mFit_of rfl (Nat.le_of_ble_eq_true rfl) (by decide) (Nat.le_of_ble_eq_true rfl) (Nat.le_of_ble_eq_true rfl)) (Nat.le_of_ble_eq_true rfl) rfl rfl ?_
  intro _ _ hq
  rw [hq.1, hq.2]
  show mGo w kX8_along 0 0 5 [some (va_rf v0), some (.int v1), some (.int v2), some (.int v3), some (.int v4), none] [va_rf x1] h Q
  refine mGo.astore (n := 7) (ls' := [some (va_rf v0), some (.int v1), some (.int v2), some (.int v3), some (.int v4), some (va_rf x1)]) dX8_along_5 rfl (Nat.le_of_ble_eq_true rfl) rfl ?_
  refine mGo.aload (n := 9) (r := x1) dX8_along_7 rfl rfl ?_
  refine mGo.ifnull (tgt := 31) (n := 12) dX8_along_9 (by decide) rfl (fun hc => ?_) (fun hc => ?_)
  · replace e := mIft hc e
    refine mGo.sipush (n := 34) (v := (-1000 : Int32)) dX8_along_31 (by decide) rfl ?_
    cases e
    exact mGo.iret dX8_along_34 rfl (Nat.le_of_ble_eq_true rfl) (Nat.le_of_ble_eq_true rfl) q
  · replace e := mIff hc e
    refine mGo.aload (n := 14) (r := x1) dX8_along_12 rfl rfl ?_
    refine mGo.iload_n (n := 15) (x := v3) dX8_along_14 rfl rfl ?_
    obtain ⟨x2, e_x2, e⟩ := mBind e
    refine mGo.callV (n := 18) (y := zX7_has) (R' := (mRoom (1) 0 0)) (as := [.int v3]) (st := []) (r0 := x1) dX8_along_15 sc_RX8_150 rfl (s_X7_has x1 v3 h e_x2) (e_X7_has x1 v3 h e_x2) (mFit_of rfl (Nat.le_of_ble_eq_true rfl) (by decide) (Nat.le_of_ble_eq_true rfl) (Nat.le_of_ble_eq_true rfl)) (Nat.le_of_ble_eq_true rfl) rfl rfl ?_
    intro _ _ hq
    rw [hq.1, hq.2]
    show mGo w kX8_along 0 0 18 [some (va_rf v0), some (.int v1), some (.int v2), some (.int v3), some (.int v4), some (va_rf x1)] [.int x2] h Q
    refine mGo.if_eq (tgt := 31) (n := 21) dX8_along_18 (by decide) rfl (fun hc => ?_) (fun hc => ?_)
    · replace e := mIft hc e
      refine mGo.sipush (n := 34) (v := (-1000 : Int32)) dX8_along_31 (by decide) rfl ?_
      cases e
      exact mGo.iret dX8_along_34 rfl (Nat.le_of_ble_eq_true rfl) (Nat.le_of_ble_eq_true rfl) q
    · replace e := mIff hc e
      refine mGo.aload (n := 23) (r := x1) dX8_along_21 rfl rfl ?_
      refine mGo.iload (n := 25) (x := v4) dX8_along_23 rfl rfl ?_
      obtain ⟨x3, e_x3, e⟩ := mBind e
      refine mGo.callV (n := 28) (y := zX7_has) (R' := (mRoom (1) 0 0)) (as := [.int v4]) (st := []) (r0 := x1) dX8_along_25 sc_RX8_150 rfl (s_X7_has x1 v4 h e_x3) (e_X7_has x1 v4 h e_x3) (mFit_of rfl (Nat.le_of_ble_eq_true rfl) (by decide) (Nat.le_of_ble_eq_true rfl) (Nat.le_of_ble_eq_true rfl)) (Nat.le_of_ble_eq_true rfl) rfl rfl ?_
      intro _ _ hq
      rw [hq.1, hq.2]
      show mGo w kX8_along 0 0 28 [some (va_rf v0), some (.int v1), some (.int v2), some (.int v3), some (.int v4), some (va_rf x1)] [.int x3] h Q
      refine mGo.if_ne (tgt := 35) (n := 31) dX8_along_28 (by decide) rfl (fun hc => ?_) (fun hc => ?_)
      · replace e := mIff hc e
        refine mGo.aload (n := 37) (r := x1) dX8_along_35 rfl rfl ?_
        refine mGo.iload_n (n := 38) (x := v2) dX8_along_37 rfl rfl ?_
        refine mGo.iload_n (n := 39) (x := v3) dX8_along_38 rfl rfl ?_
        obtain ⟨x4, e_x4, e⟩ := mBind e
        refine mGo.callV (n := 42) (y := zX7_line) (R' := (mRoom (1) 0 0)) (as := [.int v2, .int v3]) (st := []) (r0 := x1) dX8_along_39 sc_RX8_171 rfl (s_X7_line x1 v2 v3 h e_x4) (e_X7_line x1 v2 v3 h e_x4) (mFit_of rfl (Nat.le_of_ble_eq_true rfl) (by decide) (Nat.le_of_ble_eq_true rfl) (Nat.le_of_ble_eq_true rfl)) (Nat.le_of_ble_eq_true rfl) rfl rfl ?_
        intro _ _ hq
        rw [hq.1, hq.2]
        show mGo w kX8_along 0 0 42 [some (va_rf v0), some (.int v1), some (.int v2), some (.int v3), some (.int v4), some (va_rf x1)] [.int x4] h Q
        refine mGo.aload (n := 44) (r := x1) dX8_along_42 rfl rfl ?_
        refine mGo.iload_n (n := 45) (x := v2) dX8_along_44 rfl rfl ?_
        refine mGo.iload (n := 47) (x := v4) dX8_along_45 rfl rfl ?_
        obtain ⟨x5, e_x5, e⟩ := mBind e
        refine mGo.callV (n := 50) (y := zX7_line) (R' := (mRoom (1) 0 0)) (as := [.int v2, .int v4]) (st := [.int x4]) (r0 := x1) dX8_along_47 sc_RX8_171 rfl (s_X7_line x1 v2 v4 h e_x5) (e_X7_line x1 v2 v4 h e_x5) (mFit_of rfl (Nat.le_of_ble_eq_true rfl) (by decide) (Nat.le_of_ble_eq_true rfl) (Nat.le_of_ble_eq_true rfl)) (Nat.le_of_ble_eq_true rfl) rfl rfl ?_
        intro _ _ hq
        rw [hq.1, hq.2]
        show mGo w kX8_along 0 0 50 [some (va_rf v0), some (.int v1), some (.int v2), some (.int v3), some (.int v4), some (va_rf x1)] [.int x5, .int x4] h Q
        refine mGo.ixor (n := 51) dX8_along_50 rfl ?_
        refine mGo.aload (n := 53) (r := x1) dX8_along_51 rfl rfl ?_
        obtain ⟨x6, e_x6, e⟩ := mBind e
        refine mGo.getI (n := 56) dX8_along_53 sf_RX8_122 e_x6 rfl ?_
        obtain ⟨x7, e_x7, e⟩ := mBind e
        refine mGo.callS (n := 59) (y := zX8_signSum) (R' := (mRoom (2) 0 0)) (as := [.int (x4 ^^^ x5), .int x6]) (st := []) dX8_along_56 sc_RX8_185 rfl (e_X8_signSum (x4 ^^^ x5) x6 h e_x7) (mFit_of rfl (Nat.le_of_ble_eq_true rfl) (by decide) (Nat.le_of_ble_eq_true rfl) (Nat.le_of_ble_eq_true rfl)) (Nat.le_of_ble_eq_true rfl) rfl rfl ?_
        intro _ _ hq
        rw [hq.1, hq.2]
        show mGo w kX8_along 0 0 59 [some (va_rf v0), some (.int v1), some (.int v2), some (.int v3), some (.int v4), some (va_rf x1)] [.int x7] h Q
        cases e
        exact mGo.iret dX8_along_59 rfl (Nat.le_of_ble_eq_true rfl) (Nat.le_of_ble_eq_true rfl) q
      · replace e := mIft hc e
        refine mGo.sipush (n := 34) (v := (-1000 : Int32)) dX8_along_31 (by decide) rfl ?_
        cases e
        exact mGo.iret dX8_along_34 rfl (Nat.le_of_ble_eq_true rfl) (Nat.le_of_ble_eq_true rfl) q
theorem e_X8_along {w : mWp} (v0 : Option Nat) (v1 : Int32) (v2 : Int32) (v3 : Int32) (v4 : Int32) (h : mH) {res : Int32} (e : f_X8_along v0 v1 v2 v3 v4 h = some res) : mEx w zX8_along (mRoom 3 0 0) [va_rf v0, .int v1, .int v2, .int v3, .int v4] h (fun r h2 => r = some (.int res) ∧ h2 = h) := by
  refine mEx.of (by decide +kernel) (show mEnt [va_rf v0, .int v1, .int v2, .int v3, .int v4] 6 = [some (va_rf v0), some (.int v1), some (.int v2), some (.int v3), some (.int v4), none] by rw [mEnt_r, mEnt_i, mEnt_i, mEnt_i, mEnt_i] <;> rfl) (by simp only [List.map_cons, List.map_nil, mRfc, mCi, mCj, List.sum_cons, List.sum_nil]; exact Nat.le_of_ble_eq_true rfl) ?_
  refine g_X8_along v0 v1 v2 v3 v4 h e ?_
  exact ⟨rfl, rfl⟩
theorem s_X8_along (v0 : Option Nat) (v1 : Int32) (v2 : Int32) (v3 : Int32) (v4 : Int32) (h : mH) {res : Int32} (e : f_X8_along v0 v1 v2 v3 v4 h = some res) : mIs h v0 7 = some () := by
  unfold f_X8_along at e
  obtain ⟨u, e1, _⟩ := mBind e
  cases u
  exact e1
-- X8_perpendicular
def kX8_perpendicular : mK := (cX8_perpendicular, RX8, 4, some (.int), "perpendicular", mRoom 4 0 0)
def zX8_perpendicular : mY := (yX8_perpendicular, cX8_perpendicular, 4, some (.int))
set_option maxRecDepth 100000 in
theorem sc_RX8_189 : mSV RX8 189 zX7_firstSlantPair 0 6 := ⟨Or.inr ⟨_, mNest_at 446 (x := Cond.methodLinkNest RX8 189 yX7_firstSlantPair "SignTables") (by decide +kernel) rfl⟩, mT_at 530 (by decide +kernel) rfl, mT_at 17 (by decide +kernel) rfl, mT_at 84 (by decide +kernel) rfl, mT_at 531 (by decide +kernel) rfl, ⟨by decide +kernel, by decide +kernel, by decide +kernel⟩, by decide, rfl⟩
set_option maxRecDepth 100000 in
theorem sc_RX8_192 : mSV RX8 192 zX7_countSlantPairs 0 6 := ⟨Or.inr ⟨_, mNest_at 450 (x := Cond.methodLinkNest RX8 192 yX7_countSlantPairs "SignTables") (by decide +kernel) rfl⟩, mT_at 534 (by decide +kernel) rfl, mT_at 18 (by decide +kernel) rfl, mT_at 84 (by decide +kernel) rfl, mT_at 535 (by decide +kernel) rfl, ⟨by decide +kernel, by decide +kernel, by decide +kernel⟩, by decide, rfl⟩
noncomputable def f_X8_perpendicular (v0 : Option Nat) (v1 : Int32) (v2 : Int32) (h : mH) : Option (Int32) :=
  (mIs h v0 7).bind fun _ =>
  (f_X8_tableAt v0 v1 h).bind fun x1 =>
  if x1 = none then
    some (-1 : Int32)
  else
    if v2 = 0 then
      (f_X7_firstSlantPair x1 h).bind fun x3 =>
      if x3 = (-2 : Int32) then
        some (1 : Int32)
      else
        some (0 : Int32)
    else
    if v2 = 1 then
      (f_X7_firstSlantPair x1 h).bind fun x5 =>
      some x5
    else
    if v2 = 2 then
      (f_X7_countSlantPairs x1 h).bind fun x7 =>
      some x7
    else
    some (-1 : Int32)
set_option maxRecDepth 100000 in
set_option maxHeartbeats 4000000 in
theorem g_X8_perpendicular {w : mWp} {Q : Option Value → mH → Prop} (v0 : Option Nat) (v1 : Int32) (v2 : Int32) (h : mH) {res : Int32} (e : f_X8_perpendicular v0 v1 v2 h = some res) (q : (fun r : Int32 => Q (some (.int r)) h) res) : mGo w kX8_perpendicular 0 0 0 [some (va_rf v0), some (.int v1), some (.int v2), none] [] h Q := by
  unfold f_X8_perpendicular at e
  obtain ⟨_, _, e⟩ := mBind e
  refine mGo.aload_n (n := 1) (r := v0) dX8_perpendicular_0 rfl rfl ?_
  refine mGo.iload_n (n := 2) (x := v1) dX8_perpendicular_1 rfl rfl ?_
  obtain ⟨x1, e_x1, e⟩ := mBind e
  refine mGo.callV (n := 5) (y := zX8_tableAt) (R' := (mRoom (1) 0 0)) (as := [.int v1]) (st := []) (r0 := v0) dX8_perpendicular_2 sc_RX8_118 rfl (s_X8_tableAt v0 v1 h e_x1) (e_X8_tableAt v0 v1 h e_x1) (mFit_of rfl (Nat.le_of_ble_eq_true rfl) (by decide) (Nat.le_of_ble_eq_true rfl) (Nat.le_of_ble_eq_true rfl)) (Nat.le_of_ble_eq_true rfl) rfl rfl ?_
  intro _ _ hq
  rw [hq.1, hq.2]
  show mGo w kX8_perpendicular 0 0 5 [some (va_rf v0), some (.int v1), some (.int v2), none] [va_rf x1] h Q
  refine mGo.astore_n (n := 6) (ls' := [some (va_rf v0), some (.int v1), some (.int v2), some (va_rf x1)]) dX8_perpendicular_5 rfl (Nat.le_of_ble_eq_true rfl) rfl ?_
  refine mGo.aload_n (n := 7) (r := x1) dX8_perpendicular_6 rfl rfl ?_
  refine mGo.ifnonnull (tgt := 12) (n := 10) dX8_perpendicular_7 (by decide) rfl (fun hc => ?_) (fun hc => ?_)
  · replace e := mIff hc e
    refine mGo.iload_n (n := 13) (x := v2) dX8_perpendicular_12 rfl rfl ?_
    by_cases hc2 : v2 = 0
    · replace e := mIft hc2 e
      refine mGo.tcase (v := 0) (tgt := 40) hc2 dX8_perpendicular_13 (by decide) (by decide) (off := 27) (by decide) (by decide) ?_
      refine mGo.aload_n (n := 41) (r := x1) dX8_perpendicular_40 rfl rfl ?_
      obtain ⟨x3, e_x3, e⟩ := mBind e
      refine mGo.callV (n := 44) (y := zX7_firstSlantPair) (R' := (mRoom (3) 0 0)) (as := []) (st := []) (r0 := x1) dX8_perpendicular_41 sc_RX8_189 rfl (s_X7_firstSlantPair x1 h e_x3) (e_X7_firstSlantPair x1 h e_x3) (mFit_of rfl (Nat.le_of_ble_eq_true rfl) (by decide) (Nat.le_of_ble_eq_true rfl) (Nat.le_of_ble_eq_true rfl)) (Nat.le_of_ble_eq_true rfl) rfl rfl ?_
      intro _ _ hq
      rw [hq.1, hq.2]
      show mGo w kX8_perpendicular 0 0 44 [some (va_rf v0), some (.int v1), some (.int v2), some (va_rf x1)] [.int x3] h Q
      refine mGo.bipush (n := 46) (v := (-2 : Int32)) dX8_perpendicular_44 (by decide) rfl ?_
      refine mGo.icmp_ne (tgt := 53) (n := 49) dX8_perpendicular_46 (by decide) rfl (fun hc => ?_) (fun hc => ?_)
      · replace e := mIff hc e
        refine mGo.iconst (n := 54) (v := (0 : Int32)) dX8_perpendicular_53 (by decide) rfl ?_
        cases e
        exact mGo.iret dX8_perpendicular_54 rfl (Nat.le_of_ble_eq_true rfl) (Nat.le_of_ble_eq_true rfl) q
      · replace e := mIft hc e
        refine mGo.iconst (n := 50) (v := (1 : Int32)) dX8_perpendicular_49 (by decide) rfl ?_
        refine mGo.goto (tgt := 54) dX8_perpendicular_50 (by decide) ?_
        cases e
        exact mGo.iret dX8_perpendicular_54 rfl (Nat.le_of_ble_eq_true rfl) (Nat.le_of_ble_eq_true rfl) q
    replace e := mIff hc2 e
    by_cases hc4 : v2 = 1
    · replace e := mIft hc4 e
      refine mGo.tcase (v := 1) (tgt := 55) hc4 dX8_perpendicular_13 (by decide) (by decide) (off := 42) (by decide) (by decide) ?_
      refine mGo.aload_n (n := 56) (r := x1) dX8_perpendicular_55 rfl rfl ?_
      obtain ⟨x5, e_x5, e⟩ := mBind e
      refine mGo.callV (n := 59) (y := zX7_firstSlantPair) (R' := (mRoom (3) 0 0)) (as := []) (st := []) (r0 := x1) dX8_perpendicular_56 sc_RX8_189 rfl (s_X7_firstSlantPair x1 h e_x5) (e_X7_firstSlantPair x1 h e_x5) (mFit_of rfl (Nat.le_of_ble_eq_true rfl) (by decide) (Nat.le_of_ble_eq_true rfl) (Nat.le_of_ble_eq_true rfl)) (Nat.le_of_ble_eq_true rfl) rfl rfl ?_
      intro _ _ hq
      rw [hq.1, hq.2]
      show mGo w kX8_perpendicular 0 0 59 [some (va_rf v0), some (.int v1), some (.int v2), some (va_rf x1)] [.int x5] h Q
      cases e
      exact mGo.iret dX8_perpendicular_59 rfl (Nat.le_of_ble_eq_true rfl) (Nat.le_of_ble_eq_true rfl) q
    replace e := mIff hc4 e
    by_cases hc6 : v2 = 2
    · replace e := mIft hc6 e
      refine mGo.tcase (v := 2) (tgt := 60) hc6 dX8_perpendicular_13 (by decide) (by decide) (off := 47) (by decide) (by decide) ?_
      refine mGo.aload_n (n := 61) (r := x1) dX8_perpendicular_60 rfl rfl ?_
      obtain ⟨x7, e_x7, e⟩ := mBind e
      refine mGo.callV (n := 64) (y := zX7_countSlantPairs) (R' := (mRoom (3) 0 0)) (as := []) (st := []) (r0 := x1) dX8_perpendicular_61 sc_RX8_192 rfl (s_X7_countSlantPairs x1 h e_x7) (e_X7_countSlantPairs x1 h e_x7) (mFit_of rfl (Nat.le_of_ble_eq_true rfl) (by decide) (Nat.le_of_ble_eq_true rfl) (Nat.le_of_ble_eq_true rfl)) (Nat.le_of_ble_eq_true rfl) rfl rfl ?_
      intro _ _ hq
      rw [hq.1, hq.2]
      show mGo w kX8_perpendicular 0 0 64 [some (va_rf v0), some (.int v1), some (.int v2), some (va_rf x1)] [.int x7] h Q
      cases e
      exact mGo.iret dX8_perpendicular_64 rfl (Nat.le_of_ble_eq_true rfl) (Nat.le_of_ble_eq_true rfl) q
    replace e := mIff hc6 e
    refine mGo.tdef (tgt := 65) [0, 1, 2] dX8_perpendicular_13 (List.forall_mem_cons.mpr ⟨hc2, (List.forall_mem_cons.mpr ⟨hc4, (List.forall_mem_cons.mpr ⟨hc6, (fun _ hm => absurd hm List.not_mem_nil)⟩)⟩)⟩) (by decide) (by decide +kernel) (by decide) ?_
    refine mGo.iconst (n := 66) (v := (-1 : Int32)) dX8_perpendicular_65 (by decide) rfl ?_
    cases e
    exact mGo.iret dX8_perpendicular_66 rfl (Nat.le_of_ble_eq_true rfl) (Nat.le_of_ble_eq_true rfl) q
  · replace e := mIft hc e
    refine mGo.iconst (n := 11) (v := (-1 : Int32)) dX8_perpendicular_10 (by decide) rfl ?_
    cases e
    exact mGo.iret dX8_perpendicular_11 rfl (Nat.le_of_ble_eq_true rfl) (Nat.le_of_ble_eq_true rfl) q
theorem e_X8_perpendicular {w : mWp} (v0 : Option Nat) (v1 : Int32) (v2 : Int32) (h : mH) {res : Int32} (e : f_X8_perpendicular v0 v1 v2 h = some res) : mEx w zX8_perpendicular (mRoom 4 0 0) [va_rf v0, .int v1, .int v2] h (fun r h2 => r = some (.int res) ∧ h2 = h) := by
  refine mEx.of (by decide +kernel) (show mEnt [va_rf v0, .int v1, .int v2] 4 = [some (va_rf v0), some (.int v1), some (.int v2), none] by rw [mEnt_r, mEnt_i, mEnt_i] <;> rfl) (by simp only [List.map_cons, List.map_nil, mRfc, mCi, mCj, List.sum_cons, List.sum_nil]; exact Nat.le_of_ble_eq_true rfl) ?_
  refine g_X8_perpendicular v0 v1 v2 h e ?_
  exact ⟨rfl, rfl⟩
theorem s_X8_perpendicular (v0 : Option Nat) (v1 : Int32) (v2 : Int32) (h : mH) {res : Int32} (e : f_X8_perpendicular v0 v1 v2 h = some res) : mIs h v0 7 = some () := by
  unfold f_X8_perpendicular at e
  obtain ⟨u, e1, _⟩ := mBind e
  cases u
  exact e1
-- X8_sum
def kX8_sum : mK := (cX8_sum, RX8, 5, some (.int), "sum", mRoom 3 0 0)
def zX8_sum : mY := (yX8_sum, cX8_sum, 5, some (.int))
def f_X8_sum_b19 (v2 : Option Nat) (v3 : Int32) (v4 : Int32) (h : mH) : Option ((Int32 × Int32) ⊕ (Int32)) :=
  (mGI h v2 6 0).bind fun x1 =>
  if x1 ≤ v4 then
    some (Sum.inr v3)
  else
    (mGR h v2 6 1).bind fun x2 =>
    (mAI h x2 v4).bind fun x3 =>
    (mGI h v2 6 0).bind fun x4 =>
    (f_X8_signSum x3 x4).bind fun x5 =>
    some (Sum.inl ((v3 + x5), (v4 + 1)))
set_option maxRecDepth 100000 in
set_option maxHeartbeats 4000000 in
theorem g_X8_sum_b19 {w : mWp} {Q : Option Value → mH → Prop} (v2 : Option Nat) (v3 : Int32) (v4 : Int32) (h : mH) {res : (Int32 × Int32) ⊕ (Int32)} (e : f_X8_sum_b19 v2 v3 v4 h = some res) (q : (Sum.elim (fun x : Int32 × Int32 => mGo w kX8_sum 0 0 19 [none, none, some (va_rf v2), some (.int x.1), some (.int x.2)] [] h Q) (fun r : Int32 => Q (some (.int r)) h)) res) : mGo w kX8_sum 0 0 19 [none, none, some (va_rf v2), some (.int v3), some (.int v4)] [] h Q := by
  unfold f_X8_sum_b19 at e
  refine mGo.iload (n := 21) (x := v4) dX8_sum_19 rfl rfl ?_
  refine mGo.aload_n (n := 22) (r := v2) dX8_sum_21 rfl rfl ?_
  obtain ⟨x1, e_x1, e⟩ := mBind e
  refine mGo.getI (n := 25) dX8_sum_22 sf_RX8_122 e_x1 rfl ?_
  refine mGo.icmp_ge (tgt := 51) (n := 28) dX8_sum_25 (by decide) rfl (fun hc => ?_) (fun hc => ?_)
  · replace e := mIft hc e
    refine mGo.iload_n (n := 52) (x := v3) dX8_sum_51 rfl rfl ?_
    cases e
    exact mGo.iret dX8_sum_52 rfl (Nat.le_of_ble_eq_true rfl) (Nat.le_of_ble_eq_true rfl) q
  · replace e := mIff hc e
    refine mGo.iload_n (n := 29) (x := v3) dX8_sum_28 rfl rfl ?_
    refine mGo.aload_n (n := 30) (r := v2) dX8_sum_29 rfl rfl ?_
    obtain ⟨x2, e_x2, e⟩ := mBind e
    refine mGo.getR (n := 33) dX8_sum_30 sf_RX8_125 e_x2 rfl ?_
    refine mGo.iload (n := 35) (x := v4) dX8_sum_33 rfl rfl ?_
    obtain ⟨x3, e_x3, e⟩ := mBind e
    refine mGo.iald (n := 36) dX8_sum_35 e_x3 rfl ?_
    refine mGo.aload_n (n := 37) (r := v2) dX8_sum_36 rfl rfl ?_
    obtain ⟨x4, e_x4, e⟩ := mBind e
    refine mGo.getI (n := 40) dX8_sum_37 sf_RX8_122 e_x4 rfl ?_
    obtain ⟨x5, e_x5, e⟩ := mBind e
    refine mGo.callS (n := 43) (y := zX8_signSum) (R' := (mRoom (2) 0 0)) (as := [.int x3, .int x4]) (st := [.int v3]) dX8_sum_40 sc_RX8_185 rfl (e_X8_signSum x3 x4 h e_x5) (mFit_of rfl (Nat.le_of_ble_eq_true rfl) (by decide) (Nat.le_of_ble_eq_true rfl) (Nat.le_of_ble_eq_true rfl)) (Nat.le_of_ble_eq_true rfl) rfl rfl ?_
    intro _ _ hq
    rw [hq.1, hq.2]
    show mGo w kX8_sum 0 0 43 [none, none, some (va_rf v2), some (.int v3), some (.int v4)] [.int x5, .int v3] h Q
    refine mGo.iadd (n := 44) dX8_sum_43 rfl ?_
    refine mGo.istore_n (n := 45) (ls' := [none, none, some (va_rf v2), some (.int (v3 + x5)), some (.int v4)]) dX8_sum_44 ((mSt_set (fun u _ hu => by cases hu; exact mRfc _)).trans rfl) (Nat.le_of_ble_eq_true rfl) rfl ?_
    refine mGo.iinc (n := 48) (x := v4) (v := (v4 + 1)) (ls' := [none, none, some (va_rf v2), some (.int (v3 + x5)), some (.int (v4 + 1))]) dX8_sum_45 rfl rfl rfl (Nat.le_of_ble_eq_true rfl) rfl ?_
    refine mGo.goto (tgt := 19) dX8_sum_48 (by decide) ?_
    cases e
    refine mGo.mk [false, false, true, true, true] ?_
    exact q
noncomputable def f_X8_sum_l19 (v2 : Option Nat) (v3 : Int32) (v4 : Int32) (h : mH) : Option (Int32) :=
  mLoop (fun x : Int32 × Int32 => f_X8_sum_b19 v2 x.1 x.2 h) (v3, v4)
set_option maxRecDepth 100000 in
set_option maxHeartbeats 4000000 in
theorem g_X8_sum_l19 {w : mWp} {Q : Option Value → mH → Prop} (v2 : Option Nat) (v3 : Int32) (v4 : Int32) (h : mH) {res : Int32} (e : f_X8_sum_l19 v2 v3 v4 h = some res) (q : (fun r : Int32 => Q (some (.int r)) h) res) : mGo w kX8_sum 0 0 19 [none, none, some (va_rf v2), some (.int v3), some (.int v4)] [] h Q := by
  unfold f_X8_sum_l19 at e
  refine mLoop_go (x := (v3, v4)) (fun x : Int32 × Int32 => mGo w kX8_sum 0 0 19 [none, none, some (va_rf v2), some (.int x.1), some (.int x.2)] [] h Q) (fun r : Int32 => Q (some (.int r)) h) ?_ e q
  rintro ⟨v3, v4⟩ res e q
  exact g_X8_sum_b19 v2 v3 v4 h e q
noncomputable def f_X8_sum (v0 : Option Nat) (v1 : Int32) (h : mH) : Option (Int32) :=
  (mIs h v0 7).bind fun _ =>
  (f_X8_tableAt v0 v1 h).bind fun x1 =>
  if x1 = none then
    some (-1000 : Int32)
  else
    f_X8_sum_l19 x1 (0 : Int32) (0 : Int32) h
set_option maxRecDepth 100000 in
set_option maxHeartbeats 4000000 in
theorem g_X8_sum {w : mWp} {Q : Option Value → mH → Prop} (v0 : Option Nat) (v1 : Int32) (h : mH) {res : Int32} (e : f_X8_sum v0 v1 h = some res) (q : (fun r : Int32 => Q (some (.int r)) h) res) : mGo w kX8_sum 0 0 0 [some (va_rf v0), some (.int v1), none, none, none] [] h Q := by
  unfold f_X8_sum at e
  obtain ⟨_, _, e⟩ := mBind e
  refine mGo.aload_n (n := 1) (r := v0) dX8_sum_0 rfl rfl ?_
  refine mGo.iload_n (n := 2) (x := v1) dX8_sum_1 rfl rfl ?_
  obtain ⟨x1, e_x1, e⟩ := mBind e
  refine mGo.callV (n := 5) (y := zX8_tableAt) (R' := (mRoom (1) 0 0)) (as := [.int v1]) (st := []) (r0 := v0) dX8_sum_2 sc_RX8_118 rfl (s_X8_tableAt v0 v1 h e_x1) (e_X8_tableAt v0 v1 h e_x1) (mFit_of rfl (Nat.le_of_ble_eq_true rfl) (by decide) (Nat.le_of_ble_eq_true rfl) (Nat.le_of_ble_eq_true rfl)) (Nat.le_of_ble_eq_true rfl) rfl rfl ?_
  intro _ _ hq
  rw [hq.1, hq.2]
  show mGo w kX8_sum 0 0 5 [some (va_rf v0), some (.int v1), none, none, none] [va_rf x1] h Q
  refine mGo.astore_n (n := 6) (ls' := [some (va_rf v0), some (.int v1), some (va_rf x1), none, none]) dX8_sum_5 rfl (Nat.le_of_ble_eq_true rfl) rfl ?_
  refine mGo.aload_n (n := 7) (r := x1) dX8_sum_6 rfl rfl ?_
  refine mGo.ifnonnull (tgt := 14) (n := 10) dX8_sum_7 (by decide) rfl (fun hc => ?_) (fun hc => ?_)
  · replace e := mIff hc e
    refine mGo.iconst (n := 15) (v := (0 : Int32)) dX8_sum_14 (by decide) rfl ?_
    refine mGo.istore_n (n := 16) (ls' := [some (va_rf v0), some (.int v1), some (va_rf x1), some (.int (0 : Int32)), none]) dX8_sum_15 ((mSt_set (fun u _ hu => by cases hu; exact mRfc _)).trans rfl) (Nat.le_of_ble_eq_true rfl) rfl ?_
    refine mGo.iconst (n := 17) (v := (0 : Int32)) dX8_sum_16 (by decide) rfl ?_
    refine mGo.istore (n := 19) (ls' := [some (va_rf v0), some (.int v1), some (va_rf x1), some (.int (0 : Int32)), some (.int (0 : Int32))]) dX8_sum_17 rfl (Nat.le_of_ble_eq_true rfl) rfl ?_
    refine mGo.mk [false, false, true, true, true] ?_
    exact g_X8_sum_l19 x1 (0 : Int32) (0 : Int32) h e q
  · replace e := mIft hc e
    refine mGo.sipush (n := 13) (v := (-1000 : Int32)) dX8_sum_10 (by decide) rfl ?_
    cases e
    exact mGo.iret dX8_sum_13 rfl (Nat.le_of_ble_eq_true rfl) (Nat.le_of_ble_eq_true rfl) q
theorem e_X8_sum {w : mWp} (v0 : Option Nat) (v1 : Int32) (h : mH) {res : Int32} (e : f_X8_sum v0 v1 h = some res) : mEx w zX8_sum (mRoom 3 0 0) [va_rf v0, .int v1] h (fun r h2 => r = some (.int res) ∧ h2 = h) := by
  refine mEx.of (by decide +kernel) (show mEnt [va_rf v0, .int v1] 5 = [some (va_rf v0), some (.int v1), none, none, none] by rw [mEnt_r, mEnt_i] <;> rfl) (by simp only [List.map_cons, List.map_nil, mRfc, mCi, mCj, List.sum_cons, List.sum_nil]; exact Nat.le_of_ble_eq_true rfl) ?_
  refine g_X8_sum v0 v1 h e ?_
  exact ⟨rfl, rfl⟩
theorem s_X8_sum (v0 : Option Nat) (v1 : Int32) (h : mH) {res : Int32} (e : f_X8_sum v0 v1 h = some res) : mIs h v0 7 = some () := by
  unfold f_X8_sum at e
  obtain ⟨u, e1, _⟩ := mBind e
  cases u
  exact e1
-- X8_best
def kX8_best : mK := (cX8_best, RX8, 4, some (.int), "best", mRoom 5 0 0)
def zX8_best : mY := (yX8_best, cX8_best, 4, some (.int))
set_option maxRecDepth 100000 in
theorem sf_RX8_195 : mFld RX8 195 6 5 := ⟨by decide, by decide, Or.inr ⟨_, mNest_at 48 (x := Cond.fieldLinkNest RX8 195 (mCR 6) (mCT 6 5).2.1 (mCT 6 5).2.2.1 "SignTables") (by decide +kernel) rfl⟩⟩
set_option maxRecDepth 100000 in
theorem sc_RX8_198 : mSV RX8 198 zX6_climb 1 5 := ⟨Or.inr ⟨_, mNest_at 462 (x := Cond.methodLinkNest RX8 198 yX6_climb "SignTables") (by decide +kernel) rfl⟩, mT_at 546 (by decide +kernel) rfl, mT_at 19 (by decide +kernel) rfl, mT_at 88 (by decide +kernel) rfl, mT_at 547 (by decide +kernel) rfl, ⟨by decide +kernel, by decide +kernel, by decide +kernel⟩, by decide, rfl⟩
set_option maxRecDepth 100000 in
theorem sf_RX8_205 : mFld RX8 205 6 7 := ⟨by decide, by decide, Or.inr ⟨_, mNest_at 52 (x := Cond.fieldLinkNest RX8 205 (mCR 6) (mCT 6 7).2.1 (mCT 6 7).2.2.1 "SignTables") (by decide +kernel) rfl⟩⟩
set_option maxRecDepth 100000 in
theorem sf_RX8_202 : mFld RX8 202 6 6 := ⟨by decide, by decide, Or.inr ⟨_, mNest_at 50 (x := Cond.fieldLinkNest RX8 202 (mCR 6) (mCT 6 6).2.1 (mCT 6 6).2.2.1 "SignTables") (by decide +kernel) rfl⟩⟩
def f_X8_best_c48 (v2 : Int32) (v3 : Option Nat) (h : mH) : Option (Int32 × mH) :=
  if v2 = 0 then
    (mGI h v3 6 6).bind fun x2 =>
    some (x2, h)
  else
    (mGI h v3 6 7).bind fun x1 =>
    some (x1, h)
set_option maxRecDepth 100000 in
set_option maxHeartbeats 4000000 in
theorem g_X8_best_c48 {w : mWp} {Q : Option Value → mH → Prop} (v2 : Int32) (v3 : Option Nat) (h : mH) {res : Int32 × mH} (e : f_X8_best_c48 v2 v3 h = some res) (q : (fun r : Int32 × mH => Q (some (.int r.1)) r.2) res) : mGo w kX8_best 0 0 48 [none, none, some (.int v2), some (va_rf v3)] [] h Q := by
  unfold f_X8_best_c48 at e
  refine mGo.iload_n (n := 49) (x := v2) dX8_best_48 rfl rfl ?_
  refine mGo.if_ne (tgt := 59) (n := 52) dX8_best_49 (by decide) rfl (fun hc => ?_) (fun hc => ?_)
  · replace e := mIff hc e
    refine mGo.aload_n (n := 60) (r := v3) dX8_best_59 rfl rfl ?_
    obtain ⟨x1, e_x1, e⟩ := mBind e
    refine mGo.getI (n := 63) dX8_best_60 sf_RX8_205 e_x1 rfl ?_
    cases e
    exact mGo.iret dX8_best_63 rfl (Nat.le_of_ble_eq_true rfl) (Nat.le_of_ble_eq_true rfl) q
  · replace e := mIft hc e
    refine mGo.aload_n (n := 53) (r := v3) dX8_best_52 rfl rfl ?_
    obtain ⟨x2, e_x2, e⟩ := mBind e
    refine mGo.getI (n := 56) dX8_best_53 sf_RX8_202 e_x2 rfl ?_
    refine mGo.goto (tgt := 63) dX8_best_56 (by decide) ?_
    cases e
    exact mGo.iret dX8_best_63 rfl (Nat.le_of_ble_eq_true rfl) (Nat.le_of_ble_eq_true rfl) q
noncomputable def f_X8_best (v0 : Option Nat) (v1 : Int32) (v2 : Int32) (h : mH) : Option (Int32 × mH) :=
  (mIs h v0 7).bind fun _ =>
  (f_X8_tableAt v0 v1 h).bind fun x1 =>
  if x1 = none then
    some ((-1 : Int32), h)
  else
    if v2 < 0 then
      some ((-1 : Int32), h)
    else
      if v2 ≤ (1 : Int32) then
        (mGI h x1 6 0).bind fun x2 =>
        if x2 ≤ (16 : Int32) then
          (mGI h x1 6 5).bind fun x3 =>
          if x3 = 0 then
            (mGR h v0 7 8).bind fun x4 =>
            (f_X6_climb x4 x1 h).bind fun x5 =>
            f_X8_best_c48 v2 x1 x5
          else
            f_X8_best_c48 v2 x1 h
        else
          some ((-2 : Int32), h)
      else
        some ((-1 : Int32), h)
set_option maxRecDepth 100000 in
set_option maxHeartbeats 4000000 in
theorem g_X8_best {w : mWp} {Q : Option Value → mH → Prop} (v0 : Option Nat) (v1 : Int32) (v2 : Int32) (h : mH) {res : Int32 × mH} (e : f_X8_best v0 v1 v2 h = some res) (q : (fun r : Int32 × mH => Q (some (.int r.1)) r.2) res) : mGo w kX8_best 0 0 0 [some (va_rf v0), some (.int v1), some (.int v2), none] [] h Q := by
  unfold f_X8_best at e
  obtain ⟨_, _, e⟩ := mBind e
  refine mGo.aload_n (n := 1) (r := v0) dX8_best_0 rfl rfl ?_
  refine mGo.iload_n (n := 2) (x := v1) dX8_best_1 rfl rfl ?_
  obtain ⟨x1, e_x1, e⟩ := mBind e
  refine mGo.callV (n := 5) (y := zX8_tableAt) (R' := (mRoom (1) 0 0)) (as := [.int v1]) (st := []) (r0 := v0) dX8_best_2 sc_RX8_118 rfl (s_X8_tableAt v0 v1 h e_x1) (e_X8_tableAt v0 v1 h e_x1) (mFit_of rfl (Nat.le_of_ble_eq_true rfl) (by decide) (Nat.le_of_ble_eq_true rfl) (Nat.le_of_ble_eq_true rfl)) (Nat.le_of_ble_eq_true rfl) rfl rfl ?_
  intro _ _ hq
  rw [hq.1, hq.2]
  show mGo w kX8_best 0 0 5 [some (va_rf v0), some (.int v1), some (.int v2), none] [va_rf x1] h Q
  refine mGo.astore_n (n := 6) (ls' := [some (va_rf v0), some (.int v1), some (.int v2), some (va_rf x1)]) dX8_best_5 rfl (Nat.le_of_ble_eq_true rfl) rfl ?_
  refine mGo.aload_n (n := 7) (r := x1) dX8_best_6 rfl rfl ?_
  refine mGo.ifnull (tgt := 19) (n := 10) dX8_best_7 (by decide) rfl (fun hc => ?_) (fun hc => ?_)
  · replace e := mIft hc e
    refine mGo.iconst (n := 20) (v := (-1 : Int32)) dX8_best_19 (by decide) rfl ?_
    cases e
    exact mGo.iret dX8_best_20 rfl (Nat.le_of_ble_eq_true rfl) (Nat.le_of_ble_eq_true rfl) q
  · replace e := mIff hc e
    refine mGo.iload_n (n := 11) (x := v2) dX8_best_10 rfl rfl ?_
    refine mGo.if_lt (tgt := 19) (n := 14) dX8_best_11 (by decide) rfl (fun hc => ?_) (fun hc => ?_)
    · replace e := mIft hc e
      refine mGo.iconst (n := 20) (v := (-1 : Int32)) dX8_best_19 (by decide) rfl ?_
      cases e
      exact mGo.iret dX8_best_20 rfl (Nat.le_of_ble_eq_true rfl) (Nat.le_of_ble_eq_true rfl) q
    · replace e := mIff hc e
      refine mGo.iload_n (n := 15) (x := v2) dX8_best_14 rfl rfl ?_
      refine mGo.iconst (n := 16) (v := (1 : Int32)) dX8_best_15 (by decide) rfl ?_
      refine mGo.icmp_le (tgt := 21) (n := 19) dX8_best_16 (by decide) rfl (fun hc => ?_) (fun hc => ?_)
      · replace e := mIft hc e
        refine mGo.aload_n (n := 22) (r := x1) dX8_best_21 rfl rfl ?_
        obtain ⟨x2, e_x2, e⟩ := mBind e
        refine mGo.getI (n := 25) dX8_best_22 sf_RX8_122 e_x2 rfl ?_
        refine mGo.bipush (n := 27) (v := (16 : Int32)) dX8_best_25 (by decide) rfl ?_
        refine mGo.icmp_le (tgt := 33) (n := 30) dX8_best_27 (by decide) rfl (fun hc => ?_) (fun hc => ?_)
        · replace e := mIft hc e
          refine mGo.aload_n (n := 34) (r := x1) dX8_best_33 rfl rfl ?_
          obtain ⟨x3, e_x3, e⟩ := mBind e
          refine mGo.getI (n := 37) dX8_best_34 sf_RX8_195 e_x3 rfl ?_
          refine mGo.if_ne (tgt := 48) (n := 40) dX8_best_37 (by decide) rfl (fun hc => ?_) (fun hc => ?_)
          · replace e := mIff hc e
            refine mGo.mk [false, false, true, true] ?_
            exact g_X8_best_c48 v2 x1 h e q
          · replace e := mIft hc e
            refine mGo.aload_n (n := 41) (r := v0) dX8_best_40 rfl rfl ?_
            obtain ⟨x4, e_x4, e⟩ := mBind e
            refine mGo.getR (n := 44) dX8_best_41 sf_RX8_50 e_x4 rfl ?_
            refine mGo.aload_n (n := 45) (r := x1) dX8_best_44 rfl rfl ?_
            obtain ⟨x5, e_x5, e⟩ := mBind e
            refine mGo.callV (n := 48) (y := zX6_climb) (R' := (mRoom (4) 0 0)) (as := [va_rf x1]) (st := []) (r0 := x4) dX8_best_45 sc_RX8_198 rfl (s_X6_climb x4 x1 h e_x5) (e_X6_climb x4 x1 h e_x5) (mFit_of rfl (Nat.le_of_ble_eq_true rfl) (by decide) (Nat.le_of_ble_eq_true rfl) (Nat.le_of_ble_eq_true rfl)) (Nat.le_of_ble_eq_true rfl) rfl rfl ?_
            intro _ _ hq
            rw [hq.1, hq.2]
            show mGo w kX8_best 0 0 48 [some (va_rf v0), some (.int v1), some (.int v2), some (va_rf x1)] [] x5 Q
            refine mGo.mk [false, false, true, true] ?_
            exact g_X8_best_c48 v2 x1 x5 e q
        · replace e := mIff hc e
          refine mGo.bipush (n := 32) (v := (-2 : Int32)) dX8_best_30 (by decide) rfl ?_
          cases e
          exact mGo.iret dX8_best_32 rfl (Nat.le_of_ble_eq_true rfl) (Nat.le_of_ble_eq_true rfl) q
      · replace e := mIff hc e
        refine mGo.iconst (n := 20) (v := (-1 : Int32)) dX8_best_19 (by decide) rfl ?_
        cases e
        exact mGo.iret dX8_best_20 rfl (Nat.le_of_ble_eq_true rfl) (Nat.le_of_ble_eq_true rfl) q
theorem e_X8_best {w : mWp} (v0 : Option Nat) (v1 : Int32) (v2 : Int32) (h : mH) {res : Int32 × mH} (e : f_X8_best v0 v1 v2 h = some res) : mEx w zX8_best (mRoom 5 0 0) [va_rf v0, .int v1, .int v2] h (fun r h2 => r = some (.int res.1) ∧ h2 = res.2) := by
  refine mEx.of (by decide +kernel) (show mEnt [va_rf v0, .int v1, .int v2] 4 = [some (va_rf v0), some (.int v1), some (.int v2), none] by rw [mEnt_r, mEnt_i, mEnt_i] <;> rfl) (by simp only [List.map_cons, List.map_nil, mRfc, mCi, mCj, List.sum_cons, List.sum_nil]; exact Nat.le_of_ble_eq_true rfl) ?_
  refine g_X8_best v0 v1 v2 h e ?_
  exact ⟨rfl, rfl⟩
theorem s_X8_best (v0 : Option Nat) (v1 : Int32) (v2 : Int32) (h : mH) {res : Int32 × mH} (e : f_X8_best v0 v1 v2 h = some res) : mIs h v0 7 = some () := by
  unfold f_X8_best at e
  obtain ⟨u, e1, _⟩ := mBind e
  cases u
  exact e1
-- X8_countTriples
def kX8_countTriples : mK := (cX8_countTriples, RX8, 11, some (.int), "countTriples", mRoom 3 0 0)
def zX8_countTriples : mY := (yX8_countTriples, cX8_countTriples, 11, some (.int))
set_option maxRecDepth 100000 in
theorem sc_RX8_293 : mSS RX8 293 zJ9_abs_0f7a4 1 := ⟨Or.inl (mT_at 584 (by decide +kernel) rfl), mT_at 494 (by decide +kernel) rfl, mT_at 94 (by decide +kernel) rfl, mT_at 495 (by decide +kernel) rfl, ⟨by decide +kernel, by decide +kernel, by decide +kernel⟩⟩
def f_X8_countTriples_b56 (v0 : Option Nat) (v1 : Int32) (v3 : Int32) (v4 : Int32) (v5 : Int32) (v7 : Int32) (v8 : Int32) (v9 : Int32) (v6 : Int32) (v10 : Int32) (h : mH) : Option ((Int32 × Int32) ⊕ ((Int32 × Int32) ⊕ ((Int32 × Int32) ⊕ (Int32)))) :=
  if v1 ≤ v10 then
    some (Sum.inr (Sum.inl (v6, (v8 + 1))))
  else
    if v8 = v3 then
      some (Sum.inr (Sum.inl (v6, (v8 + 1))))
    else
      if v10 = v3 then
        some (Sum.inl (v6, (v10 + 1)))
      else
        (mGR h v0 7 4).bind fun x1 =>
        (mAI h x1 v10).bind fun x2 =>
        (f_X8_signSum (v9 ^^^ x2) v1).bind fun x3 =>
        (f_J9_abs_0f7a4 x3).bind fun x4 =>
        if x4 = v5 then
          some (Sum.inl ((v6 + 1), (v10 + 1)))
        else
          some (Sum.inl (v6, (v10 + 1)))
set_option maxRecDepth 100000 in
set_option maxHeartbeats 4000000 in
theorem g_X8_countTriples_b56 {w : mWp} {Q : Option Value → mH → Prop} (v0 : Option Nat) (v1 : Int32) (v3 : Int32) (v4 : Int32) (v5 : Int32) (v7 : Int32) (v8 : Int32) (v9 : Int32) (v6 : Int32) (v10 : Int32) (h : mH) {res : (Int32 × Int32) ⊕ ((Int32 × Int32) ⊕ ((Int32 × Int32) ⊕ (Int32)))} (e : f_X8_countTriples_b56 v0 v1 v3 v4 v5 v7 v8 v9 v6 v10 h = some res) (q : (Sum.elim (fun x : Int32 × Int32 => mGo w kX8_countTriples 0 0 56 [some (va_rf v0), some (.int v1), none, some (.int v3), some (.int v4), some (.int v5), some (.int x.1), some (.int v7), some (.int v8), some (.int v9), some (.int x.2)] [] h Q) (Sum.elim (fun x : Int32 × Int32 => mGo w kX8_countTriples 0 0 18 [some (va_rf v0), some (.int v1), none, some (.int v3), some (.int v4), some (.int v5), some (.int x.1), some (.int v7), some (.int x.2), none, none] [] h Q) (Sum.elim (fun x : Int32 × Int32 => mGo w kX8_countTriples 0 0 6 [some (va_rf v0), some (.int v1), none, some (.int v3), some (.int v4), some (.int v5), some (.int x.1), some (.int x.2), none, none, none] [] h Q) (fun r : Int32 => Q (some (.int r)) h)))) res) : mGo w kX8_countTriples 0 0 56 [some (va_rf v0), some (.int v1), none, some (.int v3), some (.int v4), some (.int v5), some (.int v6), some (.int v7), some (.int v8), some (.int v9), some (.int v10)] [] h Q := by
  unfold f_X8_countTriples_b56 at e
  refine mGo.iload (n := 58) (x := v10) dX8_countTriples_56 rfl rfl ?_
  refine mGo.iload_n (n := 59) (x := v1) dX8_countTriples_58 rfl rfl ?_
  refine mGo.icmp_ge (tgt := 105) (n := 62) dX8_countTriples_59 (by decide) rfl (fun hc => ?_) (fun hc => ?_)
  · replace e := mIft hc e
    refine mGo.iinc (n := 108) (x := v8) (v := (v8 + 1)) (ls' := [some (va_rf v0), some (.int v1), none, some (.int v3), some (.int v4), some (.int v5), some (.int v6), some (.int v7), some (.int (v8 + 1)), some (.int v9), some (.int v10)]) dX8_countTriples_105 rfl rfl rfl (Nat.le_of_ble_eq_true rfl) rfl ?_
    refine mGo.goto (tgt := 18) dX8_countTriples_108 (by decide) ?_
    cases e
    refine mGo.mk [true, true, false, true, true, true, true, true, true, false, false] ?_
    exact q
  · replace e := mIff hc e
    refine mGo.iload (n := 64) (x := v8) dX8_countTriples_62 rfl rfl ?_
    refine mGo.iload_n (n := 65) (x := v3) dX8_countTriples_64 rfl rfl ?_
    refine mGo.icmp_eq (tgt := 105) (n := 68) dX8_countTriples_65 (by decide) rfl (fun hc => ?_) (fun hc => ?_)
    · replace e := mIft hc e
      refine mGo.iinc (n := 108) (x := v8) (v := (v8 + 1)) (ls' := [some (va_rf v0), some (.int v1), none, some (.int v3), some (.int v4), some (.int v5), some (.int v6), some (.int v7), some (.int (v8 + 1)), some (.int v9), some (.int v10)]) dX8_countTriples_105 rfl rfl rfl (Nat.le_of_ble_eq_true rfl) rfl ?_
      refine mGo.goto (tgt := 18) dX8_countTriples_108 (by decide) ?_
      cases e
      refine mGo.mk [true, true, false, true, true, true, true, true, true, false, false] ?_
      exact q
    · replace e := mIff hc e
      refine mGo.iload (n := 70) (x := v10) dX8_countTriples_68 rfl rfl ?_
      refine mGo.iload_n (n := 71) (x := v3) dX8_countTriples_70 rfl rfl ?_
      refine mGo.icmp_eq (tgt := 99) (n := 74) dX8_countTriples_71 (by decide) rfl (fun hc => ?_) (fun hc => ?_)
      · replace e := mIft hc e
        refine mGo.iinc (n := 102) (x := v10) (v := (v10 + 1)) (ls' := [some (va_rf v0), some (.int v1), none, some (.int v3), some (.int v4), some (.int v5), some (.int v6), some (.int v7), some (.int v8), some (.int v9), some (.int (v10 + 1))]) dX8_countTriples_99 rfl rfl rfl (Nat.le_of_ble_eq_true rfl) rfl ?_
        refine mGo.goto (tgt := 56) dX8_countTriples_102 (by decide) ?_
        cases e
        refine mGo.mk [true, true, false, true, true, true, true, true, true, true, true] ?_
        exact q
      · replace e := mIff hc e
        refine mGo.iload (n := 76) (x := v9) dX8_countTriples_74 rfl rfl ?_
        refine mGo.aload_n (n := 77) (r := v0) dX8_countTriples_76 rfl rfl ?_
        obtain ⟨x1, e_x1, e⟩ := mBind e
        refine mGo.getR (n := 80) dX8_countTriples_77 sf_RX8_23 e_x1 rfl ?_
        refine mGo.iload (n := 82) (x := v10) dX8_countTriples_80 rfl rfl ?_
        obtain ⟨x2, e_x2, e⟩ := mBind e
        refine mGo.iald (n := 83) dX8_countTriples_82 e_x2 rfl ?_
        refine mGo.ixor (n := 84) dX8_countTriples_83 rfl ?_
        refine mGo.iload_n (n := 85) (x := v1) dX8_countTriples_84 rfl rfl ?_
        obtain ⟨x3, e_x3, e⟩ := mBind e
        refine mGo.callS (n := 88) (y := zX8_signSum) (R' := (mRoom (2) 0 0)) (as := [.int (v9 ^^^ x2), .int v1]) (st := []) dX8_countTriples_85 sc_RX8_185 rfl (e_X8_signSum (v9 ^^^ x2) v1 h e_x3) (mFit_of rfl (Nat.le_of_ble_eq_true rfl) (by decide) (Nat.le_of_ble_eq_true rfl) (Nat.le_of_ble_eq_true rfl)) (Nat.le_of_ble_eq_true rfl) rfl rfl ?_
        intro _ _ hq
        rw [hq.1, hq.2]
        show mGo w kX8_countTriples 0 0 88 [some (va_rf v0), some (.int v1), none, some (.int v3), some (.int v4), some (.int v5), some (.int v6), some (.int v7), some (.int v8), some (.int v9), some (.int v10)] [.int x3] h Q
        obtain ⟨x4, e_x4, e⟩ := mBind e
        refine mGo.callS (n := 91) (y := zJ9_abs_0f7a4) (R' := (mRoom (1) 0 0)) (as := [.int x3]) (st := []) dX8_countTriples_88 sc_RX8_293 rfl (e_J9_abs_0f7a4 x3 h e_x4) (mFit_of rfl (Nat.le_of_ble_eq_true rfl) (by decide) (Nat.le_of_ble_eq_true rfl) (Nat.le_of_ble_eq_true rfl)) (Nat.le_of_ble_eq_true rfl) rfl rfl ?_
        intro _ _ hq
        rw [hq.1, hq.2]
        show mGo w kX8_countTriples 0 0 91 [some (va_rf v0), some (.int v1), none, some (.int v3), some (.int v4), some (.int v5), some (.int v6), some (.int v7), some (.int v8), some (.int v9), some (.int v10)] [.int x4] h Q
        refine mGo.iload (n := 93) (x := v5) dX8_countTriples_91 rfl rfl ?_
        refine mGo.icmp_ne (tgt := 99) (n := 96) dX8_countTriples_93 (by decide) rfl (fun hc => ?_) (fun hc => ?_)
        · replace e := mIff hc e
          refine mGo.iinc (n := 102) (x := v10) (v := (v10 + 1)) (ls' := [some (va_rf v0), some (.int v1), none, some (.int v3), some (.int v4), some (.int v5), some (.int v6), some (.int v7), some (.int v8), some (.int v9), some (.int (v10 + 1))]) dX8_countTriples_99 rfl rfl rfl (Nat.le_of_ble_eq_true rfl) rfl ?_
          refine mGo.goto (tgt := 56) dX8_countTriples_102 (by decide) ?_
          cases e
          refine mGo.mk [true, true, false, true, true, true, true, true, true, true, true] ?_
          exact q
        · replace e := mIft hc e
          refine mGo.iinc (n := 99) (x := v6) (v := (v6 + 1)) (ls' := [some (va_rf v0), some (.int v1), none, some (.int v3), some (.int v4), some (.int v5), some (.int (v6 + 1)), some (.int v7), some (.int v8), some (.int v9), some (.int v10)]) dX8_countTriples_96 rfl rfl rfl (Nat.le_of_ble_eq_true rfl) rfl ?_
          refine mGo.iinc (n := 102) (x := v10) (v := (v10 + 1)) (ls' := [some (va_rf v0), some (.int v1), none, some (.int v3), some (.int v4), some (.int v5), some (.int (v6 + 1)), some (.int v7), some (.int v8), some (.int v9), some (.int (v10 + 1))]) dX8_countTriples_99 rfl rfl rfl (Nat.le_of_ble_eq_true rfl) rfl ?_
          refine mGo.goto (tgt := 56) dX8_countTriples_102 (by decide) ?_
          cases e
          refine mGo.mk [true, true, false, true, true, true, true, true, true, true, true] ?_
          exact q
noncomputable def f_X8_countTriples_l56 (v0 : Option Nat) (v1 : Int32) (v3 : Int32) (v4 : Int32) (v5 : Int32) (v6 : Int32) (v7 : Int32) (v8 : Int32) (v9 : Int32) (v10 : Int32) (h : mH) : Option ((Int32 × Int32) ⊕ ((Int32 × Int32) ⊕ (Int32))) :=
  mLoop (fun x : Int32 × Int32 => f_X8_countTriples_b56 v0 v1 v3 v4 v5 v7 v8 v9 x.1 x.2 h) (v6, v10)
set_option maxRecDepth 100000 in
set_option maxHeartbeats 4000000 in
theorem g_X8_countTriples_l56 {w : mWp} {Q : Option Value → mH → Prop} (v0 : Option Nat) (v1 : Int32) (v3 : Int32) (v4 : Int32) (v5 : Int32) (v6 : Int32) (v7 : Int32) (v8 : Int32) (v9 : Int32) (v10 : Int32) (h : mH) {res : (Int32 × Int32) ⊕ ((Int32 × Int32) ⊕ (Int32))} (e : f_X8_countTriples_l56 v0 v1 v3 v4 v5 v6 v7 v8 v9 v10 h = some res) (q : (Sum.elim (fun x : Int32 × Int32 => mGo w kX8_countTriples 0 0 18 [some (va_rf v0), some (.int v1), none, some (.int v3), some (.int v4), some (.int v5), some (.int x.1), some (.int v7), some (.int x.2), none, none] [] h Q) (Sum.elim (fun x : Int32 × Int32 => mGo w kX8_countTriples 0 0 6 [some (va_rf v0), some (.int v1), none, some (.int v3), some (.int v4), some (.int v5), some (.int x.1), some (.int x.2), none, none, none] [] h Q) (fun r : Int32 => Q (some (.int r)) h))) res) : mGo w kX8_countTriples 0 0 56 [some (va_rf v0), some (.int v1), none, some (.int v3), some (.int v4), some (.int v5), some (.int v6), some (.int v7), some (.int v8), some (.int v9), some (.int v10)] [] h Q := by
  unfold f_X8_countTriples_l56 at e
  refine mLoop_go (x := (v6, v10)) (fun x : Int32 × Int32 => mGo w kX8_countTriples 0 0 56 [some (va_rf v0), some (.int v1), none, some (.int v3), some (.int v4), some (.int v5), some (.int x.1), some (.int v7), some (.int v8), some (.int v9), some (.int x.2)] [] h Q) (Sum.elim (fun x : Int32 × Int32 => mGo w kX8_countTriples 0 0 18 [some (va_rf v0), some (.int v1), none, some (.int v3), some (.int v4), some (.int v5), some (.int x.1), some (.int v7), some (.int x.2), none, none] [] h Q) (Sum.elim (fun x : Int32 × Int32 => mGo w kX8_countTriples 0 0 6 [some (va_rf v0), some (.int v1), none, some (.int v3), some (.int v4), some (.int v5), some (.int x.1), some (.int x.2), none, none, none] [] h Q) (fun r : Int32 => Q (some (.int r)) h))) ?_ e q
  rintro ⟨v6, v10⟩ res e q
  exact g_X8_countTriples_b56 v0 v1 v3 v4 v5 v7 v8 v9 v6 v10 h e q
noncomputable def f_X8_countTriples_b18 (v0 : Option Nat) (v1 : Int32) (v3 : Int32) (v4 : Int32) (v5 : Int32) (v7 : Int32) (v6 : Int32) (v8 : Int32) (h : mH) : Option ((Int32 × Int32) ⊕ ((Int32 × Int32) ⊕ (Int32))) :=
  if v1 ≤ v8 then
    some (Sum.inr (Sum.inl (v6, (v7 + 1))))
  else
    if v7 = v3 then
      some (Sum.inr (Sum.inl (v6, (v7 + 1))))
    else
      (mGR h v0 7 4).bind fun x1 =>
      (mAI h x1 v7).bind fun x2 =>
      (mGR h v0 7 4).bind fun x3 =>
      (mAI h x3 v8).bind fun x4 =>
      f_X8_countTriples_l56 v0 v1 v3 v4 v5 v6 v7 v8 ((v4 ^^^ x2) ^^^ x4) (v8 + (1 : Int32)) h
set_option maxRecDepth 100000 in
set_option maxHeartbeats 4000000 in
theorem g_X8_countTriples_b18 {w : mWp} {Q : Option Value → mH → Prop} (v0 : Option Nat) (v1 : Int32) (v3 : Int32) (v4 : Int32) (v5 : Int32) (v7 : Int32) (v6 : Int32) (v8 : Int32) (h : mH) {res : (Int32 × Int32) ⊕ ((Int32 × Int32) ⊕ (Int32))} (e : f_X8_countTriples_b18 v0 v1 v3 v4 v5 v7 v6 v8 h = some res) (q : (Sum.elim (fun x : Int32 × Int32 => mGo w kX8_countTriples 0 0 18 [some (va_rf v0), some (.int v1), none, some (.int v3), some (.int v4), some (.int v5), some (.int x.1), some (.int v7), some (.int x.2), none, none] [] h Q) (Sum.elim (fun x : Int32 × Int32 => mGo w kX8_countTriples 0 0 6 [some (va_rf v0), some (.int v1), none, some (.int v3), some (.int v4), some (.int v5), some (.int x.1), some (.int x.2), none, none, none] [] h Q) (fun r : Int32 => Q (some (.int r)) h))) res) : mGo w kX8_countTriples 0 0 18 [some (va_rf v0), some (.int v1), none, some (.int v3), some (.int v4), some (.int v5), some (.int v6), some (.int v7), some (.int v8), none, none] [] h Q := by
  unfold f_X8_countTriples_b18 at e
  refine mGo.iload (n := 20) (x := v8) dX8_countTriples_18 rfl rfl ?_
  refine mGo.iload_n (n := 21) (x := v1) dX8_countTriples_20 rfl rfl ?_
  refine mGo.icmp_ge (tgt := 111) (n := 24) dX8_countTriples_21 (by decide) rfl (fun hc => ?_) (fun hc => ?_)
  · replace e := mIft hc e
    refine mGo.iinc (n := 114) (x := v7) (v := (v7 + 1)) (ls' := [some (va_rf v0), some (.int v1), none, some (.int v3), some (.int v4), some (.int v5), some (.int v6), some (.int (v7 + 1)), some (.int v8), none, none]) dX8_countTriples_111 rfl rfl rfl (Nat.le_of_ble_eq_true rfl) rfl ?_
    refine mGo.goto (tgt := 6) dX8_countTriples_114 (by decide) ?_
    cases e
    refine mGo.mk [true, true, false, true, true, true, true, true, false, false, false] ?_
    exact q
  · replace e := mIff hc e
    refine mGo.iload (n := 26) (x := v7) dX8_countTriples_24 rfl rfl ?_
    refine mGo.iload_n (n := 27) (x := v3) dX8_countTriples_26 rfl rfl ?_
    refine mGo.icmp_eq (tgt := 111) (n := 30) dX8_countTriples_27 (by decide) rfl (fun hc => ?_) (fun hc => ?_)
    · replace e := mIft hc e
      refine mGo.iinc (n := 114) (x := v7) (v := (v7 + 1)) (ls' := [some (va_rf v0), some (.int v1), none, some (.int v3), some (.int v4), some (.int v5), some (.int v6), some (.int (v7 + 1)), some (.int v8), none, none]) dX8_countTriples_111 rfl rfl rfl (Nat.le_of_ble_eq_true rfl) rfl ?_
      refine mGo.goto (tgt := 6) dX8_countTriples_114 (by decide) ?_
      cases e
      refine mGo.mk [true, true, false, true, true, true, true, true, false, false, false] ?_
      exact q
    · replace e := mIff hc e
      refine mGo.iload (n := 32) (x := v4) dX8_countTriples_30 rfl rfl ?_
      refine mGo.aload_n (n := 33) (r := v0) dX8_countTriples_32 rfl rfl ?_
      obtain ⟨x1, e_x1, e⟩ := mBind e
      refine mGo.getR (n := 36) dX8_countTriples_33 sf_RX8_23 e_x1 rfl ?_
      refine mGo.iload (n := 38) (x := v7) dX8_countTriples_36 rfl rfl ?_
      obtain ⟨x2, e_x2, e⟩ := mBind e
      refine mGo.iald (n := 39) dX8_countTriples_38 e_x2 rfl ?_
      refine mGo.ixor (n := 40) dX8_countTriples_39 rfl ?_
      refine mGo.aload_n (n := 41) (r := v0) dX8_countTriples_40 rfl rfl ?_
      obtain ⟨x3, e_x3, e⟩ := mBind e
      refine mGo.getR (n := 44) dX8_countTriples_41 sf_RX8_23 e_x3 rfl ?_
      refine mGo.iload (n := 46) (x := v8) dX8_countTriples_44 rfl rfl ?_
      obtain ⟨x4, e_x4, e⟩ := mBind e
      refine mGo.iald (n := 47) dX8_countTriples_46 e_x4 rfl ?_
      refine mGo.ixor (n := 48) dX8_countTriples_47 rfl ?_
      refine mGo.istore (n := 50) (ls' := [some (va_rf v0), some (.int v1), none, some (.int v3), some (.int v4), some (.int v5), some (.int v6), some (.int v7), some (.int v8), some (.int ((v4 ^^^ x2) ^^^ x4)), none]) dX8_countTriples_48 rfl (Nat.le_of_ble_eq_true rfl) rfl ?_
      refine mGo.iload (n := 52) (x := v8) dX8_countTriples_50 rfl rfl ?_
      refine mGo.iconst (n := 53) (v := (1 : Int32)) dX8_countTriples_52 (by decide) rfl ?_
      refine mGo.iadd (n := 54) dX8_countTriples_53 rfl ?_
      refine mGo.istore (n := 56) (ls' := [some (va_rf v0), some (.int v1), none, some (.int v3), some (.int v4), some (.int v5), some (.int v6), some (.int v7), some (.int v8), some (.int ((v4 ^^^ x2) ^^^ x4)), some (.int (v8 + (1 : Int32)))]) dX8_countTriples_54 rfl (Nat.le_of_ble_eq_true rfl) rfl ?_
      refine mGo.mk [true, true, false, true, true, true, true, true, true, true, true] ?_
      exact g_X8_countTriples_l56 v0 v1 v3 v4 v5 v6 v7 v8 ((v4 ^^^ x2) ^^^ x4) (v8 + (1 : Int32)) h e q
noncomputable def f_X8_countTriples_l18 (v0 : Option Nat) (v1 : Int32) (v3 : Int32) (v4 : Int32) (v5 : Int32) (v6 : Int32) (v7 : Int32) (v8 : Int32) (h : mH) : Option ((Int32 × Int32) ⊕ (Int32)) :=
  mLoop (fun x : Int32 × Int32 => f_X8_countTriples_b18 v0 v1 v3 v4 v5 v7 x.1 x.2 h) (v6, v8)
set_option maxRecDepth 100000 in
set_option maxHeartbeats 4000000 in
theorem g_X8_countTriples_l18 {w : mWp} {Q : Option Value → mH → Prop} (v0 : Option Nat) (v1 : Int32) (v3 : Int32) (v4 : Int32) (v5 : Int32) (v6 : Int32) (v7 : Int32) (v8 : Int32) (h : mH) {res : (Int32 × Int32) ⊕ (Int32)} (e : f_X8_countTriples_l18 v0 v1 v3 v4 v5 v6 v7 v8 h = some res) (q : (Sum.elim (fun x : Int32 × Int32 => mGo w kX8_countTriples 0 0 6 [some (va_rf v0), some (.int v1), none, some (.int v3), some (.int v4), some (.int v5), some (.int x.1), some (.int x.2), none, none, none] [] h Q) (fun r : Int32 => Q (some (.int r)) h)) res) : mGo w kX8_countTriples 0 0 18 [some (va_rf v0), some (.int v1), none, some (.int v3), some (.int v4), some (.int v5), some (.int v6), some (.int v7), some (.int v8), none, none] [] h Q := by
  unfold f_X8_countTriples_l18 at e
  refine mLoop_go (x := (v6, v8)) (fun x : Int32 × Int32 => mGo w kX8_countTriples 0 0 18 [some (va_rf v0), some (.int v1), none, some (.int v3), some (.int v4), some (.int v5), some (.int x.1), some (.int v7), some (.int x.2), none, none] [] h Q) (Sum.elim (fun x : Int32 × Int32 => mGo w kX8_countTriples 0 0 6 [some (va_rf v0), some (.int v1), none, some (.int v3), some (.int v4), some (.int v5), some (.int x.1), some (.int x.2), none, none, none] [] h Q) (fun r : Int32 => Q (some (.int r)) h)) ?_ e q
  rintro ⟨v6, v8⟩ res e q
  exact g_X8_countTriples_b18 v0 v1 v3 v4 v5 v7 v6 v8 h e q
noncomputable def f_X8_countTriples_b6 (v0 : Option Nat) (v1 : Int32) (v3 : Int32) (v4 : Int32) (v5 : Int32) (v6 : Int32) (v7 : Int32) (h : mH) : Option ((Int32 × Int32) ⊕ (Int32)) :=
  if v1 ≤ v7 then
    some (Sum.inr v6)
  else
    f_X8_countTriples_l18 v0 v1 v3 v4 v5 v6 v7 (v7 + (1 : Int32)) h
set_option maxRecDepth 100000 in
set_option maxHeartbeats 4000000 in
theorem g_X8_countTriples_b6 {w : mWp} {Q : Option Value → mH → Prop} (v0 : Option Nat) (v1 : Int32) (v3 : Int32) (v4 : Int32) (v5 : Int32) (v6 : Int32) (v7 : Int32) (h : mH) {res : (Int32 × Int32) ⊕ (Int32)} (e : f_X8_countTriples_b6 v0 v1 v3 v4 v5 v6 v7 h = some res) (q : (Sum.elim (fun x : Int32 × Int32 => mGo w kX8_countTriples 0 0 6 [some (va_rf v0), some (.int v1), none, some (.int v3), some (.int v4), some (.int v5), some (.int x.1), some (.int x.2), none, none, none] [] h Q) (fun r : Int32 => Q (some (.int r)) h)) res) : mGo w kX8_countTriples 0 0 6 [some (va_rf v0), some (.int v1), none, some (.int v3), some (.int v4), some (.int v5), some (.int v6), some (.int v7), none, none, none] [] h Q := by
  unfold f_X8_countTriples_b6 at e
  refine mGo.iload (n := 8) (x := v7) dX8_countTriples_6 rfl rfl ?_
  refine mGo.iload_n (n := 9) (x := v1) dX8_countTriples_8 rfl rfl ?_
  refine mGo.icmp_ge (tgt := 117) (n := 12) dX8_countTriples_9 (by decide) rfl (fun hc => ?_) (fun hc => ?_)
  · replace e := mIft hc e
    refine mGo.iload (n := 119) (x := v6) dX8_countTriples_117 rfl rfl ?_
    cases e
    exact mGo.iret dX8_countTriples_119 rfl (Nat.le_of_ble_eq_true rfl) (Nat.le_of_ble_eq_true rfl) q
  · replace e := mIff hc e
    refine mGo.iload (n := 14) (x := v7) dX8_countTriples_12 rfl rfl ?_
    refine mGo.iconst (n := 15) (v := (1 : Int32)) dX8_countTriples_14 (by decide) rfl ?_
    refine mGo.iadd (n := 16) dX8_countTriples_15 rfl ?_
    refine mGo.istore (n := 18) (ls' := [some (va_rf v0), some (.int v1), none, some (.int v3), some (.int v4), some (.int v5), some (.int v6), some (.int v7), some (.int (v7 + (1 : Int32))), none, none]) dX8_countTriples_16 rfl (Nat.le_of_ble_eq_true rfl) rfl ?_
    refine mGo.mk [true, true, false, true, true, true, true, true, true, false, false] ?_
    exact g_X8_countTriples_l18 v0 v1 v3 v4 v5 v6 v7 (v7 + (1 : Int32)) h e q
noncomputable def f_X8_countTriples_l6 (v0 : Option Nat) (v1 : Int32) (v3 : Int32) (v4 : Int32) (v5 : Int32) (v6 : Int32) (v7 : Int32) (h : mH) : Option (Int32) :=
  mLoop (fun x : Int32 × Int32 => f_X8_countTriples_b6 v0 v1 v3 v4 v5 x.1 x.2 h) (v6, v7)
set_option maxRecDepth 100000 in
set_option maxHeartbeats 4000000 in
theorem g_X8_countTriples_l6 {w : mWp} {Q : Option Value → mH → Prop} (v0 : Option Nat) (v1 : Int32) (v3 : Int32) (v4 : Int32) (v5 : Int32) (v6 : Int32) (v7 : Int32) (h : mH) {res : Int32} (e : f_X8_countTriples_l6 v0 v1 v3 v4 v5 v6 v7 h = some res) (q : (fun r : Int32 => Q (some (.int r)) h) res) : mGo w kX8_countTriples 0 0 6 [some (va_rf v0), some (.int v1), none, some (.int v3), some (.int v4), some (.int v5), some (.int v6), some (.int v7), none, none, none] [] h Q := by
  unfold f_X8_countTriples_l6 at e
  refine mLoop_go (x := (v6, v7)) (fun x : Int32 × Int32 => mGo w kX8_countTriples 0 0 6 [some (va_rf v0), some (.int v1), none, some (.int v3), some (.int v4), some (.int v5), some (.int x.1), some (.int x.2), none, none, none] [] h Q) (fun r : Int32 => Q (some (.int r)) h) ?_ e q
  rintro ⟨v6, v7⟩ res e q
  exact g_X8_countTriples_b6 v0 v1 v3 v4 v5 v6 v7 h e q
noncomputable def f_X8_countTriples (v0 : Option Nat) (v1 : Int32) (v2 : Int32) (v3 : Int32) (v4 : Int32) (v5 : Int32) (h : mH) : Option (Int32) :=
  (mIs h v0 7).bind fun _ =>
  f_X8_countTriples_l6 v0 v1 v3 v4 v5 (0 : Int32) v2 h
set_option maxRecDepth 100000 in
set_option maxHeartbeats 4000000 in
theorem g_X8_countTriples {w : mWp} {Q : Option Value → mH → Prop} (v0 : Option Nat) (v1 : Int32) (v2 : Int32) (v3 : Int32) (v4 : Int32) (v5 : Int32) (h : mH) {res : Int32} (e : f_X8_countTriples v0 v1 v2 v3 v4 v5 h = some res) (q : (fun r : Int32 => Q (some (.int r)) h) res) : mGo w kX8_countTriples 0 0 0 [some (va_rf v0), some (.int v1), some (.int v2), some (.int v3), some (.int v4), some (.int v5), none, none, none, none, none] [] h Q := by
  unfold f_X8_countTriples at e
  obtain ⟨_, _, e⟩ := mBind e
  refine mGo.iconst (n := 1) (v := (0 : Int32)) dX8_countTriples_0 (by decide) rfl ?_
  refine mGo.istore (n := 3) (ls' := [some (va_rf v0), some (.int v1), some (.int v2), some (.int v3), some (.int v4), some (.int v5), some (.int (0 : Int32)), none, none, none, none]) dX8_countTriples_1 rfl (Nat.le_of_ble_eq_true rfl) rfl ?_
  refine mGo.iload_n (n := 4) (x := v2) dX8_countTriples_3 rfl rfl ?_
  refine mGo.istore (n := 6) (ls' := [some (va_rf v0), some (.int v1), some (.int v2), some (.int v3), some (.int v4), some (.int v5), some (.int (0 : Int32)), some (.int v2), none, none, none]) dX8_countTriples_4 rfl (Nat.le_of_ble_eq_true rfl) rfl ?_
  refine mGo.mk [true, true, false, true, true, true, true, true, false, false, false] ?_
  exact g_X8_countTriples_l6 v0 v1 v3 v4 v5 (0 : Int32) v2 h e q
theorem e_X8_countTriples {w : mWp} (v0 : Option Nat) (v1 : Int32) (v2 : Int32) (v3 : Int32) (v4 : Int32) (v5 : Int32) (h : mH) {res : Int32} (e : f_X8_countTriples v0 v1 v2 v3 v4 v5 h = some res) : mEx w zX8_countTriples (mRoom 3 0 0) [va_rf v0, .int v1, .int v2, .int v3, .int v4, .int v5] h (fun r h2 => r = some (.int res) ∧ h2 = h) := by
  refine mEx.of (by decide +kernel) (show mEnt [va_rf v0, .int v1, .int v2, .int v3, .int v4, .int v5] 11 = [some (va_rf v0), some (.int v1), some (.int v2), some (.int v3), some (.int v4), some (.int v5), none, none, none, none, none] by rw [mEnt_r, mEnt_i, mEnt_i, mEnt_i, mEnt_i, mEnt_i] <;> rfl) (by simp only [List.map_cons, List.map_nil, mRfc, mCi, mCj, List.sum_cons, List.sum_nil]; exact Nat.le_of_ble_eq_true rfl) ?_
  refine g_X8_countTriples v0 v1 v2 v3 v4 v5 h e ?_
  exact ⟨rfl, rfl⟩
theorem s_X8_countTriples (v0 : Option Nat) (v1 : Int32) (v2 : Int32) (v3 : Int32) (v4 : Int32) (v5 : Int32) (h : mH) {res : Int32} (e : f_X8_countTriples v0 v1 v2 v3 v4 v5 h = some res) : mIs h v0 7 = some () := by
  unfold f_X8_countTriples at e
  obtain ⟨u, e1, _⟩ := mBind e
  cases u
  exact e1
-- X8_tally
def kX8_tally : mK := (cX8_tally, RX8, 8, some (.int), "tally", mRoom 4 0 0)
def zX8_tally : mY := (yX8_tally, cX8_tally, 8, some (.int))
set_option maxRecDepth 100000 in
theorem sc_RX8_208 : mSV RX8 208 zX7_copyLines 2 6 := ⟨Or.inr ⟨_, mNest_at 493 (x := Cond.methodLinkNest RX8 208 yX7_copyLines "SignTables") (by decide +kernel) rfl⟩, mT_at 577 (by decide +kernel) rfl, mT_at 20 (by decide +kernel) rfl, mT_at 84 (by decide +kernel) rfl, mT_at 578 (by decide +kernel) rfl, ⟨by decide +kernel, by decide +kernel, by decide +kernel⟩, by decide, rfl⟩
set_option maxRecDepth 100000 in
theorem sc_RX8_212 : mSV RX8 212 zX8_countTriples 5 7 := ⟨Or.inl (mT_at 580 (by decide +kernel) rfl), mT_at 582 (by decide +kernel) rfl, mT_at 21 (by decide +kernel) rfl, mT_at 83 (by decide +kernel) rfl, mT_at 583 (by decide +kernel) rfl, ⟨by decide +kernel, by decide +kernel, by decide +kernel⟩, by decide, rfl⟩
noncomputable def f_X8_tally_b41 (v0 : Option Nat) (v3 : Int32) (v5 : Int32) (v6 : Int32) (v7 : Int32) (h : mH) : Option ((Int32 × Int32) ⊕ (Int32 × mH)) :=
  if v5 ≤ v7 then
    some (Sum.inr (v6, h))
  else
    (mGR h v0 7 4).bind fun x1 =>
    (mAI h x1 v7).bind fun x2 =>
    (f_X8_countTriples v0 v5 (v7 + (1 : Int32)) (-1 : Int32) x2 v3 h).bind fun x3 =>
    some (Sum.inl ((v6 + x3), (v7 + 1)))
set_option maxRecDepth 100000 in
set_option maxHeartbeats 4000000 in
theorem g_X8_tally_b41 {w : mWp} {Q : Option Value → mH → Prop} (v0 : Option Nat) (v3 : Int32) (v5 : Int32) (v6 : Int32) (v7 : Int32) (h : mH) {res : (Int32 × Int32) ⊕ (Int32 × mH)} (e : f_X8_tally_b41 v0 v3 v5 v6 v7 h = some res) (q : (Sum.elim (fun x : Int32 × Int32 => mGo w kX8_tally 0 0 41 [some (va_rf v0), none, none, some (.int v3), none, some (.int v5), some (.int x.1), some (.int x.2)] [] h Q) (fun r : Int32 × mH => Q (some (.int r.1)) r.2)) res) : mGo w kX8_tally 0 0 41 [some (va_rf v0), none, none, some (.int v3), none, some (.int v5), some (.int v6), some (.int v7)] [] h Q := by
  unfold f_X8_tally_b41 at e
  refine mGo.iload (n := 43) (x := v7) dX8_tally_41 rfl rfl ?_
  refine mGo.iload (n := 45) (x := v5) dX8_tally_43 rfl rfl ?_
  refine mGo.icmp_ge (tgt := 78) (n := 48) dX8_tally_45 (by decide) rfl (fun hc => ?_) (fun hc => ?_)
  · replace e := mIft hc e
    refine mGo.iload (n := 80) (x := v6) dX8_tally_78 rfl rfl ?_
    cases e
    exact mGo.iret dX8_tally_80 rfl (Nat.le_of_ble_eq_true rfl) (Nat.le_of_ble_eq_true rfl) q
  · replace e := mIff hc e
    refine mGo.iload (n := 50) (x := v6) dX8_tally_48 rfl rfl ?_
    refine mGo.aload_n (n := 51) (r := v0) dX8_tally_50 rfl rfl ?_
    refine mGo.iload (n := 53) (x := v5) dX8_tally_51 rfl rfl ?_
    refine mGo.iload (n := 55) (x := v7) dX8_tally_53 rfl rfl ?_
    refine mGo.iconst (n := 56) (v := (1 : Int32)) dX8_tally_55 (by decide) rfl ?_
    refine mGo.iadd (n := 57) dX8_tally_56 rfl ?_
    refine mGo.iconst (n := 58) (v := (-1 : Int32)) dX8_tally_57 (by decide) rfl ?_
    refine mGo.aload_n (n := 59) (r := v0) dX8_tally_58 rfl rfl ?_
    obtain ⟨x1, e_x1, e⟩ := mBind e
    refine mGo.getR (n := 62) dX8_tally_59 sf_RX8_23 e_x1 rfl ?_
    refine mGo.iload (n := 64) (x := v7) dX8_tally_62 rfl rfl ?_
    obtain ⟨x2, e_x2, e⟩ := mBind e
    refine mGo.iald (n := 65) dX8_tally_64 e_x2 rfl ?_
    refine mGo.iload_n (n := 66) (x := v3) dX8_tally_65 rfl rfl ?_
    obtain ⟨x3, e_x3, e⟩ := mBind e
    refine mGo.callV (n := 69) (y := zX8_countTriples) (R' := (mRoom (3) 0 0)) (as := [.int v5, .int (v7 + (1 : Int32)), .int (-1 : Int32), .int x2, .int v3]) (st := [.int v6]) (r0 := v0) dX8_tally_66 sc_RX8_212 rfl (s_X8_countTriples v0 v5 (v7 + (1 : Int32)) (-1 : Int32) x2 v3 h e_x3) (e_X8_countTriples v0 v5 (v7 + (1 : Int32)) (-1 : Int32) x2 v3 h e_x3) (mFit_of rfl (Nat.le_of_ble_eq_true rfl) (by decide) (Nat.le_of_ble_eq_true rfl) (Nat.le_of_ble_eq_true rfl)) (Nat.le_of_ble_eq_true rfl) rfl rfl ?_
    intro _ _ hq
    rw [hq.1, hq.2]
    show mGo w kX8_tally 0 0 69 [some (va_rf v0), none, none, some (.int v3), none, some (.int v5), some (.int v6), some (.int v7)] [.int x3, .int v6] h Q
    refine mGo.iadd (n := 70) dX8_tally_69 rfl ?_
    refine mGo.istore (n := 72) (ls' := [some (va_rf v0), none, none, some (.int v3), none, some (.int v5), some (.int (v6 + x3)), some (.int v7)]) dX8_tally_70 rfl (Nat.le_of_ble_eq_true rfl) rfl ?_
    refine mGo.iinc (n := 75) (x := v7) (v := (v7 + 1)) (ls' := [some (va_rf v0), none, none, some (.int v3), none, some (.int v5), some (.int (v6 + x3)), some (.int (v7 + 1))]) dX8_tally_72 rfl rfl rfl (Nat.le_of_ble_eq_true rfl) rfl ?_
    refine mGo.goto (tgt := 41) dX8_tally_75 (by decide) ?_
    cases e
    refine mGo.mk [true, false, false, true, false, true, true, true] ?_
    exact q
noncomputable def f_X8_tally_l41 (v0 : Option Nat) (v3 : Int32) (v5 : Int32) (v6 : Int32) (v7 : Int32) (h : mH) : Option (Int32 × mH) :=
  mLoop (fun x : Int32 × Int32 => f_X8_tally_b41 v0 v3 v5 x.1 x.2 h) (v6, v7)
set_option maxRecDepth 100000 in
set_option maxHeartbeats 4000000 in
theorem g_X8_tally_l41 {w : mWp} {Q : Option Value → mH → Prop} (v0 : Option Nat) (v3 : Int32) (v5 : Int32) (v6 : Int32) (v7 : Int32) (h : mH) {res : Int32 × mH} (e : f_X8_tally_l41 v0 v3 v5 v6 v7 h = some res) (q : (fun r : Int32 × mH => Q (some (.int r.1)) r.2) res) : mGo w kX8_tally 0 0 41 [some (va_rf v0), none, none, some (.int v3), none, some (.int v5), some (.int v6), some (.int v7)] [] h Q := by
  unfold f_X8_tally_l41 at e
  refine mLoop_go (x := (v6, v7)) (fun x : Int32 × Int32 => mGo w kX8_tally 0 0 41 [some (va_rf v0), none, none, some (.int v3), none, some (.int v5), some (.int x.1), some (.int x.2)] [] h Q) (fun r : Int32 × mH => Q (some (.int r.1)) r.2) ?_ e q
  rintro ⟨v6, v7⟩ res e q
  exact g_X8_tally_b41 v0 v3 v5 v6 v7 h e q
noncomputable def f_X8_tally (v0 : Option Nat) (v1 : Int32) (v2 : Int32) (v3 : Int32) (h : mH) : Option (Int32 × mH) :=
  (mIs h v0 7).bind fun _ =>
  (f_X8_tableAt v0 v1 h).bind fun x1 =>
  if x1 = none then
    some ((-1 : Int32), h)
  else
    if 0 ≤ v3 then
      (mGR h v0 7 4).bind fun x2 =>
      (f_X7_copyLines x1 v2 x2 h).bind fun x3 =>
      (mGI x3 x1 6 0).bind fun x4 =>
      f_X8_tally_l41 v0 v3 x4 (0 : Int32) (0 : Int32) x3
    else
      some ((-1 : Int32), h)
set_option maxRecDepth 100000 in
set_option maxHeartbeats 4000000 in
theorem g_X8_tally {w : mWp} {Q : Option Value → mH → Prop} (v0 : Option Nat) (v1 : Int32) (v2 : Int32) (v3 : Int32) (h : mH) {res : Int32 × mH} (e : f_X8_tally v0 v1 v2 v3 h = some res) (q : (fun r : Int32 × mH => Q (some (.int r.1)) r.2) res) : mGo w kX8_tally 0 0 0 [some (va_rf v0), some (.int v1), some (.int v2), some (.int v3), none, none, none, none] [] h Q := by
  unfold f_X8_tally at e
  obtain ⟨_, _, e⟩ := mBind e
  refine mGo.aload_n (n := 1) (r := v0) dX8_tally_0 rfl rfl ?_
  refine mGo.iload_n (n := 2) (x := v1) dX8_tally_1 rfl rfl ?_
  obtain ⟨x1, e_x1, e⟩ := mBind e
  refine mGo.callV (n := 5) (y := zX8_tableAt) (R' := (mRoom (1) 0 0)) (as := [.int v1]) (st := []) (r0 := v0) dX8_tally_2 sc_RX8_118 rfl (s_X8_tableAt v0 v1 h e_x1) (e_X8_tableAt v0 v1 h e_x1) (mFit_of rfl (Nat.le_of_ble_eq_true rfl) (by decide) (Nat.le_of_ble_eq_true rfl) (Nat.le_of_ble_eq_true rfl)) (Nat.le_of_ble_eq_true rfl) rfl rfl ?_
  intro _ _ hq
  rw [hq.1, hq.2]
  show mGo w kX8_tally 0 0 5 [some (va_rf v0), some (.int v1), some (.int v2), some (.int v3), none, none, none, none] [va_rf x1] h Q
  refine mGo.astore (n := 7) (ls' := [some (va_rf v0), some (.int v1), some (.int v2), some (.int v3), some (va_rf x1), none, none, none]) dX8_tally_5 rfl (Nat.le_of_ble_eq_true rfl) rfl ?_
  refine mGo.aload (n := 9) (r := x1) dX8_tally_7 rfl rfl ?_
  refine mGo.ifnull (tgt := 16) (n := 12) dX8_tally_9 (by decide) rfl (fun hc => ?_) (fun hc => ?_)
  · replace e := mIft hc e
    refine mGo.iconst (n := 17) (v := (-1 : Int32)) dX8_tally_16 (by decide) rfl ?_
    cases e
    exact mGo.iret dX8_tally_17 rfl (Nat.le_of_ble_eq_true rfl) (Nat.le_of_ble_eq_true rfl) q
  · replace e := mIff hc e
    refine mGo.iload_n (n := 13) (x := v3) dX8_tally_12 rfl rfl ?_
    refine mGo.if_ge (tgt := 18) (n := 16) dX8_tally_13 (by decide) rfl (fun hc => ?_) (fun hc => ?_)
    · replace e := mIft hc e
      refine mGo.aload (n := 20) (r := x1) dX8_tally_18 rfl rfl ?_
      refine mGo.iload_n (n := 21) (x := v2) dX8_tally_20 rfl rfl ?_
      refine mGo.aload_n (n := 22) (r := v0) dX8_tally_21 rfl rfl ?_
      obtain ⟨x2, e_x2, e⟩ := mBind e
      refine mGo.getR (n := 25) dX8_tally_22 sf_RX8_23 e_x2 rfl ?_
      obtain ⟨x3, e_x3, e⟩ := mBind e
      refine mGo.callV (n := 28) (y := zX7_copyLines) (R' := (mRoom (2) 0 0)) (as := [.int v2, va_rf x2]) (st := []) (r0 := x1) dX8_tally_25 sc_RX8_208 rfl (s_X7_copyLines x1 v2 x2 h e_x3) (e_X7_copyLines x1 v2 x2 h e_x3) (mFit_of rfl (Nat.le_of_ble_eq_true rfl) (by decide) (Nat.le_of_ble_eq_true rfl) (Nat.le_of_ble_eq_true rfl)) (Nat.le_of_ble_eq_true rfl) rfl rfl ?_
      intro _ _ hq
      rw [hq.1, hq.2]
      show mGo w kX8_tally 0 0 28 [some (va_rf v0), some (.int v1), some (.int v2), some (.int v3), some (va_rf x1), none, none, none] [] x3 Q
      refine mGo.aload (n := 30) (r := x1) dX8_tally_28 rfl rfl ?_
      obtain ⟨x4, e_x4, e⟩ := mBind e
      refine mGo.getI (n := 33) dX8_tally_30 sf_RX8_122 e_x4 rfl ?_
      refine mGo.istore (n := 35) (ls' := [some (va_rf v0), some (.int v1), some (.int v2), some (.int v3), some (va_rf x1), some (.int x4), none, none]) dX8_tally_33 ((mSt_set (fun u _ hu => by cases hu; exact mRfc _)).trans rfl) (Nat.le_of_ble_eq_true rfl) rfl ?_
      refine mGo.iconst (n := 36) (v := (0 : Int32)) dX8_tally_35 (by decide) rfl ?_
      refine mGo.istore (n := 38) (ls' := [some (va_rf v0), some (.int v1), some (.int v2), some (.int v3), some (va_rf x1), some (.int x4), some (.int (0 : Int32)), none]) dX8_tally_36 rfl (Nat.le_of_ble_eq_true rfl) rfl ?_
      refine mGo.iconst (n := 39) (v := (0 : Int32)) dX8_tally_38 (by decide) rfl ?_
      refine mGo.istore (n := 41) (ls' := [some (va_rf v0), some (.int v1), some (.int v2), some (.int v3), some (va_rf x1), some (.int x4), some (.int (0 : Int32)), some (.int (0 : Int32))]) dX8_tally_39 rfl (Nat.le_of_ble_eq_true rfl) rfl ?_
      refine mGo.mk [true, false, false, true, false, true, true, true] ?_
      exact g_X8_tally_l41 v0 v3 x4 (0 : Int32) (0 : Int32) x3 e q
    · replace e := mIff hc e
      refine mGo.iconst (n := 17) (v := (-1 : Int32)) dX8_tally_16 (by decide) rfl ?_
      cases e
      exact mGo.iret dX8_tally_17 rfl (Nat.le_of_ble_eq_true rfl) (Nat.le_of_ble_eq_true rfl) q
theorem e_X8_tally {w : mWp} (v0 : Option Nat) (v1 : Int32) (v2 : Int32) (v3 : Int32) (h : mH) {res : Int32 × mH} (e : f_X8_tally v0 v1 v2 v3 h = some res) : mEx w zX8_tally (mRoom 4 0 0) [va_rf v0, .int v1, .int v2, .int v3] h (fun r h2 => r = some (.int res.1) ∧ h2 = res.2) := by
  refine mEx.of (by decide +kernel) (show mEnt [va_rf v0, .int v1, .int v2, .int v3] 8 = [some (va_rf v0), some (.int v1), some (.int v2), some (.int v3), none, none, none, none] by rw [mEnt_r, mEnt_i, mEnt_i, mEnt_i] <;> rfl) (by simp only [List.map_cons, List.map_nil, mRfc, mCi, mCj, List.sum_cons, List.sum_nil]; exact Nat.le_of_ble_eq_true rfl) ?_
  refine g_X8_tally v0 v1 v2 v3 h e ?_
  exact ⟨rfl, rfl⟩
theorem s_X8_tally (v0 : Option Nat) (v1 : Int32) (v2 : Int32) (v3 : Int32) (h : mH) {res : Int32 × mH} (e : f_X8_tally v0 v1 v2 v3 h = some res) : mIs h v0 7 = some () := by
  unfold f_X8_tally at e
  obtain ⟨u, e1, _⟩ := mBind e
  cases u
  exact e1
-- X8_part
def kX8_part : mK := (cX8_part, RX8, 6, some (.int), "part", mRoom 4 0 0)
def zX8_part : mY := (yX8_part, cX8_part, 6, some (.int))
noncomputable def f_X8_part (v0 : Option Nat) (v1 : Int32) (v2 : Int32) (v3 : Int32) (v4 : Int32) (h : mH) : Option (Int32 × mH) :=
  (mIs h v0 7).bind fun _ =>
  (f_X8_tableAt v0 v1 h).bind fun x1 =>
  if x1 = none then
    some ((-1 : Int32), h)
  else
    (f_X7_has x1 v3 h).bind fun x2 =>
    if x2 = 0 then
      some ((-1 : Int32), h)
    else
      if 0 ≤ v4 then
        (mGR h v0 7 4).bind fun x3 =>
        (f_X7_copyLines x1 v2 x3 h).bind fun x4 =>
        (mGI x4 x1 6 0).bind fun x5 =>
        (mGR x4 v0 7 4).bind fun x6 =>
        (mAI x4 x6 v3).bind fun x7 =>
        (f_X8_countTriples v0 x5 (0 : Int32) v3 x7 v4 x4).bind fun x8 =>
        some (x8, x4)
      else
        some ((-1 : Int32), h)
set_option maxRecDepth 100000 in
set_option maxHeartbeats 4000000 in
theorem g_X8_part {w : mWp} {Q : Option Value → mH → Prop} (v0 : Option Nat) (v1 : Int32) (v2 : Int32) (v3 : Int32) (v4 : Int32) (h : mH) {res : Int32 × mH} (e : f_X8_part v0 v1 v2 v3 v4 h = some res) (q : (fun r : Int32 × mH => Q (some (.int r.1)) r.2) res) : mGo w kX8_part 0 0 0 [some (va_rf v0), some (.int v1), some (.int v2), some (.int v3), some (.int v4), none] [] h Q := by
  unfold f_X8_part at e
  obtain ⟨_, _, e⟩ := mBind e
  refine mGo.aload_n (n := 1) (r := v0) dX8_part_0 rfl rfl ?_
  refine mGo.iload_n (n := 2) (x := v1) dX8_part_1 rfl rfl ?_
  obtain ⟨x1, e_x1, e⟩ := mBind e
  refine mGo.callV (n := 5) (y := zX8_tableAt) (R' := (mRoom (1) 0 0)) (as := [.int v1]) (st := []) (r0 := v0) dX8_part_2 sc_RX8_118 rfl (s_X8_tableAt v0 v1 h e_x1) (e_X8_tableAt v0 v1 h e_x1) (mFit_of rfl (Nat.le_of_ble_eq_true rfl) (by decide) (Nat.le_of_ble_eq_true rfl) (Nat.le_of_ble_eq_true rfl)) (Nat.le_of_ble_eq_true rfl) rfl rfl ?_
  intro _ _ hq
  rw [hq.1, hq.2]
  show mGo w kX8_part 0 0 5 [some (va_rf v0), some (.int v1), some (.int v2), some (.int v3), some (.int v4), none] [va_rf x1] h Q
  refine mGo.astore (n := 7) (ls' := [some (va_rf v0), some (.int v1), some (.int v2), some (.int v3), some (.int v4), some (va_rf x1)]) dX8_part_5 rfl (Nat.le_of_ble_eq_true rfl) rfl ?_
  refine mGo.aload (n := 9) (r := x1) dX8_part_7 rfl rfl ?_
  refine mGo.ifnull (tgt := 26) (n := 12) dX8_part_9 (by decide) rfl (fun hc => ?_) (fun hc => ?_)
  · replace e := mIft hc e
    refine mGo.iconst (n := 27) (v := (-1 : Int32)) dX8_part_26 (by decide) rfl ?_
    cases e
    exact mGo.iret dX8_part_27 rfl (Nat.le_of_ble_eq_true rfl) (Nat.le_of_ble_eq_true rfl) q
  · replace e := mIff hc e
    refine mGo.aload (n := 14) (r := x1) dX8_part_12 rfl rfl ?_
    refine mGo.iload_n (n := 15) (x := v3) dX8_part_14 rfl rfl ?_
    obtain ⟨x2, e_x2, e⟩ := mBind e
    refine mGo.callV (n := 18) (y := zX7_has) (R' := (mRoom (1) 0 0)) (as := [.int v3]) (st := []) (r0 := x1) dX8_part_15 sc_RX8_150 rfl (s_X7_has x1 v3 h e_x2) (e_X7_has x1 v3 h e_x2) (mFit_of rfl (Nat.le_of_ble_eq_true rfl) (by decide) (Nat.le_of_ble_eq_true rfl) (Nat.le_of_ble_eq_true rfl)) (Nat.le_of_ble_eq_true rfl) rfl rfl ?_
    intro _ _ hq
    rw [hq.1, hq.2]
    show mGo w kX8_part 0 0 18 [some (va_rf v0), some (.int v1), some (.int v2), some (.int v3), some (.int v4), some (va_rf x1)] [.int x2] h Q
    refine mGo.if_eq (tgt := 26) (n := 21) dX8_part_18 (by decide) rfl (fun hc => ?_) (fun hc => ?_)
    · replace e := mIft hc e
      refine mGo.iconst (n := 27) (v := (-1 : Int32)) dX8_part_26 (by decide) rfl ?_
      cases e
      exact mGo.iret dX8_part_27 rfl (Nat.le_of_ble_eq_true rfl) (Nat.le_of_ble_eq_true rfl) q
    · replace e := mIff hc e
      refine mGo.iload (n := 23) (x := v4) dX8_part_21 rfl rfl ?_
      refine mGo.if_ge (tgt := 28) (n := 26) dX8_part_23 (by decide) rfl (fun hc => ?_) (fun hc => ?_)
      · replace e := mIft hc e
        refine mGo.aload (n := 30) (r := x1) dX8_part_28 rfl rfl ?_
        refine mGo.iload_n (n := 31) (x := v2) dX8_part_30 rfl rfl ?_
        refine mGo.aload_n (n := 32) (r := v0) dX8_part_31 rfl rfl ?_
        obtain ⟨x3, e_x3, e⟩ := mBind e
        refine mGo.getR (n := 35) dX8_part_32 sf_RX8_23 e_x3 rfl ?_
        obtain ⟨x4, e_x4, e⟩ := mBind e
        refine mGo.callV (n := 38) (y := zX7_copyLines) (R' := (mRoom (2) 0 0)) (as := [.int v2, va_rf x3]) (st := []) (r0 := x1) dX8_part_35 sc_RX8_208 rfl (s_X7_copyLines x1 v2 x3 h e_x4) (e_X7_copyLines x1 v2 x3 h e_x4) (mFit_of rfl (Nat.le_of_ble_eq_true rfl) (by decide) (Nat.le_of_ble_eq_true rfl) (Nat.le_of_ble_eq_true rfl)) (Nat.le_of_ble_eq_true rfl) rfl rfl ?_
        intro _ _ hq
        rw [hq.1, hq.2]
        show mGo w kX8_part 0 0 38 [some (va_rf v0), some (.int v1), some (.int v2), some (.int v3), some (.int v4), some (va_rf x1)] [] x4 Q
        refine mGo.aload_n (n := 39) (r := v0) dX8_part_38 rfl rfl ?_
        refine mGo.aload (n := 41) (r := x1) dX8_part_39 rfl rfl ?_
        obtain ⟨x5, e_x5, e⟩ := mBind e
        refine mGo.getI (n := 44) dX8_part_41 sf_RX8_122 e_x5 rfl ?_
        refine mGo.iconst (n := 45) (v := (0 : Int32)) dX8_part_44 (by decide) rfl ?_
        refine mGo.iload_n (n := 46) (x := v3) dX8_part_45 rfl rfl ?_
        refine mGo.aload_n (n := 47) (r := v0) dX8_part_46 rfl rfl ?_
        obtain ⟨x6, e_x6, e⟩ := mBind e
        refine mGo.getR (n := 50) dX8_part_47 sf_RX8_23 e_x6 rfl ?_
        refine mGo.iload_n (n := 51) (x := v3) dX8_part_50 rfl rfl ?_
        obtain ⟨x7, e_x7, e⟩ := mBind e
        refine mGo.iald (n := 52) dX8_part_51 e_x7 rfl ?_
        refine mGo.iload (n := 54) (x := v4) dX8_part_52 rfl rfl ?_
        obtain ⟨x8, e_x8, e⟩ := mBind e
        refine mGo.callV (n := 57) (y := zX8_countTriples) (R' := (mRoom (3) 0 0)) (as := [.int x5, .int (0 : Int32), .int v3, .int x7, .int v4]) (st := []) (r0 := v0) dX8_part_54 sc_RX8_212 rfl (s_X8_countTriples v0 x5 (0 : Int32) v3 x7 v4 x4 e_x8) (e_X8_countTriples v0 x5 (0 : Int32) v3 x7 v4 x4 e_x8) (mFit_of rfl (Nat.le_of_ble_eq_true rfl) (by decide) (Nat.le_of_ble_eq_true rfl) (Nat.le_of_ble_eq_true rfl)) (Nat.le_of_ble_eq_true rfl) rfl rfl ?_
        intro _ _ hq
        rw [hq.1, hq.2]
        show mGo w kX8_part 0 0 57 [some (va_rf v0), some (.int v1), some (.int v2), some (.int v3), some (.int v4), some (va_rf x1)] [.int x8] x4 Q
        cases e
        exact mGo.iret dX8_part_57 rfl (Nat.le_of_ble_eq_true rfl) (Nat.le_of_ble_eq_true rfl) q
      · replace e := mIff hc e
        refine mGo.iconst (n := 27) (v := (-1 : Int32)) dX8_part_26 (by decide) rfl ?_
        cases e
        exact mGo.iret dX8_part_27 rfl (Nat.le_of_ble_eq_true rfl) (Nat.le_of_ble_eq_true rfl) q
theorem e_X8_part {w : mWp} (v0 : Option Nat) (v1 : Int32) (v2 : Int32) (v3 : Int32) (v4 : Int32) (h : mH) {res : Int32 × mH} (e : f_X8_part v0 v1 v2 v3 v4 h = some res) : mEx w zX8_part (mRoom 4 0 0) [va_rf v0, .int v1, .int v2, .int v3, .int v4] h (fun r h2 => r = some (.int res.1) ∧ h2 = res.2) := by
  refine mEx.of (by decide +kernel) (show mEnt [va_rf v0, .int v1, .int v2, .int v3, .int v4] 6 = [some (va_rf v0), some (.int v1), some (.int v2), some (.int v3), some (.int v4), none] by rw [mEnt_r, mEnt_i, mEnt_i, mEnt_i, mEnt_i] <;> rfl) (by simp only [List.map_cons, List.map_nil, mRfc, mCi, mCj, List.sum_cons, List.sum_nil]; exact Nat.le_of_ble_eq_true rfl) ?_
  refine g_X8_part v0 v1 v2 v3 v4 h e ?_
  exact ⟨rfl, rfl⟩
theorem s_X8_part (v0 : Option Nat) (v1 : Int32) (v2 : Int32) (v3 : Int32) (v4 : Int32) (h : mH) {res : Int32 × mH} (e : f_X8_part v0 v1 v2 v3 v4 h = some res) : mIs h v0 7 = some () := by
  unfold f_X8_part at e
  obtain ⟨u, e1, _⟩ := mBind e
  cases u
  exact e1
-- X8_form
def kX8_form : mK := (cX8_form, RX8, 4, some (.int), "form", mRoom 25 0 0)
def zX8_form : mY := (yX8_form, cX8_form, 4, some (.int))
set_option maxRecDepth 100000 in
theorem sc_RX8_215 : mSV RX8 215 zX3_find 1 2 := ⟨Or.inr ⟨_, mNest_at 511 (x := Cond.methodLinkNest RX8 215 yX3_find "SignTables") (by decide +kernel) rfl⟩, mT_at 595 (by decide +kernel) rfl, mT_at 22 (by decide +kernel) rfl, mT_at 87 (by decide +kernel) rfl, mT_at 596 (by decide +kernel) rfl, ⟨by decide +kernel, by decide +kernel, by decide +kernel⟩, by decide, rfl⟩
set_option maxRecDepth 100000 in
theorem sf_RX8_217 : mFld RX8 217 2 3 := ⟨by decide, by decide, Or.inr ⟨_, mNest_at 130 (x := Cond.fieldLinkNest RX8 217 (mCR 2) (mCT 2 3).2.1 (mCT 2 3).2.2.1 "SignTables") (by decide +kernel) rfl⟩⟩
noncomputable def f_X8_form (v0 : Option Nat) (v1 : Int32) (v2 : Int32) (h : mH) : Option (Int32 × mH) :=
  (mIs h v0 7).bind fun _ =>
  (f_X8_tableAt v0 v1 h).bind fun x1 =>
  if x1 = none then
    some ((-1 : Int32), h)
  else
    (f_X7_has x1 v2 h).bind fun x2 =>
    if x2 = 0 then
      some ((-1 : Int32), h)
    else
      (mGI h x1 6 0).bind fun x3 =>
      if x3 ≤ (6 : Int32) then
        (mGR h v0 7 7).bind fun x4 =>
        (f_X3_find x4 x1 h).bind fun x5 =>
        (mGR x5 v0 7 7).bind fun x6 =>
        (mGR x5 x6 2 3).bind fun x7 =>
        (mAI x5 x7 v2).bind fun x8 =>
        some (x8, x5)
      else
        some ((-2 : Int32), h)
set_option maxRecDepth 100000 in
set_option maxHeartbeats 4000000 in
theorem g_X8_form {w : mWp} {Q : Option Value → mH → Prop} (v0 : Option Nat) (v1 : Int32) (v2 : Int32) (h : mH) {res : Int32 × mH} (e : f_X8_form v0 v1 v2 h = some res) (q : (fun r : Int32 × mH => Q (some (.int r.1)) r.2) res) : mGo w kX8_form 0 0 0 [some (va_rf v0), some (.int v1), some (.int v2), none] [] h Q := by
  unfold f_X8_form at e
  obtain ⟨_, _, e⟩ := mBind e
  refine mGo.aload_n (n := 1) (r := v0) dX8_form_0 rfl rfl ?_
  refine mGo.iload_n (n := 2) (x := v1) dX8_form_1 rfl rfl ?_
  obtain ⟨x1, e_x1, e⟩ := mBind e
  refine mGo.callV (n := 5) (y := zX8_tableAt) (R' := (mRoom (1) 0 0)) (as := [.int v1]) (st := []) (r0 := v0) dX8_form_2 sc_RX8_118 rfl (s_X8_tableAt v0 v1 h e_x1) (e_X8_tableAt v0 v1 h e_x1) (mFit_of rfl (Nat.le_of_ble_eq_true rfl) (by decide) (Nat.le_of_ble_eq_true rfl) (Nat.le_of_ble_eq_true rfl)) (Nat.le_of_ble_eq_true rfl) rfl rfl ?_
  intro _ _ hq
  rw [hq.1, hq.2]
  show mGo w kX8_form 0 0 5 [some (va_rf v0), some (.int v1), some (.int v2), none] [va_rf x1] h Q
  refine mGo.astore_n (n := 6) (ls' := [some (va_rf v0), some (.int v1), some (.int v2), some (va_rf x1)]) dX8_form_5 rfl (Nat.le_of_ble_eq_true rfl) rfl ?_
  refine mGo.aload_n (n := 7) (r := x1) dX8_form_6 rfl rfl ?_
  refine mGo.ifnull (tgt := 18) (n := 10) dX8_form_7 (by decide) rfl (fun hc => ?_) (fun hc => ?_)
  · replace e := mIft hc e
    refine mGo.iconst (n := 19) (v := (-1 : Int32)) dX8_form_18 (by decide) rfl ?_
    cases e
    exact mGo.iret dX8_form_19 rfl (Nat.le_of_ble_eq_true rfl) (Nat.le_of_ble_eq_true rfl) q
  · replace e := mIff hc e
    refine mGo.aload_n (n := 11) (r := x1) dX8_form_10 rfl rfl ?_
    refine mGo.iload_n (n := 12) (x := v2) dX8_form_11 rfl rfl ?_
    obtain ⟨x2, e_x2, e⟩ := mBind e
    refine mGo.callV (n := 15) (y := zX7_has) (R' := (mRoom (1) 0 0)) (as := [.int v2]) (st := []) (r0 := x1) dX8_form_12 sc_RX8_150 rfl (s_X7_has x1 v2 h e_x2) (e_X7_has x1 v2 h e_x2) (mFit_of rfl (Nat.le_of_ble_eq_true rfl) (by decide) (Nat.le_of_ble_eq_true rfl) (Nat.le_of_ble_eq_true rfl)) (Nat.le_of_ble_eq_true rfl) rfl rfl ?_
    intro _ _ hq
    rw [hq.1, hq.2]
    show mGo w kX8_form 0 0 15 [some (va_rf v0), some (.int v1), some (.int v2), some (va_rf x1)] [.int x2] h Q
    refine mGo.if_ne (tgt := 20) (n := 18) dX8_form_15 (by decide) rfl (fun hc => ?_) (fun hc => ?_)
    · replace e := mIff hc e
      refine mGo.aload_n (n := 21) (r := x1) dX8_form_20 rfl rfl ?_
      obtain ⟨x3, e_x3, e⟩ := mBind e
      refine mGo.getI (n := 24) dX8_form_21 sf_RX8_122 e_x3 rfl ?_
      refine mGo.bipush (n := 26) (v := (6 : Int32)) dX8_form_24 (by decide) rfl ?_
      refine mGo.icmp_le (tgt := 32) (n := 29) dX8_form_26 (by decide) rfl (fun hc => ?_) (fun hc => ?_)
      · replace e := mIft hc e
        refine mGo.aload_n (n := 33) (r := v0) dX8_form_32 rfl rfl ?_
        obtain ⟨x4, e_x4, e⟩ := mBind e
        refine mGo.getR (n := 36) dX8_form_33 sf_RX8_43 e_x4 rfl ?_
        refine mGo.aload_n (n := 37) (r := x1) dX8_form_36 rfl rfl ?_
        obtain ⟨x5, e_x5, e⟩ := mBind e
        refine mGo.callV (n := 40) (y := zX3_find) (R' := (mRoom (24) 0 0)) (as := [va_rf x1]) (st := []) (r0 := x4) dX8_form_37 sc_RX8_215 rfl (s_X3_find x4 x1 h e_x5) (e_X3_find x4 x1 h e_x5) (mFit_of rfl (Nat.le_of_ble_eq_true rfl) (by decide) (Nat.le_of_ble_eq_true rfl) (Nat.le_of_ble_eq_true rfl)) (Nat.le_of_ble_eq_true rfl) rfl rfl ?_
        intro _ _ hq
        rw [hq.1, hq.2]
        show mGo w kX8_form 0 0 40 [some (va_rf v0), some (.int v1), some (.int v2), some (va_rf x1)] [] x5 Q
        refine mGo.aload_n (n := 41) (r := v0) dX8_form_40 rfl rfl ?_
        obtain ⟨x6, e_x6, e⟩ := mBind e
        refine mGo.getR (n := 44) dX8_form_41 sf_RX8_43 e_x6 rfl ?_
        obtain ⟨x7, e_x7, e⟩ := mBind e
        refine mGo.getR (n := 47) dX8_form_44 sf_RX8_217 e_x7 rfl ?_
        refine mGo.iload_n (n := 48) (x := v2) dX8_form_47 rfl rfl ?_
        obtain ⟨x8, e_x8, e⟩ := mBind e
        refine mGo.iald (n := 49) dX8_form_48 e_x8 rfl ?_
        cases e
        exact mGo.iret dX8_form_49 rfl (Nat.le_of_ble_eq_true rfl) (Nat.le_of_ble_eq_true rfl) q
      · replace e := mIff hc e
        refine mGo.bipush (n := 31) (v := (-2 : Int32)) dX8_form_29 (by decide) rfl ?_
        cases e
        exact mGo.iret dX8_form_31 rfl (Nat.le_of_ble_eq_true rfl) (Nat.le_of_ble_eq_true rfl) q
    · replace e := mIft hc e
      refine mGo.iconst (n := 19) (v := (-1 : Int32)) dX8_form_18 (by decide) rfl ?_
      cases e
      exact mGo.iret dX8_form_19 rfl (Nat.le_of_ble_eq_true rfl) (Nat.le_of_ble_eq_true rfl) q
theorem e_X8_form {w : mWp} (v0 : Option Nat) (v1 : Int32) (v2 : Int32) (h : mH) {res : Int32 × mH} (e : f_X8_form v0 v1 v2 h = some res) : mEx w zX8_form (mRoom 25 0 0) [va_rf v0, .int v1, .int v2] h (fun r h2 => r = some (.int res.1) ∧ h2 = res.2) := by
  refine mEx.of (by decide +kernel) (show mEnt [va_rf v0, .int v1, .int v2] 4 = [some (va_rf v0), some (.int v1), some (.int v2), none] by rw [mEnt_r, mEnt_i, mEnt_i] <;> rfl) (by simp only [List.map_cons, List.map_nil, mRfc, mCi, mCj, List.sum_cons, List.sum_nil]; exact Nat.le_of_ble_eq_true rfl) ?_
  refine g_X8_form v0 v1 v2 h e ?_
  exact ⟨rfl, rfl⟩
theorem s_X8_form (v0 : Option Nat) (v1 : Int32) (v2 : Int32) (h : mH) {res : Int32 × mH} (e : f_X8_form v0 v1 v2 h = some res) : mIs h v0 7 = some () := by
  unfold f_X8_form at e
  obtain ⟨u, e1, _⟩ := mBind e
  cases u
  exact e1
-- X8_determinant
def kX8_determinant : mK := (cX8_determinant, RX8, 3, some (.long), "determinant", mRoom 4 0 0)
def zX8_determinant : mY := (yX8_determinant, cX8_determinant, 3, some (.long))
set_option maxRecDepth 100000 in
theorem sc_RX8_222 : mSV RX8 222 zX1_value 1 1 := ⟨Or.inr ⟨_, mNest_at 544 (x := Cond.methodLinkNest RX8 222 yX1_value "SignTables") (by decide +kernel) rfl⟩, mT_at 628 (by decide +kernel) rfl, mT_at 25 (by decide +kernel) rfl, mT_at 89 (by decide +kernel) rfl, mT_at 629 (by decide +kernel) rfl, ⟨by decide +kernel, by decide +kernel, by decide +kernel⟩, by decide, rfl⟩
def f_X8_determinant_c19 (h : mH) : Option (Int64 × mH) :=
  some ((-1000000000 : Int64), h)
set_option maxRecDepth 100000 in
set_option maxHeartbeats 4000000 in
theorem g_X8_determinant_c19 {w : mWp} {Q : Option Value → mH → Prop}  (h : mH) {res : Int64 × mH} (e : f_X8_determinant_c19 h = some res) (q : (fun r : Int64 × mH => Q (some (.long r.1)) r.2) res) : mGo w kX8_determinant 0 0 19 [none, none, none] [] h Q := by
  unfold f_X8_determinant_c19 at e
  refine mGo.ldc2_w (n := 22) (v := (-1000000000 : Int64)) dX8_determinant_19 (mT_at 625 (by decide +kernel) rfl) rfl ?_
  cases e
  exact mGo.lret dX8_determinant_22 rfl (Nat.le_of_ble_eq_true rfl) (Nat.le_of_ble_eq_true rfl) q
noncomputable def f_X8_determinant (v0 : Option Nat) (v1 : Int32) (h : mH) : Option (Int64 × mH) :=
  (mIs h v0 7).bind fun _ =>
  (f_X8_tableAt v0 v1 h).bind fun x1 =>
  if x1 = none then
    f_X8_determinant_c19 h
  else
    (mGI h x1 6 0).bind fun x2 =>
    if x2 ≤ (12 : Int32) then
      (mGR h v0 7 9).bind fun x3 =>
      (f_X1_value x3 x1 h).bind fun x4 =>
      some (x4.1, x4.2)
    else
      f_X8_determinant_c19 h
set_option maxRecDepth 100000 in
set_option maxHeartbeats 4000000 in
theorem g_X8_determinant {w : mWp} {Q : Option Value → mH → Prop} (v0 : Option Nat) (v1 : Int32) (h : mH) {res : Int64 × mH} (e : f_X8_determinant v0 v1 h = some res) (q : (fun r : Int64 × mH => Q (some (.long r.1)) r.2) res) : mGo w kX8_determinant 0 0 0 [some (va_rf v0), some (.int v1), none] [] h Q := by
  unfold f_X8_determinant at e
  obtain ⟨_, _, e⟩ := mBind e
  refine mGo.aload_n (n := 1) (r := v0) dX8_determinant_0 rfl rfl ?_
  refine mGo.iload_n (n := 2) (x := v1) dX8_determinant_1 rfl rfl ?_
  obtain ⟨x1, e_x1, e⟩ := mBind e
  refine mGo.callV (n := 5) (y := zX8_tableAt) (R' := (mRoom (1) 0 0)) (as := [.int v1]) (st := []) (r0 := v0) dX8_determinant_2 sc_RX8_118 rfl (s_X8_tableAt v0 v1 h e_x1) (e_X8_tableAt v0 v1 h e_x1) (mFit_of rfl (Nat.le_of_ble_eq_true rfl) (by decide) (Nat.le_of_ble_eq_true rfl) (Nat.le_of_ble_eq_true rfl)) (Nat.le_of_ble_eq_true rfl) rfl rfl ?_
  intro _ _ hq
  rw [hq.1, hq.2]
  show mGo w kX8_determinant 0 0 5 [some (va_rf v0), some (.int v1), none] [va_rf x1] h Q
  refine mGo.astore_n (n := 6) (ls' := [some (va_rf v0), some (.int v1), some (va_rf x1)]) dX8_determinant_5 rfl (Nat.le_of_ble_eq_true rfl) rfl ?_
  refine mGo.aload_n (n := 7) (r := x1) dX8_determinant_6 rfl rfl ?_
  refine mGo.ifnull (tgt := 19) (n := 10) dX8_determinant_7 (by decide) rfl (fun hc => ?_) (fun hc => ?_)
  · replace e := mIft hc e
    refine mGo.mk [false, false, false] ?_
    exact g_X8_determinant_c19 h e q
  · replace e := mIff hc e
    refine mGo.aload_n (n := 11) (r := x1) dX8_determinant_10 rfl rfl ?_
    obtain ⟨x2, e_x2, e⟩ := mBind e
    refine mGo.getI (n := 14) dX8_determinant_11 sf_RX8_122 e_x2 rfl ?_
    refine mGo.bipush (n := 16) (v := (12 : Int32)) dX8_determinant_14 (by decide) rfl ?_
    refine mGo.icmp_le (tgt := 23) (n := 19) dX8_determinant_16 (by decide) rfl (fun hc => ?_) (fun hc => ?_)
    · replace e := mIft hc e
      refine mGo.aload_n (n := 24) (r := v0) dX8_determinant_23 rfl rfl ?_
      obtain ⟨x3, e_x3, e⟩ := mBind e
      refine mGo.getR (n := 27) dX8_determinant_24 sf_RX8_57 e_x3 rfl ?_
      refine mGo.aload_n (n := 28) (r := x1) dX8_determinant_27 rfl rfl ?_
      obtain ⟨x4, e_x4, e⟩ := mBind e
      refine mGo.callV (n := 31) (y := zX1_value) (R' := (mRoom (3) 0 0)) (as := [va_rf x1]) (st := []) (r0 := x3) dX8_determinant_28 sc_RX8_222 rfl (s_X1_value x3 x1 h e_x4) (e_X1_value x3 x1 h e_x4) (mFit_of rfl (Nat.le_of_ble_eq_true rfl) (by decide) (Nat.le_of_ble_eq_true rfl) (Nat.le_of_ble_eq_true rfl)) (Nat.le_of_ble_eq_true rfl) rfl rfl ?_
      intro _ _ hq
      rw [hq.1, hq.2]
      show mGo w kX8_determinant 0 0 31 [some (va_rf v0), some (.int v1), some (va_rf x1)] [.long x4.1] x4.2 Q
      cases e
      exact mGo.lret dX8_determinant_31 rfl (Nat.le_of_ble_eq_true rfl) (Nat.le_of_ble_eq_true rfl) q
    · replace e := mIff hc e
      refine mGo.mk [false, false, false] ?_
      exact g_X8_determinant_c19 h e q
theorem e_X8_determinant {w : mWp} (v0 : Option Nat) (v1 : Int32) (h : mH) {res : Int64 × mH} (e : f_X8_determinant v0 v1 h = some res) : mEx w zX8_determinant (mRoom 4 0 0) [va_rf v0, .int v1] h (fun r h2 => r = some (.long res.1) ∧ h2 = res.2) := by
  refine mEx.of (by decide +kernel) (show mEnt [va_rf v0, .int v1] 3 = [some (va_rf v0), some (.int v1), none] by rw [mEnt_r, mEnt_i] <;> rfl) (by simp only [List.map_cons, List.map_nil, mRfc, mCi, mCj, List.sum_cons, List.sum_nil]; exact Nat.le_of_ble_eq_true rfl) ?_
  refine g_X8_determinant v0 v1 h e ?_
  exact ⟨rfl, rfl⟩
theorem s_X8_determinant (v0 : Option Nat) (v1 : Int32) (h : mH) {res : Int64 × mH} (e : f_X8_determinant v0 v1 h = some res) : mIs h v0 7 = some () := by
  unfold f_X8_determinant at e
  obtain ⟨u, e1, _⟩ := mBind e
  cases u
  exact e1
-- X8_canMatch
def kX8_canMatch : mK := (cX8_canMatch, RX8, 2, some (.boolean), "canMatch", mRoom 4 0 0)
def zX8_canMatch : mY := (yX8_canMatch, cX8_canMatch, 2, some (.boolean))
noncomputable def f_X8_canMatch (v0 : Option Nat) (v1 : Option Nat) (h : mH) : Option (Int32) :=
  (mGI h v0 6 0).bind fun x1 =>
  (mGI h v1 6 0).bind fun x2 =>
  if x1 = x2 then
    (mGI h v0 6 0).bind fun x3 =>
    if x3 ≤ (12 : Int32) then
      (mGI h v0 6 0).bind fun x4 =>
      if x4 ≤ (6 : Int32) then
        some (1 : Int32)
      else
        (f_X7_firstSlantPair v0 h).bind fun x5 =>
        if x5 = (-2 : Int32) then
          (f_X7_firstSlantPair v1 h).bind fun x6 =>
          if x6 = (-2 : Int32) then
            some (1 : Int32)
          else
            some (0 : Int32)
        else
          some (0 : Int32)
    else
      some (0 : Int32)
  else
    some (0 : Int32)
set_option maxRecDepth 100000 in
set_option maxHeartbeats 4000000 in
theorem g_X8_canMatch {w : mWp} {Q : Option Value → mH → Prop} (v0 : Option Nat) (v1 : Option Nat) (h : mH) {res : Int32} (e : f_X8_canMatch v0 v1 h = some res) (q : (fun r : Int32 => Q (some (.int r)) h) res) : mGo w kX8_canMatch 0 0 0 [some (va_rf v0), some (va_rf v1)] [] h Q := by
  unfold f_X8_canMatch at e
  refine mGo.aload_n (n := 1) (r := v0) dX8_canMatch_0 rfl rfl ?_
  obtain ⟨x1, e_x1, e⟩ := mBind e
  refine mGo.getI (n := 4) dX8_canMatch_1 sf_RX8_122 e_x1 rfl ?_
  refine mGo.aload_n (n := 5) (r := v1) dX8_canMatch_4 rfl rfl ?_
  obtain ⟨x2, e_x2, e⟩ := mBind e
  refine mGo.getI (n := 8) dX8_canMatch_5 sf_RX8_122 e_x2 rfl ?_
  refine mGo.icmp_ne (tgt := 20) (n := 11) dX8_canMatch_8 (by decide) rfl (fun hc => ?_) (fun hc => ?_)
  · replace e := mIff hc e
    refine mGo.iconst (n := 21) (v := (0 : Int32)) dX8_canMatch_20 (by decide) rfl ?_
    cases e
    exact mGo.zret dX8_canMatch_21 rfl (by decide) (Nat.le_of_ble_eq_true rfl) (Nat.le_of_ble_eq_true rfl) q
  · replace e := mIft hc e
    refine mGo.aload_n (n := 12) (r := v0) dX8_canMatch_11 rfl rfl ?_
    obtain ⟨x3, e_x3, e⟩ := mBind e
    refine mGo.getI (n := 15) dX8_canMatch_12 sf_RX8_122 e_x3 rfl ?_
    refine mGo.bipush (n := 17) (v := (12 : Int32)) dX8_canMatch_15 (by decide) rfl ?_
    refine mGo.icmp_le (tgt := 22) (n := 20) dX8_canMatch_17 (by decide) rfl (fun hc => ?_) (fun hc => ?_)
    · replace e := mIft hc e
      refine mGo.aload_n (n := 23) (r := v0) dX8_canMatch_22 rfl rfl ?_
      obtain ⟨x4, e_x4, e⟩ := mBind e
      refine mGo.getI (n := 26) dX8_canMatch_23 sf_RX8_122 e_x4 rfl ?_
      refine mGo.bipush (n := 28) (v := (6 : Int32)) dX8_canMatch_26 (by decide) rfl ?_
      refine mGo.icmp_le (tgt := 49) (n := 31) dX8_canMatch_28 (by decide) rfl (fun hc => ?_) (fun hc => ?_)
      · replace e := mIft hc e
        refine mGo.iconst (n := 50) (v := (1 : Int32)) dX8_canMatch_49 (by decide) rfl ?_
        refine mGo.goto (tgt := 54) dX8_canMatch_50 (by decide) ?_
        cases e
        exact mGo.zret dX8_canMatch_54 rfl (by decide) (Nat.le_of_ble_eq_true rfl) (Nat.le_of_ble_eq_true rfl) q
      · replace e := mIff hc e
        refine mGo.aload_n (n := 32) (r := v0) dX8_canMatch_31 rfl rfl ?_
        obtain ⟨x5, e_x5, e⟩ := mBind e
        refine mGo.callV (n := 35) (y := zX7_firstSlantPair) (R' := (mRoom (3) 0 0)) (as := []) (st := []) (r0 := v0) dX8_canMatch_32 sc_RX8_189 rfl (s_X7_firstSlantPair v0 h e_x5) (e_X7_firstSlantPair v0 h e_x5) (mFit_of rfl (Nat.le_of_ble_eq_true rfl) (by decide) (Nat.le_of_ble_eq_true rfl) (Nat.le_of_ble_eq_true rfl)) (Nat.le_of_ble_eq_true rfl) rfl rfl ?_
        intro _ _ hq
        rw [hq.1, hq.2]
        show mGo w kX8_canMatch 0 0 35 [some (va_rf v0), some (va_rf v1)] [.int x5] h Q
        refine mGo.bipush (n := 37) (v := (-2 : Int32)) dX8_canMatch_35 (by decide) rfl ?_
        refine mGo.icmp_ne (tgt := 53) (n := 40) dX8_canMatch_37 (by decide) rfl (fun hc => ?_) (fun hc => ?_)
        · replace e := mIff hc e
          refine mGo.iconst (n := 54) (v := (0 : Int32)) dX8_canMatch_53 (by decide) rfl ?_
          cases e
          exact mGo.zret dX8_canMatch_54 rfl (by decide) (Nat.le_of_ble_eq_true rfl) (Nat.le_of_ble_eq_true rfl) q
        · replace e := mIft hc e
          refine mGo.aload_n (n := 41) (r := v1) dX8_canMatch_40 rfl rfl ?_
          obtain ⟨x6, e_x6, e⟩ := mBind e
          refine mGo.callV (n := 44) (y := zX7_firstSlantPair) (R' := (mRoom (3) 0 0)) (as := []) (st := []) (r0 := v1) dX8_canMatch_41 sc_RX8_189 rfl (s_X7_firstSlantPair v1 h e_x6) (e_X7_firstSlantPair v1 h e_x6) (mFit_of rfl (Nat.le_of_ble_eq_true rfl) (by decide) (Nat.le_of_ble_eq_true rfl) (Nat.le_of_ble_eq_true rfl)) (Nat.le_of_ble_eq_true rfl) rfl rfl ?_
          intro _ _ hq
          rw [hq.1, hq.2]
          show mGo w kX8_canMatch 0 0 44 [some (va_rf v0), some (va_rf v1)] [.int x6] h Q
          refine mGo.bipush (n := 46) (v := (-2 : Int32)) dX8_canMatch_44 (by decide) rfl ?_
          refine mGo.icmp_ne (tgt := 53) (n := 49) dX8_canMatch_46 (by decide) rfl (fun hc => ?_) (fun hc => ?_)
          · replace e := mIff hc e
            refine mGo.iconst (n := 54) (v := (0 : Int32)) dX8_canMatch_53 (by decide) rfl ?_
            cases e
            exact mGo.zret dX8_canMatch_54 rfl (by decide) (Nat.le_of_ble_eq_true rfl) (Nat.le_of_ble_eq_true rfl) q
          · replace e := mIft hc e
            refine mGo.iconst (n := 50) (v := (1 : Int32)) dX8_canMatch_49 (by decide) rfl ?_
            refine mGo.goto (tgt := 54) dX8_canMatch_50 (by decide) ?_
            cases e
            exact mGo.zret dX8_canMatch_54 rfl (by decide) (Nat.le_of_ble_eq_true rfl) (Nat.le_of_ble_eq_true rfl) q
    · replace e := mIff hc e
      refine mGo.iconst (n := 21) (v := (0 : Int32)) dX8_canMatch_20 (by decide) rfl ?_
      cases e
      exact mGo.zret dX8_canMatch_21 rfl (by decide) (Nat.le_of_ble_eq_true rfl) (Nat.le_of_ble_eq_true rfl) q
theorem e_X8_canMatch {w : mWp} (v0 : Option Nat) (v1 : Option Nat) (h : mH) {res : Int32} (e : f_X8_canMatch v0 v1 h = some res) : mEx w zX8_canMatch (mRoom 4 0 0) [va_rf v0, va_rf v1] h (fun r h2 => r = some (.int res) ∧ h2 = h) := by
  refine mEx.of (by decide +kernel) (show mEnt [va_rf v0, va_rf v1] 2 = [some (va_rf v0), some (va_rf v1)] by rw [mEnt_r, mEnt_r] <;> rfl) (by simp only [List.map_cons, List.map_nil, mRfc, mCi, mCj, List.sum_cons, List.sum_nil]; exact Nat.le_of_ble_eq_true rfl) ?_
  refine g_X8_canMatch v0 v1 h e ?_
  exact ⟨rfl, rfl⟩
-- X8_like
def kX8_like : mK := (cX8_like, RX8, 5, some (.int), "like", mRoom 25 0 0)
def zX8_like : mY := (yX8_like, cX8_like, 5, some (.int))
set_option maxRecDepth 100000 in
theorem sc_RX8_226 : mSS RX8 226 zX8_canMatch 2 := ⟨Or.inl (mT_at 648 (by decide +kernel) rfl), mT_at 649 (by decide +kernel) rfl, mT_at 83 (by decide +kernel) rfl, mT_at 650 (by decide +kernel) rfl, ⟨by decide +kernel, by decide +kernel, by decide +kernel⟩⟩
set_option maxRecDepth 100000 in
theorem sc_RX8_230 : mSV RX8 230 zX4_findFirst 2 3 := ⟨Or.inr ⟨_, mNest_at 569 (x := Cond.methodLinkNest RX8 230 yX4_findFirst "SignTables") (by decide +kernel) rfl⟩, mT_at 653 (by decide +kernel) rfl, mT_at 29 (by decide +kernel) rfl, mT_at 86 (by decide +kernel) rfl, mT_at 654 (by decide +kernel) rfl, ⟨by decide +kernel, by decide +kernel, by decide +kernel⟩, by decide, rfl⟩
noncomputable def f_X8_like (v0 : Option Nat) (v1 : Int32) (v2 : Int32) (h : mH) : Option (Int32 × mH) :=
  (mIs h v0 7).bind fun _ =>
  (f_X8_tableAt v0 v1 h).bind fun x1 =>
  (f_X8_tableAt v0 v2 h).bind fun x2 =>
  if x1 = none then
    some ((-1 : Int32), h)
  else
    if x2 = none then
      some ((-1 : Int32), h)
    else
      (f_X8_canMatch x1 x2 h).bind fun x3 =>
      if x3 = 0 then
        some ((-2 : Int32), h)
      else
        (mGR h v0 7 6).bind fun x4 =>
        (f_X4_findFirst x4 x1 x2 h).bind fun x5 =>
        if x5.1 = 0 then
          some ((0 : Int32), x5.2)
        else
          some ((1 : Int32), x5.2)
set_option maxRecDepth 100000 in
set_option maxHeartbeats 4000000 in
theorem g_X8_like {w : mWp} {Q : Option Value → mH → Prop} (v0 : Option Nat) (v1 : Int32) (v2 : Int32) (h : mH) {res : Int32 × mH} (e : f_X8_like v0 v1 v2 h = some res) (q : (fun r : Int32 × mH => Q (some (.int r.1)) r.2) res) : mGo w kX8_like 0 0 0 [some (va_rf v0), some (.int v1), some (.int v2), none, none] [] h Q := by
  unfold f_X8_like at e
  obtain ⟨_, _, e⟩ := mBind e
  refine mGo.aload_n (n := 1) (r := v0) dX8_like_0 rfl rfl ?_
  refine mGo.iload_n (n := 2) (x := v1) dX8_like_1 rfl rfl ?_
  obtain ⟨x1, e_x1, e⟩ := mBind e
  refine mGo.callV (n := 5) (y := zX8_tableAt) (R' := (mRoom (1) 0 0)) (as := [.int v1]) (st := []) (r0 := v0) dX8_like_2 sc_RX8_118 rfl (s_X8_tableAt v0 v1 h e_x1) (e_X8_tableAt v0 v1 h e_x1) (mFit_of rfl (Nat.le_of_ble_eq_true rfl) (by decide) (Nat.le_of_ble_eq_true rfl) (Nat.le_of_ble_eq_true rfl)) (Nat.le_of_ble_eq_true rfl) rfl rfl ?_
  intro _ _ hq
  rw [hq.1, hq.2]
  show mGo w kX8_like 0 0 5 [some (va_rf v0), some (.int v1), some (.int v2), none, none] [va_rf x1] h Q
  refine mGo.astore_n (n := 6) (ls' := [some (va_rf v0), some (.int v1), some (.int v2), some (va_rf x1), none]) dX8_like_5 rfl (Nat.le_of_ble_eq_true rfl) rfl ?_
  refine mGo.aload_n (n := 7) (r := v0) dX8_like_6 rfl rfl ?_
  refine mGo.iload_n (n := 8) (x := v2) dX8_like_7 rfl rfl ?_
  obtain ⟨x2, e_x2, e⟩ := mBind e
  refine mGo.callV (n := 11) (y := zX8_tableAt) (R' := (mRoom (1) 0 0)) (as := [.int v2]) (st := []) (r0 := v0) dX8_like_8 sc_RX8_118 rfl (s_X8_tableAt v0 v2 h e_x2) (e_X8_tableAt v0 v2 h e_x2) (mFit_of rfl (Nat.le_of_ble_eq_true rfl) (by decide) (Nat.le_of_ble_eq_true rfl) (Nat.le_of_ble_eq_true rfl)) (Nat.le_of_ble_eq_true rfl) rfl rfl ?_
  intro _ _ hq
  rw [hq.1, hq.2]
  show mGo w kX8_like 0 0 11 [some (va_rf v0), some (.int v1), some (.int v2), some (va_rf x1), none] [va_rf x2] h Q
  refine mGo.astore (n := 13) (ls' := [some (va_rf v0), some (.int v1), some (.int v2), some (va_rf x1), some (va_rf x2)]) dX8_like_11 ((mSt_set (fun u _ hu => by cases hu; exact mRfc _)).trans rfl) (Nat.le_of_ble_eq_true rfl) rfl ?_
  refine mGo.aload_n (n := 14) (r := x1) dX8_like_13 rfl rfl ?_
  refine mGo.ifnull (tgt := 22) (n := 17) dX8_like_14 (by decide) rfl (fun hc => ?_) (fun hc => ?_)
  · replace e := mIft hc e
    refine mGo.iconst (n := 23) (v := (-1 : Int32)) dX8_like_22 (by decide) rfl ?_
    cases e
    exact mGo.iret dX8_like_23 rfl (Nat.le_of_ble_eq_true rfl) (Nat.le_of_ble_eq_true rfl) q
  · replace e := mIff hc e
    refine mGo.aload (n := 19) (r := x2) dX8_like_17 rfl rfl ?_
    refine mGo.ifnonnull (tgt := 24) (n := 22) dX8_like_19 (by decide) rfl (fun hc => ?_) (fun hc => ?_)
    · replace e := mIff hc e
      refine mGo.aload_n (n := 25) (r := x1) dX8_like_24 rfl rfl ?_
      refine mGo.aload (n := 27) (r := x2) dX8_like_25 rfl rfl ?_
      obtain ⟨x3, e_x3, e⟩ := mBind e
      refine mGo.callS (n := 30) (y := zX8_canMatch) (R' := (mRoom (4) 0 0)) (as := [va_rf x1, va_rf x2]) (st := []) dX8_like_27 sc_RX8_226 rfl (e_X8_canMatch x1 x2 h e_x3) (mFit_of rfl (Nat.le_of_ble_eq_true rfl) (by decide) (Nat.le_of_ble_eq_true rfl) (Nat.le_of_ble_eq_true rfl)) (Nat.le_of_ble_eq_true rfl) rfl rfl ?_
      intro _ _ hq
      rw [hq.1, hq.2]
      show mGo w kX8_like 0 0 30 [some (va_rf v0), some (.int v1), some (.int v2), some (va_rf x1), some (va_rf x2)] [.int x3] h Q
      refine mGo.if_ne (tgt := 36) (n := 33) dX8_like_30 (by decide) rfl (fun hc => ?_) (fun hc => ?_)
      · replace e := mIff hc e
        refine mGo.aload_n (n := 37) (r := v0) dX8_like_36 rfl rfl ?_
        obtain ⟨x4, e_x4, e⟩ := mBind e
        refine mGo.getR (n := 40) dX8_like_37 sf_RX8_36 e_x4 rfl ?_
        refine mGo.aload_n (n := 41) (r := x1) dX8_like_40 rfl rfl ?_
        refine mGo.aload (n := 43) (r := x2) dX8_like_41 rfl rfl ?_
        obtain ⟨x5, e_x5, e⟩ := mBind e
        refine mGo.callV (n := 46) (y := zX4_findFirst) (R' := (mRoom (24) 0 0)) (as := [va_rf x1, va_rf x2]) (st := []) (r0 := x4) dX8_like_43 sc_RX8_230 rfl (s_X4_findFirst x4 x1 x2 h e_x5) (e_X4_findFirst x4 x1 x2 h e_x5) (mFit_of rfl (Nat.le_of_ble_eq_true rfl) (by decide) (Nat.le_of_ble_eq_true rfl) (Nat.le_of_ble_eq_true rfl)) (Nat.le_of_ble_eq_true rfl) rfl rfl ?_
        intro _ _ hq
        rw [hq.1, hq.2]
        show mGo w kX8_like 0 0 46 [some (va_rf v0), some (.int v1), some (.int v2), some (va_rf x1), some (va_rf x2)] [.int x5.1] x5.2 Q
        refine mGo.if_eq (tgt := 53) (n := 49) dX8_like_46 (by decide) rfl (fun hc => ?_) (fun hc => ?_)
        · replace e := mIft hc e
          refine mGo.iconst (n := 54) (v := (0 : Int32)) dX8_like_53 (by decide) rfl ?_
          cases e
          exact mGo.iret dX8_like_54 rfl (Nat.le_of_ble_eq_true rfl) (Nat.le_of_ble_eq_true rfl) q
        · replace e := mIff hc e
          refine mGo.iconst (n := 50) (v := (1 : Int32)) dX8_like_49 (by decide) rfl ?_
          refine mGo.goto (tgt := 54) dX8_like_50 (by decide) ?_
          cases e
          exact mGo.iret dX8_like_54 rfl (Nat.le_of_ble_eq_true rfl) (Nat.le_of_ble_eq_true rfl) q
      · replace e := mIft hc e
        refine mGo.bipush (n := 35) (v := (-2 : Int32)) dX8_like_33 (by decide) rfl ?_
        cases e
        exact mGo.iret dX8_like_35 rfl (Nat.le_of_ble_eq_true rfl) (Nat.le_of_ble_eq_true rfl) q
    · replace e := mIft hc e
      refine mGo.iconst (n := 23) (v := (-1 : Int32)) dX8_like_22 (by decide) rfl ?_
      cases e
      exact mGo.iret dX8_like_23 rfl (Nat.le_of_ble_eq_true rfl) (Nat.le_of_ble_eq_true rfl) q
theorem e_X8_like {w : mWp} (v0 : Option Nat) (v1 : Int32) (v2 : Int32) (h : mH) {res : Int32 × mH} (e : f_X8_like v0 v1 v2 h = some res) : mEx w zX8_like (mRoom 25 0 0) [va_rf v0, .int v1, .int v2] h (fun r h2 => r = some (.int res.1) ∧ h2 = res.2) := by
  refine mEx.of (by decide +kernel) (show mEnt [va_rf v0, .int v1, .int v2] 5 = [some (va_rf v0), some (.int v1), some (.int v2), none, none] by rw [mEnt_r, mEnt_i, mEnt_i] <;> rfl) (by simp only [List.map_cons, List.map_nil, mRfc, mCi, mCj, List.sum_cons, List.sum_nil]; exact Nat.le_of_ble_eq_true rfl) ?_
  refine g_X8_like v0 v1 v2 h e ?_
  exact ⟨rfl, rfl⟩
theorem s_X8_like (v0 : Option Nat) (v1 : Int32) (v2 : Int32) (h : mH) {res : Int32 × mH} (e : f_X8_like v0 v1 v2 h = some res) : mIs h v0 7 = some () := by
  unfold f_X8_like at e
  obtain ⟨u, e1, _⟩ := mBind e
  cases u
  exact e1
-- X8_image
def kX8_image : mK := (cX8_image, RX8, 7, some (.int), "image", mRoom 25 0 0)
def zX8_image : mY := (yX8_image, cX8_image, 7, some (.int))
set_option maxRecDepth 100000 in
theorem sc_RX8_236 : mSV RX8 236 zX4_columnImage 1 3 := ⟨Or.inr ⟨_, mNest_at 596 (x := Cond.methodLinkNest RX8 236 yX4_columnImage "SignTables") (by decide +kernel) rfl⟩, mT_at 680 (by decide +kernel) rfl, mT_at 33 (by decide +kernel) rfl, mT_at 86 (by decide +kernel) rfl, mT_at 681 (by decide +kernel) rfl, ⟨by decide +kernel, by decide +kernel, by decide +kernel⟩, by decide, rfl⟩
set_option maxRecDepth 100000 in
theorem sf_RX8_233 : mFld RX8 233 3 5 := ⟨by decide, by decide, Or.inr ⟨_, mNest_at 97 (x := Cond.fieldLinkNest RX8 233 (mCR 3) (mCT 3 5).2.1 (mCT 3 5).2.2.1 "SignTables") (by decide +kernel) rfl⟩⟩
noncomputable def f_X8_image (v0 : Option Nat) (v1 : Int32) (v2 : Int32) (v3 : Int32) (v4 : Int32) (h : mH) : Option (Int32 × mH) :=
  (mIs h v0 7).bind fun _ =>
  (f_X8_tableAt v0 v1 h).bind fun x1 =>
  (f_X8_tableAt v0 v2 h).bind fun x2 =>
  if x1 = none then
    some ((-1 : Int32), h)
  else
    if x2 = none then
      some ((-1 : Int32), h)
    else
      (f_X7_has x1 v4 h).bind fun x3 =>
      if x3 = 0 then
        some ((-1 : Int32), h)
      else
        (f_X8_canMatch x1 x2 h).bind fun x4 =>
        if x4 = 0 then
          some ((-2 : Int32), h)
        else
          (mGR h v0 7 6).bind fun x5 =>
          (f_X4_findFirst x5 x1 x2 h).bind fun x6 =>
          if x6.1 = 0 then
            some ((-2 : Int32), x6.2)
          else
            if v3 = 0 then
              (mGR x6.2 v0 7 6).bind fun x7 =>
              (f_X4_columnImage x7 v4 x6.2).bind fun x8 =>
              some (x8, x6.2)
            else
              (mGR x6.2 v0 7 6).bind fun x9 =>
              (mGR x6.2 x9 3 5).bind fun x10 =>
              (mAI x6.2 x10 v4).bind fun x11 =>
              some (x11, x6.2)
set_option maxRecDepth 100000 in
set_option maxHeartbeats 4000000 in
theorem g_X8_image {w : mWp} {Q : Option Value → mH → Prop} (v0 : Option Nat) (v1 : Int32) (v2 : Int32) (v3 : Int32) (v4 : Int32) (h : mH) {res : Int32 × mH} (e : f_X8_image v0 v1 v2 v3 v4 h = some res) (q : (fun r : Int32 × mH => Q (some (.int r.1)) r.2) res) : mGo w kX8_image 0 0 0 [some (va_rf v0), some (.int v1), some (.int v2), some (.int v3), some (.int v4), none, none] [] h Q := by
  unfold f_X8_image at e
  obtain ⟨_, _, e⟩ := mBind e
  refine mGo.aload_n (n := 1) (r := v0) dX8_image_0 rfl rfl ?_
  refine mGo.iload_n (n := 2) (x := v1) dX8_image_1 rfl rfl ?_
  obtain ⟨x1, e_x1, e⟩ := mBind e
  refine mGo.callV (n := 5) (y := zX8_tableAt) (R' := (mRoom (1) 0 0)) (as := [.int v1]) (st := []) (r0 := v0) dX8_image_2 sc_RX8_118 rfl (s_X8_tableAt v0 v1 h e_x1) (e_X8_tableAt v0 v1 h e_x1) (mFit_of rfl (Nat.le_of_ble_eq_true rfl) (by decide) (Nat.le_of_ble_eq_true rfl) (Nat.le_of_ble_eq_true rfl)) (Nat.le_of_ble_eq_true rfl) rfl rfl ?_
  intro _ _ hq
  rw [hq.1, hq.2]
  show mGo w kX8_image 0 0 5 [some (va_rf v0), some (.int v1), some (.int v2), some (.int v3), some (.int v4), none, none] [va_rf x1] h Q
  refine mGo.astore (n := 7) (ls' := [some (va_rf v0), some (.int v1), some (.int v2), some (.int v3), some (.int v4), some (va_rf x1), none]) dX8_image_5 rfl (Nat.le_of_ble_eq_true rfl) rfl ?_
  refine mGo.aload_n (n := 8) (r := v0) dX8_image_7 rfl rfl ?_
  refine mGo.iload_n (n := 9) (x := v2) dX8_image_8 rfl rfl ?_
  obtain ⟨x2, e_x2, e⟩ := mBind e
  refine mGo.callV (n := 12) (y := zX8_tableAt) (R' := (mRoom (1) 0 0)) (as := [.int v2]) (st := []) (r0 := v0) dX8_image_9 sc_RX8_118 rfl (s_X8_tableAt v0 v2 h e_x2) (e_X8_tableAt v0 v2 h e_x2) (mFit_of rfl (Nat.le_of_ble_eq_true rfl) (by decide) (Nat.le_of_ble_eq_true rfl) (Nat.le_of_ble_eq_true rfl)) (Nat.le_of_ble_eq_true rfl) rfl rfl ?_
  intro _ _ hq
  rw [hq.1, hq.2]
  show mGo w kX8_image 0 0 12 [some (va_rf v0), some (.int v1), some (.int v2), some (.int v3), some (.int v4), some (va_rf x1), none] [va_rf x2] h Q
  refine mGo.astore (n := 14) (ls' := [some (va_rf v0), some (.int v1), some (.int v2), some (.int v3), some (.int v4), some (va_rf x1), some (va_rf x2)]) dX8_image_12 ((mSt_set (fun u _ hu => by cases hu; exact mRfc _)).trans rfl) (Nat.le_of_ble_eq_true rfl) rfl ?_
  refine mGo.aload (n := 16) (r := x1) dX8_image_14 rfl rfl ?_
  refine mGo.ifnull (tgt := 34) (n := 19) dX8_image_16 (by decide) rfl (fun hc => ?_) (fun hc => ?_)
  · replace e := mIft hc e
    refine mGo.iconst (n := 35) (v := (-1 : Int32)) dX8_image_34 (by decide) rfl ?_
    cases e
    exact mGo.iret dX8_image_35 rfl (Nat.le_of_ble_eq_true rfl) (Nat.le_of_ble_eq_true rfl) q
  · replace e := mIff hc e
    refine mGo.aload (n := 21) (r := x2) dX8_image_19 rfl rfl ?_
    refine mGo.ifnull (tgt := 34) (n := 24) dX8_image_21 (by decide) rfl (fun hc => ?_) (fun hc => ?_)
    · replace e := mIft hc e
      refine mGo.iconst (n := 35) (v := (-1 : Int32)) dX8_image_34 (by decide) rfl ?_
      cases e
      exact mGo.iret dX8_image_35 rfl (Nat.le_of_ble_eq_true rfl) (Nat.le_of_ble_eq_true rfl) q
    · replace e := mIff hc e
      refine mGo.aload (n := 26) (r := x1) dX8_image_24 rfl rfl ?_
      refine mGo.iload (n := 28) (x := v4) dX8_image_26 rfl rfl ?_
      obtain ⟨x3, e_x3, e⟩ := mBind e
      refine mGo.callV (n := 31) (y := zX7_has) (R' := (mRoom (1) 0 0)) (as := [.int v4]) (st := []) (r0 := x1) dX8_image_28 sc_RX8_150 rfl (s_X7_has x1 v4 h e_x3) (e_X7_has x1 v4 h e_x3) (mFit_of rfl (Nat.le_of_ble_eq_true rfl) (by decide) (Nat.le_of_ble_eq_true rfl) (Nat.le_of_ble_eq_true rfl)) (Nat.le_of_ble_eq_true rfl) rfl rfl ?_
      intro _ _ hq
      rw [hq.1, hq.2]
      show mGo w kX8_image 0 0 31 [some (va_rf v0), some (.int v1), some (.int v2), some (.int v3), some (.int v4), some (va_rf x1), some (va_rf x2)] [.int x3] h Q
      refine mGo.if_ne (tgt := 36) (n := 34) dX8_image_31 (by decide) rfl (fun hc => ?_) (fun hc => ?_)
      · replace e := mIff hc e
        refine mGo.aload (n := 38) (r := x1) dX8_image_36 rfl rfl ?_
        refine mGo.aload (n := 40) (r := x2) dX8_image_38 rfl rfl ?_
        obtain ⟨x4, e_x4, e⟩ := mBind e
        refine mGo.callS (n := 43) (y := zX8_canMatch) (R' := (mRoom (4) 0 0)) (as := [va_rf x1, va_rf x2]) (st := []) dX8_image_40 sc_RX8_226 rfl (e_X8_canMatch x1 x2 h e_x4) (mFit_of rfl (Nat.le_of_ble_eq_true rfl) (by decide) (Nat.le_of_ble_eq_true rfl) (Nat.le_of_ble_eq_true rfl)) (Nat.le_of_ble_eq_true rfl) rfl rfl ?_
        intro _ _ hq
        rw [hq.1, hq.2]
        show mGo w kX8_image 0 0 43 [some (va_rf v0), some (.int v1), some (.int v2), some (.int v3), some (.int v4), some (va_rf x1), some (va_rf x2)] [.int x4] h Q
        refine mGo.if_eq (tgt := 60) (n := 46) dX8_image_43 (by decide) rfl (fun hc => ?_) (fun hc => ?_)
        · replace e := mIft hc e
          refine mGo.bipush (n := 62) (v := (-2 : Int32)) dX8_image_60 (by decide) rfl ?_
          cases e
          exact mGo.iret dX8_image_62 rfl (Nat.le_of_ble_eq_true rfl) (Nat.le_of_ble_eq_true rfl) q
        · replace e := mIff hc e
          refine mGo.aload_n (n := 47) (r := v0) dX8_image_46 rfl rfl ?_
          obtain ⟨x5, e_x5, e⟩ := mBind e
          refine mGo.getR (n := 50) dX8_image_47 sf_RX8_36 e_x5 rfl ?_
          refine mGo.aload (n := 52) (r := x1) dX8_image_50 rfl rfl ?_
          refine mGo.aload (n := 54) (r := x2) dX8_image_52 rfl rfl ?_
          obtain ⟨x6, e_x6, e⟩ := mBind e
          refine mGo.callV (n := 57) (y := zX4_findFirst) (R' := (mRoom (24) 0 0)) (as := [va_rf x1, va_rf x2]) (st := []) (r0 := x5) dX8_image_54 sc_RX8_230 rfl (s_X4_findFirst x5 x1 x2 h e_x6) (e_X4_findFirst x5 x1 x2 h e_x6) (mFit_of rfl (Nat.le_of_ble_eq_true rfl) (by decide) (Nat.le_of_ble_eq_true rfl) (Nat.le_of_ble_eq_true rfl)) (Nat.le_of_ble_eq_true rfl) rfl rfl ?_
          intro _ _ hq
          rw [hq.1, hq.2]
          show mGo w kX8_image 0 0 57 [some (va_rf v0), some (.int v1), some (.int v2), some (.int v3), some (.int v4), some (va_rf x1), some (va_rf x2)] [.int x6.1] x6.2 Q
          refine mGo.if_ne (tgt := 63) (n := 60) dX8_image_57 (by decide) rfl (fun hc => ?_) (fun hc => ?_)
          · replace e := mIff hc e
            refine mGo.iload_n (n := 64) (x := v3) dX8_image_63 rfl rfl ?_
            refine mGo.if_eq (tgt := 80) (n := 67) dX8_image_64 (by decide) rfl (fun hc => ?_) (fun hc => ?_)
            · replace e := mIft hc e
              refine mGo.aload_n (n := 81) (r := v0) dX8_image_80 rfl rfl ?_
              obtain ⟨x7, e_x7, e⟩ := mBind e
              refine mGo.getR (n := 84) dX8_image_81 sf_RX8_36 e_x7 rfl ?_
              refine mGo.iload (n := 86) (x := v4) dX8_image_84 rfl rfl ?_
              obtain ⟨x8, e_x8, e⟩ := mBind e
              refine mGo.callV (n := 89) (y := zX4_columnImage) (R' := (mRoom (3) 0 0)) (as := [.int v4]) (st := []) (r0 := x7) dX8_image_86 sc_RX8_236 rfl (s_X4_columnImage x7 v4 x6.2 e_x8) (e_X4_columnImage x7 v4 x6.2 e_x8) (mFit_of rfl (Nat.le_of_ble_eq_true rfl) (by decide) (Nat.le_of_ble_eq_true rfl) (Nat.le_of_ble_eq_true rfl)) (Nat.le_of_ble_eq_true rfl) rfl rfl ?_
              intro _ _ hq
              rw [hq.1, hq.2]
              show mGo w kX8_image 0 0 89 [some (va_rf v0), some (.int v1), some (.int v2), some (.int v3), some (.int v4), some (va_rf x1), some (va_rf x2)] [.int x8] x6.2 Q
              cases e
              exact mGo.iret dX8_image_89 rfl (Nat.le_of_ble_eq_true rfl) (Nat.le_of_ble_eq_true rfl) q
            · replace e := mIff hc e
              refine mGo.aload_n (n := 68) (r := v0) dX8_image_67 rfl rfl ?_
              obtain ⟨x9, e_x9, e⟩ := mBind e
              refine mGo.getR (n := 71) dX8_image_68 sf_RX8_36 e_x9 rfl ?_
              obtain ⟨x10, e_x10, e⟩ := mBind e
              refine mGo.getR (n := 74) dX8_image_71 sf_RX8_233 e_x10 rfl ?_
              refine mGo.iload (n := 76) (x := v4) dX8_image_74 rfl rfl ?_
              obtain ⟨x11, e_x11, e⟩ := mBind e
              refine mGo.iald (n := 77) dX8_image_76 e_x11 rfl ?_
              refine mGo.goto (tgt := 89) dX8_image_77 (by decide) ?_
              cases e
              exact mGo.iret dX8_image_89 rfl (Nat.le_of_ble_eq_true rfl) (Nat.le_of_ble_eq_true rfl) q
          · replace e := mIft hc e
            refine mGo.bipush (n := 62) (v := (-2 : Int32)) dX8_image_60 (by decide) rfl ?_
            cases e
            exact mGo.iret dX8_image_62 rfl (Nat.le_of_ble_eq_true rfl) (Nat.le_of_ble_eq_true rfl) q
      · replace e := mIft hc e
        refine mGo.iconst (n := 35) (v := (-1 : Int32)) dX8_image_34 (by decide) rfl ?_
        cases e
        exact mGo.iret dX8_image_35 rfl (Nat.le_of_ble_eq_true rfl) (Nat.le_of_ble_eq_true rfl) q
theorem e_X8_image {w : mWp} (v0 : Option Nat) (v1 : Int32) (v2 : Int32) (v3 : Int32) (v4 : Int32) (h : mH) {res : Int32 × mH} (e : f_X8_image v0 v1 v2 v3 v4 h = some res) : mEx w zX8_image (mRoom 25 0 0) [va_rf v0, .int v1, .int v2, .int v3, .int v4] h (fun r h2 => r = some (.int res.1) ∧ h2 = res.2) := by
  refine mEx.of (by decide +kernel) (show mEnt [va_rf v0, .int v1, .int v2, .int v3, .int v4] 7 = [some (va_rf v0), some (.int v1), some (.int v2), some (.int v3), some (.int v4), none, none] by rw [mEnt_r, mEnt_i, mEnt_i, mEnt_i, mEnt_i] <;> rfl) (by simp only [List.map_cons, List.map_nil, mRfc, mCi, mCj, List.sum_cons, List.sum_nil]; exact Nat.le_of_ble_eq_true rfl) ?_
  refine g_X8_image v0 v1 v2 v3 v4 h e ?_
  exact ⟨rfl, rfl⟩
theorem s_X8_image (v0 : Option Nat) (v1 : Int32) (v2 : Int32) (v3 : Int32) (v4 : Int32) (h : mH) {res : Int32 × mH} (e : f_X8_image v0 v1 v2 v3 v4 h = some res) : mIs h v0 7 = some () := by
  unfold f_X8_image at e
  obtain ⟨u, e1, _⟩ := mBind e
  cases u
  exact e1
-- X8_symmetries
def kX8_symmetries : mK := (cX8_symmetries, RX8, 3, some (.long), "symmetries", mRoom 25 0 0)
def zX8_symmetries : mY := (yX8_symmetries, cX8_symmetries, 3, some (.long))
set_option maxRecDepth 100000 in
theorem sc_RX8_243 : mSV RX8 243 zX4_countToItself 1 3 := ⟨Or.inr ⟨_, mNest_at 610 (x := Cond.methodLinkNest RX8 243 yX4_countToItself "SignTables") (by decide +kernel) rfl⟩, mT_at 694 (by decide +kernel) rfl, mT_at 34 (by decide +kernel) rfl, mT_at 86 (by decide +kernel) rfl, mT_at 695 (by decide +kernel) rfl, ⟨by decide +kernel, by decide +kernel, by decide +kernel⟩, by decide, rfl⟩
noncomputable def f_X8_symmetries (v0 : Option Nat) (v1 : Int32) (h : mH) : Option (Int64 × mH) :=
  (mIs h v0 7).bind fun _ =>
  (f_X8_tableAt v0 v1 h).bind fun x1 =>
  if x1 = none then
    some ((-1 : Int64), h)
  else
    (f_X8_canMatch x1 x1 h).bind fun x2 =>
    if x2 = 0 then
      some ((-2 : Int64), h)
    else
      (mGR h v0 7 6).bind fun x3 =>
      (f_X4_countToItself x3 x1 h).bind fun x4 =>
      some (x4.1, x4.2)
set_option maxRecDepth 100000 in
set_option maxHeartbeats 4000000 in
theorem g_X8_symmetries {w : mWp} {Q : Option Value → mH → Prop} (v0 : Option Nat) (v1 : Int32) (h : mH) {res : Int64 × mH} (e : f_X8_symmetries v0 v1 h = some res) (q : (fun r : Int64 × mH => Q (some (.long r.1)) r.2) res) : mGo w kX8_symmetries 0 0 0 [some (va_rf v0), some (.int v1), none] [] h Q := by
  unfold f_X8_symmetries at e
  obtain ⟨_, _, e⟩ := mBind e
  refine mGo.aload_n (n := 1) (r := v0) dX8_symmetries_0 rfl rfl ?_
  refine mGo.iload_n (n := 2) (x := v1) dX8_symmetries_1 rfl rfl ?_
  obtain ⟨x1, e_x1, e⟩ := mBind e
  refine mGo.callV (n := 5) (y := zX8_tableAt) (R' := (mRoom (1) 0 0)) (as := [.int v1]) (st := []) (r0 := v0) dX8_symmetries_2 sc_RX8_118 rfl (s_X8_tableAt v0 v1 h e_x1) (e_X8_tableAt v0 v1 h e_x1) (mFit_of rfl (Nat.le_of_ble_eq_true rfl) (by decide) (Nat.le_of_ble_eq_true rfl) (Nat.le_of_ble_eq_true rfl)) (Nat.le_of_ble_eq_true rfl) rfl rfl ?_
  intro _ _ hq
  rw [hq.1, hq.2]
  show mGo w kX8_symmetries 0 0 5 [some (va_rf v0), some (.int v1), none] [va_rf x1] h Q
  refine mGo.astore_n (n := 6) (ls' := [some (va_rf v0), some (.int v1), some (va_rf x1)]) dX8_symmetries_5 rfl (Nat.le_of_ble_eq_true rfl) rfl ?_
  refine mGo.aload_n (n := 7) (r := x1) dX8_symmetries_6 rfl rfl ?_
  refine mGo.ifnonnull (tgt := 14) (n := 10) dX8_symmetries_7 (by decide) rfl (fun hc => ?_) (fun hc => ?_)
  · replace e := mIff hc e
    refine mGo.aload_n (n := 15) (r := x1) dX8_symmetries_14 rfl rfl ?_
    refine mGo.aload_n (n := 16) (r := x1) dX8_symmetries_15 rfl rfl ?_
    obtain ⟨x2, e_x2, e⟩ := mBind e
    refine mGo.callS (n := 19) (y := zX8_canMatch) (R' := (mRoom (4) 0 0)) (as := [va_rf x1, va_rf x1]) (st := []) dX8_symmetries_16 sc_RX8_226 rfl (e_X8_canMatch x1 x1 h e_x2) (mFit_of rfl (Nat.le_of_ble_eq_true rfl) (by decide) (Nat.le_of_ble_eq_true rfl) (Nat.le_of_ble_eq_true rfl)) (Nat.le_of_ble_eq_true rfl) rfl rfl ?_
    intro _ _ hq
    rw [hq.1, hq.2]
    show mGo w kX8_symmetries 0 0 19 [some (va_rf v0), some (.int v1), some (va_rf x1)] [.int x2] h Q
    refine mGo.if_ne (tgt := 26) (n := 22) dX8_symmetries_19 (by decide) rfl (fun hc => ?_) (fun hc => ?_)
    · replace e := mIff hc e
      refine mGo.aload_n (n := 27) (r := v0) dX8_symmetries_26 rfl rfl ?_
      obtain ⟨x3, e_x3, e⟩ := mBind e
      refine mGo.getR (n := 30) dX8_symmetries_27 sf_RX8_36 e_x3 rfl ?_
      refine mGo.aload_n (n := 31) (r := x1) dX8_symmetries_30 rfl rfl ?_
      obtain ⟨x4, e_x4, e⟩ := mBind e
      refine mGo.callV (n := 34) (y := zX4_countToItself) (R' := (mRoom (24) 0 0)) (as := [va_rf x1]) (st := []) (r0 := x3) dX8_symmetries_31 sc_RX8_243 rfl (s_X4_countToItself x3 x1 h e_x4) (e_X4_countToItself x3 x1 h e_x4) (mFit_of rfl (Nat.le_of_ble_eq_true rfl) (by decide) (Nat.le_of_ble_eq_true rfl) (Nat.le_of_ble_eq_true rfl)) (Nat.le_of_ble_eq_true rfl) rfl rfl ?_
      intro _ _ hq
      rw [hq.1, hq.2]
      show mGo w kX8_symmetries 0 0 34 [some (va_rf v0), some (.int v1), some (va_rf x1)] [.long x4.1] x4.2 Q
      cases e
      exact mGo.lret dX8_symmetries_34 rfl (Nat.le_of_ble_eq_true rfl) (Nat.le_of_ble_eq_true rfl) q
    · replace e := mIft hc e
      refine mGo.ldc2_w (n := 25) (v := (-2 : Int64)) dX8_symmetries_22 (mT_at 691 (by decide +kernel) rfl) rfl ?_
      cases e
      exact mGo.lret dX8_symmetries_25 rfl (Nat.le_of_ble_eq_true rfl) (Nat.le_of_ble_eq_true rfl) q
  · replace e := mIft hc e
    refine mGo.ldc2_w (n := 13) (v := (-1 : Int64)) dX8_symmetries_10 (mT_at 690 (by decide +kernel) rfl) rfl ?_
    cases e
    exact mGo.lret dX8_symmetries_13 rfl (Nat.le_of_ble_eq_true rfl) (Nat.le_of_ble_eq_true rfl) q
theorem e_X8_symmetries {w : mWp} (v0 : Option Nat) (v1 : Int32) (h : mH) {res : Int64 × mH} (e : f_X8_symmetries v0 v1 h = some res) : mEx w zX8_symmetries (mRoom 25 0 0) [va_rf v0, .int v1] h (fun r h2 => r = some (.long res.1) ∧ h2 = res.2) := by
  refine mEx.of (by decide +kernel) (show mEnt [va_rf v0, .int v1] 3 = [some (va_rf v0), some (.int v1), none] by rw [mEnt_r, mEnt_i] <;> rfl) (by simp only [List.map_cons, List.map_nil, mRfc, mCi, mCj, List.sum_cons, List.sum_nil]; exact Nat.le_of_ble_eq_true rfl) ?_
  refine g_X8_symmetries v0 v1 h e ?_
  exact ⟨rfl, rfl⟩
theorem s_X8_symmetries (v0 : Option Nat) (v1 : Int32) (h : mH) {res : Int64 × mH} (e : f_X8_symmetries v0 v1 h = some res) : mIs h v0 7 = some () := by
  unfold f_X8_symmetries at e
  obtain ⟨u, e1, _⟩ := mBind e
  cases u
  exact e1
-- J9_max_7cf53
def kJ9_max_7cf53 : mK := (cJ9_max_7cf53, RJ9, 2, some (.int), "max", mRoom 1 0 0)
def zJ9_max_7cf53 : mY := (yJ9_max_7cf53, cJ9_max_7cf53, 2, some (.int))
def f_J9_max_7cf53 (v0 : Int32) (v1 : Int32)  : Option (Int32) :=
  if v0 < v1 then
    some v1
  else
    some v0
set_option maxRecDepth 100000 in
set_option maxHeartbeats 4000000 in
theorem g_J9_max_7cf53 {w : mWp} {Q : Option Value → mH → Prop} (v0 : Int32) (v1 : Int32) (h : mH) {res : Int32} (e : f_J9_max_7cf53 v0 v1 = some res) (q : (fun r : Int32 => Q (some (.int r)) h) res) : mGo w kJ9_max_7cf53 0 0 0 [some (.int v0), some (.int v1)] [] h Q := by
  unfold f_J9_max_7cf53 at e
  refine mGo.iload_n (n := 1) (x := v0) dJ9_max_7cf53_0 rfl rfl ?_
  refine mGo.iload_n (n := 2) (x := v1) dJ9_max_7cf53_1 rfl rfl ?_
  refine mGo.icmp_lt (tgt := 9) (n := 5) dJ9_max_7cf53_2 (by decide) rfl (fun hc => ?_) (fun hc => ?_)
  · replace e := mIft hc e
    refine mGo.iload_n (n := 10) (x := v1) dJ9_max_7cf53_9 rfl rfl ?_
    cases e
    exact mGo.iret dJ9_max_7cf53_10 rfl (Nat.le_of_ble_eq_true rfl) (Nat.le_of_ble_eq_true rfl) q
  · replace e := mIff hc e
    refine mGo.iload_n (n := 6) (x := v0) dJ9_max_7cf53_5 rfl rfl ?_
    refine mGo.goto (tgt := 10) dJ9_max_7cf53_6 (by decide) ?_
    cases e
    exact mGo.iret dJ9_max_7cf53_10 rfl (Nat.le_of_ble_eq_true rfl) (Nat.le_of_ble_eq_true rfl) q
theorem e_J9_max_7cf53 {w : mWp} (v0 : Int32) (v1 : Int32) (h : mH) {res : Int32} (e : f_J9_max_7cf53 v0 v1 = some res) : mEx w zJ9_max_7cf53 (mRoom 1 0 0) [.int v0, .int v1] h (fun r h2 => r = some (.int res) ∧ h2 = h) := by
  refine mEx.of (by decide +kernel) rfl (Nat.le_of_ble_eq_true rfl) ?_
  refine g_J9_max_7cf53 v0 v1 h e ?_
  exact ⟨rfl, rfl⟩
-- J9_min_7cf53
def kJ9_min_7cf53 : mK := (cJ9_min_7cf53, RJ9, 2, some (.int), "min", mRoom 1 0 0)
def zJ9_min_7cf53 : mY := (yJ9_min_7cf53, cJ9_min_7cf53, 2, some (.int))
def f_J9_min_7cf53 (v0 : Int32) (v1 : Int32)  : Option (Int32) :=
  if v1 < v0 then
    some v1
  else
    some v0
set_option maxRecDepth 100000 in
set_option maxHeartbeats 4000000 in
theorem g_J9_min_7cf53 {w : mWp} {Q : Option Value → mH → Prop} (v0 : Int32) (v1 : Int32) (h : mH) {res : Int32} (e : f_J9_min_7cf53 v0 v1 = some res) (q : (fun r : Int32 => Q (some (.int r)) h) res) : mGo w kJ9_min_7cf53 0 0 0 [some (.int v0), some (.int v1)] [] h Q := by
  unfold f_J9_min_7cf53 at e
  refine mGo.iload_n (n := 1) (x := v0) dJ9_min_7cf53_0 rfl rfl ?_
  refine mGo.iload_n (n := 2) (x := v1) dJ9_min_7cf53_1 rfl rfl ?_
  refine mGo.icmp_gt (tgt := 9) (n := 5) dJ9_min_7cf53_2 (by decide) rfl (fun hc => ?_) (fun hc => ?_)
  · replace e := mIft hc e
    refine mGo.iload_n (n := 10) (x := v1) dJ9_min_7cf53_9 rfl rfl ?_
    cases e
    exact mGo.iret dJ9_min_7cf53_10 rfl (Nat.le_of_ble_eq_true rfl) (Nat.le_of_ble_eq_true rfl) q
  · replace e := mIff hc e
    refine mGo.iload_n (n := 6) (x := v0) dJ9_min_7cf53_5 rfl rfl ?_
    refine mGo.goto (tgt := 10) dJ9_min_7cf53_6 (by decide) ?_
    cases e
    exact mGo.iret dJ9_min_7cf53_10 rfl (Nat.le_of_ble_eq_true rfl) (Nat.le_of_ble_eq_true rfl) q
theorem e_J9_min_7cf53 {w : mWp} (v0 : Int32) (v1 : Int32) (h : mH) {res : Int32} (e : f_J9_min_7cf53 v0 v1 = some res) : mEx w zJ9_min_7cf53 (mRoom 1 0 0) [.int v0, .int v1] h (fun r h2 => r = some (.int res) ∧ h2 = h) := by
  refine mEx.of (by decide +kernel) rfl (Nat.le_of_ble_eq_true rfl) ?_
  refine g_J9_min_7cf53 v0 v1 h e ?_
  exact ⟨rfl, rfl⟩
-- X8_isKnot
def kX8_isKnot : mK := (cX8_isKnot, RX8, 2, some (.boolean), "isKnot", mRoom 1 0 0)
def zX8_isKnot : mY := (yX8_isKnot, cX8_isKnot, 2, some (.boolean))
def f_X8_isKnot (v0 : Option Nat) (v1 : Int32) (h : mH) : Option (Int32) :=
  if v1 < 0 then
    some (0 : Int32)
  else
    (mGI h v0 6 0).bind fun x1 =>
    if ((4 : Int32) * x1) ≤ v1 then
      some (0 : Int32)
    else
      some (1 : Int32)
set_option maxRecDepth 100000 in
set_option maxHeartbeats 4000000 in
theorem g_X8_isKnot {w : mWp} {Q : Option Value → mH → Prop} (v0 : Option Nat) (v1 : Int32) (h : mH) {res : Int32} (e : f_X8_isKnot v0 v1 h = some res) (q : (fun r : Int32 => Q (some (.int r)) h) res) : mGo w kX8_isKnot 0 0 0 [some (va_rf v0), some (.int v1)] [] h Q := by
  unfold f_X8_isKnot at e
  refine mGo.iload_n (n := 1) (x := v1) dX8_isKnot_0 rfl rfl ?_
  refine mGo.if_lt (tgt := 18) (n := 4) dX8_isKnot_1 (by decide) rfl (fun hc => ?_) (fun hc => ?_)
  · replace e := mIft hc e
    refine mGo.iconst (n := 19) (v := (0 : Int32)) dX8_isKnot_18 (by decide) rfl ?_
    cases e
    exact mGo.zret dX8_isKnot_19 rfl (by decide) (Nat.le_of_ble_eq_true rfl) (Nat.le_of_ble_eq_true rfl) q
  · replace e := mIff hc e
    refine mGo.iload_n (n := 5) (x := v1) dX8_isKnot_4 rfl rfl ?_
    refine mGo.iconst (n := 6) (v := (4 : Int32)) dX8_isKnot_5 (by decide) rfl ?_
    refine mGo.aload_n (n := 7) (r := v0) dX8_isKnot_6 rfl rfl ?_
    obtain ⟨x1, e_x1, e⟩ := mBind e
    refine mGo.getI (n := 10) dX8_isKnot_7 sf_RX8_122 e_x1 rfl ?_
    refine mGo.imul (n := 11) dX8_isKnot_10 rfl ?_
    refine mGo.icmp_ge (tgt := 18) (n := 14) dX8_isKnot_11 (by decide) rfl (fun hc => ?_) (fun hc => ?_)
    · replace e := mIft hc e
      refine mGo.iconst (n := 19) (v := (0 : Int32)) dX8_isKnot_18 (by decide) rfl ?_
      cases e
      exact mGo.zret dX8_isKnot_19 rfl (by decide) (Nat.le_of_ble_eq_true rfl) (Nat.le_of_ble_eq_true rfl) q
    · replace e := mIff hc e
      refine mGo.iconst (n := 15) (v := (1 : Int32)) dX8_isKnot_14 (by decide) rfl ?_
      refine mGo.goto (tgt := 19) dX8_isKnot_15 (by decide) ?_
      cases e
      exact mGo.zret dX8_isKnot_19 rfl (by decide) (Nat.le_of_ble_eq_true rfl) (Nat.le_of_ble_eq_true rfl) q
theorem e_X8_isKnot {w : mWp} (v0 : Option Nat) (v1 : Int32) (h : mH) {res : Int32} (e : f_X8_isKnot v0 v1 h = some res) : mEx w zX8_isKnot (mRoom 1 0 0) [va_rf v0, .int v1] h (fun r h2 => r = some (.int res) ∧ h2 = h) := by
  refine mEx.of (by decide +kernel) (show mEnt [va_rf v0, .int v1] 2 = [some (va_rf v0), some (.int v1)] by rw [mEnt_r, mEnt_i] <;> rfl) (by simp only [List.map_cons, List.map_nil, mRfc, mCi, mCj, List.sum_cons, List.sum_nil]; exact Nat.le_of_ble_eq_true rfl) ?_
  refine g_X8_isKnot v0 v1 h e ?_
  exact ⟨rfl, rfl⟩
-- X8_joined
def kX8_joined : mK := (cX8_joined, RX8, 9, some (.int), "joined", mRoom 3 0 0)
def zX8_joined : mY := (yX8_joined, cX8_joined, 9, some (.int))
set_option maxRecDepth 100000 in
theorem sc_RX8_246 : mSS RX8 246 zX8_isKnot 2 := ⟨Or.inl (mT_at 703 (by decide +kernel) rfl), mT_at 704 (by decide +kernel) rfl, mT_at 83 (by decide +kernel) rfl, mT_at 705 (by decide +kernel) rfl, ⟨by decide +kernel, by decide +kernel, by decide +kernel⟩⟩
set_option maxRecDepth 100000 in
theorem sc_RX8_250 : mSS RX8 250 zJ9_min_7cf53 2 := ⟨Or.inl (mT_at 706 (by decide +kernel) rfl), mT_at 707 (by decide +kernel) rfl, mT_at 94 (by decide +kernel) rfl, mT_at 708 (by decide +kernel) rfl, ⟨by decide +kernel, by decide +kernel, by decide +kernel⟩⟩
set_option maxRecDepth 100000 in
theorem sc_RX8_255 : mSS RX8 255 zJ9_max_7cf53 2 := ⟨Or.inl (mT_at 709 (by decide +kernel) rfl), mT_at 710 (by decide +kernel) rfl, mT_at 94 (by decide +kernel) rfl, mT_at 711 (by decide +kernel) rfl, ⟨by decide +kernel, by decide +kernel, by decide +kernel⟩⟩
def f_X8_joined_c89 (v4 : Option Nat) (v6 : Int32) (v7 : Int32) (s0 : Int32) (h : mH) : Option (Int32) :=
  (f_X7_isMinus v4 (v6 >>> ((1 : Int32) &&& 31)) (v7 >>> ((1 : Int32) &&& 31)) h).bind fun x1 =>
  if x1 = s0 then
    some (1 : Int32)
  else
    some (0 : Int32)
set_option maxRecDepth 100000 in
set_option maxHeartbeats 4000000 in
theorem g_X8_joined_c89 {w : mWp} {Q : Option Value → mH → Prop} (v4 : Option Nat) (v6 : Int32) (v7 : Int32) (s0 : Int32) (h : mH) {res : Int32} (e : f_X8_joined_c89 v4 v6 v7 s0 h = some res) (q : (fun r : Int32 => Q (some (.int r)) h) res) : mGo w kX8_joined 0 0 89 [none, none, none, none, some (va_rf v4), none, some (.int v6), some (.int v7), none] [.int s0] h Q := by
  unfold f_X8_joined_c89 at e
  refine mGo.istore (n := 91) (ls' := [none, none, none, none, some (va_rf v4), none, some (.int v6), some (.int v7), some (.int s0)]) dX8_joined_89 rfl (Nat.le_of_ble_eq_true rfl) rfl ?_
  refine mGo.aload (n := 93) (r := v4) dX8_joined_91 rfl rfl ?_
  refine mGo.iload (n := 95) (x := v6) dX8_joined_93 rfl rfl ?_
  refine mGo.iconst (n := 96) (v := (1 : Int32)) dX8_joined_95 (by decide) rfl ?_
  refine mGo.ishr (n := 97) dX8_joined_96 rfl ?_
  refine mGo.iload (n := 99) (x := v7) dX8_joined_97 rfl rfl ?_
  refine mGo.iconst (n := 100) (v := (1 : Int32)) dX8_joined_99 (by decide) rfl ?_
  refine mGo.ishr (n := 101) dX8_joined_100 rfl ?_
  obtain ⟨x1, e_x1, e⟩ := mBind e
  refine mGo.callV (n := 104) (y := zX7_isMinus) (R' := (mRoom (2) 0 0)) (as := [.int (v6 >>> ((1 : Int32) &&& 31)), .int (v7 >>> ((1 : Int32) &&& 31))]) (st := []) (r0 := v4) dX8_joined_101 sc_RX8_168 rfl (s_X7_isMinus v4 (v6 >>> ((1 : Int32) &&& 31)) (v7 >>> ((1 : Int32) &&& 31)) h e_x1) (e_X7_isMinus v4 (v6 >>> ((1 : Int32) &&& 31)) (v7 >>> ((1 : Int32) &&& 31)) h e_x1) (mFit_of rfl (Nat.le_of_ble_eq_true rfl) (by decide) (Nat.le_of_ble_eq_true rfl) (Nat.le_of_ble_eq_true rfl)) (Nat.le_of_ble_eq_true rfl) rfl rfl ?_
  intro _ _ hq
  rw [hq.1, hq.2]
  show mGo w kX8_joined 0 0 104 [none, none, none, none, some (va_rf v4), none, some (.int v6), some (.int v7), some (.int s0)] [.int x1] h Q
  refine mGo.iload (n := 106) (x := s0) dX8_joined_104 rfl rfl ?_
  refine mGo.icmp_ne (tgt := 113) (n := 109) dX8_joined_106 (by decide) rfl (fun hc => ?_) (fun hc => ?_)
  · replace e := mIff hc e
    refine mGo.iconst (n := 114) (v := (0 : Int32)) dX8_joined_113 (by decide) rfl ?_
    cases e
    exact mGo.iret dX8_joined_114 rfl (Nat.le_of_ble_eq_true rfl) (Nat.le_of_ble_eq_true rfl) q
  · replace e := mIft hc e
    refine mGo.iconst (n := 110) (v := (1 : Int32)) dX8_joined_109 (by decide) rfl ?_
    refine mGo.goto (tgt := 114) dX8_joined_110 (by decide) ?_
    cases e
    exact mGo.iret dX8_joined_114 rfl (Nat.le_of_ble_eq_true rfl) (Nat.le_of_ble_eq_true rfl) q
def f_X8_joined (v0 : Option Nat) (v1 : Int32) (v2 : Int32) (v3 : Int32) (h : mH) : Option (Int32) :=
  (mIs h v0 7).bind fun _ =>
  (f_X8_tableAt v0 v1 h).bind fun x1 =>
  if x1 = none then
    some (-1 : Int32)
  else
    (f_X8_isKnot x1 v2 h).bind fun x2 =>
    if x2 = 0 then
      some (-1 : Int32)
    else
      (f_X8_isKnot x1 v3 h).bind fun x3 =>
      if x3 = 0 then
        some (-1 : Int32)
      else
        (mGI h x1 6 0).bind fun x4 =>
        (f_J9_min_7cf53 v2 v3).bind fun x5 =>
        (f_J9_max_7cf53 v2 v3).bind fun x6 =>
        if ((2 : Int32) * x4) ≤ x5 then
          some (0 : Int32)
        else
          if 0 ≤ (x6 - ((2 : Int32) * x4)) then
            if ((x5 ^^^ (x6 - ((2 : Int32) * x4))) &&& (1 : Int32)) = 0 then
              f_X8_joined_c89 x1 x5 (x6 - ((2 : Int32) * x4)) (0 : Int32) h
            else
              f_X8_joined_c89 x1 x5 (x6 - ((2 : Int32) * x4)) (1 : Int32) h
          else
            some (0 : Int32)
set_option maxRecDepth 100000 in
set_option maxHeartbeats 4000000 in
theorem g_X8_joined {w : mWp} {Q : Option Value → mH → Prop} (v0 : Option Nat) (v1 : Int32) (v2 : Int32) (v3 : Int32) (h : mH) {res : Int32} (e : f_X8_joined v0 v1 v2 v3 h = some res) (q : (fun r : Int32 => Q (some (.int r)) h) res) : mGo w kX8_joined 0 0 0 [some (va_rf v0), some (.int v1), some (.int v2), some (.int v3), none, none, none, none, none] [] h Q := by
  unfold f_X8_joined at e
  obtain ⟨_, _, e⟩ := mBind e
  refine mGo.aload_n (n := 1) (r := v0) dX8_joined_0 rfl rfl ?_
  refine mGo.iload_n (n := 2) (x := v1) dX8_joined_1 rfl rfl ?_
  obtain ⟨x1, e_x1, e⟩ := mBind e
  refine mGo.callV (n := 5) (y := zX8_tableAt) (R' := (mRoom (1) 0 0)) (as := [.int v1]) (st := []) (r0 := v0) dX8_joined_2 sc_RX8_118 rfl (s_X8_tableAt v0 v1 h e_x1) (e_X8_tableAt v0 v1 h e_x1) (mFit_of rfl (Nat.le_of_ble_eq_true rfl) (by decide) (Nat.le_of_ble_eq_true rfl) (Nat.le_of_ble_eq_true rfl)) (Nat.le_of_ble_eq_true rfl) rfl rfl ?_
  intro _ _ hq
  rw [hq.1, hq.2]
  show mGo w kX8_joined 0 0 5 [some (va_rf v0), some (.int v1), some (.int v2), some (.int v3), none, none, none, none, none] [va_rf x1] h Q
  refine mGo.astore (n := 7) (ls' := [some (va_rf v0), some (.int v1), some (.int v2), some (.int v3), some (va_rf x1), none, none, none, none]) dX8_joined_5 rfl (Nat.le_of_ble_eq_true rfl) rfl ?_
  refine mGo.aload (n := 9) (r := x1) dX8_joined_7 rfl rfl ?_
  refine mGo.ifnull (tgt := 30) (n := 12) dX8_joined_9 (by decide) rfl (fun hc => ?_) (fun hc => ?_)
  · replace e := mIft hc e
    refine mGo.iconst (n := 31) (v := (-1 : Int32)) dX8_joined_30 (by decide) rfl ?_
    cases e
    exact mGo.iret dX8_joined_31 rfl (Nat.le_of_ble_eq_true rfl) (Nat.le_of_ble_eq_true rfl) q
  · replace e := mIff hc e
    refine mGo.aload (n := 14) (r := x1) dX8_joined_12 rfl rfl ?_
    refine mGo.iload_n (n := 15) (x := v2) dX8_joined_14 rfl rfl ?_
    obtain ⟨x2, e_x2, e⟩ := mBind e
    refine mGo.callS (n := 18) (y := zX8_isKnot) (R' := (mRoom (1) 0 0)) (as := [va_rf x1, .int v2]) (st := []) dX8_joined_15 sc_RX8_246 rfl (e_X8_isKnot x1 v2 h e_x2) (mFit_of rfl (Nat.le_of_ble_eq_true rfl) (by decide) (Nat.le_of_ble_eq_true rfl) (Nat.le_of_ble_eq_true rfl)) (Nat.le_of_ble_eq_true rfl) rfl rfl ?_
    intro _ _ hq
    rw [hq.1, hq.2]
    show mGo w kX8_joined 0 0 18 [some (va_rf v0), some (.int v1), some (.int v2), some (.int v3), some (va_rf x1), none, none, none, none] [.int x2] h Q
    refine mGo.if_eq (tgt := 30) (n := 21) dX8_joined_18 (by decide) rfl (fun hc => ?_) (fun hc => ?_)
    · replace e := mIft hc e
      refine mGo.iconst (n := 31) (v := (-1 : Int32)) dX8_joined_30 (by decide) rfl ?_
      cases e
      exact mGo.iret dX8_joined_31 rfl (Nat.le_of_ble_eq_true rfl) (Nat.le_of_ble_eq_true rfl) q
    · replace e := mIff hc e
      refine mGo.aload (n := 23) (r := x1) dX8_joined_21 rfl rfl ?_
      refine mGo.iload_n (n := 24) (x := v3) dX8_joined_23 rfl rfl ?_
      obtain ⟨x3, e_x3, e⟩ := mBind e
      refine mGo.callS (n := 27) (y := zX8_isKnot) (R' := (mRoom (1) 0 0)) (as := [va_rf x1, .int v3]) (st := []) dX8_joined_24 sc_RX8_246 rfl (e_X8_isKnot x1 v3 h e_x3) (mFit_of rfl (Nat.le_of_ble_eq_true rfl) (by decide) (Nat.le_of_ble_eq_true rfl) (Nat.le_of_ble_eq_true rfl)) (Nat.le_of_ble_eq_true rfl) rfl rfl ?_
      intro _ _ hq
      rw [hq.1, hq.2]
      show mGo w kX8_joined 0 0 27 [some (va_rf v0), some (.int v1), some (.int v2), some (.int v3), some (va_rf x1), none, none, none, none] [.int x3] h Q
      refine mGo.if_ne (tgt := 32) (n := 30) dX8_joined_27 (by decide) rfl (fun hc => ?_) (fun hc => ?_)
      · replace e := mIff hc e
        refine mGo.aload (n := 34) (r := x1) dX8_joined_32 rfl rfl ?_
        obtain ⟨x4, e_x4, e⟩ := mBind e
        refine mGo.getI (n := 37) dX8_joined_34 sf_RX8_122 e_x4 rfl ?_
        refine mGo.istore (n := 39) (ls' := [some (va_rf v0), some (.int v1), some (.int v2), some (.int v3), some (va_rf x1), some (.int x4), none, none, none]) dX8_joined_37 ((mSt_set (fun u _ hu => by cases hu; exact mRfc _)).trans rfl) (Nat.le_of_ble_eq_true rfl) rfl ?_
        refine mGo.iload_n (n := 40) (x := v2) dX8_joined_39 rfl rfl ?_
        refine mGo.iload_n (n := 41) (x := v3) dX8_joined_40 rfl rfl ?_
        obtain ⟨x5, e_x5, e⟩ := mBind e
        refine mGo.callS (n := 44) (y := zJ9_min_7cf53) (R' := (mRoom (1) 0 0)) (as := [.int v2, .int v3]) (st := []) dX8_joined_41 sc_RX8_250 rfl (e_J9_min_7cf53 v2 v3 h e_x5) (mFit_of rfl (Nat.le_of_ble_eq_true rfl) (by decide) (Nat.le_of_ble_eq_true rfl) (Nat.le_of_ble_eq_true rfl)) (Nat.le_of_ble_eq_true rfl) rfl rfl ?_
        intro _ _ hq
        rw [hq.1, hq.2]
        show mGo w kX8_joined 0 0 44 [some (va_rf v0), some (.int v1), some (.int v2), some (.int v3), some (va_rf x1), some (.int x4), none, none, none] [.int x5] h Q
        refine mGo.istore (n := 46) (ls' := [some (va_rf v0), some (.int v1), some (.int v2), some (.int v3), some (va_rf x1), some (.int x4), some (.int x5), none, none]) dX8_joined_44 rfl (Nat.le_of_ble_eq_true rfl) rfl ?_
        refine mGo.iload_n (n := 47) (x := v2) dX8_joined_46 rfl rfl ?_
        refine mGo.iload_n (n := 48) (x := v3) dX8_joined_47 rfl rfl ?_
        obtain ⟨x6, e_x6, e⟩ := mBind e
        refine mGo.callS (n := 51) (y := zJ9_max_7cf53) (R' := (mRoom (1) 0 0)) (as := [.int v2, .int v3]) (st := []) dX8_joined_48 sc_RX8_255 rfl (e_J9_max_7cf53 v2 v3 h e_x6) (mFit_of rfl (Nat.le_of_ble_eq_true rfl) (by decide) (Nat.le_of_ble_eq_true rfl) (Nat.le_of_ble_eq_true rfl)) (Nat.le_of_ble_eq_true rfl) rfl rfl ?_
        intro _ _ hq
        rw [hq.1, hq.2]
        show mGo w kX8_joined 0 0 51 [some (va_rf v0), some (.int v1), some (.int v2), some (.int v3), some (va_rf x1), some (.int x4), some (.int x5), none, none] [.int x6] h Q
        refine mGo.iconst (n := 52) (v := (2 : Int32)) dX8_joined_51 (by decide) rfl ?_
        refine mGo.iload (n := 54) (x := x4) dX8_joined_52 rfl rfl ?_
        refine mGo.imul (n := 55) dX8_joined_54 rfl ?_
        refine mGo.isub (n := 56) dX8_joined_55 rfl ?_
        refine mGo.istore (n := 58) (ls' := [some (va_rf v0), some (.int v1), some (.int v2), some (.int v3), some (va_rf x1), some (.int x4), some (.int x5), some (.int (x6 - ((2 : Int32) * x4))), none]) dX8_joined_56 rfl (Nat.le_of_ble_eq_true rfl) rfl ?_
        refine mGo.iload (n := 60) (x := x5) dX8_joined_58 rfl rfl ?_
        refine mGo.iconst (n := 61) (v := (2 : Int32)) dX8_joined_60 (by decide) rfl ?_
        refine mGo.iload (n := 63) (x := x4) dX8_joined_61 rfl rfl ?_
        refine mGo.imul (n := 64) dX8_joined_63 rfl ?_
        refine mGo.icmp_ge (tgt := 72) (n := 67) dX8_joined_64 (by decide) rfl (fun hc => ?_) (fun hc => ?_)
        · replace e := mIft hc e
          refine mGo.iconst (n := 73) (v := (0 : Int32)) dX8_joined_72 (by decide) rfl ?_
          cases e
          exact mGo.iret dX8_joined_73 rfl (Nat.le_of_ble_eq_true rfl) (Nat.le_of_ble_eq_true rfl) q
        · replace e := mIff hc e
          refine mGo.iload (n := 69) (x := (x6 - ((2 : Int32) * x4))) dX8_joined_67 rfl rfl ?_
          refine mGo.if_ge (tgt := 74) (n := 72) dX8_joined_69 (by decide) rfl (fun hc => ?_) (fun hc => ?_)
          · replace e := mIft hc e
            refine mGo.iload (n := 76) (x := x5) dX8_joined_74 rfl rfl ?_
            refine mGo.iload (n := 78) (x := (x6 - ((2 : Int32) * x4))) dX8_joined_76 rfl rfl ?_
            refine mGo.ixor (n := 79) dX8_joined_78 rfl ?_
            refine mGo.iconst (n := 80) (v := (1 : Int32)) dX8_joined_79 (by decide) rfl ?_
            refine mGo.iand (n := 81) dX8_joined_80 rfl ?_
            refine mGo.if_eq (tgt := 88) (n := 84) dX8_joined_81 (by decide) rfl (fun hc => ?_) (fun hc => ?_)
            · replace e := mIft hc e
              refine mGo.iconst (n := 89) (v := (0 : Int32)) dX8_joined_88 (by decide) rfl ?_
              refine mGo.mk [false, false, false, false, true, false, true, true, false] ?_
              exact g_X8_joined_c89 x1 x5 (x6 - ((2 : Int32) * x4)) (0 : Int32) h e q
            · replace e := mIff hc e
              refine mGo.iconst (n := 85) (v := (1 : Int32)) dX8_joined_84 (by decide) rfl ?_
              refine mGo.goto (tgt := 89) dX8_joined_85 (by decide) ?_
              refine mGo.mk [false, false, false, false, true, false, true, true, false] ?_
              exact g_X8_joined_c89 x1 x5 (x6 - ((2 : Int32) * x4)) (1 : Int32) h e q
          · replace e := mIff hc e
            refine mGo.iconst (n := 73) (v := (0 : Int32)) dX8_joined_72 (by decide) rfl ?_
            cases e
            exact mGo.iret dX8_joined_73 rfl (Nat.le_of_ble_eq_true rfl) (Nat.le_of_ble_eq_true rfl) q
      · replace e := mIft hc e
        refine mGo.iconst (n := 31) (v := (-1 : Int32)) dX8_joined_30 (by decide) rfl ?_
        cases e
        exact mGo.iret dX8_joined_31 rfl (Nat.le_of_ble_eq_true rfl) (Nat.le_of_ble_eq_true rfl) q
theorem e_X8_joined {w : mWp} (v0 : Option Nat) (v1 : Int32) (v2 : Int32) (v3 : Int32) (h : mH) {res : Int32} (e : f_X8_joined v0 v1 v2 v3 h = some res) : mEx w zX8_joined (mRoom 3 0 0) [va_rf v0, .int v1, .int v2, .int v3] h (fun r h2 => r = some (.int res) ∧ h2 = h) := by
  refine mEx.of (by decide +kernel) (show mEnt [va_rf v0, .int v1, .int v2, .int v3] 9 = [some (va_rf v0), some (.int v1), some (.int v2), some (.int v3), none, none, none, none, none] by rw [mEnt_r, mEnt_i, mEnt_i, mEnt_i] <;> rfl) (by simp only [List.map_cons, List.map_nil, mRfc, mCi, mCj, List.sum_cons, List.sum_nil]; exact Nat.le_of_ble_eq_true rfl) ?_
  refine g_X8_joined v0 v1 v2 v3 h e ?_
  exact ⟨rfl, rfl⟩
theorem s_X8_joined (v0 : Option Nat) (v1 : Int32) (v2 : Int32) (v3 : Int32) (h : mH) {res : Int32} (e : f_X8_joined v0 v1 v2 v3 h = some res) : mIs h v0 7 = some () := by
  unfold f_X8_joined at e
  obtain ⟨u, e1, _⟩ := mBind e
  cases u
  exact e1
