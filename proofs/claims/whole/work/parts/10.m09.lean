-- X9_signs
def kX9_signs : mK := (cX9_signs, RX9, 5, none, "signs", mRoom 2 0 0)
def zX9_signs : mY := (yX9_signs, cX9_signs, 5, none)
set_option maxRecDepth 100000 in
theorem sc_RX9_178 : mSV RX9 178 zX9_trailAt 3 8 := ⟨Or.inl (mT_at 1034 (by decide +kernel) rfl), mT_at 1036 (by decide +kernel) rfl, mT_at 57 (by decide +kernel) rfl, mT_at 91 (by decide +kernel) rfl, mT_at 1037 (by decide +kernel) rfl, ⟨by decide +kernel, by decide +kernel, by decide +kernel⟩, by decide, rfl⟩
def f_X9_signs_c69 (v0 : Option Nat) (v1 : Int32) (v2 : Int32) (v3 : Int32) (h : mH) : Option (mH) :=
  (mGR h v0 8 4).bind fun x1 =>
  (f_X9_trailAt v0 v1 v2 v3 h).bind fun x2 =>
  (mAI h x1 x2).bind fun x3 =>
  (mSI h x1 x2 (x3 ^^^ (1 : Int32))).bind fun h4 =>
  some h4
set_option maxRecDepth 100000 in
set_option maxHeartbeats 4000000 in
theorem g_X9_signs_c69 {w : mWp} {Q : Option Value → mH → Prop} (v0 : Option Nat) (v1 : Int32) (v2 : Int32) (v3 : Int32) (h : mH) {res : mH} (e : f_X9_signs_c69 v0 v1 v2 v3 h = some res) (q : (fun r : mH => Q none r) res) : mGo w kX9_signs 0 0 69 [some (va_rf v0), some (.int v1), some (.int v2), some (.int v3), none] [] h Q := by
  unfold f_X9_signs_c69 at e
  refine mGo.aload_n (n := 70) (r := v0) dX9_signs_69 rfl rfl ?_
  obtain ⟨x1, e_x1, e⟩ := mBind e
  refine mGo.getR (n := 73) dX9_signs_70 sf_RX9_23 e_x1 rfl ?_
  refine mGo.aload_n (n := 74) (r := v0) dX9_signs_73 rfl rfl ?_
  refine mGo.iload_n (n := 75) (x := v1) dX9_signs_74 rfl rfl ?_
  refine mGo.iload_n (n := 76) (x := v2) dX9_signs_75 rfl rfl ?_
  refine mGo.iload_n (n := 77) (x := v3) dX9_signs_76 rfl rfl ?_
  obtain ⟨x2, e_x2, e⟩ := mBind e
  refine mGo.callV (n := 80) (y := zX9_trailAt) (R' := (mRoom (1) 0 0)) (as := [.int v1, .int v2, .int v3]) (st := [va_rf x1]) (r0 := v0) dX9_signs_77 sc_RX9_178 rfl (s_X9_trailAt v0 v1 v2 v3 h e_x2) (e_X9_trailAt v0 v1 v2 v3 h e_x2) (mFit_of rfl (Nat.le_of_ble_eq_true rfl) (by decide) (Nat.le_of_ble_eq_true rfl) (Nat.le_of_ble_eq_true rfl)) (mCat8 (Nat.le_of_ble_eq_true rfl)) rfl rfl ?_
  intro _ _ hq
  rw [hq.1, hq.2]
  show mGo w kX9_signs 0 0 80 [some (va_rf v0), some (.int v1), some (.int v2), some (.int v3), none] [.int x2, va_rf x1] h Q
  refine mGo.dup2 (n := 81) dX9_signs_80 rfl (mRfc _) rfl ?_
  obtain ⟨x3, e_x3, e⟩ := mBind e
  refine mGo.iald (n := 82) dX9_signs_81 e_x3 rfl ?_
  refine mGo.iconst (n := 83) (v := (1 : Int32)) dX9_signs_82 (by decide) rfl ?_
  refine mGo.ixor (n := 84) dX9_signs_83 rfl ?_
  obtain ⟨h4, e_h4, e⟩ := mBind e
  refine mGo.iast (n := 85) dX9_signs_84 e_h4 rfl ?_
  cases e
  exact mGo.vret dX9_signs_85 rfl (Nat.le_of_ble_eq_true rfl) (Nat.le_of_ble_eq_true rfl) q
def f_X9_signs_b34 (v0 : Option Nat) (v1 : Int32) (v2 : Int32) (v3 : Int32) (v4 : Int32) (h : mH) : Option ((Int32 × mH) ⊕ (mH)) :=
  (mGR h v0 8 1).bind fun x1 =>
  (mAI h x1 v1).bind fun x2 =>
  if x2 ≤ v4 then
    (f_X9_signs_c69 v0 v1 v2 v3 h).map (fun r => (Sum.inr r))
  else
    (mGR h v0 8 2).bind fun x4 =>
    (mAI h x4 (((28 : Int32) * v1) + v4)).bind fun x5 =>
    (mSI h x4 (((28 : Int32) * v1) + v4) (x5 ^^^ ((1 : Int32) <<< (v3 &&& 31)))).bind fun h6 =>
    some (Sum.inl ((v4 + 1), h6))
set_option maxRecDepth 100000 in
set_option maxHeartbeats 4000000 in
theorem g_X9_signs_b34 {w : mWp} {Q : Option Value → mH → Prop} (v0 : Option Nat) (v1 : Int32) (v2 : Int32) (v3 : Int32) (v4 : Int32) (h : mH) {res : (Int32 × mH) ⊕ (mH)} (e : f_X9_signs_b34 v0 v1 v2 v3 v4 h = some res) (q : (Sum.elim (fun x : Int32 × mH => mGo w kX9_signs 0 0 34 [some (va_rf v0), some (.int v1), some (.int v2), some (.int v3), some (.int x.1)] [] x.2 Q) (fun r : mH => Q none r)) res) : mGo w kX9_signs 0 0 34 [some (va_rf v0), some (.int v1), some (.int v2), some (.int v3), some (.int v4)] [] h Q := by
  unfold f_X9_signs_b34 at e
  refine mGo.iload (n := 36) (x := v4) dX9_signs_34 rfl rfl ?_
  refine mGo.aload_n (n := 37) (r := v0) dX9_signs_36 rfl rfl ?_
  obtain ⟨x1, e_x1, e⟩ := mBind e
  refine mGo.getR (n := 40) dX9_signs_37 sf_RX9_13 e_x1 rfl ?_
  refine mGo.iload_n (n := 41) (x := v1) dX9_signs_40 rfl rfl ?_
  obtain ⟨x2, e_x2, e⟩ := mBind e
  refine mGo.iald (n := 42) dX9_signs_41 e_x2 rfl ?_
  refine mGo.icmp_ge (tgt := 69) (n := 45) dX9_signs_42 (by decide) rfl (fun hc => ?_) (fun hc => ?_)
  · replace e := mIft hc e
    obtain ⟨r3, e2, rfl⟩ := mMap e
    refine mGo.mk [true, true, true, true, false] ?_
    exact g_X9_signs_c69 v0 v1 v2 v3 h e2 q
  · replace e := mIff hc e
    refine mGo.aload_n (n := 46) (r := v0) dX9_signs_45 rfl rfl ?_
    obtain ⟨x4, e_x4, e⟩ := mBind e
    refine mGo.getR (n := 49) dX9_signs_46 sf_RX9_17 e_x4 rfl ?_
    refine mGo.bipush (n := 51) (v := (28 : Int32)) dX9_signs_49 (by decide) rfl ?_
    refine mGo.iload_n (n := 52) (x := v1) dX9_signs_51 rfl rfl ?_
    refine mGo.imul (n := 53) dX9_signs_52 rfl ?_
    refine mGo.iload (n := 55) (x := v4) dX9_signs_53 rfl rfl ?_
    refine mGo.iadd (n := 56) dX9_signs_55 rfl ?_
    refine mGo.dup2 (n := 57) dX9_signs_56 rfl (mRfc _) rfl ?_
    obtain ⟨x5, e_x5, e⟩ := mBind e
    refine mGo.iald (n := 58) dX9_signs_57 e_x5 rfl ?_
    refine mGo.iconst (n := 59) (v := (1 : Int32)) dX9_signs_58 (by decide) rfl ?_
    refine mGo.iload_n (n := 60) (x := v3) dX9_signs_59 rfl rfl ?_
    refine mGo.ishl (n := 61) dX9_signs_60 rfl ?_
    refine mGo.ixor (n := 62) dX9_signs_61 rfl ?_
    obtain ⟨h6, e_h6, e⟩ := mBind e
    refine mGo.iast (n := 63) dX9_signs_62 e_h6 rfl ?_
    refine mGo.iinc (n := 66) (x := v4) (v := (v4 + 1)) (ls' := [some (va_rf v0), some (.int v1), some (.int v2), some (.int v3), some (.int (v4 + 1))]) dX9_signs_63 rfl rfl rfl (Nat.le_of_ble_eq_true rfl) rfl ?_
    refine mGo.goto (tgt := 34) dX9_signs_66 (by decide) ?_
    cases e
    refine mGo.mk [true, true, true, true, true] ?_
    exact q
noncomputable def f_X9_signs_l34 (v0 : Option Nat) (v1 : Int32) (v2 : Int32) (v3 : Int32) (v4 : Int32) (h : mH) : Option (mH) :=
  mLoop (fun x : Int32 × mH => f_X9_signs_b34 v0 v1 v2 v3 x.1 x.2) (v4, h)
set_option maxRecDepth 100000 in
set_option maxHeartbeats 4000000 in
theorem g_X9_signs_l34 {w : mWp} {Q : Option Value → mH → Prop} (v0 : Option Nat) (v1 : Int32) (v2 : Int32) (v3 : Int32) (v4 : Int32) (h : mH) {res : mH} (e : f_X9_signs_l34 v0 v1 v2 v3 v4 h = some res) (q : (fun r : mH => Q none r) res) : mGo w kX9_signs 0 0 34 [some (va_rf v0), some (.int v1), some (.int v2), some (.int v3), some (.int v4)] [] h Q := by
  unfold f_X9_signs_l34 at e
  refine mLoop_go (x := (v4, h)) (fun x : Int32 × mH => mGo w kX9_signs 0 0 34 [some (va_rf v0), some (.int v1), some (.int v2), some (.int v3), some (.int x.1)] [] x.2 Q) (fun r : mH => Q none r) ?_ e q
  rintro ⟨v4, h1⟩ res e q
  exact g_X9_signs_b34 v0 v1 v2 v3 v4 h1 e q
noncomputable def f_X9_signs (v0 : Option Nat) (v1 : Int32) (v2 : Int32) (v3 : Int32) (h : mH) : Option (mH) :=
  (mIs h v0 8).bind fun _ =>
  if v2 = 0 then
    f_X9_signs_l34 v0 v1 v2 v3 (0 : Int32) h
  else
    (mGR h v0 8 2).bind fun x1 =>
    (mAI h x1 (((28 : Int32) * v1) + v3)).bind fun x2 =>
    (mGR h v0 8 1).bind fun x3 =>
    (mAI h x3 v1).bind fun x4 =>
    (mSI h x1 (((28 : Int32) * v1) + v3) (x2 ^^^ (((1 : Int32) <<< (x4 &&& 31)) - (1 : Int32)))).bind fun h5 =>
    f_X9_signs_c69 v0 v1 v2 v3 h5
set_option maxRecDepth 100000 in
set_option maxHeartbeats 4000000 in
theorem g_X9_signs {w : mWp} {Q : Option Value → mH → Prop} (v0 : Option Nat) (v1 : Int32) (v2 : Int32) (v3 : Int32) (h : mH) {res : mH} (e : f_X9_signs v0 v1 v2 v3 h = some res) (q : (fun r : mH => Q none r) res) : mGo w kX9_signs 0 0 0 [some (va_rf v0), some (.int v1), some (.int v2), some (.int v3), none] [] h Q := by
  unfold f_X9_signs at e
  obtain ⟨_, _, e⟩ := mBind e
  refine mGo.iload_n (n := 1) (x := v2) dX9_signs_0 rfl rfl ?_
  refine mGo.if_eq (tgt := 31) (n := 4) dX9_signs_1 (by decide) rfl (fun hc => ?_) (fun hc => ?_)
  · replace e := mIft hc e
    refine mGo.iconst (n := 32) (v := (0 : Int32)) dX9_signs_31 (by decide) rfl ?_
    refine mGo.istore (n := 34) (ls' := [some (va_rf v0), some (.int v1), some (.int v2), some (.int v3), some (.int (0 : Int32))]) dX9_signs_32 rfl (Nat.le_of_ble_eq_true rfl) rfl ?_
    refine mGo.mk [true, true, true, true, true] ?_
    exact g_X9_signs_l34 v0 v1 v2 v3 (0 : Int32) h e q
  · replace e := mIff hc e
    refine mGo.aload_n (n := 5) (r := v0) dX9_signs_4 rfl rfl ?_
    obtain ⟨x1, e_x1, e⟩ := mBind e
    refine mGo.getR (n := 8) dX9_signs_5 sf_RX9_17 e_x1 rfl ?_
    refine mGo.bipush (n := 10) (v := (28 : Int32)) dX9_signs_8 (by decide) rfl ?_
    refine mGo.iload_n (n := 11) (x := v1) dX9_signs_10 rfl rfl ?_
    refine mGo.imul (n := 12) dX9_signs_11 rfl ?_
    refine mGo.iload_n (n := 13) (x := v3) dX9_signs_12 rfl rfl ?_
    refine mGo.iadd (n := 14) dX9_signs_13 rfl ?_
    refine mGo.dup2 (n := 15) dX9_signs_14 rfl (mRfc _) rfl ?_
    obtain ⟨x2, e_x2, e⟩ := mBind e
    refine mGo.iald (n := 16) dX9_signs_15 e_x2 rfl ?_
    refine mGo.iconst (n := 17) (v := (1 : Int32)) dX9_signs_16 (by decide) rfl ?_
    refine mGo.aload_n (n := 18) (r := v0) dX9_signs_17 rfl rfl ?_
    obtain ⟨x3, e_x3, e⟩ := mBind e
    refine mGo.getR (n := 21) dX9_signs_18 sf_RX9_13 e_x3 rfl ?_
    refine mGo.iload_n (n := 22) (x := v1) dX9_signs_21 rfl rfl ?_
    obtain ⟨x4, e_x4, e⟩ := mBind e
    refine mGo.iald (n := 23) dX9_signs_22 e_x4 rfl ?_
    refine mGo.ishl (n := 24) dX9_signs_23 rfl ?_
    refine mGo.iconst (n := 25) (v := (1 : Int32)) dX9_signs_24 (by decide) rfl ?_
    refine mGo.isub (n := 26) dX9_signs_25 rfl ?_
    refine mGo.ixor (n := 27) dX9_signs_26 rfl ?_
    obtain ⟨h5, e_h5, e⟩ := mBind e
    refine mGo.iast (n := 28) dX9_signs_27 e_h5 rfl ?_
    refine mGo.goto (tgt := 69) dX9_signs_28 (by decide) ?_
    refine mGo.mk [true, true, true, true, false] ?_
    exact g_X9_signs_c69 v0 v1 v2 v3 h5 e q
theorem e_X9_signs {w : mWp} (v0 : Option Nat) (v1 : Int32) (v2 : Int32) (v3 : Int32) (h : mH) {res : mH} (e : f_X9_signs v0 v1 v2 v3 h = some res) : mEx w zX9_signs (mRoom 2 0 0) [va_rf v0, .int v1, .int v2, .int v3] h (fun r h2 => r = none ∧ h2 = res) := by
  refine mEx.of (by decide +kernel) (show mEnt [va_rf v0, .int v1, .int v2, .int v3] 5 = [some (va_rf v0), some (.int v1), some (.int v2), some (.int v3), none] by rw [mEnt_r, mEnt_i, mEnt_i, mEnt_i] <;> rfl) (by simp only [List.map_cons, List.map_nil, mRfc, mCi, mCj, List.sum_cons, List.sum_nil]; exact Nat.le_of_ble_eq_true rfl) ?_
  refine g_X9_signs v0 v1 v2 v3 h e ?_
  exact ⟨rfl, rfl⟩
theorem s_X9_signs (v0 : Option Nat) (v1 : Int32) (v2 : Int32) (v3 : Int32) (h : mH) {res : mH} (e : f_X9_signs v0 v1 v2 v3 h = some res) : mIs h v0 8 = some () := by
  unfold f_X9_signs at e
  obtain ⟨u, e1, _⟩ := mBind e
  cases u
  exact e1
-- X9_sign
def kX9_sign : mK := (cX9_sign, RX9, 4, some (.boolean), "sign", mRoom 4 0 0)
def zX9_sign : mY := (yX9_sign, cX9_sign, 4, some (.boolean))
set_option maxRecDepth 100000 in
theorem sc_RX9_182 : mSV RX9 182 zX9_isLine 2 8 := ⟨Or.inl (mT_at 1026 (by decide +kernel) rfl), mT_at 1028 (by decide +kernel) rfl, mT_at 55 (by decide +kernel) rfl, mT_at 91 (by decide +kernel) rfl, mT_at 1029 (by decide +kernel) rfl, ⟨by decide +kernel, by decide +kernel, by decide +kernel⟩, by decide, rfl⟩
set_option maxRecDepth 100000 in
theorem sc_RX9_185 : mSV RX9 185 zX9_signs 3 8 := ⟨Or.inl (mT_at 1030 (by decide +kernel) rfl), mT_at 1032 (by decide +kernel) rfl, mT_at 56 (by decide +kernel) rfl, mT_at 91 (by decide +kernel) rfl, mT_at 1033 (by decide +kernel) rfl, ⟨by decide +kernel, by decide +kernel, by decide +kernel⟩, by decide, rfl⟩
noncomputable def f_X9_sign (v0 : Option Nat) (v1 : Int32) (v2 : Int32) (v3 : Int32) (h : mH) : Option (Int32 × mH) :=
  (mIs h v0 8).bind fun _ =>
  (f_X9_isLine v0 v1 v3 h).bind fun x1 =>
  if x1 = 0 then
    some ((0 : Int32), h)
  else
    (f_X9_signs v0 v1 v2 v3 h).bind fun x2 =>
    some ((1 : Int32), x2)
set_option maxRecDepth 100000 in
set_option maxHeartbeats 4000000 in
theorem g_X9_sign {w : mWp} {Q : Option Value → mH → Prop} (v0 : Option Nat) (v1 : Int32) (v2 : Int32) (v3 : Int32) (h : mH) {res : Int32 × mH} (e : f_X9_sign v0 v1 v2 v3 h = some res) (q : (fun r : Int32 × mH => Q (some (.int r.1)) r.2) res) : mGo w kX9_sign 0 0 0 [some (va_rf v0), some (.int v1), some (.int v2), some (.int v3)] [] h Q := by
  unfold f_X9_sign at e
  obtain ⟨_, _, e⟩ := mBind e
  refine mGo.aload_n (n := 1) (r := v0) dX9_sign_0 rfl rfl ?_
  refine mGo.iload_n (n := 2) (x := v1) dX9_sign_1 rfl rfl ?_
  refine mGo.iload_n (n := 3) (x := v3) dX9_sign_2 rfl rfl ?_
  obtain ⟨x1, e_x1, e⟩ := mBind e
  refine mGo.callV (n := 6) (y := zX9_isLine) (R' := (mRoom (3) 0 0)) (as := [.int v1, .int v3]) (st := []) (r0 := v0) dX9_sign_3 sc_RX9_182 rfl (s_X9_isLine v0 v1 v3 h e_x1) (e_X9_isLine v0 v1 v3 h e_x1) (mFit_of rfl (Nat.le_of_ble_eq_true rfl) (by decide) (Nat.le_of_ble_eq_true rfl) (Nat.le_of_ble_eq_true rfl)) (Nat.le_of_ble_eq_true rfl) rfl rfl ?_
  intro _ _ hq
  rw [hq.1, hq.2]
  show mGo w kX9_sign 0 0 6 [some (va_rf v0), some (.int v1), some (.int v2), some (.int v3)] [.int x1] h Q
  refine mGo.if_ne (tgt := 11) (n := 9) dX9_sign_6 (by decide) rfl (fun hc => ?_) (fun hc => ?_)
  · replace e := mIff hc e
    refine mGo.aload_n (n := 12) (r := v0) dX9_sign_11 rfl rfl ?_
    refine mGo.iload_n (n := 13) (x := v1) dX9_sign_12 rfl rfl ?_
    refine mGo.iload_n (n := 14) (x := v2) dX9_sign_13 rfl rfl ?_
    refine mGo.iload_n (n := 15) (x := v3) dX9_sign_14 rfl rfl ?_
    obtain ⟨x2, e_x2, e⟩ := mBind e
    refine mGo.callV (n := 18) (y := zX9_signs) (R' := (mRoom (2) 0 0)) (as := [.int v1, .int v2, .int v3]) (st := []) (r0 := v0) dX9_sign_15 sc_RX9_185 rfl (s_X9_signs v0 v1 v2 v3 h e_x2) (e_X9_signs v0 v1 v2 v3 h e_x2) (mFit_of rfl (Nat.le_of_ble_eq_true rfl) (by decide) (Nat.le_of_ble_eq_true rfl) (Nat.le_of_ble_eq_true rfl)) (Nat.le_of_ble_eq_true rfl) rfl rfl ?_
    intro _ _ hq
    rw [hq.1, hq.2]
    show mGo w kX9_sign 0 0 18 [some (va_rf v0), some (.int v1), some (.int v2), some (.int v3)] [] x2 Q
    refine mGo.iconst (n := 19) (v := (1 : Int32)) dX9_sign_18 (by decide) rfl ?_
    cases e
    exact mGo.zret dX9_sign_19 rfl (by decide) (Nat.le_of_ble_eq_true rfl) (Nat.le_of_ble_eq_true rfl) q
  · replace e := mIft hc e
    refine mGo.iconst (n := 10) (v := (0 : Int32)) dX9_sign_9 (by decide) rfl ?_
    cases e
    exact mGo.zret dX9_sign_10 rfl (by decide) (Nat.le_of_ble_eq_true rfl) (Nat.le_of_ble_eq_true rfl) q
theorem e_X9_sign {w : mWp} (v0 : Option Nat) (v1 : Int32) (v2 : Int32) (v3 : Int32) (h : mH) {res : Int32 × mH} (e : f_X9_sign v0 v1 v2 v3 h = some res) : mEx w zX9_sign (mRoom 4 0 0) [va_rf v0, .int v1, .int v2, .int v3] h (fun r h2 => r = some (.int res.1) ∧ h2 = res.2) := by
  refine mEx.of (by decide +kernel) (show mEnt [va_rf v0, .int v1, .int v2, .int v3] 4 = [some (va_rf v0), some (.int v1), some (.int v2), some (.int v3)] by rw [mEnt_r, mEnt_i, mEnt_i, mEnt_i] <;> rfl) (by simp only [List.map_cons, List.map_nil, mRfc, mCi, mCj, List.sum_cons, List.sum_nil]; exact Nat.le_of_ble_eq_true rfl) ?_
  refine g_X9_sign v0 v1 v2 v3 h e ?_
  exact ⟨rfl, rfl⟩
theorem s_X9_sign (v0 : Option Nat) (v1 : Int32) (v2 : Int32) (v3 : Int32) (h : mH) {res : Int32 × mH} (e : f_X9_sign v0 v1 v2 v3 h = some res) : mIs h v0 8 = some () := by
  unfold f_X9_sign at e
  obtain ⟨u, e1, _⟩ := mBind e
  cases u
  exact e1
-- X9_swaps
def kX9_swaps : mK := (cX9_swaps, RX9, 4, none, "swaps", mRoom 1 0 0)
def zX9_swaps : mY := (yX9_swaps, cX9_swaps, 4, none)
def f_X9_swaps (v0 : Option Nat) (v1 : Int32) (v2 : Int32) (h : mH) : Option (mH) :=
  (mAI h v0 v1).bind fun x1 =>
  (mAI h v0 v2).bind fun x2 =>
  (mSI h v0 v1 x2).bind fun h3 =>
  (mSI h3 v0 v2 x1).bind fun h4 =>
  some h4
set_option maxRecDepth 100000 in
set_option maxHeartbeats 4000000 in
theorem g_X9_swaps {w : mWp} {Q : Option Value → mH → Prop} (v0 : Option Nat) (v1 : Int32) (v2 : Int32) (h : mH) {res : mH} (e : f_X9_swaps v0 v1 v2 h = some res) (q : (fun r : mH => Q none r) res) : mGo w kX9_swaps 0 0 0 [some (va_rf v0), some (.int v1), some (.int v2), none] [] h Q := by
  unfold f_X9_swaps at e
  refine mGo.aload_n (n := 1) (r := v0) dX9_swaps_0 rfl rfl ?_
  refine mGo.iload_n (n := 2) (x := v1) dX9_swaps_1 rfl rfl ?_
  obtain ⟨x1, e_x1, e⟩ := mBind e
  refine mGo.iald (n := 3) dX9_swaps_2 e_x1 rfl ?_
  refine mGo.istore_n (n := 4) (ls' := [some (va_rf v0), some (.int v1), some (.int v2), some (.int x1)]) dX9_swaps_3 rfl (Nat.le_of_ble_eq_true rfl) rfl ?_
  refine mGo.aload_n (n := 5) (r := v0) dX9_swaps_4 rfl rfl ?_
  refine mGo.iload_n (n := 6) (x := v1) dX9_swaps_5 rfl rfl ?_
  refine mGo.aload_n (n := 7) (r := v0) dX9_swaps_6 rfl rfl ?_
  refine mGo.iload_n (n := 8) (x := v2) dX9_swaps_7 rfl rfl ?_
  obtain ⟨x2, e_x2, e⟩ := mBind e
  refine mGo.iald (n := 9) dX9_swaps_8 e_x2 rfl ?_
  obtain ⟨h3, e_h3, e⟩ := mBind e
  refine mGo.iast (n := 10) dX9_swaps_9 e_h3 rfl ?_
  refine mGo.aload_n (n := 11) (r := v0) dX9_swaps_10 rfl rfl ?_
  refine mGo.iload_n (n := 12) (x := v2) dX9_swaps_11 rfl rfl ?_
  refine mGo.iload_n (n := 13) (x := x1) dX9_swaps_12 rfl rfl ?_
  obtain ⟨h4, e_h4, e⟩ := mBind e
  refine mGo.iast (n := 14) dX9_swaps_13 e_h4 rfl ?_
  cases e
  exact mGo.vret dX9_swaps_14 rfl (Nat.le_of_ble_eq_true rfl) (Nat.le_of_ble_eq_true rfl) q
theorem e_X9_swaps {w : mWp} (v0 : Option Nat) (v1 : Int32) (v2 : Int32) (h : mH) {res : mH} (e : f_X9_swaps v0 v1 v2 h = some res) : mEx w zX9_swaps (mRoom 1 0 0) [va_rf v0, .int v1, .int v2] h (fun r h2 => r = none ∧ h2 = res) := by
  refine mEx.of (by decide +kernel) (show mEnt [va_rf v0, .int v1, .int v2] 4 = [some (va_rf v0), some (.int v1), some (.int v2), none] by rw [mEnt_r, mEnt_i, mEnt_i] <;> rfl) (by simp only [List.map_cons, List.map_nil, mRfc, mCi, mCj, List.sum_cons, List.sum_nil]; exact Nat.le_of_ble_eq_true rfl) ?_
  refine g_X9_swaps v0 v1 v2 h e ?_
  exact ⟨rfl, rfl⟩
-- X9_exchange
def kX9_exchange : mK := (cX9_exchange, RX9, 6, some (.boolean), "exchange", mRoom 4 0 0)
def zX9_exchange : mY := (yX9_exchange, cX9_exchange, 6, some (.boolean))
set_option maxRecDepth 100000 in
theorem sc_RX9_189 : mSS RX9 189 zX9_swaps 3 := ⟨Or.inl (mT_at 1042 (by decide +kernel) rfl), mT_at 1043 (by decide +kernel) rfl, mT_at 91 (by decide +kernel) rfl, mT_at 1044 (by decide +kernel) rfl, ⟨by decide +kernel, by decide +kernel, by decide +kernel⟩⟩
def f_X9_exchange_c118 (v0 : Option Nat) (v1 : Int32) (v2 : Int32) (v3 : Int32) (v4 : Int32) (h : mH) : Option (Int32 × mH) :=
  (mGR h v0 8 3).bind fun x1 =>
  (f_X9_trailAt v0 v1 v2 v3 h).bind fun x2 =>
  (f_X9_trailAt v0 v1 v2 v4 h).bind fun x3 =>
  (f_X9_swaps x1 x2 x3 h).bind fun x4 =>
  (mGR x4 v0 8 4).bind fun x5 =>
  (f_X9_trailAt v0 v1 v2 v3 x4).bind fun x6 =>
  (f_X9_trailAt v0 v1 v2 v4 x4).bind fun x7 =>
  (f_X9_swaps x5 x6 x7 x4).bind fun x8 =>
  some ((1 : Int32), x8)
set_option maxRecDepth 100000 in
set_option maxHeartbeats 4000000 in
theorem g_X9_exchange_c118 {w : mWp} {Q : Option Value → mH → Prop} (v0 : Option Nat) (v1 : Int32) (v2 : Int32) (v3 : Int32) (v4 : Int32) (h : mH) {res : Int32 × mH} (e : f_X9_exchange_c118 v0 v1 v2 v3 v4 h = some res) (q : (fun r : Int32 × mH => Q (some (.int r.1)) r.2) res) : mGo w kX9_exchange 0 0 118 [some (va_rf v0), some (.int v1), some (.int v2), some (.int v3), some (.int v4), none] [] h Q := by
  unfold f_X9_exchange_c118 at e
  refine mGo.aload_n (n := 119) (r := v0) dX9_exchange_118 rfl rfl ?_
  obtain ⟨x1, e_x1, e⟩ := mBind e
  refine mGo.getR (n := 122) dX9_exchange_119 sf_RX9_20 e_x1 rfl ?_
  refine mGo.aload_n (n := 123) (r := v0) dX9_exchange_122 rfl rfl ?_
  refine mGo.iload_n (n := 124) (x := v1) dX9_exchange_123 rfl rfl ?_
  refine mGo.iload_n (n := 125) (x := v2) dX9_exchange_124 rfl rfl ?_
  refine mGo.iload_n (n := 126) (x := v3) dX9_exchange_125 rfl rfl ?_
  obtain ⟨x2, e_x2, e⟩ := mBind e
  refine mGo.callV (n := 129) (y := zX9_trailAt) (R' := (mRoom (1) 0 0)) (as := [.int v1, .int v2, .int v3]) (st := [va_rf x1]) (r0 := v0) dX9_exchange_126 sc_RX9_178 rfl (s_X9_trailAt v0 v1 v2 v3 h e_x2) (e_X9_trailAt v0 v1 v2 v3 h e_x2) (mFit_of rfl (Nat.le_of_ble_eq_true rfl) (by decide) (Nat.le_of_ble_eq_true rfl) (Nat.le_of_ble_eq_true rfl)) (mCat8 (Nat.le_of_ble_eq_true rfl)) rfl rfl ?_
  intro _ _ hq
  rw [hq.1, hq.2]
  show mGo w kX9_exchange 0 0 129 [some (va_rf v0), some (.int v1), some (.int v2), some (.int v3), some (.int v4), none] [.int x2, va_rf x1] h Q
  refine mGo.aload_n (n := 130) (r := v0) dX9_exchange_129 rfl rfl ?_
  refine mGo.iload_n (n := 131) (x := v1) dX9_exchange_130 rfl rfl ?_
  refine mGo.iload_n (n := 132) (x := v2) dX9_exchange_131 rfl rfl ?_
  refine mGo.iload (n := 134) (x := v4) dX9_exchange_132 rfl rfl ?_
  obtain ⟨x3, e_x3, e⟩ := mBind e
  refine mGo.callV (n := 137) (y := zX9_trailAt) (R' := (mRoom (1) 0 0)) (as := [.int v1, .int v2, .int v4]) (st := [.int x2, va_rf x1]) (r0 := v0) dX9_exchange_134 sc_RX9_178 rfl (s_X9_trailAt v0 v1 v2 v4 h e_x3) (e_X9_trailAt v0 v1 v2 v4 h e_x3) (mFit_of rfl (Nat.le_of_ble_eq_true rfl) (by decide) (Nat.le_of_ble_eq_true rfl) (Nat.le_of_ble_eq_true rfl)) (mCat8 (Nat.le_of_ble_eq_true rfl)) rfl rfl ?_
  intro _ _ hq
  rw [hq.1, hq.2]
  show mGo w kX9_exchange 0 0 137 [some (va_rf v0), some (.int v1), some (.int v2), some (.int v3), some (.int v4), none] [.int x3, .int x2, va_rf x1] h Q
  obtain ⟨x4, e_x4, e⟩ := mBind e
  refine mGo.callS (n := 140) (y := zX9_swaps) (R' := (mRoom (1) 0 0)) (as := [va_rf x1, .int x2, .int x3]) (st := []) dX9_exchange_137 sc_RX9_189 rfl (e_X9_swaps x1 x2 x3 h e_x4) (mFit_of rfl (Nat.le_of_ble_eq_true rfl) (by decide) (Nat.le_of_ble_eq_true rfl) (Nat.le_of_ble_eq_true rfl)) (Nat.le_of_ble_eq_true rfl) rfl rfl ?_
  intro _ _ hq
  rw [hq.1, hq.2]
  show mGo w kX9_exchange 0 0 140 [some (va_rf v0), some (.int v1), some (.int v2), some (.int v3), some (.int v4), none] [] x4 Q
  refine mGo.aload_n (n := 141) (r := v0) dX9_exchange_140 rfl rfl ?_
  obtain ⟨x5, e_x5, e⟩ := mBind e
  refine mGo.getR (n := 144) dX9_exchange_141 sf_RX9_23 e_x5 rfl ?_
  refine mGo.aload_n (n := 145) (r := v0) dX9_exchange_144 rfl rfl ?_
  refine mGo.iload_n (n := 146) (x := v1) dX9_exchange_145 rfl rfl ?_
  refine mGo.iload_n (n := 147) (x := v2) dX9_exchange_146 rfl rfl ?_
  refine mGo.iload_n (n := 148) (x := v3) dX9_exchange_147 rfl rfl ?_
  obtain ⟨x6, e_x6, e⟩ := mBind e
  refine mGo.callV (n := 151) (y := zX9_trailAt) (R' := (mRoom (1) 0 0)) (as := [.int v1, .int v2, .int v3]) (st := [va_rf x5]) (r0 := v0) dX9_exchange_148 sc_RX9_178 rfl (s_X9_trailAt v0 v1 v2 v3 x4 e_x6) (e_X9_trailAt v0 v1 v2 v3 x4 e_x6) (mFit_of rfl (Nat.le_of_ble_eq_true rfl) (by decide) (Nat.le_of_ble_eq_true rfl) (Nat.le_of_ble_eq_true rfl)) (mCat8 (Nat.le_of_ble_eq_true rfl)) rfl rfl ?_
  intro _ _ hq
  rw [hq.1, hq.2]
  show mGo w kX9_exchange 0 0 151 [some (va_rf v0), some (.int v1), some (.int v2), some (.int v3), some (.int v4), none] [.int x6, va_rf x5] x4 Q
  refine mGo.aload_n (n := 152) (r := v0) dX9_exchange_151 rfl rfl ?_
  refine mGo.iload_n (n := 153) (x := v1) dX9_exchange_152 rfl rfl ?_
  refine mGo.iload_n (n := 154) (x := v2) dX9_exchange_153 rfl rfl ?_
  refine mGo.iload (n := 156) (x := v4) dX9_exchange_154 rfl rfl ?_
  obtain ⟨x7, e_x7, e⟩ := mBind e
  refine mGo.callV (n := 159) (y := zX9_trailAt) (R' := (mRoom (1) 0 0)) (as := [.int v1, .int v2, .int v4]) (st := [.int x6, va_rf x5]) (r0 := v0) dX9_exchange_156 sc_RX9_178 rfl (s_X9_trailAt v0 v1 v2 v4 x4 e_x7) (e_X9_trailAt v0 v1 v2 v4 x4 e_x7) (mFit_of rfl (Nat.le_of_ble_eq_true rfl) (by decide) (Nat.le_of_ble_eq_true rfl) (Nat.le_of_ble_eq_true rfl)) (mCat8 (Nat.le_of_ble_eq_true rfl)) rfl rfl ?_
  intro _ _ hq
  rw [hq.1, hq.2]
  show mGo w kX9_exchange 0 0 159 [some (va_rf v0), some (.int v1), some (.int v2), some (.int v3), some (.int v4), none] [.int x7, .int x6, va_rf x5] x4 Q
  obtain ⟨x8, e_x8, e⟩ := mBind e
  refine mGo.callS (n := 162) (y := zX9_swaps) (R' := (mRoom (1) 0 0)) (as := [va_rf x5, .int x6, .int x7]) (st := []) dX9_exchange_159 sc_RX9_189 rfl (e_X9_swaps x5 x6 x7 x4 e_x8) (mFit_of rfl (Nat.le_of_ble_eq_true rfl) (by decide) (Nat.le_of_ble_eq_true rfl) (Nat.le_of_ble_eq_true rfl)) (Nat.le_of_ble_eq_true rfl) rfl rfl ?_
  intro _ _ hq
  rw [hq.1, hq.2]
  show mGo w kX9_exchange 0 0 162 [some (va_rf v0), some (.int v1), some (.int v2), some (.int v3), some (.int v4), none] [] x8 Q
  refine mGo.iconst (n := 163) (v := (1 : Int32)) dX9_exchange_162 (by decide) rfl ?_
  cases e
  exact mGo.zret dX9_exchange_163 rfl (by decide) (Nat.le_of_ble_eq_true rfl) (Nat.le_of_ble_eq_true rfl) q
def f_X9_exchange_b54 (v0 : Option Nat) (v1 : Int32) (v2 : Int32) (v3 : Int32) (v4 : Int32) (v5 : Int32) (h : mH) : Option ((Int32 × mH) ⊕ (Int32 × mH)) :=
  (mGR h v0 8 1).bind fun x1 =>
  (mAI h x1 v1).bind fun x2 =>
  if x2 ≤ v5 then
    (f_X9_exchange_c118 v0 v1 v2 v3 v4 h).map (fun r => (Sum.inr r))
  else
    if v2 = 0 then
      (f_X9_isMinus v0 v1 v5 v3 h).bind fun x5 =>
      (f_X9_isMinus v0 v1 v5 v4 h).bind fun x6 =>
      if x5 = x6 then
        some (Sum.inl ((v5 + 1), h))
      else
        (mGR h v0 8 2).bind fun x7 =>
        (mAI h x7 (((28 : Int32) * v1) + v5)).bind fun x8 =>
        (mSI h x7 (((28 : Int32) * v1) + v5) (x8 ^^^ (((1 : Int32) <<< (v3 &&& 31)) ||| ((1 : Int32) <<< (v4 &&& 31))))).bind fun h9 =>
        some (Sum.inl ((v5 + 1), h9))
    else
      (f_X9_exchange_c118 v0 v1 v2 v3 v4 h).map (fun r => (Sum.inr r))
set_option maxRecDepth 100000 in
set_option maxHeartbeats 4000000 in
theorem g_X9_exchange_b54 {w : mWp} {Q : Option Value → mH → Prop} (v0 : Option Nat) (v1 : Int32) (v2 : Int32) (v3 : Int32) (v4 : Int32) (v5 : Int32) (h : mH) {res : (Int32 × mH) ⊕ (Int32 × mH)} (e : f_X9_exchange_b54 v0 v1 v2 v3 v4 v5 h = some res) (q : (Sum.elim (fun x : Int32 × mH => mGo w kX9_exchange 0 0 54 [some (va_rf v0), some (.int v1), some (.int v2), some (.int v3), some (.int v4), some (.int x.1)] [] x.2 Q) (fun r : Int32 × mH => Q (some (.int r.1)) r.2)) res) : mGo w kX9_exchange 0 0 54 [some (va_rf v0), some (.int v1), some (.int v2), some (.int v3), some (.int v4), some (.int v5)] [] h Q := by
  unfold f_X9_exchange_b54 at e
  refine mGo.iload (n := 56) (x := v5) dX9_exchange_54 rfl rfl ?_
  refine mGo.aload_n (n := 57) (r := v0) dX9_exchange_56 rfl rfl ?_
  obtain ⟨x1, e_x1, e⟩ := mBind e
  refine mGo.getR (n := 60) dX9_exchange_57 sf_RX9_13 e_x1 rfl ?_
  refine mGo.iload_n (n := 61) (x := v1) dX9_exchange_60 rfl rfl ?_
  obtain ⟨x2, e_x2, e⟩ := mBind e
  refine mGo.iald (n := 62) dX9_exchange_61 e_x2 rfl ?_
  refine mGo.icmp_ge (tgt := 118) (n := 65) dX9_exchange_62 (by decide) rfl (fun hc => ?_) (fun hc => ?_)
  · replace e := mIft hc e
    obtain ⟨r3, e2, rfl⟩ := mMap e
    refine mGo.mk [true, true, true, true, true, false] ?_
    exact g_X9_exchange_c118 v0 v1 v2 v3 v4 h e2 q
  · replace e := mIff hc e
    refine mGo.iload_n (n := 66) (x := v2) dX9_exchange_65 rfl rfl ?_
    refine mGo.if_ne (tgt := 118) (n := 69) dX9_exchange_66 (by decide) rfl (fun hc => ?_) (fun hc => ?_)
    · replace e := mIff hc e
      obtain ⟨r4, e2, rfl⟩ := mMap e
      refine mGo.mk [true, true, true, true, true, false] ?_
      exact g_X9_exchange_c118 v0 v1 v2 v3 v4 h e2 q
    · replace e := mIft hc e
      refine mGo.aload_n (n := 70) (r := v0) dX9_exchange_69 rfl rfl ?_
      refine mGo.iload_n (n := 71) (x := v1) dX9_exchange_70 rfl rfl ?_
      refine mGo.iload (n := 73) (x := v5) dX9_exchange_71 rfl rfl ?_
      refine mGo.iload_n (n := 74) (x := v3) dX9_exchange_73 rfl rfl ?_
      obtain ⟨x5, e_x5, e⟩ := mBind e
      refine mGo.callV (n := 77) (y := zX9_isMinus) (R' := (mRoom (2) 0 0)) (as := [.int v1, .int v5, .int v3]) (st := []) (r0 := v0) dX9_exchange_74 sc_RX9_98 rfl (s_X9_isMinus v0 v1 v5 v3 h e_x5) (e_X9_isMinus v0 v1 v5 v3 h e_x5) (mFit_of rfl (Nat.le_of_ble_eq_true rfl) (by decide) (Nat.le_of_ble_eq_true rfl) (Nat.le_of_ble_eq_true rfl)) (Nat.le_of_ble_eq_true rfl) rfl rfl ?_
      intro _ _ hq
      rw [hq.1, hq.2]
      show mGo w kX9_exchange 0 0 77 [some (va_rf v0), some (.int v1), some (.int v2), some (.int v3), some (.int v4), some (.int v5)] [.int x5] h Q
      refine mGo.aload_n (n := 78) (r := v0) dX9_exchange_77 rfl rfl ?_
      refine mGo.iload_n (n := 79) (x := v1) dX9_exchange_78 rfl rfl ?_
      refine mGo.iload (n := 81) (x := v5) dX9_exchange_79 rfl rfl ?_
      refine mGo.iload (n := 83) (x := v4) dX9_exchange_81 rfl rfl ?_
      obtain ⟨x6, e_x6, e⟩ := mBind e
      refine mGo.callV (n := 86) (y := zX9_isMinus) (R' := (mRoom (2) 0 0)) (as := [.int v1, .int v5, .int v4]) (st := [.int x5]) (r0 := v0) dX9_exchange_83 sc_RX9_98 rfl (s_X9_isMinus v0 v1 v5 v4 h e_x6) (e_X9_isMinus v0 v1 v5 v4 h e_x6) (mFit_of rfl (Nat.le_of_ble_eq_true rfl) (by decide) (Nat.le_of_ble_eq_true rfl) (Nat.le_of_ble_eq_true rfl)) (Nat.le_of_ble_eq_true rfl) rfl rfl ?_
      intro _ _ hq
      rw [hq.1, hq.2]
      show mGo w kX9_exchange 0 0 86 [some (va_rf v0), some (.int v1), some (.int v2), some (.int v3), some (.int v4), some (.int v5)] [.int x6, .int x5] h Q
      refine mGo.icmp_eq (tgt := 112) (n := 89) dX9_exchange_86 (by decide) rfl (fun hc => ?_) (fun hc => ?_)
      · replace e := mIft hc e
        refine mGo.iinc (n := 115) (x := v5) (v := (v5 + 1)) (ls' := [some (va_rf v0), some (.int v1), some (.int v2), some (.int v3), some (.int v4), some (.int (v5 + 1))]) dX9_exchange_112 rfl rfl rfl (Nat.le_of_ble_eq_true rfl) rfl ?_
        refine mGo.goto (tgt := 54) dX9_exchange_115 (by decide) ?_
        cases e
        refine mGo.mk [true, true, true, true, true, true] ?_
        exact q
      · replace e := mIff hc e
        refine mGo.aload_n (n := 90) (r := v0) dX9_exchange_89 rfl rfl ?_
        obtain ⟨x7, e_x7, e⟩ := mBind e
        refine mGo.getR (n := 93) dX9_exchange_90 sf_RX9_17 e_x7 rfl ?_
        refine mGo.bipush (n := 95) (v := (28 : Int32)) dX9_exchange_93 (by decide) rfl ?_
        refine mGo.iload_n (n := 96) (x := v1) dX9_exchange_95 rfl rfl ?_
        refine mGo.imul (n := 97) dX9_exchange_96 rfl ?_
        refine mGo.iload (n := 99) (x := v5) dX9_exchange_97 rfl rfl ?_
        refine mGo.iadd (n := 100) dX9_exchange_99 rfl ?_
        refine mGo.dup2 (n := 101) dX9_exchange_100 rfl (mRfc _) rfl ?_
        obtain ⟨x8, e_x8, e⟩ := mBind e
        refine mGo.iald (n := 102) dX9_exchange_101 e_x8 rfl ?_
        refine mGo.iconst (n := 103) (v := (1 : Int32)) dX9_exchange_102 (by decide) rfl ?_
        refine mGo.iload_n (n := 104) (x := v3) dX9_exchange_103 rfl rfl ?_
        refine mGo.ishl (n := 105) dX9_exchange_104 rfl ?_
        refine mGo.iconst (n := 106) (v := (1 : Int32)) dX9_exchange_105 (by decide) rfl ?_
        refine mGo.iload (n := 108) (x := v4) dX9_exchange_106 rfl rfl ?_
        refine mGo.ishl (n := 109) dX9_exchange_108 rfl ?_
        refine mGo.ior (n := 110) dX9_exchange_109 rfl ?_
        refine mGo.ixor (n := 111) dX9_exchange_110 rfl ?_
        obtain ⟨h9, e_h9, e⟩ := mBind e
        refine mGo.iast (n := 112) dX9_exchange_111 e_h9 rfl ?_
        refine mGo.iinc (n := 115) (x := v5) (v := (v5 + 1)) (ls' := [some (va_rf v0), some (.int v1), some (.int v2), some (.int v3), some (.int v4), some (.int (v5 + 1))]) dX9_exchange_112 rfl rfl rfl (Nat.le_of_ble_eq_true rfl) rfl ?_
        refine mGo.goto (tgt := 54) dX9_exchange_115 (by decide) ?_
        cases e
        refine mGo.mk [true, true, true, true, true, true] ?_
        exact q
noncomputable def f_X9_exchange_l54 (v0 : Option Nat) (v1 : Int32) (v2 : Int32) (v3 : Int32) (v4 : Int32) (v5 : Int32) (h : mH) : Option (Int32 × mH) :=
  mLoop (fun x : Int32 × mH => f_X9_exchange_b54 v0 v1 v2 v3 v4 x.1 x.2) (v5, h)
set_option maxRecDepth 100000 in
set_option maxHeartbeats 4000000 in
theorem g_X9_exchange_l54 {w : mWp} {Q : Option Value → mH → Prop} (v0 : Option Nat) (v1 : Int32) (v2 : Int32) (v3 : Int32) (v4 : Int32) (v5 : Int32) (h : mH) {res : Int32 × mH} (e : f_X9_exchange_l54 v0 v1 v2 v3 v4 v5 h = some res) (q : (fun r : Int32 × mH => Q (some (.int r.1)) r.2) res) : mGo w kX9_exchange 0 0 54 [some (va_rf v0), some (.int v1), some (.int v2), some (.int v3), some (.int v4), some (.int v5)] [] h Q := by
  unfold f_X9_exchange_l54 at e
  refine mLoop_go (x := (v5, h)) (fun x : Int32 × mH => mGo w kX9_exchange 0 0 54 [some (va_rf v0), some (.int v1), some (.int v2), some (.int v3), some (.int v4), some (.int x.1)] [] x.2 Q) (fun r : Int32 × mH => Q (some (.int r.1)) r.2) ?_ e q
  rintro ⟨v5, h1⟩ res e q
  exact g_X9_exchange_b54 v0 v1 v2 v3 v4 v5 h1 e q
noncomputable def f_X9_exchange (v0 : Option Nat) (v1 : Int32) (v2 : Int32) (v3 : Int32) (v4 : Int32) (h : mH) : Option (Int32 × mH) :=
  (mIs h v0 8).bind fun _ =>
  (f_X9_isLine v0 v1 v3 h).bind fun x1 =>
  if x1 = 0 then
    some ((0 : Int32), h)
  else
    (f_X9_isLine v0 v1 v4 h).bind fun x2 =>
    if x2 = 0 then
      some ((0 : Int32), h)
    else
      if v3 = v4 then
        some ((0 : Int32), h)
      else
        if v2 = 0 then
          f_X9_exchange_l54 v0 v1 v2 v3 v4 (0 : Int32) h
        else
          (mGR h v0 8 2).bind fun x3 =>
          (f_X9_swaps x3 (((28 : Int32) * v1) + v3) (((28 : Int32) * v1) + v4) h).bind fun x4 =>
          f_X9_exchange_l54 v0 v1 v2 v3 v4 (0 : Int32) x4
set_option maxRecDepth 100000 in
set_option maxHeartbeats 4000000 in
theorem g_X9_exchange {w : mWp} {Q : Option Value → mH → Prop} (v0 : Option Nat) (v1 : Int32) (v2 : Int32) (v3 : Int32) (v4 : Int32) (h : mH) {res : Int32 × mH} (e : f_X9_exchange v0 v1 v2 v3 v4 h = some res) (q : (fun r : Int32 × mH => Q (some (.int r.1)) r.2) res) : mGo w kX9_exchange 0 0 0 [some (va_rf v0), some (.int v1), some (.int v2), some (.int v3), some (.int v4), none] [] h Q := by
  unfold f_X9_exchange at e
  obtain ⟨_, _, e⟩ := mBind e
  refine mGo.aload_n (n := 1) (r := v0) dX9_exchange_0 rfl rfl ?_
  refine mGo.iload_n (n := 2) (x := v1) dX9_exchange_1 rfl rfl ?_
  refine mGo.iload_n (n := 3) (x := v3) dX9_exchange_2 rfl rfl ?_
  obtain ⟨x1, e_x1, e⟩ := mBind e
  refine mGo.callV (n := 6) (y := zX9_isLine) (R' := (mRoom (3) 0 0)) (as := [.int v1, .int v3]) (st := []) (r0 := v0) dX9_exchange_3 sc_RX9_182 rfl (s_X9_isLine v0 v1 v3 h e_x1) (e_X9_isLine v0 v1 v3 h e_x1) (mFit_of rfl (Nat.le_of_ble_eq_true rfl) (by decide) (Nat.le_of_ble_eq_true rfl) (Nat.le_of_ble_eq_true rfl)) (Nat.le_of_ble_eq_true rfl) rfl rfl ?_
  intro _ _ hq
  rw [hq.1, hq.2]
  show mGo w kX9_exchange 0 0 6 [some (va_rf v0), some (.int v1), some (.int v2), some (.int v3), some (.int v4), none] [.int x1] h Q
  refine mGo.if_eq (tgt := 25) (n := 9) dX9_exchange_6 (by decide) rfl (fun hc => ?_) (fun hc => ?_)
  · replace e := mIft hc e
    refine mGo.iconst (n := 26) (v := (0 : Int32)) dX9_exchange_25 (by decide) rfl ?_
    cases e
    exact mGo.zret dX9_exchange_26 rfl (by decide) (Nat.le_of_ble_eq_true rfl) (Nat.le_of_ble_eq_true rfl) q
  · replace e := mIff hc e
    refine mGo.aload_n (n := 10) (r := v0) dX9_exchange_9 rfl rfl ?_
    refine mGo.iload_n (n := 11) (x := v1) dX9_exchange_10 rfl rfl ?_
    refine mGo.iload (n := 13) (x := v4) dX9_exchange_11 rfl rfl ?_
    obtain ⟨x2, e_x2, e⟩ := mBind e
    refine mGo.callV (n := 16) (y := zX9_isLine) (R' := (mRoom (3) 0 0)) (as := [.int v1, .int v4]) (st := []) (r0 := v0) dX9_exchange_13 sc_RX9_182 rfl (s_X9_isLine v0 v1 v4 h e_x2) (e_X9_isLine v0 v1 v4 h e_x2) (mFit_of rfl (Nat.le_of_ble_eq_true rfl) (by decide) (Nat.le_of_ble_eq_true rfl) (Nat.le_of_ble_eq_true rfl)) (Nat.le_of_ble_eq_true rfl) rfl rfl ?_
    intro _ _ hq
    rw [hq.1, hq.2]
    show mGo w kX9_exchange 0 0 16 [some (va_rf v0), some (.int v1), some (.int v2), some (.int v3), some (.int v4), none] [.int x2] h Q
    refine mGo.if_eq (tgt := 25) (n := 19) dX9_exchange_16 (by decide) rfl (fun hc => ?_) (fun hc => ?_)
    · replace e := mIft hc e
      refine mGo.iconst (n := 26) (v := (0 : Int32)) dX9_exchange_25 (by decide) rfl ?_
      cases e
      exact mGo.zret dX9_exchange_26 rfl (by decide) (Nat.le_of_ble_eq_true rfl) (Nat.le_of_ble_eq_true rfl) q
    · replace e := mIff hc e
      refine mGo.iload_n (n := 20) (x := v3) dX9_exchange_19 rfl rfl ?_
      refine mGo.iload (n := 22) (x := v4) dX9_exchange_20 rfl rfl ?_
      refine mGo.icmp_ne (tgt := 27) (n := 25) dX9_exchange_22 (by decide) rfl (fun hc => ?_) (fun hc => ?_)
      · replace e := mIff hc e
        refine mGo.iload_n (n := 28) (x := v2) dX9_exchange_27 rfl rfl ?_
        refine mGo.if_eq (tgt := 51) (n := 31) dX9_exchange_28 (by decide) rfl (fun hc => ?_) (fun hc => ?_)
        · replace e := mIft hc e
          refine mGo.iconst (n := 52) (v := (0 : Int32)) dX9_exchange_51 (by decide) rfl ?_
          refine mGo.istore (n := 54) (ls' := [some (va_rf v0), some (.int v1), some (.int v2), some (.int v3), some (.int v4), some (.int (0 : Int32))]) dX9_exchange_52 rfl (Nat.le_of_ble_eq_true rfl) rfl ?_
          refine mGo.mk [true, true, true, true, true, true] ?_
          exact g_X9_exchange_l54 v0 v1 v2 v3 v4 (0 : Int32) h e q
        · replace e := mIff hc e
          refine mGo.aload_n (n := 32) (r := v0) dX9_exchange_31 rfl rfl ?_
          obtain ⟨x3, e_x3, e⟩ := mBind e
          refine mGo.getR (n := 35) dX9_exchange_32 sf_RX9_17 e_x3 rfl ?_
          refine mGo.bipush (n := 37) (v := (28 : Int32)) dX9_exchange_35 (by decide) rfl ?_
          refine mGo.iload_n (n := 38) (x := v1) dX9_exchange_37 rfl rfl ?_
          refine mGo.imul (n := 39) dX9_exchange_38 rfl ?_
          refine mGo.iload_n (n := 40) (x := v3) dX9_exchange_39 rfl rfl ?_
          refine mGo.iadd (n := 41) dX9_exchange_40 rfl ?_
          refine mGo.bipush (n := 43) (v := (28 : Int32)) dX9_exchange_41 (by decide) rfl ?_
          refine mGo.iload_n (n := 44) (x := v1) dX9_exchange_43 rfl rfl ?_
          refine mGo.imul (n := 45) dX9_exchange_44 rfl ?_
          refine mGo.iload (n := 47) (x := v4) dX9_exchange_45 rfl rfl ?_
          refine mGo.iadd (n := 48) dX9_exchange_47 rfl ?_
          obtain ⟨x4, e_x4, e⟩ := mBind e
          refine mGo.callS (n := 51) (y := zX9_swaps) (R' := (mRoom (1) 0 0)) (as := [va_rf x3, .int (((28 : Int32) * v1) + v3), .int (((28 : Int32) * v1) + v4)]) (st := []) dX9_exchange_48 sc_RX9_189 rfl (e_X9_swaps x3 (((28 : Int32) * v1) + v3) (((28 : Int32) * v1) + v4) h e_x4) (mFit_of rfl (Nat.le_of_ble_eq_true rfl) (by decide) (Nat.le_of_ble_eq_true rfl) (Nat.le_of_ble_eq_true rfl)) (Nat.le_of_ble_eq_true rfl) rfl rfl ?_
          intro _ _ hq
          rw [hq.1, hq.2]
          show mGo w kX9_exchange 0 0 51 [some (va_rf v0), some (.int v1), some (.int v2), some (.int v3), some (.int v4), none] [] x4 Q
          refine mGo.iconst (n := 52) (v := (0 : Int32)) dX9_exchange_51 (by decide) rfl ?_
          refine mGo.istore (n := 54) (ls' := [some (va_rf v0), some (.int v1), some (.int v2), some (.int v3), some (.int v4), some (.int (0 : Int32))]) dX9_exchange_52 rfl (Nat.le_of_ble_eq_true rfl) rfl ?_
          refine mGo.mk [true, true, true, true, true, true] ?_
          exact g_X9_exchange_l54 v0 v1 v2 v3 v4 (0 : Int32) x4 e q
      · replace e := mIft hc e
        refine mGo.iconst (n := 26) (v := (0 : Int32)) dX9_exchange_25 (by decide) rfl ?_
        cases e
        exact mGo.zret dX9_exchange_26 rfl (by decide) (Nat.le_of_ble_eq_true rfl) (Nat.le_of_ble_eq_true rfl) q
theorem e_X9_exchange {w : mWp} (v0 : Option Nat) (v1 : Int32) (v2 : Int32) (v3 : Int32) (v4 : Int32) (h : mH) {res : Int32 × mH} (e : f_X9_exchange v0 v1 v2 v3 v4 h = some res) : mEx w zX9_exchange (mRoom 4 0 0) [va_rf v0, .int v1, .int v2, .int v3, .int v4] h (fun r h2 => r = some (.int res.1) ∧ h2 = res.2) := by
  refine mEx.of (by decide +kernel) (show mEnt [va_rf v0, .int v1, .int v2, .int v3, .int v4] 6 = [some (va_rf v0), some (.int v1), some (.int v2), some (.int v3), some (.int v4), none] by rw [mEnt_r, mEnt_i, mEnt_i, mEnt_i, mEnt_i] <;> rfl) (by simp only [List.map_cons, List.map_nil, mRfc, mCi, mCj, List.sum_cons, List.sum_nil]; exact Nat.le_of_ble_eq_true rfl) ?_
  refine g_X9_exchange v0 v1 v2 v3 v4 h e ?_
  exact ⟨rfl, rfl⟩
theorem s_X9_exchange (v0 : Option Nat) (v1 : Int32) (v2 : Int32) (v3 : Int32) (v4 : Int32) (h : mH) {res : Int32 × mH} (e : f_X9_exchange v0 v1 v2 v3 v4 h = some res) : mIs h v0 8 = some () := by
  unfold f_X9_exchange at e
  obtain ⟨u, e1, _⟩ := mBind e
  cases u
  exact e1
-- X9_turn
def kX9_turn : mK := (cX9_turn, RX9, 3, some (.boolean), "turn", mRoom 4 0 0)
def zX9_turn : mY := (yX9_turn, cX9_turn, 3, some (.boolean))
def f_X9_turn_b42 (v0 : Option Nat) (v1 : Int32) (v2 : Int32) (h : mH) : Option ((Int32 × mH) ⊕ (Int32 × mH)) :=
  (mGR h v0 8 1).bind fun x1 =>
  (mAI h x1 v1).bind fun x2 =>
  if x2 ≤ v2 then
    (mGR h v0 8 5).bind fun x3 =>
    (f_X9_swaps x3 ((2 : Int32) * v1) (((2 : Int32) * v1) + (1 : Int32)) h).bind fun x4 =>
    some (Sum.inr ((1 : Int32), x4))
  else
    (mGR h v0 8 2).bind fun x5 =>
    (mGR h v0 8 8).bind fun x6 =>
    (mAI h x6 v2).bind fun x7 =>
    (mSI h x5 (((28 : Int32) * v1) + v2) x7).bind fun h8 =>
    (mGR h8 v0 8 3).bind fun x9 =>
    (f_X9_trailAt v0 v1 (1 : Int32) v2 h8).bind fun x10 =>
    (f_X9_trailAt v0 v1 (0 : Int32) v2 h8).bind fun x11 =>
    (f_X9_swaps x9 x10 x11 h8).bind fun x12 =>
    (mGR x12 v0 8 4).bind fun x13 =>
    (f_X9_trailAt v0 v1 (1 : Int32) v2 x12).bind fun x14 =>
    (f_X9_trailAt v0 v1 (0 : Int32) v2 x12).bind fun x15 =>
    (f_X9_swaps x13 x14 x15 x12).bind fun x16 =>
    some (Sum.inl ((v2 + 1), x16))
set_option maxRecDepth 100000 in
set_option maxHeartbeats 4000000 in
theorem g_X9_turn_b42 {w : mWp} {Q : Option Value → mH → Prop} (v0 : Option Nat) (v1 : Int32) (v2 : Int32) (h : mH) {res : (Int32 × mH) ⊕ (Int32 × mH)} (e : f_X9_turn_b42 v0 v1 v2 h = some res) (q : (Sum.elim (fun x : Int32 × mH => mGo w kX9_turn 0 0 42 [some (va_rf v0), some (.int v1), some (.int x.1)] [] x.2 Q) (fun r : Int32 × mH => Q (some (.int r.1)) r.2)) res) : mGo w kX9_turn 0 0 42 [some (va_rf v0), some (.int v1), some (.int v2)] [] h Q := by
  unfold f_X9_turn_b42 at e
  refine mGo.iload_n (n := 43) (x := v2) dX9_turn_42 rfl rfl ?_
  refine mGo.aload_n (n := 44) (r := v0) dX9_turn_43 rfl rfl ?_
  obtain ⟨x1, e_x1, e⟩ := mBind e
  refine mGo.getR (n := 47) dX9_turn_44 sf_RX9_13 e_x1 rfl ?_
  refine mGo.iload_n (n := 48) (x := v1) dX9_turn_47 rfl rfl ?_
  obtain ⟨x2, e_x2, e⟩ := mBind e
  refine mGo.iald (n := 49) dX9_turn_48 e_x2 rfl ?_
  refine mGo.icmp_ge (tgt := 117) (n := 52) dX9_turn_49 (by decide) rfl (fun hc => ?_) (fun hc => ?_)
  · replace e := mIft hc e
    refine mGo.aload_n (n := 118) (r := v0) dX9_turn_117 rfl rfl ?_
    obtain ⟨x3, e_x3, e⟩ := mBind e
    refine mGo.getR (n := 121) dX9_turn_118 sf_RX9_26 e_x3 rfl ?_
    refine mGo.iconst (n := 122) (v := (2 : Int32)) dX9_turn_121 (by decide) rfl ?_
    refine mGo.iload_n (n := 123) (x := v1) dX9_turn_122 rfl rfl ?_
    refine mGo.imul (n := 124) dX9_turn_123 rfl ?_
    refine mGo.iconst (n := 125) (v := (2 : Int32)) dX9_turn_124 (by decide) rfl ?_
    refine mGo.iload_n (n := 126) (x := v1) dX9_turn_125 rfl rfl ?_
    refine mGo.imul (n := 127) dX9_turn_126 rfl ?_
    refine mGo.iconst (n := 128) (v := (1 : Int32)) dX9_turn_127 (by decide) rfl ?_
    refine mGo.iadd (n := 129) dX9_turn_128 rfl ?_
    obtain ⟨x4, e_x4, e⟩ := mBind e
    refine mGo.callS (n := 132) (y := zX9_swaps) (R' := (mRoom (1) 0 0)) (as := [va_rf x3, .int ((2 : Int32) * v1), .int (((2 : Int32) * v1) + (1 : Int32))]) (st := []) dX9_turn_129 sc_RX9_189 rfl (e_X9_swaps x3 ((2 : Int32) * v1) (((2 : Int32) * v1) + (1 : Int32)) h e_x4) (mFit_of rfl (Nat.le_of_ble_eq_true rfl) (by decide) (Nat.le_of_ble_eq_true rfl) (Nat.le_of_ble_eq_true rfl)) (Nat.le_of_ble_eq_true rfl) rfl rfl ?_
    intro _ _ hq
    rw [hq.1, hq.2]
    show mGo w kX9_turn 0 0 132 [some (va_rf v0), some (.int v1), some (.int v2)] [] x4 Q
    refine mGo.iconst (n := 133) (v := (1 : Int32)) dX9_turn_132 (by decide) rfl ?_
    cases e
    exact mGo.zret dX9_turn_133 rfl (by decide) (Nat.le_of_ble_eq_true rfl) (Nat.le_of_ble_eq_true rfl) q
  · replace e := mIff hc e
    refine mGo.aload_n (n := 53) (r := v0) dX9_turn_52 rfl rfl ?_
    obtain ⟨x5, e_x5, e⟩ := mBind e
    refine mGo.getR (n := 56) dX9_turn_53 sf_RX9_17 e_x5 rfl ?_
    refine mGo.bipush (n := 58) (v := (28 : Int32)) dX9_turn_56 (by decide) rfl ?_
    refine mGo.iload_n (n := 59) (x := v1) dX9_turn_58 rfl rfl ?_
    refine mGo.imul (n := 60) dX9_turn_59 rfl ?_
    refine mGo.iload_n (n := 61) (x := v2) dX9_turn_60 rfl rfl ?_
    refine mGo.iadd (n := 62) dX9_turn_61 rfl ?_
    refine mGo.aload_n (n := 63) (r := v0) dX9_turn_62 rfl rfl ?_
    obtain ⟨x6, e_x6, e⟩ := mBind e
    refine mGo.getR (n := 66) dX9_turn_63 sf_RX9_32 e_x6 rfl ?_
    refine mGo.iload_n (n := 67) (x := v2) dX9_turn_66 rfl rfl ?_
    obtain ⟨x7, e_x7, e⟩ := mBind e
    refine mGo.iald (n := 68) dX9_turn_67 e_x7 rfl ?_
    obtain ⟨h8, e_h8, e⟩ := mBind e
    refine mGo.iast (n := 69) dX9_turn_68 e_h8 rfl ?_
    refine mGo.aload_n (n := 70) (r := v0) dX9_turn_69 rfl rfl ?_
    obtain ⟨x9, e_x9, e⟩ := mBind e
    refine mGo.getR (n := 73) dX9_turn_70 sf_RX9_20 e_x9 rfl ?_
    refine mGo.aload_n (n := 74) (r := v0) dX9_turn_73 rfl rfl ?_
    refine mGo.iload_n (n := 75) (x := v1) dX9_turn_74 rfl rfl ?_
    refine mGo.iconst (n := 76) (v := (1 : Int32)) dX9_turn_75 (by decide) rfl ?_
    refine mGo.iload_n (n := 77) (x := v2) dX9_turn_76 rfl rfl ?_
    obtain ⟨x10, e_x10, e⟩ := mBind e
    refine mGo.callV (n := 80) (y := zX9_trailAt) (R' := (mRoom (1) 0 0)) (as := [.int v1, .int (1 : Int32), .int v2]) (st := [va_rf x9]) (r0 := v0) dX9_turn_77 sc_RX9_178 rfl (s_X9_trailAt v0 v1 (1 : Int32) v2 h8 e_x10) (e_X9_trailAt v0 v1 (1 : Int32) v2 h8 e_x10) (mFit_of rfl (Nat.le_of_ble_eq_true rfl) (by decide) (Nat.le_of_ble_eq_true rfl) (Nat.le_of_ble_eq_true rfl)) (mCat8 (Nat.le_of_ble_eq_true rfl)) rfl rfl ?_
    intro _ _ hq
    rw [hq.1, hq.2]
    show mGo w kX9_turn 0 0 80 [some (va_rf v0), some (.int v1), some (.int v2)] [.int x10, va_rf x9] h8 Q
    refine mGo.aload_n (n := 81) (r := v0) dX9_turn_80 rfl rfl ?_
    refine mGo.iload_n (n := 82) (x := v1) dX9_turn_81 rfl rfl ?_
    refine mGo.iconst (n := 83) (v := (0 : Int32)) dX9_turn_82 (by decide) rfl ?_
    refine mGo.iload_n (n := 84) (x := v2) dX9_turn_83 rfl rfl ?_
    obtain ⟨x11, e_x11, e⟩ := mBind e
    refine mGo.callV (n := 87) (y := zX9_trailAt) (R' := (mRoom (1) 0 0)) (as := [.int v1, .int (0 : Int32), .int v2]) (st := [.int x10, va_rf x9]) (r0 := v0) dX9_turn_84 sc_RX9_178 rfl (s_X9_trailAt v0 v1 (0 : Int32) v2 h8 e_x11) (e_X9_trailAt v0 v1 (0 : Int32) v2 h8 e_x11) (mFit_of rfl (Nat.le_of_ble_eq_true rfl) (by decide) (Nat.le_of_ble_eq_true rfl) (Nat.le_of_ble_eq_true rfl)) (mCat8 (Nat.le_of_ble_eq_true rfl)) rfl rfl ?_
    intro _ _ hq
    rw [hq.1, hq.2]
    show mGo w kX9_turn 0 0 87 [some (va_rf v0), some (.int v1), some (.int v2)] [.int x11, .int x10, va_rf x9] h8 Q
    obtain ⟨x12, e_x12, e⟩ := mBind e
    refine mGo.callS (n := 90) (y := zX9_swaps) (R' := (mRoom (1) 0 0)) (as := [va_rf x9, .int x10, .int x11]) (st := []) dX9_turn_87 sc_RX9_189 rfl (e_X9_swaps x9 x10 x11 h8 e_x12) (mFit_of rfl (Nat.le_of_ble_eq_true rfl) (by decide) (Nat.le_of_ble_eq_true rfl) (Nat.le_of_ble_eq_true rfl)) (Nat.le_of_ble_eq_true rfl) rfl rfl ?_
    intro _ _ hq
    rw [hq.1, hq.2]
    show mGo w kX9_turn 0 0 90 [some (va_rf v0), some (.int v1), some (.int v2)] [] x12 Q
    refine mGo.aload_n (n := 91) (r := v0) dX9_turn_90 rfl rfl ?_
    obtain ⟨x13, e_x13, e⟩ := mBind e
    refine mGo.getR (n := 94) dX9_turn_91 sf_RX9_23 e_x13 rfl ?_
    refine mGo.aload_n (n := 95) (r := v0) dX9_turn_94 rfl rfl ?_
    refine mGo.iload_n (n := 96) (x := v1) dX9_turn_95 rfl rfl ?_
    refine mGo.iconst (n := 97) (v := (1 : Int32)) dX9_turn_96 (by decide) rfl ?_
    refine mGo.iload_n (n := 98) (x := v2) dX9_turn_97 rfl rfl ?_
    obtain ⟨x14, e_x14, e⟩ := mBind e
    refine mGo.callV (n := 101) (y := zX9_trailAt) (R' := (mRoom (1) 0 0)) (as := [.int v1, .int (1 : Int32), .int v2]) (st := [va_rf x13]) (r0 := v0) dX9_turn_98 sc_RX9_178 rfl (s_X9_trailAt v0 v1 (1 : Int32) v2 x12 e_x14) (e_X9_trailAt v0 v1 (1 : Int32) v2 x12 e_x14) (mFit_of rfl (Nat.le_of_ble_eq_true rfl) (by decide) (Nat.le_of_ble_eq_true rfl) (Nat.le_of_ble_eq_true rfl)) (mCat8 (Nat.le_of_ble_eq_true rfl)) rfl rfl ?_
    intro _ _ hq
    rw [hq.1, hq.2]
    show mGo w kX9_turn 0 0 101 [some (va_rf v0), some (.int v1), some (.int v2)] [.int x14, va_rf x13] x12 Q
    refine mGo.aload_n (n := 102) (r := v0) dX9_turn_101 rfl rfl ?_
    refine mGo.iload_n (n := 103) (x := v1) dX9_turn_102 rfl rfl ?_
    refine mGo.iconst (n := 104) (v := (0 : Int32)) dX9_turn_103 (by decide) rfl ?_
    refine mGo.iload_n (n := 105) (x := v2) dX9_turn_104 rfl rfl ?_
    obtain ⟨x15, e_x15, e⟩ := mBind e
    refine mGo.callV (n := 108) (y := zX9_trailAt) (R' := (mRoom (1) 0 0)) (as := [.int v1, .int (0 : Int32), .int v2]) (st := [.int x14, va_rf x13]) (r0 := v0) dX9_turn_105 sc_RX9_178 rfl (s_X9_trailAt v0 v1 (0 : Int32) v2 x12 e_x15) (e_X9_trailAt v0 v1 (0 : Int32) v2 x12 e_x15) (mFit_of rfl (Nat.le_of_ble_eq_true rfl) (by decide) (Nat.le_of_ble_eq_true rfl) (Nat.le_of_ble_eq_true rfl)) (mCat8 (Nat.le_of_ble_eq_true rfl)) rfl rfl ?_
    intro _ _ hq
    rw [hq.1, hq.2]
    show mGo w kX9_turn 0 0 108 [some (va_rf v0), some (.int v1), some (.int v2)] [.int x15, .int x14, va_rf x13] x12 Q
    obtain ⟨x16, e_x16, e⟩ := mBind e
    refine mGo.callS (n := 111) (y := zX9_swaps) (R' := (mRoom (1) 0 0)) (as := [va_rf x13, .int x14, .int x15]) (st := []) dX9_turn_108 sc_RX9_189 rfl (e_X9_swaps x13 x14 x15 x12 e_x16) (mFit_of rfl (Nat.le_of_ble_eq_true rfl) (by decide) (Nat.le_of_ble_eq_true rfl) (Nat.le_of_ble_eq_true rfl)) (Nat.le_of_ble_eq_true rfl) rfl rfl ?_
    intro _ _ hq
    rw [hq.1, hq.2]
    show mGo w kX9_turn 0 0 111 [some (va_rf v0), some (.int v1), some (.int v2)] [] x16 Q
    refine mGo.iinc (n := 114) (x := v2) (v := (v2 + 1)) (ls' := [some (va_rf v0), some (.int v1), some (.int (v2 + 1))]) dX9_turn_111 rfl rfl rfl (Nat.le_of_ble_eq_true rfl) rfl ?_
    refine mGo.goto (tgt := 42) dX9_turn_114 (by decide) ?_
    cases e
    refine mGo.mk [true, true, true] ?_
    exact q
noncomputable def f_X9_turn_l42 (v0 : Option Nat) (v1 : Int32) (v2 : Int32) (h : mH) : Option (Int32 × mH) :=
  mLoop (fun x : Int32 × mH => f_X9_turn_b42 v0 v1 x.1 x.2) (v2, h)
set_option maxRecDepth 100000 in
set_option maxHeartbeats 4000000 in
theorem g_X9_turn_l42 {w : mWp} {Q : Option Value → mH → Prop} (v0 : Option Nat) (v1 : Int32) (v2 : Int32) (h : mH) {res : Int32 × mH} (e : f_X9_turn_l42 v0 v1 v2 h = some res) (q : (fun r : Int32 × mH => Q (some (.int r.1)) r.2) res) : mGo w kX9_turn 0 0 42 [some (va_rf v0), some (.int v1), some (.int v2)] [] h Q := by
  unfold f_X9_turn_l42 at e
  refine mLoop_go (x := (v2, h)) (fun x : Int32 × mH => mGo w kX9_turn 0 0 42 [some (va_rf v0), some (.int v1), some (.int x.1)] [] x.2 Q) (fun r : Int32 × mH => Q (some (.int r.1)) r.2) ?_ e q
  rintro ⟨v2, h1⟩ res e q
  exact g_X9_turn_b42 v0 v1 v2 h1 e q
noncomputable def f_X9_turn_b12 (v0 : Option Nat) (v1 : Int32) (v2 : Int32) (h : mH) : Option ((Int32 × mH) ⊕ (Int32 × mH)) :=
  (mGR h v0 8 1).bind fun x1 =>
  (mAI h x1 v1).bind fun x2 =>
  if x2 ≤ v2 then
    (f_X9_turn_l42 v0 v1 (0 : Int32) h).map (fun r => (Sum.inr r))
  else
    (mGR h v0 8 8).bind fun x4 =>
    (f_X9_columnOf v0 v1 v2 h).bind fun x5 =>
    (mSI h x4 v2 x5).bind fun h6 =>
    some (Sum.inl ((v2 + 1), h6))
set_option maxRecDepth 100000 in
set_option maxHeartbeats 4000000 in
theorem g_X9_turn_b12 {w : mWp} {Q : Option Value → mH → Prop} (v0 : Option Nat) (v1 : Int32) (v2 : Int32) (h : mH) {res : (Int32 × mH) ⊕ (Int32 × mH)} (e : f_X9_turn_b12 v0 v1 v2 h = some res) (q : (Sum.elim (fun x : Int32 × mH => mGo w kX9_turn 0 0 12 [some (va_rf v0), some (.int v1), some (.int x.1)] [] x.2 Q) (fun r : Int32 × mH => Q (some (.int r.1)) r.2)) res) : mGo w kX9_turn 0 0 12 [some (va_rf v0), some (.int v1), some (.int v2)] [] h Q := by
  unfold f_X9_turn_b12 at e
  refine mGo.iload_n (n := 13) (x := v2) dX9_turn_12 rfl rfl ?_
  refine mGo.aload_n (n := 14) (r := v0) dX9_turn_13 rfl rfl ?_
  obtain ⟨x1, e_x1, e⟩ := mBind e
  refine mGo.getR (n := 17) dX9_turn_14 sf_RX9_13 e_x1 rfl ?_
  refine mGo.iload_n (n := 18) (x := v1) dX9_turn_17 rfl rfl ?_
  obtain ⟨x2, e_x2, e⟩ := mBind e
  refine mGo.iald (n := 19) dX9_turn_18 e_x2 rfl ?_
  refine mGo.icmp_ge (tgt := 40) (n := 22) dX9_turn_19 (by decide) rfl (fun hc => ?_) (fun hc => ?_)
  · replace e := mIft hc e
    refine mGo.iconst (n := 41) (v := (0 : Int32)) dX9_turn_40 (by decide) rfl ?_
    refine mGo.istore_n (n := 42) (ls' := [some (va_rf v0), some (.int v1), some (.int (0 : Int32))]) dX9_turn_41 rfl (Nat.le_of_ble_eq_true rfl) rfl ?_
    obtain ⟨r3, e2, rfl⟩ := mMap e
    refine mGo.mk [true, true, true] ?_
    exact g_X9_turn_l42 v0 v1 (0 : Int32) h e2 q
  · replace e := mIff hc e
    refine mGo.aload_n (n := 23) (r := v0) dX9_turn_22 rfl rfl ?_
    obtain ⟨x4, e_x4, e⟩ := mBind e
    refine mGo.getR (n := 26) dX9_turn_23 sf_RX9_32 e_x4 rfl ?_
    refine mGo.iload_n (n := 27) (x := v2) dX9_turn_26 rfl rfl ?_
    refine mGo.aload_n (n := 28) (r := v0) dX9_turn_27 rfl rfl ?_
    refine mGo.iload_n (n := 29) (x := v1) dX9_turn_28 rfl rfl ?_
    refine mGo.iload_n (n := 30) (x := v2) dX9_turn_29 rfl rfl ?_
    obtain ⟨x5, e_x5, e⟩ := mBind e
    refine mGo.callV (n := 33) (y := zX9_columnOf) (R' := (mRoom (3) 0 0)) (as := [.int v1, .int v2]) (st := [.int v2, va_rf x4]) (r0 := v0) dX9_turn_30 sc_RX9_101 rfl (s_X9_columnOf v0 v1 v2 h e_x5) (e_X9_columnOf v0 v1 v2 h e_x5) (mFit_of rfl (Nat.le_of_ble_eq_true rfl) (by decide) (Nat.le_of_ble_eq_true rfl) (Nat.le_of_ble_eq_true rfl)) (mCat8 (Nat.le_of_ble_eq_true rfl)) rfl rfl ?_
    intro _ _ hq
    rw [hq.1, hq.2]
    show mGo w kX9_turn 0 0 33 [some (va_rf v0), some (.int v1), some (.int v2)] [.int x5, .int v2, va_rf x4] h Q
    obtain ⟨h6, e_h6, e⟩ := mBind e
    refine mGo.iast (n := 34) dX9_turn_33 e_h6 rfl ?_
    refine mGo.iinc (n := 37) (x := v2) (v := (v2 + 1)) (ls' := [some (va_rf v0), some (.int v1), some (.int (v2 + 1))]) dX9_turn_34 rfl rfl rfl (Nat.le_of_ble_eq_true rfl) rfl ?_
    refine mGo.goto (tgt := 12) dX9_turn_37 (by decide) ?_
    cases e
    refine mGo.mk [true, true, true] ?_
    exact q
noncomputable def f_X9_turn_l12 (v0 : Option Nat) (v1 : Int32) (v2 : Int32) (h : mH) : Option (Int32 × mH) :=
  mLoop (fun x : Int32 × mH => f_X9_turn_b12 v0 v1 x.1 x.2) (v2, h)
set_option maxRecDepth 100000 in
set_option maxHeartbeats 4000000 in
theorem g_X9_turn_l12 {w : mWp} {Q : Option Value → mH → Prop} (v0 : Option Nat) (v1 : Int32) (v2 : Int32) (h : mH) {res : Int32 × mH} (e : f_X9_turn_l12 v0 v1 v2 h = some res) (q : (fun r : Int32 × mH => Q (some (.int r.1)) r.2) res) : mGo w kX9_turn 0 0 12 [some (va_rf v0), some (.int v1), some (.int v2)] [] h Q := by
  unfold f_X9_turn_l12 at e
  refine mLoop_go (x := (v2, h)) (fun x : Int32 × mH => mGo w kX9_turn 0 0 12 [some (va_rf v0), some (.int v1), some (.int x.1)] [] x.2 Q) (fun r : Int32 × mH => Q (some (.int r.1)) r.2) ?_ e q
  rintro ⟨v2, h1⟩ res e q
  exact g_X9_turn_b12 v0 v1 v2 h1 e q
noncomputable def f_X9_turn (v0 : Option Nat) (v1 : Int32) (h : mH) : Option (Int32 × mH) :=
  (mIs h v0 8).bind fun _ =>
  (f_X9_isTable v0 v1 h).bind fun x1 =>
  if x1 = 0 then
    some ((0 : Int32), h)
  else
    f_X9_turn_l12 v0 v1 (0 : Int32) h
set_option maxRecDepth 100000 in
set_option maxHeartbeats 4000000 in
theorem g_X9_turn {w : mWp} {Q : Option Value → mH → Prop} (v0 : Option Nat) (v1 : Int32) (h : mH) {res : Int32 × mH} (e : f_X9_turn v0 v1 h = some res) (q : (fun r : Int32 × mH => Q (some (.int r.1)) r.2) res) : mGo w kX9_turn 0 0 0 [some (va_rf v0), some (.int v1), none] [] h Q := by
  unfold f_X9_turn at e
  obtain ⟨_, _, e⟩ := mBind e
  refine mGo.aload_n (n := 1) (r := v0) dX9_turn_0 rfl rfl ?_
  refine mGo.iload_n (n := 2) (x := v1) dX9_turn_1 rfl rfl ?_
  obtain ⟨x1, e_x1, e⟩ := mBind e
  refine mGo.callV (n := 5) (y := zX9_isTable) (R' := (mRoom (2) 0 0)) (as := [.int v1]) (st := []) (r0 := v0) dX9_turn_2 sc_RX9_86 rfl (s_X9_isTable v0 v1 h e_x1) (e_X9_isTable v0 v1 h e_x1) (mFit_of rfl (Nat.le_of_ble_eq_true rfl) (by decide) (Nat.le_of_ble_eq_true rfl) (Nat.le_of_ble_eq_true rfl)) (Nat.le_of_ble_eq_true rfl) rfl rfl ?_
  intro _ _ hq
  rw [hq.1, hq.2]
  show mGo w kX9_turn 0 0 5 [some (va_rf v0), some (.int v1), none] [.int x1] h Q
  refine mGo.if_ne (tgt := 10) (n := 8) dX9_turn_5 (by decide) rfl (fun hc => ?_) (fun hc => ?_)
  · replace e := mIff hc e
    refine mGo.iconst (n := 11) (v := (0 : Int32)) dX9_turn_10 (by decide) rfl ?_
    refine mGo.istore_n (n := 12) (ls' := [some (va_rf v0), some (.int v1), some (.int (0 : Int32))]) dX9_turn_11 rfl (Nat.le_of_ble_eq_true rfl) rfl ?_
    refine mGo.mk [true, true, true] ?_
    exact g_X9_turn_l12 v0 v1 (0 : Int32) h e q
  · replace e := mIft hc e
    refine mGo.iconst (n := 9) (v := (0 : Int32)) dX9_turn_8 (by decide) rfl ?_
    cases e
    exact mGo.zret dX9_turn_9 rfl (by decide) (Nat.le_of_ble_eq_true rfl) (Nat.le_of_ble_eq_true rfl) q
theorem e_X9_turn {w : mWp} (v0 : Option Nat) (v1 : Int32) (h : mH) {res : Int32 × mH} (e : f_X9_turn v0 v1 h = some res) : mEx w zX9_turn (mRoom 4 0 0) [va_rf v0, .int v1] h (fun r h2 => r = some (.int res.1) ∧ h2 = res.2) := by
  refine mEx.of (by decide +kernel) (show mEnt [va_rf v0, .int v1] 3 = [some (va_rf v0), some (.int v1), none] by rw [mEnt_r, mEnt_i] <;> rfl) (by simp only [List.map_cons, List.map_nil, mRfc, mCi, mCj, List.sum_cons, List.sum_nil]; exact Nat.le_of_ble_eq_true rfl) ?_
  refine g_X9_turn v0 v1 h e ?_
  exact ⟨rfl, rfl⟩
theorem s_X9_turn (v0 : Option Nat) (v1 : Int32) (h : mH) {res : Int32 × mH} (e : f_X9_turn v0 v1 h = some res) : mIs h v0 8 = some () := by
  unfold f_X9_turn at e
  obtain ⟨u, e1, _⟩ := mBind e
  cases u
  exact e1
-- X9_sizeOf
def kX9_sizeOf : mK := (cX9_sizeOf, RX9, 3, some (.int), "sizeOf", mRoom 3 0 0)
def zX9_sizeOf : mY := (yX9_sizeOf, cX9_sizeOf, 3, some (.int))
def f_X9_sizeOf (v0 : Int32) (v1 : Int32)  : Option (Int32) :=
  (f_X9_sumOf v0 (0 : Int32) v1).bind fun x1 =>
  if 0 ≤ x1 then
    some x1
  else
    some (-x1)
set_option maxRecDepth 100000 in
set_option maxHeartbeats 4000000 in
theorem g_X9_sizeOf {w : mWp} {Q : Option Value → mH → Prop} (v0 : Int32) (v1 : Int32) (h : mH) {res : Int32} (e : f_X9_sizeOf v0 v1 = some res) (q : (fun r : Int32 => Q (some (.int r)) h) res) : mGo w kX9_sizeOf 0 0 0 [some (.int v0), some (.int v1), none] [] h Q := by
  unfold f_X9_sizeOf at e
  refine mGo.iload_n (n := 1) (x := v0) dX9_sizeOf_0 rfl rfl ?_
  refine mGo.iconst (n := 2) (v := (0 : Int32)) dX9_sizeOf_1 (by decide) rfl ?_
  refine mGo.iload_n (n := 3) (x := v1) dX9_sizeOf_2 rfl rfl ?_
  obtain ⟨x1, e_x1, e⟩ := mBind e
  refine mGo.callS (n := 6) (y := zX9_sumOf) (R' := (mRoom (2) 0 0)) (as := [.int v0, .int (0 : Int32), .int v1]) (st := []) dX9_sizeOf_3 sc_RX9_169 rfl (e_X9_sumOf v0 (0 : Int32) v1 h e_x1) (mFit_of rfl (Nat.le_of_ble_eq_true rfl) (by decide) (Nat.le_of_ble_eq_true rfl) (Nat.le_of_ble_eq_true rfl)) (Nat.le_of_ble_eq_true rfl) rfl rfl ?_
  intro _ _ hq
  rw [hq.1, hq.2]
  show mGo w kX9_sizeOf 0 0 6 [some (.int v0), some (.int v1), none] [.int x1] h Q
  refine mGo.istore_n (n := 7) (ls' := [some (.int v0), some (.int v1), some (.int x1)]) dX9_sizeOf_6 rfl (Nat.le_of_ble_eq_true rfl) rfl ?_
  refine mGo.iload_n (n := 8) (x := x1) dX9_sizeOf_7 rfl rfl ?_
  refine mGo.if_ge (tgt := 16) (n := 11) dX9_sizeOf_8 (by decide) rfl (fun hc => ?_) (fun hc => ?_)
  · replace e := mIft hc e
    refine mGo.iload_n (n := 17) (x := x1) dX9_sizeOf_16 rfl rfl ?_
    cases e
    exact mGo.iret dX9_sizeOf_17 rfl (Nat.le_of_ble_eq_true rfl) (Nat.le_of_ble_eq_true rfl) q
  · replace e := mIff hc e
    refine mGo.iload_n (n := 12) (x := x1) dX9_sizeOf_11 rfl rfl ?_
    refine mGo.ineg (n := 13) dX9_sizeOf_12 rfl ?_
    refine mGo.goto (tgt := 17) dX9_sizeOf_13 (by decide) ?_
    cases e
    exact mGo.iret dX9_sizeOf_17 rfl (Nat.le_of_ble_eq_true rfl) (Nat.le_of_ble_eq_true rfl) q
theorem e_X9_sizeOf {w : mWp} (v0 : Int32) (v1 : Int32) (h : mH) {res : Int32} (e : f_X9_sizeOf v0 v1 = some res) : mEx w zX9_sizeOf (mRoom 3 0 0) [.int v0, .int v1] h (fun r h2 => r = some (.int res) ∧ h2 = h) := by
  refine mEx.of (by decide +kernel) rfl (Nat.le_of_ble_eq_true rfl) ?_
  refine g_X9_sizeOf v0 v1 h e ?_
  exact ⟨rfl, rfl⟩
-- X9_switched
def kX9_switched : mK := (cX9_switched, RX9, 13, some (.boolean), "switched", mRoom 4 0 0)
def zX9_switched : mY := (yX9_switched, cX9_switched, 13, some (.boolean))
set_option maxRecDepth 100000 in
theorem sc_RX9_193 : mSS RX9 193 zX9_sizeOf 2 := ⟨Or.inl (mT_at 1057 (by decide +kernel) rfl), mT_at 1058 (by decide +kernel) rfl, mT_at 91 (by decide +kernel) rfl, mT_at 1059 (by decide +kernel) rfl, ⟨by decide +kernel, by decide +kernel, by decide +kernel⟩⟩
noncomputable def f_X9_switched_b199 (v0 : Option Nat) (v1 : Int32) (v7 : Int32) (v8 : Int32) (v10 : Int32) (v11 : Int32) (h : mH) : Option ((Int32 × mH) ⊕ (Int32 × mH)) :=
  if v8 ≤ v11 then
    (f_X9_trailsAnew v0 v1 h).bind fun x1 =>
    some (Sum.inr ((1 : Int32), x1))
  else
    (f_X9_has v7 v11).bind fun x2 =>
    if x2 = 0 then
      some (Sum.inl ((v11 + 1), h))
    else
      (mGR h v0 8 2).bind fun x3 =>
      (mAI h x3 (((28 : Int32) * v1) + v11)).bind fun x4 =>
      (mSI h x3 (((28 : Int32) * v1) + v11) (x4 ^^^ v10)).bind fun h5 =>
      some (Sum.inl ((v11 + 1), h5))
set_option maxRecDepth 100000 in
set_option maxHeartbeats 4000000 in
theorem g_X9_switched_b199 {w : mWp} {Q : Option Value → mH → Prop} (v0 : Option Nat) (v1 : Int32) (v7 : Int32) (v8 : Int32) (v10 : Int32) (v11 : Int32) (h : mH) {res : (Int32 × mH) ⊕ (Int32 × mH)} (e : f_X9_switched_b199 v0 v1 v7 v8 v10 v11 h = some res) (q : (Sum.elim (fun x : Int32 × mH => mGo w kX9_switched 0 0 199 [some (va_rf v0), some (.int v1), none, none, none, none, none, some (.int v7), some (.int v8), none, some (.int v10), some (.int x.1), none] [] x.2 Q) (fun r : Int32 × mH => Q (some (.int r.1)) r.2)) res) : mGo w kX9_switched 0 0 199 [some (va_rf v0), some (.int v1), none, none, none, none, none, some (.int v7), some (.int v8), none, some (.int v10), some (.int v11), none] [] h Q := by
  unfold f_X9_switched_b199 at e
  refine mGo.iload (n := 201) (x := v11) dX9_switched_199 rfl rfl ?_
  refine mGo.iload (n := 203) (x := v8) dX9_switched_201 rfl rfl ?_
  refine mGo.icmp_ge (tgt := 239) (n := 206) dX9_switched_203 (by decide) rfl (fun hc => ?_) (fun hc => ?_)
  · replace e := mIft hc e
    refine mGo.aload_n (n := 240) (r := v0) dX9_switched_239 rfl rfl ?_
    refine mGo.iload_n (n := 241) (x := v1) dX9_switched_240 rfl rfl ?_
    obtain ⟨x1, e_x1, e⟩ := mBind e
    refine mGo.callV (n := 244) (y := zX9_trailsAnew) (R' := (mRoom (1) 0 0)) (as := [.int v1]) (st := []) (r0 := v0) dX9_switched_241 sc_RX9_108 rfl (s_X9_trailsAnew v0 v1 h e_x1) (e_X9_trailsAnew v0 v1 h e_x1) (mFit_of rfl (Nat.le_of_ble_eq_true rfl) (by decide) (Nat.le_of_ble_eq_true rfl) (Nat.le_of_ble_eq_true rfl)) (Nat.le_of_ble_eq_true rfl) rfl rfl ?_
    intro _ _ hq
    rw [hq.1, hq.2]
    show mGo w kX9_switched 0 0 244 [some (va_rf v0), some (.int v1), none, none, none, none, none, some (.int v7), some (.int v8), none, some (.int v10), some (.int v11), none] [] x1 Q
    refine mGo.iconst (n := 245) (v := (1 : Int32)) dX9_switched_244 (by decide) rfl ?_
    cases e
    exact mGo.zret dX9_switched_245 rfl (by decide) (Nat.le_of_ble_eq_true rfl) (Nat.le_of_ble_eq_true rfl) q
  · replace e := mIff hc e
    refine mGo.iload (n := 208) (x := v7) dX9_switched_206 rfl rfl ?_
    refine mGo.iload (n := 210) (x := v11) dX9_switched_208 rfl rfl ?_
    obtain ⟨x2, e_x2, e⟩ := mBind e
    refine mGo.callS (n := 213) (y := zX9_has) (R' := (mRoom (1) 0 0)) (as := [.int v7, .int v11]) (st := []) dX9_switched_210 sc_RX9_94 rfl (e_X9_has v7 v11 h e_x2) (mFit_of rfl (Nat.le_of_ble_eq_true rfl) (by decide) (Nat.le_of_ble_eq_true rfl) (Nat.le_of_ble_eq_true rfl)) (Nat.le_of_ble_eq_true rfl) rfl rfl ?_
    intro _ _ hq
    rw [hq.1, hq.2]
    show mGo w kX9_switched 0 0 213 [some (va_rf v0), some (.int v1), none, none, none, none, none, some (.int v7), some (.int v8), none, some (.int v10), some (.int v11), none] [.int x2] h Q
    refine mGo.if_eq (tgt := 233) (n := 216) dX9_switched_213 (by decide) rfl (fun hc => ?_) (fun hc => ?_)
    · replace e := mIft hc e
      refine mGo.iinc (n := 236) (x := v11) (v := (v11 + 1)) (ls' := [some (va_rf v0), some (.int v1), none, none, none, none, none, some (.int v7), some (.int v8), none, some (.int v10), some (.int (v11 + 1)), none]) dX9_switched_233 rfl rfl rfl (Nat.le_of_ble_eq_true rfl) rfl ?_
      refine mGo.goto (tgt := 199) dX9_switched_236 (by decide) ?_
      cases e
      refine mGo.mk [true, true, false, false, false, false, false, true, true, false, true, true, false] ?_
      exact q
    · replace e := mIff hc e
      refine mGo.aload_n (n := 217) (r := v0) dX9_switched_216 rfl rfl ?_
      obtain ⟨x3, e_x3, e⟩ := mBind e
      refine mGo.getR (n := 220) dX9_switched_217 sf_RX9_17 e_x3 rfl ?_
      refine mGo.bipush (n := 222) (v := (28 : Int32)) dX9_switched_220 (by decide) rfl ?_
      refine mGo.iload_n (n := 223) (x := v1) dX9_switched_222 rfl rfl ?_
      refine mGo.imul (n := 224) dX9_switched_223 rfl ?_
      refine mGo.iload (n := 226) (x := v11) dX9_switched_224 rfl rfl ?_
      refine mGo.iadd (n := 227) dX9_switched_226 rfl ?_
      refine mGo.dup2 (n := 228) dX9_switched_227 rfl (mRfc _) rfl ?_
      obtain ⟨x4, e_x4, e⟩ := mBind e
      refine mGo.iald (n := 229) dX9_switched_228 e_x4 rfl ?_
      refine mGo.iload (n := 231) (x := v10) dX9_switched_229 rfl rfl ?_
      refine mGo.ixor (n := 232) dX9_switched_231 rfl ?_
      obtain ⟨h5, e_h5, e⟩ := mBind e
      refine mGo.iast (n := 233) dX9_switched_232 e_h5 rfl ?_
      refine mGo.iinc (n := 236) (x := v11) (v := (v11 + 1)) (ls' := [some (va_rf v0), some (.int v1), none, none, none, none, none, some (.int v7), some (.int v8), none, some (.int v10), some (.int (v11 + 1)), none]) dX9_switched_233 rfl rfl rfl (Nat.le_of_ble_eq_true rfl) rfl ?_
      refine mGo.goto (tgt := 199) dX9_switched_236 (by decide) ?_
      cases e
      refine mGo.mk [true, true, false, false, false, false, false, true, true, false, true, true, false] ?_
      exact q
noncomputable def f_X9_switched_l199 (v0 : Option Nat) (v1 : Int32) (v7 : Int32) (v8 : Int32) (v10 : Int32) (v11 : Int32) (h : mH) : Option (Int32 × mH) :=
  mLoop (fun x : Int32 × mH => f_X9_switched_b199 v0 v1 v7 v8 v10 x.1 x.2) (v11, h)
set_option maxRecDepth 100000 in
set_option maxHeartbeats 4000000 in
theorem g_X9_switched_l199 {w : mWp} {Q : Option Value → mH → Prop} (v0 : Option Nat) (v1 : Int32) (v7 : Int32) (v8 : Int32) (v10 : Int32) (v11 : Int32) (h : mH) {res : Int32 × mH} (e : f_X9_switched_l199 v0 v1 v7 v8 v10 v11 h = some res) (q : (fun r : Int32 × mH => Q (some (.int r.1)) r.2) res) : mGo w kX9_switched 0 0 199 [some (va_rf v0), some (.int v1), none, none, none, none, none, some (.int v7), some (.int v8), none, some (.int v10), some (.int v11), none] [] h Q := by
  unfold f_X9_switched_l199 at e
  refine mLoop_go (x := (v11, h)) (fun x : Int32 × mH => mGo w kX9_switched 0 0 199 [some (va_rf v0), some (.int v1), none, none, none, none, none, some (.int v7), some (.int v8), none, some (.int v10), some (.int x.1), none] [] x.2 Q) (fun r : Int32 × mH => Q (some (.int r.1)) r.2) ?_ e q
  rintro ⟨v11, h1⟩ res e q
  exact g_X9_switched_b199 v0 v1 v7 v8 v10 v11 h1 e q
def f_X9_switched_c181 (v0 : Option Nat) (v1 : Int32) (v7 : Int32) (v8 : Int32) (v9 : Int32) (v10 : Int32) (v11 : Int32) (h : mH) : Option ((Int32 × Int32) ⊕ (Int32 × mH)) :=
  some (Sum.inl ((v10 ||| ((1 : Int32) <<< (v11 &&& 31))), (v11 + 1)))
set_option maxRecDepth 100000 in
set_option maxHeartbeats 4000000 in
theorem g_X9_switched_c181 {w : mWp} {Q : Option Value → mH → Prop} (v0 : Option Nat) (v1 : Int32) (v7 : Int32) (v8 : Int32) (v9 : Int32) (v10 : Int32) (v11 : Int32) (h : mH) {res : (Int32 × Int32) ⊕ (Int32 × mH)} (e : f_X9_switched_c181 v0 v1 v7 v8 v9 v10 v11 h = some res) (q : (Sum.elim (fun x : Int32 × Int32 => mGo w kX9_switched 0 0 145 [some (va_rf v0), some (.int v1), none, none, none, none, none, some (.int v7), some (.int v8), some (.int v9), some (.int x.1), some (.int x.2), none] [] h Q) (fun r : Int32 × mH => Q (some (.int r.1)) r.2)) res) : mGo w kX9_switched 0 0 181 [some (va_rf v0), some (.int v1), none, none, none, none, none, some (.int v7), some (.int v8), some (.int v9), some (.int v10), some (.int v11), none] [] h Q := by
  unfold f_X9_switched_c181 at e
  refine mGo.iload (n := 183) (x := v10) dX9_switched_181 rfl rfl ?_
  refine mGo.iconst (n := 184) (v := (1 : Int32)) dX9_switched_183 (by decide) rfl ?_
  refine mGo.iload (n := 186) (x := v11) dX9_switched_184 rfl rfl ?_
  refine mGo.ishl (n := 187) dX9_switched_186 rfl ?_
  refine mGo.ior (n := 188) dX9_switched_187 rfl ?_
  refine mGo.istore (n := 190) (ls' := [some (va_rf v0), some (.int v1), none, none, none, none, none, some (.int v7), some (.int v8), some (.int v9), some (.int (v10 ||| ((1 : Int32) <<< (v11 &&& 31)))), some (.int v11), none]) dX9_switched_188 rfl (Nat.le_of_ble_eq_true rfl) rfl ?_
  refine mGo.iinc (n := 193) (x := v11) (v := (v11 + 1)) (ls' := [some (va_rf v0), some (.int v1), none, none, none, none, none, some (.int v7), some (.int v8), some (.int v9), some (.int (v10 ||| ((1 : Int32) <<< (v11 &&& 31)))), some (.int (v11 + 1)), none]) dX9_switched_190 rfl rfl rfl (Nat.le_of_ble_eq_true rfl) rfl ?_
  refine mGo.goto (tgt := 145) dX9_switched_193 (by decide) ?_
  cases e
  refine mGo.mk [true, true, false, false, false, false, false, true, true, true, true, true, false] ?_
  exact q
noncomputable def f_X9_switched_b145 (v0 : Option Nat) (v1 : Int32) (v7 : Int32) (v8 : Int32) (v9 : Int32) (v10 : Int32) (v11 : Int32) (h : mH) : Option ((Int32 × Int32) ⊕ (Int32 × mH)) :=
  if v8 ≤ v11 then
    (f_X9_switched_l199 v0 v1 v7 v8 v10 (0 : Int32) h).map (fun r => (Sum.inr r))
  else
    (f_X9_columnOf v0 v1 v11 h).bind fun x2 =>
    if (x2 &&& v7) = v9 then
      f_X9_switched_c181 v0 v1 v7 v8 v9 v10 v11 h
    else
      if (x2 &&& v7) = (v9 ^^^ v7) then
        f_X9_switched_c181 v0 v1 v7 v8 v9 v10 v11 h
      else
        some (Sum.inl (v10, (v11 + 1)))
set_option maxRecDepth 100000 in
set_option maxHeartbeats 4000000 in
theorem g_X9_switched_b145 {w : mWp} {Q : Option Value → mH → Prop} (v0 : Option Nat) (v1 : Int32) (v7 : Int32) (v8 : Int32) (v9 : Int32) (v10 : Int32) (v11 : Int32) (h : mH) {res : (Int32 × Int32) ⊕ (Int32 × mH)} (e : f_X9_switched_b145 v0 v1 v7 v8 v9 v10 v11 h = some res) (q : (Sum.elim (fun x : Int32 × Int32 => mGo w kX9_switched 0 0 145 [some (va_rf v0), some (.int v1), none, none, none, none, none, some (.int v7), some (.int v8), some (.int v9), some (.int x.1), some (.int x.2), none] [] h Q) (fun r : Int32 × mH => Q (some (.int r.1)) r.2)) res) : mGo w kX9_switched 0 0 145 [some (va_rf v0), some (.int v1), none, none, none, none, none, some (.int v7), some (.int v8), some (.int v9), some (.int v10), some (.int v11), none] [] h Q := by
  unfold f_X9_switched_b145 at e
  refine mGo.iload (n := 147) (x := v11) dX9_switched_145 rfl rfl ?_
  refine mGo.iload (n := 149) (x := v8) dX9_switched_147 rfl rfl ?_
  refine mGo.icmp_ge (tgt := 196) (n := 152) dX9_switched_149 (by decide) rfl (fun hc => ?_) (fun hc => ?_)
  · replace e := mIft hc e
    refine mGo.iconst (n := 197) (v := (0 : Int32)) dX9_switched_196 (by decide) rfl ?_
    refine mGo.istore (n := 199) (ls' := [some (va_rf v0), some (.int v1), none, none, none, none, none, some (.int v7), some (.int v8), some (.int v9), some (.int v10), some (.int (0 : Int32)), none]) dX9_switched_197 rfl (Nat.le_of_ble_eq_true rfl) rfl ?_
    obtain ⟨r1, e2, rfl⟩ := mMap e
    refine mGo.mk [true, true, false, false, false, false, false, true, true, false, true, true, false] ?_
    exact g_X9_switched_l199 v0 v1 v7 v8 v10 (0 : Int32) h e2 q
  · replace e := mIff hc e
    refine mGo.aload_n (n := 153) (r := v0) dX9_switched_152 rfl rfl ?_
    refine mGo.iload_n (n := 154) (x := v1) dX9_switched_153 rfl rfl ?_
    refine mGo.iload (n := 156) (x := v11) dX9_switched_154 rfl rfl ?_
    obtain ⟨x2, e_x2, e⟩ := mBind e
    refine mGo.callV (n := 159) (y := zX9_columnOf) (R' := (mRoom (3) 0 0)) (as := [.int v1, .int v11]) (st := []) (r0 := v0) dX9_switched_156 sc_RX9_101 rfl (s_X9_columnOf v0 v1 v11 h e_x2) (e_X9_columnOf v0 v1 v11 h e_x2) (mFit_of rfl (Nat.le_of_ble_eq_true rfl) (by decide) (Nat.le_of_ble_eq_true rfl) (Nat.le_of_ble_eq_true rfl)) (Nat.le_of_ble_eq_true rfl) rfl rfl ?_
    intro _ _ hq
    rw [hq.1, hq.2]
    show mGo w kX9_switched 0 0 159 [some (va_rf v0), some (.int v1), none, none, none, none, none, some (.int v7), some (.int v8), some (.int v9), some (.int v10), some (.int v11), none] [.int x2] h Q
    refine mGo.iload (n := 161) (x := v7) dX9_switched_159 rfl rfl ?_
    refine mGo.iand (n := 162) dX9_switched_161 rfl ?_
    refine mGo.istore (n := 164) (ls' := [some (va_rf v0), some (.int v1), none, none, none, none, none, some (.int v7), some (.int v8), some (.int v9), some (.int v10), some (.int v11), some (.int (x2 &&& v7))]) dX9_switched_162 rfl (Nat.le_of_ble_eq_true rfl) rfl ?_
    refine mGo.iload (n := 166) (x := (x2 &&& v7)) dX9_switched_164 rfl rfl ?_
    refine mGo.iload (n := 168) (x := v9) dX9_switched_166 rfl rfl ?_
    refine mGo.icmp_eq (tgt := 181) (n := 171) dX9_switched_168 (by decide) rfl (fun hc => ?_) (fun hc => ?_)
    · replace e := mIft hc e
      refine mGo.mk [true, true, false, false, false, false, false, true, true, true, true, true, false] ?_
      exact g_X9_switched_c181 v0 v1 v7 v8 v9 v10 v11 h e q
    · replace e := mIff hc e
      refine mGo.iload (n := 173) (x := (x2 &&& v7)) dX9_switched_171 rfl rfl ?_
      refine mGo.iload (n := 175) (x := v9) dX9_switched_173 rfl rfl ?_
      refine mGo.iload (n := 177) (x := v7) dX9_switched_175 rfl rfl ?_
      refine mGo.ixor (n := 178) dX9_switched_177 rfl ?_
      refine mGo.icmp_ne (tgt := 190) (n := 181) dX9_switched_178 (by decide) rfl (fun hc => ?_) (fun hc => ?_)
      · replace e := mIff hc e
        refine mGo.iinc (n := 193) (x := v11) (v := (v11 + 1)) (ls' := [some (va_rf v0), some (.int v1), none, none, none, none, none, some (.int v7), some (.int v8), some (.int v9), some (.int v10), some (.int (v11 + 1)), some (.int (x2 &&& v7))]) dX9_switched_190 rfl rfl rfl (Nat.le_of_ble_eq_true rfl) rfl ?_
        refine mGo.goto (tgt := 145) dX9_switched_193 (by decide) ?_
        cases e
        refine mGo.mk [true, true, false, false, false, false, false, true, true, true, true, true, false] ?_
        exact q
      · replace e := mIft hc e
        refine mGo.mk [true, true, false, false, false, false, false, true, true, true, true, true, false] ?_
        exact g_X9_switched_c181 v0 v1 v7 v8 v9 v10 v11 h e q
noncomputable def f_X9_switched_l145 (v0 : Option Nat) (v1 : Int32) (v7 : Int32) (v8 : Int32) (v9 : Int32) (v10 : Int32) (v11 : Int32) (h : mH) : Option (Int32 × mH) :=
  mLoop (fun x : Int32 × Int32 => f_X9_switched_b145 v0 v1 v7 v8 v9 x.1 x.2 h) (v10, v11)
set_option maxRecDepth 100000 in
set_option maxHeartbeats 4000000 in
theorem g_X9_switched_l145 {w : mWp} {Q : Option Value → mH → Prop} (v0 : Option Nat) (v1 : Int32) (v7 : Int32) (v8 : Int32) (v9 : Int32) (v10 : Int32) (v11 : Int32) (h : mH) {res : Int32 × mH} (e : f_X9_switched_l145 v0 v1 v7 v8 v9 v10 v11 h = some res) (q : (fun r : Int32 × mH => Q (some (.int r.1)) r.2) res) : mGo w kX9_switched 0 0 145 [some (va_rf v0), some (.int v1), none, none, none, none, none, some (.int v7), some (.int v8), some (.int v9), some (.int v10), some (.int v11), none] [] h Q := by
  unfold f_X9_switched_l145 at e
  refine mLoop_go (x := (v10, v11)) (fun x : Int32 × Int32 => mGo w kX9_switched 0 0 145 [some (va_rf v0), some (.int v1), none, none, none, none, none, some (.int v7), some (.int v8), some (.int v9), some (.int x.1), some (.int x.2), none] [] h Q) (fun r : Int32 × mH => Q (some (.int r.1)) r.2) ?_ e q
  rintro ⟨v10, v11⟩ res e q
  exact g_X9_switched_b145 v0 v1 v7 v8 v9 v10 v11 h e q
noncomputable def f_X9_switched (v0 : Option Nat) (v1 : Int32) (v2 : Int32) (v3 : Int32) (v4 : Int32) (v5 : Int32) (v6 : Int32) (h : mH) : Option (Int32 × mH) :=
  (mIs h v0 8).bind fun _ =>
  (f_X9_isLine v0 v1 v2 h).bind fun x1 =>
  if x1 = 0 then
    some ((0 : Int32), h)
  else
    (f_X9_isLine v0 v1 v3 h).bind fun x2 =>
    if x2 = 0 then
      some ((0 : Int32), h)
    else
      (f_X9_isLine v0 v1 v4 h).bind fun x3 =>
      if x3 = 0 then
        some ((0 : Int32), h)
      else
        (f_X9_isLine v0 v1 v5 h).bind fun x4 =>
        if x4 = 0 then
          some ((0 : Int32), h)
        else
          (f_X9_isLine v0 v1 v6 h).bind fun x5 =>
          if x5 = 0 then
            some ((0 : Int32), h)
          else
            (mGR h v0 8 1).bind fun x6 =>
            (mAI h x6 v1).bind fun x7 =>
            (f_X9_bitsOf (((((1 : Int32) <<< (v2 &&& 31)) ||| ((1 : Int32) <<< (v3 &&& 31))) ||| ((1 : Int32) <<< (v4 &&& 31))) ||| ((1 : Int32) <<< (v5 &&& 31)))).bind fun x8 =>
            if x8 = (4 : Int32) then
              (f_X9_rowOf v0 v1 v2 h).bind fun x9 =>
              (f_X9_rowOf v0 v1 v3 h).bind fun x10 =>
              (f_X9_rowOf v0 v1 v4 h).bind fun x11 =>
              (f_X9_rowOf v0 v1 v5 h).bind fun x12 =>
              (f_X9_sizeOf (((x9 ^^^ x10) ^^^ x11) ^^^ x12) x7).bind fun x13 =>
              if x13 = x7 then
                (f_X9_columnOf v0 v1 v6 h).bind fun x14 =>
                f_X9_switched_l145 v0 v1 (((((1 : Int32) <<< (v2 &&& 31)) ||| ((1 : Int32) <<< (v3 &&& 31))) ||| ((1 : Int32) <<< (v4 &&& 31))) ||| ((1 : Int32) <<< (v5 &&& 31))) x7 (x14 &&& (((((1 : Int32) <<< (v2 &&& 31)) ||| ((1 : Int32) <<< (v3 &&& 31))) ||| ((1 : Int32) <<< (v4 &&& 31))) ||| ((1 : Int32) <<< (v5 &&& 31)))) (0 : Int32) (0 : Int32) h
              else
                some ((0 : Int32), h)
            else
              some ((0 : Int32), h)
set_option maxRecDepth 100000 in
set_option maxHeartbeats 4000000 in
theorem g_X9_switched {w : mWp} {Q : Option Value → mH → Prop} (v0 : Option Nat) (v1 : Int32) (v2 : Int32) (v3 : Int32) (v4 : Int32) (v5 : Int32) (v6 : Int32) (h : mH) {res : Int32 × mH} (e : f_X9_switched v0 v1 v2 v3 v4 v5 v6 h = some res) (q : (fun r : Int32 × mH => Q (some (.int r.1)) r.2) res) : mGo w kX9_switched 0 0 0 [some (va_rf v0), some (.int v1), some (.int v2), some (.int v3), some (.int v4), some (.int v5), some (.int v6), none, none, none, none, none, none] [] h Q := by
  unfold f_X9_switched at e
  obtain ⟨_, _, e⟩ := mBind e
  refine mGo.aload_n (n := 1) (r := v0) dX9_switched_0 rfl rfl ?_
  refine mGo.iload_n (n := 2) (x := v1) dX9_switched_1 rfl rfl ?_
  refine mGo.iload_n (n := 3) (x := v2) dX9_switched_2 rfl rfl ?_
  obtain ⟨x1, e_x1, e⟩ := mBind e
  refine mGo.callV (n := 6) (y := zX9_isLine) (R' := (mRoom (3) 0 0)) (as := [.int v1, .int v2]) (st := []) (r0 := v0) dX9_switched_3 sc_RX9_182 rfl (s_X9_isLine v0 v1 v2 h e_x1) (e_X9_isLine v0 v1 v2 h e_x1) (mFit_of rfl (Nat.le_of_ble_eq_true rfl) (by decide) (Nat.le_of_ble_eq_true rfl) (Nat.le_of_ble_eq_true rfl)) (Nat.le_of_ble_eq_true rfl) rfl rfl ?_
  intro _ _ hq
  rw [hq.1, hq.2]
  show mGo w kX9_switched 0 0 6 [some (va_rf v0), some (.int v1), some (.int v2), some (.int v3), some (.int v4), some (.int v5), some (.int v6), none, none, none, none, none, none] [.int x1] h Q
  refine mGo.if_eq (tgt := 48) (n := 9) dX9_switched_6 (by decide) rfl (fun hc => ?_) (fun hc => ?_)
  · replace e := mIft hc e
    refine mGo.iconst (n := 49) (v := (0 : Int32)) dX9_switched_48 (by decide) rfl ?_
    cases e
    exact mGo.zret dX9_switched_49 rfl (by decide) (Nat.le_of_ble_eq_true rfl) (Nat.le_of_ble_eq_true rfl) q
  · replace e := mIff hc e
    refine mGo.aload_n (n := 10) (r := v0) dX9_switched_9 rfl rfl ?_
    refine mGo.iload_n (n := 11) (x := v1) dX9_switched_10 rfl rfl ?_
    refine mGo.iload_n (n := 12) (x := v3) dX9_switched_11 rfl rfl ?_
    obtain ⟨x2, e_x2, e⟩ := mBind e
    refine mGo.callV (n := 15) (y := zX9_isLine) (R' := (mRoom (3) 0 0)) (as := [.int v1, .int v3]) (st := []) (r0 := v0) dX9_switched_12 sc_RX9_182 rfl (s_X9_isLine v0 v1 v3 h e_x2) (e_X9_isLine v0 v1 v3 h e_x2) (mFit_of rfl (Nat.le_of_ble_eq_true rfl) (by decide) (Nat.le_of_ble_eq_true rfl) (Nat.le_of_ble_eq_true rfl)) (Nat.le_of_ble_eq_true rfl) rfl rfl ?_
    intro _ _ hq
    rw [hq.1, hq.2]
    show mGo w kX9_switched 0 0 15 [some (va_rf v0), some (.int v1), some (.int v2), some (.int v3), some (.int v4), some (.int v5), some (.int v6), none, none, none, none, none, none] [.int x2] h Q
    refine mGo.if_eq (tgt := 48) (n := 18) dX9_switched_15 (by decide) rfl (fun hc => ?_) (fun hc => ?_)
    · replace e := mIft hc e
      refine mGo.iconst (n := 49) (v := (0 : Int32)) dX9_switched_48 (by decide) rfl ?_
      cases e
      exact mGo.zret dX9_switched_49 rfl (by decide) (Nat.le_of_ble_eq_true rfl) (Nat.le_of_ble_eq_true rfl) q
    · replace e := mIff hc e
      refine mGo.aload_n (n := 19) (r := v0) dX9_switched_18 rfl rfl ?_
      refine mGo.iload_n (n := 20) (x := v1) dX9_switched_19 rfl rfl ?_
      refine mGo.iload (n := 22) (x := v4) dX9_switched_20 rfl rfl ?_
      obtain ⟨x3, e_x3, e⟩ := mBind e
      refine mGo.callV (n := 25) (y := zX9_isLine) (R' := (mRoom (3) 0 0)) (as := [.int v1, .int v4]) (st := []) (r0 := v0) dX9_switched_22 sc_RX9_182 rfl (s_X9_isLine v0 v1 v4 h e_x3) (e_X9_isLine v0 v1 v4 h e_x3) (mFit_of rfl (Nat.le_of_ble_eq_true rfl) (by decide) (Nat.le_of_ble_eq_true rfl) (Nat.le_of_ble_eq_true rfl)) (Nat.le_of_ble_eq_true rfl) rfl rfl ?_
      intro _ _ hq
      rw [hq.1, hq.2]
      show mGo w kX9_switched 0 0 25 [some (va_rf v0), some (.int v1), some (.int v2), some (.int v3), some (.int v4), some (.int v5), some (.int v6), none, none, none, none, none, none] [.int x3] h Q
      refine mGo.if_eq (tgt := 48) (n := 28) dX9_switched_25 (by decide) rfl (fun hc => ?_) (fun hc => ?_)
      · replace e := mIft hc e
        refine mGo.iconst (n := 49) (v := (0 : Int32)) dX9_switched_48 (by decide) rfl ?_
        cases e
        exact mGo.zret dX9_switched_49 rfl (by decide) (Nat.le_of_ble_eq_true rfl) (Nat.le_of_ble_eq_true rfl) q
      · replace e := mIff hc e
        refine mGo.aload_n (n := 29) (r := v0) dX9_switched_28 rfl rfl ?_
        refine mGo.iload_n (n := 30) (x := v1) dX9_switched_29 rfl rfl ?_
        refine mGo.iload (n := 32) (x := v5) dX9_switched_30 rfl rfl ?_
        obtain ⟨x4, e_x4, e⟩ := mBind e
        refine mGo.callV (n := 35) (y := zX9_isLine) (R' := (mRoom (3) 0 0)) (as := [.int v1, .int v5]) (st := []) (r0 := v0) dX9_switched_32 sc_RX9_182 rfl (s_X9_isLine v0 v1 v5 h e_x4) (e_X9_isLine v0 v1 v5 h e_x4) (mFit_of rfl (Nat.le_of_ble_eq_true rfl) (by decide) (Nat.le_of_ble_eq_true rfl) (Nat.le_of_ble_eq_true rfl)) (Nat.le_of_ble_eq_true rfl) rfl rfl ?_
        intro _ _ hq
        rw [hq.1, hq.2]
        show mGo w kX9_switched 0 0 35 [some (va_rf v0), some (.int v1), some (.int v2), some (.int v3), some (.int v4), some (.int v5), some (.int v6), none, none, none, none, none, none] [.int x4] h Q
        refine mGo.if_eq (tgt := 48) (n := 38) dX9_switched_35 (by decide) rfl (fun hc => ?_) (fun hc => ?_)
        · replace e := mIft hc e
          refine mGo.iconst (n := 49) (v := (0 : Int32)) dX9_switched_48 (by decide) rfl ?_
          cases e
          exact mGo.zret dX9_switched_49 rfl (by decide) (Nat.le_of_ble_eq_true rfl) (Nat.le_of_ble_eq_true rfl) q
        · replace e := mIff hc e
          refine mGo.aload_n (n := 39) (r := v0) dX9_switched_38 rfl rfl ?_
          refine mGo.iload_n (n := 40) (x := v1) dX9_switched_39 rfl rfl ?_
          refine mGo.iload (n := 42) (x := v6) dX9_switched_40 rfl rfl ?_
          obtain ⟨x5, e_x5, e⟩ := mBind e
          refine mGo.callV (n := 45) (y := zX9_isLine) (R' := (mRoom (3) 0 0)) (as := [.int v1, .int v6]) (st := []) (r0 := v0) dX9_switched_42 sc_RX9_182 rfl (s_X9_isLine v0 v1 v6 h e_x5) (e_X9_isLine v0 v1 v6 h e_x5) (mFit_of rfl (Nat.le_of_ble_eq_true rfl) (by decide) (Nat.le_of_ble_eq_true rfl) (Nat.le_of_ble_eq_true rfl)) (Nat.le_of_ble_eq_true rfl) rfl rfl ?_
          intro _ _ hq
          rw [hq.1, hq.2]
          show mGo w kX9_switched 0 0 45 [some (va_rf v0), some (.int v1), some (.int v2), some (.int v3), some (.int v4), some (.int v5), some (.int v6), none, none, none, none, none, none] [.int x5] h Q
          refine mGo.if_ne (tgt := 50) (n := 48) dX9_switched_45 (by decide) rfl (fun hc => ?_) (fun hc => ?_)
          · replace e := mIff hc e
            refine mGo.iconst (n := 51) (v := (1 : Int32)) dX9_switched_50 (by decide) rfl ?_
            refine mGo.iload_n (n := 52) (x := v2) dX9_switched_51 rfl rfl ?_
            refine mGo.ishl (n := 53) dX9_switched_52 rfl ?_
            refine mGo.iconst (n := 54) (v := (1 : Int32)) dX9_switched_53 (by decide) rfl ?_
            refine mGo.iload_n (n := 55) (x := v3) dX9_switched_54 rfl rfl ?_
            refine mGo.ishl (n := 56) dX9_switched_55 rfl ?_
            refine mGo.ior (n := 57) dX9_switched_56 rfl ?_
            refine mGo.iconst (n := 58) (v := (1 : Int32)) dX9_switched_57 (by decide) rfl ?_
            refine mGo.iload (n := 60) (x := v4) dX9_switched_58 rfl rfl ?_
            refine mGo.ishl (n := 61) dX9_switched_60 rfl ?_
            refine mGo.ior (n := 62) dX9_switched_61 rfl ?_
            refine mGo.iconst (n := 63) (v := (1 : Int32)) dX9_switched_62 (by decide) rfl ?_
            refine mGo.iload (n := 65) (x := v5) dX9_switched_63 rfl rfl ?_
            refine mGo.ishl (n := 66) dX9_switched_65 rfl ?_
            refine mGo.ior (n := 67) dX9_switched_66 rfl ?_
            refine mGo.istore (n := 69) (ls' := [some (va_rf v0), some (.int v1), some (.int v2), some (.int v3), some (.int v4), some (.int v5), some (.int v6), some (.int (((((1 : Int32) <<< (v2 &&& 31)) ||| ((1 : Int32) <<< (v3 &&& 31))) ||| ((1 : Int32) <<< (v4 &&& 31))) ||| ((1 : Int32) <<< (v5 &&& 31)))), none, none, none, none, none]) dX9_switched_67 rfl (Nat.le_of_ble_eq_true rfl) rfl ?_
            refine mGo.aload_n (n := 70) (r := v0) dX9_switched_69 rfl rfl ?_
            obtain ⟨x6, e_x6, e⟩ := mBind e
            refine mGo.getR (n := 73) dX9_switched_70 sf_RX9_13 e_x6 rfl ?_
            refine mGo.iload_n (n := 74) (x := v1) dX9_switched_73 rfl rfl ?_
            obtain ⟨x7, e_x7, e⟩ := mBind e
            refine mGo.iald (n := 75) dX9_switched_74 e_x7 rfl ?_
            refine mGo.istore (n := 77) (ls' := [some (va_rf v0), some (.int v1), some (.int v2), some (.int v3), some (.int v4), some (.int v5), some (.int v6), some (.int (((((1 : Int32) <<< (v2 &&& 31)) ||| ((1 : Int32) <<< (v3 &&& 31))) ||| ((1 : Int32) <<< (v4 &&& 31))) ||| ((1 : Int32) <<< (v5 &&& 31)))), some (.int x7), none, none, none, none]) dX9_switched_75 rfl (Nat.le_of_ble_eq_true rfl) rfl ?_
            refine mGo.iload (n := 79) (x := (((((1 : Int32) <<< (v2 &&& 31)) ||| ((1 : Int32) <<< (v3 &&& 31))) ||| ((1 : Int32) <<< (v4 &&& 31))) ||| ((1 : Int32) <<< (v5 &&& 31)))) dX9_switched_77 rfl rfl ?_
            obtain ⟨x8, e_x8, e⟩ := mBind e
            refine mGo.callS (n := 82) (y := zX9_bitsOf) (R' := (mRoom (1) 0 0)) (as := [.int (((((1 : Int32) <<< (v2 &&& 31)) ||| ((1 : Int32) <<< (v3 &&& 31))) ||| ((1 : Int32) <<< (v4 &&& 31))) ||| ((1 : Int32) <<< (v5 &&& 31)))]) (st := []) dX9_switched_79 sc_RX9_166 rfl (e_X9_bitsOf (((((1 : Int32) <<< (v2 &&& 31)) ||| ((1 : Int32) <<< (v3 &&& 31))) ||| ((1 : Int32) <<< (v4 &&& 31))) ||| ((1 : Int32) <<< (v5 &&& 31))) h e_x8) (mFit_of rfl (Nat.le_of_ble_eq_true rfl) (by decide) (Nat.le_of_ble_eq_true rfl) (Nat.le_of_ble_eq_true rfl)) (Nat.le_of_ble_eq_true rfl) rfl rfl ?_
            intro _ _ hq
            rw [hq.1, hq.2]
            show mGo w kX9_switched 0 0 82 [some (va_rf v0), some (.int v1), some (.int v2), some (.int v3), some (.int v4), some (.int v5), some (.int v6), some (.int (((((1 : Int32) <<< (v2 &&& 31)) ||| ((1 : Int32) <<< (v3 &&& 31))) ||| ((1 : Int32) <<< (v4 &&& 31))) ||| ((1 : Int32) <<< (v5 &&& 31)))), some (.int x7), none, none, none, none] [.int x8] h Q
            refine mGo.iconst (n := 83) (v := (4 : Int32)) dX9_switched_82 (by decide) rfl ?_
            refine mGo.icmp_ne (tgt := 125) (n := 86) dX9_switched_83 (by decide) rfl (fun hc => ?_) (fun hc => ?_)
            · replace e := mIff hc e
              refine mGo.iconst (n := 126) (v := (0 : Int32)) dX9_switched_125 (by decide) rfl ?_
              cases e
              exact mGo.zret dX9_switched_126 rfl (by decide) (Nat.le_of_ble_eq_true rfl) (Nat.le_of_ble_eq_true rfl) q
            · replace e := mIft hc e
              refine mGo.aload_n (n := 87) (r := v0) dX9_switched_86 rfl rfl ?_
              refine mGo.iload_n (n := 88) (x := v1) dX9_switched_87 rfl rfl ?_
              refine mGo.iload_n (n := 89) (x := v2) dX9_switched_88 rfl rfl ?_
              obtain ⟨x9, e_x9, e⟩ := mBind e
              refine mGo.callV (n := 92) (y := zX9_rowOf) (R' := (mRoom (1) 0 0)) (as := [.int v1, .int v2]) (st := []) (r0 := v0) dX9_switched_89 sc_RX9_90 rfl (s_X9_rowOf v0 v1 v2 h e_x9) (e_X9_rowOf v0 v1 v2 h e_x9) (mFit_of rfl (Nat.le_of_ble_eq_true rfl) (by decide) (Nat.le_of_ble_eq_true rfl) (Nat.le_of_ble_eq_true rfl)) (Nat.le_of_ble_eq_true rfl) rfl rfl ?_
              intro _ _ hq
              rw [hq.1, hq.2]
              show mGo w kX9_switched 0 0 92 [some (va_rf v0), some (.int v1), some (.int v2), some (.int v3), some (.int v4), some (.int v5), some (.int v6), some (.int (((((1 : Int32) <<< (v2 &&& 31)) ||| ((1 : Int32) <<< (v3 &&& 31))) ||| ((1 : Int32) <<< (v4 &&& 31))) ||| ((1 : Int32) <<< (v5 &&& 31)))), some (.int x7), none, none, none, none] [.int x9] h Q
              refine mGo.aload_n (n := 93) (r := v0) dX9_switched_92 rfl rfl ?_
              refine mGo.iload_n (n := 94) (x := v1) dX9_switched_93 rfl rfl ?_
              refine mGo.iload_n (n := 95) (x := v3) dX9_switched_94 rfl rfl ?_
              obtain ⟨x10, e_x10, e⟩ := mBind e
              refine mGo.callV (n := 98) (y := zX9_rowOf) (R' := (mRoom (1) 0 0)) (as := [.int v1, .int v3]) (st := [.int x9]) (r0 := v0) dX9_switched_95 sc_RX9_90 rfl (s_X9_rowOf v0 v1 v3 h e_x10) (e_X9_rowOf v0 v1 v3 h e_x10) (mFit_of rfl (Nat.le_of_ble_eq_true rfl) (by decide) (Nat.le_of_ble_eq_true rfl) (Nat.le_of_ble_eq_true rfl)) (Nat.le_of_ble_eq_true rfl) rfl rfl ?_
              intro _ _ hq
              rw [hq.1, hq.2]
              show mGo w kX9_switched 0 0 98 [some (va_rf v0), some (.int v1), some (.int v2), some (.int v3), some (.int v4), some (.int v5), some (.int v6), some (.int (((((1 : Int32) <<< (v2 &&& 31)) ||| ((1 : Int32) <<< (v3 &&& 31))) ||| ((1 : Int32) <<< (v4 &&& 31))) ||| ((1 : Int32) <<< (v5 &&& 31)))), some (.int x7), none, none, none, none] [.int x10, .int x9] h Q
              refine mGo.ixor (n := 99) dX9_switched_98 rfl ?_
              refine mGo.aload_n (n := 100) (r := v0) dX9_switched_99 rfl rfl ?_
              refine mGo.iload_n (n := 101) (x := v1) dX9_switched_100 rfl rfl ?_
              refine mGo.iload (n := 103) (x := v4) dX9_switched_101 rfl rfl ?_
              obtain ⟨x11, e_x11, e⟩ := mBind e
              refine mGo.callV (n := 106) (y := zX9_rowOf) (R' := (mRoom (1) 0 0)) (as := [.int v1, .int v4]) (st := [.int (x9 ^^^ x10)]) (r0 := v0) dX9_switched_103 sc_RX9_90 rfl (s_X9_rowOf v0 v1 v4 h e_x11) (e_X9_rowOf v0 v1 v4 h e_x11) (mFit_of rfl (Nat.le_of_ble_eq_true rfl) (by decide) (Nat.le_of_ble_eq_true rfl) (Nat.le_of_ble_eq_true rfl)) (Nat.le_of_ble_eq_true rfl) rfl rfl ?_
              intro _ _ hq
              rw [hq.1, hq.2]
              show mGo w kX9_switched 0 0 106 [some (va_rf v0), some (.int v1), some (.int v2), some (.int v3), some (.int v4), some (.int v5), some (.int v6), some (.int (((((1 : Int32) <<< (v2 &&& 31)) ||| ((1 : Int32) <<< (v3 &&& 31))) ||| ((1 : Int32) <<< (v4 &&& 31))) ||| ((1 : Int32) <<< (v5 &&& 31)))), some (.int x7), none, none, none, none] [.int x11, .int (x9 ^^^ x10)] h Q
              refine mGo.ixor (n := 107) dX9_switched_106 rfl ?_
              refine mGo.aload_n (n := 108) (r := v0) dX9_switched_107 rfl rfl ?_
              refine mGo.iload_n (n := 109) (x := v1) dX9_switched_108 rfl rfl ?_
              refine mGo.iload (n := 111) (x := v5) dX9_switched_109 rfl rfl ?_
              obtain ⟨x12, e_x12, e⟩ := mBind e
              refine mGo.callV (n := 114) (y := zX9_rowOf) (R' := (mRoom (1) 0 0)) (as := [.int v1, .int v5]) (st := [.int ((x9 ^^^ x10) ^^^ x11)]) (r0 := v0) dX9_switched_111 sc_RX9_90 rfl (s_X9_rowOf v0 v1 v5 h e_x12) (e_X9_rowOf v0 v1 v5 h e_x12) (mFit_of rfl (Nat.le_of_ble_eq_true rfl) (by decide) (Nat.le_of_ble_eq_true rfl) (Nat.le_of_ble_eq_true rfl)) (Nat.le_of_ble_eq_true rfl) rfl rfl ?_
              intro _ _ hq
              rw [hq.1, hq.2]
              show mGo w kX9_switched 0 0 114 [some (va_rf v0), some (.int v1), some (.int v2), some (.int v3), some (.int v4), some (.int v5), some (.int v6), some (.int (((((1 : Int32) <<< (v2 &&& 31)) ||| ((1 : Int32) <<< (v3 &&& 31))) ||| ((1 : Int32) <<< (v4 &&& 31))) ||| ((1 : Int32) <<< (v5 &&& 31)))), some (.int x7), none, none, none, none] [.int x12, .int ((x9 ^^^ x10) ^^^ x11)] h Q
              refine mGo.ixor (n := 115) dX9_switched_114 rfl ?_
              refine mGo.iload (n := 117) (x := x7) dX9_switched_115 rfl rfl ?_
              obtain ⟨x13, e_x13, e⟩ := mBind e
              refine mGo.callS (n := 120) (y := zX9_sizeOf) (R' := (mRoom (3) 0 0)) (as := [.int (((x9 ^^^ x10) ^^^ x11) ^^^ x12), .int x7]) (st := []) dX9_switched_117 sc_RX9_193 rfl (e_X9_sizeOf (((x9 ^^^ x10) ^^^ x11) ^^^ x12) x7 h e_x13) (mFit_of rfl (Nat.le_of_ble_eq_true rfl) (by decide) (Nat.le_of_ble_eq_true rfl) (Nat.le_of_ble_eq_true rfl)) (Nat.le_of_ble_eq_true rfl) rfl rfl ?_
              intro _ _ hq
              rw [hq.1, hq.2]
              show mGo w kX9_switched 0 0 120 [some (va_rf v0), some (.int v1), some (.int v2), some (.int v3), some (.int v4), some (.int v5), some (.int v6), some (.int (((((1 : Int32) <<< (v2 &&& 31)) ||| ((1 : Int32) <<< (v3 &&& 31))) ||| ((1 : Int32) <<< (v4 &&& 31))) ||| ((1 : Int32) <<< (v5 &&& 31)))), some (.int x7), none, none, none, none] [.int x13] h Q
              refine mGo.iload (n := 122) (x := x7) dX9_switched_120 rfl rfl ?_
              refine mGo.icmp_eq (tgt := 127) (n := 125) dX9_switched_122 (by decide) rfl (fun hc => ?_) (fun hc => ?_)
              · replace e := mIft hc e
                refine mGo.aload_n (n := 128) (r := v0) dX9_switched_127 rfl rfl ?_
                refine mGo.iload_n (n := 129) (x := v1) dX9_switched_128 rfl rfl ?_
                refine mGo.iload (n := 131) (x := v6) dX9_switched_129 rfl rfl ?_
                obtain ⟨x14, e_x14, e⟩ := mBind e
                refine mGo.callV (n := 134) (y := zX9_columnOf) (R' := (mRoom (3) 0 0)) (as := [.int v1, .int v6]) (st := []) (r0 := v0) dX9_switched_131 sc_RX9_101 rfl (s_X9_columnOf v0 v1 v6 h e_x14) (e_X9_columnOf v0 v1 v6 h e_x14) (mFit_of rfl (Nat.le_of_ble_eq_true rfl) (by decide) (Nat.le_of_ble_eq_true rfl) (Nat.le_of_ble_eq_true rfl)) (Nat.le_of_ble_eq_true rfl) rfl rfl ?_
                intro _ _ hq
                rw [hq.1, hq.2]
                show mGo w kX9_switched 0 0 134 [some (va_rf v0), some (.int v1), some (.int v2), some (.int v3), some (.int v4), some (.int v5), some (.int v6), some (.int (((((1 : Int32) <<< (v2 &&& 31)) ||| ((1 : Int32) <<< (v3 &&& 31))) ||| ((1 : Int32) <<< (v4 &&& 31))) ||| ((1 : Int32) <<< (v5 &&& 31)))), some (.int x7), none, none, none, none] [.int x14] h Q
                refine mGo.iload (n := 136) (x := (((((1 : Int32) <<< (v2 &&& 31)) ||| ((1 : Int32) <<< (v3 &&& 31))) ||| ((1 : Int32) <<< (v4 &&& 31))) ||| ((1 : Int32) <<< (v5 &&& 31)))) dX9_switched_134 rfl rfl ?_
                refine mGo.iand (n := 137) dX9_switched_136 rfl ?_
                refine mGo.istore (n := 139) (ls' := [some (va_rf v0), some (.int v1), some (.int v2), some (.int v3), some (.int v4), some (.int v5), some (.int v6), some (.int (((((1 : Int32) <<< (v2 &&& 31)) ||| ((1 : Int32) <<< (v3 &&& 31))) ||| ((1 : Int32) <<< (v4 &&& 31))) ||| ((1 : Int32) <<< (v5 &&& 31)))), some (.int x7), some (.int (x14 &&& (((((1 : Int32) <<< (v2 &&& 31)) ||| ((1 : Int32) <<< (v3 &&& 31))) ||| ((1 : Int32) <<< (v4 &&& 31))) ||| ((1 : Int32) <<< (v5 &&& 31))))), none, none, none]) dX9_switched_137 rfl (Nat.le_of_ble_eq_true rfl) rfl ?_
                refine mGo.iconst (n := 140) (v := (0 : Int32)) dX9_switched_139 (by decide) rfl ?_
                refine mGo.istore (n := 142) (ls' := [some (va_rf v0), some (.int v1), some (.int v2), some (.int v3), some (.int v4), some (.int v5), some (.int v6), some (.int (((((1 : Int32) <<< (v2 &&& 31)) ||| ((1 : Int32) <<< (v3 &&& 31))) ||| ((1 : Int32) <<< (v4 &&& 31))) ||| ((1 : Int32) <<< (v5 &&& 31)))), some (.int x7), some (.int (x14 &&& (((((1 : Int32) <<< (v2 &&& 31)) ||| ((1 : Int32) <<< (v3 &&& 31))) ||| ((1 : Int32) <<< (v4 &&& 31))) ||| ((1 : Int32) <<< (v5 &&& 31))))), some (.int (0 : Int32)), none, none]) dX9_switched_140 rfl (Nat.le_of_ble_eq_true rfl) rfl ?_
                refine mGo.iconst (n := 143) (v := (0 : Int32)) dX9_switched_142 (by decide) rfl ?_
                refine mGo.istore (n := 145) (ls' := [some (va_rf v0), some (.int v1), some (.int v2), some (.int v3), some (.int v4), some (.int v5), some (.int v6), some (.int (((((1 : Int32) <<< (v2 &&& 31)) ||| ((1 : Int32) <<< (v3 &&& 31))) ||| ((1 : Int32) <<< (v4 &&& 31))) ||| ((1 : Int32) <<< (v5 &&& 31)))), some (.int x7), some (.int (x14 &&& (((((1 : Int32) <<< (v2 &&& 31)) ||| ((1 : Int32) <<< (v3 &&& 31))) ||| ((1 : Int32) <<< (v4 &&& 31))) ||| ((1 : Int32) <<< (v5 &&& 31))))), some (.int (0 : Int32)), some (.int (0 : Int32)), none]) dX9_switched_143 rfl (Nat.le_of_ble_eq_true rfl) rfl ?_
                refine mGo.mk [true, true, false, false, false, false, false, true, true, true, true, true, false] ?_
                exact g_X9_switched_l145 v0 v1 (((((1 : Int32) <<< (v2 &&& 31)) ||| ((1 : Int32) <<< (v3 &&& 31))) ||| ((1 : Int32) <<< (v4 &&& 31))) ||| ((1 : Int32) <<< (v5 &&& 31))) x7 (x14 &&& (((((1 : Int32) <<< (v2 &&& 31)) ||| ((1 : Int32) <<< (v3 &&& 31))) ||| ((1 : Int32) <<< (v4 &&& 31))) ||| ((1 : Int32) <<< (v5 &&& 31)))) (0 : Int32) (0 : Int32) h e q
              · replace e := mIff hc e
                refine mGo.iconst (n := 126) (v := (0 : Int32)) dX9_switched_125 (by decide) rfl ?_
                cases e
                exact mGo.zret dX9_switched_126 rfl (by decide) (Nat.le_of_ble_eq_true rfl) (Nat.le_of_ble_eq_true rfl) q
          · replace e := mIft hc e
            refine mGo.iconst (n := 49) (v := (0 : Int32)) dX9_switched_48 (by decide) rfl ?_
            cases e
            exact mGo.zret dX9_switched_49 rfl (by decide) (Nat.le_of_ble_eq_true rfl) (Nat.le_of_ble_eq_true rfl) q
theorem e_X9_switched {w : mWp} (v0 : Option Nat) (v1 : Int32) (v2 : Int32) (v3 : Int32) (v4 : Int32) (v5 : Int32) (v6 : Int32) (h : mH) {res : Int32 × mH} (e : f_X9_switched v0 v1 v2 v3 v4 v5 v6 h = some res) : mEx w zX9_switched (mRoom 4 0 0) [va_rf v0, .int v1, .int v2, .int v3, .int v4, .int v5, .int v6] h (fun r h2 => r = some (.int res.1) ∧ h2 = res.2) := by
  refine mEx.of (by decide +kernel) (show mEnt [va_rf v0, .int v1, .int v2, .int v3, .int v4, .int v5, .int v6] 13 = [some (va_rf v0), some (.int v1), some (.int v2), some (.int v3), some (.int v4), some (.int v5), some (.int v6), none, none, none, none, none, none] by rw [mEnt_r, mEnt_i, mEnt_i, mEnt_i, mEnt_i, mEnt_i, mEnt_i] <;> rfl) (by simp only [List.map_cons, List.map_nil, mRfc, mCi, mCj, List.sum_cons, List.sum_nil]; exact Nat.le_of_ble_eq_true rfl) ?_
  refine g_X9_switched v0 v1 v2 v3 v4 v5 v6 h e ?_
  exact ⟨rfl, rfl⟩
theorem s_X9_switched (v0 : Option Nat) (v1 : Int32) (v2 : Int32) (v3 : Int32) (v4 : Int32) (v5 : Int32) (v6 : Int32) (h : mH) {res : Int32 × mH} (e : f_X9_switched v0 v1 v2 v3 v4 v5 v6 h = some res) : mIs h v0 8 = some () := by
  unfold f_X9_switched at e
  obtain ⟨u, e1, _⟩ := mBind e
  cases u
  exact e1
-- X9_norm
def kX9_norm : mK := (cX9_norm, RX9, 4, some (.int), "norm", mRoom 3 0 0)
def zX9_norm : mY := (yX9_norm, cX9_norm, 4, some (.int))
noncomputable def f_X9_norm_b55 (v0 : Option Nat) (v1 : Int32) (v2 : Int32) (v3 : Int32) (h : mH) : Option ((Int32 × Int32 × mH) ⊕ (Int32 × mH)) :=
  (mGR h v0 8 1).bind fun x1 =>
  (mAI h x1 v1).bind fun x2 =>
  if x2 ≤ v3 then
    some (Sum.inr (v2, h))
  else
    (f_X9_isMinus v0 v1 v3 (0 : Int32) h).bind fun x3 =>
    if x3 = 0 then
      some (Sum.inl (v2, (v3 + 1), h))
    else
      (f_X9_signs v0 v1 (1 : Int32) v3 h).bind fun x4 =>
      some (Sum.inl ((v2 + 1), (v3 + 1), x4))
set_option maxRecDepth 100000 in
set_option maxHeartbeats 4000000 in
theorem g_X9_norm_b55 {w : mWp} {Q : Option Value → mH → Prop} (v0 : Option Nat) (v1 : Int32) (v2 : Int32) (v3 : Int32) (h : mH) {res : (Int32 × Int32 × mH) ⊕ (Int32 × mH)} (e : f_X9_norm_b55 v0 v1 v2 v3 h = some res) (q : (Sum.elim (fun x : Int32 × Int32 × mH => mGo w kX9_norm 0 0 55 [some (va_rf v0), some (.int v1), some (.int x.1), some (.int x.2.1)] [] x.2.2 Q) (fun r : Int32 × mH => Q (some (.int r.1)) r.2)) res) : mGo w kX9_norm 0 0 55 [some (va_rf v0), some (.int v1), some (.int v2), some (.int v3)] [] h Q := by
  unfold f_X9_norm_b55 at e
  refine mGo.iload_n (n := 56) (x := v3) dX9_norm_55 rfl rfl ?_
  refine mGo.aload_n (n := 57) (r := v0) dX9_norm_56 rfl rfl ?_
  obtain ⟨x1, e_x1, e⟩ := mBind e
  refine mGo.getR (n := 60) dX9_norm_57 sf_RX9_13 e_x1 rfl ?_
  refine mGo.iload_n (n := 61) (x := v1) dX9_norm_60 rfl rfl ?_
  obtain ⟨x2, e_x2, e⟩ := mBind e
  refine mGo.iald (n := 62) dX9_norm_61 e_x2 rfl ?_
  refine mGo.icmp_ge (tgt := 94) (n := 65) dX9_norm_62 (by decide) rfl (fun hc => ?_) (fun hc => ?_)
  · replace e := mIft hc e
    refine mGo.iload_n (n := 95) (x := v2) dX9_norm_94 rfl rfl ?_
    cases e
    exact mGo.iret dX9_norm_95 rfl (Nat.le_of_ble_eq_true rfl) (Nat.le_of_ble_eq_true rfl) q
  · replace e := mIff hc e
    refine mGo.aload_n (n := 66) (r := v0) dX9_norm_65 rfl rfl ?_
    refine mGo.iload_n (n := 67) (x := v1) dX9_norm_66 rfl rfl ?_
    refine mGo.iload_n (n := 68) (x := v3) dX9_norm_67 rfl rfl ?_
    refine mGo.iconst (n := 69) (v := (0 : Int32)) dX9_norm_68 (by decide) rfl ?_
    obtain ⟨x3, e_x3, e⟩ := mBind e
    refine mGo.callV (n := 72) (y := zX9_isMinus) (R' := (mRoom (2) 0 0)) (as := [.int v1, .int v3, .int (0 : Int32)]) (st := []) (r0 := v0) dX9_norm_69 sc_RX9_98 rfl (s_X9_isMinus v0 v1 v3 (0 : Int32) h e_x3) (e_X9_isMinus v0 v1 v3 (0 : Int32) h e_x3) (mFit_of rfl (Nat.le_of_ble_eq_true rfl) (by decide) (Nat.le_of_ble_eq_true rfl) (Nat.le_of_ble_eq_true rfl)) (Nat.le_of_ble_eq_true rfl) rfl rfl ?_
    intro _ _ hq
    rw [hq.1, hq.2]
    show mGo w kX9_norm 0 0 72 [some (va_rf v0), some (.int v1), some (.int v2), some (.int v3)] [.int x3] h Q
    refine mGo.if_ne (tgt := 78) (n := 75) dX9_norm_72 (by decide) rfl (fun hc => ?_) (fun hc => ?_)
    · replace e := mIff hc e
      refine mGo.aload_n (n := 79) (r := v0) dX9_norm_78 rfl rfl ?_
      refine mGo.iload_n (n := 80) (x := v1) dX9_norm_79 rfl rfl ?_
      refine mGo.iconst (n := 81) (v := (1 : Int32)) dX9_norm_80 (by decide) rfl ?_
      refine mGo.iload_n (n := 82) (x := v3) dX9_norm_81 rfl rfl ?_
      obtain ⟨x4, e_x4, e⟩ := mBind e
      refine mGo.callV (n := 85) (y := zX9_signs) (R' := (mRoom (2) 0 0)) (as := [.int v1, .int (1 : Int32), .int v3]) (st := []) (r0 := v0) dX9_norm_82 sc_RX9_185 rfl (s_X9_signs v0 v1 (1 : Int32) v3 h e_x4) (e_X9_signs v0 v1 (1 : Int32) v3 h e_x4) (mFit_of rfl (Nat.le_of_ble_eq_true rfl) (by decide) (Nat.le_of_ble_eq_true rfl) (Nat.le_of_ble_eq_true rfl)) (Nat.le_of_ble_eq_true rfl) rfl rfl ?_
      intro _ _ hq
      rw [hq.1, hq.2]
      show mGo w kX9_norm 0 0 85 [some (va_rf v0), some (.int v1), some (.int v2), some (.int v3)] [] x4 Q
      refine mGo.iinc (n := 88) (x := v2) (v := (v2 + 1)) (ls' := [some (va_rf v0), some (.int v1), some (.int (v2 + 1)), some (.int v3)]) dX9_norm_85 rfl rfl rfl (Nat.le_of_ble_eq_true rfl) rfl ?_
      refine mGo.iinc (n := 91) (x := v3) (v := (v3 + 1)) (ls' := [some (va_rf v0), some (.int v1), some (.int (v2 + 1)), some (.int (v3 + 1))]) dX9_norm_88 rfl rfl rfl (Nat.le_of_ble_eq_true rfl) rfl ?_
      refine mGo.goto (tgt := 55) dX9_norm_91 (by decide) ?_
      cases e
      refine mGo.mk [true, true, true, true] ?_
      exact q
    · replace e := mIft hc e
      refine mGo.goto (tgt := 88) dX9_norm_75 (by decide) ?_
      refine mGo.iinc (n := 91) (x := v3) (v := (v3 + 1)) (ls' := [some (va_rf v0), some (.int v1), some (.int v2), some (.int (v3 + 1))]) dX9_norm_88 rfl rfl rfl (Nat.le_of_ble_eq_true rfl) rfl ?_
      refine mGo.goto (tgt := 55) dX9_norm_91 (by decide) ?_
      cases e
      refine mGo.mk [true, true, true, true] ?_
      exact q
noncomputable def f_X9_norm_l55 (v0 : Option Nat) (v1 : Int32) (v2 : Int32) (v3 : Int32) (h : mH) : Option (Int32 × mH) :=
  mLoop (fun x : Int32 × Int32 × mH => f_X9_norm_b55 v0 v1 x.1 x.2.1 x.2.2) (v2, v3, h)
set_option maxRecDepth 100000 in
set_option maxHeartbeats 4000000 in
theorem g_X9_norm_l55 {w : mWp} {Q : Option Value → mH → Prop} (v0 : Option Nat) (v1 : Int32) (v2 : Int32) (v3 : Int32) (h : mH) {res : Int32 × mH} (e : f_X9_norm_l55 v0 v1 v2 v3 h = some res) (q : (fun r : Int32 × mH => Q (some (.int r.1)) r.2) res) : mGo w kX9_norm 0 0 55 [some (va_rf v0), some (.int v1), some (.int v2), some (.int v3)] [] h Q := by
  unfold f_X9_norm_l55 at e
  refine mLoop_go (x := (v2, v3, h)) (fun x : Int32 × Int32 × mH => mGo w kX9_norm 0 0 55 [some (va_rf v0), some (.int v1), some (.int x.1), some (.int x.2.1)] [] x.2.2 Q) (fun r : Int32 × mH => Q (some (.int r.1)) r.2) ?_ e q
  rintro ⟨v2, v3, h1⟩ res e q
  exact g_X9_norm_b55 v0 v1 v2 v3 h1 e q
noncomputable def f_X9_norm_b14 (v0 : Option Nat) (v1 : Int32) (v2 : Int32) (v3 : Int32) (h : mH) : Option ((Int32 × Int32 × mH) ⊕ (Int32 × mH)) :=
  (mGR h v0 8 1).bind fun x1 =>
  (mAI h x1 v1).bind fun x2 =>
  if x2 ≤ v3 then
    (f_X9_norm_l55 v0 v1 v2 (0 : Int32) h).map (fun r => (Sum.inr r))
  else
    (f_X9_isMinus v0 v1 (0 : Int32) v3 h).bind fun x4 =>
    if x4 = 0 then
      some (Sum.inl (v2, (v3 + 1), h))
    else
      (f_X9_signs v0 v1 (0 : Int32) v3 h).bind fun x5 =>
      some (Sum.inl ((v2 + 1), (v3 + 1), x5))
set_option maxRecDepth 100000 in
set_option maxHeartbeats 4000000 in
theorem g_X9_norm_b14 {w : mWp} {Q : Option Value → mH → Prop} (v0 : Option Nat) (v1 : Int32) (v2 : Int32) (v3 : Int32) (h : mH) {res : (Int32 × Int32 × mH) ⊕ (Int32 × mH)} (e : f_X9_norm_b14 v0 v1 v2 v3 h = some res) (q : (Sum.elim (fun x : Int32 × Int32 × mH => mGo w kX9_norm 0 0 14 [some (va_rf v0), some (.int v1), some (.int x.1), some (.int x.2.1)] [] x.2.2 Q) (fun r : Int32 × mH => Q (some (.int r.1)) r.2)) res) : mGo w kX9_norm 0 0 14 [some (va_rf v0), some (.int v1), some (.int v2), some (.int v3)] [] h Q := by
  unfold f_X9_norm_b14 at e
  refine mGo.iload_n (n := 15) (x := v3) dX9_norm_14 rfl rfl ?_
  refine mGo.aload_n (n := 16) (r := v0) dX9_norm_15 rfl rfl ?_
  obtain ⟨x1, e_x1, e⟩ := mBind e
  refine mGo.getR (n := 19) dX9_norm_16 sf_RX9_13 e_x1 rfl ?_
  refine mGo.iload_n (n := 20) (x := v1) dX9_norm_19 rfl rfl ?_
  obtain ⟨x2, e_x2, e⟩ := mBind e
  refine mGo.iald (n := 21) dX9_norm_20 e_x2 rfl ?_
  refine mGo.icmp_ge (tgt := 53) (n := 24) dX9_norm_21 (by decide) rfl (fun hc => ?_) (fun hc => ?_)
  · replace e := mIft hc e
    refine mGo.iconst (n := 54) (v := (0 : Int32)) dX9_norm_53 (by decide) rfl ?_
    refine mGo.istore_n (n := 55) (ls' := [some (va_rf v0), some (.int v1), some (.int v2), some (.int (0 : Int32))]) dX9_norm_54 rfl (Nat.le_of_ble_eq_true rfl) rfl ?_
    obtain ⟨r3, e2, rfl⟩ := mMap e
    refine mGo.mk [true, true, true, true] ?_
    exact g_X9_norm_l55 v0 v1 v2 (0 : Int32) h e2 q
  · replace e := mIff hc e
    refine mGo.aload_n (n := 25) (r := v0) dX9_norm_24 rfl rfl ?_
    refine mGo.iload_n (n := 26) (x := v1) dX9_norm_25 rfl rfl ?_
    refine mGo.iconst (n := 27) (v := (0 : Int32)) dX9_norm_26 (by decide) rfl ?_
    refine mGo.iload_n (n := 28) (x := v3) dX9_norm_27 rfl rfl ?_
    obtain ⟨x4, e_x4, e⟩ := mBind e
    refine mGo.callV (n := 31) (y := zX9_isMinus) (R' := (mRoom (2) 0 0)) (as := [.int v1, .int (0 : Int32), .int v3]) (st := []) (r0 := v0) dX9_norm_28 sc_RX9_98 rfl (s_X9_isMinus v0 v1 (0 : Int32) v3 h e_x4) (e_X9_isMinus v0 v1 (0 : Int32) v3 h e_x4) (mFit_of rfl (Nat.le_of_ble_eq_true rfl) (by decide) (Nat.le_of_ble_eq_true rfl) (Nat.le_of_ble_eq_true rfl)) (Nat.le_of_ble_eq_true rfl) rfl rfl ?_
    intro _ _ hq
    rw [hq.1, hq.2]
    show mGo w kX9_norm 0 0 31 [some (va_rf v0), some (.int v1), some (.int v2), some (.int v3)] [.int x4] h Q
    refine mGo.if_ne (tgt := 37) (n := 34) dX9_norm_31 (by decide) rfl (fun hc => ?_) (fun hc => ?_)
    · replace e := mIff hc e
      refine mGo.aload_n (n := 38) (r := v0) dX9_norm_37 rfl rfl ?_
      refine mGo.iload_n (n := 39) (x := v1) dX9_norm_38 rfl rfl ?_
      refine mGo.iconst (n := 40) (v := (0 : Int32)) dX9_norm_39 (by decide) rfl ?_
      refine mGo.iload_n (n := 41) (x := v3) dX9_norm_40 rfl rfl ?_
      obtain ⟨x5, e_x5, e⟩ := mBind e
      refine mGo.callV (n := 44) (y := zX9_signs) (R' := (mRoom (2) 0 0)) (as := [.int v1, .int (0 : Int32), .int v3]) (st := []) (r0 := v0) dX9_norm_41 sc_RX9_185 rfl (s_X9_signs v0 v1 (0 : Int32) v3 h e_x5) (e_X9_signs v0 v1 (0 : Int32) v3 h e_x5) (mFit_of rfl (Nat.le_of_ble_eq_true rfl) (by decide) (Nat.le_of_ble_eq_true rfl) (Nat.le_of_ble_eq_true rfl)) (Nat.le_of_ble_eq_true rfl) rfl rfl ?_
      intro _ _ hq
      rw [hq.1, hq.2]
      show mGo w kX9_norm 0 0 44 [some (va_rf v0), some (.int v1), some (.int v2), some (.int v3)] [] x5 Q
      refine mGo.iinc (n := 47) (x := v2) (v := (v2 + 1)) (ls' := [some (va_rf v0), some (.int v1), some (.int (v2 + 1)), some (.int v3)]) dX9_norm_44 rfl rfl rfl (Nat.le_of_ble_eq_true rfl) rfl ?_
      refine mGo.iinc (n := 50) (x := v3) (v := (v3 + 1)) (ls' := [some (va_rf v0), some (.int v1), some (.int (v2 + 1)), some (.int (v3 + 1))]) dX9_norm_47 rfl rfl rfl (Nat.le_of_ble_eq_true rfl) rfl ?_
      refine mGo.goto (tgt := 14) dX9_norm_50 (by decide) ?_
      cases e
      refine mGo.mk [true, true, true, true] ?_
      exact q
    · replace e := mIft hc e
      refine mGo.goto (tgt := 47) dX9_norm_34 (by decide) ?_
      refine mGo.iinc (n := 50) (x := v3) (v := (v3 + 1)) (ls' := [some (va_rf v0), some (.int v1), some (.int v2), some (.int (v3 + 1))]) dX9_norm_47 rfl rfl rfl (Nat.le_of_ble_eq_true rfl) rfl ?_
      refine mGo.goto (tgt := 14) dX9_norm_50 (by decide) ?_
      cases e
      refine mGo.mk [true, true, true, true] ?_
      exact q
noncomputable def f_X9_norm_l14 (v0 : Option Nat) (v1 : Int32) (v2 : Int32) (v3 : Int32) (h : mH) : Option (Int32 × mH) :=
  mLoop (fun x : Int32 × Int32 × mH => f_X9_norm_b14 v0 v1 x.1 x.2.1 x.2.2) (v2, v3, h)
set_option maxRecDepth 100000 in
set_option maxHeartbeats 4000000 in
theorem g_X9_norm_l14 {w : mWp} {Q : Option Value → mH → Prop} (v0 : Option Nat) (v1 : Int32) (v2 : Int32) (v3 : Int32) (h : mH) {res : Int32 × mH} (e : f_X9_norm_l14 v0 v1 v2 v3 h = some res) (q : (fun r : Int32 × mH => Q (some (.int r.1)) r.2) res) : mGo w kX9_norm 0 0 14 [some (va_rf v0), some (.int v1), some (.int v2), some (.int v3)] [] h Q := by
  unfold f_X9_norm_l14 at e
  refine mLoop_go (x := (v2, v3, h)) (fun x : Int32 × Int32 × mH => mGo w kX9_norm 0 0 14 [some (va_rf v0), some (.int v1), some (.int x.1), some (.int x.2.1)] [] x.2.2 Q) (fun r : Int32 × mH => Q (some (.int r.1)) r.2) ?_ e q
  rintro ⟨v2, v3, h1⟩ res e q
  exact g_X9_norm_b14 v0 v1 v2 v3 h1 e q
noncomputable def f_X9_norm (v0 : Option Nat) (v1 : Int32) (h : mH) : Option (Int32 × mH) :=
  (mIs h v0 8).bind fun _ =>
  (f_X9_isTable v0 v1 h).bind fun x1 =>
  if x1 = 0 then
    some ((-1 : Int32), h)
  else
    f_X9_norm_l14 v0 v1 (0 : Int32) (0 : Int32) h
set_option maxRecDepth 100000 in
set_option maxHeartbeats 4000000 in
theorem g_X9_norm {w : mWp} {Q : Option Value → mH → Prop} (v0 : Option Nat) (v1 : Int32) (h : mH) {res : Int32 × mH} (e : f_X9_norm v0 v1 h = some res) (q : (fun r : Int32 × mH => Q (some (.int r.1)) r.2) res) : mGo w kX9_norm 0 0 0 [some (va_rf v0), some (.int v1), none, none] [] h Q := by
  unfold f_X9_norm at e
  obtain ⟨_, _, e⟩ := mBind e
  refine mGo.aload_n (n := 1) (r := v0) dX9_norm_0 rfl rfl ?_
  refine mGo.iload_n (n := 2) (x := v1) dX9_norm_1 rfl rfl ?_
  obtain ⟨x1, e_x1, e⟩ := mBind e
  refine mGo.callV (n := 5) (y := zX9_isTable) (R' := (mRoom (2) 0 0)) (as := [.int v1]) (st := []) (r0 := v0) dX9_norm_2 sc_RX9_86 rfl (s_X9_isTable v0 v1 h e_x1) (e_X9_isTable v0 v1 h e_x1) (mFit_of rfl (Nat.le_of_ble_eq_true rfl) (by decide) (Nat.le_of_ble_eq_true rfl) (Nat.le_of_ble_eq_true rfl)) (Nat.le_of_ble_eq_true rfl) rfl rfl ?_
  intro _ _ hq
  rw [hq.1, hq.2]
  show mGo w kX9_norm 0 0 5 [some (va_rf v0), some (.int v1), none, none] [.int x1] h Q
  refine mGo.if_ne (tgt := 10) (n := 8) dX9_norm_5 (by decide) rfl (fun hc => ?_) (fun hc => ?_)
  · replace e := mIff hc e
    refine mGo.iconst (n := 11) (v := (0 : Int32)) dX9_norm_10 (by decide) rfl ?_
    refine mGo.istore_n (n := 12) (ls' := [some (va_rf v0), some (.int v1), some (.int (0 : Int32)), none]) dX9_norm_11 rfl (Nat.le_of_ble_eq_true rfl) rfl ?_
    refine mGo.iconst (n := 13) (v := (0 : Int32)) dX9_norm_12 (by decide) rfl ?_
    refine mGo.istore_n (n := 14) (ls' := [some (va_rf v0), some (.int v1), some (.int (0 : Int32)), some (.int (0 : Int32))]) dX9_norm_13 rfl (Nat.le_of_ble_eq_true rfl) rfl ?_
    refine mGo.mk [true, true, true, true] ?_
    exact g_X9_norm_l14 v0 v1 (0 : Int32) (0 : Int32) h e q
  · replace e := mIft hc e
    refine mGo.iconst (n := 9) (v := (-1 : Int32)) dX9_norm_8 (by decide) rfl ?_
    cases e
    exact mGo.iret dX9_norm_9 rfl (Nat.le_of_ble_eq_true rfl) (Nat.le_of_ble_eq_true rfl) q
theorem e_X9_norm {w : mWp} (v0 : Option Nat) (v1 : Int32) (h : mH) {res : Int32 × mH} (e : f_X9_norm v0 v1 h = some res) : mEx w zX9_norm (mRoom 3 0 0) [va_rf v0, .int v1] h (fun r h2 => r = some (.int res.1) ∧ h2 = res.2) := by
  refine mEx.of (by decide +kernel) (show mEnt [va_rf v0, .int v1] 4 = [some (va_rf v0), some (.int v1), none, none] by rw [mEnt_r, mEnt_i] <;> rfl) (by simp only [List.map_cons, List.map_nil, mRfc, mCi, mCj, List.sum_cons, List.sum_nil]; exact Nat.le_of_ble_eq_true rfl) ?_
  refine g_X9_norm v0 v1 h e ?_
  exact ⟨rfl, rfl⟩
theorem s_X9_norm (v0 : Option Nat) (v1 : Int32) (h : mH) {res : Int32 × mH} (e : f_X9_norm v0 v1 h = some res) : mIs h v0 8 = some () := by
  unfold f_X9_norm at e
  obtain ⟨u, e1, _⟩ := mBind e
  cases u
  exact e1
-- X9_order
def kX9_order : mK := (cX9_order, RX9, 2, some (.int), "order", mRoom 2 0 0)
def zX9_order : mY := (yX9_order, cX9_order, 2, some (.int))
def f_X9_order (v0 : Option Nat) (v1 : Int32) (h : mH) : Option (Int32) :=
  (mIs h v0 8).bind fun _ =>
  (f_X9_in v1 (0 : Int32) (5 : Int32)).bind fun x1 =>
  if x1 = 0 then
    some (-1 : Int32)
  else
    (mGR h v0 8 1).bind fun x2 =>
    (mAI h x2 v1).bind fun x3 =>
    some x3
set_option maxRecDepth 100000 in
set_option maxHeartbeats 4000000 in
theorem g_X9_order {w : mWp} {Q : Option Value → mH → Prop} (v0 : Option Nat) (v1 : Int32) (h : mH) {res : Int32} (e : f_X9_order v0 v1 h = some res) (q : (fun r : Int32 => Q (some (.int r)) h) res) : mGo w kX9_order 0 0 0 [some (va_rf v0), some (.int v1)] [] h Q := by
  unfold f_X9_order at e
  obtain ⟨_, _, e⟩ := mBind e
  refine mGo.iload_n (n := 1) (x := v1) dX9_order_0 rfl rfl ?_
  refine mGo.iconst (n := 2) (v := (0 : Int32)) dX9_order_1 (by decide) rfl ?_
  refine mGo.iconst (n := 3) (v := (5 : Int32)) dX9_order_2 (by decide) rfl ?_
  obtain ⟨x1, e_x1, e⟩ := mBind e
  refine mGo.callS (n := 6) (y := zX9_in) (R' := (mRoom (1) 0 0)) (as := [.int v1, .int (0 : Int32), .int (5 : Int32)]) (st := []) dX9_order_3 sc_RX9_82 rfl (e_X9_in v1 (0 : Int32) (5 : Int32) h e_x1) (mFit_of rfl (Nat.le_of_ble_eq_true rfl) (by decide) (Nat.le_of_ble_eq_true rfl) (Nat.le_of_ble_eq_true rfl)) (Nat.le_of_ble_eq_true rfl) rfl rfl ?_
  intro _ _ hq
  rw [hq.1, hq.2]
  show mGo w kX9_order 0 0 6 [some (va_rf v0), some (.int v1)] [.int x1] h Q
  refine mGo.if_eq (tgt := 18) (n := 9) dX9_order_6 (by decide) rfl (fun hc => ?_) (fun hc => ?_)
  · replace e := mIft hc e
    refine mGo.iconst (n := 19) (v := (-1 : Int32)) dX9_order_18 (by decide) rfl ?_
    cases e
    exact mGo.iret dX9_order_19 rfl (Nat.le_of_ble_eq_true rfl) (Nat.le_of_ble_eq_true rfl) q
  · replace e := mIff hc e
    refine mGo.aload_n (n := 10) (r := v0) dX9_order_9 rfl rfl ?_
    obtain ⟨x2, e_x2, e⟩ := mBind e
    refine mGo.getR (n := 13) dX9_order_10 sf_RX9_13 e_x2 rfl ?_
    refine mGo.iload_n (n := 14) (x := v1) dX9_order_13 rfl rfl ?_
    obtain ⟨x3, e_x3, e⟩ := mBind e
    refine mGo.iald (n := 15) dX9_order_14 e_x3 rfl ?_
    refine mGo.goto (tgt := 19) dX9_order_15 (by decide) ?_
    cases e
    exact mGo.iret dX9_order_19 rfl (Nat.le_of_ble_eq_true rfl) (Nat.le_of_ble_eq_true rfl) q
theorem e_X9_order {w : mWp} (v0 : Option Nat) (v1 : Int32) (h : mH) {res : Int32} (e : f_X9_order v0 v1 h = some res) : mEx w zX9_order (mRoom 2 0 0) [va_rf v0, .int v1] h (fun r h2 => r = some (.int res) ∧ h2 = h) := by
  refine mEx.of (by decide +kernel) (show mEnt [va_rf v0, .int v1] 2 = [some (va_rf v0), some (.int v1)] by rw [mEnt_r, mEnt_i] <;> rfl) (by simp only [List.map_cons, List.map_nil, mRfc, mCi, mCj, List.sum_cons, List.sum_nil]; exact Nat.le_of_ble_eq_true rfl) ?_
  refine g_X9_order v0 v1 h e ?_
  exact ⟨rfl, rfl⟩
theorem s_X9_order (v0 : Option Nat) (v1 : Int32) (h : mH) {res : Int32} (e : f_X9_order v0 v1 h = some res) : mIs h v0 8 = some () := by
  unfold f_X9_order at e
  obtain ⟨u, e1, _⟩ := mBind e
  cases u
  exact e1
-- X9_bits
def kX9_bits : mK := (cX9_bits, RX9, 4, some (.int), "bits", mRoom 5 0 0)
def zX9_bits : mY := (yX9_bits, cX9_bits, 4, some (.int))
set_option maxRecDepth 100000 in
theorem sc_RX9_196 : mSV RX9 196 zX9_lineOf 3 8 := ⟨Or.inl (mT_at 1072 (by decide +kernel) rfl), mT_at 1074 (by decide +kernel) rfl, mT_at 59 (by decide +kernel) rfl, mT_at 91 (by decide +kernel) rfl, mT_at 1075 (by decide +kernel) rfl, ⟨by decide +kernel, by decide +kernel, by decide +kernel⟩, by decide, rfl⟩
noncomputable def f_X9_bits (v0 : Option Nat) (v1 : Int32) (v2 : Int32) (v3 : Int32) (h : mH) : Option (Int32) :=
  (mIs h v0 8).bind fun _ =>
  (f_X9_isLine v0 v1 v3 h).bind fun x1 =>
  if x1 = 0 then
    some (-1 : Int32)
  else
    (f_X9_lineOf v0 v1 v2 v3 h).bind fun x2 =>
    some x2
set_option maxRecDepth 100000 in
set_option maxHeartbeats 4000000 in
theorem g_X9_bits {w : mWp} {Q : Option Value → mH → Prop} (v0 : Option Nat) (v1 : Int32) (v2 : Int32) (v3 : Int32) (h : mH) {res : Int32} (e : f_X9_bits v0 v1 v2 v3 h = some res) (q : (fun r : Int32 => Q (some (.int r)) h) res) : mGo w kX9_bits 0 0 0 [some (va_rf v0), some (.int v1), some (.int v2), some (.int v3)] [] h Q := by
  unfold f_X9_bits at e
  obtain ⟨_, _, e⟩ := mBind e
  refine mGo.aload_n (n := 1) (r := v0) dX9_bits_0 rfl rfl ?_
  refine mGo.iload_n (n := 2) (x := v1) dX9_bits_1 rfl rfl ?_
  refine mGo.iload_n (n := 3) (x := v3) dX9_bits_2 rfl rfl ?_
  obtain ⟨x1, e_x1, e⟩ := mBind e
  refine mGo.callV (n := 6) (y := zX9_isLine) (R' := (mRoom (3) 0 0)) (as := [.int v1, .int v3]) (st := []) (r0 := v0) dX9_bits_3 sc_RX9_182 rfl (s_X9_isLine v0 v1 v3 h e_x1) (e_X9_isLine v0 v1 v3 h e_x1) (mFit_of rfl (Nat.le_of_ble_eq_true rfl) (by decide) (Nat.le_of_ble_eq_true rfl) (Nat.le_of_ble_eq_true rfl)) (Nat.le_of_ble_eq_true rfl) rfl rfl ?_
  intro _ _ hq
  rw [hq.1, hq.2]
  show mGo w kX9_bits 0 0 6 [some (va_rf v0), some (.int v1), some (.int v2), some (.int v3)] [.int x1] h Q
  refine mGo.if_eq (tgt := 19) (n := 9) dX9_bits_6 (by decide) rfl (fun hc => ?_) (fun hc => ?_)
  · replace e := mIft hc e
    refine mGo.iconst (n := 20) (v := (-1 : Int32)) dX9_bits_19 (by decide) rfl ?_
    cases e
    exact mGo.iret dX9_bits_20 rfl (Nat.le_of_ble_eq_true rfl) (Nat.le_of_ble_eq_true rfl) q
  · replace e := mIff hc e
    refine mGo.aload_n (n := 10) (r := v0) dX9_bits_9 rfl rfl ?_
    refine mGo.iload_n (n := 11) (x := v1) dX9_bits_10 rfl rfl ?_
    refine mGo.iload_n (n := 12) (x := v2) dX9_bits_11 rfl rfl ?_
    refine mGo.iload_n (n := 13) (x := v3) dX9_bits_12 rfl rfl ?_
    obtain ⟨x2, e_x2, e⟩ := mBind e
    refine mGo.callV (n := 16) (y := zX9_lineOf) (R' := (mRoom (4) 0 0)) (as := [.int v1, .int v2, .int v3]) (st := []) (r0 := v0) dX9_bits_13 sc_RX9_196 rfl (s_X9_lineOf v0 v1 v2 v3 h e_x2) (e_X9_lineOf v0 v1 v2 v3 h e_x2) (mFit_of rfl (Nat.le_of_ble_eq_true rfl) (by decide) (Nat.le_of_ble_eq_true rfl) (Nat.le_of_ble_eq_true rfl)) (Nat.le_of_ble_eq_true rfl) rfl rfl ?_
    intro _ _ hq
    rw [hq.1, hq.2]
    show mGo w kX9_bits 0 0 16 [some (va_rf v0), some (.int v1), some (.int v2), some (.int v3)] [.int x2] h Q
    refine mGo.goto (tgt := 20) dX9_bits_16 (by decide) ?_
    cases e
    exact mGo.iret dX9_bits_20 rfl (Nat.le_of_ble_eq_true rfl) (Nat.le_of_ble_eq_true rfl) q
theorem e_X9_bits {w : mWp} (v0 : Option Nat) (v1 : Int32) (v2 : Int32) (v3 : Int32) (h : mH) {res : Int32} (e : f_X9_bits v0 v1 v2 v3 h = some res) : mEx w zX9_bits (mRoom 5 0 0) [va_rf v0, .int v1, .int v2, .int v3] h (fun r h2 => r = some (.int res) ∧ h2 = h) := by
  refine mEx.of (by decide +kernel) (show mEnt [va_rf v0, .int v1, .int v2, .int v3] 4 = [some (va_rf v0), some (.int v1), some (.int v2), some (.int v3)] by rw [mEnt_r, mEnt_i, mEnt_i, mEnt_i] <;> rfl) (by simp only [List.map_cons, List.map_nil, mRfc, mCi, mCj, List.sum_cons, List.sum_nil]; exact Nat.le_of_ble_eq_true rfl) ?_
  refine g_X9_bits v0 v1 v2 v3 h e ?_
  exact ⟨rfl, rfl⟩
theorem s_X9_bits (v0 : Option Nat) (v1 : Int32) (v2 : Int32) (v3 : Int32) (h : mH) {res : Int32} (e : f_X9_bits v0 v1 v2 v3 h = some res) : mIs h v0 8 = some () := by
  unfold f_X9_bits at e
  obtain ⟨u, e1, _⟩ := mBind e
  cases u
  exact e1
-- X9_trail
def kX9_trail : mK := (cX9_trail, RX9, 6, some (.int), "trail", mRoom 4 0 0)
def zX9_trail : mY := (yX9_trail, cX9_trail, 6, some (.int))
def f_X9_trail_c77 (s0 : Option Nat) (s1 : Int32) (s2 : Int32) (h : mH) : Option (Int32) :=
  (mAI h s0 (s1 + s2)).bind fun x1 =>
  some x1
set_option maxRecDepth 100000 in
set_option maxHeartbeats 4000000 in
theorem g_X9_trail_c77 {w : mWp} {Q : Option Value → mH → Prop} (s0 : Option Nat) (s1 : Int32) (s2 : Int32) (h : mH) {res : Int32} (e : f_X9_trail_c77 s0 s1 s2 h = some res) (q : (fun r : Int32 => Q (some (.int r)) h) res) : mGo w kX9_trail 0 0 77 [none, none, none, none, none, none] [.int s2, .int s1, va_rf s0] h Q := by
  unfold f_X9_trail_c77 at e
  refine mGo.iadd (n := 78) dX9_trail_77 rfl ?_
  obtain ⟨x1, e_x1, e⟩ := mBind e
  refine mGo.iald (n := 79) dX9_trail_78 e_x1 rfl ?_
  cases e
  exact mGo.iret dX9_trail_79 rfl (Nat.le_of_ble_eq_true rfl) (Nat.le_of_ble_eq_true rfl) q
def f_X9_trail (v0 : Option Nat) (v1 : Int32) (v2 : Int32) (v3 : Int32) (v4 : Int32) (h : mH) : Option (Int32) :=
  (mIs h v0 8).bind fun _ =>
  (f_X9_isLine v0 v1 v3 h).bind fun x1 =>
  if x1 = 0 then
    some (-1 : Int32)
  else
    (f_X9_in v4 (0 : Int32) (2 : Int32)).bind fun x2 =>
    if x2 = 0 then
      some (-1 : Int32)
    else
      (f_X9_trailAt v0 v1 v2 v3 h).bind fun x3 =>
      if v4 = 0 then
        (mGR h v0 8 3).bind fun x7 =>
        (mAI h x7 x3).bind fun x8 =>
        some x8
      else
        if v4 = (1 : Int32) then
          (mGR h v0 8 4).bind fun x5 =>
          (mAI h x5 x3).bind fun x6 =>
          some x6
        else
          (mGR h v0 8 5).bind fun x4 =>
          if v2 = 0 then
            f_X9_trail_c77 x4 ((2 : Int32) * v1) (1 : Int32) h
          else
            f_X9_trail_c77 x4 ((2 : Int32) * v1) (0 : Int32) h
set_option maxRecDepth 100000 in
set_option maxHeartbeats 4000000 in
theorem g_X9_trail {w : mWp} {Q : Option Value → mH → Prop} (v0 : Option Nat) (v1 : Int32) (v2 : Int32) (v3 : Int32) (v4 : Int32) (h : mH) {res : Int32} (e : f_X9_trail v0 v1 v2 v3 v4 h = some res) (q : (fun r : Int32 => Q (some (.int r)) h) res) : mGo w kX9_trail 0 0 0 [some (va_rf v0), some (.int v1), some (.int v2), some (.int v3), some (.int v4), none] [] h Q := by
  unfold f_X9_trail at e
  obtain ⟨_, _, e⟩ := mBind e
  refine mGo.aload_n (n := 1) (r := v0) dX9_trail_0 rfl rfl ?_
  refine mGo.iload_n (n := 2) (x := v1) dX9_trail_1 rfl rfl ?_
  refine mGo.iload_n (n := 3) (x := v3) dX9_trail_2 rfl rfl ?_
  obtain ⟨x1, e_x1, e⟩ := mBind e
  refine mGo.callV (n := 6) (y := zX9_isLine) (R' := (mRoom (3) 0 0)) (as := [.int v1, .int v3]) (st := []) (r0 := v0) dX9_trail_3 sc_RX9_182 rfl (s_X9_isLine v0 v1 v3 h e_x1) (e_X9_isLine v0 v1 v3 h e_x1) (mFit_of rfl (Nat.le_of_ble_eq_true rfl) (by decide) (Nat.le_of_ble_eq_true rfl) (Nat.le_of_ble_eq_true rfl)) (Nat.le_of_ble_eq_true rfl) rfl rfl ?_
  intro _ _ hq
  rw [hq.1, hq.2]
  show mGo w kX9_trail 0 0 6 [some (va_rf v0), some (.int v1), some (.int v2), some (.int v3), some (.int v4), none] [.int x1] h Q
  refine mGo.if_eq (tgt := 19) (n := 9) dX9_trail_6 (by decide) rfl (fun hc => ?_) (fun hc => ?_)
  · replace e := mIft hc e
    refine mGo.iconst (n := 20) (v := (-1 : Int32)) dX9_trail_19 (by decide) rfl ?_
    cases e
    exact mGo.iret dX9_trail_20 rfl (Nat.le_of_ble_eq_true rfl) (Nat.le_of_ble_eq_true rfl) q
  · replace e := mIff hc e
    refine mGo.iload (n := 11) (x := v4) dX9_trail_9 rfl rfl ?_
    refine mGo.iconst (n := 12) (v := (0 : Int32)) dX9_trail_11 (by decide) rfl ?_
    refine mGo.iconst (n := 13) (v := (2 : Int32)) dX9_trail_12 (by decide) rfl ?_
    obtain ⟨x2, e_x2, e⟩ := mBind e
    refine mGo.callS (n := 16) (y := zX9_in) (R' := (mRoom (1) 0 0)) (as := [.int v4, .int (0 : Int32), .int (2 : Int32)]) (st := []) dX9_trail_13 sc_RX9_82 rfl (e_X9_in v4 (0 : Int32) (2 : Int32) h e_x2) (mFit_of rfl (Nat.le_of_ble_eq_true rfl) (by decide) (Nat.le_of_ble_eq_true rfl) (Nat.le_of_ble_eq_true rfl)) (Nat.le_of_ble_eq_true rfl) rfl rfl ?_
    intro _ _ hq
    rw [hq.1, hq.2]
    show mGo w kX9_trail 0 0 16 [some (va_rf v0), some (.int v1), some (.int v2), some (.int v3), some (.int v4), none] [.int x2] h Q
    refine mGo.if_ne (tgt := 21) (n := 19) dX9_trail_16 (by decide) rfl (fun hc => ?_) (fun hc => ?_)
    · replace e := mIff hc e
      refine mGo.aload_n (n := 22) (r := v0) dX9_trail_21 rfl rfl ?_
      refine mGo.iload_n (n := 23) (x := v1) dX9_trail_22 rfl rfl ?_
      refine mGo.iload_n (n := 24) (x := v2) dX9_trail_23 rfl rfl ?_
      refine mGo.iload_n (n := 25) (x := v3) dX9_trail_24 rfl rfl ?_
      obtain ⟨x3, e_x3, e⟩ := mBind e
      refine mGo.callV (n := 28) (y := zX9_trailAt) (R' := (mRoom (1) 0 0)) (as := [.int v1, .int v2, .int v3]) (st := []) (r0 := v0) dX9_trail_25 sc_RX9_178 rfl (s_X9_trailAt v0 v1 v2 v3 h e_x3) (e_X9_trailAt v0 v1 v2 v3 h e_x3) (mFit_of rfl (Nat.le_of_ble_eq_true rfl) (by decide) (Nat.le_of_ble_eq_true rfl) (Nat.le_of_ble_eq_true rfl)) (Nat.le_of_ble_eq_true rfl) rfl rfl ?_
      intro _ _ hq
      rw [hq.1, hq.2]
      show mGo w kX9_trail 0 0 28 [some (va_rf v0), some (.int v1), some (.int v2), some (.int v3), some (.int v4), none] [.int x3] h Q
      refine mGo.istore (n := 30) (ls' := [some (va_rf v0), some (.int v1), some (.int v2), some (.int v3), some (.int v4), some (.int x3)]) dX9_trail_28 rfl (Nat.le_of_ble_eq_true rfl) rfl ?_
      refine mGo.iload (n := 32) (x := v4) dX9_trail_30 rfl rfl ?_
      refine mGo.if_ne (tgt := 45) (n := 35) dX9_trail_32 (by decide) rfl (fun hc => ?_) (fun hc => ?_)
      · replace e := mIff hc e
        refine mGo.iload (n := 47) (x := v4) dX9_trail_45 rfl rfl ?_
        refine mGo.iconst (n := 48) (v := (1 : Int32)) dX9_trail_47 (by decide) rfl ?_
        refine mGo.icmp_ne (tgt := 61) (n := 51) dX9_trail_48 (by decide) rfl (fun hc => ?_) (fun hc => ?_)
        · replace e := mIff hc e
          refine mGo.aload_n (n := 62) (r := v0) dX9_trail_61 rfl rfl ?_
          obtain ⟨x4, e_x4, e⟩ := mBind e
          refine mGo.getR (n := 65) dX9_trail_62 sf_RX9_26 e_x4 rfl ?_
          refine mGo.iconst (n := 66) (v := (2 : Int32)) dX9_trail_65 (by decide) rfl ?_
          refine mGo.iload_n (n := 67) (x := v1) dX9_trail_66 rfl rfl ?_
          refine mGo.imul (n := 68) dX9_trail_67 rfl ?_
          refine mGo.iload_n (n := 69) (x := v2) dX9_trail_68 rfl rfl ?_
          refine mGo.if_eq (tgt := 76) (n := 72) dX9_trail_69 (by decide) rfl (fun hc => ?_) (fun hc => ?_)
          · replace e := mIft hc e
            refine mGo.iconst (n := 77) (v := (1 : Int32)) dX9_trail_76 (by decide) rfl ?_
            refine mGo.mk [false, false, false, false, false, false] ?_
            exact g_X9_trail_c77 x4 ((2 : Int32) * v1) (1 : Int32) h e q
          · replace e := mIff hc e
            refine mGo.iconst (n := 73) (v := (0 : Int32)) dX9_trail_72 (by decide) rfl ?_
            refine mGo.goto (tgt := 77) dX9_trail_73 (by decide) ?_
            refine mGo.mk [false, false, false, false, false, false] ?_
            exact g_X9_trail_c77 x4 ((2 : Int32) * v1) (0 : Int32) h e q
        · replace e := mIft hc e
          refine mGo.aload_n (n := 52) (r := v0) dX9_trail_51 rfl rfl ?_
          obtain ⟨x5, e_x5, e⟩ := mBind e
          refine mGo.getR (n := 55) dX9_trail_52 sf_RX9_23 e_x5 rfl ?_
          refine mGo.iload (n := 57) (x := x3) dX9_trail_55 rfl rfl ?_
          obtain ⟨x6, e_x6, e⟩ := mBind e
          refine mGo.iald (n := 58) dX9_trail_57 e_x6 rfl ?_
          refine mGo.goto (tgt := 79) dX9_trail_58 (by decide) ?_
          cases e
          exact mGo.iret dX9_trail_79 rfl (Nat.le_of_ble_eq_true rfl) (Nat.le_of_ble_eq_true rfl) q
      · replace e := mIft hc e
        refine mGo.aload_n (n := 36) (r := v0) dX9_trail_35 rfl rfl ?_
        obtain ⟨x7, e_x7, e⟩ := mBind e
        refine mGo.getR (n := 39) dX9_trail_36 sf_RX9_20 e_x7 rfl ?_
        refine mGo.iload (n := 41) (x := x3) dX9_trail_39 rfl rfl ?_
        obtain ⟨x8, e_x8, e⟩ := mBind e
        refine mGo.iald (n := 42) dX9_trail_41 e_x8 rfl ?_
        refine mGo.goto (tgt := 79) dX9_trail_42 (by decide) ?_
        cases e
        exact mGo.iret dX9_trail_79 rfl (Nat.le_of_ble_eq_true rfl) (Nat.le_of_ble_eq_true rfl) q
    · replace e := mIft hc e
      refine mGo.iconst (n := 20) (v := (-1 : Int32)) dX9_trail_19 (by decide) rfl ?_
      cases e
      exact mGo.iret dX9_trail_20 rfl (Nat.le_of_ble_eq_true rfl) (Nat.le_of_ble_eq_true rfl) q
theorem e_X9_trail {w : mWp} (v0 : Option Nat) (v1 : Int32) (v2 : Int32) (v3 : Int32) (v4 : Int32) (h : mH) {res : Int32} (e : f_X9_trail v0 v1 v2 v3 v4 h = some res) : mEx w zX9_trail (mRoom 4 0 0) [va_rf v0, .int v1, .int v2, .int v3, .int v4] h (fun r h2 => r = some (.int res) ∧ h2 = h) := by
  refine mEx.of (by decide +kernel) (show mEnt [va_rf v0, .int v1, .int v2, .int v3, .int v4] 6 = [some (va_rf v0), some (.int v1), some (.int v2), some (.int v3), some (.int v4), none] by rw [mEnt_r, mEnt_i, mEnt_i, mEnt_i, mEnt_i] <;> rfl) (by simp only [List.map_cons, List.map_nil, mRfc, mCi, mCj, List.sum_cons, List.sum_nil]; exact Nat.le_of_ble_eq_true rfl) ?_
  refine g_X9_trail v0 v1 v2 v3 v4 h e ?_
  exact ⟨rfl, rfl⟩
theorem s_X9_trail (v0 : Option Nat) (v1 : Int32) (v2 : Int32) (v3 : Int32) (v4 : Int32) (h : mH) {res : Int32} (e : f_X9_trail v0 v1 v2 v3 v4 h = some res) : mIs h v0 8 = some () := by
  unfold f_X9_trail at e
  obtain ⟨u, e1, _⟩ := mBind e
  cases u
  exact e1
-- X9_along
def kX9_along : mK := (cX9_along, RX9, 5, some (.int), "along", mRoom 5 0 0)
def zX9_along : mY := (yX9_along, cX9_along, 5, some (.int))
noncomputable def f_X9_along (v0 : Option Nat) (v1 : Int32) (v2 : Int32) (v3 : Int32) (v4 : Int32) (h : mH) : Option (Int32) :=
  (mIs h v0 8).bind fun _ =>
  (f_X9_isLine v0 v1 v3 h).bind fun x1 =>
  if x1 = 0 then
    some (-1000 : Int32)
  else
    (f_X9_isLine v0 v1 v4 h).bind fun x2 =>
    if x2 = 0 then
      some (-1000 : Int32)
    else
      (f_X9_lineOf v0 v1 v2 v3 h).bind fun x3 =>
      (f_X9_lineOf v0 v1 v2 v4 h).bind fun x4 =>
      (mGR h v0 8 1).bind fun x5 =>
      (mAI h x5 v1).bind fun x6 =>
      (f_X9_sumOf x3 x4 x6).bind fun x7 =>
      some x7
set_option maxRecDepth 100000 in
set_option maxHeartbeats 4000000 in
theorem g_X9_along {w : mWp} {Q : Option Value → mH → Prop} (v0 : Option Nat) (v1 : Int32) (v2 : Int32) (v3 : Int32) (v4 : Int32) (h : mH) {res : Int32} (e : f_X9_along v0 v1 v2 v3 v4 h = some res) (q : (fun r : Int32 => Q (some (.int r)) h) res) : mGo w kX9_along 0 0 0 [some (va_rf v0), some (.int v1), some (.int v2), some (.int v3), some (.int v4)] [] h Q := by
  unfold f_X9_along at e
  obtain ⟨_, _, e⟩ := mBind e
  refine mGo.aload_n (n := 1) (r := v0) dX9_along_0 rfl rfl ?_
  refine mGo.iload_n (n := 2) (x := v1) dX9_along_1 rfl rfl ?_
  refine mGo.iload_n (n := 3) (x := v3) dX9_along_2 rfl rfl ?_
  obtain ⟨x1, e_x1, e⟩ := mBind e
  refine mGo.callV (n := 6) (y := zX9_isLine) (R' := (mRoom (3) 0 0)) (as := [.int v1, .int v3]) (st := []) (r0 := v0) dX9_along_3 sc_RX9_182 rfl (s_X9_isLine v0 v1 v3 h e_x1) (e_X9_isLine v0 v1 v3 h e_x1) (mFit_of rfl (Nat.le_of_ble_eq_true rfl) (by decide) (Nat.le_of_ble_eq_true rfl) (Nat.le_of_ble_eq_true rfl)) (Nat.le_of_ble_eq_true rfl) rfl rfl ?_
  intro _ _ hq
  rw [hq.1, hq.2]
  show mGo w kX9_along 0 0 6 [some (va_rf v0), some (.int v1), some (.int v2), some (.int v3), some (.int v4)] [.int x1] h Q
  refine mGo.if_eq (tgt := 46) (n := 9) dX9_along_6 (by decide) rfl (fun hc => ?_) (fun hc => ?_)
  · replace e := mIft hc e
    refine mGo.sipush (n := 49) (v := (-1000 : Int32)) dX9_along_46 (by decide) rfl ?_
    cases e
    exact mGo.iret dX9_along_49 rfl (Nat.le_of_ble_eq_true rfl) (Nat.le_of_ble_eq_true rfl) q
  · replace e := mIff hc e
    refine mGo.aload_n (n := 10) (r := v0) dX9_along_9 rfl rfl ?_
    refine mGo.iload_n (n := 11) (x := v1) dX9_along_10 rfl rfl ?_
    refine mGo.iload (n := 13) (x := v4) dX9_along_11 rfl rfl ?_
    obtain ⟨x2, e_x2, e⟩ := mBind e
    refine mGo.callV (n := 16) (y := zX9_isLine) (R' := (mRoom (3) 0 0)) (as := [.int v1, .int v4]) (st := []) (r0 := v0) dX9_along_13 sc_RX9_182 rfl (s_X9_isLine v0 v1 v4 h e_x2) (e_X9_isLine v0 v1 v4 h e_x2) (mFit_of rfl (Nat.le_of_ble_eq_true rfl) (by decide) (Nat.le_of_ble_eq_true rfl) (Nat.le_of_ble_eq_true rfl)) (Nat.le_of_ble_eq_true rfl) rfl rfl ?_
    intro _ _ hq
    rw [hq.1, hq.2]
    show mGo w kX9_along 0 0 16 [some (va_rf v0), some (.int v1), some (.int v2), some (.int v3), some (.int v4)] [.int x2] h Q
    refine mGo.if_eq (tgt := 46) (n := 19) dX9_along_16 (by decide) rfl (fun hc => ?_) (fun hc => ?_)
    · replace e := mIft hc e
      refine mGo.sipush (n := 49) (v := (-1000 : Int32)) dX9_along_46 (by decide) rfl ?_
      cases e
      exact mGo.iret dX9_along_49 rfl (Nat.le_of_ble_eq_true rfl) (Nat.le_of_ble_eq_true rfl) q
    · replace e := mIff hc e
      refine mGo.aload_n (n := 20) (r := v0) dX9_along_19 rfl rfl ?_
      refine mGo.iload_n (n := 21) (x := v1) dX9_along_20 rfl rfl ?_
      refine mGo.iload_n (n := 22) (x := v2) dX9_along_21 rfl rfl ?_
      refine mGo.iload_n (n := 23) (x := v3) dX9_along_22 rfl rfl ?_
      obtain ⟨x3, e_x3, e⟩ := mBind e
      refine mGo.callV (n := 26) (y := zX9_lineOf) (R' := (mRoom (4) 0 0)) (as := [.int v1, .int v2, .int v3]) (st := []) (r0 := v0) dX9_along_23 sc_RX9_196 rfl (s_X9_lineOf v0 v1 v2 v3 h e_x3) (e_X9_lineOf v0 v1 v2 v3 h e_x3) (mFit_of rfl (Nat.le_of_ble_eq_true rfl) (by decide) (Nat.le_of_ble_eq_true rfl) (Nat.le_of_ble_eq_true rfl)) (Nat.le_of_ble_eq_true rfl) rfl rfl ?_
      intro _ _ hq
      rw [hq.1, hq.2]
      show mGo w kX9_along 0 0 26 [some (va_rf v0), some (.int v1), some (.int v2), some (.int v3), some (.int v4)] [.int x3] h Q
      refine mGo.aload_n (n := 27) (r := v0) dX9_along_26 rfl rfl ?_
      refine mGo.iload_n (n := 28) (x := v1) dX9_along_27 rfl rfl ?_
      refine mGo.iload_n (n := 29) (x := v2) dX9_along_28 rfl rfl ?_
      refine mGo.iload (n := 31) (x := v4) dX9_along_29 rfl rfl ?_
      obtain ⟨x4, e_x4, e⟩ := mBind e
      refine mGo.callV (n := 34) (y := zX9_lineOf) (R' := (mRoom (4) 0 0)) (as := [.int v1, .int v2, .int v4]) (st := [.int x3]) (r0 := v0) dX9_along_31 sc_RX9_196 rfl (s_X9_lineOf v0 v1 v2 v4 h e_x4) (e_X9_lineOf v0 v1 v2 v4 h e_x4) (mFit_of rfl (Nat.le_of_ble_eq_true rfl) (by decide) (Nat.le_of_ble_eq_true rfl) (Nat.le_of_ble_eq_true rfl)) (Nat.le_of_ble_eq_true rfl) rfl rfl ?_
      intro _ _ hq
      rw [hq.1, hq.2]
      show mGo w kX9_along 0 0 34 [some (va_rf v0), some (.int v1), some (.int v2), some (.int v3), some (.int v4)] [.int x4, .int x3] h Q
      refine mGo.aload_n (n := 35) (r := v0) dX9_along_34 rfl rfl ?_
      obtain ⟨x5, e_x5, e⟩ := mBind e
      refine mGo.getR (n := 38) dX9_along_35 sf_RX9_13 e_x5 rfl ?_
      refine mGo.iload_n (n := 39) (x := v1) dX9_along_38 rfl rfl ?_
      obtain ⟨x6, e_x6, e⟩ := mBind e
      refine mGo.iald (n := 40) dX9_along_39 e_x6 rfl ?_
      obtain ⟨x7, e_x7, e⟩ := mBind e
      refine mGo.callS (n := 43) (y := zX9_sumOf) (R' := (mRoom (2) 0 0)) (as := [.int x3, .int x4, .int x6]) (st := []) dX9_along_40 sc_RX9_169 rfl (e_X9_sumOf x3 x4 x6 h e_x7) (mFit_of rfl (Nat.le_of_ble_eq_true rfl) (by decide) (Nat.le_of_ble_eq_true rfl) (Nat.le_of_ble_eq_true rfl)) (Nat.le_of_ble_eq_true rfl) rfl rfl ?_
      intro _ _ hq
      rw [hq.1, hq.2]
      show mGo w kX9_along 0 0 43 [some (va_rf v0), some (.int v1), some (.int v2), some (.int v3), some (.int v4)] [.int x7] h Q
      refine mGo.goto (tgt := 49) dX9_along_43 (by decide) ?_
      cases e
      exact mGo.iret dX9_along_49 rfl (Nat.le_of_ble_eq_true rfl) (Nat.le_of_ble_eq_true rfl) q
theorem e_X9_along {w : mWp} (v0 : Option Nat) (v1 : Int32) (v2 : Int32) (v3 : Int32) (v4 : Int32) (h : mH) {res : Int32} (e : f_X9_along v0 v1 v2 v3 v4 h = some res) : mEx w zX9_along (mRoom 5 0 0) [va_rf v0, .int v1, .int v2, .int v3, .int v4] h (fun r h2 => r = some (.int res) ∧ h2 = h) := by
  refine mEx.of (by decide +kernel) (show mEnt [va_rf v0, .int v1, .int v2, .int v3, .int v4] 5 = [some (va_rf v0), some (.int v1), some (.int v2), some (.int v3), some (.int v4)] by rw [mEnt_r, mEnt_i, mEnt_i, mEnt_i, mEnt_i] <;> rfl) (by simp only [List.map_cons, List.map_nil, mRfc, mCi, mCj, List.sum_cons, List.sum_nil]; exact Nat.le_of_ble_eq_true rfl) ?_
  refine g_X9_along v0 v1 v2 v3 v4 h e ?_
  exact ⟨rfl, rfl⟩
theorem s_X9_along (v0 : Option Nat) (v1 : Int32) (v2 : Int32) (v3 : Int32) (v4 : Int32) (h : mH) {res : Int32} (e : f_X9_along v0 v1 v2 v3 v4 h = some res) : mIs h v0 8 = some () := by
  unfold f_X9_along at e
  obtain ⟨u, e1, _⟩ := mBind e
  cases u
  exact e1
-- X9_laysBad
def kX9_laysBad : mK := (cX9_laysBad, RX9, 4, none, "laysBad", mRoom 3 0 0)
def zX9_laysBad : mY := (yX9_laysBad, cX9_laysBad, 4, none)
set_option maxRecDepth 100000 in
theorem sf_RX9_199 : mFld RX9 199 8 12 := ⟨by decide, by decide, Or.inl (mT_at 814 (by decide +kernel) rfl)⟩
set_option maxRecDepth 100000 in
theorem sf_RX9_202 : mFld RX9 202 8 13 := ⟨by decide, by decide, Or.inl (mT_at 815 (by decide +kernel) rfl)⟩
def f_X9_laysBad_c81 (v0 : Option Nat) (v1 : Int32) (v2 : Int32) (v3 : Int32) (h : mH) : Option ((Int32 × mH) ⊕ ((Int32 × mH) ⊕ (mH))) :=
  (mGI h v0 8 12).bind fun x1 =>
  (mPF h v0 8 12 (.int (x1 + (1 : Int32)))).bind fun h2 =>
  some (Sum.inl ((v3 + 1), h2))
set_option maxRecDepth 100000 in
set_option maxHeartbeats 4000000 in
theorem g_X9_laysBad_c81 {w : mWp} {Q : Option Value → mH → Prop} (v0 : Option Nat) (v1 : Int32) (v2 : Int32) (v3 : Int32) (h : mH) {res : (Int32 × mH) ⊕ ((Int32 × mH) ⊕ (mH))} (e : f_X9_laysBad_c81 v0 v1 v2 v3 h = some res) (q : (Sum.elim (fun x : Int32 × mH => mGo w kX9_laysBad 0 0 27 [some (va_rf v0), some (.int v1), some (.int v2), some (.int x.1)] [] x.2 Q) (Sum.elim (fun x : Int32 × mH => mGo w kX9_laysBad 0 0 13 [some (va_rf v0), some (.int v1), some (.int x.1), none] [] x.2 Q) (fun r : mH => Q none r))) res) : mGo w kX9_laysBad 0 0 81 [some (va_rf v0), some (.int v1), some (.int v2), some (.int v3)] [] h Q := by
  unfold f_X9_laysBad_c81 at e
  refine mGo.aload_n (n := 82) (r := v0) dX9_laysBad_81 rfl rfl ?_
  refine mGo.dup (n := 83) dX9_laysBad_82 (mRfc _) rfl ?_
  obtain ⟨x1, e_x1, e⟩ := mBind e
  refine mGo.getI (n := 86) dX9_laysBad_83 sf_RX9_199 e_x1 rfl ?_
  refine mGo.iconst (n := 87) (v := (1 : Int32)) dX9_laysBad_86 (by decide) rfl ?_
  refine mGo.iadd (n := 88) dX9_laysBad_87 rfl ?_
  obtain ⟨h2, e_h2, e⟩ := mBind e
  refine mGo.putI (n := 91) dX9_laysBad_88 sf_RX9_199 rfl rfl e_h2 rfl ?_
  refine mGo.iinc (n := 94) (x := v3) (v := (v3 + 1)) (ls' := [some (va_rf v0), some (.int v1), some (.int v2), some (.int (v3 + 1))]) dX9_laysBad_91 rfl rfl rfl (Nat.le_of_ble_eq_true rfl) rfl ?_
  refine mGo.goto (tgt := 27) dX9_laysBad_94 (by decide) ?_
  cases e
  refine mGo.mk [true, true, true, true] ?_
  exact q
def f_X9_laysBad_b27 (v0 : Option Nat) (v1 : Int32) (v2 : Int32) (v3 : Int32) (h : mH) : Option ((Int32 × mH) ⊕ ((Int32 × mH) ⊕ (mH))) :=
  (mGR h v0 8 1).bind fun x1 =>
  (mAI h x1 v1).bind fun x2 =>
  if x2 ≤ v3 then
    some (Sum.inr (Sum.inl ((v2 + 1), h)))
  else
    (f_X9_rowOf v0 v1 v2 h).bind fun x3 =>
    (f_X9_rowOf v0 v1 v3 h).bind fun x4 =>
    (mGR h v0 8 1).bind fun x5 =>
    (mAI h x5 v1).bind fun x6 =>
    (f_X9_sumOf x3 x4 x6).bind fun x7 =>
    if x7 = 0 then
      some (Sum.inl ((v3 + 1), h))
    else
      (mGI h v0 8 12).bind fun x8 =>
      if x8 = 0 then
        (mPF h v0 8 13 (.int (((28 : Int32) * v2) + v3))).bind fun h9 =>
        f_X9_laysBad_c81 v0 v1 v2 v3 h9
      else
        f_X9_laysBad_c81 v0 v1 v2 v3 h
set_option maxRecDepth 100000 in
set_option maxHeartbeats 4000000 in
theorem g_X9_laysBad_b27 {w : mWp} {Q : Option Value → mH → Prop} (v0 : Option Nat) (v1 : Int32) (v2 : Int32) (v3 : Int32) (h : mH) {res : (Int32 × mH) ⊕ ((Int32 × mH) ⊕ (mH))} (e : f_X9_laysBad_b27 v0 v1 v2 v3 h = some res) (q : (Sum.elim (fun x : Int32 × mH => mGo w kX9_laysBad 0 0 27 [some (va_rf v0), some (.int v1), some (.int v2), some (.int x.1)] [] x.2 Q) (Sum.elim (fun x : Int32 × mH => mGo w kX9_laysBad 0 0 13 [some (va_rf v0), some (.int v1), some (.int x.1), none] [] x.2 Q) (fun r : mH => Q none r))) res) : mGo w kX9_laysBad 0 0 27 [some (va_rf v0), some (.int v1), some (.int v2), some (.int v3)] [] h Q := by
  unfold f_X9_laysBad_b27 at e
  refine mGo.iload_n (n := 28) (x := v3) dX9_laysBad_27 rfl rfl ?_
  refine mGo.aload_n (n := 29) (r := v0) dX9_laysBad_28 rfl rfl ?_
  obtain ⟨x1, e_x1, e⟩ := mBind e
  refine mGo.getR (n := 32) dX9_laysBad_29 sf_RX9_13 e_x1 rfl ?_
  refine mGo.iload_n (n := 33) (x := v1) dX9_laysBad_32 rfl rfl ?_
  obtain ⟨x2, e_x2, e⟩ := mBind e
  refine mGo.iald (n := 34) dX9_laysBad_33 e_x2 rfl ?_
  refine mGo.icmp_ge (tgt := 97) (n := 37) dX9_laysBad_34 (by decide) rfl (fun hc => ?_) (fun hc => ?_)
  · replace e := mIft hc e
    refine mGo.iinc (n := 100) (x := v2) (v := (v2 + 1)) (ls' := [some (va_rf v0), some (.int v1), some (.int (v2 + 1)), some (.int v3)]) dX9_laysBad_97 rfl rfl rfl (Nat.le_of_ble_eq_true rfl) rfl ?_
    refine mGo.goto (tgt := 13) dX9_laysBad_100 (by decide) ?_
    cases e
    refine mGo.mk [true, true, true, false] ?_
    exact q
  · replace e := mIff hc e
    refine mGo.aload_n (n := 38) (r := v0) dX9_laysBad_37 rfl rfl ?_
    refine mGo.iload_n (n := 39) (x := v1) dX9_laysBad_38 rfl rfl ?_
    refine mGo.iload_n (n := 40) (x := v2) dX9_laysBad_39 rfl rfl ?_
    obtain ⟨x3, e_x3, e⟩ := mBind e
    refine mGo.callV (n := 43) (y := zX9_rowOf) (R' := (mRoom (1) 0 0)) (as := [.int v1, .int v2]) (st := []) (r0 := v0) dX9_laysBad_40 sc_RX9_90 rfl (s_X9_rowOf v0 v1 v2 h e_x3) (e_X9_rowOf v0 v1 v2 h e_x3) (mFit_of rfl (Nat.le_of_ble_eq_true rfl) (by decide) (Nat.le_of_ble_eq_true rfl) (Nat.le_of_ble_eq_true rfl)) (Nat.le_of_ble_eq_true rfl) rfl rfl ?_
    intro _ _ hq
    rw [hq.1, hq.2]
    show mGo w kX9_laysBad 0 0 43 [some (va_rf v0), some (.int v1), some (.int v2), some (.int v3)] [.int x3] h Q
    refine mGo.aload_n (n := 44) (r := v0) dX9_laysBad_43 rfl rfl ?_
    refine mGo.iload_n (n := 45) (x := v1) dX9_laysBad_44 rfl rfl ?_
    refine mGo.iload_n (n := 46) (x := v3) dX9_laysBad_45 rfl rfl ?_
    obtain ⟨x4, e_x4, e⟩ := mBind e
    refine mGo.callV (n := 49) (y := zX9_rowOf) (R' := (mRoom (1) 0 0)) (as := [.int v1, .int v3]) (st := [.int x3]) (r0 := v0) dX9_laysBad_46 sc_RX9_90 rfl (s_X9_rowOf v0 v1 v3 h e_x4) (e_X9_rowOf v0 v1 v3 h e_x4) (mFit_of rfl (Nat.le_of_ble_eq_true rfl) (by decide) (Nat.le_of_ble_eq_true rfl) (Nat.le_of_ble_eq_true rfl)) (Nat.le_of_ble_eq_true rfl) rfl rfl ?_
    intro _ _ hq
    rw [hq.1, hq.2]
    show mGo w kX9_laysBad 0 0 49 [some (va_rf v0), some (.int v1), some (.int v2), some (.int v3)] [.int x4, .int x3] h Q
    refine mGo.aload_n (n := 50) (r := v0) dX9_laysBad_49 rfl rfl ?_
    obtain ⟨x5, e_x5, e⟩ := mBind e
    refine mGo.getR (n := 53) dX9_laysBad_50 sf_RX9_13 e_x5 rfl ?_
    refine mGo.iload_n (n := 54) (x := v1) dX9_laysBad_53 rfl rfl ?_
    obtain ⟨x6, e_x6, e⟩ := mBind e
    refine mGo.iald (n := 55) dX9_laysBad_54 e_x6 rfl ?_
    obtain ⟨x7, e_x7, e⟩ := mBind e
    refine mGo.callS (n := 58) (y := zX9_sumOf) (R' := (mRoom (2) 0 0)) (as := [.int x3, .int x4, .int x6]) (st := []) dX9_laysBad_55 sc_RX9_169 rfl (e_X9_sumOf x3 x4 x6 h e_x7) (mFit_of rfl (Nat.le_of_ble_eq_true rfl) (by decide) (Nat.le_of_ble_eq_true rfl) (Nat.le_of_ble_eq_true rfl)) (Nat.le_of_ble_eq_true rfl) rfl rfl ?_
    intro _ _ hq
    rw [hq.1, hq.2]
    show mGo w kX9_laysBad 0 0 58 [some (va_rf v0), some (.int v1), some (.int v2), some (.int v3)] [.int x7] h Q
    refine mGo.if_ne (tgt := 64) (n := 61) dX9_laysBad_58 (by decide) rfl (fun hc => ?_) (fun hc => ?_)
    · replace e := mIff hc e
      refine mGo.aload_n (n := 65) (r := v0) dX9_laysBad_64 rfl rfl ?_
      obtain ⟨x8, e_x8, e⟩ := mBind e
      refine mGo.getI (n := 68) dX9_laysBad_65 sf_RX9_199 e_x8 rfl ?_
      refine mGo.if_ne (tgt := 81) (n := 71) dX9_laysBad_68 (by decide) rfl (fun hc => ?_) (fun hc => ?_)
      · replace e := mIff hc e
        refine mGo.mk [true, true, true, true] ?_
        exact g_X9_laysBad_c81 v0 v1 v2 v3 h e q
      · replace e := mIft hc e
        refine mGo.aload_n (n := 72) (r := v0) dX9_laysBad_71 rfl rfl ?_
        refine mGo.bipush (n := 74) (v := (28 : Int32)) dX9_laysBad_72 (by decide) rfl ?_
        refine mGo.iload_n (n := 75) (x := v2) dX9_laysBad_74 rfl rfl ?_
        refine mGo.imul (n := 76) dX9_laysBad_75 rfl ?_
        refine mGo.iload_n (n := 77) (x := v3) dX9_laysBad_76 rfl rfl ?_
        refine mGo.iadd (n := 78) dX9_laysBad_77 rfl ?_
        obtain ⟨h9, e_h9, e⟩ := mBind e
        refine mGo.putI (n := 81) dX9_laysBad_78 sf_RX9_202 rfl rfl e_h9 rfl ?_
        refine mGo.mk [true, true, true, true] ?_
        exact g_X9_laysBad_c81 v0 v1 v2 v3 h9 e q
    · replace e := mIft hc e
      refine mGo.goto (tgt := 91) dX9_laysBad_61 (by decide) ?_
      refine mGo.iinc (n := 94) (x := v3) (v := (v3 + 1)) (ls' := [some (va_rf v0), some (.int v1), some (.int v2), some (.int (v3 + 1))]) dX9_laysBad_91 rfl rfl rfl (Nat.le_of_ble_eq_true rfl) rfl ?_
      refine mGo.goto (tgt := 27) dX9_laysBad_94 (by decide) ?_
      cases e
      refine mGo.mk [true, true, true, true] ?_
      exact q
noncomputable def f_X9_laysBad_l27 (v0 : Option Nat) (v1 : Int32) (v2 : Int32) (v3 : Int32) (h : mH) : Option ((Int32 × mH) ⊕ (mH)) :=
  mLoop (fun x : Int32 × mH => f_X9_laysBad_b27 v0 v1 v2 x.1 x.2) (v3, h)
set_option maxRecDepth 100000 in
set_option maxHeartbeats 4000000 in
theorem g_X9_laysBad_l27 {w : mWp} {Q : Option Value → mH → Prop} (v0 : Option Nat) (v1 : Int32) (v2 : Int32) (v3 : Int32) (h : mH) {res : (Int32 × mH) ⊕ (mH)} (e : f_X9_laysBad_l27 v0 v1 v2 v3 h = some res) (q : (Sum.elim (fun x : Int32 × mH => mGo w kX9_laysBad 0 0 13 [some (va_rf v0), some (.int v1), some (.int x.1), none] [] x.2 Q) (fun r : mH => Q none r)) res) : mGo w kX9_laysBad 0 0 27 [some (va_rf v0), some (.int v1), some (.int v2), some (.int v3)] [] h Q := by
  unfold f_X9_laysBad_l27 at e
  refine mLoop_go (x := (v3, h)) (fun x : Int32 × mH => mGo w kX9_laysBad 0 0 27 [some (va_rf v0), some (.int v1), some (.int v2), some (.int x.1)] [] x.2 Q) (Sum.elim (fun x : Int32 × mH => mGo w kX9_laysBad 0 0 13 [some (va_rf v0), some (.int v1), some (.int x.1), none] [] x.2 Q) (fun r : mH => Q none r)) ?_ e q
  rintro ⟨v3, h1⟩ res e q
  exact g_X9_laysBad_b27 v0 v1 v2 v3 h1 e q
noncomputable def f_X9_laysBad_b13 (v0 : Option Nat) (v1 : Int32) (v2 : Int32) (h : mH) : Option ((Int32 × mH) ⊕ (mH)) :=
  (mGR h v0 8 1).bind fun x1 =>
  (mAI h x1 v1).bind fun x2 =>
  if x2 ≤ v2 then
    some (Sum.inr h)
  else
    f_X9_laysBad_l27 v0 v1 v2 (v2 + (1 : Int32)) h
set_option maxRecDepth 100000 in
set_option maxHeartbeats 4000000 in
theorem g_X9_laysBad_b13 {w : mWp} {Q : Option Value → mH → Prop} (v0 : Option Nat) (v1 : Int32) (v2 : Int32) (h : mH) {res : (Int32 × mH) ⊕ (mH)} (e : f_X9_laysBad_b13 v0 v1 v2 h = some res) (q : (Sum.elim (fun x : Int32 × mH => mGo w kX9_laysBad 0 0 13 [some (va_rf v0), some (.int v1), some (.int x.1), none] [] x.2 Q) (fun r : mH => Q none r)) res) : mGo w kX9_laysBad 0 0 13 [some (va_rf v0), some (.int v1), some (.int v2), none] [] h Q := by
  unfold f_X9_laysBad_b13 at e
  refine mGo.iload_n (n := 14) (x := v2) dX9_laysBad_13 rfl rfl ?_
  refine mGo.aload_n (n := 15) (r := v0) dX9_laysBad_14 rfl rfl ?_
  obtain ⟨x1, e_x1, e⟩ := mBind e
  refine mGo.getR (n := 18) dX9_laysBad_15 sf_RX9_13 e_x1 rfl ?_
  refine mGo.iload_n (n := 19) (x := v1) dX9_laysBad_18 rfl rfl ?_
  obtain ⟨x2, e_x2, e⟩ := mBind e
  refine mGo.iald (n := 20) dX9_laysBad_19 e_x2 rfl ?_
  refine mGo.icmp_ge (tgt := 103) (n := 23) dX9_laysBad_20 (by decide) rfl (fun hc => ?_) (fun hc => ?_)
  · replace e := mIft hc e
    cases e
    exact mGo.vret dX9_laysBad_103 rfl (Nat.le_of_ble_eq_true rfl) (Nat.le_of_ble_eq_true rfl) q
  · replace e := mIff hc e
    refine mGo.iload_n (n := 24) (x := v2) dX9_laysBad_23 rfl rfl ?_
    refine mGo.iconst (n := 25) (v := (1 : Int32)) dX9_laysBad_24 (by decide) rfl ?_
    refine mGo.iadd (n := 26) dX9_laysBad_25 rfl ?_
    refine mGo.istore_n (n := 27) (ls' := [some (va_rf v0), some (.int v1), some (.int v2), some (.int (v2 + (1 : Int32)))]) dX9_laysBad_26 rfl (Nat.le_of_ble_eq_true rfl) rfl ?_
    refine mGo.mk [true, true, true, true] ?_
    exact g_X9_laysBad_l27 v0 v1 v2 (v2 + (1 : Int32)) h e q
noncomputable def f_X9_laysBad_l13 (v0 : Option Nat) (v1 : Int32) (v2 : Int32) (h : mH) : Option (mH) :=
  mLoop (fun x : Int32 × mH => f_X9_laysBad_b13 v0 v1 x.1 x.2) (v2, h)
set_option maxRecDepth 100000 in
set_option maxHeartbeats 4000000 in
theorem g_X9_laysBad_l13 {w : mWp} {Q : Option Value → mH → Prop} (v0 : Option Nat) (v1 : Int32) (v2 : Int32) (h : mH) {res : mH} (e : f_X9_laysBad_l13 v0 v1 v2 h = some res) (q : (fun r : mH => Q none r) res) : mGo w kX9_laysBad 0 0 13 [some (va_rf v0), some (.int v1), some (.int v2), none] [] h Q := by
  unfold f_X9_laysBad_l13 at e
  refine mLoop_go (x := (v2, h)) (fun x : Int32 × mH => mGo w kX9_laysBad 0 0 13 [some (va_rf v0), some (.int v1), some (.int x.1), none] [] x.2 Q) (fun r : mH => Q none r) ?_ e q
  rintro ⟨v2, h1⟩ res e q
  exact g_X9_laysBad_b13 v0 v1 v2 h1 e q
noncomputable def f_X9_laysBad (v0 : Option Nat) (v1 : Int32) (h : mH) : Option (mH) :=
  (mIs h v0 8).bind fun _ =>
  (mPF h v0 8 12 (.int (0 : Int32))).bind fun h1 =>
  (mPF h1 v0 8 13 (.int (-2 : Int32))).bind fun h2 =>
  f_X9_laysBad_l13 v0 v1 (0 : Int32) h2
set_option maxRecDepth 100000 in
set_option maxHeartbeats 4000000 in
theorem g_X9_laysBad {w : mWp} {Q : Option Value → mH → Prop} (v0 : Option Nat) (v1 : Int32) (h : mH) {res : mH} (e : f_X9_laysBad v0 v1 h = some res) (q : (fun r : mH => Q none r) res) : mGo w kX9_laysBad 0 0 0 [some (va_rf v0), some (.int v1), none, none] [] h Q := by
  unfold f_X9_laysBad at e
  obtain ⟨_, _, e⟩ := mBind e
  refine mGo.aload_n (n := 1) (r := v0) dX9_laysBad_0 rfl rfl ?_
  refine mGo.iconst (n := 2) (v := (0 : Int32)) dX9_laysBad_1 (by decide) rfl ?_
  obtain ⟨h1, e_h1, e⟩ := mBind e
  refine mGo.putI (n := 5) dX9_laysBad_2 sf_RX9_199 rfl rfl e_h1 rfl ?_
  refine mGo.aload_n (n := 6) (r := v0) dX9_laysBad_5 rfl rfl ?_
  refine mGo.bipush (n := 8) (v := (-2 : Int32)) dX9_laysBad_6 (by decide) rfl ?_
  obtain ⟨h2, e_h2, e⟩ := mBind e
  refine mGo.putI (n := 11) dX9_laysBad_8 sf_RX9_202 rfl rfl e_h2 rfl ?_
  refine mGo.iconst (n := 12) (v := (0 : Int32)) dX9_laysBad_11 (by decide) rfl ?_
  refine mGo.istore_n (n := 13) (ls' := [some (va_rf v0), some (.int v1), some (.int (0 : Int32)), none]) dX9_laysBad_12 rfl (Nat.le_of_ble_eq_true rfl) rfl ?_
  refine mGo.mk [true, true, true, false] ?_
  exact g_X9_laysBad_l13 v0 v1 (0 : Int32) h2 e q
theorem e_X9_laysBad {w : mWp} (v0 : Option Nat) (v1 : Int32) (h : mH) {res : mH} (e : f_X9_laysBad v0 v1 h = some res) : mEx w zX9_laysBad (mRoom 3 0 0) [va_rf v0, .int v1] h (fun r h2 => r = none ∧ h2 = res) := by
  refine mEx.of (by decide +kernel) (show mEnt [va_rf v0, .int v1] 4 = [some (va_rf v0), some (.int v1), none, none] by rw [mEnt_r, mEnt_i] <;> rfl) (by simp only [List.map_cons, List.map_nil, mRfc, mCi, mCj, List.sum_cons, List.sum_nil]; exact Nat.le_of_ble_eq_true rfl) ?_
  refine g_X9_laysBad v0 v1 h e ?_
  exact ⟨rfl, rfl⟩
theorem s_X9_laysBad (v0 : Option Nat) (v1 : Int32) (h : mH) {res : mH} (e : f_X9_laysBad v0 v1 h = some res) : mIs h v0 8 = some () := by
  unfold f_X9_laysBad at e
  obtain ⟨u, e1, _⟩ := mBind e
  cases u
  exact e1
-- X9_isPerpendicular
def kX9_isPerpendicular : mK := (cX9_isPerpendicular, RX9, 2, some (.boolean), "isPerpendicular", mRoom 4 0 0)
def zX9_isPerpendicular : mY := (yX9_isPerpendicular, cX9_isPerpendicular, 2, some (.boolean))
set_option maxRecDepth 100000 in
theorem sc_RX9_205 : mSV RX9 205 zX9_laysBad 1 8 := ⟨Or.inl (mT_at 1088 (by decide +kernel) rfl), mT_at 1090 (by decide +kernel) rfl, mT_at 60 (by decide +kernel) rfl, mT_at 91 (by decide +kernel) rfl, mT_at 1091 (by decide +kernel) rfl, ⟨by decide +kernel, by decide +kernel, by decide +kernel⟩, by decide, rfl⟩
noncomputable def f_X9_isPerpendicular (v0 : Option Nat) (v1 : Int32) (h : mH) : Option (Int32 × mH) :=
  (mIs h v0 8).bind fun _ =>
  (f_X9_laysBad v0 v1 h).bind fun x1 =>
  (mGI x1 v0 8 12).bind fun x2 =>
  if x2 = 0 then
    some ((1 : Int32), x1)
  else
    some ((0 : Int32), x1)
set_option maxRecDepth 100000 in
set_option maxHeartbeats 4000000 in
theorem g_X9_isPerpendicular {w : mWp} {Q : Option Value → mH → Prop} (v0 : Option Nat) (v1 : Int32) (h : mH) {res : Int32 × mH} (e : f_X9_isPerpendicular v0 v1 h = some res) (q : (fun r : Int32 × mH => Q (some (.int r.1)) r.2) res) : mGo w kX9_isPerpendicular 0 0 0 [some (va_rf v0), some (.int v1)] [] h Q := by
  unfold f_X9_isPerpendicular at e
  obtain ⟨_, _, e⟩ := mBind e
  refine mGo.aload_n (n := 1) (r := v0) dX9_isPerpendicular_0 rfl rfl ?_
  refine mGo.iload_n (n := 2) (x := v1) dX9_isPerpendicular_1 rfl rfl ?_
  obtain ⟨x1, e_x1, e⟩ := mBind e
  refine mGo.callV (n := 5) (y := zX9_laysBad) (R' := (mRoom (3) 0 0)) (as := [.int v1]) (st := []) (r0 := v0) dX9_isPerpendicular_2 sc_RX9_205 rfl (s_X9_laysBad v0 v1 h e_x1) (e_X9_laysBad v0 v1 h e_x1) (mFit_of rfl (Nat.le_of_ble_eq_true rfl) (by decide) (Nat.le_of_ble_eq_true rfl) (Nat.le_of_ble_eq_true rfl)) (Nat.le_of_ble_eq_true rfl) rfl rfl ?_
  intro _ _ hq
  rw [hq.1, hq.2]
  show mGo w kX9_isPerpendicular 0 0 5 [some (va_rf v0), some (.int v1)] [] x1 Q
  refine mGo.aload_n (n := 6) (r := v0) dX9_isPerpendicular_5 rfl rfl ?_
  obtain ⟨x2, e_x2, e⟩ := mBind e
  refine mGo.getI (n := 9) dX9_isPerpendicular_6 sf_RX9_199 e_x2 rfl ?_
  refine mGo.if_ne (tgt := 16) (n := 12) dX9_isPerpendicular_9 (by decide) rfl (fun hc => ?_) (fun hc => ?_)
  · replace e := mIff hc e
    refine mGo.iconst (n := 17) (v := (0 : Int32)) dX9_isPerpendicular_16 (by decide) rfl ?_
    cases e
    exact mGo.zret dX9_isPerpendicular_17 rfl (by decide) (Nat.le_of_ble_eq_true rfl) (Nat.le_of_ble_eq_true rfl) q
  · replace e := mIft hc e
    refine mGo.iconst (n := 13) (v := (1 : Int32)) dX9_isPerpendicular_12 (by decide) rfl ?_
    refine mGo.goto (tgt := 17) dX9_isPerpendicular_13 (by decide) ?_
    cases e
    exact mGo.zret dX9_isPerpendicular_17 rfl (by decide) (Nat.le_of_ble_eq_true rfl) (Nat.le_of_ble_eq_true rfl) q
theorem e_X9_isPerpendicular {w : mWp} (v0 : Option Nat) (v1 : Int32) (h : mH) {res : Int32 × mH} (e : f_X9_isPerpendicular v0 v1 h = some res) : mEx w zX9_isPerpendicular (mRoom 4 0 0) [va_rf v0, .int v1] h (fun r h2 => r = some (.int res.1) ∧ h2 = res.2) := by
  refine mEx.of (by decide +kernel) (show mEnt [va_rf v0, .int v1] 2 = [some (va_rf v0), some (.int v1)] by rw [mEnt_r, mEnt_i] <;> rfl) (by simp only [List.map_cons, List.map_nil, mRfc, mCi, mCj, List.sum_cons, List.sum_nil]; exact Nat.le_of_ble_eq_true rfl) ?_
  refine g_X9_isPerpendicular v0 v1 h e ?_
  exact ⟨rfl, rfl⟩
theorem s_X9_isPerpendicular (v0 : Option Nat) (v1 : Int32) (h : mH) {res : Int32 × mH} (e : f_X9_isPerpendicular v0 v1 h = some res) : mIs h v0 8 = some () := by
  unfold f_X9_isPerpendicular at e
  obtain ⟨u, e1, _⟩ := mBind e
  cases u
  exact e1
-- X9_perpendicular
def kX9_perpendicular : mK := (cX9_perpendicular, RX9, 3, some (.int), "perpendicular", mRoom 4 0 0)
def zX9_perpendicular : mY := (yX9_perpendicular, cX9_perpendicular, 3, some (.int))
noncomputable def f_X9_perpendicular (v0 : Option Nat) (v1 : Int32) (v2 : Int32) (h : mH) : Option (Int32 × mH) :=
  (mIs h v0 8).bind fun _ =>
  (f_X9_isTable v0 v1 h).bind fun x1 =>
  if x1 = 0 then
    some ((-1 : Int32), h)
  else
    (f_X9_in v2 (0 : Int32) (2 : Int32)).bind fun x2 =>
    if x2 = 0 then
      some ((-1 : Int32), h)
    else
      (f_X9_laysBad v0 v1 h).bind fun x3 =>
      if v2 = 0 then
        (mGI x3 v0 8 12).bind fun x6 =>
        if x6 = 0 then
          some ((1 : Int32), x3)
        else
          some ((0 : Int32), x3)
      else
        if v2 = (1 : Int32) then
          (mGI x3 v0 8 13).bind fun x5 =>
          some (x5, x3)
        else
          (mGI x3 v0 8 12).bind fun x4 =>
          some (x4, x3)
set_option maxRecDepth 100000 in
set_option maxHeartbeats 4000000 in
theorem g_X9_perpendicular {w : mWp} {Q : Option Value → mH → Prop} (v0 : Option Nat) (v1 : Int32) (v2 : Int32) (h : mH) {res : Int32 × mH} (e : f_X9_perpendicular v0 v1 v2 h = some res) (q : (fun r : Int32 × mH => Q (some (.int r.1)) r.2) res) : mGo w kX9_perpendicular 0 0 0 [some (va_rf v0), some (.int v1), some (.int v2)] [] h Q := by
  unfold f_X9_perpendicular at e
  obtain ⟨_, _, e⟩ := mBind e
  refine mGo.aload_n (n := 1) (r := v0) dX9_perpendicular_0 rfl rfl ?_
  refine mGo.iload_n (n := 2) (x := v1) dX9_perpendicular_1 rfl rfl ?_
  obtain ⟨x1, e_x1, e⟩ := mBind e
  refine mGo.callV (n := 5) (y := zX9_isTable) (R' := (mRoom (2) 0 0)) (as := [.int v1]) (st := []) (r0 := v0) dX9_perpendicular_2 sc_RX9_86 rfl (s_X9_isTable v0 v1 h e_x1) (e_X9_isTable v0 v1 h e_x1) (mFit_of rfl (Nat.le_of_ble_eq_true rfl) (by decide) (Nat.le_of_ble_eq_true rfl) (Nat.le_of_ble_eq_true rfl)) (Nat.le_of_ble_eq_true rfl) rfl rfl ?_
  intro _ _ hq
  rw [hq.1, hq.2]
  show mGo w kX9_perpendicular 0 0 5 [some (va_rf v0), some (.int v1), some (.int v2)] [.int x1] h Q
  refine mGo.if_eq (tgt := 17) (n := 8) dX9_perpendicular_5 (by decide) rfl (fun hc => ?_) (fun hc => ?_)
  · replace e := mIft hc e
    refine mGo.iconst (n := 18) (v := (-1 : Int32)) dX9_perpendicular_17 (by decide) rfl ?_
    cases e
    exact mGo.iret dX9_perpendicular_18 rfl (Nat.le_of_ble_eq_true rfl) (Nat.le_of_ble_eq_true rfl) q
  · replace e := mIff hc e
    refine mGo.iload_n (n := 9) (x := v2) dX9_perpendicular_8 rfl rfl ?_
    refine mGo.iconst (n := 10) (v := (0 : Int32)) dX9_perpendicular_9 (by decide) rfl ?_
    refine mGo.iconst (n := 11) (v := (2 : Int32)) dX9_perpendicular_10 (by decide) rfl ?_
    obtain ⟨x2, e_x2, e⟩ := mBind e
    refine mGo.callS (n := 14) (y := zX9_in) (R' := (mRoom (1) 0 0)) (as := [.int v2, .int (0 : Int32), .int (2 : Int32)]) (st := []) dX9_perpendicular_11 sc_RX9_82 rfl (e_X9_in v2 (0 : Int32) (2 : Int32) h e_x2) (mFit_of rfl (Nat.le_of_ble_eq_true rfl) (by decide) (Nat.le_of_ble_eq_true rfl) (Nat.le_of_ble_eq_true rfl)) (Nat.le_of_ble_eq_true rfl) rfl rfl ?_
    intro _ _ hq
    rw [hq.1, hq.2]
    show mGo w kX9_perpendicular 0 0 14 [some (va_rf v0), some (.int v1), some (.int v2)] [.int x2] h Q
    refine mGo.if_ne (tgt := 19) (n := 17) dX9_perpendicular_14 (by decide) rfl (fun hc => ?_) (fun hc => ?_)
    · replace e := mIff hc e
      refine mGo.aload_n (n := 20) (r := v0) dX9_perpendicular_19 rfl rfl ?_
      refine mGo.iload_n (n := 21) (x := v1) dX9_perpendicular_20 rfl rfl ?_
      obtain ⟨x3, e_x3, e⟩ := mBind e
      refine mGo.callV (n := 24) (y := zX9_laysBad) (R' := (mRoom (3) 0 0)) (as := [.int v1]) (st := []) (r0 := v0) dX9_perpendicular_21 sc_RX9_205 rfl (s_X9_laysBad v0 v1 h e_x3) (e_X9_laysBad v0 v1 h e_x3) (mFit_of rfl (Nat.le_of_ble_eq_true rfl) (by decide) (Nat.le_of_ble_eq_true rfl) (Nat.le_of_ble_eq_true rfl)) (Nat.le_of_ble_eq_true rfl) rfl rfl ?_
      intro _ _ hq
      rw [hq.1, hq.2]
      show mGo w kX9_perpendicular 0 0 24 [some (va_rf v0), some (.int v1), some (.int v2)] [] x3 Q
      refine mGo.iload_n (n := 25) (x := v2) dX9_perpendicular_24 rfl rfl ?_
      refine mGo.if_ne (tgt := 43) (n := 28) dX9_perpendicular_25 (by decide) rfl (fun hc => ?_) (fun hc => ?_)
      · replace e := mIff hc e
        refine mGo.iload_n (n := 44) (x := v2) dX9_perpendicular_43 rfl rfl ?_
        refine mGo.iconst (n := 45) (v := (1 : Int32)) dX9_perpendicular_44 (by decide) rfl ?_
        refine mGo.icmp_ne (tgt := 55) (n := 48) dX9_perpendicular_45 (by decide) rfl (fun hc => ?_) (fun hc => ?_)
        · replace e := mIff hc e
          refine mGo.aload_n (n := 56) (r := v0) dX9_perpendicular_55 rfl rfl ?_
          obtain ⟨x4, e_x4, e⟩ := mBind e
          refine mGo.getI (n := 59) dX9_perpendicular_56 sf_RX9_199 e_x4 rfl ?_
          cases e
          exact mGo.iret dX9_perpendicular_59 rfl (Nat.le_of_ble_eq_true rfl) (Nat.le_of_ble_eq_true rfl) q
        · replace e := mIft hc e
          refine mGo.aload_n (n := 49) (r := v0) dX9_perpendicular_48 rfl rfl ?_
          obtain ⟨x5, e_x5, e⟩ := mBind e
          refine mGo.getI (n := 52) dX9_perpendicular_49 sf_RX9_202 e_x5 rfl ?_
          refine mGo.goto (tgt := 59) dX9_perpendicular_52 (by decide) ?_
          cases e
          exact mGo.iret dX9_perpendicular_59 rfl (Nat.le_of_ble_eq_true rfl) (Nat.le_of_ble_eq_true rfl) q
      · replace e := mIft hc e
        refine mGo.aload_n (n := 29) (r := v0) dX9_perpendicular_28 rfl rfl ?_
        obtain ⟨x6, e_x6, e⟩ := mBind e
        refine mGo.getI (n := 32) dX9_perpendicular_29 sf_RX9_199 e_x6 rfl ?_
        refine mGo.if_ne (tgt := 39) (n := 35) dX9_perpendicular_32 (by decide) rfl (fun hc => ?_) (fun hc => ?_)
        · replace e := mIff hc e
          refine mGo.iconst (n := 40) (v := (0 : Int32)) dX9_perpendicular_39 (by decide) rfl ?_
          refine mGo.goto (tgt := 59) dX9_perpendicular_40 (by decide) ?_
          cases e
          exact mGo.iret dX9_perpendicular_59 rfl (Nat.le_of_ble_eq_true rfl) (Nat.le_of_ble_eq_true rfl) q
        · replace e := mIft hc e
          refine mGo.iconst (n := 36) (v := (1 : Int32)) dX9_perpendicular_35 (by decide) rfl ?_
          refine mGo.goto (tgt := 59) dX9_perpendicular_36 (by decide) ?_
          cases e
          exact mGo.iret dX9_perpendicular_59 rfl (Nat.le_of_ble_eq_true rfl) (Nat.le_of_ble_eq_true rfl) q
    · replace e := mIft hc e
      refine mGo.iconst (n := 18) (v := (-1 : Int32)) dX9_perpendicular_17 (by decide) rfl ?_
      cases e
      exact mGo.iret dX9_perpendicular_18 rfl (Nat.le_of_ble_eq_true rfl) (Nat.le_of_ble_eq_true rfl) q
theorem e_X9_perpendicular {w : mWp} (v0 : Option Nat) (v1 : Int32) (v2 : Int32) (h : mH) {res : Int32 × mH} (e : f_X9_perpendicular v0 v1 v2 h = some res) : mEx w zX9_perpendicular (mRoom 4 0 0) [va_rf v0, .int v1, .int v2] h (fun r h2 => r = some (.int res.1) ∧ h2 = res.2) := by
  refine mEx.of (by decide +kernel) (show mEnt [va_rf v0, .int v1, .int v2] 3 = [some (va_rf v0), some (.int v1), some (.int v2)] by rw [mEnt_r, mEnt_i, mEnt_i] <;> rfl) (by simp only [List.map_cons, List.map_nil, mRfc, mCi, mCj, List.sum_cons, List.sum_nil]; exact Nat.le_of_ble_eq_true rfl) ?_
  refine g_X9_perpendicular v0 v1 v2 h e ?_
  exact ⟨rfl, rfl⟩
theorem s_X9_perpendicular (v0 : Option Nat) (v1 : Int32) (v2 : Int32) (h : mH) {res : Int32 × mH} (e : f_X9_perpendicular v0 v1 v2 h = some res) : mIs h v0 8 = some () := by
  unfold f_X9_perpendicular at e
  obtain ⟨u, e1, _⟩ := mBind e
  cases u
  exact e1
-- X9_sum
def kX9_sum : mK := (cX9_sum, RX9, 4, some (.int), "sum", mRoom 3 0 0)
def zX9_sum : mY := (yX9_sum, cX9_sum, 4, some (.int))
def f_X9_sum_b16 (v0 : Option Nat) (v1 : Int32) (v2 : Int32) (v3 : Int32) (h : mH) : Option ((Int32 × Int32) ⊕ (Int32)) :=
  (mGR h v0 8 1).bind fun x1 =>
  (mAI h x1 v1).bind fun x2 =>
  if x2 ≤ v3 then
    some (Sum.inr v2)
  else
    (f_X9_rowOf v0 v1 v3 h).bind fun x3 =>
    (mGR h v0 8 1).bind fun x4 =>
    (mAI h x4 v1).bind fun x5 =>
    (f_X9_sumOf x3 (0 : Int32) x5).bind fun x6 =>
    some (Sum.inl ((v2 + x6), (v3 + 1)))
set_option maxRecDepth 100000 in
set_option maxHeartbeats 4000000 in
theorem g_X9_sum_b16 {w : mWp} {Q : Option Value → mH → Prop} (v0 : Option Nat) (v1 : Int32) (v2 : Int32) (v3 : Int32) (h : mH) {res : (Int32 × Int32) ⊕ (Int32)} (e : f_X9_sum_b16 v0 v1 v2 v3 h = some res) (q : (Sum.elim (fun x : Int32 × Int32 => mGo w kX9_sum 0 0 16 [some (va_rf v0), some (.int v1), some (.int x.1), some (.int x.2)] [] h Q) (fun r : Int32 => Q (some (.int r)) h)) res) : mGo w kX9_sum 0 0 16 [some (va_rf v0), some (.int v1), some (.int v2), some (.int v3)] [] h Q := by
  unfold f_X9_sum_b16 at e
  refine mGo.iload_n (n := 17) (x := v3) dX9_sum_16 rfl rfl ?_
  refine mGo.aload_n (n := 18) (r := v0) dX9_sum_17 rfl rfl ?_
  obtain ⟨x1, e_x1, e⟩ := mBind e
  refine mGo.getR (n := 21) dX9_sum_18 sf_RX9_13 e_x1 rfl ?_
  refine mGo.iload_n (n := 22) (x := v1) dX9_sum_21 rfl rfl ?_
  obtain ⟨x2, e_x2, e⟩ := mBind e
  refine mGo.iald (n := 23) dX9_sum_22 e_x2 rfl ?_
  refine mGo.icmp_ge (tgt := 51) (n := 26) dX9_sum_23 (by decide) rfl (fun hc => ?_) (fun hc => ?_)
  · replace e := mIft hc e
    refine mGo.iload_n (n := 52) (x := v2) dX9_sum_51 rfl rfl ?_
    cases e
    exact mGo.iret dX9_sum_52 rfl (Nat.le_of_ble_eq_true rfl) (Nat.le_of_ble_eq_true rfl) q
  · replace e := mIff hc e
    refine mGo.iload_n (n := 27) (x := v2) dX9_sum_26 rfl rfl ?_
    refine mGo.aload_n (n := 28) (r := v0) dX9_sum_27 rfl rfl ?_
    refine mGo.iload_n (n := 29) (x := v1) dX9_sum_28 rfl rfl ?_
    refine mGo.iload_n (n := 30) (x := v3) dX9_sum_29 rfl rfl ?_
    obtain ⟨x3, e_x3, e⟩ := mBind e
    refine mGo.callV (n := 33) (y := zX9_rowOf) (R' := (mRoom (1) 0 0)) (as := [.int v1, .int v3]) (st := [.int v2]) (r0 := v0) dX9_sum_30 sc_RX9_90 rfl (s_X9_rowOf v0 v1 v3 h e_x3) (e_X9_rowOf v0 v1 v3 h e_x3) (mFit_of rfl (Nat.le_of_ble_eq_true rfl) (by decide) (Nat.le_of_ble_eq_true rfl) (Nat.le_of_ble_eq_true rfl)) (Nat.le_of_ble_eq_true rfl) rfl rfl ?_
    intro _ _ hq
    rw [hq.1, hq.2]
    show mGo w kX9_sum 0 0 33 [some (va_rf v0), some (.int v1), some (.int v2), some (.int v3)] [.int x3, .int v2] h Q
    refine mGo.iconst (n := 34) (v := (0 : Int32)) dX9_sum_33 (by decide) rfl ?_
    refine mGo.aload_n (n := 35) (r := v0) dX9_sum_34 rfl rfl ?_
    obtain ⟨x4, e_x4, e⟩ := mBind e
    refine mGo.getR (n := 38) dX9_sum_35 sf_RX9_13 e_x4 rfl ?_
    refine mGo.iload_n (n := 39) (x := v1) dX9_sum_38 rfl rfl ?_
    obtain ⟨x5, e_x5, e⟩ := mBind e
    refine mGo.iald (n := 40) dX9_sum_39 e_x5 rfl ?_
    obtain ⟨x6, e_x6, e⟩ := mBind e
    refine mGo.callS (n := 43) (y := zX9_sumOf) (R' := (mRoom (2) 0 0)) (as := [.int x3, .int (0 : Int32), .int x5]) (st := [.int v2]) dX9_sum_40 sc_RX9_169 rfl (e_X9_sumOf x3 (0 : Int32) x5 h e_x6) (mFit_of rfl (Nat.le_of_ble_eq_true rfl) (by decide) (Nat.le_of_ble_eq_true rfl) (Nat.le_of_ble_eq_true rfl)) (Nat.le_of_ble_eq_true rfl) rfl rfl ?_
    intro _ _ hq
    rw [hq.1, hq.2]
    show mGo w kX9_sum 0 0 43 [some (va_rf v0), some (.int v1), some (.int v2), some (.int v3)] [.int x6, .int v2] h Q
    refine mGo.iadd (n := 44) dX9_sum_43 rfl ?_
    refine mGo.istore_n (n := 45) (ls' := [some (va_rf v0), some (.int v1), some (.int (v2 + x6)), some (.int v3)]) dX9_sum_44 rfl (Nat.le_of_ble_eq_true rfl) rfl ?_
    refine mGo.iinc (n := 48) (x := v3) (v := (v3 + 1)) (ls' := [some (va_rf v0), some (.int v1), some (.int (v2 + x6)), some (.int (v3 + 1))]) dX9_sum_45 rfl rfl rfl (Nat.le_of_ble_eq_true rfl) rfl ?_
    refine mGo.goto (tgt := 16) dX9_sum_48 (by decide) ?_
    cases e
    refine mGo.mk [true, true, true, true] ?_
    exact q
noncomputable def f_X9_sum_l16 (v0 : Option Nat) (v1 : Int32) (v2 : Int32) (v3 : Int32) (h : mH) : Option (Int32) :=
  mLoop (fun x : Int32 × Int32 => f_X9_sum_b16 v0 v1 x.1 x.2 h) (v2, v3)
set_option maxRecDepth 100000 in
set_option maxHeartbeats 4000000 in
theorem g_X9_sum_l16 {w : mWp} {Q : Option Value → mH → Prop} (v0 : Option Nat) (v1 : Int32) (v2 : Int32) (v3 : Int32) (h : mH) {res : Int32} (e : f_X9_sum_l16 v0 v1 v2 v3 h = some res) (q : (fun r : Int32 => Q (some (.int r)) h) res) : mGo w kX9_sum 0 0 16 [some (va_rf v0), some (.int v1), some (.int v2), some (.int v3)] [] h Q := by
  unfold f_X9_sum_l16 at e
  refine mLoop_go (x := (v2, v3)) (fun x : Int32 × Int32 => mGo w kX9_sum 0 0 16 [some (va_rf v0), some (.int v1), some (.int x.1), some (.int x.2)] [] h Q) (fun r : Int32 => Q (some (.int r)) h) ?_ e q
  rintro ⟨v2, v3⟩ res e q
  exact g_X9_sum_b16 v0 v1 v2 v3 h e q
noncomputable def f_X9_sum (v0 : Option Nat) (v1 : Int32) (h : mH) : Option (Int32) :=
  (mIs h v0 8).bind fun _ =>
  (f_X9_isTable v0 v1 h).bind fun x1 =>
  if x1 = 0 then
    some (-1000 : Int32)
  else
    f_X9_sum_l16 v0 v1 (0 : Int32) (0 : Int32) h
set_option maxRecDepth 100000 in
set_option maxHeartbeats 4000000 in
theorem g_X9_sum {w : mWp} {Q : Option Value → mH → Prop} (v0 : Option Nat) (v1 : Int32) (h : mH) {res : Int32} (e : f_X9_sum v0 v1 h = some res) (q : (fun r : Int32 => Q (some (.int r)) h) res) : mGo w kX9_sum 0 0 0 [some (va_rf v0), some (.int v1), none, none] [] h Q := by
  unfold f_X9_sum at e
  obtain ⟨_, _, e⟩ := mBind e
  refine mGo.aload_n (n := 1) (r := v0) dX9_sum_0 rfl rfl ?_
  refine mGo.iload_n (n := 2) (x := v1) dX9_sum_1 rfl rfl ?_
  obtain ⟨x1, e_x1, e⟩ := mBind e
  refine mGo.callV (n := 5) (y := zX9_isTable) (R' := (mRoom (2) 0 0)) (as := [.int v1]) (st := []) (r0 := v0) dX9_sum_2 sc_RX9_86 rfl (s_X9_isTable v0 v1 h e_x1) (e_X9_isTable v0 v1 h e_x1) (mFit_of rfl (Nat.le_of_ble_eq_true rfl) (by decide) (Nat.le_of_ble_eq_true rfl) (Nat.le_of_ble_eq_true rfl)) (Nat.le_of_ble_eq_true rfl) rfl rfl ?_
  intro _ _ hq
  rw [hq.1, hq.2]
  show mGo w kX9_sum 0 0 5 [some (va_rf v0), some (.int v1), none, none] [.int x1] h Q
  refine mGo.if_ne (tgt := 12) (n := 8) dX9_sum_5 (by decide) rfl (fun hc => ?_) (fun hc => ?_)
  · replace e := mIff hc e
    refine mGo.iconst (n := 13) (v := (0 : Int32)) dX9_sum_12 (by decide) rfl ?_
    refine mGo.istore_n (n := 14) (ls' := [some (va_rf v0), some (.int v1), some (.int (0 : Int32)), none]) dX9_sum_13 rfl (Nat.le_of_ble_eq_true rfl) rfl ?_
    refine mGo.iconst (n := 15) (v := (0 : Int32)) dX9_sum_14 (by decide) rfl ?_
    refine mGo.istore_n (n := 16) (ls' := [some (va_rf v0), some (.int v1), some (.int (0 : Int32)), some (.int (0 : Int32))]) dX9_sum_15 rfl (Nat.le_of_ble_eq_true rfl) rfl ?_
    refine mGo.mk [true, true, true, true] ?_
    exact g_X9_sum_l16 v0 v1 (0 : Int32) (0 : Int32) h e q
  · replace e := mIft hc e
    refine mGo.sipush (n := 11) (v := (-1000 : Int32)) dX9_sum_8 (by decide) rfl ?_
    cases e
    exact mGo.iret dX9_sum_11 rfl (Nat.le_of_ble_eq_true rfl) (Nat.le_of_ble_eq_true rfl) q
theorem e_X9_sum {w : mWp} (v0 : Option Nat) (v1 : Int32) (h : mH) {res : Int32} (e : f_X9_sum v0 v1 h = some res) : mEx w zX9_sum (mRoom 3 0 0) [va_rf v0, .int v1] h (fun r h2 => r = some (.int res) ∧ h2 = h) := by
  refine mEx.of (by decide +kernel) (show mEnt [va_rf v0, .int v1] 4 = [some (va_rf v0), some (.int v1), none, none] by rw [mEnt_r, mEnt_i] <;> rfl) (by simp only [List.map_cons, List.map_nil, mRfc, mCi, mCj, List.sum_cons, List.sum_nil]; exact Nat.le_of_ble_eq_true rfl) ?_
  refine g_X9_sum v0 v1 h e ?_
  exact ⟨rfl, rfl⟩
theorem s_X9_sum (v0 : Option Nat) (v1 : Int32) (h : mH) {res : Int32} (e : f_X9_sum v0 v1 h = some res) : mIs h v0 8 = some () := by
  unfold f_X9_sum at e
  obtain ⟨u, e1, _⟩ := mBind e
  cases u
  exact e1
