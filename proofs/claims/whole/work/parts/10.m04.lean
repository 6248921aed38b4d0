-- X8_residues
def kX8_residues : mK := (cX8_residues, RX8, 7, some (.int), "residues", mRoom 5 0 0)
def zX8_residues : mY := (yX8_residues, cX8_residues, 7, some (.int))
set_option maxRecDepth 100000 in
theorem sc_RX8_85 : mSS RX8 85 zX2_prime 1 := ⟨Or.inr ⟨_, mNest_at 263 (x := Cond.methodLinkNest RX8 85 yX2_prime "SignTables") (by decide +kernel) rfl⟩, mT_at 346 (by decide +kernel) rfl, mT_at 93 (by decide +kernel) rfl, mT_at 347 (by decide +kernel) rfl, ⟨by decide +kernel, by decide +kernel, by decide +kernel⟩⟩
set_option maxRecDepth 100000 in
theorem sc_RX8_91 : mSV RX8 91 zX7_begin 1 6 := ⟨Or.inr ⟨_, mNest_at 266 (x := Cond.methodLinkNest RX8 91 yX7_begin "SignTables") (by decide +kernel) rfl⟩, mT_at 332 (by decide +kernel) rfl, mT_at 3 (by decide +kernel) rfl, mT_at 84 (by decide +kernel) rfl, mT_at 333 (by decide +kernel) rfl, ⟨by decide +kernel, by decide +kernel, by decide +kernel⟩, by decide, rfl⟩
set_option maxRecDepth 100000 in
theorem sc_RX8_95 : mSS RX8 95 zX2_squares 1 := ⟨Or.inr ⟨_, mNest_at 267 (x := Cond.methodLinkNest RX8 95 yX2_squares "SignTables") (by decide +kernel) rfl⟩, mT_at 350 (by decide +kernel) rfl, mT_at 93 (by decide +kernel) rfl, mT_at 351 (by decide +kernel) rfl, ⟨by decide +kernel, by decide +kernel, by decide +kernel⟩⟩
set_option maxRecDepth 100000 in
theorem sc_RX8_98 : mSV RX8 98 zX7_setMinus 2 6 := ⟨Or.inr ⟨_, mNest_at 280 (x := Cond.methodLinkNest RX8 98 yX7_setMinus "SignTables") (by decide +kernel) rfl⟩, mT_at 364 (by decide +kernel) rfl, mT_at 5 (by decide +kernel) rfl, mT_at 84 (by decide +kernel) rfl, mT_at 365 (by decide +kernel) rfl, ⟨by decide +kernel, by decide +kernel, by decide +kernel⟩, by decide, rfl⟩
set_option maxRecDepth 100000 in
theorem sc_RX8_102 : mSS RX8 102 zX2_difference 3 := ⟨Or.inr ⟨_, mNest_at 284 (x := Cond.methodLinkNest RX8 102 yX2_difference "SignTables") (by decide +kernel) rfl⟩, mT_at 367 (by decide +kernel) rfl, mT_at 93 (by decide +kernel) rfl, mT_at 368 (by decide +kernel) rfl, ⟨by decide +kernel, by decide +kernel, by decide +kernel⟩⟩
def f_X8_residues_b65 (v1 : Int32) (v2 : Int32) (v3 : Option Nat) (v4 : Int32) (v5 : Int32) (v6 : Int32) (h : mH) : Option ((Int32 × mH) ⊕ ((Int32 × mH) ⊕ (Int32 × mH))) :=
  if v1 < v6 then
    some (Sum.inr (Sum.inl ((v5 + 1), h)))
  else
    if v6 = v5 then
      some (Sum.inl ((v6 + 1), h))
    else
      (f_X2_difference v1 (v6 - (1 : Int32)) (v5 - (1 : Int32))).bind fun x1 =>
      (f_X8_inSet v4 x1).bind fun x2 =>
      if x2 = 0 then
        (f_X7_setMinus v3 v5 v6 h).bind fun x3 =>
        some (Sum.inl ((v6 + 1), x3))
      else
        some (Sum.inl ((v6 + 1), h))
set_option maxRecDepth 100000 in
set_option maxHeartbeats 4000000 in
theorem g_X8_residues_b65 {w : mWp} {Q : Option Value → mH → Prop} (v1 : Int32) (v2 : Int32) (v3 : Option Nat) (v4 : Int32) (v5 : Int32) (v6 : Int32) (h : mH) {res : (Int32 × mH) ⊕ ((Int32 × mH) ⊕ (Int32 × mH))} (e : f_X8_residues_b65 v1 v2 v3 v4 v5 v6 h = some res) (q : (Sum.elim (fun x : Int32 × mH => mGo w kX8_residues 0 0 65 [none, some (.int v1), some (.int v2), some (va_rf v3), some (.int v4), some (.int v5), some (.int x.1)] [] x.2 Q) (Sum.elim (fun x : Int32 × mH => mGo w kX8_residues 0 0 49 [none, some (.int v1), some (.int v2), some (va_rf v3), some (.int v4), some (.int x.1), none] [] x.2 Q) (fun r : Int32 × mH => Q (some (.int r.1)) r.2))) res) : mGo w kX8_residues 0 0 65 [none, some (.int v1), some (.int v2), some (va_rf v3), some (.int v4), some (.int v5), some (.int v6)] [] h Q := by
  unfold f_X8_residues_b65 at e
  refine mGo.iload (n := 67) (x := v6) dX8_residues_65 rfl rfl ?_
  refine mGo.iload_n (n := 68) (x := v1) dX8_residues_67 rfl rfl ?_
  refine mGo.icmp_gt (tgt := 112) (n := 71) dX8_residues_68 (by decide) rfl (fun hc => ?_) (fun hc => ?_)
  · replace e := mIft hc e
    refine mGo.iinc (n := 115) (x := v5) (v := (v5 + 1)) (ls' := [none, some (.int v1), some (.int v2), some (va_rf v3), some (.int v4), some (.int (v5 + 1)), some (.int v6)]) dX8_residues_112 rfl rfl rfl (Nat.le_of_ble_eq_true rfl) rfl ?_
    refine mGo.goto (tgt := 49) dX8_residues_115 (by decide) ?_
    cases e
    refine mGo.mk [false, true, true, true, true, true, false] ?_
    exact q
  · replace e := mIff hc e
    refine mGo.iload (n := 73) (x := v6) dX8_residues_71 rfl rfl ?_
    refine mGo.iload (n := 75) (x := v5) dX8_residues_73 rfl rfl ?_
    refine mGo.icmp_eq (tgt := 106) (n := 78) dX8_residues_75 (by decide) rfl (fun hc => ?_) (fun hc => ?_)
    · replace e := mIft hc e
      refine mGo.iinc (n := 109) (x := v6) (v := (v6 + 1)) (ls' := [none, some (.int v1), some (.int v2), some (va_rf v3), some (.int v4), some (.int v5), some (.int (v6 + 1))]) dX8_residues_106 rfl rfl rfl (Nat.le_of_ble_eq_true rfl) rfl ?_
      refine mGo.goto (tgt := 65) dX8_residues_109 (by decide) ?_
      cases e
      refine mGo.mk [false, true, true, true, true, true, true] ?_
      exact q
    · replace e := mIff hc e
      refine mGo.iload (n := 80) (x := v4) dX8_residues_78 rfl rfl ?_
      refine mGo.iload_n (n := 81) (x := v1) dX8_residues_80 rfl rfl ?_
      refine mGo.iload (n := 83) (x := v6) dX8_residues_81 rfl rfl ?_
      refine mGo.iconst (n := 84) (v := (1 : Int32)) dX8_residues_83 (by decide) rfl ?_
      refine mGo.isub (n := 85) dX8_residues_84 rfl ?_
      refine mGo.iload (n := 87) (x := v5) dX8_residues_85 rfl rfl ?_
      refine mGo.iconst (n := 88) (v := (1 : Int32)) dX8_residues_87 (by decide) rfl ?_
      refine mGo.isub (n := 89) dX8_residues_88 rfl ?_
      obtain ⟨x1, e_x1, e⟩ := mBind e
      refine mGo.callS (n := 92) (y := zX2_difference) (R' := (mRoom (3) 0 0)) (as := [.int v1, .int (v6 - (1 : Int32)), .int (v5 - (1 : Int32))]) (st := [.int v4]) dX8_residues_89 sc_RX8_102 rfl (e_X2_difference v1 (v6 - (1 : Int32)) (v5 - (1 : Int32)) h e_x1) (mFit_of rfl (Nat.le_of_ble_eq_true rfl) (by decide) (Nat.le_of_ble_eq_true rfl) (Nat.le_of_ble_eq_true rfl)) (Nat.le_of_ble_eq_true rfl) rfl rfl ?_
      intro _ _ hq
      rw [hq.1, hq.2]
      show mGo w kX8_residues 0 0 92 [none, some (.int v1), some (.int v2), some (va_rf v3), some (.int v4), some (.int v5), some (.int v6)] [.int x1, .int v4] h Q
      obtain ⟨x2, e_x2, e⟩ := mBind e
      refine mGo.callS (n := 95) (y := zX8_inSet) (R' := (mRoom (1) 0 0)) (as := [.int v4, .int x1]) (st := []) dX8_residues_92 sc_RX8_106 rfl (e_X8_inSet v4 x1 h e_x2) (mFit_of rfl (Nat.le_of_ble_eq_true rfl) (by decide) (Nat.le_of_ble_eq_true rfl) (Nat.le_of_ble_eq_true rfl)) (Nat.le_of_ble_eq_true rfl) rfl rfl ?_
      intro _ _ hq
      rw [hq.1, hq.2]
      show mGo w kX8_residues 0 0 95 [none, some (.int v1), some (.int v2), some (va_rf v3), some (.int v4), some (.int v5), some (.int v6)] [.int x2] h Q
      refine mGo.if_ne (tgt := 106) (n := 98) dX8_residues_95 (by decide) rfl (fun hc => ?_) (fun hc => ?_)
      · replace e := mIff hc e
        refine mGo.iinc (n := 109) (x := v6) (v := (v6 + 1)) (ls' := [none, some (.int v1), some (.int v2), some (va_rf v3), some (.int v4), some (.int v5), some (.int (v6 + 1))]) dX8_residues_106 rfl rfl rfl (Nat.le_of_ble_eq_true rfl) rfl ?_
        refine mGo.goto (tgt := 65) dX8_residues_109 (by decide) ?_
        cases e
        refine mGo.mk [false, true, true, true, true, true, true] ?_
        exact q
      · replace e := mIft hc e
        refine mGo.aload_n (n := 99) (r := v3) dX8_residues_98 rfl rfl ?_
        refine mGo.iload (n := 101) (x := v5) dX8_residues_99 rfl rfl ?_
        refine mGo.iload (n := 103) (x := v6) dX8_residues_101 rfl rfl ?_
        obtain ⟨x3, e_x3, e⟩ := mBind e
        refine mGo.callV (n := 106) (y := zX7_setMinus) (R' := (mRoom (1) 0 0)) (as := [.int v5, .int v6]) (st := []) (r0 := v3) dX8_residues_103 sc_RX8_98 rfl (s_X7_setMinus v3 v5 v6 h e_x3) (e_X7_setMinus v3 v5 v6 h e_x3) (mFit_of rfl (Nat.le_of_ble_eq_true rfl) (by decide) (Nat.le_of_ble_eq_true rfl) (Nat.le_of_ble_eq_true rfl)) (Nat.le_of_ble_eq_true rfl) rfl rfl ?_
        intro _ _ hq
        rw [hq.1, hq.2]
        show mGo w kX8_residues 0 0 106 [none, some (.int v1), some (.int v2), some (va_rf v3), some (.int v4), some (.int v5), some (.int v6)] [] x3 Q
        refine mGo.iinc (n := 109) (x := v6) (v := (v6 + 1)) (ls' := [none, some (.int v1), some (.int v2), some (va_rf v3), some (.int v4), some (.int v5), some (.int (v6 + 1))]) dX8_residues_106 rfl rfl rfl (Nat.le_of_ble_eq_true rfl) rfl ?_
        refine mGo.goto (tgt := 65) dX8_residues_109 (by decide) ?_
        cases e
        refine mGo.mk [false, true, true, true, true, true, true] ?_
        exact q
noncomputable def f_X8_residues_l65 (v1 : Int32) (v2 : Int32) (v3 : Option Nat) (v4 : Int32) (v5 : Int32) (v6 : Int32) (h : mH) : Option ((Int32 × mH) ⊕ (Int32 × mH)) :=
  mLoop (fun x : Int32 × mH => f_X8_residues_b65 v1 v2 v3 v4 v5 x.1 x.2) (v6, h)
set_option maxRecDepth 100000 in
set_option maxHeartbeats 4000000 in
theorem g_X8_residues_l65 {w : mWp} {Q : Option Value → mH → Prop} (v1 : Int32) (v2 : Int32) (v3 : Option Nat) (v4 : Int32) (v5 : Int32) (v6 : Int32) (h : mH) {res : (Int32 × mH) ⊕ (Int32 × mH)} (e : f_X8_residues_l65 v1 v2 v3 v4 v5 v6 h = some res) (q : (Sum.elim (fun x : Int32 × mH => mGo w kX8_residues 0 0 49 [none, some (.int v1), some (.int v2), some (va_rf v3), some (.int v4), some (.int x.1), none] [] x.2 Q) (fun r : Int32 × mH => Q (some (.int r.1)) r.2)) res) : mGo w kX8_residues 0 0 65 [none, some (.int v1), some (.int v2), some (va_rf v3), some (.int v4), some (.int v5), some (.int v6)] [] h Q := by
  unfold f_X8_residues_l65 at e
  refine mLoop_go (x := (v6, h)) (fun x : Int32 × mH => mGo w kX8_residues 0 0 65 [none, some (.int v1), some (.int v2), some (va_rf v3), some (.int v4), some (.int v5), some (.int x.1)] [] x.2 Q) (Sum.elim (fun x : Int32 × mH => mGo w kX8_residues 0 0 49 [none, some (.int v1), some (.int v2), some (va_rf v3), some (.int v4), some (.int x.1), none] [] x.2 Q) (fun r : Int32 × mH => Q (some (.int r.1)) r.2)) ?_ e q
  rintro ⟨v6, h1⟩ res e q
  exact g_X8_residues_b65 v1 v2 v3 v4 v5 v6 h1 e q
noncomputable def f_X8_residues_b49 (v1 : Int32) (v2 : Int32) (v3 : Option Nat) (v4 : Int32) (v5 : Int32) (h : mH) : Option ((Int32 × mH) ⊕ (Int32 × mH)) :=
  if v1 < v5 then
    some (Sum.inr (v2, h))
  else
    (f_X7_setMinus v3 v5 (0 : Int32) h).bind fun x1 =>
    f_X8_residues_l65 v1 v2 v3 v4 v5 (1 : Int32) x1
set_option maxRecDepth 100000 in
set_option maxHeartbeats 4000000 in
theorem g_X8_residues_b49 {w : mWp} {Q : Option Value → mH → Prop} (v1 : Int32) (v2 : Int32) (v3 : Option Nat) (v4 : Int32) (v5 : Int32) (h : mH) {res : (Int32 × mH) ⊕ (Int32 × mH)} (e : f_X8_residues_b49 v1 v2 v3 v4 v5 h = some res) (q : (Sum.elim (fun x : Int32 × mH => mGo w kX8_residues 0 0 49 [none, some (.int v1), some (.int v2), some (va_rf v3), some (.int v4), some (.int x.1), none] [] x.2 Q) (fun r : Int32 × mH => Q (some (.int r.1)) r.2)) res) : mGo w kX8_residues 0 0 49 [none, some (.int v1), some (.int v2), some (va_rf v3), some (.int v4), some (.int v5), none] [] h Q := by
  unfold f_X8_residues_b49 at e
  refine mGo.iload (n := 51) (x := v5) dX8_residues_49 rfl rfl ?_
  refine mGo.iload_n (n := 52) (x := v1) dX8_residues_51 rfl rfl ?_
  refine mGo.icmp_gt (tgt := 118) (n := 55) dX8_residues_52 (by decide) rfl (fun hc => ?_) (fun hc => ?_)
  · replace e := mIft hc e
    refine mGo.iload_n (n := 119) (x := v2) dX8_residues_118 rfl rfl ?_
    cases e
    exact mGo.iret dX8_residues_119 rfl (Nat.le_of_ble_eq_true rfl) (Nat.le_of_ble_eq_true rfl) q
  · replace e := mIff hc e
    refine mGo.aload_n (n := 56) (r := v3) dX8_residues_55 rfl rfl ?_
    refine mGo.iload (n := 58) (x := v5) dX8_residues_56 rfl rfl ?_
    refine mGo.iconst (n := 59) (v := (0 : Int32)) dX8_residues_58 (by decide) rfl ?_
    obtain ⟨x1, e_x1, e⟩ := mBind e
    refine mGo.callV (n := 62) (y := zX7_setMinus) (R' := (mRoom (1) 0 0)) (as := [.int v5, .int (0 : Int32)]) (st := []) (r0 := v3) dX8_residues_59 sc_RX8_98 rfl (s_X7_setMinus v3 v5 (0 : Int32) h e_x1) (e_X7_setMinus v3 v5 (0 : Int32) h e_x1) (mFit_of rfl (Nat.le_of_ble_eq_true rfl) (by decide) (Nat.le_of_ble_eq_true rfl) (Nat.le_of_ble_eq_true rfl)) (Nat.le_of_ble_eq_true rfl) rfl rfl ?_
    intro _ _ hq
    rw [hq.1, hq.2]
    show mGo w kX8_residues 0 0 62 [none, some (.int v1), some (.int v2), some (va_rf v3), some (.int v4), some (.int v5), none] [] x1 Q
    refine mGo.iconst (n := 63) (v := (1 : Int32)) dX8_residues_62 (by decide) rfl ?_
    refine mGo.istore (n := 65) (ls' := [none, some (.int v1), some (.int v2), some (va_rf v3), some (.int v4), some (.int v5), some (.int (1 : Int32))]) dX8_residues_63 rfl (Nat.le_of_ble_eq_true rfl) rfl ?_
    refine mGo.mk [false, true, true, true, true, true, true] ?_
    exact g_X8_residues_l65 v1 v2 v3 v4 v5 (1 : Int32) x1 e q
noncomputable def f_X8_residues_l49 (v1 : Int32) (v2 : Int32) (v3 : Option Nat) (v4 : Int32) (v5 : Int32) (h : mH) : Option (Int32 × mH) :=
  mLoop (fun x : Int32 × mH => f_X8_residues_b49 v1 v2 v3 v4 x.1 x.2) (v5, h)
set_option maxRecDepth 100000 in
set_option maxHeartbeats 4000000 in
theorem g_X8_residues_l49 {w : mWp} {Q : Option Value → mH → Prop} (v1 : Int32) (v2 : Int32) (v3 : Option Nat) (v4 : Int32) (v5 : Int32) (h : mH) {res : Int32 × mH} (e : f_X8_residues_l49 v1 v2 v3 v4 v5 h = some res) (q : (fun r : Int32 × mH => Q (some (.int r.1)) r.2) res) : mGo w kX8_residues 0 0 49 [none, some (.int v1), some (.int v2), some (va_rf v3), some (.int v4), some (.int v5), none] [] h Q := by
  unfold f_X8_residues_l49 at e
  refine mLoop_go (x := (v5, h)) (fun x : Int32 × mH => mGo w kX8_residues 0 0 49 [none, some (.int v1), some (.int v2), some (va_rf v3), some (.int v4), some (.int x.1), none] [] x.2 Q) (fun r : Int32 × mH => Q (some (.int r.1)) r.2) ?_ e q
  rintro ⟨v5, h1⟩ res e q
  exact g_X8_residues_b49 v1 v2 v3 v4 v5 h1 e q
noncomputable def f_X8_residues (v0 : Option Nat) (v1 : Int32) (h : mH) : Option (Int32 × mH) :=
  (mIs h v0 7).bind fun _ =>
  (f_X8_emptyPlace v0 h).bind fun x1 =>
  if x1 = (-1 : Int32) then
    some ((-1 : Int32), h)
  else
    (f_X2_prime v1).bind fun x2 =>
    if x2 = 0 then
      some ((-1 : Int32), h)
    else
      if (mRem v1 (4 : Int32)) = (3 : Int32) then
        (mGR h v0 7 0).bind fun x3 =>
        (mAR h x3 x1).bind fun x4 =>
        (f_X7_begin x4 (v1 + (1 : Int32)) h).bind fun x5 =>
        (f_X2_squares v1).bind fun x6 =>
        f_X8_residues_l49 v1 x1 x4 x6 (1 : Int32) x5
      else
        some ((-1 : Int32), h)
set_option maxRecDepth 100000 in
set_option maxHeartbeats 4000000 in
theorem g_X8_residues {w : mWp} {Q : Option Value → mH → Prop} (v0 : Option Nat) (v1 : Int32) (h : mH) {res : Int32 × mH} (e : f_X8_residues v0 v1 h = some res) (q : (fun r : Int32 × mH => Q (some (.int r.1)) r.2) res) : mGo w kX8_residues 0 0 0 [some (va_rf v0), some (.int v1), none, none, none, none, none] [] h Q := by
  unfold f_X8_residues at e
  obtain ⟨_, _, e⟩ := mBind e
  refine mGo.aload_n (n := 1) (r := v0) dX8_residues_0 rfl rfl ?_
  obtain ⟨x1, e_x1, e⟩ := mBind e
  refine mGo.callV (n := 4) (y := zX8_emptyPlace) (R' := (mRoom (1) 0 0)) (as := []) (st := []) (r0 := v0) dX8_residues_1 sc_RX8_73 rfl (s_X8_emptyPlace v0 h e_x1) (e_X8_emptyPlace v0 h e_x1) (mFit_of rfl (Nat.le_of_ble_eq_true rfl) (by decide) (Nat.le_of_ble_eq_true rfl) (Nat.le_of_ble_eq_true rfl)) (Nat.le_of_ble_eq_true rfl) rfl rfl ?_
  intro _ _ hq
  rw [hq.1, hq.2]
  show mGo w kX8_residues 0 0 4 [some (va_rf v0), some (.int v1), none, none, none, none, none] [.int x1] h Q
  refine mGo.istore_n (n := 5) (ls' := [some (va_rf v0), some (.int v1), some (.int x1), none, none, none, none]) dX8_residues_4 rfl (Nat.le_of_ble_eq_true rfl) rfl ?_
  refine mGo.iload_n (n := 6) (x := x1) dX8_residues_5 rfl rfl ?_
  refine mGo.iconst (n := 7) (v := (-1 : Int32)) dX8_residues_6 (by decide) rfl ?_
  refine mGo.icmp_eq (tgt := 24) (n := 10) dX8_residues_7 (by decide) rfl (fun hc => ?_) (fun hc => ?_)
  · replace e := mIft hc e
    refine mGo.iconst (n := 25) (v := (-1 : Int32)) dX8_residues_24 (by decide) rfl ?_
    cases e
    exact mGo.iret dX8_residues_25 rfl (Nat.le_of_ble_eq_true rfl) (Nat.le_of_ble_eq_true rfl) q
  · replace e := mIff hc e
    refine mGo.iload_n (n := 11) (x := v1) dX8_residues_10 rfl rfl ?_
    obtain ⟨x2, e_x2, e⟩ := mBind e
    refine mGo.callS (n := 14) (y := zX2_prime) (R' := (mRoom (1) 0 0)) (as := [.int v1]) (st := []) dX8_residues_11 sc_RX8_85 rfl (e_X2_prime v1 h e_x2) (mFit_of rfl (Nat.le_of_ble_eq_true rfl) (by decide) (Nat.le_of_ble_eq_true rfl) (Nat.le_of_ble_eq_true rfl)) (Nat.le_of_ble_eq_true rfl) rfl rfl ?_
    intro _ _ hq
    rw [hq.1, hq.2]
    show mGo w kX8_residues 0 0 14 [some (va_rf v0), some (.int v1), some (.int x1), none, none, none, none] [.int x2] h Q
    refine mGo.if_eq (tgt := 24) (n := 17) dX8_residues_14 (by decide) rfl (fun hc => ?_) (fun hc => ?_)
    · replace e := mIft hc e
      refine mGo.iconst (n := 25) (v := (-1 : Int32)) dX8_residues_24 (by decide) rfl ?_
      cases e
      exact mGo.iret dX8_residues_25 rfl (Nat.le_of_ble_eq_true rfl) (Nat.le_of_ble_eq_true rfl) q
    · replace e := mIff hc e
      refine mGo.iload_n (n := 18) (x := v1) dX8_residues_17 rfl rfl ?_
      refine mGo.iconst (n := 19) (v := (4 : Int32)) dX8_residues_18 (by decide) rfl ?_
      refine mGo.irem (n := 20) dX8_residues_19 (by decide) rfl ?_
      refine mGo.iconst (n := 21) (v := (3 : Int32)) dX8_residues_20 (by decide) rfl ?_
      refine mGo.icmp_eq (tgt := 26) (n := 24) dX8_residues_21 (by decide) rfl (fun hc => ?_) (fun hc => ?_)
      · replace e := mIft hc e
        refine mGo.aload_n (n := 27) (r := v0) dX8_residues_26 rfl rfl ?_
        obtain ⟨x3, e_x3, e⟩ := mBind e
        refine mGo.getR (n := 30) dX8_residues_27 sf_RX8_11 e_x3 rfl ?_
        refine mGo.iload_n (n := 31) (x := x1) dX8_residues_30 rfl rfl ?_
        obtain ⟨x4, e_x4, e⟩ := mBind e
        refine mGo.aald (n := 32) dX8_residues_31 e_x4 rfl ?_
        refine mGo.astore_n (n := 33) (ls' := [some (va_rf v0), some (.int v1), some (.int x1), some (va_rf x4), none, none, none]) dX8_residues_32 rfl (Nat.le_of_ble_eq_true rfl) rfl ?_
        refine mGo.aload_n (n := 34) (r := x4) dX8_residues_33 rfl rfl ?_
        refine mGo.iload_n (n := 35) (x := v1) dX8_residues_34 rfl rfl ?_
        refine mGo.iconst (n := 36) (v := (1 : Int32)) dX8_residues_35 (by decide) rfl ?_
        refine mGo.iadd (n := 37) dX8_residues_36 rfl ?_
        obtain ⟨x5, e_x5, e⟩ := mBind e
        refine mGo.callV (n := 40) (y := zX7_begin) (R' := (mRoom (2) 0 0)) (as := [.int (v1 + (1 : Int32))]) (st := []) (r0 := x4) dX8_residues_37 sc_RX8_91 rfl (s_X7_begin x4 (v1 + (1 : Int32)) h e_x5) (e_X7_begin x4 (v1 + (1 : Int32)) h e_x5) (mFit_of rfl (Nat.le_of_ble_eq_true rfl) (by decide) (Nat.le_of_ble_eq_true rfl) (Nat.le_of_ble_eq_true rfl)) (Nat.le_of_ble_eq_true rfl) rfl rfl ?_
        intro _ _ hq
        rw [hq.1, hq.2]
        show mGo w kX8_residues 0 0 40 [some (va_rf v0), some (.int v1), some (.int x1), some (va_rf x4), none, none, none] [] x5 Q
        refine mGo.iload_n (n := 41) (x := v1) dX8_residues_40 rfl rfl ?_
        obtain ⟨x6, e_x6, e⟩ := mBind e
        refine mGo.callS (n := 44) (y := zX2_squares) (R' := (mRoom (4) 0 0)) (as := [.int v1]) (st := []) dX8_residues_41 sc_RX8_95 rfl (e_X2_squares v1 x5 e_x6) (mFit_of rfl (Nat.le_of_ble_eq_true rfl) (by decide) (Nat.le_of_ble_eq_true rfl) (Nat.le_of_ble_eq_true rfl)) (Nat.le_of_ble_eq_true rfl) rfl rfl ?_
        intro _ _ hq
        rw [hq.1, hq.2]
        show mGo w kX8_residues 0 0 44 [some (va_rf v0), some (.int v1), some (.int x1), some (va_rf x4), none, none, none] [.int x6] x5 Q
        refine mGo.istore (n := 46) (ls' := [some (va_rf v0), some (.int v1), some (.int x1), some (va_rf x4), some (.int x6), none, none]) dX8_residues_44 ((mSt_set (fun u _ hu => by cases hu; exact mRfc _)).trans rfl) (Nat.le_of_ble_eq_true rfl) rfl ?_
        refine mGo.iconst (n := 47) (v := (1 : Int32)) dX8_residues_46 (by decide) rfl ?_
        refine mGo.istore (n := 49) (ls' := [some (va_rf v0), some (.int v1), some (.int x1), some (va_rf x4), some (.int x6), some (.int (1 : Int32)), none]) dX8_residues_47 rfl (Nat.le_of_ble_eq_true rfl) rfl ?_
        refine mGo.mk [false, true, true, true, true, true, false] ?_
        exact g_X8_residues_l49 v1 x1 x4 x6 (1 : Int32) x5 e q
      · replace e := mIff hc e
        refine mGo.iconst (n := 25) (v := (-1 : Int32)) dX8_residues_24 (by decide) rfl ?_
        cases e
        exact mGo.iret dX8_residues_25 rfl (Nat.le_of_ble_eq_true rfl) (Nat.le_of_ble_eq_true rfl) q
theorem e_X8_residues {w : mWp} (v0 : Option Nat) (v1 : Int32) (h : mH) {res : Int32 × mH} (e : f_X8_residues v0 v1 h = some res) : mEx w zX8_residues (mRoom 5 0 0) [va_rf v0, .int v1] h (fun r h2 => r = some (.int res.1) ∧ h2 = res.2) := by
  refine mEx.of (by decide +kernel) (show mEnt [va_rf v0, .int v1] 7 = [some (va_rf v0), some (.int v1), none, none, none, none, none] by rw [mEnt_r, mEnt_i] <;> rfl) (by simp only [List.map_cons, List.map_nil, mRfc, mCi, mCj, List.sum_cons, List.sum_nil]; exact Nat.le_of_ble_eq_true rfl) ?_
  refine g_X8_residues v0 v1 h e ?_
  exact ⟨rfl, rfl⟩
theorem s_X8_residues (v0 : Option Nat) (v1 : Int32) (h : mH) {res : Int32 × mH} (e : f_X8_residues v0 v1 h = some res) : mIs h v0 7 = some () := by
  unfold f_X8_residues at e
  obtain ⟨u, e1, _⟩ := mBind e
  cases u
  exact e1
-- X8_conference
def kX8_conference : mK := (cX8_conference, RX8, 4, some (.int), "conference", mRoom 4 0 0)
def zX8_conference : mY := (yX8_conference, cX8_conference, 4, some (.int))
def f_X8_conference (v0 : Int32) (v1 : Int32) (v2 : Int32) (v3 : Int32)  : Option (Int32) :=
  if v2 = v3 then
    some (0 : Int32)
  else
    if v2 = 0 then
      some (1 : Int32)
    else
      if v3 = 0 then
        some (1 : Int32)
      else
        (f_X2_difference v0 (v2 - (1 : Int32)) (v3 - (1 : Int32))).bind fun x1 =>
        (f_X8_inSet v1 x1).bind fun x2 =>
        if x2 = 0 then
          some (-1 : Int32)
        else
          some (1 : Int32)
set_option maxRecDepth 100000 in
set_option maxHeartbeats 4000000 in
theorem g_X8_conference {w : mWp} {Q : Option Value → mH → Prop} (v0 : Int32) (v1 : Int32) (v2 : Int32) (v3 : Int32) (h : mH) {res : Int32} (e : f_X8_conference v0 v1 v2 v3 = some res) (q : (fun r : Int32 => Q (some (.int r)) h) res) : mGo w kX8_conference 0 0 0 [some (.int v0), some (.int v1), some (.int v2), some (.int v3)] [] h Q := by
  unfold f_X8_conference at e
  refine mGo.iload_n (n := 1) (x := v2) dX8_conference_0 rfl rfl ?_
  refine mGo.iload_n (n := 2) (x := v3) dX8_conference_1 rfl rfl ?_
  refine mGo.icmp_ne (tgt := 7) (n := 5) dX8_conference_2 (by decide) rfl (fun hc => ?_) (fun hc => ?_)
  · replace e := mIff hc e
    refine mGo.iload_n (n := 8) (x := v2) dX8_conference_7 rfl rfl ?_
    refine mGo.if_eq (tgt := 15) (n := 11) dX8_conference_8 (by decide) rfl (fun hc => ?_) (fun hc => ?_)
    · replace e := mIft hc e
      refine mGo.iconst (n := 16) (v := (1 : Int32)) dX8_conference_15 (by decide) rfl ?_
      cases e
      exact mGo.iret dX8_conference_16 rfl (Nat.le_of_ble_eq_true rfl) (Nat.le_of_ble_eq_true rfl) q
    · replace e := mIff hc e
      refine mGo.iload_n (n := 12) (x := v3) dX8_conference_11 rfl rfl ?_
      refine mGo.if_ne (tgt := 17) (n := 15) dX8_conference_12 (by decide) rfl (fun hc => ?_) (fun hc => ?_)
      · replace e := mIff hc e
        refine mGo.iload_n (n := 18) (x := v1) dX8_conference_17 rfl rfl ?_
        refine mGo.iload_n (n := 19) (x := v0) dX8_conference_18 rfl rfl ?_
        refine mGo.iload_n (n := 20) (x := v2) dX8_conference_19 rfl rfl ?_
        refine mGo.iconst (n := 21) (v := (1 : Int32)) dX8_conference_20 (by decide) rfl ?_
        refine mGo.isub (n := 22) dX8_conference_21 rfl ?_
        refine mGo.iload_n (n := 23) (x := v3) dX8_conference_22 rfl rfl ?_
        refine mGo.iconst (n := 24) (v := (1 : Int32)) dX8_conference_23 (by decide) rfl ?_
        refine mGo.isub (n := 25) dX8_conference_24 rfl ?_
        obtain ⟨x1, e_x1, e⟩ := mBind e
        refine mGo.callS (n := 28) (y := zX2_difference) (R' := (mRoom (3) 0 0)) (as := [.int v0, .int (v2 - (1 : Int32)), .int (v3 - (1 : Int32))]) (st := [.int v1]) dX8_conference_25 sc_RX8_102 rfl (e_X2_difference v0 (v2 - (1 : Int32)) (v3 - (1 : Int32)) h e_x1) (mFit_of rfl (Nat.le_of_ble_eq_true rfl) (by decide) (Nat.le_of_ble_eq_true rfl) (Nat.le_of_ble_eq_true rfl)) (Nat.le_of_ble_eq_true rfl) rfl rfl ?_
        intro _ _ hq
        rw [hq.1, hq.2]
        show mGo w kX8_conference 0 0 28 [some (.int v0), some (.int v1), some (.int v2), some (.int v3)] [.int x1, .int v1] h Q
        obtain ⟨x2, e_x2, e⟩ := mBind e
        refine mGo.callS (n := 31) (y := zX8_inSet) (R' := (mRoom (1) 0 0)) (as := [.int v1, .int x1]) (st := []) dX8_conference_28 sc_RX8_106 rfl (e_X8_inSet v1 x1 h e_x2) (mFit_of rfl (Nat.le_of_ble_eq_true rfl) (by decide) (Nat.le_of_ble_eq_true rfl) (Nat.le_of_ble_eq_true rfl)) (Nat.le_of_ble_eq_true rfl) rfl rfl ?_
        intro _ _ hq
        rw [hq.1, hq.2]
        show mGo w kX8_conference 0 0 31 [some (.int v0), some (.int v1), some (.int v2), some (.int v3)] [.int x2] h Q
        refine mGo.if_eq (tgt := 38) (n := 34) dX8_conference_31 (by decide) rfl (fun hc => ?_) (fun hc => ?_)
        · replace e := mIft hc e
          refine mGo.iconst (n := 39) (v := (-1 : Int32)) dX8_conference_38 (by decide) rfl ?_
          cases e
          exact mGo.iret dX8_conference_39 rfl (Nat.le_of_ble_eq_true rfl) (Nat.le_of_ble_eq_true rfl) q
        · replace e := mIff hc e
          refine mGo.iconst (n := 35) (v := (1 : Int32)) dX8_conference_34 (by decide) rfl ?_
          refine mGo.goto (tgt := 39) dX8_conference_35 (by decide) ?_
          cases e
          exact mGo.iret dX8_conference_39 rfl (Nat.le_of_ble_eq_true rfl) (Nat.le_of_ble_eq_true rfl) q
      · replace e := mIft hc e
        refine mGo.iconst (n := 16) (v := (1 : Int32)) dX8_conference_15 (by decide) rfl ?_
        cases e
        exact mGo.iret dX8_conference_16 rfl (Nat.le_of_ble_eq_true rfl) (Nat.le_of_ble_eq_true rfl) q
  · replace e := mIft hc e
    refine mGo.iconst (n := 6) (v := (0 : Int32)) dX8_conference_5 (by decide) rfl ?_
    cases e
    exact mGo.iret dX8_conference_6 rfl (Nat.le_of_ble_eq_true rfl) (Nat.le_of_ble_eq_true rfl) q
theorem e_X8_conference {w : mWp} (v0 : Int32) (v1 : Int32) (v2 : Int32) (v3 : Int32) (h : mH) {res : Int32} (e : f_X8_conference v0 v1 v2 v3 = some res) : mEx w zX8_conference (mRoom 4 0 0) [.int v0, .int v1, .int v2, .int v3] h (fun r h2 => r = some (.int res) ∧ h2 = h) := by
  refine mEx.of (by decide +kernel) rfl (Nat.le_of_ble_eq_true rfl) ?_
  refine g_X8_conference v0 v1 v2 v3 h e ?_
  exact ⟨rfl, rfl⟩
-- X8_laySmallBlock
def kX8_laySmallBlock : mK := (cX8_laySmallBlock, RX8, 5, none, "laySmallBlock", mRoom 1 0 0)
def zX8_laySmallBlock : mY := (yX8_laySmallBlock, cX8_laySmallBlock, 5, none)
set_option maxRecDepth 100000 in
theorem sf_RX8_125 : mFld RX8 125 6 1 := ⟨by decide, by decide, Or.inr ⟨_, mNest_at 39 (x := Cond.fieldLinkNest RX8 125 (mCR 6) (mCT 6 1).2.1 (mCT 6 1).2.2.1 "SignTables") (by decide +kernel) rfl⟩⟩
def f_X8_laySmallBlock_c20 (v0 : Option Nat) (v1 : Int32) (v2 : Int32) (s0 : Int32) (h : mH) : Option (mH) :=
  (mGR h v0 6 1).bind fun x1 =>
  (mAI h x1 ((2 : Int32) * v1)).bind fun x2 =>
  (mSI h x1 ((2 : Int32) * v1) (x2 ||| ((s0 &&& (3 : Int32)) <<< (((2 : Int32) * v2) &&& 31)))).bind fun h3 =>
  (mGR h3 v0 6 1).bind fun x4 =>
  (mAI h3 x4 (((2 : Int32) * v1) + (1 : Int32))).bind fun x5 =>
  (mSI h3 x4 (((2 : Int32) * v1) + (1 : Int32)) (x5 ||| ((s0 >>> ((2 : Int32) &&& 31)) <<< (((2 : Int32) * v2) &&& 31)))).bind fun h6 =>
  some h6
set_option maxRecDepth 100000 in
set_option maxHeartbeats 4000000 in
theorem g_X8_laySmallBlock_c20 {w : mWp} {Q : Option Value → mH → Prop} (v0 : Option Nat) (v1 : Int32) (v2 : Int32) (s0 : Int32) (h : mH) {res : mH} (e : f_X8_laySmallBlock_c20 v0 v1 v2 s0 h = some res) (q : (fun r : mH => Q none r) res) : mGo w kX8_laySmallBlock 0 0 20 [some (va_rf v0), some (.int v1), some (.int v2), none, none] [.int s0] h Q := by
  unfold f_X8_laySmallBlock_c20 at e
  refine mGo.istore (n := 22) (ls' := [some (va_rf v0), some (.int v1), some (.int v2), none, some (.int s0)]) dX8_laySmallBlock_20 rfl (Nat.le_of_ble_eq_true rfl) rfl ?_
  refine mGo.aload_n (n := 23) (r := v0) dX8_laySmallBlock_22 rfl rfl ?_
  obtain ⟨x1, e_x1, e⟩ := mBind e
  refine mGo.getR (n := 26) dX8_laySmallBlock_23 sf_RX8_125 e_x1 rfl ?_
  refine mGo.iconst (n := 27) (v := (2 : Int32)) dX8_laySmallBlock_26 (by decide) rfl ?_
  refine mGo.iload_n (n := 28) (x := v1) dX8_laySmallBlock_27 rfl rfl ?_
  refine mGo.imul (n := 29) dX8_laySmallBlock_28 rfl ?_
  refine mGo.dup2 (n := 30) dX8_laySmallBlock_29 rfl (mRfc _) rfl ?_
  obtain ⟨x2, e_x2, e⟩ := mBind e
  refine mGo.iald (n := 31) dX8_laySmallBlock_30 e_x2 rfl ?_
  refine mGo.iload (n := 33) (x := s0) dX8_laySmallBlock_31 rfl rfl ?_
  refine mGo.iconst (n := 34) (v := (3 : Int32)) dX8_laySmallBlock_33 (by decide) rfl ?_
  refine mGo.iand (n := 35) dX8_laySmallBlock_34 rfl ?_
  refine mGo.iconst (n := 36) (v := (2 : Int32)) dX8_laySmallBlock_35 (by decide) rfl ?_
  refine mGo.iload_n (n := 37) (x := v2) dX8_laySmallBlock_36 rfl rfl ?_
  refine mGo.imul (n := 38) dX8_laySmallBlock_37 rfl ?_
  refine mGo.ishl (n := 39) dX8_laySmallBlock_38 rfl ?_
  refine mGo.ior (n := 40) dX8_laySmallBlock_39 rfl ?_
  obtain ⟨h3, e_h3, e⟩ := mBind e
  refine mGo.iast (n := 41) dX8_laySmallBlock_40 e_h3 rfl ?_
  refine mGo.aload_n (n := 42) (r := v0) dX8_laySmallBlock_41 rfl rfl ?_
  obtain ⟨x4, e_x4, e⟩ := mBind e
  refine mGo.getR (n := 45) dX8_laySmallBlock_42 sf_RX8_125 e_x4 rfl ?_
  refine mGo.iconst (n := 46) (v := (2 : Int32)) dX8_laySmallBlock_45 (by decide) rfl ?_
  refine mGo.iload_n (n := 47) (x := v1) dX8_laySmallBlock_46 rfl rfl ?_
  refine mGo.imul (n := 48) dX8_laySmallBlock_47 rfl ?_
  refine mGo.iconst (n := 49) (v := (1 : Int32)) dX8_laySmallBlock_48 (by decide) rfl ?_
  refine mGo.iadd (n := 50) dX8_laySmallBlock_49 rfl ?_
  refine mGo.dup2 (n := 51) dX8_laySmallBlock_50 rfl (mRfc _) rfl ?_
  obtain ⟨x5, e_x5, e⟩ := mBind e
  refine mGo.iald (n := 52) dX8_laySmallBlock_51 e_x5 rfl ?_
  refine mGo.iload (n := 54) (x := s0) dX8_laySmallBlock_52 rfl rfl ?_
  refine mGo.iconst (n := 55) (v := (2 : Int32)) dX8_laySmallBlock_54 (by decide) rfl ?_
  refine mGo.ishr (n := 56) dX8_laySmallBlock_55 rfl ?_
  refine mGo.iconst (n := 57) (v := (2 : Int32)) dX8_laySmallBlock_56 (by decide) rfl ?_
  refine mGo.iload_n (n := 58) (x := v2) dX8_laySmallBlock_57 rfl rfl ?_
  refine mGo.imul (n := 59) dX8_laySmallBlock_58 rfl ?_
  refine mGo.ishl (n := 60) dX8_laySmallBlock_59 rfl ?_
  refine mGo.ior (n := 61) dX8_laySmallBlock_60 rfl ?_
  obtain ⟨h6, e_h6, e⟩ := mBind e
  refine mGo.iast (n := 62) dX8_laySmallBlock_61 e_h6 rfl ?_
  cases e
  exact mGo.vret dX8_laySmallBlock_62 rfl (Nat.le_of_ble_eq_true rfl) (Nat.le_of_ble_eq_true rfl) q
def f_X8_laySmallBlock (v0 : Option Nat) (v1 : Int32) (v2 : Int32) (v3 : Int32) (h : mH) : Option (mH) :=
  if v3 = 0 then
    f_X8_laySmallBlock_c20 v0 v1 v2 (14 : Int32) h
  else
    if v3 ≤ 0 then
      f_X8_laySmallBlock_c20 v0 v1 v2 (7 : Int32) h
    else
      f_X8_laySmallBlock_c20 v0 v1 v2 (8 : Int32) h
set_option maxRecDepth 100000 in
set_option maxHeartbeats 4000000 in
theorem g_X8_laySmallBlock {w : mWp} {Q : Option Value → mH → Prop} (v0 : Option Nat) (v1 : Int32) (v2 : Int32) (v3 : Int32) (h : mH) {res : mH} (e : f_X8_laySmallBlock v0 v1 v2 v3 h = some res) (q : (fun r : mH => Q none r) res) : mGo w kX8_laySmallBlock 0 0 0 [some (va_rf v0), some (.int v1), some (.int v2), some (.int v3), none] [] h Q := by
  unfold f_X8_laySmallBlock at e
  refine mGo.iload_n (n := 1) (x := v3) dX8_laySmallBlock_0 rfl rfl ?_
  refine mGo.if_ne (tgt := 9) (n := 4) dX8_laySmallBlock_1 (by decide) rfl (fun hc => ?_) (fun hc => ?_)
  · replace e := mIff hc e
    refine mGo.iload_n (n := 10) (x := v3) dX8_laySmallBlock_9 rfl rfl ?_
    refine mGo.if_le (tgt := 18) (n := 13) dX8_laySmallBlock_10 (by decide) rfl (fun hc => ?_) (fun hc => ?_)
    · replace e := mIft hc e
      refine mGo.bipush (n := 20) (v := (7 : Int32)) dX8_laySmallBlock_18 (by decide) rfl ?_
      refine mGo.mk [true, true, true, false, false] ?_
      exact g_X8_laySmallBlock_c20 v0 v1 v2 (7 : Int32) h e q
    · replace e := mIff hc e
      refine mGo.bipush (n := 15) (v := (8 : Int32)) dX8_laySmallBlock_13 (by decide) rfl ?_
      refine mGo.goto (tgt := 20) dX8_laySmallBlock_15 (by decide) ?_
      refine mGo.mk [true, true, true, false, false] ?_
      exact g_X8_laySmallBlock_c20 v0 v1 v2 (8 : Int32) h e q
  · replace e := mIft hc e
    refine mGo.bipush (n := 6) (v := (14 : Int32)) dX8_laySmallBlock_4 (by decide) rfl ?_
    refine mGo.goto (tgt := 20) dX8_laySmallBlock_6 (by decide) ?_
    refine mGo.mk [true, true, true, false, false] ?_
    exact g_X8_laySmallBlock_c20 v0 v1 v2 (14 : Int32) h e q
theorem e_X8_laySmallBlock {w : mWp} (v0 : Option Nat) (v1 : Int32) (v2 : Int32) (v3 : Int32) (h : mH) {res : mH} (e : f_X8_laySmallBlock v0 v1 v2 v3 h = some res) : mEx w zX8_laySmallBlock (mRoom 1 0 0) [va_rf v0, .int v1, .int v2, .int v3] h (fun r h2 => r = none ∧ h2 = res) := by
  refine mEx.of (by decide +kernel) (show mEnt [va_rf v0, .int v1, .int v2, .int v3] 5 = [some (va_rf v0), some (.int v1), some (.int v2), some (.int v3), none] by rw [mEnt_r, mEnt_i, mEnt_i, mEnt_i] <;> rfl) (by simp only [List.map_cons, List.map_nil, mRfc, mCi, mCj, List.sum_cons, List.sum_nil]; exact Nat.le_of_ble_eq_true rfl) ?_
  refine g_X8_laySmallBlock v0 v1 v2 v3 h e ?_
  exact ⟨rfl, rfl⟩
-- X8_twice
def kX8_twice : mK := (cX8_twice, RX8, 7, some (.int), "twice", mRoom 5 0 0)
def zX8_twice : mY := (yX8_twice, cX8_twice, 7, some (.int))
set_option maxRecDepth 100000 in
theorem sc_RX8_110 : mSS RX8 110 zX8_conference 4 := ⟨Or.inl (mT_at 376 (by decide +kernel) rfl), mT_at 377 (by decide +kernel) rfl, mT_at 83 (by decide +kernel) rfl, mT_at 378 (by decide +kernel) rfl, ⟨by decide +kernel, by decide +kernel, by decide +kernel⟩⟩
set_option maxRecDepth 100000 in
theorem sc_RX8_114 : mSS RX8 114 zX8_laySmallBlock 4 := ⟨Or.inl (mT_at 379 (by decide +kernel) rfl), mT_at 380 (by decide +kernel) rfl, mT_at 83 (by decide +kernel) rfl, mT_at 381 (by decide +kernel) rfl, ⟨by decide +kernel, by decide +kernel, by decide +kernel⟩⟩
def f_X8_twice_b70 (v1 : Int32) (v2 : Int32) (v3 : Option Nat) (v4 : Int32) (v5 : Int32) (v6 : Int32) (h : mH) : Option ((Int32 × mH) ⊕ ((Int32 × mH) ⊕ (Int32 × mH))) :=
  if v1 < v6 then
    some (Sum.inr (Sum.inl ((v5 + 1), h)))
  else
    (f_X8_conference v1 v4 v5 v6).bind fun x1 =>
    (f_X8_laySmallBlock v3 v5 v6 x1 h).bind fun x2 =>
    some (Sum.inl ((v6 + 1), x2))
set_option maxRecDepth 100000 in
set_option maxHeartbeats 4000000 in
theorem g_X8_twice_b70 {w : mWp} {Q : Option Value → mH → Prop} (v1 : Int32) (v2 : Int32) (v3 : Option Nat) (v4 : Int32) (v5 : Int32) (v6 : Int32) (h : mH) {res : (Int32 × mH) ⊕ ((Int32 × mH) ⊕ (Int32 × mH))} (e : f_X8_twice_b70 v1 v2 v3 v4 v5 v6 h = some res) (q : (Sum.elim (fun x : Int32 × mH => mGo w kX8_twice 0 0 70 [none, some (.int v1), some (.int v2), some (va_rf v3), some (.int v4), some (.int v5), some (.int x.1)] [] x.2 Q) (Sum.elim (fun x : Int32 × mH => mGo w kX8_twice 0 0 61 [none, some (.int v1), some (.int v2), some (va_rf v3), some (.int v4), some (.int x.1), none] [] x.2 Q) (fun r : Int32 × mH => Q (some (.int r.1)) r.2))) res) : mGo w kX8_twice 0 0 70 [none, some (.int v1), some (.int v2), some (va_rf v3), some (.int v4), some (.int v5), some (.int v6)] [] h Q := by
  unfold f_X8_twice_b70 at e
  refine mGo.iload (n := 72) (x := v6) dX8_twice_70 rfl rfl ?_
  refine mGo.iload_n (n := 73) (x := v1) dX8_twice_72 rfl rfl ?_
  refine mGo.icmp_gt (tgt := 100) (n := 76) dX8_twice_73 (by decide) rfl (fun hc => ?_) (fun hc => ?_)
  · replace e := mIft hc e
    refine mGo.iinc (n := 103) (x := v5) (v := (v5 + 1)) (ls' := [none, some (.int v1), some (.int v2), some (va_rf v3), some (.int v4), some (.int (v5 + 1)), some (.int v6)]) dX8_twice_100 rfl rfl rfl (Nat.le_of_ble_eq_true rfl) rfl ?_
    refine mGo.goto (tgt := 61) dX8_twice_103 (by decide) ?_
    cases e
    refine mGo.mk [false, true, true, true, true, true, false] ?_
    exact q
  · replace e := mIff hc e
    refine mGo.aload_n (n := 77) (r := v3) dX8_twice_76 rfl rfl ?_
    refine mGo.iload (n := 79) (x := v5) dX8_twice_77 rfl rfl ?_
    refine mGo.iload (n := 81) (x := v6) dX8_twice_79 rfl rfl ?_
    refine mGo.iload_n (n := 82) (x := v1) dX8_twice_81 rfl rfl ?_
    refine mGo.iload (n := 84) (x := v4) dX8_twice_82 rfl rfl ?_
    refine mGo.iload (n := 86) (x := v5) dX8_twice_84 rfl rfl ?_
    refine mGo.iload (n := 88) (x := v6) dX8_twice_86 rfl rfl ?_
    obtain ⟨x1, e_x1, e⟩ := mBind e
    refine mGo.callS (n := 91) (y := zX8_conference) (R' := (mRoom (4) 0 0)) (as := [.int v1, .int v4, .int v5, .int v6]) (st := [.int v6, .int v5, va_rf v3]) dX8_twice_88 sc_RX8_110 rfl (e_X8_conference v1 v4 v5 v6 h e_x1) (mFit_of rfl (Nat.le_of_ble_eq_true rfl) (by decide) (Nat.le_of_ble_eq_true rfl) (Nat.le_of_ble_eq_true rfl)) (mCat8 (Nat.le_of_ble_eq_true rfl)) rfl rfl ?_
    intro _ _ hq
    rw [hq.1, hq.2]
    show mGo w kX8_twice 0 0 91 [none, some (.int v1), some (.int v2), some (va_rf v3), some (.int v4), some (.int v5), some (.int v6)] [.int x1, .int v6, .int v5, va_rf v3] h Q
    obtain ⟨x2, e_x2, e⟩ := mBind e
    refine mGo.callS (n := 94) (y := zX8_laySmallBlock) (R' := (mRoom (1) 0 0)) (as := [va_rf v3, .int v5, .int v6, .int x1]) (st := []) dX8_twice_91 sc_RX8_114 rfl (e_X8_laySmallBlock v3 v5 v6 x1 h e_x2) (mFit_of rfl (Nat.le_of_ble_eq_true rfl) (by decide) (Nat.le_of_ble_eq_true rfl) (Nat.le_of_ble_eq_true rfl)) (Nat.le_of_ble_eq_true rfl) rfl rfl ?_
    intro _ _ hq
    rw [hq.1, hq.2]
    show mGo w kX8_twice 0 0 94 [none, some (.int v1), some (.int v2), some (va_rf v3), some (.int v4), some (.int v5), some (.int v6)] [] x2 Q
    refine mGo.iinc (n := 97) (x := v6) (v := (v6 + 1)) (ls' := [none, some (.int v1), some (.int v2), some (va_rf v3), some (.int v4), some (.int v5), some (.int (v6 + 1))]) dX8_twice_94 rfl rfl rfl (Nat.le_of_ble_eq_true rfl) rfl ?_
    refine mGo.goto (tgt := 70) dX8_twice_97 (by decide) ?_
    cases e
    refine mGo.mk [false, true, true, true, true, true, true] ?_
    exact q
noncomputable def f_X8_twice_l70 (v1 : Int32) (v2 : Int32) (v3 : Option Nat) (v4 : Int32) (v5 : Int32) (v6 : Int32) (h : mH) : Option ((Int32 × mH) ⊕ (Int32 × mH)) :=
  mLoop (fun x : Int32 × mH => f_X8_twice_b70 v1 v2 v3 v4 v5 x.1 x.2) (v6, h)
set_option maxRecDepth 100000 in
set_option maxHeartbeats 4000000 in
theorem g_X8_twice_l70 {w : mWp} {Q : Option Value → mH → Prop} (v1 : Int32) (v2 : Int32) (v3 : Option Nat) (v4 : Int32) (v5 : Int32) (v6 : Int32) (h : mH) {res : (Int32 × mH) ⊕ (Int32 × mH)} (e : f_X8_twice_l70 v1 v2 v3 v4 v5 v6 h = some res) (q : (Sum.elim (fun x : Int32 × mH => mGo w kX8_twice 0 0 61 [none, some (.int v1), some (.int v2), some (va_rf v3), some (.int v4), some (.int x.1), none] [] x.2 Q) (fun r : Int32 × mH => Q (some (.int r.1)) r.2)) res) : mGo w kX8_twice 0 0 70 [none, some (.int v1), some (.int v2), some (va_rf v3), some (.int v4), some (.int v5), some (.int v6)] [] h Q := by
  unfold f_X8_twice_l70 at e
  refine mLoop_go (x := (v6, h)) (fun x : Int32 × mH => mGo w kX8_twice 0 0 70 [none, some (.int v1), some (.int v2), some (va_rf v3), some (.int v4), some (.int v5), some (.int x.1)] [] x.2 Q) (Sum.elim (fun x : Int32 × mH => mGo w kX8_twice 0 0 61 [none, some (.int v1), some (.int v2), some (va_rf v3), some (.int v4), some (.int x.1), none] [] x.2 Q) (fun r : Int32 × mH => Q (some (.int r.1)) r.2)) ?_ e q
  rintro ⟨v6, h1⟩ res e q
  exact g_X8_twice_b70 v1 v2 v3 v4 v5 v6 h1 e q
noncomputable def f_X8_twice_b61 (v1 : Int32) (v2 : Int32) (v3 : Option Nat) (v4 : Int32) (v5 : Int32) (h : mH) : Option ((Int32 × mH) ⊕ (Int32 × mH)) :=
  if v1 < v5 then
    some (Sum.inr (v2, h))
  else
    f_X8_twice_l70 v1 v2 v3 v4 v5 (0 : Int32) h
set_option maxRecDepth 100000 in
set_option maxHeartbeats 4000000 in
theorem g_X8_twice_b61 {w : mWp} {Q : Option Value → mH → Prop} (v1 : Int32) (v2 : Int32) (v3 : Option Nat) (v4 : Int32) (v5 : Int32) (h : mH) {res : (Int32 × mH) ⊕ (Int32 × mH)} (e : f_X8_twice_b61 v1 v2 v3 v4 v5 h = some res) (q : (Sum.elim (fun x : Int32 × mH => mGo w kX8_twice 0 0 61 [none, some (.int v1), some (.int v2), some (va_rf v3), some (.int v4), some (.int x.1), none] [] x.2 Q) (fun r : Int32 × mH => Q (some (.int r.1)) r.2)) res) : mGo w kX8_twice 0 0 61 [none, some (.int v1), some (.int v2), some (va_rf v3), some (.int v4), some (.int v5), none] [] h Q := by
  unfold f_X8_twice_b61 at e
  refine mGo.iload (n := 63) (x := v5) dX8_twice_61 rfl rfl ?_
  refine mGo.iload_n (n := 64) (x := v1) dX8_twice_63 rfl rfl ?_
  refine mGo.icmp_gt (tgt := 106) (n := 67) dX8_twice_64 (by decide) rfl (fun hc => ?_) (fun hc => ?_)
  · replace e := mIft hc e
    refine mGo.iload_n (n := 107) (x := v2) dX8_twice_106 rfl rfl ?_
    cases e
    exact mGo.iret dX8_twice_107 rfl (Nat.le_of_ble_eq_true rfl) (Nat.le_of_ble_eq_true rfl) q
  · replace e := mIff hc e
    refine mGo.iconst (n := 68) (v := (0 : Int32)) dX8_twice_67 (by decide) rfl ?_
    refine mGo.istore (n := 70) (ls' := [none, some (.int v1), some (.int v2), some (va_rf v3), some (.int v4), some (.int v5), some (.int (0 : Int32))]) dX8_twice_68 rfl (Nat.le_of_ble_eq_true rfl) rfl ?_
    refine mGo.mk [false, true, true, true, true, true, true] ?_
    exact g_X8_twice_l70 v1 v2 v3 v4 v5 (0 : Int32) h e q
noncomputable def f_X8_twice_l61 (v1 : Int32) (v2 : Int32) (v3 : Option Nat) (v4 : Int32) (v5 : Int32) (h : mH) : Option (Int32 × mH) :=
  mLoop (fun x : Int32 × mH => f_X8_twice_b61 v1 v2 v3 v4 x.1 x.2) (v5, h)
set_option maxRecDepth 100000 in
set_option maxHeartbeats 4000000 in
theorem g_X8_twice_l61 {w : mWp} {Q : Option Value → mH → Prop} (v1 : Int32) (v2 : Int32) (v3 : Option Nat) (v4 : Int32) (v5 : Int32) (h : mH) {res : Int32 × mH} (e : f_X8_twice_l61 v1 v2 v3 v4 v5 h = some res) (q : (fun r : Int32 × mH => Q (some (.int r.1)) r.2) res) : mGo w kX8_twice 0 0 61 [none, some (.int v1), some (.int v2), some (va_rf v3), some (.int v4), some (.int v5), none] [] h Q := by
  unfold f_X8_twice_l61 at e
  refine mLoop_go (x := (v5, h)) (fun x : Int32 × mH => mGo w kX8_twice 0 0 61 [none, some (.int v1), some (.int v2), some (va_rf v3), some (.int v4), some (.int x.1), none] [] x.2 Q) (fun r : Int32 × mH => Q (some (.int r.1)) r.2) ?_ e q
  rintro ⟨v5, h1⟩ res e q
  exact g_X8_twice_b61 v1 v2 v3 v4 v5 h1 e q
noncomputable def f_X8_twice (v0 : Option Nat) (v1 : Int32) (h : mH) : Option (Int32 × mH) :=
  (mIs h v0 7).bind fun _ =>
  (f_X8_emptyPlace v0 h).bind fun x1 =>
  if x1 = (-1 : Int32) then
    some ((-1 : Int32), h)
  else
    (f_X2_prime v1).bind fun x2 =>
    if x2 = 0 then
      some ((-1 : Int32), h)
    else
      if (mRem v1 (4 : Int32)) = (1 : Int32) then
        if (((2 : Int32) * v1) + (2 : Int32)) ≤ (28 : Int32) then
          (mGR h v0 7 0).bind fun x3 =>
          (mAR h x3 x1).bind fun x4 =>
          (f_X7_begin x4 (((2 : Int32) * v1) + (2 : Int32)) h).bind fun x5 =>
          (f_X2_squares v1).bind fun x6 =>
          f_X8_twice_l61 v1 x1 x4 x6 (0 : Int32) x5
        else
          some ((-1 : Int32), h)
      else
        some ((-1 : Int32), h)
set_option maxRecDepth 100000 in
set_option maxHeartbeats 4000000 in
theorem g_X8_twice {w : mWp} {Q : Option Value → mH → Prop} (v0 : Option Nat) (v1 : Int32) (h : mH) {res : Int32 × mH} (e : f_X8_twice v0 v1 h = some res) (q : (fun r : Int32 × mH => Q (some (.int r.1)) r.2) res) : mGo w kX8_twice 0 0 0 [some (va_rf v0), some (.int v1), none, none, none, none, none] [] h Q := by
  unfold f_X8_twice at e
  obtain ⟨_, _, e⟩ := mBind e
  refine mGo.aload_n (n := 1) (r := v0) dX8_twice_0 rfl rfl ?_
  obtain ⟨x1, e_x1, e⟩ := mBind e
  refine mGo.callV (n := 4) (y := zX8_emptyPlace) (R' := (mRoom (1) 0 0)) (as := []) (st := []) (r0 := v0) dX8_twice_1 sc_RX8_73 rfl (s_X8_emptyPlace v0 h e_x1) (e_X8_emptyPlace v0 h e_x1) (mFit_of rfl (Nat.le_of_ble_eq_true rfl) (by decide) (Nat.le_of_ble_eq_true rfl) (Nat.le_of_ble_eq_true rfl)) (Nat.le_of_ble_eq_true rfl) rfl rfl ?_
  intro _ _ hq
  rw [hq.1, hq.2]
  show mGo w kX8_twice 0 0 4 [some (va_rf v0), some (.int v1), none, none, none, none, none] [.int x1] h Q
  refine mGo.istore_n (n := 5) (ls' := [some (va_rf v0), some (.int v1), some (.int x1), none, none, none, none]) dX8_twice_4 rfl (Nat.le_of_ble_eq_true rfl) rfl ?_
  refine mGo.iload_n (n := 6) (x := x1) dX8_twice_5 rfl rfl ?_
  refine mGo.iconst (n := 7) (v := (-1 : Int32)) dX8_twice_6 (by decide) rfl ?_
  refine mGo.icmp_eq (tgt := 34) (n := 10) dX8_twice_7 (by decide) rfl (fun hc => ?_) (fun hc => ?_)
  · replace e := mIft hc e
    refine mGo.iconst (n := 35) (v := (-1 : Int32)) dX8_twice_34 (by decide) rfl ?_
    cases e
    exact mGo.iret dX8_twice_35 rfl (Nat.le_of_ble_eq_true rfl) (Nat.le_of_ble_eq_true rfl) q
  · replace e := mIff hc e
    refine mGo.iload_n (n := 11) (x := v1) dX8_twice_10 rfl rfl ?_
    obtain ⟨x2, e_x2, e⟩ := mBind e
    refine mGo.callS (n := 14) (y := zX2_prime) (R' := (mRoom (1) 0 0)) (as := [.int v1]) (st := []) dX8_twice_11 sc_RX8_85 rfl (e_X2_prime v1 h e_x2) (mFit_of rfl (Nat.le_of_ble_eq_true rfl) (by decide) (Nat.le_of_ble_eq_true rfl) (Nat.le_of_ble_eq_true rfl)) (Nat.le_of_ble_eq_true rfl) rfl rfl ?_
    intro _ _ hq
    rw [hq.1, hq.2]
    show mGo w kX8_twice 0 0 14 [some (va_rf v0), some (.int v1), some (.int x1), none, none, none, none] [.int x2] h Q
    refine mGo.if_eq (tgt := 34) (n := 17) dX8_twice_14 (by decide) rfl (fun hc => ?_) (fun hc => ?_)
    · replace e := mIft hc e
      refine mGo.iconst (n := 35) (v := (-1 : Int32)) dX8_twice_34 (by decide) rfl ?_
      cases e
      exact mGo.iret dX8_twice_35 rfl (Nat.le_of_ble_eq_true rfl) (Nat.le_of_ble_eq_true rfl) q
    · replace e := mIff hc e
      refine mGo.iload_n (n := 18) (x := v1) dX8_twice_17 rfl rfl ?_
      refine mGo.iconst (n := 19) (v := (4 : Int32)) dX8_twice_18 (by decide) rfl ?_
      refine mGo.irem (n := 20) dX8_twice_19 (by decide) rfl ?_
      refine mGo.iconst (n := 21) (v := (1 : Int32)) dX8_twice_20 (by decide) rfl ?_
      refine mGo.icmp_ne (tgt := 34) (n := 24) dX8_twice_21 (by decide) rfl (fun hc => ?_) (fun hc => ?_)
      · replace e := mIff hc e
        refine mGo.iconst (n := 35) (v := (-1 : Int32)) dX8_twice_34 (by decide) rfl ?_
        cases e
        exact mGo.iret dX8_twice_35 rfl (Nat.le_of_ble_eq_true rfl) (Nat.le_of_ble_eq_true rfl) q
      · replace e := mIft hc e
        refine mGo.iconst (n := 25) (v := (2 : Int32)) dX8_twice_24 (by decide) rfl ?_
        refine mGo.iload_n (n := 26) (x := v1) dX8_twice_25 rfl rfl ?_
        refine mGo.imul (n := 27) dX8_twice_26 rfl ?_
        refine mGo.iconst (n := 28) (v := (2 : Int32)) dX8_twice_27 (by decide) rfl ?_
        refine mGo.iadd (n := 29) dX8_twice_28 rfl ?_
        refine mGo.bipush (n := 31) (v := (28 : Int32)) dX8_twice_29 (by decide) rfl ?_
        refine mGo.icmp_le (tgt := 36) (n := 34) dX8_twice_31 (by decide) rfl (fun hc => ?_) (fun hc => ?_)
        · replace e := mIft hc e
          refine mGo.aload_n (n := 37) (r := v0) dX8_twice_36 rfl rfl ?_
          obtain ⟨x3, e_x3, e⟩ := mBind e
          refine mGo.getR (n := 40) dX8_twice_37 sf_RX8_11 e_x3 rfl ?_
          refine mGo.iload_n (n := 41) (x := x1) dX8_twice_40 rfl rfl ?_
          obtain ⟨x4, e_x4, e⟩ := mBind e
          refine mGo.aald (n := 42) dX8_twice_41 e_x4 rfl ?_
          refine mGo.astore_n (n := 43) (ls' := [some (va_rf v0), some (.int v1), some (.int x1), some (va_rf x4), none, none, none]) dX8_twice_42 rfl (Nat.le_of_ble_eq_true rfl) rfl ?_
          refine mGo.aload_n (n := 44) (r := x4) dX8_twice_43 rfl rfl ?_
          refine mGo.iconst (n := 45) (v := (2 : Int32)) dX8_twice_44 (by decide) rfl ?_
          refine mGo.iload_n (n := 46) (x := v1) dX8_twice_45 rfl rfl ?_
          refine mGo.imul (n := 47) dX8_twice_46 rfl ?_
          refine mGo.iconst (n := 48) (v := (2 : Int32)) dX8_twice_47 (by decide) rfl ?_
          refine mGo.iadd (n := 49) dX8_twice_48 rfl ?_
          obtain ⟨x5, e_x5, e⟩ := mBind e
          refine mGo.callV (n := 52) (y := zX7_begin) (R' := (mRoom (2) 0 0)) (as := [.int (((2 : Int32) * v1) + (2 : Int32))]) (st := []) (r0 := x4) dX8_twice_49 sc_RX8_91 rfl (s_X7_begin x4 (((2 : Int32) * v1) + (2 : Int32)) h e_x5) (e_X7_begin x4 (((2 : Int32) * v1) + (2 : Int32)) h e_x5) (mFit_of rfl (Nat.le_of_ble_eq_true rfl) (by decide) (Nat.le_of_ble_eq_true rfl) (Nat.le_of_ble_eq_true rfl)) (Nat.le_of_ble_eq_true rfl) rfl rfl ?_
          intro _ _ hq
          rw [hq.1, hq.2]
          show mGo w kX8_twice 0 0 52 [some (va_rf v0), some (.int v1), some (.int x1), some (va_rf x4), none, none, none] [] x5 Q
          refine mGo.iload_n (n := 53) (x := v1) dX8_twice_52 rfl rfl ?_
          obtain ⟨x6, e_x6, e⟩ := mBind e
          refine mGo.callS (n := 56) (y := zX2_squares) (R' := (mRoom (4) 0 0)) (as := [.int v1]) (st := []) dX8_twice_53 sc_RX8_95 rfl (e_X2_squares v1 x5 e_x6) (mFit_of rfl (Nat.le_of_ble_eq_true rfl) (by decide) (Nat.le_of_ble_eq_true rfl) (Nat.le_of_ble_eq_true rfl)) (Nat.le_of_ble_eq_true rfl) rfl rfl ?_
          intro _ _ hq
          rw [hq.1, hq.2]
          show mGo w kX8_twice 0 0 56 [some (va_rf v0), some (.int v1), some (.int x1), some (va_rf x4), none, none, none] [.int x6] x5 Q
          refine mGo.istore (n := 58) (ls' := [some (va_rf v0), some (.int v1), some (.int x1), some (va_rf x4), some (.int x6), none, none]) dX8_twice_56 ((mSt_set (fun u _ hu => by cases hu; exact mRfc _)).trans rfl) (Nat.le_of_ble_eq_true rfl) rfl ?_
          refine mGo.iconst (n := 59) (v := (0 : Int32)) dX8_twice_58 (by decide) rfl ?_
          refine mGo.istore (n := 61) (ls' := [some (va_rf v0), some (.int v1), some (.int x1), some (va_rf x4), some (.int x6), some (.int (0 : Int32)), none]) dX8_twice_59 rfl (Nat.le_of_ble_eq_true rfl) rfl ?_
          refine mGo.mk [false, true, true, true, true, true, false] ?_
          exact g_X8_twice_l61 v1 x1 x4 x6 (0 : Int32) x5 e q
        · replace e := mIff hc e
          refine mGo.iconst (n := 35) (v := (-1 : Int32)) dX8_twice_34 (by decide) rfl ?_
          cases e
          exact mGo.iret dX8_twice_35 rfl (Nat.le_of_ble_eq_true rfl) (Nat.le_of_ble_eq_true rfl) q
theorem e_X8_twice {w : mWp} (v0 : Option Nat) (v1 : Int32) (h : mH) {res : Int32 × mH} (e : f_X8_twice v0 v1 h = some res) : mEx w zX8_twice (mRoom 5 0 0) [va_rf v0, .int v1] h (fun r h2 => r = some (.int res.1) ∧ h2 = res.2) := by
  refine mEx.of (by decide +kernel) (show mEnt [va_rf v0, .int v1] 7 = [some (va_rf v0), some (.int v1), none, none, none, none, none] by rw [mEnt_r, mEnt_i] <;> rfl) (by simp only [List.map_cons, List.map_nil, mRfc, mCi, mCj, List.sum_cons, List.sum_nil]; exact Nat.le_of_ble_eq_true rfl) ?_
  refine g_X8_twice v0 v1 h e ?_
  exact ⟨rfl, rfl⟩
theorem s_X8_twice (v0 : Option Nat) (v1 : Int32) (h : mH) {res : Int32 × mH} (e : f_X8_twice v0 v1 h = some res) : mIs h v0 7 = some () := by
  unfold f_X8_twice at e
  obtain ⟨u, e1, _⟩ := mBind e
  cases u
  exact e1
-- X8_tableAt
def kX8_tableAt : mK := (cX8_tableAt, RX8, 2, some (.object "SignTables$Table"), "tableAt", mRoom 1 0 0)
def zX8_tableAt : mY := (yX8_tableAt, cX8_tableAt, 2, some (.object "SignTables$Table"))
def f_X8_tableAt (v0 : Option Nat) (v1 : Int32) (h : mH) : Option (Option Nat) :=
  (mIs h v0 7).bind fun _ =>
  if v1 < 0 then
    some none
  else
    if (6 : Int32) ≤ v1 then
      some none
    else
      (mGR h v0 7 0).bind fun x1 =>
      (mAR h x1 v1).bind fun x2 =>
      (mGI h x2 6 0).bind fun x3 =>
      if x3 = 0 then
        some none
      else
        (mGR h v0 7 0).bind fun x4 =>
        (mAR h x4 v1).bind fun x5 =>
        some x5
set_option maxRecDepth 100000 in
set_option maxHeartbeats 4000000 in
theorem g_X8_tableAt {w : mWp} {Q : Option Value → mH → Prop} (v0 : Option Nat) (v1 : Int32) (h : mH) {res : Option Nat} (e : f_X8_tableAt v0 v1 h = some res) (q : (fun r : Option Nat => Q (some (va_rf r)) h) res) : mGo w kX8_tableAt 0 0 0 [some (va_rf v0), some (.int v1)] [] h Q := by
  unfold f_X8_tableAt at e
  obtain ⟨_, _, e⟩ := mBind e
  refine mGo.iload_n (n := 1) (x := v1) dX8_tableAt_0 rfl rfl ?_
  refine mGo.if_lt (tgt := 22) (n := 4) dX8_tableAt_1 (by decide) rfl (fun hc => ?_) (fun hc => ?_)
  · replace e := mIft hc e
    refine mGo.anull (n := 23) dX8_tableAt_22 rfl ?_
    cases e
    exact mGo.aret dX8_tableAt_23 rfl (Nat.le_of_ble_eq_true rfl) (Nat.le_of_ble_eq_true rfl) q
  · replace e := mIff hc e
    refine mGo.iload_n (n := 5) (x := v1) dX8_tableAt_4 rfl rfl ?_
    refine mGo.bipush (n := 7) (v := (6 : Int32)) dX8_tableAt_5 (by decide) rfl ?_
    refine mGo.icmp_ge (tgt := 22) (n := 10) dX8_tableAt_7 (by decide) rfl (fun hc => ?_) (fun hc => ?_)
    · replace e := mIft hc e
      refine mGo.anull (n := 23) dX8_tableAt_22 rfl ?_
      cases e
      exact mGo.aret dX8_tableAt_23 rfl (Nat.le_of_ble_eq_true rfl) (Nat.le_of_ble_eq_true rfl) q
    · replace e := mIff hc e
      refine mGo.aload_n (n := 11) (r := v0) dX8_tableAt_10 rfl rfl ?_
      obtain ⟨x1, e_x1, e⟩ := mBind e
      refine mGo.getR (n := 14) dX8_tableAt_11 sf_RX8_11 e_x1 rfl ?_
      refine mGo.iload_n (n := 15) (x := v1) dX8_tableAt_14 rfl rfl ?_
      obtain ⟨x2, e_x2, e⟩ := mBind e
      refine mGo.aald (n := 16) dX8_tableAt_15 e_x2 rfl ?_
      obtain ⟨x3, e_x3, e⟩ := mBind e
      refine mGo.getI (n := 19) dX8_tableAt_16 sf_RX8_122 e_x3 rfl ?_
      refine mGo.if_ne (tgt := 24) (n := 22) dX8_tableAt_19 (by decide) rfl (fun hc => ?_) (fun hc => ?_)
      · replace e := mIff hc e
        refine mGo.aload_n (n := 25) (r := v0) dX8_tableAt_24 rfl rfl ?_
        obtain ⟨x4, e_x4, e⟩ := mBind e
        refine mGo.getR (n := 28) dX8_tableAt_25 sf_RX8_11 e_x4 rfl ?_
        refine mGo.iload_n (n := 29) (x := v1) dX8_tableAt_28 rfl rfl ?_
        obtain ⟨x5, e_x5, e⟩ := mBind e
        refine mGo.aald (n := 30) dX8_tableAt_29 e_x5 rfl ?_
        cases e
        exact mGo.aret dX8_tableAt_30 rfl (Nat.le_of_ble_eq_true rfl) (Nat.le_of_ble_eq_true rfl) q
      · replace e := mIft hc e
        refine mGo.anull (n := 23) dX8_tableAt_22 rfl ?_
        cases e
        exact mGo.aret dX8_tableAt_23 rfl (Nat.le_of_ble_eq_true rfl) (Nat.le_of_ble_eq_true rfl) q
theorem e_X8_tableAt {w : mWp} (v0 : Option Nat) (v1 : Int32) (h : mH) {res : Option Nat} (e : f_X8_tableAt v0 v1 h = some res) : mEx w zX8_tableAt (mRoom 1 0 0) [va_rf v0, .int v1] h (fun r h2 => r = some (va_rf res) ∧ h2 = h) := by
  refine mEx.of (by decide +kernel) (show mEnt [va_rf v0, .int v1] 2 = [some (va_rf v0), some (.int v1)] by rw [mEnt_r, mEnt_i] <;> rfl) (by simp only [List.map_cons, List.map_nil, mRfc, mCi, mCj, List.sum_cons, List.sum_nil]; exact Nat.le_of_ble_eq_true rfl) ?_
  refine g_X8_tableAt v0 v1 h e ?_
  exact ⟨rfl, rfl⟩
theorem s_X8_tableAt (v0 : Option Nat) (v1 : Int32) (h : mH) {res : Option Nat} (e : f_X8_tableAt v0 v1 h = some res) : mIs h v0 7 = some () := by
  unfold f_X8_tableAt at e
  obtain ⟨u, e1, _⟩ := mBind e
  cases u
  exact e1
-- X8_doubled
def kX8_doubled : mK := (cX8_doubled, RX8, 8, some (.int), "doubled", mRoom 3 0 0)
def zX8_doubled : mY := (yX8_doubled, cX8_doubled, 8, some (.int))
set_option maxRecDepth 100000 in
theorem sc_RX8_118 : mSV RX8 118 zX8_tableAt 1 7 := ⟨Or.inl (mT_at 386 (by decide +kernel) rfl), mT_at 388 (by decide +kernel) rfl, mT_at 6 (by decide +kernel) rfl, mT_at 83 (by decide +kernel) rfl, mT_at 389 (by decide +kernel) rfl, ⟨by decide +kernel, by decide +kernel, by decide +kernel⟩, by decide, rfl⟩
set_option maxRecDepth 100000 in
theorem sc_RX8_128 : mSV RX8 128 zX7_mask 0 6 := ⟨Or.inr ⟨_, mNest_at 308 (x := Cond.methodLinkNest RX8 128 yX7_mask "SignTables") (by decide +kernel) rfl⟩, mT_at 392 (by decide +kernel) rfl, mT_at 7 (by decide +kernel) rfl, mT_at 84 (by decide +kernel) rfl, mT_at 393 (by decide +kernel) rfl, ⟨by decide +kernel, by decide +kernel, by decide +kernel⟩, by decide, rfl⟩
def f_X8_doubled_b59 (v2 : Option Nat) (v3 : Int32) (v4 : Int32) (v5 : Option Nat) (v6 : Int32) (h : mH) : Option ((Int32 × mH) ⊕ (Int32 × mH)) :=
  if v4 ≤ v6 then
    some (Sum.inr (v3, h))
  else
    (mGR h v2 6 1).bind fun x1 =>
    (mAI h x1 v6).bind fun x2 =>
    (mGR h v5 6 1).bind fun x3 =>
    (mSI h x3 v6 (x2 ||| (x2 <<< (v4 &&& 31)))).bind fun h4 =>
    (mGR h4 v5 6 1).bind fun x5 =>
    (f_X7_mask v2 h4).bind fun x6 =>
    (mSI h4 x5 (v4 + v6) (x2 ||| ((x2 ^^^ x6) <<< (v4 &&& 31)))).bind fun h7 =>
    some (Sum.inl ((v6 + 1), h7))
set_option maxRecDepth 100000 in
set_option maxHeartbeats 4000000 in
theorem g_X8_doubled_b59 {w : mWp} {Q : Option Value → mH → Prop} (v2 : Option Nat) (v3 : Int32) (v4 : Int32) (v5 : Option Nat) (v6 : Int32) (h : mH) {res : (Int32 × mH) ⊕ (Int32 × mH)} (e : f_X8_doubled_b59 v2 v3 v4 v5 v6 h = some res) (q : (Sum.elim (fun x : Int32 × mH => mGo w kX8_doubled 0 0 59 [none, none, some (va_rf v2), some (.int v3), some (.int v4), some (va_rf v5), some (.int x.1), none] [] x.2 Q) (fun r : Int32 × mH => Q (some (.int r.1)) r.2)) res) : mGo w kX8_doubled 0 0 59 [none, none, some (va_rf v2), some (.int v3), some (.int v4), some (va_rf v5), some (.int v6), none] [] h Q := by
  unfold f_X8_doubled_b59 at e
  refine mGo.iload (n := 61) (x := v6) dX8_doubled_59 rfl rfl ?_
  refine mGo.iload (n := 63) (x := v4) dX8_doubled_61 rfl rfl ?_
  refine mGo.icmp_ge (tgt := 121) (n := 66) dX8_doubled_63 (by decide) rfl (fun hc => ?_) (fun hc => ?_)
  · replace e := mIft hc e
    refine mGo.iload_n (n := 122) (x := v3) dX8_doubled_121 rfl rfl ?_
    cases e
    exact mGo.iret dX8_doubled_122 rfl (Nat.le_of_ble_eq_true rfl) (Nat.le_of_ble_eq_true rfl) q
  · replace e := mIff hc e
    refine mGo.aload_n (n := 67) (r := v2) dX8_doubled_66 rfl rfl ?_
    obtain ⟨x1, e_x1, e⟩ := mBind e
    refine mGo.getR (n := 70) dX8_doubled_67 sf_RX8_125 e_x1 rfl ?_
    refine mGo.iload (n := 72) (x := v6) dX8_doubled_70 rfl rfl ?_
    obtain ⟨x2, e_x2, e⟩ := mBind e
    refine mGo.iald (n := 73) dX8_doubled_72 e_x2 rfl ?_
    refine mGo.istore (n := 75) (ls' := [none, none, some (va_rf v2), some (.int v3), some (.int v4), some (va_rf v5), some (.int v6), some (.int x2)]) dX8_doubled_73 rfl (Nat.le_of_ble_eq_true rfl) rfl ?_
    refine mGo.aload (n := 77) (r := v5) dX8_doubled_75 rfl rfl ?_
    obtain ⟨x3, e_x3, e⟩ := mBind e
    refine mGo.getR (n := 80) dX8_doubled_77 sf_RX8_125 e_x3 rfl ?_
    refine mGo.iload (n := 82) (x := v6) dX8_doubled_80 rfl rfl ?_
    refine mGo.iload (n := 84) (x := x2) dX8_doubled_82 rfl rfl ?_
    refine mGo.iload (n := 86) (x := x2) dX8_doubled_84 rfl rfl ?_
    refine mGo.iload (n := 88) (x := v4) dX8_doubled_86 rfl rfl ?_
    refine mGo.ishl (n := 89) dX8_doubled_88 rfl ?_
    refine mGo.ior (n := 90) dX8_doubled_89 rfl ?_
    obtain ⟨h4, e_h4, e⟩ := mBind e
    refine mGo.iast (n := 91) dX8_doubled_90 e_h4 rfl ?_
    refine mGo.aload (n := 93) (r := v5) dX8_doubled_91 rfl rfl ?_
    obtain ⟨x5, e_x5, e⟩ := mBind e
    refine mGo.getR (n := 96) dX8_doubled_93 sf_RX8_125 e_x5 rfl ?_
    refine mGo.iload (n := 98) (x := v4) dX8_doubled_96 rfl rfl ?_
    refine mGo.iload (n := 100) (x := v6) dX8_doubled_98 rfl rfl ?_
    refine mGo.iadd (n := 101) dX8_doubled_100 rfl ?_
    refine mGo.iload (n := 103) (x := x2) dX8_doubled_101 rfl rfl ?_
    refine mGo.iload (n := 105) (x := x2) dX8_doubled_103 rfl rfl ?_
    refine mGo.aload_n (n := 106) (r := v2) dX8_doubled_105 rfl rfl ?_
    obtain ⟨x6, e_x6, e⟩ := mBind e
    refine mGo.callV (n := 109) (y := zX7_mask) (R' := (mRoom (1) 0 0)) (as := []) (st := [.int x2, .int x2, .int (v4 + v6), va_rf x5]) (r0 := v2) dX8_doubled_106 sc_RX8_128 rfl (s_X7_mask v2 h4 e_x6) (e_X7_mask v2 h4 e_x6) (mFit_of rfl (Nat.le_of_ble_eq_true rfl) (by decide) (Nat.le_of_ble_eq_true rfl) (Nat.le_of_ble_eq_true rfl)) (mCat8 (Nat.le_of_ble_eq_true rfl)) rfl rfl ?_
    intro _ _ hq
    rw [hq.1, hq.2]
    show mGo w kX8_doubled 0 0 109 [none, none, some (va_rf v2), some (.int v3), some (.int v4), some (va_rf v5), some (.int v6), some (.int x2)] [.int x6, .int x2, .int x2, .int (v4 + v6), va_rf x5] h4 Q
    refine mGo.ixor (n := 110) dX8_doubled_109 rfl ?_
    refine mGo.iload (n := 112) (x := v4) dX8_doubled_110 rfl rfl ?_
    refine mGo.ishl (n := 113) dX8_doubled_112 rfl ?_
    refine mGo.ior (n := 114) dX8_doubled_113 rfl ?_
    obtain ⟨h7, e_h7, e⟩ := mBind e
    refine mGo.iast (n := 115) dX8_doubled_114 e_h7 rfl ?_
    refine mGo.iinc (n := 118) (x := v6) (v := (v6 + 1)) (ls' := [none, none, some (va_rf v2), some (.int v3), some (.int v4), some (va_rf v5), some (.int (v6 + 1)), some (.int x2)]) dX8_doubled_115 rfl rfl ((mSt_set (fun u _ hu => by cases hu; exact mRfc _)).trans rfl) (Nat.le_of_ble_eq_true rfl) rfl ?_
    refine mGo.goto (tgt := 59) dX8_doubled_118 (by decide) ?_
    cases e
    refine mGo.mk [false, false, true, true, true, true, true, false] ?_
    exact q
noncomputable def f_X8_doubled_l59 (v2 : Option Nat) (v3 : Int32) (v4 : Int32) (v5 : Option Nat) (v6 : Int32) (h : mH) : Option (Int32 × mH) :=
  mLoop (fun x : Int32 × mH => f_X8_doubled_b59 v2 v3 v4 v5 x.1 x.2) (v6, h)
set_option maxRecDepth 100000 in
set_option maxHeartbeats 4000000 in
theorem g_X8_doubled_l59 {w : mWp} {Q : Option Value → mH → Prop} (v2 : Option Nat) (v3 : Int32) (v4 : Int32) (v5 : Option Nat) (v6 : Int32) (h : mH) {res : Int32 × mH} (e : f_X8_doubled_l59 v2 v3 v4 v5 v6 h = some res) (q : (fun r : Int32 × mH => Q (some (.int r.1)) r.2) res) : mGo w kX8_doubled 0 0 59 [none, none, some (va_rf v2), some (.int v3), some (.int v4), some (va_rf v5), some (.int v6), none] [] h Q := by
  unfold f_X8_doubled_l59 at e
  refine mLoop_go (x := (v6, h)) (fun x : Int32 × mH => mGo w kX8_doubled 0 0 59 [none, none, some (va_rf v2), some (.int v3), some (.int v4), some (va_rf v5), some (.int x.1), none] [] x.2 Q) (fun r : Int32 × mH => Q (some (.int r.1)) r.2) ?_ e q
  rintro ⟨v6, h1⟩ res e q
  exact g_X8_doubled_b59 v2 v3 v4 v5 v6 h1 e q
noncomputable def f_X8_doubled (v0 : Option Nat) (v1 : Int32) (h : mH) : Option (Int32 × mH) :=
  (mIs h v0 7).bind fun _ =>
  (f_X8_tableAt v0 v1 h).bind fun x1 =>
  (f_X8_emptyPlace v0 h).bind fun x2 =>
  if x1 = none then
    some ((-1 : Int32), h)
  else
    if x2 = (-1 : Int32) then
      some ((-1 : Int32), h)
    else
      (mGI h x1 6 0).bind fun x3 =>
      if ((2 : Int32) * x3) ≤ (28 : Int32) then
        (mGI h x1 6 0).bind fun x4 =>
        (mGR h v0 7 0).bind fun x5 =>
        (mAR h x5 x2).bind fun x6 =>
        (f_X7_begin x6 ((2 : Int32) * x4) h).bind fun x7 =>
        f_X8_doubled_l59 x1 x2 x4 x6 (0 : Int32) x7
      else
        some ((-1 : Int32), h)
set_option maxRecDepth 100000 in
set_option maxHeartbeats 4000000 in
theorem g_X8_doubled {w : mWp} {Q : Option Value → mH → Prop} (v0 : Option Nat) (v1 : Int32) (h : mH) {res : Int32 × mH} (e : f_X8_doubled v0 v1 h = some res) (q : (fun r : Int32 × mH => Q (some (.int r.1)) r.2) res) : mGo w kX8_doubled 0 0 0 [some (va_rf v0), some (.int v1), none, none, none, none, none, none] [] h Q := by
  unfold f_X8_doubled at e
  obtain ⟨_, _, e⟩ := mBind e
  refine mGo.aload_n (n := 1) (r := v0) dX8_doubled_0 rfl rfl ?_
  refine mGo.iload_n (n := 2) (x := v1) dX8_doubled_1 rfl rfl ?_
  obtain ⟨x1, e_x1, e⟩ := mBind e
  refine mGo.callV (n := 5) (y := zX8_tableAt) (R' := (mRoom (1) 0 0)) (as := [.int v1]) (st := []) (r0 := v0) dX8_doubled_2 sc_RX8_118 rfl (s_X8_tableAt v0 v1 h e_x1) (e_X8_tableAt v0 v1 h e_x1) (mFit_of rfl (Nat.le_of_ble_eq_true rfl) (by decide) (Nat.le_of_ble_eq_true rfl) (Nat.le_of_ble_eq_true rfl)) (Nat.le_of_ble_eq_true rfl) rfl rfl ?_
  intro _ _ hq
  rw [hq.1, hq.2]
  show mGo w kX8_doubled 0 0 5 [some (va_rf v0), some (.int v1), none, none, none, none, none, none] [va_rf x1] h Q
  refine mGo.astore_n (n := 6) (ls' := [some (va_rf v0), some (.int v1), some (va_rf x1), none, none, none, none, none]) dX8_doubled_5 rfl (Nat.le_of_ble_eq_true rfl) rfl ?_
  refine mGo.aload_n (n := 7) (r := v0) dX8_doubled_6 rfl rfl ?_
  obtain ⟨x2, e_x2, e⟩ := mBind e
  refine mGo.callV (n := 10) (y := zX8_emptyPlace) (R' := (mRoom (1) 0 0)) (as := []) (st := []) (r0 := v0) dX8_doubled_7 sc_RX8_73 rfl (s_X8_emptyPlace v0 h e_x2) (e_X8_emptyPlace v0 h e_x2) (mFit_of rfl (Nat.le_of_ble_eq_true rfl) (by decide) (Nat.le_of_ble_eq_true rfl) (Nat.le_of_ble_eq_true rfl)) (Nat.le_of_ble_eq_true rfl) rfl rfl ?_
  intro _ _ hq
  rw [hq.1, hq.2]
  show mGo w kX8_doubled 0 0 10 [some (va_rf v0), some (.int v1), some (va_rf x1), none, none, none, none, none] [.int x2] h Q
  refine mGo.istore_n (n := 11) (ls' := [some (va_rf v0), some (.int v1), some (va_rf x1), some (.int x2), none, none, none, none]) dX8_doubled_10 ((mSt_set (fun u _ hu => by cases hu; exact mRfc _)).trans rfl) (Nat.le_of_ble_eq_true rfl) rfl ?_
  refine mGo.aload_n (n := 12) (r := x1) dX8_doubled_11 rfl rfl ?_
  refine mGo.ifnull (tgt := 31) (n := 15) dX8_doubled_12 (by decide) rfl (fun hc => ?_) (fun hc => ?_)
  · replace e := mIft hc e
    refine mGo.iconst (n := 32) (v := (-1 : Int32)) dX8_doubled_31 (by decide) rfl ?_
    cases e
    exact mGo.iret dX8_doubled_32 rfl (Nat.le_of_ble_eq_true rfl) (Nat.le_of_ble_eq_true rfl) q
  · replace e := mIff hc e
    refine mGo.iload_n (n := 16) (x := x2) dX8_doubled_15 rfl rfl ?_
    refine mGo.iconst (n := 17) (v := (-1 : Int32)) dX8_doubled_16 (by decide) rfl ?_
    refine mGo.icmp_eq (tgt := 31) (n := 20) dX8_doubled_17 (by decide) rfl (fun hc => ?_) (fun hc => ?_)
    · replace e := mIft hc e
      refine mGo.iconst (n := 32) (v := (-1 : Int32)) dX8_doubled_31 (by decide) rfl ?_
      cases e
      exact mGo.iret dX8_doubled_32 rfl (Nat.le_of_ble_eq_true rfl) (Nat.le_of_ble_eq_true rfl) q
    · replace e := mIff hc e
      refine mGo.iconst (n := 21) (v := (2 : Int32)) dX8_doubled_20 (by decide) rfl ?_
      refine mGo.aload_n (n := 22) (r := x1) dX8_doubled_21 rfl rfl ?_
      obtain ⟨x3, e_x3, e⟩ := mBind e
      refine mGo.getI (n := 25) dX8_doubled_22 sf_RX8_122 e_x3 rfl ?_
      refine mGo.imul (n := 26) dX8_doubled_25 rfl ?_
      refine mGo.bipush (n := 28) (v := (28 : Int32)) dX8_doubled_26 (by decide) rfl ?_
      refine mGo.icmp_le (tgt := 33) (n := 31) dX8_doubled_28 (by decide) rfl (fun hc => ?_) (fun hc => ?_)
      · replace e := mIft hc e
        refine mGo.aload_n (n := 34) (r := x1) dX8_doubled_33 rfl rfl ?_
        obtain ⟨x4, e_x4, e⟩ := mBind e
        refine mGo.getI (n := 37) dX8_doubled_34 sf_RX8_122 e_x4 rfl ?_
        refine mGo.istore (n := 39) (ls' := [some (va_rf v0), some (.int v1), some (va_rf x1), some (.int x2), some (.int x4), none, none, none]) dX8_doubled_37 rfl (Nat.le_of_ble_eq_true rfl) rfl ?_
        refine mGo.aload_n (n := 40) (r := v0) dX8_doubled_39 rfl rfl ?_
        obtain ⟨x5, e_x5, e⟩ := mBind e
        refine mGo.getR (n := 43) dX8_doubled_40 sf_RX8_11 e_x5 rfl ?_
        refine mGo.iload_n (n := 44) (x := x2) dX8_doubled_43 rfl rfl ?_
        obtain ⟨x6, e_x6, e⟩ := mBind e
        refine mGo.aald (n := 45) dX8_doubled_44 e_x6 rfl ?_
        refine mGo.astore (n := 47) (ls' := [some (va_rf v0), some (.int v1), some (va_rf x1), some (.int x2), some (.int x4), some (va_rf x6), none, none]) dX8_doubled_45 rfl (Nat.le_of_ble_eq_true rfl) rfl ?_
        refine mGo.aload (n := 49) (r := x6) dX8_doubled_47 rfl rfl ?_
        refine mGo.iconst (n := 50) (v := (2 : Int32)) dX8_doubled_49 (by decide) rfl ?_
        refine mGo.iload (n := 52) (x := x4) dX8_doubled_50 rfl rfl ?_
        refine mGo.imul (n := 53) dX8_doubled_52 rfl ?_
        obtain ⟨x7, e_x7, e⟩ := mBind e
        refine mGo.callV (n := 56) (y := zX7_begin) (R' := (mRoom (2) 0 0)) (as := [.int ((2 : Int32) * x4)]) (st := []) (r0 := x6) dX8_doubled_53 sc_RX8_91 rfl (s_X7_begin x6 ((2 : Int32) * x4) h e_x7) (e_X7_begin x6 ((2 : Int32) * x4) h e_x7) (mFit_of rfl (Nat.le_of_ble_eq_true rfl) (by decide) (Nat.le_of_ble_eq_true rfl) (Nat.le_of_ble_eq_true rfl)) (Nat.le_of_ble_eq_true rfl) rfl rfl ?_
        intro _ _ hq
        rw [hq.1, hq.2]
        show mGo w kX8_doubled 0 0 56 [some (va_rf v0), some (.int v1), some (va_rf x1), some (.int x2), some (.int x4), some (va_rf x6), none, none] [] x7 Q
        refine mGo.iconst (n := 57) (v := (0 : Int32)) dX8_doubled_56 (by decide) rfl ?_
        refine mGo.istore (n := 59) (ls' := [some (va_rf v0), some (.int v1), some (va_rf x1), some (.int x2), some (.int x4), some (va_rf x6), some (.int (0 : Int32)), none]) dX8_doubled_57 ((mSt_set (fun u _ hu => by cases hu; exact mRfc _)).trans rfl) (Nat.le_of_ble_eq_true rfl) rfl ?_
        refine mGo.mk [false, false, true, true, true, true, true, false] ?_
        exact g_X8_doubled_l59 x1 x2 x4 x6 (0 : Int32) x7 e q
      · replace e := mIff hc e
        refine mGo.iconst (n := 32) (v := (-1 : Int32)) dX8_doubled_31 (by decide) rfl ?_
        cases e
        exact mGo.iret dX8_doubled_32 rfl (Nat.le_of_ble_eq_true rfl) (Nat.le_of_ble_eq_true rfl) q
theorem e_X8_doubled {w : mWp} (v0 : Option Nat) (v1 : Int32) (h : mH) {res : Int32 × mH} (e : f_X8_doubled v0 v1 h = some res) : mEx w zX8_doubled (mRoom 3 0 0) [va_rf v0, .int v1] h (fun r h2 => r = some (.int res.1) ∧ h2 = res.2) := by
  refine mEx.of (by decide +kernel) (show mEnt [va_rf v0, .int v1] 8 = [some (va_rf v0), some (.int v1), none, none, none, none, none, none] by rw [mEnt_r, mEnt_i] <;> rfl) (by simp only [List.map_cons, List.map_nil, mRfc, mCi, mCj, List.sum_cons, List.sum_nil]; exact Nat.le_of_ble_eq_true rfl) ?_
  refine g_X8_doubled v0 v1 h e ?_
  exact ⟨rfl, rfl⟩
theorem s_X8_doubled (v0 : Option Nat) (v1 : Int32) (h : mH) {res : Int32 × mH} (e : f_X8_doubled v0 v1 h = some res) : mIs h v0 7 = some () := by
  unfold f_X8_doubled at e
  obtain ⟨u, e1, _⟩ := mBind e
  cases u
  exact e1
-- X8_productRow
def kX8_productRow : mK := (cX8_productRow, RX8, 9, some (.int), "productRow", mRoom 3 0 0)
def zX8_productRow : mY := (yX8_productRow, cX8_productRow, 9, some (.int))
set_option maxRecDepth 100000 in
theorem sc_RX8_168 : mSV RX8 168 zX7_isMinus 2 6 := ⟨Or.inr ⟨_, mNest_at 319 (x := Cond.methodLinkNest RX8 168 yX7_isMinus "SignTables") (by decide +kernel) rfl⟩, mT_at 403 (by decide +kernel) rfl, mT_at 8 (by decide +kernel) rfl, mT_at 84 (by decide +kernel) rfl, mT_at 404 (by decide +kernel) rfl, ⟨by decide +kernel, by decide +kernel, by decide +kernel⟩, by decide, rfl⟩
def f_X8_productRow_c57 (v0 : Option Nat) (v1 : Int32) (v4 : Int32) (v5 : Int32) (v6 : Int32) (v8 : Int32) (s0 : Int32) (s1 : Int32) (h : mH) : Option ((Int32 × Int32) ⊕ (Int32)) :=
  some (Sum.inl ((s0 ||| (s1 <<< ((v8 * v4) &&& 31))), (v8 + 1)))
set_option maxRecDepth 100000 in
set_option maxHeartbeats 4000000 in
theorem g_X8_productRow_c57 {w : mWp} {Q : Option Value → mH → Prop} (v0 : Option Nat) (v1 : Int32) (v4 : Int32) (v5 : Int32) (v6 : Int32) (v8 : Int32) (s0 : Int32) (s1 : Int32) (h : mH) {res : (Int32 × Int32) ⊕ (Int32)} (e : f_X8_productRow_c57 v0 v1 v4 v5 v6 v8 s0 s1 h = some res) (q : (Sum.elim (fun x : Int32 × Int32 => mGo w kX8_productRow 0 0 29 [some (va_rf v0), some (.int v1), none, none, some (.int v4), some (.int v5), some (.int v6), some (.int x.1), some (.int x.2)] [] h Q) (fun r : Int32 => Q (some (.int r)) h)) res) : mGo w kX8_productRow 0 0 57 [some (va_rf v0), some (.int v1), none, none, some (.int v4), some (.int v5), some (.int v6), none, some (.int v8)] [.int s1, .int s0] h Q := by
  unfold f_X8_productRow_c57 at e
  refine mGo.iload (n := 59) (x := v8) dX8_productRow_57 rfl rfl ?_
  refine mGo.iload (n := 61) (x := v4) dX8_productRow_59 rfl rfl ?_
  refine mGo.imul (n := 62) dX8_productRow_61 rfl ?_
  refine mGo.ishl (n := 63) dX8_productRow_62 rfl ?_
  refine mGo.ior (n := 64) dX8_productRow_63 rfl ?_
  refine mGo.istore (n := 66) (ls' := [some (va_rf v0), some (.int v1), none, none, some (.int v4), some (.int v5), some (.int v6), some (.int (s0 ||| (s1 <<< ((v8 * v4) &&& 31)))), some (.int v8)]) dX8_productRow_64 rfl (Nat.le_of_ble_eq_true rfl) rfl ?_
  refine mGo.iinc (n := 69) (x := v8) (v := (v8 + 1)) (ls' := [some (va_rf v0), some (.int v1), none, none, some (.int v4), some (.int v5), some (.int v6), some (.int (s0 ||| (s1 <<< ((v8 * v4) &&& 31)))), some (.int (v8 + 1))]) dX8_productRow_66 rfl rfl rfl (Nat.le_of_ble_eq_true rfl) rfl ?_
  refine mGo.goto (tgt := 29) dX8_productRow_69 (by decide) ?_
  cases e
  refine mGo.mk [true, true, false, false, true, true, true, true, true] ?_
  exact q
def f_X8_productRow_b29 (v0 : Option Nat) (v1 : Int32) (v4 : Int32) (v5 : Int32) (v6 : Int32) (v7 : Int32) (v8 : Int32) (h : mH) : Option ((Int32 × Int32) ⊕ (Int32)) :=
  (mGI h v0 6 0).bind fun x1 =>
  if x1 ≤ v8 then
    some (Sum.inr v7)
  else
    (f_X7_isMinus v0 v1 v8 h).bind fun x2 =>
    if x2 = 0 then
      f_X8_productRow_c57 v0 v1 v4 v5 v6 v8 v7 v5 h
    else
      f_X8_productRow_c57 v0 v1 v4 v5 v6 v8 v7 v6 h
set_option maxRecDepth 100000 in
set_option maxHeartbeats 4000000 in
theorem g_X8_productRow_b29 {w : mWp} {Q : Option Value → mH → Prop} (v0 : Option Nat) (v1 : Int32) (v4 : Int32) (v5 : Int32) (v6 : Int32) (v7 : Int32) (v8 : Int32) (h : mH) {res : (Int32 × Int32) ⊕ (Int32)} (e : f_X8_productRow_b29 v0 v1 v4 v5 v6 v7 v8 h = some res) (q : (Sum.elim (fun x : Int32 × Int32 => mGo w kX8_productRow 0 0 29 [some (va_rf v0), some (.int v1), none, none, some (.int v4), some (.int v5), some (.int v6), some (.int x.1), some (.int x.2)] [] h Q) (fun r : Int32 => Q (some (.int r)) h)) res) : mGo w kX8_productRow 0 0 29 [some (va_rf v0), some (.int v1), none, none, some (.int v4), some (.int v5), some (.int v6), some (.int v7), some (.int v8)] [] h Q := by
  unfold f_X8_productRow_b29 at e
  refine mGo.iload (n := 31) (x := v8) dX8_productRow_29 rfl rfl ?_
  refine mGo.aload_n (n := 32) (r := v0) dX8_productRow_31 rfl rfl ?_
  obtain ⟨x1, e_x1, e⟩ := mBind e
  refine mGo.getI (n := 35) dX8_productRow_32 sf_RX8_122 e_x1 rfl ?_
  refine mGo.icmp_ge (tgt := 72) (n := 38) dX8_productRow_35 (by decide) rfl (fun hc => ?_) (fun hc => ?_)
  · replace e := mIft hc e
    refine mGo.iload (n := 74) (x := v7) dX8_productRow_72 rfl rfl ?_
    cases e
    exact mGo.iret dX8_productRow_74 rfl (Nat.le_of_ble_eq_true rfl) (Nat.le_of_ble_eq_true rfl) q
  · replace e := mIff hc e
    refine mGo.iload (n := 40) (x := v7) dX8_productRow_38 rfl rfl ?_
    refine mGo.aload_n (n := 41) (r := v0) dX8_productRow_40 rfl rfl ?_
    refine mGo.iload_n (n := 42) (x := v1) dX8_productRow_41 rfl rfl ?_
    refine mGo.iload (n := 44) (x := v8) dX8_productRow_42 rfl rfl ?_
    obtain ⟨x2, e_x2, e⟩ := mBind e
    refine mGo.callV (n := 47) (y := zX7_isMinus) (R' := (mRoom (2) 0 0)) (as := [.int v1, .int v8]) (st := [.int v7]) (r0 := v0) dX8_productRow_44 sc_RX8_168 rfl (s_X7_isMinus v0 v1 v8 h e_x2) (e_X7_isMinus v0 v1 v8 h e_x2) (mFit_of rfl (Nat.le_of_ble_eq_true rfl) (by decide) (Nat.le_of_ble_eq_true rfl) (Nat.le_of_ble_eq_true rfl)) (Nat.le_of_ble_eq_true rfl) rfl rfl ?_
    intro _ _ hq
    rw [hq.1, hq.2]
    show mGo w kX8_productRow 0 0 47 [some (va_rf v0), some (.int v1), none, none, some (.int v4), some (.int v5), some (.int v6), some (.int v7), some (.int v8)] [.int x2, .int v7] h Q
    refine mGo.if_eq (tgt := 55) (n := 50) dX8_productRow_47 (by decide) rfl (fun hc => ?_) (fun hc => ?_)
    · replace e := mIft hc e
      refine mGo.iload (n := 57) (x := v5) dX8_productRow_55 rfl rfl ?_
      refine mGo.mk [true, true, false, false, true, true, true, false, true] ?_
      exact g_X8_productRow_c57 v0 v1 v4 v5 v6 v8 v7 v5 h e q
    · replace e := mIff hc e
      refine mGo.iload (n := 52) (x := v6) dX8_productRow_50 rfl rfl ?_
      refine mGo.goto (tgt := 57) dX8_productRow_52 (by decide) ?_
      refine mGo.mk [true, true, false, false, true, true, true, false, true] ?_
      exact g_X8_productRow_c57 v0 v1 v4 v5 v6 v8 v7 v6 h e q
noncomputable def f_X8_productRow_l29 (v0 : Option Nat) (v1 : Int32) (v4 : Int32) (v5 : Int32) (v6 : Int32) (v7 : Int32) (v8 : Int32) (h : mH) : Option (Int32) :=
  mLoop (fun x : Int32 × Int32 => f_X8_productRow_b29 v0 v1 v4 v5 v6 x.1 x.2 h) (v7, v8)
set_option maxRecDepth 100000 in
set_option maxHeartbeats 4000000 in
theorem g_X8_productRow_l29 {w : mWp} {Q : Option Value → mH → Prop} (v0 : Option Nat) (v1 : Int32) (v4 : Int32) (v5 : Int32) (v6 : Int32) (v7 : Int32) (v8 : Int32) (h : mH) {res : Int32} (e : f_X8_productRow_l29 v0 v1 v4 v5 v6 v7 v8 h = some res) (q : (fun r : Int32 => Q (some (.int r)) h) res) : mGo w kX8_productRow 0 0 29 [some (va_rf v0), some (.int v1), none, none, some (.int v4), some (.int v5), some (.int v6), some (.int v7), some (.int v8)] [] h Q := by
  unfold f_X8_productRow_l29 at e
  refine mLoop_go (x := (v7, v8)) (fun x : Int32 × Int32 => mGo w kX8_productRow 0 0 29 [some (va_rf v0), some (.int v1), none, none, some (.int v4), some (.int v5), some (.int v6), some (.int x.1), some (.int x.2)] [] h Q) (fun r : Int32 => Q (some (.int r)) h) ?_ e q
  rintro ⟨v7, v8⟩ res e q
  exact g_X8_productRow_b29 v0 v1 v4 v5 v6 v7 v8 h e q
noncomputable def f_X8_productRow (v0 : Option Nat) (v1 : Int32) (v2 : Option Nat) (v3 : Int32) (h : mH) : Option (Int32) :=
  (mGI h v2 6 0).bind fun x1 =>
  (mGR h v2 6 1).bind fun x2 =>
  (mAI h x2 v3).bind fun x3 =>
  (f_X7_mask v2 h).bind fun x4 =>
  f_X8_productRow_l29 v0 v1 x1 x3 (x3 ^^^ x4) (0 : Int32) (0 : Int32) h
set_option maxRecDepth 100000 in
set_option maxHeartbeats 4000000 in
theorem g_X8_productRow {w : mWp} {Q : Option Value → mH → Prop} (v0 : Option Nat) (v1 : Int32) (v2 : Option Nat) (v3 : Int32) (h : mH) {res : Int32} (e : f_X8_productRow v0 v1 v2 v3 h = some res) (q : (fun r : Int32 => Q (some (.int r)) h) res) : mGo w kX8_productRow 0 0 0 [some (va_rf v0), some (.int v1), some (va_rf v2), some (.int v3), none, none, none, none, none] [] h Q := by
  unfold f_X8_productRow at e
  refine mGo.aload_n (n := 1) (r := v2) dX8_productRow_0 rfl rfl ?_
  obtain ⟨x1, e_x1, e⟩ := mBind e
  refine mGo.getI (n := 4) dX8_productRow_1 sf_RX8_122 e_x1 rfl ?_
  refine mGo.istore (n := 6) (ls' := [some (va_rf v0), some (.int v1), some (va_rf v2), some (.int v3), some (.int x1), none, none, none, none]) dX8_productRow_4 rfl (Nat.le_of_ble_eq_true rfl) rfl ?_
  refine mGo.aload_n (n := 7) (r := v2) dX8_productRow_6 rfl rfl ?_
  obtain ⟨x2, e_x2, e⟩ := mBind e
  refine mGo.getR (n := 10) dX8_productRow_7 sf_RX8_125 e_x2 rfl ?_
  refine mGo.iload_n (n := 11) (x := v3) dX8_productRow_10 rfl rfl ?_
  obtain ⟨x3, e_x3, e⟩ := mBind e
  refine mGo.iald (n := 12) dX8_productRow_11 e_x3 rfl ?_
  refine mGo.istore (n := 14) (ls' := [some (va_rf v0), some (.int v1), some (va_rf v2), some (.int v3), some (.int x1), some (.int x3), none, none, none]) dX8_productRow_12 rfl (Nat.le_of_ble_eq_true rfl) rfl ?_
  refine mGo.iload (n := 16) (x := x3) dX8_productRow_14 rfl rfl ?_
  refine mGo.aload_n (n := 17) (r := v2) dX8_productRow_16 rfl rfl ?_
  obtain ⟨x4, e_x4, e⟩ := mBind e
  refine mGo.callV (n := 20) (y := zX7_mask) (R' := (mRoom (1) 0 0)) (as := []) (st := [.int x3]) (r0 := v2) dX8_productRow_17 sc_RX8_128 rfl (s_X7_mask v2 h e_x4) (e_X7_mask v2 h e_x4) (mFit_of rfl (Nat.le_of_ble_eq_true rfl) (by decide) (Nat.le_of_ble_eq_true rfl) (Nat.le_of_ble_eq_true rfl)) (Nat.le_of_ble_eq_true rfl) rfl rfl ?_
  intro _ _ hq
  rw [hq.1, hq.2]
  show mGo w kX8_productRow 0 0 20 [some (va_rf v0), some (.int v1), some (va_rf v2), some (.int v3), some (.int x1), some (.int x3), none, none, none] [.int x4, .int x3] h Q
  refine mGo.ixor (n := 21) dX8_productRow_20 rfl ?_
  refine mGo.istore (n := 23) (ls' := [some (va_rf v0), some (.int v1), some (va_rf v2), some (.int v3), some (.int x1), some (.int x3), some (.int (x3 ^^^ x4)), none, none]) dX8_productRow_21 rfl (Nat.le_of_ble_eq_true rfl) rfl ?_
  refine mGo.iconst (n := 24) (v := (0 : Int32)) dX8_productRow_23 (by decide) rfl ?_
  refine mGo.istore (n := 26) (ls' := [some (va_rf v0), some (.int v1), some (va_rf v2), some (.int v3), some (.int x1), some (.int x3), some (.int (x3 ^^^ x4)), some (.int (0 : Int32)), none]) dX8_productRow_24 rfl (Nat.le_of_ble_eq_true rfl) rfl ?_
  refine mGo.iconst (n := 27) (v := (0 : Int32)) dX8_productRow_26 (by decide) rfl ?_
  refine mGo.istore (n := 29) (ls' := [some (va_rf v0), some (.int v1), some (va_rf v2), some (.int v3), some (.int x1), some (.int x3), some (.int (x3 ^^^ x4)), some (.int (0 : Int32)), some (.int (0 : Int32))]) dX8_productRow_27 rfl (Nat.le_of_ble_eq_true rfl) rfl ?_
  refine mGo.mk [true, true, false, false, true, true, true, true, true] ?_
  exact g_X8_productRow_l29 v0 v1 x1 x3 (x3 ^^^ x4) (0 : Int32) (0 : Int32) h e q
theorem e_X8_productRow {w : mWp} (v0 : Option Nat) (v1 : Int32) (v2 : Option Nat) (v3 : Int32) (h : mH) {res : Int32} (e : f_X8_productRow v0 v1 v2 v3 h = some res) : mEx w zX8_productRow (mRoom 3 0 0) [va_rf v0, .int v1, va_rf v2, .int v3] h (fun r h2 => r = some (.int res) ∧ h2 = h) := by
  refine mEx.of (by decide +kernel) (show mEnt [va_rf v0, .int v1, va_rf v2, .int v3] 9 = [some (va_rf v0), some (.int v1), some (va_rf v2), some (.int v3), none, none, none, none, none] by rw [mEnt_r, mEnt_i, mEnt_r, mEnt_i] <;> rfl) (by simp only [List.map_cons, List.map_nil, mRfc, mCi, mCj, List.sum_cons, List.sum_nil]; exact Nat.le_of_ble_eq_true rfl) ?_
  refine g_X8_productRow v0 v1 v2 v3 h e ?_
  exact ⟨rfl, rfl⟩
-- X8_product
def kX8_product : mK := (cX8_product, RX8, 10, some (.int), "product", mRoom 4 0 0)
def zX8_product : mY := (yX8_product, cX8_product, 10, some (.int))
set_option maxRecDepth 100000 in
theorem sc_RX8_131 : mSS RX8 131 zX8_productRow 4 := ⟨Or.inl (mT_at 398 (by decide +kernel) rfl), mT_at 399 (by decide +kernel) rfl, mT_at 83 (by decide +kernel) rfl, mT_at 400 (by decide +kernel) rfl, ⟨by decide +kernel, by decide +kernel, by decide +kernel⟩⟩
noncomputable def f_X8_product_b94 (v3 : Option Nat) (v4 : Option Nat) (v5 : Int32) (v6 : Int32) (v7 : Option Nat) (v8 : Int32) (v9 : Int32) (h : mH) : Option ((Int32 × mH) ⊕ ((Int32 × mH) ⊕ (Int32 × mH))) :=
  if v6 ≤ v9 then
    some (Sum.inr (Sum.inl ((v8 + 1), h)))
  else
    (mGR h v7 6 1).bind fun x1 =>
    (f_X8_productRow v3 v8 v4 v9 h).bind fun x2 =>
    (mSI h x1 ((v8 * v6) + v9) x2).bind fun h3 =>
    some (Sum.inl ((v9 + 1), h3))
set_option maxRecDepth 100000 in
set_option maxHeartbeats 4000000 in
theorem g_X8_product_b94 {w : mWp} {Q : Option Value → mH → Prop} (v3 : Option Nat) (v4 : Option Nat) (v5 : Int32) (v6 : Int32) (v7 : Option Nat) (v8 : Int32) (v9 : Int32) (h : mH) {res : (Int32 × mH) ⊕ ((Int32 × mH) ⊕ (Int32 × mH))} (e : f_X8_product_b94 v3 v4 v5 v6 v7 v8 v9 h = some res) (q : (Sum.elim (fun x : Int32 × mH => mGo w kX8_product 0 0 94 [none, none, none, some (va_rf v3), some (va_rf v4), some (.int v5), some (.int v6), some (va_rf v7), some (.int v8), some (.int x.1)] [] x.2 Q) (Sum.elim (fun x : Int32 × mH => mGo w kX8_product 0 0 82 [none, none, none, some (va_rf v3), some (va_rf v4), some (.int v5), some (.int v6), some (va_rf v7), some (.int x.1), none] [] x.2 Q) (fun r : Int32 × mH => Q (some (.int r.1)) r.2))) res) : mGo w kX8_product 0 0 94 [none, none, none, some (va_rf v3), some (va_rf v4), some (.int v5), some (.int v6), some (va_rf v7), some (.int v8), some (.int v9)] [] h Q := by
  unfold f_X8_product_b94 at e
  refine mGo.iload (n := 96) (x := v9) dX8_product_94 rfl rfl ?_
  refine mGo.iload (n := 98) (x := v6) dX8_product_96 rfl rfl ?_
  refine mGo.icmp_ge (tgt := 131) (n := 101) dX8_product_98 (by decide) rfl (fun hc => ?_) (fun hc => ?_)
  · replace e := mIft hc e
    refine mGo.iinc (n := 134) (x := v8) (v := (v8 + 1)) (ls' := [none, none, none, some (va_rf v3), some (va_rf v4), some (.int v5), some (.int v6), some (va_rf v7), some (.int (v8 + 1)), some (.int v9)]) dX8_product_131 rfl rfl ((mSt_set (fun u _ hu => by cases hu; exact mRfc _)).trans rfl) (Nat.le_of_ble_eq_true rfl) rfl ?_
    refine mGo.goto (tgt := 82) dX8_product_134 (by decide) ?_
    cases e
    refine mGo.mk [false, false, false, true, true, true, true, true, true, false] ?_
    exact q
  · replace e := mIff hc e
    refine mGo.aload (n := 103) (r := v7) dX8_product_101 rfl rfl ?_
    obtain ⟨x1, e_x1, e⟩ := mBind e
    refine mGo.getR (n := 106) dX8_product_103 sf_RX8_125 e_x1 rfl ?_
    refine mGo.iload (n := 108) (x := v8) dX8_product_106 rfl rfl ?_
    refine mGo.iload (n := 110) (x := v6) dX8_product_108 rfl rfl ?_
    refine mGo.imul (n := 111) dX8_product_110 rfl ?_
    refine mGo.iload (n := 113) (x := v9) dX8_product_111 rfl rfl ?_
    refine mGo.iadd (n := 114) dX8_product_113 rfl ?_
    refine mGo.aload_n (n := 115) (r := v3) dX8_product_114 rfl rfl ?_
    refine mGo.iload (n := 117) (x := v8) dX8_product_115 rfl rfl ?_
    refine mGo.aload (n := 119) (r := v4) dX8_product_117 rfl rfl ?_
    refine mGo.iload (n := 121) (x := v9) dX8_product_119 rfl rfl ?_
    obtain ⟨x2, e_x2, e⟩ := mBind e
    refine mGo.callS (n := 124) (y := zX8_productRow) (R' := (mRoom (3) 0 0)) (as := [va_rf v3, .int v8, va_rf v4, .int v9]) (st := [.int ((v8 * v6) + v9), va_rf x1]) dX8_product_121 sc_RX8_131 rfl (e_X8_productRow v3 v8 v4 v9 h e_x2) (mFit_of rfl (Nat.le_of_ble_eq_true rfl) (by decide) (Nat.le_of_ble_eq_true rfl) (Nat.le_of_ble_eq_true rfl)) (mCat8 (Nat.le_of_ble_eq_true rfl)) rfl rfl ?_
    intro _ _ hq
    rw [hq.1, hq.2]
    show mGo w kX8_product 0 0 124 [none, none, none, some (va_rf v3), some (va_rf v4), some (.int v5), some (.int v6), some (va_rf v7), some (.int v8), some (.int v9)] [.int x2, .int ((v8 * v6) + v9), va_rf x1] h Q
    obtain ⟨h3, e_h3, e⟩ := mBind e
    refine mGo.iast (n := 125) dX8_product_124 e_h3 rfl ?_
    refine mGo.iinc (n := 128) (x := v9) (v := (v9 + 1)) (ls' := [none, none, none, some (va_rf v3), some (va_rf v4), some (.int v5), some (.int v6), some (va_rf v7), some (.int v8), some (.int (v9 + 1))]) dX8_product_125 rfl rfl rfl (Nat.le_of_ble_eq_true rfl) rfl ?_
    refine mGo.goto (tgt := 94) dX8_product_128 (by decide) ?_
    cases e
    refine mGo.mk [false, false, false, true, true, true, true, true, true, true] ?_
    exact q
noncomputable def f_X8_product_l94 (v3 : Option Nat) (v4 : Option Nat) (v5 : Int32) (v6 : Int32) (v7 : Option Nat) (v8 : Int32) (v9 : Int32) (h : mH) : Option ((Int32 × mH) ⊕ (Int32 × mH)) :=
  mLoop (fun x : Int32 × mH => f_X8_product_b94 v3 v4 v5 v6 v7 v8 x.1 x.2) (v9, h)
set_option maxRecDepth 100000 in
set_option maxHeartbeats 4000000 in
theorem g_X8_product_l94 {w : mWp} {Q : Option Value → mH → Prop} (v3 : Option Nat) (v4 : Option Nat) (v5 : Int32) (v6 : Int32) (v7 : Option Nat) (v8 : Int32) (v9 : Int32) (h : mH) {res : (Int32 × mH) ⊕ (Int32 × mH)} (e : f_X8_product_l94 v3 v4 v5 v6 v7 v8 v9 h = some res) (q : (Sum.elim (fun x : Int32 × mH => mGo w kX8_product 0 0 82 [none, none, none, some (va_rf v3), some (va_rf v4), some (.int v5), some (.int v6), some (va_rf v7), some (.int x.1), none] [] x.2 Q) (fun r : Int32 × mH => Q (some (.int r.1)) r.2)) res) : mGo w kX8_product 0 0 94 [none, none, none, some (va_rf v3), some (va_rf v4), some (.int v5), some (.int v6), some (va_rf v7), some (.int v8), some (.int v9)] [] h Q := by
  unfold f_X8_product_l94 at e
  refine mLoop_go (x := (v9, h)) (fun x : Int32 × mH => mGo w kX8_product 0 0 94 [none, none, none, some (va_rf v3), some (va_rf v4), some (.int v5), some (.int v6), some (va_rf v7), some (.int v8), some (.int x.1)] [] x.2 Q) (Sum.elim (fun x : Int32 × mH => mGo w kX8_product 0 0 82 [none, none, none, some (va_rf v3), some (va_rf v4), some (.int v5), some (.int v6), some (va_rf v7), some (.int x.1), none] [] x.2 Q) (fun r : Int32 × mH => Q (some (.int r.1)) r.2)) ?_ e q
  rintro ⟨v9, h1⟩ res e q
  exact g_X8_product_b94 v3 v4 v5 v6 v7 v8 v9 h1 e q
noncomputable def f_X8_product_b82 (v3 : Option Nat) (v4 : Option Nat) (v5 : Int32) (v6 : Int32) (v7 : Option Nat) (v8 : Int32) (h : mH) : Option ((Int32 × mH) ⊕ (Int32 × mH)) :=
  (mGI h v3 6 0).bind fun x1 =>
  if x1 ≤ v8 then
    some (Sum.inr (v5, h))
  else
    f_X8_product_l94 v3 v4 v5 v6 v7 v8 (0 : Int32) h
set_option maxRecDepth 100000 in
set_option maxHeartbeats 4000000 in
theorem g_X8_product_b82 {w : mWp} {Q : Option Value → mH → Prop} (v3 : Option Nat) (v4 : Option Nat) (v5 : Int32) (v6 : Int32) (v7 : Option Nat) (v8 : Int32) (h : mH) {res : (Int32 × mH) ⊕ (Int32 × mH)} (e : f_X8_product_b82 v3 v4 v5 v6 v7 v8 h = some res) (q : (Sum.elim (fun x : Int32 × mH => mGo w kX8_product 0 0 82 [none, none, none, some (va_rf v3), some (va_rf v4), some (.int v5), some (.int v6), some (va_rf v7), some (.int x.1), none] [] x.2 Q) (fun r : Int32 × mH => Q (some (.int r.1)) r.2)) res) : mGo w kX8_product 0 0 82 [none, none, none, some (va_rf v3), some (va_rf v4), some (.int v5), some (.int v6), some (va_rf v7), some (.int v8), none] [] h Q := by
  unfold f_X8_product_b82 at e
  refine mGo.iload (n := 84) (x := v8) dX8_product_82 rfl rfl ?_
  refine mGo.aload_n (n := 85) (r := v3) dX8_product_84 rfl rfl ?_
  obtain ⟨x1, e_x1, e⟩ := mBind e
  refine mGo.getI (n := 88) dX8_product_85 sf_RX8_122 e_x1 rfl ?_
  refine mGo.icmp_ge (tgt := 137) (n := 91) dX8_product_88 (by decide) rfl (fun hc => ?_) (fun hc => ?_)
  · replace e := mIft hc e
    refine mGo.iload (n := 139) (x := v5) dX8_product_137 rfl rfl ?_
    cases e
    exact mGo.iret dX8_product_139 rfl (Nat.le_of_ble_eq_true rfl) (Nat.le_of_ble_eq_true rfl) q
  · replace e := mIff hc e
    refine mGo.iconst (n := 92) (v := (0 : Int32)) dX8_product_91 (by decide) rfl ?_
    refine mGo.istore (n := 94) (ls' := [none, none, none, some (va_rf v3), some (va_rf v4), some (.int v5), some (.int v6), some (va_rf v7), some (.int v8), some (.int (0 : Int32))]) dX8_product_92 rfl (Nat.le_of_ble_eq_true rfl) rfl ?_
    refine mGo.mk [false, false, false, true, true, true, true, true, true, true] ?_
    exact g_X8_product_l94 v3 v4 v5 v6 v7 v8 (0 : Int32) h e q
noncomputable def f_X8_product_l82 (v3 : Option Nat) (v4 : Option Nat) (v5 : Int32) (v6 : Int32) (v7 : Option Nat) (v8 : Int32) (h : mH) : Option (Int32 × mH) :=
  mLoop (fun x : Int32 × mH => f_X8_product_b82 v3 v4 v5 v6 v7 x.1 x.2) (v8, h)
set_option maxRecDepth 100000 in
set_option maxHeartbeats 4000000 in
theorem g_X8_product_l82 {w : mWp} {Q : Option Value → mH → Prop} (v3 : Option Nat) (v4 : Option Nat) (v5 : Int32) (v6 : Int32) (v7 : Option Nat) (v8 : Int32) (h : mH) {res : Int32 × mH} (e : f_X8_product_l82 v3 v4 v5 v6 v7 v8 h = some res) (q : (fun r : Int32 × mH => Q (some (.int r.1)) r.2) res) : mGo w kX8_product 0 0 82 [none, none, none, some (va_rf v3), some (va_rf v4), some (.int v5), some (.int v6), some (va_rf v7), some (.int v8), none] [] h Q := by
  unfold f_X8_product_l82 at e
  refine mLoop_go (x := (v8, h)) (fun x : Int32 × mH => mGo w kX8_product 0 0 82 [none, none, none, some (va_rf v3), some (va_rf v4), some (.int v5), some (.int v6), some (va_rf v7), some (.int x.1), none] [] x.2 Q) (fun r : Int32 × mH => Q (some (.int r.1)) r.2) ?_ e q
  rintro ⟨v8, h1⟩ res e q
  exact g_X8_product_b82 v3 v4 v5 v6 v7 v8 h1 e q
noncomputable def f_X8_product (v0 : Option Nat) (v1 : Int32) (v2 : Int32) (h : mH) : Option (Int32 × mH) :=
  (mIs h v0 7).bind fun _ =>
  (f_X8_tableAt v0 v1 h).bind fun x1 =>
  (f_X8_tableAt v0 v2 h).bind fun x2 =>
  (f_X8_emptyPlace v0 h).bind fun x3 =>
  if x1 = none then
    some ((-1 : Int32), h)
  else
    if x2 = none then
      some ((-1 : Int32), h)
    else
      if x3 = (-1 : Int32) then
        some ((-1 : Int32), h)
      else
        (mGI h x1 6 0).bind fun x4 =>
        (mGI h x2 6 0).bind fun x5 =>
        if (x4 * x5) ≤ (28 : Int32) then
          (mGI h x2 6 0).bind fun x6 =>
          (mGR h v0 7 0).bind fun x7 =>
          (mAR h x7 x3).bind fun x8 =>
          (mGI h x1 6 0).bind fun x9 =>
          (f_X7_begin x8 (x9 * x6) h).bind fun x10 =>
          f_X8_product_l82 x1 x2 x3 x6 x8 (0 : Int32) x10
        else
          some ((-1 : Int32), h)
set_option maxRecDepth 100000 in
set_option maxHeartbeats 4000000 in
theorem g_X8_product {w : mWp} {Q : Option Value → mH → Prop} (v0 : Option Nat) (v1 : Int32) (v2 : Int32) (h : mH) {res : Int32 × mH} (e : f_X8_product v0 v1 v2 h = some res) (q : (fun r : Int32 × mH => Q (some (.int r.1)) r.2) res) : mGo w kX8_product 0 0 0 [some (va_rf v0), some (.int v1), some (.int v2), none, none, none, none, none, none, none] [] h Q := by
  unfold f_X8_product at e
  obtain ⟨_, _, e⟩ := mBind e
  refine mGo.aload_n (n := 1) (r := v0) dX8_product_0 rfl rfl ?_
  refine mGo.iload_n (n := 2) (x := v1) dX8_product_1 rfl rfl ?_
  obtain ⟨x1, e_x1, e⟩ := mBind e
  refine mGo.callV (n := 5) (y := zX8_tableAt) (R' := (mRoom (1) 0 0)) (as := [.int v1]) (st := []) (r0 := v0) dX8_product_2 sc_RX8_118 rfl (s_X8_tableAt v0 v1 h e_x1) (e_X8_tableAt v0 v1 h e_x1) (mFit_of rfl (Nat.le_of_ble_eq_true rfl) (by decide) (Nat.le_of_ble_eq_true rfl) (Nat.le_of_ble_eq_true rfl)) (Nat.le_of_ble_eq_true rfl) rfl rfl ?_
  intro _ _ hq
  rw [hq.1, hq.2]
  show mGo w kX8_product 0 0 5 [some (va_rf v0), some (.int v1), some (.int v2), none, none, none, none, none, none, none] [va_rf x1] h Q
  refine mGo.astore_n (n := 6) (ls' := [some (va_rf v0), some (.int v1), some (.int v2), some (va_rf x1), none, none, none, none, none, none]) dX8_product_5 rfl (Nat.le_of_ble_eq_true rfl) rfl ?_
  refine mGo.aload_n (n := 7) (r := v0) dX8_product_6 rfl rfl ?_
  refine mGo.iload_n (n := 8) (x := v2) dX8_product_7 rfl rfl ?_
  obtain ⟨x2, e_x2, e⟩ := mBind e
  refine mGo.callV (n := 11) (y := zX8_tableAt) (R' := (mRoom (1) 0 0)) (as := [.int v2]) (st := []) (r0 := v0) dX8_product_8 sc_RX8_118 rfl (s_X8_tableAt v0 v2 h e_x2) (e_X8_tableAt v0 v2 h e_x2) (mFit_of rfl (Nat.le_of_ble_eq_true rfl) (by decide) (Nat.le_of_ble_eq_true rfl) (Nat.le_of_ble_eq_true rfl)) (Nat.le_of_ble_eq_true rfl) rfl rfl ?_
  intro _ _ hq
  rw [hq.1, hq.2]
  show mGo w kX8_product 0 0 11 [some (va_rf v0), some (.int v1), some (.int v2), some (va_rf x1), none, none, none, none, none, none] [va_rf x2] h Q
  refine mGo.astore (n := 13) (ls' := [some (va_rf v0), some (.int v1), some (.int v2), some (va_rf x1), some (va_rf x2), none, none, none, none, none]) dX8_product_11 ((mSt_set (fun u _ hu => by cases hu; exact mRfc _)).trans rfl) (Nat.le_of_ble_eq_true rfl) rfl ?_
  refine mGo.aload_n (n := 14) (r := v0) dX8_product_13 rfl rfl ?_
  obtain ⟨x3, e_x3, e⟩ := mBind e
  refine mGo.callV (n := 17) (y := zX8_emptyPlace) (R' := (mRoom (1) 0 0)) (as := []) (st := []) (r0 := v0) dX8_product_14 sc_RX8_73 rfl (s_X8_emptyPlace v0 h e_x3) (e_X8_emptyPlace v0 h e_x3) (mFit_of rfl (Nat.le_of_ble_eq_true rfl) (by decide) (Nat.le_of_ble_eq_true rfl) (Nat.le_of_ble_eq_true rfl)) (Nat.le_of_ble_eq_true rfl) rfl rfl ?_
  intro _ _ hq
  rw [hq.1, hq.2]
  show mGo w kX8_product 0 0 17 [some (va_rf v0), some (.int v1), some (.int v2), some (va_rf x1), some (va_rf x2), none, none, none, none, none] [.int x3] h Q
  refine mGo.istore (n := 19) (ls' := [some (va_rf v0), some (.int v1), some (.int v2), some (va_rf x1), some (va_rf x2), some (.int x3), none, none, none, none]) dX8_product_17 ((mSt_set (fun u _ hu => by cases hu; exact mRfc _)).trans rfl) (Nat.le_of_ble_eq_true rfl) rfl ?_
  refine mGo.aload_n (n := 20) (r := x1) dX8_product_19 rfl rfl ?_
  refine mGo.ifnull (tgt := 49) (n := 23) dX8_product_20 (by decide) rfl (fun hc => ?_) (fun hc => ?_)
  · replace e := mIft hc e
    refine mGo.iconst (n := 50) (v := (-1 : Int32)) dX8_product_49 (by decide) rfl ?_
    cases e
    exact mGo.iret dX8_product_50 rfl (Nat.le_of_ble_eq_true rfl) (Nat.le_of_ble_eq_true rfl) q
  · replace e := mIff hc e
    refine mGo.aload (n := 25) (r := x2) dX8_product_23 rfl rfl ?_
    refine mGo.ifnull (tgt := 49) (n := 28) dX8_product_25 (by decide) rfl (fun hc => ?_) (fun hc => ?_)
    · replace e := mIft hc e
      refine mGo.iconst (n := 50) (v := (-1 : Int32)) dX8_product_49 (by decide) rfl ?_
      cases e
      exact mGo.iret dX8_product_50 rfl (Nat.le_of_ble_eq_true rfl) (Nat.le_of_ble_eq_true rfl) q
    · replace e := mIff hc e
      refine mGo.iload (n := 30) (x := x3) dX8_product_28 rfl rfl ?_
      refine mGo.iconst (n := 31) (v := (-1 : Int32)) dX8_product_30 (by decide) rfl ?_
      refine mGo.icmp_eq (tgt := 49) (n := 34) dX8_product_31 (by decide) rfl (fun hc => ?_) (fun hc => ?_)
      · replace e := mIft hc e
        refine mGo.iconst (n := 50) (v := (-1 : Int32)) dX8_product_49 (by decide) rfl ?_
        cases e
        exact mGo.iret dX8_product_50 rfl (Nat.le_of_ble_eq_true rfl) (Nat.le_of_ble_eq_true rfl) q
      · replace e := mIff hc e
        refine mGo.aload_n (n := 35) (r := x1) dX8_product_34 rfl rfl ?_
        obtain ⟨x4, e_x4, e⟩ := mBind e
        refine mGo.getI (n := 38) dX8_product_35 sf_RX8_122 e_x4 rfl ?_
        refine mGo.aload (n := 40) (r := x2) dX8_product_38 rfl rfl ?_
        obtain ⟨x5, e_x5, e⟩ := mBind e
        refine mGo.getI (n := 43) dX8_product_40 sf_RX8_122 e_x5 rfl ?_
        refine mGo.imul (n := 44) dX8_product_43 rfl ?_
        refine mGo.bipush (n := 46) (v := (28 : Int32)) dX8_product_44 (by decide) rfl ?_
        refine mGo.icmp_le (tgt := 51) (n := 49) dX8_product_46 (by decide) rfl (fun hc => ?_) (fun hc => ?_)
        · replace e := mIft hc e
          refine mGo.aload (n := 53) (r := x2) dX8_product_51 rfl rfl ?_
          obtain ⟨x6, e_x6, e⟩ := mBind e
          refine mGo.getI (n := 56) dX8_product_53 sf_RX8_122 e_x6 rfl ?_
          refine mGo.istore (n := 58) (ls' := [some (va_rf v0), some (.int v1), some (.int v2), some (va_rf x1), some (va_rf x2), some (.int x3), some (.int x6), none, none, none]) dX8_product_56 rfl (Nat.le_of_ble_eq_true rfl) rfl ?_
          refine mGo.aload_n (n := 59) (r := v0) dX8_product_58 rfl rfl ?_
          obtain ⟨x7, e_x7, e⟩ := mBind e
          refine mGo.getR (n := 62) dX8_product_59 sf_RX8_11 e_x7 rfl ?_
          refine mGo.iload (n := 64) (x := x3) dX8_product_62 rfl rfl ?_
          obtain ⟨x8, e_x8, e⟩ := mBind e
          refine mGo.aald (n := 65) dX8_product_64 e_x8 rfl ?_
          refine mGo.astore (n := 67) (ls' := [some (va_rf v0), some (.int v1), some (.int v2), some (va_rf x1), some (va_rf x2), some (.int x3), some (.int x6), some (va_rf x8), none, none]) dX8_product_65 rfl (Nat.le_of_ble_eq_true rfl) rfl ?_
          refine mGo.aload (n := 69) (r := x8) dX8_product_67 rfl rfl ?_
          refine mGo.aload_n (n := 70) (r := x1) dX8_product_69 rfl rfl ?_
          obtain ⟨x9, e_x9, e⟩ := mBind e
          refine mGo.getI (n := 73) dX8_product_70 sf_RX8_122 e_x9 rfl ?_
          refine mGo.iload (n := 75) (x := x6) dX8_product_73 rfl rfl ?_
          refine mGo.imul (n := 76) dX8_product_75 rfl ?_
          obtain ⟨x10, e_x10, e⟩ := mBind e
          refine mGo.callV (n := 79) (y := zX7_begin) (R' := (mRoom (2) 0 0)) (as := [.int (x9 * x6)]) (st := []) (r0 := x8) dX8_product_76 sc_RX8_91 rfl (s_X7_begin x8 (x9 * x6) h e_x10) (e_X7_begin x8 (x9 * x6) h e_x10) (mFit_of rfl (Nat.le_of_ble_eq_true rfl) (by decide) (Nat.le_of_ble_eq_true rfl) (Nat.le_of_ble_eq_true rfl)) (Nat.le_of_ble_eq_true rfl) rfl rfl ?_
          intro _ _ hq
          rw [hq.1, hq.2]
          show mGo w kX8_product 0 0 79 [some (va_rf v0), some (.int v1), some (.int v2), some (va_rf x1), some (va_rf x2), some (.int x3), some (.int x6), some (va_rf x8), none, none] [] x10 Q
          refine mGo.iconst (n := 80) (v := (0 : Int32)) dX8_product_79 (by decide) rfl ?_
          refine mGo.istore (n := 82) (ls' := [some (va_rf v0), some (.int v1), some (.int v2), some (va_rf x1), some (va_rf x2), some (.int x3), some (.int x6), some (va_rf x8), some (.int (0 : Int32)), none]) dX8_product_80 ((mSt_set (fun u _ hu => by cases hu; exact mRfc _)).trans rfl) (Nat.le_of_ble_eq_true rfl) rfl ?_
          refine mGo.mk [false, false, false, true, true, true, true, true, true, false] ?_
          exact g_X8_product_l82 x1 x2 x3 x6 x8 (0 : Int32) x10 e q
        · replace e := mIff hc e
          refine mGo.iconst (n := 50) (v := (-1 : Int32)) dX8_product_49 (by decide) rfl ?_
          cases e
          exact mGo.iret dX8_product_50 rfl (Nat.le_of_ble_eq_true rfl) (Nat.le_of_ble_eq_true rfl) q
theorem e_X8_product {w : mWp} (v0 : Option Nat) (v1 : Int32) (v2 : Int32) (h : mH) {res : Int32 × mH} (e : f_X8_product v0 v1 v2 h = some res) : mEx w zX8_product (mRoom 4 0 0) [va_rf v0, .int v1, .int v2] h (fun r h2 => r = some (.int res.1) ∧ h2 = res.2) := by
  refine mEx.of (by decide +kernel) (show mEnt [va_rf v0, .int v1, .int v2] 10 = [some (va_rf v0), some (.int v1), some (.int v2), none, none, none, none, none, none, none] by rw [mEnt_r, mEnt_i, mEnt_i] <;> rfl) (by simp only [List.map_cons, List.map_nil, mRfc, mCi, mCj, List.sum_cons, List.sum_nil]; exact Nat.le_of_ble_eq_true rfl) ?_
  refine g_X8_product v0 v1 v2 h e ?_
  exact ⟨rfl, rfl⟩
theorem s_X8_product (v0 : Option Nat) (v1 : Int32) (v2 : Int32) (h : mH) {res : Int32 × mH} (e : f_X8_product v0 v1 v2 h = some res) : mIs h v0 7 = some () := by
  unfold f_X8_product at e
  obtain ⟨u, e1, _⟩ := mBind e
  cases u
  exact e1
-- X8_fourWords
def kX8_fourWords : mK := (cX8_fourWords, RX8, 5, some (.int), "fourWords", mRoom 1 0 0)
def zX8_fourWords : mY := (yX8_fourWords, cX8_fourWords, 5, some (.int))
def f_X8_fourWords (v0 : Int32) (v1 : Int32) (v2 : Int32) (v3 : Int32) (v4 : Int32)  : Option (Int32) :=
  some (((v1 ||| (v2 <<< (v0 &&& 31))) ||| (v3 <<< (((2 : Int32) * v0) &&& 31))) ||| (v4 <<< (((3 : Int32) * v0) &&& 31)))
set_option maxRecDepth 100000 in
set_option maxHeartbeats 4000000 in
theorem g_X8_fourWords {w : mWp} {Q : Option Value → mH → Prop} (v0 : Int32) (v1 : Int32) (v2 : Int32) (v3 : Int32) (v4 : Int32) (h : mH) {res : Int32} (e : f_X8_fourWords v0 v1 v2 v3 v4 = some res) (q : (fun r : Int32 => Q (some (.int r)) h) res) : mGo w kX8_fourWords 0 0 0 [some (.int v0), some (.int v1), some (.int v2), some (.int v3), some (.int v4)] [] h Q := by
  unfold f_X8_fourWords at e
  refine mGo.iload_n (n := 1) (x := v1) dX8_fourWords_0 rfl rfl ?_
  refine mGo.iload_n (n := 2) (x := v2) dX8_fourWords_1 rfl rfl ?_
  refine mGo.iload_n (n := 3) (x := v0) dX8_fourWords_2 rfl rfl ?_
  refine mGo.ishl (n := 4) dX8_fourWords_3 rfl ?_
  refine mGo.ior (n := 5) dX8_fourWords_4 rfl ?_
  refine mGo.iload_n (n := 6) (x := v3) dX8_fourWords_5 rfl rfl ?_
  refine mGo.iconst (n := 7) (v := (2 : Int32)) dX8_fourWords_6 (by decide) rfl ?_
  refine mGo.iload_n (n := 8) (x := v0) dX8_fourWords_7 rfl rfl ?_
  refine mGo.imul (n := 9) dX8_fourWords_8 rfl ?_
  refine mGo.ishl (n := 10) dX8_fourWords_9 rfl ?_
  refine mGo.ior (n := 11) dX8_fourWords_10 rfl ?_
  refine mGo.iload (n := 13) (x := v4) dX8_fourWords_11 rfl rfl ?_
  refine mGo.iconst (n := 14) (v := (3 : Int32)) dX8_fourWords_13 (by decide) rfl ?_
  refine mGo.iload_n (n := 15) (x := v0) dX8_fourWords_14 rfl rfl ?_
  refine mGo.imul (n := 16) dX8_fourWords_15 rfl ?_
  refine mGo.ishl (n := 17) dX8_fourWords_16 rfl ?_
  refine mGo.ior (n := 18) dX8_fourWords_17 rfl ?_
  cases e
  exact mGo.iret dX8_fourWords_18 rfl (Nat.le_of_ble_eq_true rfl) (Nat.le_of_ble_eq_true rfl) q
theorem e_X8_fourWords {w : mWp} (v0 : Int32) (v1 : Int32) (v2 : Int32) (v3 : Int32) (v4 : Int32) (h : mH) {res : Int32} (e : f_X8_fourWords v0 v1 v2 v3 v4 = some res) : mEx w zX8_fourWords (mRoom 1 0 0) [.int v0, .int v1, .int v2, .int v3, .int v4] h (fun r h2 => r = some (.int res) ∧ h2 = h) := by
  refine mEx.of (by decide +kernel) rfl (Nat.le_of_ble_eq_true rfl) ?_
  refine g_X8_fourWords v0 v1 v2 v3 v4 h e ?_
  exact ⟨rfl, rfl⟩
-- X8_four
def kX8_four : mK := (cX8_four, RX8, 14, some (.int), "four", mRoom 3 0 0)
def zX8_four : mY := (yX8_four, cX8_four, 14, some (.int))
set_option maxRecDepth 100000 in
theorem sc_RX8_138 : mSS RX8 138 zX8_shiftedRound 3 := ⟨Or.inl (mT_at 410 (by decide +kernel) rfl), mT_at 411 (by decide +kernel) rfl, mT_at 83 (by decide +kernel) rfl, mT_at 412 (by decide +kernel) rfl, ⟨by decide +kernel, by decide +kernel, by decide +kernel⟩⟩
set_option maxRecDepth 100000 in
theorem sc_RX8_141 : mSS RX8 141 zX8_fourWords 5 := ⟨Or.inl (mT_at 413 (by decide +kernel) rfl), mT_at 414 (by decide +kernel) rfl, mT_at 83 (by decide +kernel) rfl, mT_at 415 (by decide +kernel) rfl, ⟨by decide +kernel, by decide +kernel, by decide +kernel⟩⟩
def f_X8_four_b88 (v1 : Int32) (v2 : Int32) (v3 : Int32) (v4 : Int32) (v5 : Int32) (v6 : Int32) (v7 : Int32) (v8 : Option Nat) (v9 : Int32) (h : mH) : Option ((Int32 × mH) ⊕ (Int32 × mH)) :=
  if v1 ≤ v9 then
    some (Sum.inr (v6, h))
  else
    (f_X8_shiftedRound v2 v1 v9).bind fun x1 =>
    (f_X8_shiftedRound v3 v1 v9).bind fun x2 =>
    (f_X8_shiftedRound v4 v1 v9).bind fun x3 =>
    (f_X8_shiftedRound v5 v1 v9).bind fun x4 =>
    (mGR h v8 6 1).bind fun x5 =>
    (f_X8_fourWords v1 x1 x2 x3 x4).bind fun x6 =>
    (mSI h x5 v9 x6).bind fun h7 =>
    (mGR h7 v8 6 1).bind fun x8 =>
    (f_X8_fourWords v1 (x2 ^^^ v7) x1 (x4 ^^^ v7) x3).bind fun x9 =>
    (mSI h7 x8 (v1 + v9) x9).bind fun h10 =>
    (mGR h10 v8 6 1).bind fun x11 =>
    (f_X8_fourWords v1 (x3 ^^^ v7) x4 x1 (x2 ^^^ v7)).bind fun x12 =>
    (mSI h10 x11 (((2 : Int32) * v1) + v9) x12).bind fun h13 =>
    (mGR h13 v8 6 1).bind fun x14 =>
    (f_X8_fourWords v1 (x4 ^^^ v7) (x3 ^^^ v7) x2 x1).bind fun x15 =>
    (mSI h13 x14 (((3 : Int32) * v1) + v9) x15).bind fun h16 =>
    some (Sum.inl ((v9 + 1), h16))
set_option maxRecDepth 100000 in
set_option maxHeartbeats 4000000 in
theorem g_X8_four_b88 {w : mWp} {Q : Option Value → mH → Prop} (v1 : Int32) (v2 : Int32) (v3 : Int32) (v4 : Int32) (v5 : Int32) (v6 : Int32) (v7 : Int32) (v8 : Option Nat) (v9 : Int32) (h : mH) {res : (Int32 × mH) ⊕ (Int32 × mH)} (e : f_X8_four_b88 v1 v2 v3 v4 v5 v6 v7 v8 v9 h = some res) (q : (Sum.elim (fun x : Int32 × mH => mGo w kX8_four 0 0 88 [none, some (.int v1), some (.int v2), some (.int v3), some (.int v4), some (.int v5), some (.int v6), some (.int v7), some (va_rf v8), some (.int x.1), none, none, none, none] [] x.2 Q) (fun r : Int32 × mH => Q (some (.int r.1)) r.2)) res) : mGo w kX8_four 0 0 88 [none, some (.int v1), some (.int v2), some (.int v3), some (.int v4), some (.int v5), some (.int v6), some (.int v7), some (va_rf v8), some (.int v9), none, none, none, none] [] h Q := by
  unfold f_X8_four_b88 at e
  refine mGo.iload (n := 90) (x := v9) dX8_four_88 rfl rfl ?_
  refine mGo.iload_n (n := 91) (x := v1) dX8_four_90 rfl rfl ?_
  refine mGo.icmp_ge (tgt := 246) (n := 94) dX8_four_91 (by decide) rfl (fun hc => ?_) (fun hc => ?_)
  · replace e := mIft hc e
    refine mGo.iload (n := 248) (x := v6) dX8_four_246 rfl rfl ?_
    cases e
    exact mGo.iret dX8_four_248 rfl (Nat.le_of_ble_eq_true rfl) (Nat.le_of_ble_eq_true rfl) q
  · replace e := mIff hc e
    refine mGo.iload_n (n := 95) (x := v2) dX8_four_94 rfl rfl ?_
    refine mGo.iload_n (n := 96) (x := v1) dX8_four_95 rfl rfl ?_
    refine mGo.iload (n := 98) (x := v9) dX8_four_96 rfl rfl ?_
    obtain ⟨x1, e_x1, e⟩ := mBind e
    refine mGo.callS (n := 101) (y := zX8_shiftedRound) (R' := (mRoom (1) 0 0)) (as := [.int v2, .int v1, .int v9]) (st := []) dX8_four_98 sc_RX8_138 rfl (e_X8_shiftedRound v2 v1 v9 h e_x1) (mFit_of rfl (Nat.le_of_ble_eq_true rfl) (by decide) (Nat.le_of_ble_eq_true rfl) (Nat.le_of_ble_eq_true rfl)) (Nat.le_of_ble_eq_true rfl) rfl rfl ?_
    intro _ _ hq
    rw [hq.1, hq.2]
    show mGo w kX8_four 0 0 101 [none, some (.int v1), some (.int v2), some (.int v3), some (.int v4), some (.int v5), some (.int v6), some (.int v7), some (va_rf v8), some (.int v9), none, none, none, none] [.int x1] h Q
    refine mGo.istore (n := 103) (ls' := [none, some (.int v1), some (.int v2), some (.int v3), some (.int v4), some (.int v5), some (.int v6), some (.int v7), some (va_rf v8), some (.int v9), some (.int x1), none, none, none]) dX8_four_101 rfl (Nat.le_of_ble_eq_true rfl) rfl ?_
    refine mGo.iload_n (n := 104) (x := v3) dX8_four_103 rfl rfl ?_
    refine mGo.iload_n (n := 105) (x := v1) dX8_four_104 rfl rfl ?_
    refine mGo.iload (n := 107) (x := v9) dX8_four_105 rfl rfl ?_
    obtain ⟨x2, e_x2, e⟩ := mBind e
    refine mGo.callS (n := 110) (y := zX8_shiftedRound) (R' := (mRoom (1) 0 0)) (as := [.int v3, .int v1, .int v9]) (st := []) dX8_four_107 sc_RX8_138 rfl (e_X8_shiftedRound v3 v1 v9 h e_x2) (mFit_of rfl (Nat.le_of_ble_eq_true rfl) (by decide) (Nat.le_of_ble_eq_true rfl) (Nat.le_of_ble_eq_true rfl)) (Nat.le_of_ble_eq_true rfl) rfl rfl ?_
    intro _ _ hq
    rw [hq.1, hq.2]
    show mGo w kX8_four 0 0 110 [none, some (.int v1), some (.int v2), some (.int v3), some (.int v4), some (.int v5), some (.int v6), some (.int v7), some (va_rf v8), some (.int v9), some (.int x1), none, none, none] [.int x2] h Q
    refine mGo.istore (n := 112) (ls' := [none, some (.int v1), some (.int v2), some (.int v3), some (.int v4), some (.int v5), some (.int v6), some (.int v7), some (va_rf v8), some (.int v9), some (.int x1), some (.int x2), none, none]) dX8_four_110 rfl (Nat.le_of_ble_eq_true rfl) rfl ?_
    refine mGo.iload (n := 114) (x := v4) dX8_four_112 rfl rfl ?_
    refine mGo.iload_n (n := 115) (x := v1) dX8_four_114 rfl rfl ?_
    refine mGo.iload (n := 117) (x := v9) dX8_four_115 rfl rfl ?_
    obtain ⟨x3, e_x3, e⟩ := mBind e
    refine mGo.callS (n := 120) (y := zX8_shiftedRound) (R' := (mRoom (1) 0 0)) (as := [.int v4, .int v1, .int v9]) (st := []) dX8_four_117 sc_RX8_138 rfl (e_X8_shiftedRound v4 v1 v9 h e_x3) (mFit_of rfl (Nat.le_of_ble_eq_true rfl) (by decide) (Nat.le_of_ble_eq_true rfl) (Nat.le_of_ble_eq_true rfl)) (Nat.le_of_ble_eq_true rfl) rfl rfl ?_
    intro _ _ hq
    rw [hq.1, hq.2]
    show mGo w kX8_four 0 0 120 [none, some (.int v1), some (.int v2), some (.int v3), some (.int v4), some (.int v5), some (.int v6), some (.int v7), some (va_rf v8), some (.int v9), some (.int x1), some (.int x2), none, none] [.int x3] h Q
    refine mGo.istore (n := 122) (ls' := [none, some (.int v1), some (.int v2), some (.int v3), some (.int v4), some (.int v5), some (.int v6), some (.int v7), some (va_rf v8), some (.int v9), some (.int x1), some (.int x2), some (.int x3), none]) dX8_four_120 rfl (Nat.le_of_ble_eq_true rfl) rfl ?_
    refine mGo.iload (n := 124) (x := v5) dX8_four_122 rfl rfl ?_
    refine mGo.iload_n (n := 125) (x := v1) dX8_four_124 rfl rfl ?_
    refine mGo.iload (n := 127) (x := v9) dX8_four_125 rfl rfl ?_
    obtain ⟨x4, e_x4, e⟩ := mBind e
    refine mGo.callS (n := 130) (y := zX8_shiftedRound) (R' := (mRoom (1) 0 0)) (as := [.int v5, .int v1, .int v9]) (st := []) dX8_four_127 sc_RX8_138 rfl (e_X8_shiftedRound v5 v1 v9 h e_x4) (mFit_of rfl (Nat.le_of_ble_eq_true rfl) (by decide) (Nat.le_of_ble_eq_true rfl) (Nat.le_of_ble_eq_true rfl)) (Nat.le_of_ble_eq_true rfl) rfl rfl ?_
    intro _ _ hq
    rw [hq.1, hq.2]
    show mGo w kX8_four 0 0 130 [none, some (.int v1), some (.int v2), some (.int v3), some (.int v4), some (.int v5), some (.int v6), some (.int v7), some (va_rf v8), some (.int v9), some (.int x1), some (.int x2), some (.int x3), none] [.int x4] h Q
    refine mGo.istore (n := 132) (ls' := [none, some (.int v1), some (.int v2), some (.int v3), some (.int v4), some (.int v5), some (.int v6), some (.int v7), some (va_rf v8), some (.int v9), some (.int x1), some (.int x2), some (.int x3), some (.int x4)]) dX8_four_130 rfl (Nat.le_of_ble_eq_true rfl) rfl ?_
    refine mGo.aload (n := 134) (r := v8) dX8_four_132 rfl rfl ?_
    obtain ⟨x5, e_x5, e⟩ := mBind e
    refine mGo.getR (n := 137) dX8_four_134 sf_RX8_125 e_x5 rfl ?_
    refine mGo.iload (n := 139) (x := v9) dX8_four_137 rfl rfl ?_
    refine mGo.iload_n (n := 140) (x := v1) dX8_four_139 rfl rfl ?_
    refine mGo.iload (n := 142) (x := x1) dX8_four_140 rfl rfl ?_
    refine mGo.iload (n := 144) (x := x2) dX8_four_142 rfl rfl ?_
    refine mGo.iload (n := 146) (x := x3) dX8_four_144 rfl rfl ?_
    refine mGo.iload (n := 148) (x := x4) dX8_four_146 rfl rfl ?_
    obtain ⟨x6, e_x6, e⟩ := mBind e
    refine mGo.callS (n := 151) (y := zX8_fourWords) (R' := (mRoom (1) 0 0)) (as := [.int v1, .int x1, .int x2, .int x3, .int x4]) (st := [.int v9, va_rf x5]) dX8_four_148 sc_RX8_141 rfl (e_X8_fourWords v1 x1 x2 x3 x4 h e_x6) (mFit_of rfl (Nat.le_of_ble_eq_true rfl) (by decide) (Nat.le_of_ble_eq_true rfl) (Nat.le_of_ble_eq_true rfl)) (mCat8 (Nat.le_of_ble_eq_true rfl)) rfl rfl ?_
    intro _ _ hq
    rw [hq.1, hq.2]
    show mGo w kX8_four 0 0 151 [none, some (.int v1), some (.int v2), some (.int v3), some (.int v4), some (.int v5), some (.int v6), some (.int v7), some (va_rf v8), some (.int v9), some (.int x1), some (.int x2), some (.int x3), some (.int x4)] [.int x6, .int v9, va_rf x5] h Q
    obtain ⟨h7, e_h7, e⟩ := mBind e
    refine mGo.iast (n := 152) dX8_four_151 e_h7 rfl ?_
    refine mGo.aload (n := 154) (r := v8) dX8_four_152 rfl rfl ?_
    obtain ⟨x8, e_x8, e⟩ := mBind e
    refine mGo.getR (n := 157) dX8_four_154 sf_RX8_125 e_x8 rfl ?_
    refine mGo.iload_n (n := 158) (x := v1) dX8_four_157 rfl rfl ?_
    refine mGo.iload (n := 160) (x := v9) dX8_four_158 rfl rfl ?_
    refine mGo.iadd (n := 161) dX8_four_160 rfl ?_
    refine mGo.iload_n (n := 162) (x := v1) dX8_four_161 rfl rfl ?_
    refine mGo.iload (n := 164) (x := x2) dX8_four_162 rfl rfl ?_
    refine mGo.iload (n := 166) (x := v7) dX8_four_164 rfl rfl ?_
    refine mGo.ixor (n := 167) dX8_four_166 rfl ?_
    refine mGo.iload (n := 169) (x := x1) dX8_four_167 rfl rfl ?_
    refine mGo.iload (n := 171) (x := x4) dX8_four_169 rfl rfl ?_
    refine mGo.iload (n := 173) (x := v7) dX8_four_171 rfl rfl ?_
    refine mGo.ixor (n := 174) dX8_four_173 rfl ?_
    refine mGo.iload (n := 176) (x := x3) dX8_four_174 rfl rfl ?_
    obtain ⟨x9, e_x9, e⟩ := mBind e
    refine mGo.callS (n := 179) (y := zX8_fourWords) (R' := (mRoom (1) 0 0)) (as := [.int v1, .int (x2 ^^^ v7), .int x1, .int (x4 ^^^ v7), .int x3]) (st := [.int (v1 + v9), va_rf x8]) dX8_four_176 sc_RX8_141 rfl (e_X8_fourWords v1 (x2 ^^^ v7) x1 (x4 ^^^ v7) x3 h7 e_x9) (mFit_of rfl (Nat.le_of_ble_eq_true rfl) (by decide) (Nat.le_of_ble_eq_true rfl) (Nat.le_of_ble_eq_true rfl)) (mCat8 (Nat.le_of_ble_eq_true rfl)) rfl rfl ?_
    intro _ _ hq
    rw [hq.1, hq.2]
    show mGo w kX8_four 0 0 179 [none, some (.int v1), some (.int v2), some (.int v3), some (.int v4), some (.int v5), some (.int v6), some (.int v7), some (va_rf v8), some (.int v9), some (.int x1), some (.int x2), some (.int x3), some (.int x4)] [.int x9, .int (v1 + v9), va_rf x8] h7 Q
    obtain ⟨h10, e_h10, e⟩ := mBind e
    refine mGo.iast (n := 180) dX8_four_179 e_h10 rfl ?_
    refine mGo.aload (n := 182) (r := v8) dX8_four_180 rfl rfl ?_
    obtain ⟨x11, e_x11, e⟩ := mBind e
    refine mGo.getR (n := 185) dX8_four_182 sf_RX8_125 e_x11 rfl ?_
    refine mGo.iconst (n := 186) (v := (2 : Int32)) dX8_four_185 (by decide) rfl ?_
    refine mGo.iload_n (n := 187) (x := v1) dX8_four_186 rfl rfl ?_
    refine mGo.imul (n := 188) dX8_four_187 rfl ?_
    refine mGo.iload (n := 190) (x := v9) dX8_four_188 rfl rfl ?_
    refine mGo.iadd (n := 191) dX8_four_190 rfl ?_
    refine mGo.iload_n (n := 192) (x := v1) dX8_four_191 rfl rfl ?_
    refine mGo.iload (n := 194) (x := x3) dX8_four_192 rfl rfl ?_
    refine mGo.iload (n := 196) (x := v7) dX8_four_194 rfl rfl ?_
    refine mGo.ixor (n := 197) dX8_four_196 rfl ?_
    refine mGo.iload (n := 199) (x := x4) dX8_four_197 rfl rfl ?_
    refine mGo.iload (n := 201) (x := x1) dX8_four_199 rfl rfl ?_
    refine mGo.iload (n := 203) (x := x2) dX8_four_201 rfl rfl ?_
    refine mGo.iload (n := 205) (x := v7) dX8_four_203 rfl rfl ?_
    refine mGo.ixor (n := 206) dX8_four_205 rfl ?_
    obtain ⟨x12, e_x12, e⟩ := mBind e
    refine mGo.callS (n := 209) (y := zX8_fourWords) (R' := (mRoom (1) 0 0)) (as := [.int v1, .int (x3 ^^^ v7), .int x4, .int x1, .int (x2 ^^^ v7)]) (st := [.int (((2 : Int32) * v1) + v9), va_rf x11]) dX8_four_206 sc_RX8_141 rfl (e_X8_fourWords v1 (x3 ^^^ v7) x4 x1 (x2 ^^^ v7) h10 e_x12) (mFit_of rfl (Nat.le_of_ble_eq_true rfl) (by decide) (Nat.le_of_ble_eq_true rfl) (Nat.le_of_ble_eq_true rfl)) (mCat8 (Nat.le_of_ble_eq_true rfl)) rfl rfl ?_
    intro _ _ hq
    rw [hq.1, hq.2]
    show mGo w kX8_four 0 0 209 [none, some (.int v1), some (.int v2), some (.int v3), some (.int v4), some (.int v5), some (.int v6), some (.int v7), some (va_rf v8), some (.int v9), some (.int x1), some (.int x2), some (.int x3), some (.int x4)] [.int x12, .int (((2 : Int32) * v1) + v9), va_rf x11] h10 Q
    obtain ⟨h13, e_h13, e⟩ := mBind e
    refine mGo.iast (n := 210) dX8_four_209 e_h13 rfl ?_
    refine mGo.aload (n := 212) (r := v8) dX8_four_210 rfl rfl ?_
    obtain ⟨x14, e_x14, e⟩ := mBind e
    refine mGo.getR (n := 215) dX8_four_212 sf_RX8_125 e_x14 rfl ?_
    refine mGo.iconst (n := 216) (v := (3 : Int32)) dX8_four_215 (by decide) rfl ?_
    refine mGo.iload_n (n := 217) (x := v1) dX8_four_216 rfl rfl ?_
    refine mGo.imul (n := 218) dX8_four_217 rfl ?_
    refine mGo.iload (n := 220) (x := v9) dX8_four_218 rfl rfl ?_
    refine mGo.iadd (n := 221) dX8_four_220 rfl ?_
    refine mGo.iload_n (n := 222) (x := v1) dX8_four_221 rfl rfl ?_
    refine mGo.iload (n := 224) (x := x4) dX8_four_222 rfl rfl ?_
    refine mGo.iload (n := 226) (x := v7) dX8_four_224 rfl rfl ?_
    refine mGo.ixor (n := 227) dX8_four_226 rfl ?_
    refine mGo.iload (n := 229) (x := x3) dX8_four_227 rfl rfl ?_
    refine mGo.iload (n := 231) (x := v7) dX8_four_229 rfl rfl ?_
    refine mGo.ixor (n := 232) dX8_four_231 rfl ?_
    refine mGo.iload (n := 234) (x := x2) dX8_four_232 rfl rfl ?_
    refine mGo.iload (n := 236) (x := x1) dX8_four_234 rfl rfl ?_
    obtain ⟨x15, e_x15, e⟩ := mBind e
    refine mGo.callS (n := 239) (y := zX8_fourWords) (R' := (mRoom (1) 0 0)) (as := [.int v1, .int (x4 ^^^ v7), .int (x3 ^^^ v7), .int x2, .int x1]) (st := [.int (((3 : Int32) * v1) + v9), va_rf x14]) dX8_four_236 sc_RX8_141 rfl (e_X8_fourWords v1 (x4 ^^^ v7) (x3 ^^^ v7) x2 x1 h13 e_x15) (mFit_of rfl (Nat.le_of_ble_eq_true rfl) (by decide) (Nat.le_of_ble_eq_true rfl) (Nat.le_of_ble_eq_true rfl)) (mCat8 (Nat.le_of_ble_eq_true rfl)) rfl rfl ?_
    intro _ _ hq
    rw [hq.1, hq.2]
    show mGo w kX8_four 0 0 239 [none, some (.int v1), some (.int v2), some (.int v3), some (.int v4), some (.int v5), some (.int v6), some (.int v7), some (va_rf v8), some (.int v9), some (.int x1), some (.int x2), some (.int x3), some (.int x4)] [.int x15, .int (((3 : Int32) * v1) + v9), va_rf x14] h13 Q
    obtain ⟨h16, e_h16, e⟩ := mBind e
    refine mGo.iast (n := 240) dX8_four_239 e_h16 rfl ?_
    refine mGo.iinc (n := 243) (x := v9) (v := (v9 + 1)) (ls' := [none, some (.int v1), some (.int v2), some (.int v3), some (.int v4), some (.int v5), some (.int v6), some (.int v7), some (va_rf v8), some (.int (v9 + 1)), some (.int x1), some (.int x2), some (.int x3), some (.int x4)]) dX8_four_240 rfl rfl ((mSt_set (fun u _ hu => by cases hu; exact mRfc _)).trans rfl) (Nat.le_of_ble_eq_true rfl) rfl ?_
    refine mGo.goto (tgt := 88) dX8_four_243 (by decide) ?_
    cases e
    refine mGo.mk [false, true, true, true, true, true, true, true, true, true, false, false, false, false] ?_
    exact q
noncomputable def f_X8_four_l88 (v1 : Int32) (v2 : Int32) (v3 : Int32) (v4 : Int32) (v5 : Int32) (v6 : Int32) (v7 : Int32) (v8 : Option Nat) (v9 : Int32) (h : mH) : Option (Int32 × mH) :=
  mLoop (fun x : Int32 × mH => f_X8_four_b88 v1 v2 v3 v4 v5 v6 v7 v8 x.1 x.2) (v9, h)
set_option maxRecDepth 100000 in
set_option maxHeartbeats 4000000 in
theorem g_X8_four_l88 {w : mWp} {Q : Option Value → mH → Prop} (v1 : Int32) (v2 : Int32) (v3 : Int32) (v4 : Int32) (v5 : Int32) (v6 : Int32) (v7 : Int32) (v8 : Option Nat) (v9 : Int32) (h : mH) {res : Int32 × mH} (e : f_X8_four_l88 v1 v2 v3 v4 v5 v6 v7 v8 v9 h = some res) (q : (fun r : Int32 × mH => Q (some (.int r.1)) r.2) res) : mGo w kX8_four 0 0 88 [none, some (.int v1), some (.int v2), some (.int v3), some (.int v4), some (.int v5), some (.int v6), some (.int v7), some (va_rf v8), some (.int v9), none, none, none, none] [] h Q := by
  unfold f_X8_four_l88 at e
  refine mLoop_go (x := (v9, h)) (fun x : Int32 × mH => mGo w kX8_four 0 0 88 [none, some (.int v1), some (.int v2), some (.int v3), some (.int v4), some (.int v5), some (.int v6), some (.int v7), some (va_rf v8), some (.int x.1), none, none, none, none] [] x.2 Q) (fun r : Int32 × mH => Q (some (.int r.1)) r.2) ?_ e q
  rintro ⟨v9, h1⟩ res e q
  exact g_X8_four_b88 v1 v2 v3 v4 v5 v6 v7 v8 v9 h1 e q
noncomputable def f_X8_four (v0 : Option Nat) (v1 : Int32) (v2 : Int32) (v3 : Int32) (v4 : Int32) (v5 : Int32) (h : mH) : Option (Int32 × mH) :=
  (mIs h v0 7).bind fun _ =>
  (f_X8_emptyPlace v0 h).bind fun x1 =>
  if x1 = (-1 : Int32) then
    some ((-1 : Int32), h)
  else
    if v1 < (1 : Int32) then
      some ((-1 : Int32), h)
    else
      if v1 ≤ (7 : Int32) then
        (f_X8_isWord v2 v1).bind fun x2 =>
        if x2 = 0 then
          some ((-1 : Int32), h)
        else
          (f_X8_isWord v3 v1).bind fun x3 =>
          if x3 = 0 then
            some ((-1 : Int32), h)
          else
            (f_X8_isWord v4 v1).bind fun x4 =>
            if x4 = 0 then
              some ((-1 : Int32), h)
            else
              (f_X8_isWord v5 v1).bind fun x5 =>
              if x5 = 0 then
                some ((-1 : Int32), h)
              else
                (mGR h v0 7 0).bind fun x6 =>
                (mAR h x6 x1).bind fun x7 =>
                (f_X7_begin x7 ((4 : Int32) * v1) h).bind fun x8 =>
                f_X8_four_l88 v1 v2 v3 v4 v5 x1 (((1 : Int32) <<< (v1 &&& 31)) - (1 : Int32)) x7 (0 : Int32) x8
      else
        some ((-1 : Int32), h)
set_option maxRecDepth 100000 in
set_option maxHeartbeats 4000000 in
theorem g_X8_four {w : mWp} {Q : Option Value → mH → Prop} (v0 : Option Nat) (v1 : Int32) (v2 : Int32) (v3 : Int32) (v4 : Int32) (v5 : Int32) (h : mH) {res : Int32 × mH} (e : f_X8_four v0 v1 v2 v3 v4 v5 h = some res) (q : (fun r : Int32 × mH => Q (some (.int r.1)) r.2) res) : mGo w kX8_four 0 0 0 [some (va_rf v0), some (.int v1), some (.int v2), some (.int v3), some (.int v4), some (.int v5), none, none, none, none, none, none, none, none] [] h Q := by
  unfold f_X8_four at e
  obtain ⟨_, _, e⟩ := mBind e
  refine mGo.aload_n (n := 1) (r := v0) dX8_four_0 rfl rfl ?_
  obtain ⟨x1, e_x1, e⟩ := mBind e
  refine mGo.callV (n := 4) (y := zX8_emptyPlace) (R' := (mRoom (1) 0 0)) (as := []) (st := []) (r0 := v0) dX8_four_1 sc_RX8_73 rfl (s_X8_emptyPlace v0 h e_x1) (e_X8_emptyPlace v0 h e_x1) (mFit_of rfl (Nat.le_of_ble_eq_true rfl) (by decide) (Nat.le_of_ble_eq_true rfl) (Nat.le_of_ble_eq_true rfl)) (Nat.le_of_ble_eq_true rfl) rfl rfl ?_
  intro _ _ hq
  rw [hq.1, hq.2]
  show mGo w kX8_four 0 0 4 [some (va_rf v0), some (.int v1), some (.int v2), some (.int v3), some (.int v4), some (.int v5), none, none, none, none, none, none, none, none] [.int x1] h Q
  refine mGo.istore (n := 6) (ls' := [some (va_rf v0), some (.int v1), some (.int v2), some (.int v3), some (.int v4), some (.int v5), some (.int x1), none, none, none, none, none, none, none]) dX8_four_4 rfl (Nat.le_of_ble_eq_true rfl) rfl ?_
  refine mGo.iload (n := 8) (x := x1) dX8_four_6 rfl rfl ?_
  refine mGo.iconst (n := 9) (v := (-1 : Int32)) dX8_four_8 (by decide) rfl ?_
  refine mGo.icmp_eq (tgt := 23) (n := 12) dX8_four_9 (by decide) rfl (fun hc => ?_) (fun hc => ?_)
  · replace e := mIft hc e
    refine mGo.iconst (n := 24) (v := (-1 : Int32)) dX8_four_23 (by decide) rfl ?_
    cases e
    exact mGo.iret dX8_four_24 rfl (Nat.le_of_ble_eq_true rfl) (Nat.le_of_ble_eq_true rfl) q
  · replace e := mIff hc e
    refine mGo.iload_n (n := 13) (x := v1) dX8_four_12 rfl rfl ?_
    refine mGo.iconst (n := 14) (v := (1 : Int32)) dX8_four_13 (by decide) rfl ?_
    refine mGo.icmp_lt (tgt := 23) (n := 17) dX8_four_14 (by decide) rfl (fun hc => ?_) (fun hc => ?_)
    · replace e := mIft hc e
      refine mGo.iconst (n := 24) (v := (-1 : Int32)) dX8_four_23 (by decide) rfl ?_
      cases e
      exact mGo.iret dX8_four_24 rfl (Nat.le_of_ble_eq_true rfl) (Nat.le_of_ble_eq_true rfl) q
    · replace e := mIff hc e
      refine mGo.iload_n (n := 18) (x := v1) dX8_four_17 rfl rfl ?_
      refine mGo.bipush (n := 20) (v := (7 : Int32)) dX8_four_18 (by decide) rfl ?_
      refine mGo.icmp_le (tgt := 25) (n := 23) dX8_four_20 (by decide) rfl (fun hc => ?_) (fun hc => ?_)
      · replace e := mIft hc e
        refine mGo.iload_n (n := 26) (x := v2) dX8_four_25 rfl rfl ?_
        refine mGo.iload_n (n := 27) (x := v1) dX8_four_26 rfl rfl ?_
        obtain ⟨x2, e_x2, e⟩ := mBind e
        refine mGo.callS (n := 30) (y := zX8_isWord) (R' := (mRoom (1) 0 0)) (as := [.int v2, .int v1]) (st := []) dX8_four_27 sc_RX8_135 rfl (e_X8_isWord v2 v1 h e_x2) (mFit_of rfl (Nat.le_of_ble_eq_true rfl) (by decide) (Nat.le_of_ble_eq_true rfl) (Nat.le_of_ble_eq_true rfl)) (Nat.le_of_ble_eq_true rfl) rfl rfl ?_
        intro _ _ hq
        rw [hq.1, hq.2]
        show mGo w kX8_four 0 0 30 [some (va_rf v0), some (.int v1), some (.int v2), some (.int v3), some (.int v4), some (.int v5), some (.int x1), none, none, none, none, none, none, none] [.int x2] h Q
        refine mGo.if_eq (tgt := 59) (n := 33) dX8_four_30 (by decide) rfl (fun hc => ?_) (fun hc => ?_)
        · replace e := mIft hc e
          refine mGo.iconst (n := 60) (v := (-1 : Int32)) dX8_four_59 (by decide) rfl ?_
          cases e
          exact mGo.iret dX8_four_60 rfl (Nat.le_of_ble_eq_true rfl) (Nat.le_of_ble_eq_true rfl) q
        · replace e := mIff hc e
          refine mGo.iload_n (n := 34) (x := v3) dX8_four_33 rfl rfl ?_
          refine mGo.iload_n (n := 35) (x := v1) dX8_four_34 rfl rfl ?_
          obtain ⟨x3, e_x3, e⟩ := mBind e
          refine mGo.callS (n := 38) (y := zX8_isWord) (R' := (mRoom (1) 0 0)) (as := [.int v3, .int v1]) (st := []) dX8_four_35 sc_RX8_135 rfl (e_X8_isWord v3 v1 h e_x3) (mFit_of rfl (Nat.le_of_ble_eq_true rfl) (by decide) (Nat.le_of_ble_eq_true rfl) (Nat.le_of_ble_eq_true rfl)) (Nat.le_of_ble_eq_true rfl) rfl rfl ?_
          intro _ _ hq
          rw [hq.1, hq.2]
          show mGo w kX8_four 0 0 38 [some (va_rf v0), some (.int v1), some (.int v2), some (.int v3), some (.int v4), some (.int v5), some (.int x1), none, none, none, none, none, none, none] [.int x3] h Q
          refine mGo.if_eq (tgt := 59) (n := 41) dX8_four_38 (by decide) rfl (fun hc => ?_) (fun hc => ?_)
          · replace e := mIft hc e
            refine mGo.iconst (n := 60) (v := (-1 : Int32)) dX8_four_59 (by decide) rfl ?_
            cases e
            exact mGo.iret dX8_four_60 rfl (Nat.le_of_ble_eq_true rfl) (Nat.le_of_ble_eq_true rfl) q
          · replace e := mIff hc e
            refine mGo.iload (n := 43) (x := v4) dX8_four_41 rfl rfl ?_
            refine mGo.iload_n (n := 44) (x := v1) dX8_four_43 rfl rfl ?_
            obtain ⟨x4, e_x4, e⟩ := mBind e
            refine mGo.callS (n := 47) (y := zX8_isWord) (R' := (mRoom (1) 0 0)) (as := [.int v4, .int v1]) (st := []) dX8_four_44 sc_RX8_135 rfl (e_X8_isWord v4 v1 h e_x4) (mFit_of rfl (Nat.le_of_ble_eq_true rfl) (by decide) (Nat.le_of_ble_eq_true rfl) (Nat.le_of_ble_eq_true rfl)) (Nat.le_of_ble_eq_true rfl) rfl rfl ?_
            intro _ _ hq
            rw [hq.1, hq.2]
            show mGo w kX8_four 0 0 47 [some (va_rf v0), some (.int v1), some (.int v2), some (.int v3), some (.int v4), some (.int v5), some (.int x1), none, none, none, none, none, none, none] [.int x4] h Q
            refine mGo.if_eq (tgt := 59) (n := 50) dX8_four_47 (by decide) rfl (fun hc => ?_) (fun hc => ?_)
            · replace e := mIft hc e
              refine mGo.iconst (n := 60) (v := (-1 : Int32)) dX8_four_59 (by decide) rfl ?_
              cases e
              exact mGo.iret dX8_four_60 rfl (Nat.le_of_ble_eq_true rfl) (Nat.le_of_ble_eq_true rfl) q
            · replace e := mIff hc e
              refine mGo.iload (n := 52) (x := v5) dX8_four_50 rfl rfl ?_
              refine mGo.iload_n (n := 53) (x := v1) dX8_four_52 rfl rfl ?_
              obtain ⟨x5, e_x5, e⟩ := mBind e
              refine mGo.callS (n := 56) (y := zX8_isWord) (R' := (mRoom (1) 0 0)) (as := [.int v5, .int v1]) (st := []) dX8_four_53 sc_RX8_135 rfl (e_X8_isWord v5 v1 h e_x5) (mFit_of rfl (Nat.le_of_ble_eq_true rfl) (by decide) (Nat.le_of_ble_eq_true rfl) (Nat.le_of_ble_eq_true rfl)) (Nat.le_of_ble_eq_true rfl) rfl rfl ?_
              intro _ _ hq
              rw [hq.1, hq.2]
              show mGo w kX8_four 0 0 56 [some (va_rf v0), some (.int v1), some (.int v2), some (.int v3), some (.int v4), some (.int v5), some (.int x1), none, none, none, none, none, none, none] [.int x5] h Q
              refine mGo.if_ne (tgt := 61) (n := 59) dX8_four_56 (by decide) rfl (fun hc => ?_) (fun hc => ?_)
              · replace e := mIff hc e
                refine mGo.iconst (n := 62) (v := (1 : Int32)) dX8_four_61 (by decide) rfl ?_
                refine mGo.iload_n (n := 63) (x := v1) dX8_four_62 rfl rfl ?_
                refine mGo.ishl (n := 64) dX8_four_63 rfl ?_
                refine mGo.iconst (n := 65) (v := (1 : Int32)) dX8_four_64 (by decide) rfl ?_
                refine mGo.isub (n := 66) dX8_four_65 rfl ?_
                refine mGo.istore (n := 68) (ls' := [some (va_rf v0), some (.int v1), some (.int v2), some (.int v3), some (.int v4), some (.int v5), some (.int x1), some (.int (((1 : Int32) <<< (v1 &&& 31)) - (1 : Int32))), none, none, none, none, none, none]) dX8_four_66 rfl (Nat.le_of_ble_eq_true rfl) rfl ?_
                refine mGo.aload_n (n := 69) (r := v0) dX8_four_68 rfl rfl ?_
                obtain ⟨x6, e_x6, e⟩ := mBind e
                refine mGo.getR (n := 72) dX8_four_69 sf_RX8_11 e_x6 rfl ?_
                refine mGo.iload (n := 74) (x := x1) dX8_four_72 rfl rfl ?_
                obtain ⟨x7, e_x7, e⟩ := mBind e
                refine mGo.aald (n := 75) dX8_four_74 e_x7 rfl ?_
                refine mGo.astore (n := 77) (ls' := [some (va_rf v0), some (.int v1), some (.int v2), some (.int v3), some (.int v4), some (.int v5), some (.int x1), some (.int (((1 : Int32) <<< (v1 &&& 31)) - (1 : Int32))), some (va_rf x7), none, none, none, none, none]) dX8_four_75 rfl (Nat.le_of_ble_eq_true rfl) rfl ?_
                refine mGo.aload (n := 79) (r := x7) dX8_four_77 rfl rfl ?_
                refine mGo.iconst (n := 80) (v := (4 : Int32)) dX8_four_79 (by decide) rfl ?_
                refine mGo.iload_n (n := 81) (x := v1) dX8_four_80 rfl rfl ?_
                refine mGo.imul (n := 82) dX8_four_81 rfl ?_
                obtain ⟨x8, e_x8, e⟩ := mBind e
                refine mGo.callV (n := 85) (y := zX7_begin) (R' := (mRoom (2) 0 0)) (as := [.int ((4 : Int32) * v1)]) (st := []) (r0 := x7) dX8_four_82 sc_RX8_91 rfl (s_X7_begin x7 ((4 : Int32) * v1) h e_x8) (e_X7_begin x7 ((4 : Int32) * v1) h e_x8) (mFit_of rfl (Nat.le_of_ble_eq_true rfl) (by decide) (Nat.le_of_ble_eq_true rfl) (Nat.le_of_ble_eq_true rfl)) (Nat.le_of_ble_eq_true rfl) rfl rfl ?_
                intro _ _ hq
                rw [hq.1, hq.2]
                show mGo w kX8_four 0 0 85 [some (va_rf v0), some (.int v1), some (.int v2), some (.int v3), some (.int v4), some (.int v5), some (.int x1), some (.int (((1 : Int32) <<< (v1 &&& 31)) - (1 : Int32))), some (va_rf x7), none, none, none, none, none] [] x8 Q
                refine mGo.iconst (n := 86) (v := (0 : Int32)) dX8_four_85 (by decide) rfl ?_
                refine mGo.istore (n := 88) (ls' := [some (va_rf v0), some (.int v1), some (.int v2), some (.int v3), some (.int v4), some (.int v5), some (.int x1), some (.int (((1 : Int32) <<< (v1 &&& 31)) - (1 : Int32))), some (va_rf x7), some (.int (0 : Int32)), none, none, none, none]) dX8_four_86 ((mSt_set (fun u _ hu => by cases hu; exact mRfc _)).trans rfl) (Nat.le_of_ble_eq_true rfl) rfl ?_
                refine mGo.mk [false, true, true, true, true, true, true, true, true, true, false, false, false, false] ?_
                exact g_X8_four_l88 v1 v2 v3 v4 v5 x1 (((1 : Int32) <<< (v1 &&& 31)) - (1 : Int32)) x7 (0 : Int32) x8 e q
              · replace e := mIft hc e
                refine mGo.iconst (n := 60) (v := (-1 : Int32)) dX8_four_59 (by decide) rfl ?_
                cases e
                exact mGo.iret dX8_four_60 rfl (Nat.le_of_ble_eq_true rfl) (Nat.le_of_ble_eq_true rfl) q
      · replace e := mIff hc e
        refine mGo.iconst (n := 24) (v := (-1 : Int32)) dX8_four_23 (by decide) rfl ?_
        cases e
        exact mGo.iret dX8_four_24 rfl (Nat.le_of_ble_eq_true rfl) (Nat.le_of_ble_eq_true rfl) q
theorem e_X8_four {w : mWp} (v0 : Option Nat) (v1 : Int32) (v2 : Int32) (v3 : Int32) (v4 : Int32) (v5 : Int32) (h : mH) {res : Int32 × mH} (e : f_X8_four v0 v1 v2 v3 v4 v5 h = some res) : mEx w zX8_four (mRoom 3 0 0) [va_rf v0, .int v1, .int v2, .int v3, .int v4, .int v5] h (fun r h2 => r = some (.int res.1) ∧ h2 = res.2) := by
  refine mEx.of (by decide +kernel) (show mEnt [va_rf v0, .int v1, .int v2, .int v3, .int v4, .int v5] 14 = [some (va_rf v0), some (.int v1), some (.int v2), some (.int v3), some (.int v4), some (.int v5), none, none, none, none, none, none, none, none] by rw [mEnt_r, mEnt_i, mEnt_i, mEnt_i, mEnt_i, mEnt_i] <;> rfl) (by simp only [List.map_cons, List.map_nil, mRfc, mCi, mCj, List.sum_cons, List.sum_nil]; exact Nat.le_of_ble_eq_true rfl) ?_
  refine g_X8_four v0 v1 v2 v3 v4 v5 h e ?_
  exact ⟨rfl, rfl⟩
theorem s_X8_four (v0 : Option Nat) (v1 : Int32) (v2 : Int32) (v3 : Int32) (v4 : Int32) (v5 : Int32) (h : mH) {res : Int32 × mH} (e : f_X8_four v0 v1 v2 v3 v4 v5 h = some res) : mIs h v0 7 = some () := by
  unfold f_X8_four at e
  obtain ⟨u, e1, _⟩ := mBind e
  cases u
  exact e1
-- X8_bordered
def kX8_bordered : mK := (cX8_bordered, RX8, 6, some (.int), "bordered", mRoom 3 0 0)
def zX8_bordered : mY := (yX8_bordered, cX8_bordered, 6, some (.int))
def f_X8_bordered_b50 (v1 : Int32) (v2 : Int32) (v3 : Int32) (v4 : Option Nat) (v5 : Int32) (h : mH) : Option ((Int32 × mH) ⊕ (Int32 × mH)) :=
  if v1 ≤ v5 then
    some (Sum.inr (v3, h))
  else
    (mGR h v4 6 1).bind fun x1 =>
    (f_X8_shiftedRound v2 v1 v5).bind fun x2 =>
    (mSI h x1 (v5 + (1 : Int32)) (x2 <<< ((1 : Int32) &&& 31))).bind fun h3 =>
    some (Sum.inl ((v5 + 1), h3))
set_option maxRecDepth 100000 in
set_option maxHeartbeats 4000000 in
theorem g_X8_bordered_b50 {w : mWp} {Q : Option Value → mH → Prop} (v1 : Int32) (v2 : Int32) (v3 : Int32) (v4 : Option Nat) (v5 : Int32) (h : mH) {res : (Int32 × mH) ⊕ (Int32 × mH)} (e : f_X8_bordered_b50 v1 v2 v3 v4 v5 h = some res) (q : (Sum.elim (fun x : Int32 × mH => mGo w kX8_bordered 0 0 50 [none, some (.int v1), some (.int v2), some (.int v3), some (va_rf v4), some (.int x.1)] [] x.2 Q) (fun r : Int32 × mH => Q (some (.int r.1)) r.2)) res) : mGo w kX8_bordered 0 0 50 [none, some (.int v1), some (.int v2), some (.int v3), some (va_rf v4), some (.int v5)] [] h Q := by
  unfold f_X8_bordered_b50 at e
  refine mGo.iload (n := 52) (x := v5) dX8_bordered_50 rfl rfl ?_
  refine mGo.iload_n (n := 53) (x := v1) dX8_bordered_52 rfl rfl ?_
  refine mGo.icmp_ge (tgt := 81) (n := 56) dX8_bordered_53 (by decide) rfl (fun hc => ?_) (fun hc => ?_)
  · replace e := mIft hc e
    refine mGo.iload_n (n := 82) (x := v3) dX8_bordered_81 rfl rfl ?_
    cases e
    exact mGo.iret dX8_bordered_82 rfl (Nat.le_of_ble_eq_true rfl) (Nat.le_of_ble_eq_true rfl) q
  · replace e := mIff hc e
    refine mGo.aload (n := 58) (r := v4) dX8_bordered_56 rfl rfl ?_
    obtain ⟨x1, e_x1, e⟩ := mBind e
    refine mGo.getR (n := 61) dX8_bordered_58 sf_RX8_125 e_x1 rfl ?_
    refine mGo.iload (n := 63) (x := v5) dX8_bordered_61 rfl rfl ?_
    refine mGo.iconst (n := 64) (v := (1 : Int32)) dX8_bordered_63 (by decide) rfl ?_
    refine mGo.iadd (n := 65) dX8_bordered_64 rfl ?_
    refine mGo.iload_n (n := 66) (x := v2) dX8_bordered_65 rfl rfl ?_
    refine mGo.iload_n (n := 67) (x := v1) dX8_bordered_66 rfl rfl ?_
    refine mGo.iload (n := 69) (x := v5) dX8_bordered_67 rfl rfl ?_
    obtain ⟨x2, e_x2, e⟩ := mBind e
    refine mGo.callS (n := 72) (y := zX8_shiftedRound) (R' := (mRoom (1) 0 0)) (as := [.int v2, .int v1, .int v5]) (st := [.int (v5 + (1 : Int32)), va_rf x1]) dX8_bordered_69 sc_RX8_138 rfl (e_X8_shiftedRound v2 v1 v5 h e_x2) (mFit_of rfl (Nat.le_of_ble_eq_true rfl) (by decide) (Nat.le_of_ble_eq_true rfl) (Nat.le_of_ble_eq_true rfl)) (mCat8 (Nat.le_of_ble_eq_true rfl)) rfl rfl ?_
    intro _ _ hq
    rw [hq.1, hq.2]
    show mGo w kX8_bordered 0 0 72 [none, some (.int v1), some (.int v2), some (.int v3), some (va_rf v4), some (.int v5)] [.int x2, .int (v5 + (1 : Int32)), va_rf x1] h Q
    refine mGo.iconst (n := 73) (v := (1 : Int32)) dX8_bordered_72 (by decide) rfl ?_
    refine mGo.ishl (n := 74) dX8_bordered_73 rfl ?_
    obtain ⟨h3, e_h3, e⟩ := mBind e
    refine mGo.iast (n := 75) dX8_bordered_74 e_h3 rfl ?_
    refine mGo.iinc (n := 78) (x := v5) (v := (v5 + 1)) (ls' := [none, some (.int v1), some (.int v2), some (.int v3), some (va_rf v4), some (.int (v5 + 1))]) dX8_bordered_75 rfl rfl ((mSt_set (fun u _ hu => by cases hu; exact mRfc _)).trans rfl) (Nat.le_of_ble_eq_true rfl) rfl ?_
    refine mGo.goto (tgt := 50) dX8_bordered_78 (by decide) ?_
    cases e
    refine mGo.mk [false, true, true, true, true, true] ?_
    exact q
noncomputable def f_X8_bordered_l50 (v1 : Int32) (v2 : Int32) (v3 : Int32) (v4 : Option Nat) (v5 : Int32) (h : mH) : Option (Int32 × mH) :=
  mLoop (fun x : Int32 × mH => f_X8_bordered_b50 v1 v2 v3 v4 x.1 x.2) (v5, h)
set_option maxRecDepth 100000 in
set_option maxHeartbeats 4000000 in
theorem g_X8_bordered_l50 {w : mWp} {Q : Option Value → mH → Prop} (v1 : Int32) (v2 : Int32) (v3 : Int32) (v4 : Option Nat) (v5 : Int32) (h : mH) {res : Int32 × mH} (e : f_X8_bordered_l50 v1 v2 v3 v4 v5 h = some res) (q : (fun r : Int32 × mH => Q (some (.int r.1)) r.2) res) : mGo w kX8_bordered 0 0 50 [none, some (.int v1), some (.int v2), some (.int v3), some (va_rf v4), some (.int v5)] [] h Q := by
  unfold f_X8_bordered_l50 at e
  refine mLoop_go (x := (v5, h)) (fun x : Int32 × mH => mGo w kX8_bordered 0 0 50 [none, some (.int v1), some (.int v2), some (.int v3), some (va_rf v4), some (.int x.1)] [] x.2 Q) (fun r : Int32 × mH => Q (some (.int r.1)) r.2) ?_ e q
  rintro ⟨v5, h1⟩ res e q
  exact g_X8_bordered_b50 v1 v2 v3 v4 v5 h1 e q
noncomputable def f_X8_bordered (v0 : Option Nat) (v1 : Int32) (v2 : Int32) (h : mH) : Option (Int32 × mH) :=
  (mIs h v0 7).bind fun _ =>
  (f_X8_emptyPlace v0 h).bind fun x1 =>
  if x1 = (-1 : Int32) then
    some ((-1 : Int32), h)
  else
    if v1 < (1 : Int32) then
      some ((-1 : Int32), h)
    else
      if (28 : Int32) ≤ v1 then
        some ((-1 : Int32), h)
      else
        (f_X8_isWord v2 v1).bind fun x2 =>
        if x2 = 0 then
          some ((-1 : Int32), h)
        else
          (mGR h v0 7 0).bind fun x3 =>
          (mAR h x3 x1).bind fun x4 =>
          (f_X7_begin x4 (v1 + (1 : Int32)) h).bind fun x5 =>
          f_X8_bordered_l50 v1 v2 x1 x4 (0 : Int32) x5
set_option maxRecDepth 100000 in
set_option maxHeartbeats 4000000 in
theorem g_X8_bordered {w : mWp} {Q : Option Value → mH → Prop} (v0 : Option Nat) (v1 : Int32) (v2 : Int32) (h : mH) {res : Int32 × mH} (e : f_X8_bordered v0 v1 v2 h = some res) (q : (fun r : Int32 × mH => Q (some (.int r.1)) r.2) res) : mGo w kX8_bordered 0 0 0 [some (va_rf v0), some (.int v1), some (.int v2), none, none, none] [] h Q := by
  unfold f_X8_bordered at e
  obtain ⟨_, _, e⟩ := mBind e
  refine mGo.aload_n (n := 1) (r := v0) dX8_bordered_0 rfl rfl ?_
  obtain ⟨x1, e_x1, e⟩ := mBind e
  refine mGo.callV (n := 4) (y := zX8_emptyPlace) (R' := (mRoom (1) 0 0)) (as := []) (st := []) (r0 := v0) dX8_bordered_1 sc_RX8_73 rfl (s_X8_emptyPlace v0 h e_x1) (e_X8_emptyPlace v0 h e_x1) (mFit_of rfl (Nat.le_of_ble_eq_true rfl) (by decide) (Nat.le_of_ble_eq_true rfl) (Nat.le_of_ble_eq_true rfl)) (Nat.le_of_ble_eq_true rfl) rfl rfl ?_
  intro _ _ hq
  rw [hq.1, hq.2]
  show mGo w kX8_bordered 0 0 4 [some (va_rf v0), some (.int v1), some (.int v2), none, none, none] [.int x1] h Q
  refine mGo.istore_n (n := 5) (ls' := [some (va_rf v0), some (.int v1), some (.int v2), some (.int x1), none, none]) dX8_bordered_4 rfl (Nat.le_of_ble_eq_true rfl) rfl ?_
  refine mGo.iload_n (n := 6) (x := x1) dX8_bordered_5 rfl rfl ?_
  refine mGo.iconst (n := 7) (v := (-1 : Int32)) dX8_bordered_6 (by decide) rfl ?_
  refine mGo.icmp_eq (tgt := 29) (n := 10) dX8_bordered_7 (by decide) rfl (fun hc => ?_) (fun hc => ?_)
  · replace e := mIft hc e
    refine mGo.iconst (n := 30) (v := (-1 : Int32)) dX8_bordered_29 (by decide) rfl ?_
    cases e
    exact mGo.iret dX8_bordered_30 rfl (Nat.le_of_ble_eq_true rfl) (Nat.le_of_ble_eq_true rfl) q
  · replace e := mIff hc e
    refine mGo.iload_n (n := 11) (x := v1) dX8_bordered_10 rfl rfl ?_
    refine mGo.iconst (n := 12) (v := (1 : Int32)) dX8_bordered_11 (by decide) rfl ?_
    refine mGo.icmp_lt (tgt := 29) (n := 15) dX8_bordered_12 (by decide) rfl (fun hc => ?_) (fun hc => ?_)
    · replace e := mIft hc e
      refine mGo.iconst (n := 30) (v := (-1 : Int32)) dX8_bordered_29 (by decide) rfl ?_
      cases e
      exact mGo.iret dX8_bordered_30 rfl (Nat.le_of_ble_eq_true rfl) (Nat.le_of_ble_eq_true rfl) q
    · replace e := mIff hc e
      refine mGo.iload_n (n := 16) (x := v1) dX8_bordered_15 rfl rfl ?_
      refine mGo.bipush (n := 18) (v := (28 : Int32)) dX8_bordered_16 (by decide) rfl ?_
      refine mGo.icmp_ge (tgt := 29) (n := 21) dX8_bordered_18 (by decide) rfl (fun hc => ?_) (fun hc => ?_)
      · replace e := mIft hc e
        refine mGo.iconst (n := 30) (v := (-1 : Int32)) dX8_bordered_29 (by decide) rfl ?_
        cases e
        exact mGo.iret dX8_bordered_30 rfl (Nat.le_of_ble_eq_true rfl) (Nat.le_of_ble_eq_true rfl) q
      · replace e := mIff hc e
        refine mGo.iload_n (n := 22) (x := v2) dX8_bordered_21 rfl rfl ?_
        refine mGo.iload_n (n := 23) (x := v1) dX8_bordered_22 rfl rfl ?_
        obtain ⟨x2, e_x2, e⟩ := mBind e
        refine mGo.callS (n := 26) (y := zX8_isWord) (R' := (mRoom (1) 0 0)) (as := [.int v2, .int v1]) (st := []) dX8_bordered_23 sc_RX8_135 rfl (e_X8_isWord v2 v1 h e_x2) (mFit_of rfl (Nat.le_of_ble_eq_true rfl) (by decide) (Nat.le_of_ble_eq_true rfl) (Nat.le_of_ble_eq_true rfl)) (Nat.le_of_ble_eq_true rfl) rfl rfl ?_
        intro _ _ hq
        rw [hq.1, hq.2]
        show mGo w kX8_bordered 0 0 26 [some (va_rf v0), some (.int v1), some (.int v2), some (.int x1), none, none] [.int x2] h Q
        refine mGo.if_ne (tgt := 31) (n := 29) dX8_bordered_26 (by decide) rfl (fun hc => ?_) (fun hc => ?_)
        · replace e := mIff hc e
          refine mGo.aload_n (n := 32) (r := v0) dX8_bordered_31 rfl rfl ?_
          obtain ⟨x3, e_x3, e⟩ := mBind e
          refine mGo.getR (n := 35) dX8_bordered_32 sf_RX8_11 e_x3 rfl ?_
          refine mGo.iload_n (n := 36) (x := x1) dX8_bordered_35 rfl rfl ?_
          obtain ⟨x4, e_x4, e⟩ := mBind e
          refine mGo.aald (n := 37) dX8_bordered_36 e_x4 rfl ?_
          refine mGo.astore (n := 39) (ls' := [some (va_rf v0), some (.int v1), some (.int v2), some (.int x1), some (va_rf x4), none]) dX8_bordered_37 rfl (Nat.le_of_ble_eq_true rfl) rfl ?_
          refine mGo.aload (n := 41) (r := x4) dX8_bordered_39 rfl rfl ?_
          refine mGo.iload_n (n := 42) (x := v1) dX8_bordered_41 rfl rfl ?_
          refine mGo.iconst (n := 43) (v := (1 : Int32)) dX8_bordered_42 (by decide) rfl ?_
          refine mGo.iadd (n := 44) dX8_bordered_43 rfl ?_
          obtain ⟨x5, e_x5, e⟩ := mBind e
          refine mGo.callV (n := 47) (y := zX7_begin) (R' := (mRoom (2) 0 0)) (as := [.int (v1 + (1 : Int32))]) (st := []) (r0 := x4) dX8_bordered_44 sc_RX8_91 rfl (s_X7_begin x4 (v1 + (1 : Int32)) h e_x5) (e_X7_begin x4 (v1 + (1 : Int32)) h e_x5) (mFit_of rfl (Nat.le_of_ble_eq_true rfl) (by decide) (Nat.le_of_ble_eq_true rfl) (Nat.le_of_ble_eq_true rfl)) (Nat.le_of_ble_eq_true rfl) rfl rfl ?_
          intro _ _ hq
          rw [hq.1, hq.2]
          show mGo w kX8_bordered 0 0 47 [some (va_rf v0), some (.int v1), some (.int v2), some (.int x1), some (va_rf x4), none] [] x5 Q
          refine mGo.iconst (n := 48) (v := (0 : Int32)) dX8_bordered_47 (by decide) rfl ?_
          refine mGo.istore (n := 50) (ls' := [some (va_rf v0), some (.int v1), some (.int v2), some (.int x1), some (va_rf x4), some (.int (0 : Int32))]) dX8_bordered_48 ((mSt_set (fun u _ hu => by cases hu; exact mRfc _)).trans rfl) (Nat.le_of_ble_eq_true rfl) rfl ?_
          refine mGo.mk [false, true, true, true, true, true] ?_
          exact g_X8_bordered_l50 v1 v2 x1 x4 (0 : Int32) x5 e q
        · replace e := mIft hc e
          refine mGo.iconst (n := 30) (v := (-1 : Int32)) dX8_bordered_29 (by decide) rfl ?_
          cases e
          exact mGo.iret dX8_bordered_30 rfl (Nat.le_of_ble_eq_true rfl) (Nat.le_of_ble_eq_true rfl) q
theorem e_X8_bordered {w : mWp} (v0 : Option Nat) (v1 : Int32) (v2 : Int32) (h : mH) {res : Int32 × mH} (e : f_X8_bordered v0 v1 v2 h = some res) : mEx w zX8_bordered (mRoom 3 0 0) [va_rf v0, .int v1, .int v2] h (fun r h2 => r = some (.int res.1) ∧ h2 = res.2) := by
  refine mEx.of (by decide +kernel) (show mEnt [va_rf v0, .int v1, .int v2] 6 = [some (va_rf v0), some (.int v1), some (.int v2), none, none, none] by rw [mEnt_r, mEnt_i, mEnt_i] <;> rfl) (by simp only [List.map_cons, List.map_nil, mRfc, mCi, mCj, List.sum_cons, List.sum_nil]; exact Nat.le_of_ble_eq_true rfl) ?_
  refine g_X8_bordered v0 v1 v2 h e ?_
  exact ⟨rfl, rfl⟩
theorem s_X8_bordered (v0 : Option Nat) (v1 : Int32) (v2 : Int32) (h : mH) {res : Int32 × mH} (e : f_X8_bordered v0 v1 v2 h = some res) : mIs h v0 7 = some () := by
  unfold f_X8_bordered at e
  obtain ⟨u, e1, _⟩ := mBind e
  cases u
  exact e1
-- X8_completed
def kX8_completed : mK := (cX8_completed, RX8, 3, some (.int), "completed", mRoom 25 0 0)
def zX8_completed : mY := (yX8_completed, cX8_completed, 3, some (.int))
set_option maxRecDepth 100000 in
theorem sc_RX8_145 : mSV RX8 145 zX0_find 3 0 := ⟨Or.inr ⟨_, mNest_at 342 (x := Cond.methodLinkNest RX8 145 yX0_find "SignTables") (by decide +kernel) rfl⟩, mT_at 426 (by decide +kernel) rfl, mT_at 9 (by decide +kernel) rfl, mT_at 85 (by decide +kernel) rfl, mT_at 427 (by decide +kernel) rfl, ⟨by decide +kernel, by decide +kernel, by decide +kernel⟩, by decide, rfl⟩
set_option maxRecDepth 100000 in
theorem sf_RX8_149 : mFld RX8 149 0 0 := ⟨by decide, by decide, Or.inr ⟨_, mNest_at 78 (x := Cond.fieldLinkNest RX8 149 (mCR 0) (mCT 0 0).2.1 (mCT 0 0).2.2.1 "SignTables") (by decide +kernel) rfl⟩⟩
noncomputable def f_X8_completed_c39 (v0 : Option Nat) (v1 : Int32) (v2 : Int32) (h : mH) : Option (Int32 × mH) :=
  (mGI h v0 7 2).bind fun x1 =>
  if v1 < x1 then
    some ((-1 : Int32), h)
  else
    (f_X8_toldFits v0 v1 h).bind fun x2 =>
    if x2 = 0 then
      some ((-1 : Int32), h)
    else
      (mGR h v0 7 5).bind fun x3 =>
      (mGR h v0 7 1).bind fun x4 =>
      (mGI h v0 7 2).bind fun x5 =>
      (f_X0_find x3 x4 x5 v1 h).bind fun x6 =>
      if x6.1 = 0 then
        some ((-1 : Int32), x6.2)
      else
        (mGR x6.2 v0 7 0).bind fun x7 =>
        (mAR x6.2 x7 v2).bind fun x8 =>
        (mGR x6.2 v0 7 5).bind fun x9 =>
        (mGR x6.2 x9 0 0).bind fun x10 =>
        (f_X7_layRows x8 x10 v1 x6.2).bind fun x11 =>
        (mPF x11 v0 7 2 (.int (0 : Int32))).bind fun h12 =>
        some (v2, h12)
set_option maxRecDepth 100000 in
set_option maxHeartbeats 4000000 in
theorem g_X8_completed_c39 {w : mWp} {Q : Option Value → mH → Prop} (v0 : Option Nat) (v1 : Int32) (v2 : Int32) (h : mH) {res : Int32 × mH} (e : f_X8_completed_c39 v0 v1 v2 h = some res) (q : (fun r : Int32 × mH => Q (some (.int r.1)) r.2) res) : mGo w kX8_completed 0 0 39 [some (va_rf v0), some (.int v1), some (.int v2)] [] h Q := by
  unfold f_X8_completed_c39 at e
  refine mGo.aload_n (n := 40) (r := v0) dX8_completed_39 rfl rfl ?_
  obtain ⟨x1, e_x1, e⟩ := mBind e
  refine mGo.getI (n := 43) dX8_completed_40 sf_RX8_68 e_x1 rfl ?_
  refine mGo.iload_n (n := 44) (x := v1) dX8_completed_43 rfl rfl ?_
  refine mGo.icmp_gt (tgt := 74) (n := 47) dX8_completed_44 (by decide) rfl (fun hc => ?_) (fun hc => ?_)
  · replace e := mIft hc e
    refine mGo.iconst (n := 75) (v := (-1 : Int32)) dX8_completed_74 (by decide) rfl ?_
    cases e
    exact mGo.iret dX8_completed_75 rfl (Nat.le_of_ble_eq_true rfl) (Nat.le_of_ble_eq_true rfl) q
  · replace e := mIff hc e
    refine mGo.aload_n (n := 48) (r := v0) dX8_completed_47 rfl rfl ?_
    refine mGo.iload_n (n := 49) (x := v1) dX8_completed_48 rfl rfl ?_
    obtain ⟨x2, e_x2, e⟩ := mBind e
    refine mGo.callV (n := 52) (y := zX8_toldFits) (R' := (mRoom (2) 0 0)) (as := [.int v1]) (st := []) (r0 := v0) dX8_completed_49 sc_RX8_77 rfl (s_X8_toldFits v0 v1 h e_x2) (e_X8_toldFits v0 v1 h e_x2) (mFit_of rfl (Nat.le_of_ble_eq_true rfl) (by decide) (Nat.le_of_ble_eq_true rfl) (Nat.le_of_ble_eq_true rfl)) (Nat.le_of_ble_eq_true rfl) rfl rfl ?_
    intro _ _ hq
    rw [hq.1, hq.2]
    show mGo w kX8_completed 0 0 52 [some (va_rf v0), some (.int v1), some (.int v2)] [.int x2] h Q
    refine mGo.if_eq (tgt := 74) (n := 55) dX8_completed_52 (by decide) rfl (fun hc => ?_) (fun hc => ?_)
    · replace e := mIft hc e
      refine mGo.iconst (n := 75) (v := (-1 : Int32)) dX8_completed_74 (by decide) rfl ?_
      cases e
      exact mGo.iret dX8_completed_75 rfl (Nat.le_of_ble_eq_true rfl) (Nat.le_of_ble_eq_true rfl) q
    · replace e := mIff hc e
      refine mGo.aload_n (n := 56) (r := v0) dX8_completed_55 rfl rfl ?_
      obtain ⟨x3, e_x3, e⟩ := mBind e
      refine mGo.getR (n := 59) dX8_completed_56 sf_RX8_29 e_x3 rfl ?_
      refine mGo.aload_n (n := 60) (r := v0) dX8_completed_59 rfl rfl ?_
      obtain ⟨x4, e_x4, e⟩ := mBind e
      refine mGo.getR (n := 63) dX8_completed_60 sf_RX8_16 e_x4 rfl ?_
      refine mGo.aload_n (n := 64) (r := v0) dX8_completed_63 rfl rfl ?_
      obtain ⟨x5, e_x5, e⟩ := mBind e
      refine mGo.getI (n := 67) dX8_completed_64 sf_RX8_68 e_x5 rfl ?_
      refine mGo.iload_n (n := 68) (x := v1) dX8_completed_67 rfl rfl ?_
      obtain ⟨x6, e_x6, e⟩ := mBind e
      refine mGo.callV (n := 71) (y := zX0_find) (R' := (mRoom (24) 0 0)) (as := [va_rf x4, .int x5, .int v1]) (st := []) (r0 := x3) dX8_completed_68 sc_RX8_145 rfl (s_X0_find x3 x4 x5 v1 h e_x6) (e_X0_find x3 x4 x5 v1 h e_x6) (mFit_of rfl (Nat.le_of_ble_eq_true rfl) (by decide) (Nat.le_of_ble_eq_true rfl) (Nat.le_of_ble_eq_true rfl)) (Nat.le_of_ble_eq_true rfl) rfl rfl ?_
      intro _ _ hq
      rw [hq.1, hq.2]
      show mGo w kX8_completed 0 0 71 [some (va_rf v0), some (.int v1), some (.int v2)] [.int x6.1] x6.2 Q
      refine mGo.if_ne (tgt := 76) (n := 74) dX8_completed_71 (by decide) rfl (fun hc => ?_) (fun hc => ?_)
      · replace e := mIff hc e
        refine mGo.aload_n (n := 77) (r := v0) dX8_completed_76 rfl rfl ?_
        obtain ⟨x7, e_x7, e⟩ := mBind e
        refine mGo.getR (n := 80) dX8_completed_77 sf_RX8_11 e_x7 rfl ?_
        refine mGo.iload_n (n := 81) (x := v2) dX8_completed_80 rfl rfl ?_
        obtain ⟨x8, e_x8, e⟩ := mBind e
        refine mGo.aald (n := 82) dX8_completed_81 e_x8 rfl ?_
        refine mGo.aload_n (n := 83) (r := v0) dX8_completed_82 rfl rfl ?_
        obtain ⟨x9, e_x9, e⟩ := mBind e
        refine mGo.getR (n := 86) dX8_completed_83 sf_RX8_29 e_x9 rfl ?_
        obtain ⟨x10, e_x10, e⟩ := mBind e
        refine mGo.getR (n := 89) dX8_completed_86 sf_RX8_149 e_x10 rfl ?_
        refine mGo.iload_n (n := 90) (x := v1) dX8_completed_89 rfl rfl ?_
        obtain ⟨x11, e_x11, e⟩ := mBind e
        refine mGo.callV (n := 93) (y := zX7_layRows) (R' := (mRoom (3) 0 0)) (as := [va_rf x10, .int v1]) (st := []) (r0 := x8) dX8_completed_90 sc_RX8_81 rfl (s_X7_layRows x8 x10 v1 x6.2 e_x11) (e_X7_layRows x8 x10 v1 x6.2 e_x11) (mFit_of rfl (Nat.le_of_ble_eq_true rfl) (by decide) (Nat.le_of_ble_eq_true rfl) (Nat.le_of_ble_eq_true rfl)) (Nat.le_of_ble_eq_true rfl) rfl rfl ?_
        intro _ _ hq
        rw [hq.1, hq.2]
        show mGo w kX8_completed 0 0 93 [some (va_rf v0), some (.int v1), some (.int v2)] [] x11 Q
        refine mGo.aload_n (n := 94) (r := v0) dX8_completed_93 rfl rfl ?_
        refine mGo.iconst (n := 95) (v := (0 : Int32)) dX8_completed_94 (by decide) rfl ?_
        obtain ⟨h12, e_h12, e⟩ := mBind e
        refine mGo.putI (n := 98) dX8_completed_95 sf_RX8_68 rfl rfl e_h12 rfl ?_
        refine mGo.iload_n (n := 99) (x := v2) dX8_completed_98 rfl rfl ?_
        cases e
        exact mGo.iret dX8_completed_99 rfl (Nat.le_of_ble_eq_true rfl) (Nat.le_of_ble_eq_true rfl) q
      · replace e := mIft hc e
        refine mGo.iconst (n := 75) (v := (-1 : Int32)) dX8_completed_74 (by decide) rfl ?_
        cases e
        exact mGo.iret dX8_completed_75 rfl (Nat.le_of_ble_eq_true rfl) (Nat.le_of_ble_eq_true rfl) q
noncomputable def f_X8_completed (v0 : Option Nat) (v1 : Int32) (h : mH) : Option (Int32 × mH) :=
  (mIs h v0 7).bind fun _ =>
  (f_X8_emptyPlace v0 h).bind fun x1 =>
  if x1 = (-1 : Int32) then
    some ((-1 : Int32), h)
  else
    if v1 = (1 : Int32) then
      f_X8_completed_c39 v0 v1 x1 h
    else
      if v1 = (2 : Int32) then
        f_X8_completed_c39 v0 v1 x1 h
      else
        if v1 = (4 : Int32) then
          f_X8_completed_c39 v0 v1 x1 h
        else
          if v1 = (8 : Int32) then
            f_X8_completed_c39 v0 v1 x1 h
          else
            if v1 = (12 : Int32) then
              f_X8_completed_c39 v0 v1 x1 h
            else
              some ((-1 : Int32), h)
set_option maxRecDepth 100000 in
set_option maxHeartbeats 4000000 in
theorem g_X8_completed {w : mWp} {Q : Option Value → mH → Prop} (v0 : Option Nat) (v1 : Int32) (h : mH) {res : Int32 × mH} (e : f_X8_completed v0 v1 h = some res) (q : (fun r : Int32 × mH => Q (some (.int r.1)) r.2) res) : mGo w kX8_completed 0 0 0 [some (va_rf v0), some (.int v1), none] [] h Q := by
  unfold f_X8_completed at e
  obtain ⟨_, _, e⟩ := mBind e
  refine mGo.aload_n (n := 1) (r := v0) dX8_completed_0 rfl rfl ?_
  obtain ⟨x1, e_x1, e⟩ := mBind e
  refine mGo.callV (n := 4) (y := zX8_emptyPlace) (R' := (mRoom (1) 0 0)) (as := []) (st := []) (r0 := v0) dX8_completed_1 sc_RX8_73 rfl (s_X8_emptyPlace v0 h e_x1) (e_X8_emptyPlace v0 h e_x1) (mFit_of rfl (Nat.le_of_ble_eq_true rfl) (by decide) (Nat.le_of_ble_eq_true rfl) (Nat.le_of_ble_eq_true rfl)) (Nat.le_of_ble_eq_true rfl) rfl rfl ?_
  intro _ _ hq
  rw [hq.1, hq.2]
  show mGo w kX8_completed 0 0 4 [some (va_rf v0), some (.int v1), none] [.int x1] h Q
  refine mGo.istore_n (n := 5) (ls' := [some (va_rf v0), some (.int v1), some (.int x1)]) dX8_completed_4 rfl (Nat.le_of_ble_eq_true rfl) rfl ?_
  refine mGo.iload_n (n := 6) (x := x1) dX8_completed_5 rfl rfl ?_
  refine mGo.iconst (n := 7) (v := (-1 : Int32)) dX8_completed_6 (by decide) rfl ?_
  refine mGo.icmp_eq (tgt := 37) (n := 10) dX8_completed_7 (by decide) rfl (fun hc => ?_) (fun hc => ?_)
  · replace e := mIft hc e
    refine mGo.iconst (n := 38) (v := (-1 : Int32)) dX8_completed_37 (by decide) rfl ?_
    cases e
    exact mGo.iret dX8_completed_38 rfl (Nat.le_of_ble_eq_true rfl) (Nat.le_of_ble_eq_true rfl) q
  · replace e := mIff hc e
    refine mGo.iload_n (n := 11) (x := v1) dX8_completed_10 rfl rfl ?_
    refine mGo.iconst (n := 12) (v := (1 : Int32)) dX8_completed_11 (by decide) rfl ?_
    refine mGo.icmp_eq (tgt := 39) (n := 15) dX8_completed_12 (by decide) rfl (fun hc => ?_) (fun hc => ?_)
    · replace e := mIft hc e
      refine mGo.mk [true, true, true] ?_
      exact g_X8_completed_c39 v0 v1 x1 h e q
    · replace e := mIff hc e
      refine mGo.iload_n (n := 16) (x := v1) dX8_completed_15 rfl rfl ?_
      refine mGo.iconst (n := 17) (v := (2 : Int32)) dX8_completed_16 (by decide) rfl ?_
      refine mGo.icmp_eq (tgt := 39) (n := 20) dX8_completed_17 (by decide) rfl (fun hc => ?_) (fun hc => ?_)
      · replace e := mIft hc e
        refine mGo.mk [true, true, true] ?_
        exact g_X8_completed_c39 v0 v1 x1 h e q
      · replace e := mIff hc e
        refine mGo.iload_n (n := 21) (x := v1) dX8_completed_20 rfl rfl ?_
        refine mGo.iconst (n := 22) (v := (4 : Int32)) dX8_completed_21 (by decide) rfl ?_
        refine mGo.icmp_eq (tgt := 39) (n := 25) dX8_completed_22 (by decide) rfl (fun hc => ?_) (fun hc => ?_)
        · replace e := mIft hc e
          refine mGo.mk [true, true, true] ?_
          exact g_X8_completed_c39 v0 v1 x1 h e q
        · replace e := mIff hc e
          refine mGo.iload_n (n := 26) (x := v1) dX8_completed_25 rfl rfl ?_
          refine mGo.bipush (n := 28) (v := (8 : Int32)) dX8_completed_26 (by decide) rfl ?_
          refine mGo.icmp_eq (tgt := 39) (n := 31) dX8_completed_28 (by decide) rfl (fun hc => ?_) (fun hc => ?_)
          · replace e := mIft hc e
            refine mGo.mk [true, true, true] ?_
            exact g_X8_completed_c39 v0 v1 x1 h e q
          · replace e := mIff hc e
            refine mGo.iload_n (n := 32) (x := v1) dX8_completed_31 rfl rfl ?_
            refine mGo.bipush (n := 34) (v := (12 : Int32)) dX8_completed_32 (by decide) rfl ?_
            refine mGo.icmp_eq (tgt := 39) (n := 37) dX8_completed_34 (by decide) rfl (fun hc => ?_) (fun hc => ?_)
            · replace e := mIft hc e
              refine mGo.mk [true, true, true] ?_
              exact g_X8_completed_c39 v0 v1 x1 h e q
            · replace e := mIff hc e
              refine mGo.iconst (n := 38) (v := (-1 : Int32)) dX8_completed_37 (by decide) rfl ?_
              cases e
              exact mGo.iret dX8_completed_38 rfl (Nat.le_of_ble_eq_true rfl) (Nat.le_of_ble_eq_true rfl) q
theorem e_X8_completed {w : mWp} (v0 : Option Nat) (v1 : Int32) (h : mH) {res : Int32 × mH} (e : f_X8_completed v0 v1 h = some res) : mEx w zX8_completed (mRoom 25 0 0) [va_rf v0, .int v1] h (fun r h2 => r = some (.int res.1) ∧ h2 = res.2) := by
  refine mEx.of (by decide +kernel) (show mEnt [va_rf v0, .int v1] 3 = [some (va_rf v0), some (.int v1), none] by rw [mEnt_r, mEnt_i] <;> rfl) (by simp only [List.map_cons, List.map_nil, mRfc, mCi, mCj, List.sum_cons, List.sum_nil]; exact Nat.le_of_ble_eq_true rfl) ?_
  refine g_X8_completed v0 v1 h e ?_
  exact ⟨rfl, rfl⟩
theorem s_X8_completed (v0 : Option Nat) (v1 : Int32) (h : mH) {res : Int32 × mH} (e : f_X8_completed v0 v1 h = some res) : mIs h v0 7 = some () := by
  unfold f_X8_completed at e
  obtain ⟨u, e1, _⟩ := mBind e
  cases u
  exact e1
-- X8_copy
def kX8_copy : mK := (cX8_copy, RX8, 4, some (.int), "copy", mRoom 4 0 0)
def zX8_copy : mY := (yX8_copy, cX8_copy, 4, some (.int))
noncomputable def f_X8_copy (v0 : Option Nat) (v1 : Int32) (h : mH) : Option (Int32 × mH) :=
  (mIs h v0 7).bind fun _ =>
  (f_X8_tableAt v0 v1 h).bind fun x1 =>
  (f_X8_emptyPlace v0 h).bind fun x2 =>
  if x1 = none then
    some ((-1 : Int32), h)
  else
    if x2 = (-1 : Int32) then
      some ((-1 : Int32), h)
    else
      (mGR h v0 7 0).bind fun x3 =>
      (mAR h x3 x2).bind fun x4 =>
      (mGR h x1 6 1).bind fun x5 =>
      (mGI h x1 6 0).bind fun x6 =>
      (f_X7_layRows x4 x5 x6 h).bind fun x7 =>
      some (x2, x7)
set_option maxRecDepth 100000 in
set_option maxHeartbeats 4000000 in
theorem g_X8_copy {w : mWp} {Q : Option Value → mH → Prop} (v0 : Option Nat) (v1 : Int32) (h : mH) {res : Int32 × mH} (e : f_X8_copy v0 v1 h = some res) (q : (fun r : Int32 × mH => Q (some (.int r.1)) r.2) res) : mGo w kX8_copy 0 0 0 [some (va_rf v0), some (.int v1), none, none] [] h Q := by
  unfold f_X8_copy at e
  obtain ⟨_, _, e⟩ := mBind e
  refine mGo.aload_n (n := 1) (r := v0) dX8_copy_0 rfl rfl ?_
  refine mGo.iload_n (n := 2) (x := v1) dX8_copy_1 rfl rfl ?_
  obtain ⟨x1, e_x1, e⟩ := mBind e
  refine mGo.callV (n := 5) (y := zX8_tableAt) (R' := (mRoom (1) 0 0)) (as := [.int v1]) (st := []) (r0 := v0) dX8_copy_2 sc_RX8_118 rfl (s_X8_tableAt v0 v1 h e_x1) (e_X8_tableAt v0 v1 h e_x1) (mFit_of rfl (Nat.le_of_ble_eq_true rfl) (by decide) (Nat.le_of_ble_eq_true rfl) (Nat.le_of_ble_eq_true rfl)) (Nat.le_of_ble_eq_true rfl) rfl rfl ?_
  intro _ _ hq
  rw [hq.1, hq.2]
  show mGo w kX8_copy 0 0 5 [some (va_rf v0), some (.int v1), none, none] [va_rf x1] h Q
  refine mGo.astore_n (n := 6) (ls' := [some (va_rf v0), some (.int v1), some (va_rf x1), none]) dX8_copy_5 rfl (Nat.le_of_ble_eq_true rfl) rfl ?_
  refine mGo.aload_n (n := 7) (r := v0) dX8_copy_6 rfl rfl ?_
  obtain ⟨x2, e_x2, e⟩ := mBind e
  refine mGo.callV (n := 10) (y := zX8_emptyPlace) (R' := (mRoom (1) 0 0)) (as := []) (st := []) (r0 := v0) dX8_copy_7 sc_RX8_73 rfl (s_X8_emptyPlace v0 h e_x2) (e_X8_emptyPlace v0 h e_x2) (mFit_of rfl (Nat.le_of_ble_eq_true rfl) (by decide) (Nat.le_of_ble_eq_true rfl) (Nat.le_of_ble_eq_true rfl)) (Nat.le_of_ble_eq_true rfl) rfl rfl ?_
  intro _ _ hq
  rw [hq.1, hq.2]
  show mGo w kX8_copy 0 0 10 [some (va_rf v0), some (.int v1), some (va_rf x1), none] [.int x2] h Q
  refine mGo.istore_n (n := 11) (ls' := [some (va_rf v0), some (.int v1), some (va_rf x1), some (.int x2)]) dX8_copy_10 ((mSt_set (fun u _ hu => by cases hu; exact mRfc _)).trans rfl) (Nat.le_of_ble_eq_true rfl) rfl ?_
  refine mGo.aload_n (n := 12) (r := x1) dX8_copy_11 rfl rfl ?_
  refine mGo.ifnull (tgt := 20) (n := 15) dX8_copy_12 (by decide) rfl (fun hc => ?_) (fun hc => ?_)
  · replace e := mIft hc e
    refine mGo.iconst (n := 21) (v := (-1 : Int32)) dX8_copy_20 (by decide) rfl ?_
    cases e
    exact mGo.iret dX8_copy_21 rfl (Nat.le_of_ble_eq_true rfl) (Nat.le_of_ble_eq_true rfl) q
  · replace e := mIff hc e
    refine mGo.iload_n (n := 16) (x := x2) dX8_copy_15 rfl rfl ?_
    refine mGo.iconst (n := 17) (v := (-1 : Int32)) dX8_copy_16 (by decide) rfl ?_
    refine mGo.icmp_ne (tgt := 22) (n := 20) dX8_copy_17 (by decide) rfl (fun hc => ?_) (fun hc => ?_)
    · replace e := mIff hc e
      refine mGo.aload_n (n := 23) (r := v0) dX8_copy_22 rfl rfl ?_
      obtain ⟨x3, e_x3, e⟩ := mBind e
      refine mGo.getR (n := 26) dX8_copy_23 sf_RX8_11 e_x3 rfl ?_
      refine mGo.iload_n (n := 27) (x := x2) dX8_copy_26 rfl rfl ?_
      obtain ⟨x4, e_x4, e⟩ := mBind e
      refine mGo.aald (n := 28) dX8_copy_27 e_x4 rfl ?_
      refine mGo.aload_n (n := 29) (r := x1) dX8_copy_28 rfl rfl ?_
      obtain ⟨x5, e_x5, e⟩ := mBind e
      refine mGo.getR (n := 32) dX8_copy_29 sf_RX8_125 e_x5 rfl ?_
      refine mGo.aload_n (n := 33) (r := x1) dX8_copy_32 rfl rfl ?_
      obtain ⟨x6, e_x6, e⟩ := mBind e
      refine mGo.getI (n := 36) dX8_copy_33 sf_RX8_122 e_x6 rfl ?_
      obtain ⟨x7, e_x7, e⟩ := mBind e
      refine mGo.callV (n := 39) (y := zX7_layRows) (R' := (mRoom (3) 0 0)) (as := [va_rf x5, .int x6]) (st := []) (r0 := x4) dX8_copy_36 sc_RX8_81 rfl (s_X7_layRows x4 x5 x6 h e_x7) (e_X7_layRows x4 x5 x6 h e_x7) (mFit_of rfl (Nat.le_of_ble_eq_true rfl) (by decide) (Nat.le_of_ble_eq_true rfl) (Nat.le_of_ble_eq_true rfl)) (Nat.le_of_ble_eq_true rfl) rfl rfl ?_
      intro _ _ hq
      rw [hq.1, hq.2]
      show mGo w kX8_copy 0 0 39 [some (va_rf v0), some (.int v1), some (va_rf x1), some (.int x2)] [] x7 Q
      refine mGo.iload_n (n := 40) (x := x2) dX8_copy_39 rfl rfl ?_
      cases e
      exact mGo.iret dX8_copy_40 rfl (Nat.le_of_ble_eq_true rfl) (Nat.le_of_ble_eq_true rfl) q
    · replace e := mIft hc e
      refine mGo.iconst (n := 21) (v := (-1 : Int32)) dX8_copy_20 (by decide) rfl ?_
      cases e
      exact mGo.iret dX8_copy_21 rfl (Nat.le_of_ble_eq_true rfl) (Nat.le_of_ble_eq_true rfl) q
theorem e_X8_copy {w : mWp} (v0 : Option Nat) (v1 : Int32) (h : mH) {res : Int32 × mH} (e : f_X8_copy v0 v1 h = some res) : mEx w zX8_copy (mRoom 4 0 0) [va_rf v0, .int v1] h (fun r h2 => r = some (.int res.1) ∧ h2 = res.2) := by
  refine mEx.of (by decide +kernel) (show mEnt [va_rf v0, .int v1] 4 = [some (va_rf v0), some (.int v1), none, none] by rw [mEnt_r, mEnt_i] <;> rfl) (by simp only [List.map_cons, List.map_nil, mRfc, mCi, mCj, List.sum_cons, List.sum_nil]; exact Nat.le_of_ble_eq_true rfl) ?_
  refine g_X8_copy v0 v1 h e ?_
  exact ⟨rfl, rfl⟩
theorem s_X8_copy (v0 : Option Nat) (v1 : Int32) (h : mH) {res : Int32 × mH} (e : f_X8_copy v0 v1 h = some res) : mIs h v0 7 = some () := by
  unfold f_X8_copy at e
  obtain ⟨u, e1, _⟩ := mBind e
  cases u
  exact e1
-- X8_drop
def kX8_drop : mK := (cX8_drop, RX8, 3, some (.boolean), "drop", mRoom 2 0 0)
def zX8_drop : mY := (yX8_drop, cX8_drop, 3, some (.boolean))
def f_X8_drop (v0 : Option Nat) (v1 : Int32) (h : mH) : Option (Int32 × mH) :=
  (mIs h v0 7).bind fun _ =>
  (f_X8_tableAt v0 v1 h).bind fun x1 =>
  if x1 = none then
    some ((0 : Int32), h)
  else
    (mPF h x1 6 0 (.int (0 : Int32))).bind fun h2 =>
    some ((1 : Int32), h2)
set_option maxRecDepth 100000 in
set_option maxHeartbeats 4000000 in
theorem g_X8_drop {w : mWp} {Q : Option Value → mH → Prop} (v0 : Option Nat) (v1 : Int32) (h : mH) {res : Int32 × mH} (e : f_X8_drop v0 v1 h = some res) (q : (fun r : Int32 × mH => Q (some (.int r.1)) r.2) res) : mGo w kX8_drop 0 0 0 [some (va_rf v0), some (.int v1), none] [] h Q := by
  unfold f_X8_drop at e
  obtain ⟨_, _, e⟩ := mBind e
  refine mGo.aload_n (n := 1) (r := v0) dX8_drop_0 rfl rfl ?_
  refine mGo.iload_n (n := 2) (x := v1) dX8_drop_1 rfl rfl ?_
  obtain ⟨x1, e_x1, e⟩ := mBind e
  refine mGo.callV (n := 5) (y := zX8_tableAt) (R' := (mRoom (1) 0 0)) (as := [.int v1]) (st := []) (r0 := v0) dX8_drop_2 sc_RX8_118 rfl (s_X8_tableAt v0 v1 h e_x1) (e_X8_tableAt v0 v1 h e_x1) (mFit_of rfl (Nat.le_of_ble_eq_true rfl) (by decide) (Nat.le_of_ble_eq_true rfl) (Nat.le_of_ble_eq_true rfl)) (Nat.le_of_ble_eq_true rfl) rfl rfl ?_
  intro _ _ hq
  rw [hq.1, hq.2]
  show mGo w kX8_drop 0 0 5 [some (va_rf v0), some (.int v1), none] [va_rf x1] h Q
  refine mGo.astore_n (n := 6) (ls' := [some (va_rf v0), some (.int v1), some (va_rf x1)]) dX8_drop_5 rfl (Nat.le_of_ble_eq_true rfl) rfl ?_
  refine mGo.aload_n (n := 7) (r := x1) dX8_drop_6 rfl rfl ?_
  refine mGo.ifnonnull (tgt := 12) (n := 10) dX8_drop_7 (by decide) rfl (fun hc => ?_) (fun hc => ?_)
  · replace e := mIff hc e
    refine mGo.aload_n (n := 13) (r := x1) dX8_drop_12 rfl rfl ?_
    refine mGo.iconst (n := 14) (v := (0 : Int32)) dX8_drop_13 (by decide) rfl ?_
    obtain ⟨h2, e_h2, e⟩ := mBind e
    refine mGo.putI (n := 17) dX8_drop_14 sf_RX8_122 rfl rfl e_h2 rfl ?_
    refine mGo.iconst (n := 18) (v := (1 : Int32)) dX8_drop_17 (by decide) rfl ?_
    cases e
    exact mGo.zret dX8_drop_18 rfl (by decide) (Nat.le_of_ble_eq_true rfl) (Nat.le_of_ble_eq_true rfl) q
  · replace e := mIft hc e
    refine mGo.iconst (n := 11) (v := (0 : Int32)) dX8_drop_10 (by decide) rfl ?_
    cases e
    exact mGo.zret dX8_drop_11 rfl (by decide) (Nat.le_of_ble_eq_true rfl) (Nat.le_of_ble_eq_true rfl) q
theorem e_X8_drop {w : mWp} (v0 : Option Nat) (v1 : Int32) (h : mH) {res : Int32 × mH} (e : f_X8_drop v0 v1 h = some res) : mEx w zX8_drop (mRoom 2 0 0) [va_rf v0, .int v1] h (fun r h2 => r = some (.int res.1) ∧ h2 = res.2) := by
  refine mEx.of (by decide +kernel) (show mEnt [va_rf v0, .int v1] 3 = [some (va_rf v0), some (.int v1), none] by rw [mEnt_r, mEnt_i] <;> rfl) (by simp only [List.map_cons, List.map_nil, mRfc, mCi, mCj, List.sum_cons, List.sum_nil]; exact Nat.le_of_ble_eq_true rfl) ?_
  refine g_X8_drop v0 v1 h e ?_
  exact ⟨rfl, rfl⟩
theorem s_X8_drop (v0 : Option Nat) (v1 : Int32) (h : mH) {res : Int32 × mH} (e : f_X8_drop v0 v1 h = some res) : mIs h v0 7 = some () := by
  unfold f_X8_drop at e
  obtain ⟨u, e1, _⟩ := mBind e
  cases u
  exact e1
