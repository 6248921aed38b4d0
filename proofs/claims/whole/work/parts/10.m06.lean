-- X8_common
def kX8_common : mK := (cX8_common, RX8, 10, some (.int), "common", mRoom 2 0 0)
def zX8_common : mY := (yX8_common, cX8_common, 10, some (.int))
noncomputable def f_X8_common_c106 (v4 : Option Nat) (v5 : Int32) (v6 : Int32) (v7 : Int32) (s0 : Int32) (h : mH) : Option (Int32) :=
  (f_X7_line v4 v6 (v7 >>> ((1 : Int32) &&& 31)) h).bind fun x1 =>
  (f_X7_line v4 v6 (s0 >>> ((1 : Int32) &&& 31)) h).bind fun x2 =>
  (f_J6_bitCount_0f7a4 (x1 ^^^ x2)).bind fun x3 =>
  if ((v7 ^^^ s0) &&& (1 : Int32)) = 0 then
    some (v5 - x3)
  else
    some x3
set_option maxRecDepth 100000 in
set_option maxHeartbeats 4000000 in
theorem g_X8_common_c106 {w : mWp} {Q : Option Value → mH → Prop} (v4 : Option Nat) (v5 : Int32) (v6 : Int32) (v7 : Int32) (s0 : Int32) (h : mH) {res : Int32} (e : f_X8_common_c106 v4 v5 v6 v7 s0 h = some res) (q : (fun r : Int32 => Q (some (.int r)) h) res) : mGo w kX8_common 0 0 106 [none, none, none, none, some (va_rf v4), some (.int v5), some (.int v6), some (.int v7), none, none] [.int s0] h Q := by
  unfold f_X8_common_c106 at e
  refine mGo.istore (n := 108) (ls' := [none, none, none, none, some (va_rf v4), some (.int v5), some (.int v6), some (.int v7), some (.int s0), none]) dX8_common_106 rfl (Nat.le_of_ble_eq_true rfl) rfl ?_
  refine mGo.aload (n := 110) (r := v4) dX8_common_108 rfl rfl ?_
  refine mGo.iload (n := 112) (x := v6) dX8_common_110 rfl rfl ?_
  refine mGo.iload (n := 114) (x := v7) dX8_common_112 rfl rfl ?_
  refine mGo.iconst (n := 115) (v := (1 : Int32)) dX8_common_114 (by decide) rfl ?_
  refine mGo.ishr (n := 116) dX8_common_115 rfl ?_
  obtain ⟨x1, e_x1, e⟩ := mBind e
  refine mGo.callV (n := 119) (y := zX7_line) (R' := (mRoom (1) 0 0)) (as := [.int v6, .int (v7 >>> ((1 : Int32) &&& 31))]) (st := []) (r0 := v4) dX8_common_116 sc_RX8_171 rfl (s_X7_line v4 v6 (v7 >>> ((1 : Int32) &&& 31)) h e_x1) (e_X7_line v4 v6 (v7 >>> ((1 : Int32) &&& 31)) h e_x1) (mFit_of rfl (Nat.le_of_ble_eq_true rfl) (by decide) (Nat.le_of_ble_eq_true rfl) (Nat.le_of_ble_eq_true rfl)) (Nat.le_of_ble_eq_true rfl) rfl rfl ?_
  intro _ _ hq
  rw [hq.1, hq.2]
  show mGo w kX8_common 0 0 119 [none, none, none, none, some (va_rf v4), some (.int v5), some (.int v6), some (.int v7), some (.int s0), none] [.int x1] h Q
  refine mGo.aload (n := 121) (r := v4) dX8_common_119 rfl rfl ?_
  refine mGo.iload (n := 123) (x := v6) dX8_common_121 rfl rfl ?_
  refine mGo.iload (n := 125) (x := s0) dX8_common_123 rfl rfl ?_
  refine mGo.iconst (n := 126) (v := (1 : Int32)) dX8_common_125 (by decide) rfl ?_
  refine mGo.ishr (n := 127) dX8_common_126 rfl ?_
  obtain ⟨x2, e_x2, e⟩ := mBind e
  refine mGo.callV (n := 130) (y := zX7_line) (R' := (mRoom (1) 0 0)) (as := [.int v6, .int (s0 >>> ((1 : Int32) &&& 31))]) (st := [.int x1]) (r0 := v4) dX8_common_127 sc_RX8_171 rfl (s_X7_line v4 v6 (s0 >>> ((1 : Int32) &&& 31)) h e_x2) (e_X7_line v4 v6 (s0 >>> ((1 : Int32) &&& 31)) h e_x2) (mFit_of rfl (Nat.le_of_ble_eq_true rfl) (by decide) (Nat.le_of_ble_eq_true rfl) (Nat.le_of_ble_eq_true rfl)) (Nat.le_of_ble_eq_true rfl) rfl rfl ?_
  intro _ _ hq
  rw [hq.1, hq.2]
  show mGo w kX8_common 0 0 130 [none, none, none, none, some (va_rf v4), some (.int v5), some (.int v6), some (.int v7), some (.int s0), none] [.int x2, .int x1] h Q
  refine mGo.ixor (n := 131) dX8_common_130 rfl ?_
  obtain ⟨x3, e_x3, e⟩ := mBind e
  refine mGo.callS (n := 134) (y := zJ6_bitCount_0f7a4) (R' := (mRoom (1) 0 0)) (as := [.int (x1 ^^^ x2)]) (st := []) dX8_common_131 sc_RX8_258 rfl (e_J6_bitCount_0f7a4 (x1 ^^^ x2) h e_x3) (mFit_of rfl (Nat.le_of_ble_eq_true rfl) (by decide) (Nat.le_of_ble_eq_true rfl) (Nat.le_of_ble_eq_true rfl)) (Nat.le_of_ble_eq_true rfl) rfl rfl ?_
  intro _ _ hq
  rw [hq.1, hq.2]
  show mGo w kX8_common 0 0 134 [none, none, none, none, some (va_rf v4), some (.int v5), some (.int v6), some (.int v7), some (.int s0), none] [.int x3] h Q
  refine mGo.istore (n := 136) (ls' := [none, none, none, none, some (va_rf v4), some (.int v5), some (.int v6), some (.int v7), some (.int s0), some (.int x3)]) dX8_common_134 rfl (Nat.le_of_ble_eq_true rfl) rfl ?_
  refine mGo.iload (n := 138) (x := v7) dX8_common_136 rfl rfl ?_
  refine mGo.iload (n := 140) (x := s0) dX8_common_138 rfl rfl ?_
  refine mGo.ixor (n := 141) dX8_common_140 rfl ?_
  refine mGo.iconst (n := 142) (v := (1 : Int32)) dX8_common_141 (by decide) rfl ?_
  refine mGo.iand (n := 143) dX8_common_142 rfl ?_
  refine mGo.if_ne (tgt := 154) (n := 146) dX8_common_143 (by decide) rfl (fun hc => ?_) (fun hc => ?_)
  · replace e := mIff hc e
    refine mGo.iload (n := 156) (x := x3) dX8_common_154 rfl rfl ?_
    cases e
    exact mGo.iret dX8_common_156 rfl (Nat.le_of_ble_eq_true rfl) (Nat.le_of_ble_eq_true rfl) q
  · replace e := mIft hc e
    refine mGo.iload (n := 148) (x := v5) dX8_common_146 rfl rfl ?_
    refine mGo.iload (n := 150) (x := x3) dX8_common_148 rfl rfl ?_
    refine mGo.isub (n := 151) dX8_common_150 rfl ?_
    refine mGo.goto (tgt := 156) dX8_common_151 (by decide) ?_
    cases e
    exact mGo.iret dX8_common_156 rfl (Nat.le_of_ble_eq_true rfl) (Nat.le_of_ble_eq_true rfl) q
noncomputable def f_X8_common_c89 (v3 : Int32) (v4 : Option Nat) (v5 : Int32) (v6 : Int32) (s0 : Int32) (h : mH) : Option (Int32) :=
  if v6 = 0 then
    f_X8_common_c106 v4 v5 v6 s0 (v3 - ((2 : Int32) * v5)) h
  else
    f_X8_common_c106 v4 v5 v6 s0 v3 h
set_option maxRecDepth 100000 in
set_option maxHeartbeats 4000000 in
theorem g_X8_common_c89 {w : mWp} {Q : Option Value → mH → Prop} (v3 : Int32) (v4 : Option Nat) (v5 : Int32) (v6 : Int32) (s0 : Int32) (h : mH) {res : Int32} (e : f_X8_common_c89 v3 v4 v5 v6 s0 h = some res) (q : (fun r : Int32 => Q (some (.int r)) h) res) : mGo w kX8_common 0 0 89 [none, none, none, some (.int v3), some (va_rf v4), some (.int v5), some (.int v6), none, none, none] [.int s0] h Q := by
  unfold f_X8_common_c89 at e
  refine mGo.istore (n := 91) (ls' := [none, none, none, some (.int v3), some (va_rf v4), some (.int v5), some (.int v6), some (.int s0), none, none]) dX8_common_89 rfl (Nat.le_of_ble_eq_true rfl) rfl ?_
  refine mGo.iload (n := 93) (x := v6) dX8_common_91 rfl rfl ?_
  refine mGo.if_eq (tgt := 100) (n := 96) dX8_common_93 (by decide) rfl (fun hc => ?_) (fun hc => ?_)
  · replace e := mIft hc e
    refine mGo.iload_n (n := 101) (x := v3) dX8_common_100 rfl rfl ?_
    refine mGo.iconst (n := 102) (v := (2 : Int32)) dX8_common_101 (by decide) rfl ?_
    refine mGo.iload (n := 104) (x := v5) dX8_common_102 rfl rfl ?_
    refine mGo.imul (n := 105) dX8_common_104 rfl ?_
    refine mGo.isub (n := 106) dX8_common_105 rfl ?_
    refine mGo.mk [false, false, false, false, true, true, true, true, false, false] ?_
    exact g_X8_common_c106 v4 v5 v6 s0 (v3 - ((2 : Int32) * v5)) h e q
  · replace e := mIff hc e
    refine mGo.iload_n (n := 97) (x := v3) dX8_common_96 rfl rfl ?_
    refine mGo.goto (tgt := 106) dX8_common_97 (by decide) ?_
    refine mGo.mk [false, false, false, false, true, true, true, true, false, false] ?_
    exact g_X8_common_c106 v4 v5 v6 s0 v3 h e q
noncomputable def f_X8_common_c69 (v2 : Int32) (v3 : Int32) (v4 : Option Nat) (v5 : Int32) (v6 : Int32) (s0 : Int32) (s1 : Int32) (h : mH) : Option (Int32) :=
  if s0 = s1 then
    if v6 = 0 then
      f_X8_common_c89 v3 v4 v5 v6 (v2 - ((2 : Int32) * v5)) h
    else
      f_X8_common_c89 v3 v4 v5 v6 v2 h
  else
    some (0 : Int32)
set_option maxRecDepth 100000 in
set_option maxHeartbeats 4000000 in
theorem g_X8_common_c69 {w : mWp} {Q : Option Value → mH → Prop} (v2 : Int32) (v3 : Int32) (v4 : Option Nat) (v5 : Int32) (v6 : Int32) (s0 : Int32) (s1 : Int32) (h : mH) {res : Int32} (e : f_X8_common_c69 v2 v3 v4 v5 v6 s0 s1 h = some res) (q : (fun r : Int32 => Q (some (.int r)) h) res) : mGo w kX8_common 0 0 69 [none, none, some (.int v2), some (.int v3), some (va_rf v4), some (.int v5), some (.int v6), none, none, none] [.int s1, .int s0] h Q := by
  unfold f_X8_common_c69 at e
  refine mGo.icmp_eq (tgt := 74) (n := 72) dX8_common_69 (by decide) rfl (fun hc => ?_) (fun hc => ?_)
  · replace e := mIft hc e
    refine mGo.iload (n := 76) (x := v6) dX8_common_74 rfl rfl ?_
    refine mGo.if_eq (tgt := 83) (n := 79) dX8_common_76 (by decide) rfl (fun hc => ?_) (fun hc => ?_)
    · replace e := mIft hc e
      refine mGo.iload_n (n := 84) (x := v2) dX8_common_83 rfl rfl ?_
      refine mGo.iconst (n := 85) (v := (2 : Int32)) dX8_common_84 (by decide) rfl ?_
      refine mGo.iload (n := 87) (x := v5) dX8_common_85 rfl rfl ?_
      refine mGo.imul (n := 88) dX8_common_87 rfl ?_
      refine mGo.isub (n := 89) dX8_common_88 rfl ?_
      refine mGo.mk [false, false, false, true, true, true, true, false, false, false] ?_
      exact g_X8_common_c89 v3 v4 v5 v6 (v2 - ((2 : Int32) * v5)) h e q
    · replace e := mIff hc e
      refine mGo.iload_n (n := 80) (x := v2) dX8_common_79 rfl rfl ?_
      refine mGo.goto (tgt := 89) dX8_common_80 (by decide) ?_
      refine mGo.mk [false, false, false, true, true, true, true, false, false, false] ?_
      exact g_X8_common_c89 v3 v4 v5 v6 v2 h e q
  · replace e := mIff hc e
    refine mGo.iconst (n := 73) (v := (0 : Int32)) dX8_common_72 (by decide) rfl ?_
    cases e
    exact mGo.iret dX8_common_73 rfl (Nat.le_of_ble_eq_true rfl) (Nat.le_of_ble_eq_true rfl) q
noncomputable def f_X8_common_c52 (v2 : Int32) (v3 : Int32) (v4 : Option Nat) (v5 : Int32) (s0 : Int32) (h : mH) : Option (Int32) :=
  if ((2 : Int32) * v5) ≤ v3 then
    f_X8_common_c69 v2 v3 v4 v5 s0 s0 (0 : Int32) h
  else
    f_X8_common_c69 v2 v3 v4 v5 s0 s0 (1 : Int32) h
set_option maxRecDepth 100000 in
set_option maxHeartbeats 4000000 in
theorem g_X8_common_c52 {w : mWp} {Q : Option Value → mH → Prop} (v2 : Int32) (v3 : Int32) (v4 : Option Nat) (v5 : Int32) (s0 : Int32) (h : mH) {res : Int32} (e : f_X8_common_c52 v2 v3 v4 v5 s0 h = some res) (q : (fun r : Int32 => Q (some (.int r)) h) res) : mGo w kX8_common 0 0 52 [none, none, some (.int v2), some (.int v3), some (va_rf v4), some (.int v5), none, none, none, none] [.int s0] h Q := by
  unfold f_X8_common_c52 at e
  refine mGo.istore (n := 54) (ls' := [none, none, some (.int v2), some (.int v3), some (va_rf v4), some (.int v5), some (.int s0), none, none, none]) dX8_common_52 rfl (Nat.le_of_ble_eq_true rfl) rfl ?_
  refine mGo.iload (n := 56) (x := s0) dX8_common_54 rfl rfl ?_
  refine mGo.iload_n (n := 57) (x := v3) dX8_common_56 rfl rfl ?_
  refine mGo.iconst (n := 58) (v := (2 : Int32)) dX8_common_57 (by decide) rfl ?_
  refine mGo.iload (n := 60) (x := v5) dX8_common_58 rfl rfl ?_
  refine mGo.imul (n := 61) dX8_common_60 rfl ?_
  refine mGo.icmp_ge (tgt := 68) (n := 64) dX8_common_61 (by decide) rfl (fun hc => ?_) (fun hc => ?_)
  · replace e := mIft hc e
    refine mGo.iconst (n := 69) (v := (0 : Int32)) dX8_common_68 (by decide) rfl ?_
    refine mGo.mk [false, false, true, true, true, true, true, false, false, false] ?_
    exact g_X8_common_c69 v2 v3 v4 v5 s0 s0 (0 : Int32) h e q
  · replace e := mIff hc e
    refine mGo.iconst (n := 65) (v := (1 : Int32)) dX8_common_64 (by decide) rfl ?_
    refine mGo.goto (tgt := 69) dX8_common_65 (by decide) ?_
    refine mGo.mk [false, false, true, true, true, true, true, false, false, false] ?_
    exact g_X8_common_c69 v2 v3 v4 v5 s0 s0 (1 : Int32) h e q
noncomputable def f_X8_common (v0 : Option Nat) (v1 : Int32) (v2 : Int32) (v3 : Int32) (h : mH) : Option (Int32) :=
  (mIs h v0 7).bind fun _ =>
  (f_X8_tableAt v0 v1 h).bind fun x1 =>
  if x1 = none then
    some (-1 : Int32)
  else
    (f_X8_isKnot x1 v2 h).bind fun x2 =>
    if x2 = 0 then
      some (-1 : Int32)
    else
      (f_X8_isKnot x1 v3 h).bind fun x3 =>
      if x3 = 0 then
        some (-1 : Int32)
      else
        (mGI h x1 6 0).bind fun x4 =>
        if ((2 : Int32) * x4) ≤ v2 then
          f_X8_common_c52 v2 v3 x1 x4 (0 : Int32) h
        else
          f_X8_common_c52 v2 v3 x1 x4 (1 : Int32) h
set_option maxRecDepth 100000 in
set_option maxHeartbeats 4000000 in
theorem g_X8_common {w : mWp} {Q : Option Value → mH → Prop} (v0 : Option Nat) (v1 : Int32) (v2 : Int32) (v3 : Int32) (h : mH) {res : Int32} (e : f_X8_common v0 v1 v2 v3 h = some res) (q : (fun r : Int32 => Q (some (.int r)) h) res) : mGo w kX8_common 0 0 0 [some (va_rf v0), some (.int v1), some (.int v2), some (.int v3), none, none, none, none, none, none] [] h Q := by
  unfold f_X8_common at e
  obtain ⟨_, _, e⟩ := mBind e
  refine mGo.aload_n (n := 1) (r := v0) dX8_common_0 rfl rfl ?_
  refine mGo.iload_n (n := 2) (x := v1) dX8_common_1 rfl rfl ?_
  obtain ⟨x1, e_x1, e⟩ := mBind e
  refine mGo.callV (n := 5) (y := zX8_tableAt) (R' := (mRoom (1) 0 0)) (as := [.int v1]) (st := []) (r0 := v0) dX8_common_2 sc_RX8_118 rfl (s_X8_tableAt v0 v1 h e_x1) (e_X8_tableAt v0 v1 h e_x1) (mFit_of rfl (Nat.le_of_ble_eq_true rfl) (by decide) (Nat.le_of_ble_eq_true rfl) (Nat.le_of_ble_eq_true rfl)) (Nat.le_of_ble_eq_true rfl) rfl rfl ?_
  intro _ _ hq
  rw [hq.1, hq.2]
  show mGo w kX8_common 0 0 5 [some (va_rf v0), some (.int v1), some (.int v2), some (.int v3), none, none, none, none, none, none] [va_rf x1] h Q
  refine mGo.astore (n := 7) (ls' := [some (va_rf v0), some (.int v1), some (.int v2), some (.int v3), some (va_rf x1), none, none, none, none, none]) dX8_common_5 rfl (Nat.le_of_ble_eq_true rfl) rfl ?_
  refine mGo.aload (n := 9) (r := x1) dX8_common_7 rfl rfl ?_
  refine mGo.ifnull (tgt := 30) (n := 12) dX8_common_9 (by decide) rfl (fun hc => ?_) (fun hc => ?_)
  · replace e := mIft hc e
    refine mGo.iconst (n := 31) (v := (-1 : Int32)) dX8_common_30 (by decide) rfl ?_
    cases e
    exact mGo.iret dX8_common_31 rfl (Nat.le_of_ble_eq_true rfl) (Nat.le_of_ble_eq_true rfl) q
  · replace e := mIff hc e
    refine mGo.aload (n := 14) (r := x1) dX8_common_12 rfl rfl ?_
    refine mGo.iload_n (n := 15) (x := v2) dX8_common_14 rfl rfl ?_
    obtain ⟨x2, e_x2, e⟩ := mBind e
    refine mGo.callS (n := 18) (y := zX8_isKnot) (R' := (mRoom (1) 0 0)) (as := [va_rf x1, .int v2]) (st := []) dX8_common_15 sc_RX8_246 rfl (e_X8_isKnot x1 v2 h e_x2) (mFit_of rfl (Nat.le_of_ble_eq_true rfl) (by decide) (Nat.le_of_ble_eq_true rfl) (Nat.le_of_ble_eq_true rfl)) (Nat.le_of_ble_eq_true rfl) rfl rfl ?_
    intro _ _ hq
    rw [hq.1, hq.2]
    show mGo w kX8_common 0 0 18 [some (va_rf v0), some (.int v1), some (.int v2), some (.int v3), some (va_rf x1), none, none, none, none, none] [.int x2] h Q
    refine mGo.if_eq (tgt := 30) (n := 21) dX8_common_18 (by decide) rfl (fun hc => ?_) (fun hc => ?_)
    · replace e := mIft hc e
      refine mGo.iconst (n := 31) (v := (-1 : Int32)) dX8_common_30 (by decide) rfl ?_
      cases e
      exact mGo.iret dX8_common_31 rfl (Nat.le_of_ble_eq_true rfl) (Nat.le_of_ble_eq_true rfl) q
    · replace e := mIff hc e
      refine mGo.aload (n := 23) (r := x1) dX8_common_21 rfl rfl ?_
      refine mGo.iload_n (n := 24) (x := v3) dX8_common_23 rfl rfl ?_
      obtain ⟨x3, e_x3, e⟩ := mBind e
      refine mGo.callS (n := 27) (y := zX8_isKnot) (R' := (mRoom (1) 0 0)) (as := [va_rf x1, .int v3]) (st := []) dX8_common_24 sc_RX8_246 rfl (e_X8_isKnot x1 v3 h e_x3) (mFit_of rfl (Nat.le_of_ble_eq_true rfl) (by decide) (Nat.le_of_ble_eq_true rfl) (Nat.le_of_ble_eq_true rfl)) (Nat.le_of_ble_eq_true rfl) rfl rfl ?_
      intro _ _ hq
      rw [hq.1, hq.2]
      show mGo w kX8_common 0 0 27 [some (va_rf v0), some (.int v1), some (.int v2), some (.int v3), some (va_rf x1), none, none, none, none, none] [.int x3] h Q
      refine mGo.if_ne (tgt := 32) (n := 30) dX8_common_27 (by decide) rfl (fun hc => ?_) (fun hc => ?_)
      · replace e := mIff hc e
        refine mGo.aload (n := 34) (r := x1) dX8_common_32 rfl rfl ?_
        obtain ⟨x4, e_x4, e⟩ := mBind e
        refine mGo.getI (n := 37) dX8_common_34 sf_RX8_122 e_x4 rfl ?_
        refine mGo.istore (n := 39) (ls' := [some (va_rf v0), some (.int v1), some (.int v2), some (.int v3), some (va_rf x1), some (.int x4), none, none, none, none]) dX8_common_37 ((mSt_set (fun u _ hu => by cases hu; exact mRfc _)).trans rfl) (Nat.le_of_ble_eq_true rfl) rfl ?_
        refine mGo.iload_n (n := 40) (x := v2) dX8_common_39 rfl rfl ?_
        refine mGo.iconst (n := 41) (v := (2 : Int32)) dX8_common_40 (by decide) rfl ?_
        refine mGo.iload (n := 43) (x := x4) dX8_common_41 rfl rfl ?_
        refine mGo.imul (n := 44) dX8_common_43 rfl ?_
        refine mGo.icmp_ge (tgt := 51) (n := 47) dX8_common_44 (by decide) rfl (fun hc => ?_) (fun hc => ?_)
        · replace e := mIft hc e
          refine mGo.iconst (n := 52) (v := (0 : Int32)) dX8_common_51 (by decide) rfl ?_
          refine mGo.mk [false, false, true, true, true, true, false, false, false, false] ?_
          exact g_X8_common_c52 v2 v3 x1 x4 (0 : Int32) h e q
        · replace e := mIff hc e
          refine mGo.iconst (n := 48) (v := (1 : Int32)) dX8_common_47 (by decide) rfl ?_
          refine mGo.goto (tgt := 52) dX8_common_48 (by decide) ?_
          refine mGo.mk [false, false, true, true, true, true, false, false, false, false] ?_
          exact g_X8_common_c52 v2 v3 x1 x4 (1 : Int32) h e q
      · replace e := mIft hc e
        refine mGo.iconst (n := 31) (v := (-1 : Int32)) dX8_common_30 (by decide) rfl ?_
        cases e
        exact mGo.iret dX8_common_31 rfl (Nat.le_of_ble_eq_true rfl) (Nat.le_of_ble_eq_true rfl) q
theorem e_X8_common {w : mWp} (v0 : Option Nat) (v1 : Int32) (v2 : Int32) (v3 : Int32) (h : mH) {res : Int32} (e : f_X8_common v0 v1 v2 v3 h = some res) : mEx w zX8_common (mRoom 2 0 0) [va_rf v0, .int v1, .int v2, .int v3] h (fun r h2 => r = some (.int res) ∧ h2 = h) := by
  refine mEx.of (by decide +kernel) (show mEnt [va_rf v0, .int v1, .int v2, .int v3] 10 = [some (va_rf v0), some (.int v1), some (.int v2), some (.int v3), none, none, none, none, none, none] by rw [mEnt_r, mEnt_i, mEnt_i, mEnt_i] <;> rfl) (by simp only [List.map_cons, List.map_nil, mRfc, mCi, mCj, List.sum_cons, List.sum_nil]; exact Nat.le_of_ble_eq_true rfl) ?_
  refine g_X8_common v0 v1 v2 v3 h e ?_
  exact ⟨rfl, rfl⟩
theorem s_X8_common (v0 : Option Nat) (v1 : Int32) (v2 : Int32) (v3 : Int32) (h : mH) {res : Int32} (e : f_X8_common v0 v1 v2 v3 h = some res) : mIs h v0 7 = some () := by
  unfold f_X8_common at e
  obtain ⟨u, e1, _⟩ := mBind e
  cases u
  exact e1
-- X8_hasDesign
def kX8_hasDesign : mK := (cX8_hasDesign, RX8, 3, some (.boolean), "hasDesign", mRoom 2 0 0)
def zX8_hasDesign : mY := (yX8_hasDesign, cX8_hasDesign, 3, some (.boolean))
def f_X8_hasDesign (v0 : Option Nat) (v1 : Int32) (v2 : Int32) (h : mH) : Option (Int32) :=
  (mGI h v0 6 0).bind fun x1 =>
  if x1 < (4 : Int32) then
    some (0 : Int32)
  else
    (f_X7_has v0 v1 h).bind fun x2 =>
    if x2 = 0 then
      some (0 : Int32)
    else
      (f_X7_has v0 v2 h).bind fun x3 =>
      if x3 = 0 then
        some (0 : Int32)
      else
        some (1 : Int32)
set_option maxRecDepth 100000 in
set_option maxHeartbeats 4000000 in
theorem g_X8_hasDesign {w : mWp} {Q : Option Value → mH → Prop} (v0 : Option Nat) (v1 : Int32) (v2 : Int32) (h : mH) {res : Int32} (e : f_X8_hasDesign v0 v1 v2 h = some res) (q : (fun r : Int32 => Q (some (.int r)) h) res) : mGo w kX8_hasDesign 0 0 0 [some (va_rf v0), some (.int v1), some (.int v2)] [] h Q := by
  unfold f_X8_hasDesign at e
  refine mGo.aload_n (n := 1) (r := v0) dX8_hasDesign_0 rfl rfl ?_
  obtain ⟨x1, e_x1, e⟩ := mBind e
  refine mGo.getI (n := 4) dX8_hasDesign_1 sf_RX8_122 e_x1 rfl ?_
  refine mGo.iconst (n := 5) (v := (4 : Int32)) dX8_hasDesign_4 (by decide) rfl ?_
  refine mGo.icmp_lt (tgt := 28) (n := 8) dX8_hasDesign_5 (by decide) rfl (fun hc => ?_) (fun hc => ?_)
  · replace e := mIft hc e
    refine mGo.iconst (n := 29) (v := (0 : Int32)) dX8_hasDesign_28 (by decide) rfl ?_
    cases e
    exact mGo.zret dX8_hasDesign_29 rfl (by decide) (Nat.le_of_ble_eq_true rfl) (Nat.le_of_ble_eq_true rfl) q
  · replace e := mIff hc e
    refine mGo.aload_n (n := 9) (r := v0) dX8_hasDesign_8 rfl rfl ?_
    refine mGo.iload_n (n := 10) (x := v1) dX8_hasDesign_9 rfl rfl ?_
    obtain ⟨x2, e_x2, e⟩ := mBind e
    refine mGo.callV (n := 13) (y := zX7_has) (R' := (mRoom (1) 0 0)) (as := [.int v1]) (st := []) (r0 := v0) dX8_hasDesign_10 sc_RX8_150 rfl (s_X7_has v0 v1 h e_x2) (e_X7_has v0 v1 h e_x2) (mFit_of rfl (Nat.le_of_ble_eq_true rfl) (by decide) (Nat.le_of_ble_eq_true rfl) (Nat.le_of_ble_eq_true rfl)) (Nat.le_of_ble_eq_true rfl) rfl rfl ?_
    intro _ _ hq
    rw [hq.1, hq.2]
    show mGo w kX8_hasDesign 0 0 13 [some (va_rf v0), some (.int v1), some (.int v2)] [.int x2] h Q
    refine mGo.if_eq (tgt := 28) (n := 16) dX8_hasDesign_13 (by decide) rfl (fun hc => ?_) (fun hc => ?_)
    · replace e := mIft hc e
      refine mGo.iconst (n := 29) (v := (0 : Int32)) dX8_hasDesign_28 (by decide) rfl ?_
      cases e
      exact mGo.zret dX8_hasDesign_29 rfl (by decide) (Nat.le_of_ble_eq_true rfl) (Nat.le_of_ble_eq_true rfl) q
    · replace e := mIff hc e
      refine mGo.aload_n (n := 17) (r := v0) dX8_hasDesign_16 rfl rfl ?_
      refine mGo.iload_n (n := 18) (x := v2) dX8_hasDesign_17 rfl rfl ?_
      obtain ⟨x3, e_x3, e⟩ := mBind e
      refine mGo.callV (n := 21) (y := zX7_has) (R' := (mRoom (1) 0 0)) (as := [.int v2]) (st := []) (r0 := v0) dX8_hasDesign_18 sc_RX8_150 rfl (s_X7_has v0 v2 h e_x3) (e_X7_has v0 v2 h e_x3) (mFit_of rfl (Nat.le_of_ble_eq_true rfl) (by decide) (Nat.le_of_ble_eq_true rfl) (Nat.le_of_ble_eq_true rfl)) (Nat.le_of_ble_eq_true rfl) rfl rfl ?_
      intro _ _ hq
      rw [hq.1, hq.2]
      show mGo w kX8_hasDesign 0 0 21 [some (va_rf v0), some (.int v1), some (.int v2)] [.int x3] h Q
      refine mGo.if_eq (tgt := 28) (n := 24) dX8_hasDesign_21 (by decide) rfl (fun hc => ?_) (fun hc => ?_)
      · replace e := mIft hc e
        refine mGo.iconst (n := 29) (v := (0 : Int32)) dX8_hasDesign_28 (by decide) rfl ?_
        cases e
        exact mGo.zret dX8_hasDesign_29 rfl (by decide) (Nat.le_of_ble_eq_true rfl) (Nat.le_of_ble_eq_true rfl) q
      · replace e := mIff hc e
        refine mGo.iconst (n := 25) (v := (1 : Int32)) dX8_hasDesign_24 (by decide) rfl ?_
        refine mGo.goto (tgt := 29) dX8_hasDesign_25 (by decide) ?_
        cases e
        exact mGo.zret dX8_hasDesign_29 rfl (by decide) (Nat.le_of_ble_eq_true rfl) (Nat.le_of_ble_eq_true rfl) q
theorem e_X8_hasDesign {w : mWp} (v0 : Option Nat) (v1 : Int32) (v2 : Int32) (h : mH) {res : Int32} (e : f_X8_hasDesign v0 v1 v2 h = some res) : mEx w zX8_hasDesign (mRoom 2 0 0) [va_rf v0, .int v1, .int v2] h (fun r h2 => r = some (.int res) ∧ h2 = h) := by
  refine mEx.of (by decide +kernel) (show mEnt [va_rf v0, .int v1, .int v2] 3 = [some (va_rf v0), some (.int v1), some (.int v2)] by rw [mEnt_r, mEnt_i, mEnt_i] <;> rfl) (by simp only [List.map_cons, List.map_nil, mRfc, mCi, mCj, List.sum_cons, List.sum_nil]; exact Nat.le_of_ble_eq_true rfl) ?_
  refine g_X8_hasDesign v0 v1 v2 h e ?_
  exact ⟨rfl, rfl⟩
-- X8_block
def kX8_block : mK := (cX8_block, RX8, 6, some (.int), "block", mRoom 4 0 0)
def zX8_block : mY := (yX8_block, cX8_block, 6, some (.int))
set_option maxRecDepth 100000 in
theorem sc_RX8_263 : mSS RX8 263 zX8_hasDesign 3 := ⟨Or.inl (mT_at 720 (by decide +kernel) rfl), mT_at 721 (by decide +kernel) rfl, mT_at 83 (by decide +kernel) rfl, mT_at 722 (by decide +kernel) rfl, ⟨by decide +kernel, by decide +kernel, by decide +kernel⟩⟩
set_option maxRecDepth 100000 in
theorem sc_RX8_267 : mSV RX8 267 zX7_designBlock 3 6 := ⟨Or.inr ⟨_, mNest_at 641 (x := Cond.methodLinkNest RX8 267 yX7_designBlock "SignTables") (by decide +kernel) rfl⟩, mT_at 725 (by decide +kernel) rfl, mT_at 35 (by decide +kernel) rfl, mT_at 84 (by decide +kernel) rfl, mT_at 726 (by decide +kernel) rfl, ⟨by decide +kernel, by decide +kernel, by decide +kernel⟩, by decide, rfl⟩
def f_X8_block (v0 : Option Nat) (v1 : Int32) (v2 : Int32) (v3 : Int32) (v4 : Int32) (h : mH) : Option (Int32) :=
  (mIs h v0 7).bind fun _ =>
  (f_X8_tableAt v0 v1 h).bind fun x1 =>
  if x1 = none then
    some (-1 : Int32)
  else
    (f_X8_hasDesign x1 v2 v3 h).bind fun x2 =>
    if x2 = 0 then
      some (-1 : Int32)
    else
      (f_X7_has x1 v4 h).bind fun x3 =>
      if x3 = 0 then
        some (-1 : Int32)
      else
        if v4 = v2 then
          some (-2 : Int32)
        else
          (f_X7_designBlock x1 v2 v3 v4 h).bind fun x4 =>
          some x4
set_option maxRecDepth 100000 in
set_option maxHeartbeats 4000000 in
theorem g_X8_block {w : mWp} {Q : Option Value → mH → Prop} (v0 : Option Nat) (v1 : Int32) (v2 : Int32) (v3 : Int32) (v4 : Int32) (h : mH) {res : Int32} (e : f_X8_block v0 v1 v2 v3 v4 h = some res) (q : (fun r : Int32 => Q (some (.int r)) h) res) : mGo w kX8_block 0 0 0 [some (va_rf v0), some (.int v1), some (.int v2), some (.int v3), some (.int v4), none] [] h Q := by
  unfold f_X8_block at e
  obtain ⟨_, _, e⟩ := mBind e
  refine mGo.aload_n (n := 1) (r := v0) dX8_block_0 rfl rfl ?_
  refine mGo.iload_n (n := 2) (x := v1) dX8_block_1 rfl rfl ?_
  obtain ⟨x1, e_x1, e⟩ := mBind e
  refine mGo.callV (n := 5) (y := zX8_tableAt) (R' := (mRoom (1) 0 0)) (as := [.int v1]) (st := []) (r0 := v0) dX8_block_2 sc_RX8_118 rfl (s_X8_tableAt v0 v1 h e_x1) (e_X8_tableAt v0 v1 h e_x1) (mFit_of rfl (Nat.le_of_ble_eq_true rfl) (by decide) (Nat.le_of_ble_eq_true rfl) (Nat.le_of_ble_eq_true rfl)) (Nat.le_of_ble_eq_true rfl) rfl rfl ?_
  intro _ _ hq
  rw [hq.1, hq.2]
  show mGo w kX8_block 0 0 5 [some (va_rf v0), some (.int v1), some (.int v2), some (.int v3), some (.int v4), none] [va_rf x1] h Q
  refine mGo.astore (n := 7) (ls' := [some (va_rf v0), some (.int v1), some (.int v2), some (.int v3), some (.int v4), some (va_rf x1)]) dX8_block_5 rfl (Nat.le_of_ble_eq_true rfl) rfl ?_
  refine mGo.aload (n := 9) (r := x1) dX8_block_7 rfl rfl ?_
  refine mGo.ifnull (tgt := 32) (n := 12) dX8_block_9 (by decide) rfl (fun hc => ?_) (fun hc => ?_)
  · replace e := mIft hc e
    refine mGo.iconst (n := 33) (v := (-1 : Int32)) dX8_block_32 (by decide) rfl ?_
    cases e
    exact mGo.iret dX8_block_33 rfl (Nat.le_of_ble_eq_true rfl) (Nat.le_of_ble_eq_true rfl) q
  · replace e := mIff hc e
    refine mGo.aload (n := 14) (r := x1) dX8_block_12 rfl rfl ?_
    refine mGo.iload_n (n := 15) (x := v2) dX8_block_14 rfl rfl ?_
    refine mGo.iload_n (n := 16) (x := v3) dX8_block_15 rfl rfl ?_
    obtain ⟨x2, e_x2, e⟩ := mBind e
    refine mGo.callS (n := 19) (y := zX8_hasDesign) (R' := (mRoom (2) 0 0)) (as := [va_rf x1, .int v2, .int v3]) (st := []) dX8_block_16 sc_RX8_263 rfl (e_X8_hasDesign x1 v2 v3 h e_x2) (mFit_of rfl (Nat.le_of_ble_eq_true rfl) (by decide) (Nat.le_of_ble_eq_true rfl) (Nat.le_of_ble_eq_true rfl)) (Nat.le_of_ble_eq_true rfl) rfl rfl ?_
    intro _ _ hq
    rw [hq.1, hq.2]
    show mGo w kX8_block 0 0 19 [some (va_rf v0), some (.int v1), some (.int v2), some (.int v3), some (.int v4), some (va_rf x1)] [.int x2] h Q
    refine mGo.if_eq (tgt := 32) (n := 22) dX8_block_19 (by decide) rfl (fun hc => ?_) (fun hc => ?_)
    · replace e := mIft hc e
      refine mGo.iconst (n := 33) (v := (-1 : Int32)) dX8_block_32 (by decide) rfl ?_
      cases e
      exact mGo.iret dX8_block_33 rfl (Nat.le_of_ble_eq_true rfl) (Nat.le_of_ble_eq_true rfl) q
    · replace e := mIff hc e
      refine mGo.aload (n := 24) (r := x1) dX8_block_22 rfl rfl ?_
      refine mGo.iload (n := 26) (x := v4) dX8_block_24 rfl rfl ?_
      obtain ⟨x3, e_x3, e⟩ := mBind e
      refine mGo.callV (n := 29) (y := zX7_has) (R' := (mRoom (1) 0 0)) (as := [.int v4]) (st := []) (r0 := x1) dX8_block_26 sc_RX8_150 rfl (s_X7_has x1 v4 h e_x3) (e_X7_has x1 v4 h e_x3) (mFit_of rfl (Nat.le_of_ble_eq_true rfl) (by decide) (Nat.le_of_ble_eq_true rfl) (Nat.le_of_ble_eq_true rfl)) (Nat.le_of_ble_eq_true rfl) rfl rfl ?_
      intro _ _ hq
      rw [hq.1, hq.2]
      show mGo w kX8_block 0 0 29 [some (va_rf v0), some (.int v1), some (.int v2), some (.int v3), some (.int v4), some (va_rf x1)] [.int x3] h Q
      refine mGo.if_ne (tgt := 34) (n := 32) dX8_block_29 (by decide) rfl (fun hc => ?_) (fun hc => ?_)
      · replace e := mIff hc e
        refine mGo.iload (n := 36) (x := v4) dX8_block_34 rfl rfl ?_
        refine mGo.iload_n (n := 37) (x := v2) dX8_block_36 rfl rfl ?_
        refine mGo.icmp_ne (tgt := 45) (n := 40) dX8_block_37 (by decide) rfl (fun hc => ?_) (fun hc => ?_)
        · replace e := mIff hc e
          refine mGo.aload (n := 47) (r := x1) dX8_block_45 rfl rfl ?_
          refine mGo.iload_n (n := 48) (x := v2) dX8_block_47 rfl rfl ?_
          refine mGo.iload_n (n := 49) (x := v3) dX8_block_48 rfl rfl ?_
          refine mGo.iload (n := 51) (x := v4) dX8_block_49 rfl rfl ?_
          obtain ⟨x4, e_x4, e⟩ := mBind e
          refine mGo.callV (n := 54) (y := zX7_designBlock) (R' := (mRoom (3) 0 0)) (as := [.int v2, .int v3, .int v4]) (st := []) (r0 := x1) dX8_block_51 sc_RX8_267 rfl (s_X7_designBlock x1 v2 v3 v4 h e_x4) (e_X7_designBlock x1 v2 v3 v4 h e_x4) (mFit_of rfl (Nat.le_of_ble_eq_true rfl) (by decide) (Nat.le_of_ble_eq_true rfl) (Nat.le_of_ble_eq_true rfl)) (Nat.le_of_ble_eq_true rfl) rfl rfl ?_
          intro _ _ hq
          rw [hq.1, hq.2]
          show mGo w kX8_block 0 0 54 [some (va_rf v0), some (.int v1), some (.int v2), some (.int v3), some (.int v4), some (va_rf x1)] [.int x4] h Q
          cases e
          exact mGo.iret dX8_block_54 rfl (Nat.le_of_ble_eq_true rfl) (Nat.le_of_ble_eq_true rfl) q
        · replace e := mIft hc e
          refine mGo.bipush (n := 42) (v := (-2 : Int32)) dX8_block_40 (by decide) rfl ?_
          refine mGo.goto (tgt := 54) dX8_block_42 (by decide) ?_
          cases e
          exact mGo.iret dX8_block_54 rfl (Nat.le_of_ble_eq_true rfl) (Nat.le_of_ble_eq_true rfl) q
      · replace e := mIft hc e
        refine mGo.iconst (n := 33) (v := (-1 : Int32)) dX8_block_32 (by decide) rfl ?_
        cases e
        exact mGo.iret dX8_block_33 rfl (Nat.le_of_ble_eq_true rfl) (Nat.le_of_ble_eq_true rfl) q
theorem e_X8_block {w : mWp} (v0 : Option Nat) (v1 : Int32) (v2 : Int32) (v3 : Int32) (v4 : Int32) (h : mH) {res : Int32} (e : f_X8_block v0 v1 v2 v3 v4 h = some res) : mEx w zX8_block (mRoom 4 0 0) [va_rf v0, .int v1, .int v2, .int v3, .int v4] h (fun r h2 => r = some (.int res) ∧ h2 = h) := by
  refine mEx.of (by decide +kernel) (show mEnt [va_rf v0, .int v1, .int v2, .int v3, .int v4] 6 = [some (va_rf v0), some (.int v1), some (.int v2), some (.int v3), some (.int v4), none] by rw [mEnt_r, mEnt_i, mEnt_i, mEnt_i, mEnt_i] <;> rfl) (by simp only [List.map_cons, List.map_nil, mRfc, mCi, mCj, List.sum_cons, List.sum_nil]; exact Nat.le_of_ble_eq_true rfl) ?_
  refine g_X8_block v0 v1 v2 v3 v4 h e ?_
  exact ⟨rfl, rfl⟩
theorem s_X8_block (v0 : Option Nat) (v1 : Int32) (v2 : Int32) (v3 : Int32) (v4 : Int32) (h : mH) {res : Int32} (e : f_X8_block v0 v1 v2 v3 v4 h = some res) : mIs h v0 7 = some () := by
  unfold f_X8_block at e
  obtain ⟨u, e1, _⟩ := mBind e
  cases u
  exact e1
-- X8_through
def kX8_through : mK := (cX8_through, RX8, 8, some (.int), "through", mRoom 4 0 0)
def zX8_through : mY := (yX8_through, cX8_through, 8, some (.int))
def f_X8_through_b52 (v2 : Int32) (v3 : Int32) (v4 : Int32) (v5 : Option Nat) (v6 : Int32) (v7 : Int32) (h : mH) : Option ((Int32 × Int32) ⊕ (Int32)) :=
  (mGI h v5 6 0).bind fun x1 =>
  if x1 ≤ v7 then
    some (Sum.inr v6)
  else
    if v7 = v2 then
      some (Sum.inl (v6, (v7 + 1)))
    else
      (f_X7_designBlock v5 v2 v3 v7 h).bind fun x2 =>
      if (v4 &&& (x2 ^^^ (-1 : Int32))) = 0 then
        some (Sum.inl ((v6 + 1), (v7 + 1)))
      else
        some (Sum.inl (v6, (v7 + 1)))
set_option maxRecDepth 100000 in
set_option maxHeartbeats 4000000 in
theorem g_X8_through_b52 {w : mWp} {Q : Option Value → mH → Prop} (v2 : Int32) (v3 : Int32) (v4 : Int32) (v5 : Option Nat) (v6 : Int32) (v7 : Int32) (h : mH) {res : (Int32 × Int32) ⊕ (Int32)} (e : f_X8_through_b52 v2 v3 v4 v5 v6 v7 h = some res) (q : (Sum.elim (fun x : Int32 × Int32 => mGo w kX8_through 0 0 52 [none, none, some (.int v2), some (.int v3), some (.int v4), some (va_rf v5), some (.int x.1), some (.int x.2)] [] h Q) (fun r : Int32 => Q (some (.int r)) h)) res) : mGo w kX8_through 0 0 52 [none, none, some (.int v2), some (.int v3), some (.int v4), some (va_rf v5), some (.int v6), some (.int v7)] [] h Q := by
  unfold f_X8_through_b52 at e
  refine mGo.iload (n := 54) (x := v7) dX8_through_52 rfl rfl ?_
  refine mGo.aload (n := 56) (r := v5) dX8_through_54 rfl rfl ?_
  obtain ⟨x1, e_x1, e⟩ := mBind e
  refine mGo.getI (n := 59) dX8_through_56 sf_RX8_122 e_x1 rfl ?_
  refine mGo.icmp_ge (tgt := 94) (n := 62) dX8_through_59 (by decide) rfl (fun hc => ?_) (fun hc => ?_)
  · replace e := mIft hc e
    refine mGo.iload (n := 96) (x := v6) dX8_through_94 rfl rfl ?_
    cases e
    exact mGo.iret dX8_through_96 rfl (Nat.le_of_ble_eq_true rfl) (Nat.le_of_ble_eq_true rfl) q
  · replace e := mIff hc e
    refine mGo.iload (n := 64) (x := v7) dX8_through_62 rfl rfl ?_
    refine mGo.iload_n (n := 65) (x := v2) dX8_through_64 rfl rfl ?_
    refine mGo.icmp_eq (tgt := 88) (n := 68) dX8_through_65 (by decide) rfl (fun hc => ?_) (fun hc => ?_)
    · replace e := mIft hc e
      refine mGo.iinc (n := 91) (x := v7) (v := (v7 + 1)) (ls' := [none, none, some (.int v2), some (.int v3), some (.int v4), some (va_rf v5), some (.int v6), some (.int (v7 + 1))]) dX8_through_88 rfl rfl rfl (Nat.le_of_ble_eq_true rfl) rfl ?_
      refine mGo.goto (tgt := 52) dX8_through_91 (by decide) ?_
      cases e
      refine mGo.mk [false, false, true, true, true, true, true, true] ?_
      exact q
    · replace e := mIff hc e
      refine mGo.iload (n := 70) (x := v4) dX8_through_68 rfl rfl ?_
      refine mGo.aload (n := 72) (r := v5) dX8_through_70 rfl rfl ?_
      refine mGo.iload_n (n := 73) (x := v2) dX8_through_72 rfl rfl ?_
      refine mGo.iload_n (n := 74) (x := v3) dX8_through_73 rfl rfl ?_
      refine mGo.iload (n := 76) (x := v7) dX8_through_74 rfl rfl ?_
      obtain ⟨x2, e_x2, e⟩ := mBind e
      refine mGo.callV (n := 79) (y := zX7_designBlock) (R' := (mRoom (3) 0 0)) (as := [.int v2, .int v3, .int v7]) (st := [.int v4]) (r0 := v5) dX8_through_76 sc_RX8_267 rfl (s_X7_designBlock v5 v2 v3 v7 h e_x2) (e_X7_designBlock v5 v2 v3 v7 h e_x2) (mFit_of rfl (Nat.le_of_ble_eq_true rfl) (by decide) (Nat.le_of_ble_eq_true rfl) (Nat.le_of_ble_eq_true rfl)) (Nat.le_of_ble_eq_true rfl) rfl rfl ?_
      intro _ _ hq
      rw [hq.1, hq.2]
      show mGo w kX8_through 0 0 79 [none, none, some (.int v2), some (.int v3), some (.int v4), some (va_rf v5), some (.int v6), some (.int v7)] [.int x2, .int v4] h Q
      refine mGo.iconst (n := 80) (v := (-1 : Int32)) dX8_through_79 (by decide) rfl ?_
      refine mGo.ixor (n := 81) dX8_through_80 rfl ?_
      refine mGo.iand (n := 82) dX8_through_81 rfl ?_
      refine mGo.if_ne (tgt := 88) (n := 85) dX8_through_82 (by decide) rfl (fun hc => ?_) (fun hc => ?_)
      · replace e := mIff hc e
        refine mGo.iinc (n := 91) (x := v7) (v := (v7 + 1)) (ls' := [none, none, some (.int v2), some (.int v3), some (.int v4), some (va_rf v5), some (.int v6), some (.int (v7 + 1))]) dX8_through_88 rfl rfl rfl (Nat.le_of_ble_eq_true rfl) rfl ?_
        refine mGo.goto (tgt := 52) dX8_through_91 (by decide) ?_
        cases e
        refine mGo.mk [false, false, true, true, true, true, true, true] ?_
        exact q
      · replace e := mIft hc e
        refine mGo.iinc (n := 88) (x := v6) (v := (v6 + 1)) (ls' := [none, none, some (.int v2), some (.int v3), some (.int v4), some (va_rf v5), some (.int (v6 + 1)), some (.int v7)]) dX8_through_85 rfl rfl ((mSt_set (fun u _ hu => by cases hu; exact mRfc _)).trans rfl) (Nat.le_of_ble_eq_true rfl) rfl ?_
        refine mGo.iinc (n := 91) (x := v7) (v := (v7 + 1)) (ls' := [none, none, some (.int v2), some (.int v3), some (.int v4), some (va_rf v5), some (.int (v6 + 1)), some (.int (v7 + 1))]) dX8_through_88 rfl rfl rfl (Nat.le_of_ble_eq_true rfl) rfl ?_
        refine mGo.goto (tgt := 52) dX8_through_91 (by decide) ?_
        cases e
        refine mGo.mk [false, false, true, true, true, true, true, true] ?_
        exact q
noncomputable def f_X8_through_l52 (v2 : Int32) (v3 : Int32) (v4 : Int32) (v5 : Option Nat) (v6 : Int32) (v7 : Int32) (h : mH) : Option (Int32) :=
  mLoop (fun x : Int32 × Int32 => f_X8_through_b52 v2 v3 v4 v5 x.1 x.2 h) (v6, v7)
set_option maxRecDepth 100000 in
set_option maxHeartbeats 4000000 in
theorem g_X8_through_l52 {w : mWp} {Q : Option Value → mH → Prop} (v2 : Int32) (v3 : Int32) (v4 : Int32) (v5 : Option Nat) (v6 : Int32) (v7 : Int32) (h : mH) {res : Int32} (e : f_X8_through_l52 v2 v3 v4 v5 v6 v7 h = some res) (q : (fun r : Int32 => Q (some (.int r)) h) res) : mGo w kX8_through 0 0 52 [none, none, some (.int v2), some (.int v3), some (.int v4), some (va_rf v5), some (.int v6), some (.int v7)] [] h Q := by
  unfold f_X8_through_l52 at e
  refine mLoop_go (x := (v6, v7)) (fun x : Int32 × Int32 => mGo w kX8_through 0 0 52 [none, none, some (.int v2), some (.int v3), some (.int v4), some (va_rf v5), some (.int x.1), some (.int x.2)] [] h Q) (fun r : Int32 => Q (some (.int r)) h) ?_ e q
  rintro ⟨v6, v7⟩ res e q
  exact g_X8_through_b52 v2 v3 v4 v5 v6 v7 h e q
noncomputable def f_X8_through (v0 : Option Nat) (v1 : Int32) (v2 : Int32) (v3 : Int32) (v4 : Int32) (h : mH) : Option (Int32) :=
  (mIs h v0 7).bind fun _ =>
  (f_X8_tableAt v0 v1 h).bind fun x1 =>
  if x1 = none then
    some (-1 : Int32)
  else
    (f_X8_hasDesign x1 v2 v3 h).bind fun x2 =>
    if x2 = 0 then
      some (-1 : Int32)
    else
      (mGI h x1 6 0).bind fun x3 =>
      (f_X8_isWord v4 x3).bind fun x4 =>
      if x4 = 0 then
        some (-1 : Int32)
      else
        (f_X8_inSet v4 v3).bind fun x5 =>
        if x5 = 0 then
          f_X8_through_l52 v2 v3 v4 x1 (0 : Int32) (0 : Int32) h
        else
          some (-1 : Int32)
set_option maxRecDepth 100000 in
set_option maxHeartbeats 4000000 in
theorem g_X8_through {w : mWp} {Q : Option Value → mH → Prop} (v0 : Option Nat) (v1 : Int32) (v2 : Int32) (v3 : Int32) (v4 : Int32) (h : mH) {res : Int32} (e : f_X8_through v0 v1 v2 v3 v4 h = some res) (q : (fun r : Int32 => Q (some (.int r)) h) res) : mGo w kX8_through 0 0 0 [some (va_rf v0), some (.int v1), some (.int v2), some (.int v3), some (.int v4), none, none, none] [] h Q := by
  unfold f_X8_through at e
  obtain ⟨_, _, e⟩ := mBind e
  refine mGo.aload_n (n := 1) (r := v0) dX8_through_0 rfl rfl ?_
  refine mGo.iload_n (n := 2) (x := v1) dX8_through_1 rfl rfl ?_
  obtain ⟨x1, e_x1, e⟩ := mBind e
  refine mGo.callV (n := 5) (y := zX8_tableAt) (R' := (mRoom (1) 0 0)) (as := [.int v1]) (st := []) (r0 := v0) dX8_through_2 sc_RX8_118 rfl (s_X8_tableAt v0 v1 h e_x1) (e_X8_tableAt v0 v1 h e_x1) (mFit_of rfl (Nat.le_of_ble_eq_true rfl) (by decide) (Nat.le_of_ble_eq_true rfl) (Nat.le_of_ble_eq_true rfl)) (Nat.le_of_ble_eq_true rfl) rfl rfl ?_
  intro _ _ hq
  rw [hq.1, hq.2]
  show mGo w kX8_through 0 0 5 [some (va_rf v0), some (.int v1), some (.int v2), some (.int v3), some (.int v4), none, none, none] [va_rf x1] h Q
  refine mGo.astore (n := 7) (ls' := [some (va_rf v0), some (.int v1), some (.int v2), some (.int v3), some (.int v4), some (va_rf x1), none, none]) dX8_through_5 rfl (Nat.le_of_ble_eq_true rfl) rfl ?_
  refine mGo.aload (n := 9) (r := x1) dX8_through_7 rfl rfl ?_
  refine mGo.ifnull (tgt := 44) (n := 12) dX8_through_9 (by decide) rfl (fun hc => ?_) (fun hc => ?_)
  · replace e := mIft hc e
    refine mGo.iconst (n := 45) (v := (-1 : Int32)) dX8_through_44 (by decide) rfl ?_
    cases e
    exact mGo.iret dX8_through_45 rfl (Nat.le_of_ble_eq_true rfl) (Nat.le_of_ble_eq_true rfl) q
  · replace e := mIff hc e
    refine mGo.aload (n := 14) (r := x1) dX8_through_12 rfl rfl ?_
    refine mGo.iload_n (n := 15) (x := v2) dX8_through_14 rfl rfl ?_
    refine mGo.iload_n (n := 16) (x := v3) dX8_through_15 rfl rfl ?_
    obtain ⟨x2, e_x2, e⟩ := mBind e
    refine mGo.callS (n := 19) (y := zX8_hasDesign) (R' := (mRoom (2) 0 0)) (as := [va_rf x1, .int v2, .int v3]) (st := []) dX8_through_16 sc_RX8_263 rfl (e_X8_hasDesign x1 v2 v3 h e_x2) (mFit_of rfl (Nat.le_of_ble_eq_true rfl) (by decide) (Nat.le_of_ble_eq_true rfl) (Nat.le_of_ble_eq_true rfl)) (Nat.le_of_ble_eq_true rfl) rfl rfl ?_
    intro _ _ hq
    rw [hq.1, hq.2]
    show mGo w kX8_through 0 0 19 [some (va_rf v0), some (.int v1), some (.int v2), some (.int v3), some (.int v4), some (va_rf x1), none, none] [.int x2] h Q
    refine mGo.if_eq (tgt := 44) (n := 22) dX8_through_19 (by decide) rfl (fun hc => ?_) (fun hc => ?_)
    · replace e := mIft hc e
      refine mGo.iconst (n := 45) (v := (-1 : Int32)) dX8_through_44 (by decide) rfl ?_
      cases e
      exact mGo.iret dX8_through_45 rfl (Nat.le_of_ble_eq_true rfl) (Nat.le_of_ble_eq_true rfl) q
    · replace e := mIff hc e
      refine mGo.iload (n := 24) (x := v4) dX8_through_22 rfl rfl ?_
      refine mGo.aload (n := 26) (r := x1) dX8_through_24 rfl rfl ?_
      obtain ⟨x3, e_x3, e⟩ := mBind e
      refine mGo.getI (n := 29) dX8_through_26 sf_RX8_122 e_x3 rfl ?_
      obtain ⟨x4, e_x4, e⟩ := mBind e
      refine mGo.callS (n := 32) (y := zX8_isWord) (R' := (mRoom (1) 0 0)) (as := [.int v4, .int x3]) (st := []) dX8_through_29 sc_RX8_135 rfl (e_X8_isWord v4 x3 h e_x4) (mFit_of rfl (Nat.le_of_ble_eq_true rfl) (by decide) (Nat.le_of_ble_eq_true rfl) (Nat.le_of_ble_eq_true rfl)) (Nat.le_of_ble_eq_true rfl) rfl rfl ?_
      intro _ _ hq
      rw [hq.1, hq.2]
      show mGo w kX8_through 0 0 32 [some (va_rf v0), some (.int v1), some (.int v2), some (.int v3), some (.int v4), some (va_rf x1), none, none] [.int x4] h Q
      refine mGo.if_eq (tgt := 44) (n := 35) dX8_through_32 (by decide) rfl (fun hc => ?_) (fun hc => ?_)
      · replace e := mIft hc e
        refine mGo.iconst (n := 45) (v := (-1 : Int32)) dX8_through_44 (by decide) rfl ?_
        cases e
        exact mGo.iret dX8_through_45 rfl (Nat.le_of_ble_eq_true rfl) (Nat.le_of_ble_eq_true rfl) q
      · replace e := mIff hc e
        refine mGo.iload (n := 37) (x := v4) dX8_through_35 rfl rfl ?_
        refine mGo.iload_n (n := 38) (x := v3) dX8_through_37 rfl rfl ?_
        obtain ⟨x5, e_x5, e⟩ := mBind e
        refine mGo.callS (n := 41) (y := zX8_inSet) (R' := (mRoom (1) 0 0)) (as := [.int v4, .int v3]) (st := []) dX8_through_38 sc_RX8_106 rfl (e_X8_inSet v4 v3 h e_x5) (mFit_of rfl (Nat.le_of_ble_eq_true rfl) (by decide) (Nat.le_of_ble_eq_true rfl) (Nat.le_of_ble_eq_true rfl)) (Nat.le_of_ble_eq_true rfl) rfl rfl ?_
        intro _ _ hq
        rw [hq.1, hq.2]
        show mGo w kX8_through 0 0 41 [some (va_rf v0), some (.int v1), some (.int v2), some (.int v3), some (.int v4), some (va_rf x1), none, none] [.int x5] h Q
        refine mGo.if_eq (tgt := 46) (n := 44) dX8_through_41 (by decide) rfl (fun hc => ?_) (fun hc => ?_)
        · replace e := mIft hc e
          refine mGo.iconst (n := 47) (v := (0 : Int32)) dX8_through_46 (by decide) rfl ?_
          refine mGo.istore (n := 49) (ls' := [some (va_rf v0), some (.int v1), some (.int v2), some (.int v3), some (.int v4), some (va_rf x1), some (.int (0 : Int32)), none]) dX8_through_47 ((mSt_set (fun u _ hu => by cases hu; exact mRfc _)).trans rfl) (Nat.le_of_ble_eq_true rfl) rfl ?_
          refine mGo.iconst (n := 50) (v := (0 : Int32)) dX8_through_49 (by decide) rfl ?_
          refine mGo.istore (n := 52) (ls' := [some (va_rf v0), some (.int v1), some (.int v2), some (.int v3), some (.int v4), some (va_rf x1), some (.int (0 : Int32)), some (.int (0 : Int32))]) dX8_through_50 rfl (Nat.le_of_ble_eq_true rfl) rfl ?_
          refine mGo.mk [false, false, true, true, true, true, true, true] ?_
          exact g_X8_through_l52 v2 v3 v4 x1 (0 : Int32) (0 : Int32) h e q
        · replace e := mIff hc e
          refine mGo.iconst (n := 45) (v := (-1 : Int32)) dX8_through_44 (by decide) rfl ?_
          cases e
          exact mGo.iret dX8_through_45 rfl (Nat.le_of_ble_eq_true rfl) (Nat.le_of_ble_eq_true rfl) q
theorem e_X8_through {w : mWp} (v0 : Option Nat) (v1 : Int32) (v2 : Int32) (v3 : Int32) (v4 : Int32) (h : mH) {res : Int32} (e : f_X8_through v0 v1 v2 v3 v4 h = some res) : mEx w zX8_through (mRoom 4 0 0) [va_rf v0, .int v1, .int v2, .int v3, .int v4] h (fun r h2 => r = some (.int res) ∧ h2 = h) := by
  refine mEx.of (by decide +kernel) (show mEnt [va_rf v0, .int v1, .int v2, .int v3, .int v4] 8 = [some (va_rf v0), some (.int v1), some (.int v2), some (.int v3), some (.int v4), none, none, none] by rw [mEnt_r, mEnt_i, mEnt_i, mEnt_i, mEnt_i] <;> rfl) (by simp only [List.map_cons, List.map_nil, mRfc, mCi, mCj, List.sum_cons, List.sum_nil]; exact Nat.le_of_ble_eq_true rfl) ?_
  refine g_X8_through v0 v1 v2 v3 v4 h e ?_
  exact ⟨rfl, rfl⟩
theorem s_X8_through (v0 : Option Nat) (v1 : Int32) (v2 : Int32) (v3 : Int32) (v4 : Int32) (h : mH) {res : Int32} (e : f_X8_through v0 v1 v2 v3 v4 h = some res) : mIs h v0 7 = some () := by
  unfold f_X8_through at e
  obtain ⟨u, e1, _⟩ := mBind e
  cases u
  exact e1
-- X8_halves
def kX8_halves : mK := (cX8_halves, RX8, 8, some (.int), "halves", mRoom 2 0 0)
def zX8_halves : mY := (yX8_halves, cX8_halves, 8, some (.int))
def f_X8_halves_c85 (v2 : Int32) (v3 : Int32) (v4 : Option Nat) (v5 : Int32) (v6 : Int32) (v7 : Int32) (h : mH) : Option ((Int32 × Int32) ⊕ (Int32)) :=
  if v6 = v2 then
    some (Sum.inl (v5, (v6 + 1)))
  else
    if (v3 &&& (v7 ^^^ (-1 : Int32))) = 0 then
      some (Sum.inl ((v5 + 1), (v6 + 1)))
    else
      some (Sum.inl (v5, (v6 + 1)))
set_option maxRecDepth 100000 in
set_option maxHeartbeats 4000000 in
theorem g_X8_halves_c85 {w : mWp} {Q : Option Value → mH → Prop} (v2 : Int32) (v3 : Int32) (v4 : Option Nat) (v5 : Int32) (v6 : Int32) (v7 : Int32) (h : mH) {res : (Int32 × Int32) ⊕ (Int32)} (e : f_X8_halves_c85 v2 v3 v4 v5 v6 v7 h = some res) (q : (Sum.elim (fun x : Int32 × Int32 => mGo w kX8_halves 0 0 41 [none, none, some (.int v2), some (.int v3), some (va_rf v4), some (.int x.1), some (.int x.2), none] [] h Q) (fun r : Int32 => Q (some (.int r)) h)) res) : mGo w kX8_halves 0 0 85 [none, none, some (.int v2), some (.int v3), some (va_rf v4), some (.int v5), some (.int v6), some (.int v7)] [] h Q := by
  unfold f_X8_halves_c85 at e
  refine mGo.iload (n := 87) (x := v6) dX8_halves_85 rfl rfl ?_
  refine mGo.iload_n (n := 88) (x := v2) dX8_halves_87 rfl rfl ?_
  refine mGo.icmp_eq (tgt := 103) (n := 91) dX8_halves_88 (by decide) rfl (fun hc => ?_) (fun hc => ?_)
  · replace e := mIft hc e
    refine mGo.iinc (n := 106) (x := v6) (v := (v6 + 1)) (ls' := [none, none, some (.int v2), some (.int v3), some (va_rf v4), some (.int v5), some (.int (v6 + 1)), some (.int v7)]) dX8_halves_103 rfl rfl rfl (Nat.le_of_ble_eq_true rfl) rfl ?_
    refine mGo.goto (tgt := 41) dX8_halves_106 (by decide) ?_
    cases e
    refine mGo.mk [false, false, true, true, true, true, true, false] ?_
    exact q
  · replace e := mIff hc e
    refine mGo.iload_n (n := 92) (x := v3) dX8_halves_91 rfl rfl ?_
    refine mGo.iload (n := 94) (x := v7) dX8_halves_92 rfl rfl ?_
    refine mGo.iconst (n := 95) (v := (-1 : Int32)) dX8_halves_94 (by decide) rfl ?_
    refine mGo.ixor (n := 96) dX8_halves_95 rfl ?_
    refine mGo.iand (n := 97) dX8_halves_96 rfl ?_
    refine mGo.if_ne (tgt := 103) (n := 100) dX8_halves_97 (by decide) rfl (fun hc => ?_) (fun hc => ?_)
    · replace e := mIff hc e
      refine mGo.iinc (n := 106) (x := v6) (v := (v6 + 1)) (ls' := [none, none, some (.int v2), some (.int v3), some (va_rf v4), some (.int v5), some (.int (v6 + 1)), some (.int v7)]) dX8_halves_103 rfl rfl rfl (Nat.le_of_ble_eq_true rfl) rfl ?_
      refine mGo.goto (tgt := 41) dX8_halves_106 (by decide) ?_
      cases e
      refine mGo.mk [false, false, true, true, true, true, true, false] ?_
      exact q
    · replace e := mIft hc e
      refine mGo.iinc (n := 103) (x := v5) (v := (v5 + 1)) (ls' := [none, none, some (.int v2), some (.int v3), some (va_rf v4), some (.int (v5 + 1)), some (.int v6), some (.int v7)]) dX8_halves_100 rfl rfl ((mSt_set (fun u _ hu => by cases hu; exact mRfc _)).trans rfl) (Nat.le_of_ble_eq_true rfl) rfl ?_
      refine mGo.iinc (n := 106) (x := v6) (v := (v6 + 1)) (ls' := [none, none, some (.int v2), some (.int v3), some (va_rf v4), some (.int (v5 + 1)), some (.int (v6 + 1)), some (.int v7)]) dX8_halves_103 rfl rfl rfl (Nat.le_of_ble_eq_true rfl) rfl ?_
      refine mGo.goto (tgt := 41) dX8_halves_106 (by decide) ?_
      cases e
      refine mGo.mk [false, false, true, true, true, true, true, false] ?_
      exact q
def f_X8_halves_b41 (v2 : Int32) (v3 : Int32) (v4 : Option Nat) (v5 : Int32) (v6 : Int32) (h : mH) : Option ((Int32 × Int32) ⊕ (Int32)) :=
  (mGI h v4 6 0).bind fun x1 =>
  if x1 ≤ v6 then
    some (Sum.inr v5)
  else
    (mGR h v4 6 1).bind fun x2 =>
    (mAI h x2 v6).bind fun x3 =>
    (mGR h v4 6 1).bind fun x4 =>
    (mAI h x4 v2).bind fun x5 =>
    if v6 = v2 then
      f_X8_halves_c85 v2 v3 v4 v5 v6 (x3 ^^^ x5) h
    else
      if (v3 &&& (x3 ^^^ x5)) = 0 then
        f_X8_halves_c85 v2 v3 v4 (v5 + 1) v6 (x3 ^^^ x5) h
      else
        f_X8_halves_c85 v2 v3 v4 v5 v6 (x3 ^^^ x5) h
set_option maxRecDepth 100000 in
set_option maxHeartbeats 4000000 in
theorem g_X8_halves_b41 {w : mWp} {Q : Option Value → mH → Prop} (v2 : Int32) (v3 : Int32) (v4 : Option Nat) (v5 : Int32) (v6 : Int32) (h : mH) {res : (Int32 × Int32) ⊕ (Int32)} (e : f_X8_halves_b41 v2 v3 v4 v5 v6 h = some res) (q : (Sum.elim (fun x : Int32 × Int32 => mGo w kX8_halves 0 0 41 [none, none, some (.int v2), some (.int v3), some (va_rf v4), some (.int x.1), some (.int x.2), none] [] h Q) (fun r : Int32 => Q (some (.int r)) h)) res) : mGo w kX8_halves 0 0 41 [none, none, some (.int v2), some (.int v3), some (va_rf v4), some (.int v5), some (.int v6), none] [] h Q := by
  unfold f_X8_halves_b41 at e
  refine mGo.iload (n := 43) (x := v6) dX8_halves_41 rfl rfl ?_
  refine mGo.aload (n := 45) (r := v4) dX8_halves_43 rfl rfl ?_
  obtain ⟨x1, e_x1, e⟩ := mBind e
  refine mGo.getI (n := 48) dX8_halves_45 sf_RX8_122 e_x1 rfl ?_
  refine mGo.icmp_ge (tgt := 109) (n := 51) dX8_halves_48 (by decide) rfl (fun hc => ?_) (fun hc => ?_)
  · replace e := mIft hc e
    refine mGo.iload (n := 111) (x := v5) dX8_halves_109 rfl rfl ?_
    cases e
    exact mGo.iret dX8_halves_111 rfl (Nat.le_of_ble_eq_true rfl) (Nat.le_of_ble_eq_true rfl) q
  · replace e := mIff hc e
    refine mGo.aload (n := 53) (r := v4) dX8_halves_51 rfl rfl ?_
    obtain ⟨x2, e_x2, e⟩ := mBind e
    refine mGo.getR (n := 56) dX8_halves_53 sf_RX8_125 e_x2 rfl ?_
    refine mGo.iload (n := 58) (x := v6) dX8_halves_56 rfl rfl ?_
    obtain ⟨x3, e_x3, e⟩ := mBind e
    refine mGo.iald (n := 59) dX8_halves_58 e_x3 rfl ?_
    refine mGo.aload (n := 61) (r := v4) dX8_halves_59 rfl rfl ?_
    obtain ⟨x4, e_x4, e⟩ := mBind e
    refine mGo.getR (n := 64) dX8_halves_61 sf_RX8_125 e_x4 rfl ?_
    refine mGo.iload_n (n := 65) (x := v2) dX8_halves_64 rfl rfl ?_
    obtain ⟨x5, e_x5, e⟩ := mBind e
    refine mGo.iald (n := 66) dX8_halves_65 e_x5 rfl ?_
    refine mGo.ixor (n := 67) dX8_halves_66 rfl ?_
    refine mGo.istore (n := 69) (ls' := [none, none, some (.int v2), some (.int v3), some (va_rf v4), some (.int v5), some (.int v6), some (.int (x3 ^^^ x5))]) dX8_halves_67 rfl (Nat.le_of_ble_eq_true rfl) rfl ?_
    refine mGo.iload (n := 71) (x := v6) dX8_halves_69 rfl rfl ?_
    refine mGo.iload_n (n := 72) (x := v2) dX8_halves_71 rfl rfl ?_
    refine mGo.icmp_eq (tgt := 85) (n := 75) dX8_halves_72 (by decide) rfl (fun hc => ?_) (fun hc => ?_)
    · replace e := mIft hc e
      refine mGo.mk [false, false, true, true, true, true, true, true] ?_
      exact g_X8_halves_c85 v2 v3 v4 v5 v6 (x3 ^^^ x5) h e q
    · replace e := mIff hc e
      refine mGo.iload_n (n := 76) (x := v3) dX8_halves_75 rfl rfl ?_
      refine mGo.iload (n := 78) (x := (x3 ^^^ x5)) dX8_halves_76 rfl rfl ?_
      refine mGo.iand (n := 79) dX8_halves_78 rfl ?_
      refine mGo.if_ne (tgt := 85) (n := 82) dX8_halves_79 (by decide) rfl (fun hc => ?_) (fun hc => ?_)
      · replace e := mIff hc e
        refine mGo.mk [false, false, true, true, true, true, true, true] ?_
        exact g_X8_halves_c85 v2 v3 v4 v5 v6 (x3 ^^^ x5) h e q
      · replace e := mIft hc e
        refine mGo.iinc (n := 85) (x := v5) (v := (v5 + 1)) (ls' := [none, none, some (.int v2), some (.int v3), some (va_rf v4), some (.int (v5 + 1)), some (.int v6), some (.int (x3 ^^^ x5))]) dX8_halves_82 rfl rfl ((mSt_set (fun u _ hu => by cases hu; exact mRfc _)).trans rfl) (Nat.le_of_ble_eq_true rfl) rfl ?_
        refine mGo.mk [false, false, true, true, true, true, true, true] ?_
        exact g_X8_halves_c85 v2 v3 v4 (v5 + 1) v6 (x3 ^^^ x5) h e q
noncomputable def f_X8_halves_l41 (v2 : Int32) (v3 : Int32) (v4 : Option Nat) (v5 : Int32) (v6 : Int32) (h : mH) : Option (Int32) :=
  mLoop (fun x : Int32 × Int32 => f_X8_halves_b41 v2 v3 v4 x.1 x.2 h) (v5, v6)
set_option maxRecDepth 100000 in
set_option maxHeartbeats 4000000 in
theorem g_X8_halves_l41 {w : mWp} {Q : Option Value → mH → Prop} (v2 : Int32) (v3 : Int32) (v4 : Option Nat) (v5 : Int32) (v6 : Int32) (h : mH) {res : Int32} (e : f_X8_halves_l41 v2 v3 v4 v5 v6 h = some res) (q : (fun r : Int32 => Q (some (.int r)) h) res) : mGo w kX8_halves 0 0 41 [none, none, some (.int v2), some (.int v3), some (va_rf v4), some (.int v5), some (.int v6), none] [] h Q := by
  unfold f_X8_halves_l41 at e
  refine mLoop_go (x := (v5, v6)) (fun x : Int32 × Int32 => mGo w kX8_halves 0 0 41 [none, none, some (.int v2), some (.int v3), some (va_rf v4), some (.int x.1), some (.int x.2), none] [] h Q) (fun r : Int32 => Q (some (.int r)) h) ?_ e q
  rintro ⟨v5, v6⟩ res e q
  exact g_X8_halves_b41 v2 v3 v4 v5 v6 h e q
noncomputable def f_X8_halves (v0 : Option Nat) (v1 : Int32) (v2 : Int32) (v3 : Int32) (h : mH) : Option (Int32) :=
  (mIs h v0 7).bind fun _ =>
  (f_X8_tableAt v0 v1 h).bind fun x1 =>
  if x1 = none then
    some (-1 : Int32)
  else
    (f_X7_has x1 v2 h).bind fun x2 =>
    if x2 = 0 then
      some (-1 : Int32)
    else
      (mGI h x1 6 0).bind fun x3 =>
      (f_X8_isWord v3 x3).bind fun x4 =>
      if x4 = 0 then
        some (-1 : Int32)
      else
        f_X8_halves_l41 v2 v3 x1 (0 : Int32) (0 : Int32) h
set_option maxRecDepth 100000 in
set_option maxHeartbeats 4000000 in
theorem g_X8_halves {w : mWp} {Q : Option Value → mH → Prop} (v0 : Option Nat) (v1 : Int32) (v2 : Int32) (v3 : Int32) (h : mH) {res : Int32} (e : f_X8_halves v0 v1 v2 v3 h = some res) (q : (fun r : Int32 => Q (some (.int r)) h) res) : mGo w kX8_halves 0 0 0 [some (va_rf v0), some (.int v1), some (.int v2), some (.int v3), none, none, none, none] [] h Q := by
  unfold f_X8_halves at e
  obtain ⟨_, _, e⟩ := mBind e
  refine mGo.aload_n (n := 1) (r := v0) dX8_halves_0 rfl rfl ?_
  refine mGo.iload_n (n := 2) (x := v1) dX8_halves_1 rfl rfl ?_
  obtain ⟨x1, e_x1, e⟩ := mBind e
  refine mGo.callV (n := 5) (y := zX8_tableAt) (R' := (mRoom (1) 0 0)) (as := [.int v1]) (st := []) (r0 := v0) dX8_halves_2 sc_RX8_118 rfl (s_X8_tableAt v0 v1 h e_x1) (e_X8_tableAt v0 v1 h e_x1) (mFit_of rfl (Nat.le_of_ble_eq_true rfl) (by decide) (Nat.le_of_ble_eq_true rfl) (Nat.le_of_ble_eq_true rfl)) (Nat.le_of_ble_eq_true rfl) rfl rfl ?_
  intro _ _ hq
  rw [hq.1, hq.2]
  show mGo w kX8_halves 0 0 5 [some (va_rf v0), some (.int v1), some (.int v2), some (.int v3), none, none, none, none] [va_rf x1] h Q
  refine mGo.astore (n := 7) (ls' := [some (va_rf v0), some (.int v1), some (.int v2), some (.int v3), some (va_rf x1), none, none, none]) dX8_halves_5 rfl (Nat.le_of_ble_eq_true rfl) rfl ?_
  refine mGo.aload (n := 9) (r := x1) dX8_halves_7 rfl rfl ?_
  refine mGo.ifnull (tgt := 33) (n := 12) dX8_halves_9 (by decide) rfl (fun hc => ?_) (fun hc => ?_)
  · replace e := mIft hc e
    refine mGo.iconst (n := 34) (v := (-1 : Int32)) dX8_halves_33 (by decide) rfl ?_
    cases e
    exact mGo.iret dX8_halves_34 rfl (Nat.le_of_ble_eq_true rfl) (Nat.le_of_ble_eq_true rfl) q
  · replace e := mIff hc e
    refine mGo.aload (n := 14) (r := x1) dX8_halves_12 rfl rfl ?_
    refine mGo.iload_n (n := 15) (x := v2) dX8_halves_14 rfl rfl ?_
    obtain ⟨x2, e_x2, e⟩ := mBind e
    refine mGo.callV (n := 18) (y := zX7_has) (R' := (mRoom (1) 0 0)) (as := [.int v2]) (st := []) (r0 := x1) dX8_halves_15 sc_RX8_150 rfl (s_X7_has x1 v2 h e_x2) (e_X7_has x1 v2 h e_x2) (mFit_of rfl (Nat.le_of_ble_eq_true rfl) (by decide) (Nat.le_of_ble_eq_true rfl) (Nat.le_of_ble_eq_true rfl)) (Nat.le_of_ble_eq_true rfl) rfl rfl ?_
    intro _ _ hq
    rw [hq.1, hq.2]
    show mGo w kX8_halves 0 0 18 [some (va_rf v0), some (.int v1), some (.int v2), some (.int v3), some (va_rf x1), none, none, none] [.int x2] h Q
    refine mGo.if_eq (tgt := 33) (n := 21) dX8_halves_18 (by decide) rfl (fun hc => ?_) (fun hc => ?_)
    · replace e := mIft hc e
      refine mGo.iconst (n := 34) (v := (-1 : Int32)) dX8_halves_33 (by decide) rfl ?_
      cases e
      exact mGo.iret dX8_halves_34 rfl (Nat.le_of_ble_eq_true rfl) (Nat.le_of_ble_eq_true rfl) q
    · replace e := mIff hc e
      refine mGo.iload_n (n := 22) (x := v3) dX8_halves_21 rfl rfl ?_
      refine mGo.aload (n := 24) (r := x1) dX8_halves_22 rfl rfl ?_
      obtain ⟨x3, e_x3, e⟩ := mBind e
      refine mGo.getI (n := 27) dX8_halves_24 sf_RX8_122 e_x3 rfl ?_
      obtain ⟨x4, e_x4, e⟩ := mBind e
      refine mGo.callS (n := 30) (y := zX8_isWord) (R' := (mRoom (1) 0 0)) (as := [.int v3, .int x3]) (st := []) dX8_halves_27 sc_RX8_135 rfl (e_X8_isWord v3 x3 h e_x4) (mFit_of rfl (Nat.le_of_ble_eq_true rfl) (by decide) (Nat.le_of_ble_eq_true rfl) (Nat.le_of_ble_eq_true rfl)) (Nat.le_of_ble_eq_true rfl) rfl rfl ?_
      intro _ _ hq
      rw [hq.1, hq.2]
      show mGo w kX8_halves 0 0 30 [some (va_rf v0), some (.int v1), some (.int v2), some (.int v3), some (va_rf x1), none, none, none] [.int x4] h Q
      refine mGo.if_ne (tgt := 35) (n := 33) dX8_halves_30 (by decide) rfl (fun hc => ?_) (fun hc => ?_)
      · replace e := mIff hc e
        refine mGo.iconst (n := 36) (v := (0 : Int32)) dX8_halves_35 (by decide) rfl ?_
        refine mGo.istore (n := 38) (ls' := [some (va_rf v0), some (.int v1), some (.int v2), some (.int v3), some (va_rf x1), some (.int (0 : Int32)), none, none]) dX8_halves_36 ((mSt_set (fun u _ hu => by cases hu; exact mRfc _)).trans rfl) (Nat.le_of_ble_eq_true rfl) rfl ?_
        refine mGo.iconst (n := 39) (v := (0 : Int32)) dX8_halves_38 (by decide) rfl ?_
        refine mGo.istore (n := 41) (ls' := [some (va_rf v0), some (.int v1), some (.int v2), some (.int v3), some (va_rf x1), some (.int (0 : Int32)), some (.int (0 : Int32)), none]) dX8_halves_39 rfl (Nat.le_of_ble_eq_true rfl) rfl ?_
        refine mGo.mk [false, false, true, true, true, true, true, false] ?_
        exact g_X8_halves_l41 v2 v3 x1 (0 : Int32) (0 : Int32) h e q
      · replace e := mIft hc e
        refine mGo.iconst (n := 34) (v := (-1 : Int32)) dX8_halves_33 (by decide) rfl ?_
        cases e
        exact mGo.iret dX8_halves_34 rfl (Nat.le_of_ble_eq_true rfl) (Nat.le_of_ble_eq_true rfl) q
theorem e_X8_halves {w : mWp} (v0 : Option Nat) (v1 : Int32) (v2 : Int32) (v3 : Int32) (h : mH) {res : Int32} (e : f_X8_halves v0 v1 v2 v3 h = some res) : mEx w zX8_halves (mRoom 2 0 0) [va_rf v0, .int v1, .int v2, .int v3] h (fun r h2 => r = some (.int res) ∧ h2 = h) := by
  refine mEx.of (by decide +kernel) (show mEnt [va_rf v0, .int v1, .int v2, .int v3] 8 = [some (va_rf v0), some (.int v1), some (.int v2), some (.int v3), none, none, none, none] by rw [mEnt_r, mEnt_i, mEnt_i, mEnt_i] <;> rfl) (by simp only [List.map_cons, List.map_nil, mRfc, mCi, mCj, List.sum_cons, List.sum_nil]; exact Nat.le_of_ble_eq_true rfl) ?_
  refine g_X8_halves v0 v1 v2 v3 h e ?_
  exact ⟨rfl, rfl⟩
theorem s_X8_halves (v0 : Option Nat) (v1 : Int32) (v2 : Int32) (v3 : Int32) (h : mH) {res : Int32} (e : f_X8_halves v0 v1 v2 v3 h = some res) : mIs h v0 7 = some () := by
  unfold f_X8_halves at e
  obtain ⟨u, e1, _⟩ := mBind e
  cases u
  exact e1
-- X8_nearest
def kX8_nearest : mK := (cX8_nearest, RX8, 11, some (.int), "nearest", mRoom 2 0 0)
def zX8_nearest : mY := (yX8_nearest, cX8_nearest, 11, some (.int))
def f_X8_nearest_c122 (v2 : Int32) (v3 : Int32) (v4 : Option Nat) (v5 : Int32) (v6 : Int32) (v7 : Int32) (v8 : Int32) (v10 : Int32) (h : mH) : Option ((Int32 × Int32 × Int32 × Int32) ⊕ (Int32)) :=
  if v10 = v6 then
    some (Sum.inl (v5, v6, (v7 + 1), (v8 + 1)))
  else
    some (Sum.inl (v5, v6, v7, (v8 + 1)))
set_option maxRecDepth 100000 in
set_option maxHeartbeats 4000000 in
theorem g_X8_nearest_c122 {w : mWp} {Q : Option Value → mH → Prop} (v2 : Int32) (v3 : Int32) (v4 : Option Nat) (v5 : Int32) (v6 : Int32) (v7 : Int32) (v8 : Int32) (v10 : Int32) (h : mH) {res : (Int32 × Int32 × Int32 × Int32) ⊕ (Int32)} (e : f_X8_nearest_c122 v2 v3 v4 v5 v6 v7 v8 v10 h = some res) (q : (Sum.elim (fun x : Int32 × Int32 × Int32 × Int32 => mGo w kX8_nearest 0 0 53 [none, none, some (.int v2), some (.int v3), some (va_rf v4), some (.int x.1), some (.int x.2.1), some (.int x.2.2.1), some (.int x.2.2.2), none, none] [] h Q) (fun r : Int32 => Q (some (.int r)) h)) res) : mGo w kX8_nearest 0 0 122 [none, none, some (.int v2), some (.int v3), some (va_rf v4), some (.int v5), some (.int v6), some (.int v7), some (.int v8), none, some (.int v10)] [] h Q := by
  unfold f_X8_nearest_c122 at e
  refine mGo.iload (n := 124) (x := v10) dX8_nearest_122 rfl rfl ?_
  refine mGo.iload (n := 126) (x := v6) dX8_nearest_124 rfl rfl ?_
  refine mGo.icmp_ne (tgt := 132) (n := 129) dX8_nearest_126 (by decide) rfl (fun hc => ?_) (fun hc => ?_)
  · replace e := mIff hc e
    refine mGo.iinc (n := 135) (x := v8) (v := (v8 + 1)) (ls' := [none, none, some (.int v2), some (.int v3), some (va_rf v4), some (.int v5), some (.int v6), some (.int v7), some (.int (v8 + 1)), none, some (.int v10)]) dX8_nearest_132 rfl rfl rfl (Nat.le_of_ble_eq_true rfl) rfl ?_
    refine mGo.goto (tgt := 53) dX8_nearest_135 (by decide) ?_
    cases e
    refine mGo.mk [false, false, true, true, true, true, true, true, true, false, false] ?_
    exact q
  · replace e := mIft hc e
    refine mGo.iinc (n := 132) (x := v7) (v := (v7 + 1)) (ls' := [none, none, some (.int v2), some (.int v3), some (va_rf v4), some (.int v5), some (.int v6), some (.int (v7 + 1)), some (.int v8), none, some (.int v10)]) dX8_nearest_129 rfl rfl rfl (Nat.le_of_ble_eq_true rfl) rfl ?_
    refine mGo.iinc (n := 135) (x := v8) (v := (v8 + 1)) (ls' := [none, none, some (.int v2), some (.int v3), some (va_rf v4), some (.int v5), some (.int v6), some (.int (v7 + 1)), some (.int (v8 + 1)), none, some (.int v10)]) dX8_nearest_132 rfl rfl rfl (Nat.le_of_ble_eq_true rfl) rfl ?_
    refine mGo.goto (tgt := 53) dX8_nearest_135 (by decide) ?_
    cases e
    refine mGo.mk [false, false, true, true, true, true, true, true, true, false, false] ?_
    exact q
def f_X8_nearest_c102 (v2 : Int32) (v3 : Int32) (v4 : Option Nat) (v5 : Int32) (v6 : Int32) (v7 : Int32) (v8 : Int32) (s0 : Int32) (h : mH) : Option ((Int32 × Int32 × Int32 × Int32) ⊕ (Int32)) :=
  if v6 ≤ s0 then
    f_X8_nearest_c122 v2 v3 v4 v5 v6 v7 v8 s0 h
  else
    f_X8_nearest_c122 v2 v3 v4 v8 s0 (0 : Int32) v8 s0 h
set_option maxRecDepth 100000 in
set_option maxHeartbeats 4000000 in
theorem g_X8_nearest_c102 {w : mWp} {Q : Option Value → mH → Prop} (v2 : Int32) (v3 : Int32) (v4 : Option Nat) (v5 : Int32) (v6 : Int32) (v7 : Int32) (v8 : Int32) (s0 : Int32) (h : mH) {res : (Int32 × Int32 × Int32 × Int32) ⊕ (Int32)} (e : f_X8_nearest_c102 v2 v3 v4 v5 v6 v7 v8 s0 h = some res) (q : (Sum.elim (fun x : Int32 × Int32 × Int32 × Int32 => mGo w kX8_nearest 0 0 53 [none, none, some (.int v2), some (.int v3), some (va_rf v4), some (.int x.1), some (.int x.2.1), some (.int x.2.2.1), some (.int x.2.2.2), none, none] [] h Q) (fun r : Int32 => Q (some (.int r)) h)) res) : mGo w kX8_nearest 0 0 102 [none, none, some (.int v2), some (.int v3), some (va_rf v4), some (.int v5), some (.int v6), some (.int v7), some (.int v8), none, none] [.int s0] h Q := by
  unfold f_X8_nearest_c102 at e
  refine mGo.istore (n := 104) (ls' := [none, none, some (.int v2), some (.int v3), some (va_rf v4), some (.int v5), some (.int v6), some (.int v7), some (.int v8), none, some (.int s0)]) dX8_nearest_102 rfl (Nat.le_of_ble_eq_true rfl) rfl ?_
  refine mGo.iload (n := 106) (x := s0) dX8_nearest_104 rfl rfl ?_
  refine mGo.iload (n := 108) (x := v6) dX8_nearest_106 rfl rfl ?_
  refine mGo.icmp_ge (tgt := 122) (n := 111) dX8_nearest_108 (by decide) rfl (fun hc => ?_) (fun hc => ?_)
  · replace e := mIft hc e
    refine mGo.mk [false, false, true, true, true, true, true, true, true, false, true] ?_
    exact g_X8_nearest_c122 v2 v3 v4 v5 v6 v7 v8 s0 h e q
  · replace e := mIff hc e
    refine mGo.iload (n := 113) (x := s0) dX8_nearest_111 rfl rfl ?_
    refine mGo.istore (n := 115) (ls' := [none, none, some (.int v2), some (.int v3), some (va_rf v4), some (.int v5), some (.int s0), some (.int v7), some (.int v8), none, some (.int s0)]) dX8_nearest_113 rfl (Nat.le_of_ble_eq_true rfl) rfl ?_
    refine mGo.iload (n := 117) (x := v8) dX8_nearest_115 rfl rfl ?_
    refine mGo.istore (n := 119) (ls' := [none, none, some (.int v2), some (.int v3), some (va_rf v4), some (.int v8), some (.int s0), some (.int v7), some (.int v8), none, some (.int s0)]) dX8_nearest_117 ((mSt_set (fun u _ hu => by cases hu; exact mRfc _)).trans rfl) (Nat.le_of_ble_eq_true rfl) rfl ?_
    refine mGo.iconst (n := 120) (v := (0 : Int32)) dX8_nearest_119 (by decide) rfl ?_
    refine mGo.istore (n := 122) (ls' := [none, none, some (.int v2), some (.int v3), some (va_rf v4), some (.int v8), some (.int s0), some (.int (0 : Int32)), some (.int v8), none, some (.int s0)]) dX8_nearest_120 rfl (Nat.le_of_ble_eq_true rfl) rfl ?_
    refine mGo.mk [false, false, true, true, true, true, true, true, true, false, true] ?_
    exact g_X8_nearest_c122 v2 v3 v4 v8 s0 (0 : Int32) v8 s0 h e q
def f_X8_nearest_b53 (v2 : Int32) (v3 : Int32) (v4 : Option Nat) (v5 : Int32) (v6 : Int32) (v7 : Int32) (v8 : Int32) (h : mH) : Option ((Int32 × Int32 × Int32 × Int32) ⊕ (Int32)) :=
  (mGI h v4 6 0).bind fun x1 =>
  if ((2 : Int32) * x1) ≤ v8 then
    if v3 = 0 then
      some (Sum.inr (v5 >>> ((1 : Int32) &&& 31)))
    else
    if v3 = 1 then
      some (Sum.inr (v5 &&& (1 : Int32)))
    else
    if v3 = 2 then
      some (Sum.inr v6)
    else
    some (Sum.inr v7)
  else
    (mGR h v4 6 1).bind fun x5 =>
    (mAI h x5 (v8 >>> ((1 : Int32) &&& 31))).bind fun x6 =>
    (f_J6_bitCount_0f7a4 (x6 ^^^ v2)).bind fun x7 =>
    if (v8 &&& (1 : Int32)) = 0 then
      f_X8_nearest_c102 v2 v3 v4 v5 v6 v7 v8 x7 h
    else
      (mGI h v4 6 0).bind fun x8 =>
      f_X8_nearest_c102 v2 v3 v4 v5 v6 v7 v8 (x8 - x7) h
set_option maxRecDepth 100000 in
set_option maxHeartbeats 4000000 in
theorem g_X8_nearest_b53 {w : mWp} {Q : Option Value → mH → Prop} (v2 : Int32) (v3 : Int32) (v4 : Option Nat) (v5 : Int32) (v6 : Int32) (v7 : Int32) (v8 : Int32) (h : mH) {res : (Int32 × Int32 × Int32 × Int32) ⊕ (Int32)} (e : f_X8_nearest_b53 v2 v3 v4 v5 v6 v7 v8 h = some res) (q : (Sum.elim (fun x : Int32 × Int32 × Int32 × Int32 => mGo w kX8_nearest 0 0 53 [none, none, some (.int v2), some (.int v3), some (va_rf v4), some (.int x.1), some (.int x.2.1), some (.int x.2.2.1), some (.int x.2.2.2), none, none] [] h Q) (fun r : Int32 => Q (some (.int r)) h)) res) : mGo w kX8_nearest 0 0 53 [none, none, some (.int v2), some (.int v3), some (va_rf v4), some (.int v5), some (.int v6), some (.int v7), some (.int v8), none, none] [] h Q := by
  unfold f_X8_nearest_b53 at e
  refine mGo.iload (n := 55) (x := v8) dX8_nearest_53 rfl rfl ?_
  refine mGo.iconst (n := 56) (v := (2 : Int32)) dX8_nearest_55 (by decide) rfl ?_
  refine mGo.aload (n := 58) (r := v4) dX8_nearest_56 rfl rfl ?_
  obtain ⟨x1, e_x1, e⟩ := mBind e
  refine mGo.getI (n := 61) dX8_nearest_58 sf_RX8_122 e_x1 rfl ?_
  refine mGo.imul (n := 62) dX8_nearest_61 rfl ?_
  refine mGo.icmp_ge (tgt := 138) (n := 65) dX8_nearest_62 (by decide) rfl (fun hc => ?_) (fun hc => ?_)
  · replace e := mIft hc e
    refine mGo.iload_n (n := 139) (x := v3) dX8_nearest_138 rfl rfl ?_
    by_cases hc2 : v3 = 0
    · replace e := mIft hc2 e
      refine mGo.tcase (v := 0) (tgt := 164) hc2 dX8_nearest_139 (by decide) (by decide) (off := 25) (by decide) (by decide) ?_
      refine mGo.iload (n := 166) (x := v5) dX8_nearest_164 rfl rfl ?_
      refine mGo.iconst (n := 167) (v := (1 : Int32)) dX8_nearest_166 (by decide) rfl ?_
      refine mGo.ishr (n := 168) dX8_nearest_167 rfl ?_
      cases e
      exact mGo.iret dX8_nearest_168 rfl (Nat.le_of_ble_eq_true rfl) (Nat.le_of_ble_eq_true rfl) q
    replace e := mIff hc2 e
    by_cases hc3 : v3 = 1
    · replace e := mIft hc3 e
      refine mGo.tcase (v := 1) (tgt := 169) hc3 dX8_nearest_139 (by decide) (by decide) (off := 30) (by decide) (by decide) ?_
      refine mGo.iload (n := 171) (x := v5) dX8_nearest_169 rfl rfl ?_
      refine mGo.iconst (n := 172) (v := (1 : Int32)) dX8_nearest_171 (by decide) rfl ?_
      refine mGo.iand (n := 173) dX8_nearest_172 rfl ?_
      cases e
      exact mGo.iret dX8_nearest_173 rfl (Nat.le_of_ble_eq_true rfl) (Nat.le_of_ble_eq_true rfl) q
    replace e := mIff hc3 e
    by_cases hc4 : v3 = 2
    · replace e := mIft hc4 e
      refine mGo.tcase (v := 2) (tgt := 174) hc4 dX8_nearest_139 (by decide) (by decide) (off := 35) (by decide) (by decide) ?_
      refine mGo.iload (n := 176) (x := v6) dX8_nearest_174 rfl rfl ?_
      cases e
      exact mGo.iret dX8_nearest_176 rfl (Nat.le_of_ble_eq_true rfl) (Nat.le_of_ble_eq_true rfl) q
    replace e := mIff hc4 e
    refine mGo.tdef (tgt := 177) [0, 1, 2] dX8_nearest_139 (List.forall_mem_cons.mpr ⟨hc2, (List.forall_mem_cons.mpr ⟨hc3, (List.forall_mem_cons.mpr ⟨hc4, (fun _ hm => absurd hm List.not_mem_nil)⟩)⟩)⟩) (by decide) (by decide +kernel) (by decide) ?_
    refine mGo.iload (n := 179) (x := v7) dX8_nearest_177 rfl rfl ?_
    cases e
    exact mGo.iret dX8_nearest_179 rfl (Nat.le_of_ble_eq_true rfl) (Nat.le_of_ble_eq_true rfl) q
  · replace e := mIff hc e
    refine mGo.aload (n := 67) (r := v4) dX8_nearest_65 rfl rfl ?_
    obtain ⟨x5, e_x5, e⟩ := mBind e
    refine mGo.getR (n := 70) dX8_nearest_67 sf_RX8_125 e_x5 rfl ?_
    refine mGo.iload (n := 72) (x := v8) dX8_nearest_70 rfl rfl ?_
    refine mGo.iconst (n := 73) (v := (1 : Int32)) dX8_nearest_72 (by decide) rfl ?_
    refine mGo.ishr (n := 74) dX8_nearest_73 rfl ?_
    obtain ⟨x6, e_x6, e⟩ := mBind e
    refine mGo.iald (n := 75) dX8_nearest_74 e_x6 rfl ?_
    refine mGo.iload_n (n := 76) (x := v2) dX8_nearest_75 rfl rfl ?_
    refine mGo.ixor (n := 77) dX8_nearest_76 rfl ?_
    obtain ⟨x7, e_x7, e⟩ := mBind e
    refine mGo.callS (n := 80) (y := zJ6_bitCount_0f7a4) (R' := (mRoom (1) 0 0)) (as := [.int (x6 ^^^ v2)]) (st := []) dX8_nearest_77 sc_RX8_258 rfl (e_J6_bitCount_0f7a4 (x6 ^^^ v2) h e_x7) (mFit_of rfl (Nat.le_of_ble_eq_true rfl) (by decide) (Nat.le_of_ble_eq_true rfl) (Nat.le_of_ble_eq_true rfl)) (Nat.le_of_ble_eq_true rfl) rfl rfl ?_
    intro _ _ hq
    rw [hq.1, hq.2]
    show mGo w kX8_nearest 0 0 80 [none, none, some (.int v2), some (.int v3), some (va_rf v4), some (.int v5), some (.int v6), some (.int v7), some (.int v8), none, none] [.int x7] h Q
    refine mGo.istore (n := 82) (ls' := [none, none, some (.int v2), some (.int v3), some (va_rf v4), some (.int v5), some (.int v6), some (.int v7), some (.int v8), some (.int x7), none]) dX8_nearest_80 rfl (Nat.le_of_ble_eq_true rfl) rfl ?_
    refine mGo.iload (n := 84) (x := v8) dX8_nearest_82 rfl rfl ?_
    refine mGo.iconst (n := 85) (v := (1 : Int32)) dX8_nearest_84 (by decide) rfl ?_
    refine mGo.iand (n := 86) dX8_nearest_85 rfl ?_
    refine mGo.if_ne (tgt := 94) (n := 89) dX8_nearest_86 (by decide) rfl (fun hc => ?_) (fun hc => ?_)
    · replace e := mIff hc e
      refine mGo.aload (n := 96) (r := v4) dX8_nearest_94 rfl rfl ?_
      obtain ⟨x8, e_x8, e⟩ := mBind e
      refine mGo.getI (n := 99) dX8_nearest_96 sf_RX8_122 e_x8 rfl ?_
      refine mGo.iload (n := 101) (x := x7) dX8_nearest_99 rfl rfl ?_
      refine mGo.isub (n := 102) dX8_nearest_101 rfl ?_
      refine mGo.mk [false, false, true, true, true, true, true, true, true, false, false] ?_
      exact g_X8_nearest_c102 v2 v3 v4 v5 v6 v7 v8 (x8 - x7) h e q
    · replace e := mIft hc e
      refine mGo.iload (n := 91) (x := x7) dX8_nearest_89 rfl rfl ?_
      refine mGo.goto (tgt := 102) dX8_nearest_91 (by decide) ?_
      refine mGo.mk [false, false, true, true, true, true, true, true, true, false, false] ?_
      exact g_X8_nearest_c102 v2 v3 v4 v5 v6 v7 v8 x7 h e q
noncomputable def f_X8_nearest_l53 (v2 : Int32) (v3 : Int32) (v4 : Option Nat) (v5 : Int32) (v6 : Int32) (v7 : Int32) (v8 : Int32) (h : mH) : Option (Int32) :=
  mLoop (fun x : Int32 × Int32 × Int32 × Int32 => f_X8_nearest_b53 v2 v3 v4 x.1 x.2.1 x.2.2.1 x.2.2.2 h) (v5, v6, v7, v8)
set_option maxRecDepth 100000 in
set_option maxHeartbeats 4000000 in
theorem g_X8_nearest_l53 {w : mWp} {Q : Option Value → mH → Prop} (v2 : Int32) (v3 : Int32) (v4 : Option Nat) (v5 : Int32) (v6 : Int32) (v7 : Int32) (v8 : Int32) (h : mH) {res : Int32} (e : f_X8_nearest_l53 v2 v3 v4 v5 v6 v7 v8 h = some res) (q : (fun r : Int32 => Q (some (.int r)) h) res) : mGo w kX8_nearest 0 0 53 [none, none, some (.int v2), some (.int v3), some (va_rf v4), some (.int v5), some (.int v6), some (.int v7), some (.int v8), none, none] [] h Q := by
  unfold f_X8_nearest_l53 at e
  refine mLoop_go (x := (v5, v6, v7, v8)) (fun x : Int32 × Int32 × Int32 × Int32 => mGo w kX8_nearest 0 0 53 [none, none, some (.int v2), some (.int v3), some (va_rf v4), some (.int x.1), some (.int x.2.1), some (.int x.2.2.1), some (.int x.2.2.2), none, none] [] h Q) (fun r : Int32 => Q (some (.int r)) h) ?_ e q
  rintro ⟨v5, v6, v7, v8⟩ res e q
  exact g_X8_nearest_b53 v2 v3 v4 v5 v6 v7 v8 h e q
noncomputable def f_X8_nearest (v0 : Option Nat) (v1 : Int32) (v2 : Int32) (v3 : Int32) (h : mH) : Option (Int32) :=
  (mIs h v0 7).bind fun _ =>
  (f_X8_tableAt v0 v1 h).bind fun x1 =>
  if x1 = none then
    some (-1 : Int32)
  else
    (mGI h x1 6 0).bind fun x2 =>
    (f_X8_isWord v2 x2).bind fun x3 =>
    if x3 = 0 then
      some (-1 : Int32)
    else
      if v3 < 0 then
        some (-1 : Int32)
      else
        if v3 ≤ (3 : Int32) then
          (mGI h x1 6 0).bind fun x4 =>
          f_X8_nearest_l53 v2 v3 x1 (0 : Int32) (x4 + (1 : Int32)) (0 : Int32) (0 : Int32) h
        else
          some (-1 : Int32)
set_option maxRecDepth 100000 in
set_option maxHeartbeats 4000000 in
theorem g_X8_nearest {w : mWp} {Q : Option Value → mH → Prop} (v0 : Option Nat) (v1 : Int32) (v2 : Int32) (v3 : Int32) (h : mH) {res : Int32} (e : f_X8_nearest v0 v1 v2 v3 h = some res) (q : (fun r : Int32 => Q (some (.int r)) h) res) : mGo w kX8_nearest 0 0 0 [some (va_rf v0), some (.int v1), some (.int v2), some (.int v3), none, none, none, none, none, none, none] [] h Q := by
  unfold f_X8_nearest at e
  obtain ⟨_, _, e⟩ := mBind e
  refine mGo.aload_n (n := 1) (r := v0) dX8_nearest_0 rfl rfl ?_
  refine mGo.iload_n (n := 2) (x := v1) dX8_nearest_1 rfl rfl ?_
  obtain ⟨x1, e_x1, e⟩ := mBind e
  refine mGo.callV (n := 5) (y := zX8_tableAt) (R' := (mRoom (1) 0 0)) (as := [.int v1]) (st := []) (r0 := v0) dX8_nearest_2 sc_RX8_118 rfl (s_X8_tableAt v0 v1 h e_x1) (e_X8_tableAt v0 v1 h e_x1) (mFit_of rfl (Nat.le_of_ble_eq_true rfl) (by decide) (Nat.le_of_ble_eq_true rfl) (Nat.le_of_ble_eq_true rfl)) (Nat.le_of_ble_eq_true rfl) rfl rfl ?_
  intro _ _ hq
  rw [hq.1, hq.2]
  show mGo w kX8_nearest 0 0 5 [some (va_rf v0), some (.int v1), some (.int v2), some (.int v3), none, none, none, none, none, none, none] [va_rf x1] h Q
  refine mGo.astore (n := 7) (ls' := [some (va_rf v0), some (.int v1), some (.int v2), some (.int v3), some (va_rf x1), none, none, none, none, none, none]) dX8_nearest_5 rfl (Nat.le_of_ble_eq_true rfl) rfl ?_
  refine mGo.aload (n := 9) (r := x1) dX8_nearest_7 rfl rfl ?_
  refine mGo.ifnull (tgt := 33) (n := 12) dX8_nearest_9 (by decide) rfl (fun hc => ?_) (fun hc => ?_)
  · replace e := mIft hc e
    refine mGo.iconst (n := 34) (v := (-1 : Int32)) dX8_nearest_33 (by decide) rfl ?_
    cases e
    exact mGo.iret dX8_nearest_34 rfl (Nat.le_of_ble_eq_true rfl) (Nat.le_of_ble_eq_true rfl) q
  · replace e := mIff hc e
    refine mGo.iload_n (n := 13) (x := v2) dX8_nearest_12 rfl rfl ?_
    refine mGo.aload (n := 15) (r := x1) dX8_nearest_13 rfl rfl ?_
    obtain ⟨x2, e_x2, e⟩ := mBind e
    refine mGo.getI (n := 18) dX8_nearest_15 sf_RX8_122 e_x2 rfl ?_
    obtain ⟨x3, e_x3, e⟩ := mBind e
    refine mGo.callS (n := 21) (y := zX8_isWord) (R' := (mRoom (1) 0 0)) (as := [.int v2, .int x2]) (st := []) dX8_nearest_18 sc_RX8_135 rfl (e_X8_isWord v2 x2 h e_x3) (mFit_of rfl (Nat.le_of_ble_eq_true rfl) (by decide) (Nat.le_of_ble_eq_true rfl) (Nat.le_of_ble_eq_true rfl)) (Nat.le_of_ble_eq_true rfl) rfl rfl ?_
    intro _ _ hq
    rw [hq.1, hq.2]
    show mGo w kX8_nearest 0 0 21 [some (va_rf v0), some (.int v1), some (.int v2), some (.int v3), some (va_rf x1), none, none, none, none, none, none] [.int x3] h Q
    refine mGo.if_eq (tgt := 33) (n := 24) dX8_nearest_21 (by decide) rfl (fun hc => ?_) (fun hc => ?_)
    · replace e := mIft hc e
      refine mGo.iconst (n := 34) (v := (-1 : Int32)) dX8_nearest_33 (by decide) rfl ?_
      cases e
      exact mGo.iret dX8_nearest_34 rfl (Nat.le_of_ble_eq_true rfl) (Nat.le_of_ble_eq_true rfl) q
    · replace e := mIff hc e
      refine mGo.iload_n (n := 25) (x := v3) dX8_nearest_24 rfl rfl ?_
      refine mGo.if_lt (tgt := 33) (n := 28) dX8_nearest_25 (by decide) rfl (fun hc => ?_) (fun hc => ?_)
      · replace e := mIft hc e
        refine mGo.iconst (n := 34) (v := (-1 : Int32)) dX8_nearest_33 (by decide) rfl ?_
        cases e
        exact mGo.iret dX8_nearest_34 rfl (Nat.le_of_ble_eq_true rfl) (Nat.le_of_ble_eq_true rfl) q
      · replace e := mIff hc e
        refine mGo.iload_n (n := 29) (x := v3) dX8_nearest_28 rfl rfl ?_
        refine mGo.iconst (n := 30) (v := (3 : Int32)) dX8_nearest_29 (by decide) rfl ?_
        refine mGo.icmp_le (tgt := 35) (n := 33) dX8_nearest_30 (by decide) rfl (fun hc => ?_) (fun hc => ?_)
        · replace e := mIft hc e
          refine mGo.iconst (n := 36) (v := (0 : Int32)) dX8_nearest_35 (by decide) rfl ?_
          refine mGo.istore (n := 38) (ls' := [some (va_rf v0), some (.int v1), some (.int v2), some (.int v3), some (va_rf x1), some (.int (0 : Int32)), none, none, none, none, none]) dX8_nearest_36 ((mSt_set (fun u _ hu => by cases hu; exact mRfc _)).trans rfl) (Nat.le_of_ble_eq_true rfl) rfl ?_
          refine mGo.aload (n := 40) (r := x1) dX8_nearest_38 rfl rfl ?_
          obtain ⟨x4, e_x4, e⟩ := mBind e
          refine mGo.getI (n := 43) dX8_nearest_40 sf_RX8_122 e_x4 rfl ?_
          refine mGo.iconst (n := 44) (v := (1 : Int32)) dX8_nearest_43 (by decide) rfl ?_
          refine mGo.iadd (n := 45) dX8_nearest_44 rfl ?_
          refine mGo.istore (n := 47) (ls' := [some (va_rf v0), some (.int v1), some (.int v2), some (.int v3), some (va_rf x1), some (.int (0 : Int32)), some (.int (x4 + (1 : Int32))), none, none, none, none]) dX8_nearest_45 rfl (Nat.le_of_ble_eq_true rfl) rfl ?_
          refine mGo.iconst (n := 48) (v := (0 : Int32)) dX8_nearest_47 (by decide) rfl ?_
          refine mGo.istore (n := 50) (ls' := [some (va_rf v0), some (.int v1), some (.int v2), some (.int v3), some (va_rf x1), some (.int (0 : Int32)), some (.int (x4 + (1 : Int32))), some (.int (0 : Int32)), none, none, none]) dX8_nearest_48 rfl (Nat.le_of_ble_eq_true rfl) rfl ?_
          refine mGo.iconst (n := 51) (v := (0 : Int32)) dX8_nearest_50 (by decide) rfl ?_
          refine mGo.istore (n := 53) (ls' := [some (va_rf v0), some (.int v1), some (.int v2), some (.int v3), some (va_rf x1), some (.int (0 : Int32)), some (.int (x4 + (1 : Int32))), some (.int (0 : Int32)), some (.int (0 : Int32)), none, none]) dX8_nearest_51 rfl (Nat.le_of_ble_eq_true rfl) rfl ?_
          refine mGo.mk [false, false, true, true, true, true, true, true, true, false, false] ?_
          exact g_X8_nearest_l53 v2 v3 x1 (0 : Int32) (x4 + (1 : Int32)) (0 : Int32) (0 : Int32) h e q
        · replace e := mIff hc e
          refine mGo.iconst (n := 34) (v := (-1 : Int32)) dX8_nearest_33 (by decide) rfl ?_
          cases e
          exact mGo.iret dX8_nearest_34 rfl (Nat.le_of_ble_eq_true rfl) (Nat.le_of_ble_eq_true rfl) q
theorem e_X8_nearest {w : mWp} (v0 : Option Nat) (v1 : Int32) (v2 : Int32) (v3 : Int32) (h : mH) {res : Int32} (e : f_X8_nearest v0 v1 v2 v3 h = some res) : mEx w zX8_nearest (mRoom 2 0 0) [va_rf v0, .int v1, .int v2, .int v3] h (fun r h2 => r = some (.int res) ∧ h2 = h) := by
  refine mEx.of (by decide +kernel) (show mEnt [va_rf v0, .int v1, .int v2, .int v3] 11 = [some (va_rf v0), some (.int v1), some (.int v2), some (.int v3), none, none, none, none, none, none, none] by rw [mEnt_r, mEnt_i, mEnt_i, mEnt_i] <;> rfl) (by simp only [List.map_cons, List.map_nil, mRfc, mCi, mCj, List.sum_cons, List.sum_nil]; exact Nat.le_of_ble_eq_true rfl) ?_
  refine g_X8_nearest v0 v1 v2 v3 h e ?_
  exact ⟨rfl, rfl⟩
theorem s_X8_nearest (v0 : Option Nat) (v1 : Int32) (v2 : Int32) (v3 : Int32) (h : mH) {res : Int32} (e : f_X8_nearest v0 v1 v2 v3 h = some res) : mIs h v0 7 = some () := by
  unfold f_X8_nearest at e
  obtain ⟨u, e1, _⟩ := mBind e
  cases u
  exact e1
-- X8_signal
def kX8_signal : mK := (cX8_signal, RX8, 4, some (.int), "signal", mRoom 1 0 0)
def zX8_signal : mY := (yX8_signal, cX8_signal, 4, some (.int))
def f_X8_signal (v0 : Option Nat) (v1 : Int32) (v2 : Int32) (h : mH) : Option (Int32 × mH) :=
  (mIs h v0 7).bind fun _ =>
  if v1 < 0 then
    some ((-1000 : Int32), h)
  else
    if (28 : Int32) ≤ v1 then
      some ((-1000 : Int32), h)
    else
      if v2 < (-999 : Int32) then
        some ((-1000 : Int32), h)
      else
        if v2 ≤ (999 : Int32) then
          (mGR h v0 7 3).bind fun x1 =>
          (mAI h x1 v1).bind fun x2 =>
          (mGR h v0 7 3).bind fun x3 =>
          (mSI h x3 v1 v2).bind fun h4 =>
          some (x2, h4)
        else
          some ((-1000 : Int32), h)
set_option maxRecDepth 100000 in
set_option maxHeartbeats 4000000 in
theorem g_X8_signal {w : mWp} {Q : Option Value → mH → Prop} (v0 : Option Nat) (v1 : Int32) (v2 : Int32) (h : mH) {res : Int32 × mH} (e : f_X8_signal v0 v1 v2 h = some res) (q : (fun r : Int32 × mH => Q (some (.int r.1)) r.2) res) : mGo w kX8_signal 0 0 0 [some (va_rf v0), some (.int v1), some (.int v2), none] [] h Q := by
  unfold f_X8_signal at e
  obtain ⟨_, _, e⟩ := mBind e
  refine mGo.iload_n (n := 1) (x := v1) dX8_signal_0 rfl rfl ?_
  refine mGo.if_lt (tgt := 24) (n := 4) dX8_signal_1 (by decide) rfl (fun hc => ?_) (fun hc => ?_)
  · replace e := mIft hc e
    refine mGo.sipush (n := 27) (v := (-1000 : Int32)) dX8_signal_24 (by decide) rfl ?_
    cases e
    exact mGo.iret dX8_signal_27 rfl (Nat.le_of_ble_eq_true rfl) (Nat.le_of_ble_eq_true rfl) q
  · replace e := mIff hc e
    refine mGo.iload_n (n := 5) (x := v1) dX8_signal_4 rfl rfl ?_
    refine mGo.bipush (n := 7) (v := (28 : Int32)) dX8_signal_5 (by decide) rfl ?_
    refine mGo.icmp_ge (tgt := 24) (n := 10) dX8_signal_7 (by decide) rfl (fun hc => ?_) (fun hc => ?_)
    · replace e := mIft hc e
      refine mGo.sipush (n := 27) (v := (-1000 : Int32)) dX8_signal_24 (by decide) rfl ?_
      cases e
      exact mGo.iret dX8_signal_27 rfl (Nat.le_of_ble_eq_true rfl) (Nat.le_of_ble_eq_true rfl) q
    · replace e := mIff hc e
      refine mGo.iload_n (n := 11) (x := v2) dX8_signal_10 rfl rfl ?_
      refine mGo.sipush (n := 14) (v := (-999 : Int32)) dX8_signal_11 (by decide) rfl ?_
      refine mGo.icmp_lt (tgt := 24) (n := 17) dX8_signal_14 (by decide) rfl (fun hc => ?_) (fun hc => ?_)
      · replace e := mIft hc e
        refine mGo.sipush (n := 27) (v := (-1000 : Int32)) dX8_signal_24 (by decide) rfl ?_
        cases e
        exact mGo.iret dX8_signal_27 rfl (Nat.le_of_ble_eq_true rfl) (Nat.le_of_ble_eq_true rfl) q
      · replace e := mIff hc e
        refine mGo.iload_n (n := 18) (x := v2) dX8_signal_17 rfl rfl ?_
        refine mGo.sipush (n := 21) (v := (999 : Int32)) dX8_signal_18 (by decide) rfl ?_
        refine mGo.icmp_le (tgt := 28) (n := 24) dX8_signal_21 (by decide) rfl (fun hc => ?_) (fun hc => ?_)
        · replace e := mIft hc e
          refine mGo.aload_n (n := 29) (r := v0) dX8_signal_28 rfl rfl ?_
          obtain ⟨x1, e_x1, e⟩ := mBind e
          refine mGo.getR (n := 32) dX8_signal_29 sf_RX8_20 e_x1 rfl ?_
          refine mGo.iload_n (n := 33) (x := v1) dX8_signal_32 rfl rfl ?_
          obtain ⟨x2, e_x2, e⟩ := mBind e
          refine mGo.iald (n := 34) dX8_signal_33 e_x2 rfl ?_
          refine mGo.istore_n (n := 35) (ls' := [some (va_rf v0), some (.int v1), some (.int v2), some (.int x2)]) dX8_signal_34 rfl (Nat.le_of_ble_eq_true rfl) rfl ?_
          refine mGo.aload_n (n := 36) (r := v0) dX8_signal_35 rfl rfl ?_
          obtain ⟨x3, e_x3, e⟩ := mBind e
          refine mGo.getR (n := 39) dX8_signal_36 sf_RX8_20 e_x3 rfl ?_
          refine mGo.iload_n (n := 40) (x := v1) dX8_signal_39 rfl rfl ?_
          refine mGo.iload_n (n := 41) (x := v2) dX8_signal_40 rfl rfl ?_
          obtain ⟨h4, e_h4, e⟩ := mBind e
          refine mGo.iast (n := 42) dX8_signal_41 e_h4 rfl ?_
          refine mGo.iload_n (n := 43) (x := x2) dX8_signal_42 rfl rfl ?_
          cases e
          exact mGo.iret dX8_signal_43 rfl (Nat.le_of_ble_eq_true rfl) (Nat.le_of_ble_eq_true rfl) q
        · replace e := mIff hc e
          refine mGo.sipush (n := 27) (v := (-1000 : Int32)) dX8_signal_24 (by decide) rfl ?_
          cases e
          exact mGo.iret dX8_signal_27 rfl (Nat.le_of_ble_eq_true rfl) (Nat.le_of_ble_eq_true rfl) q
theorem e_X8_signal {w : mWp} (v0 : Option Nat) (v1 : Int32) (v2 : Int32) (h : mH) {res : Int32 × mH} (e : f_X8_signal v0 v1 v2 h = some res) : mEx w zX8_signal (mRoom 1 0 0) [va_rf v0, .int v1, .int v2] h (fun r h2 => r = some (.int res.1) ∧ h2 = res.2) := by
  refine mEx.of (by decide +kernel) (show mEnt [va_rf v0, .int v1, .int v2] 4 = [some (va_rf v0), some (.int v1), some (.int v2), none] by rw [mEnt_r, mEnt_i, mEnt_i] <;> rfl) (by simp only [List.map_cons, List.map_nil, mRfc, mCi, mCj, List.sum_cons, List.sum_nil]; exact Nat.le_of_ble_eq_true rfl) ?_
  refine g_X8_signal v0 v1 v2 h e ?_
  exact ⟨rfl, rfl⟩
theorem s_X8_signal (v0 : Option Nat) (v1 : Int32) (v2 : Int32) (h : mH) {res : Int32 × mH} (e : f_X8_signal v0 v1 v2 h = some res) : mIs h v0 7 = some () := by
  unfold f_X8_signal at e
  obtain ⟨u, e1, _⟩ := mBind e
  cases u
  exact e1
-- X8_rowSpectrum
def kX8_rowSpectrum : mK := (cX8_rowSpectrum, RX8, 5, some (.int), "rowSpectrum", mRoom 3 0 0)
def zX8_rowSpectrum : mY := (yX8_rowSpectrum, cX8_rowSpectrum, 5, some (.int))
def f_X8_rowSpectrum_c43 (v0 : Option Nat) (v1 : Option Nat) (v2 : Int32) (v4 : Int32) (s0 : Int32) (s1 : Int32) (h : mH) : Option ((Int32 × Int32) ⊕ (Int32)) :=
  some (Sum.inl ((s0 + s1), (v4 + 1)))
set_option maxRecDepth 100000 in
set_option maxHeartbeats 4000000 in
theorem g_X8_rowSpectrum_c43 {w : mWp} {Q : Option Value → mH → Prop} (v0 : Option Nat) (v1 : Option Nat) (v2 : Int32) (v4 : Int32) (s0 : Int32) (s1 : Int32) (h : mH) {res : (Int32 × Int32) ⊕ (Int32)} (e : f_X8_rowSpectrum_c43 v0 v1 v2 v4 s0 s1 h = some res) (q : (Sum.elim (fun x : Int32 × Int32 => mGo w kX8_rowSpectrum 0 0 5 [some (va_rf v0), some (va_rf v1), some (.int v2), some (.int x.1), some (.int x.2)] [] h Q) (fun r : Int32 => Q (some (.int r)) h)) res) : mGo w kX8_rowSpectrum 0 0 43 [some (va_rf v0), some (va_rf v1), some (.int v2), none, some (.int v4)] [.int s1, .int s0] h Q := by
  unfold f_X8_rowSpectrum_c43 at e
  refine mGo.iadd (n := 44) dX8_rowSpectrum_43 rfl ?_
  refine mGo.istore_n (n := 45) (ls' := [some (va_rf v0), some (va_rf v1), some (.int v2), some (.int (s0 + s1)), some (.int v4)]) dX8_rowSpectrum_44 rfl (Nat.le_of_ble_eq_true rfl) rfl ?_
  refine mGo.iinc (n := 48) (x := v4) (v := (v4 + 1)) (ls' := [some (va_rf v0), some (va_rf v1), some (.int v2), some (.int (s0 + s1)), some (.int (v4 + 1))]) dX8_rowSpectrum_45 rfl rfl rfl (Nat.le_of_ble_eq_true rfl) rfl ?_
  refine mGo.goto (tgt := 5) dX8_rowSpectrum_48 (by decide) ?_
  cases e
  refine mGo.mk [true, true, true, true, true] ?_
  exact q
def f_X8_rowSpectrum_b5 (v0 : Option Nat) (v1 : Option Nat) (v2 : Int32) (v3 : Int32) (v4 : Int32) (h : mH) : Option ((Int32 × Int32) ⊕ (Int32)) :=
  (mGI h v1 6 0).bind fun x1 =>
  if x1 ≤ v4 then
    some (Sum.inr v3)
  else
    (f_X7_isMinus v1 v2 v4 h).bind fun x2 =>
    if x2 = 0 then
      (mGR h v0 7 3).bind fun x3 =>
      (mAI h x3 v4).bind fun x4 =>
      f_X8_rowSpectrum_c43 v0 v1 v2 v4 v3 x4 h
    else
      (mGR h v0 7 3).bind fun x5 =>
      (mAI h x5 v4).bind fun x6 =>
      f_X8_rowSpectrum_c43 v0 v1 v2 v4 v3 (-x6) h
set_option maxRecDepth 100000 in
set_option maxHeartbeats 4000000 in
theorem g_X8_rowSpectrum_b5 {w : mWp} {Q : Option Value → mH → Prop} (v0 : Option Nat) (v1 : Option Nat) (v2 : Int32) (v3 : Int32) (v4 : Int32) (h : mH) {res : (Int32 × Int32) ⊕ (Int32)} (e : f_X8_rowSpectrum_b5 v0 v1 v2 v3 v4 h = some res) (q : (Sum.elim (fun x : Int32 × Int32 => mGo w kX8_rowSpectrum 0 0 5 [some (va_rf v0), some (va_rf v1), some (.int v2), some (.int x.1), some (.int x.2)] [] h Q) (fun r : Int32 => Q (some (.int r)) h)) res) : mGo w kX8_rowSpectrum 0 0 5 [some (va_rf v0), some (va_rf v1), some (.int v2), some (.int v3), some (.int v4)] [] h Q := by
  unfold f_X8_rowSpectrum_b5 at e
  refine mGo.iload (n := 7) (x := v4) dX8_rowSpectrum_5 rfl rfl ?_
  refine mGo.aload_n (n := 8) (r := v1) dX8_rowSpectrum_7 rfl rfl ?_
  obtain ⟨x1, e_x1, e⟩ := mBind e
  refine mGo.getI (n := 11) dX8_rowSpectrum_8 sf_RX8_122 e_x1 rfl ?_
  refine mGo.icmp_ge (tgt := 51) (n := 14) dX8_rowSpectrum_11 (by decide) rfl (fun hc => ?_) (fun hc => ?_)
  · replace e := mIft hc e
    refine mGo.iload_n (n := 52) (x := v3) dX8_rowSpectrum_51 rfl rfl ?_
    cases e
    exact mGo.iret dX8_rowSpectrum_52 rfl (Nat.le_of_ble_eq_true rfl) (Nat.le_of_ble_eq_true rfl) q
  · replace e := mIff hc e
    refine mGo.iload_n (n := 15) (x := v3) dX8_rowSpectrum_14 rfl rfl ?_
    refine mGo.aload_n (n := 16) (r := v1) dX8_rowSpectrum_15 rfl rfl ?_
    refine mGo.iload_n (n := 17) (x := v2) dX8_rowSpectrum_16 rfl rfl ?_
    refine mGo.iload (n := 19) (x := v4) dX8_rowSpectrum_17 rfl rfl ?_
    obtain ⟨x2, e_x2, e⟩ := mBind e
    refine mGo.callV (n := 22) (y := zX7_isMinus) (R' := (mRoom (2) 0 0)) (as := [.int v2, .int v4]) (st := [.int v3]) (r0 := v1) dX8_rowSpectrum_19 sc_RX8_168 rfl (s_X7_isMinus v1 v2 v4 h e_x2) (e_X7_isMinus v1 v2 v4 h e_x2) (mFit_of rfl (Nat.le_of_ble_eq_true rfl) (by decide) (Nat.le_of_ble_eq_true rfl) (Nat.le_of_ble_eq_true rfl)) (Nat.le_of_ble_eq_true rfl) rfl rfl ?_
    intro _ _ hq
    rw [hq.1, hq.2]
    show mGo w kX8_rowSpectrum 0 0 22 [some (va_rf v0), some (va_rf v1), some (.int v2), some (.int v3), some (.int v4)] [.int x2, .int v3] h Q
    refine mGo.if_eq (tgt := 36) (n := 25) dX8_rowSpectrum_22 (by decide) rfl (fun hc => ?_) (fun hc => ?_)
    · replace e := mIft hc e
      refine mGo.aload_n (n := 37) (r := v0) dX8_rowSpectrum_36 rfl rfl ?_
      obtain ⟨x3, e_x3, e⟩ := mBind e
      refine mGo.getR (n := 40) dX8_rowSpectrum_37 sf_RX8_20 e_x3 rfl ?_
      refine mGo.iload (n := 42) (x := v4) dX8_rowSpectrum_40 rfl rfl ?_
      obtain ⟨x4, e_x4, e⟩ := mBind e
      refine mGo.iald (n := 43) dX8_rowSpectrum_42 e_x4 rfl ?_
      refine mGo.mk [true, true, true, false, true] ?_
      exact g_X8_rowSpectrum_c43 v0 v1 v2 v4 v3 x4 h e q
    · replace e := mIff hc e
      refine mGo.aload_n (n := 26) (r := v0) dX8_rowSpectrum_25 rfl rfl ?_
      obtain ⟨x5, e_x5, e⟩ := mBind e
      refine mGo.getR (n := 29) dX8_rowSpectrum_26 sf_RX8_20 e_x5 rfl ?_
      refine mGo.iload (n := 31) (x := v4) dX8_rowSpectrum_29 rfl rfl ?_
      obtain ⟨x6, e_x6, e⟩ := mBind e
      refine mGo.iald (n := 32) dX8_rowSpectrum_31 e_x6 rfl ?_
      refine mGo.ineg (n := 33) dX8_rowSpectrum_32 rfl ?_
      refine mGo.goto (tgt := 43) dX8_rowSpectrum_33 (by decide) ?_
      refine mGo.mk [true, true, true, false, true] ?_
      exact g_X8_rowSpectrum_c43 v0 v1 v2 v4 v3 (-x6) h e q
noncomputable def f_X8_rowSpectrum_l5 (v0 : Option Nat) (v1 : Option Nat) (v2 : Int32) (v3 : Int32) (v4 : Int32) (h : mH) : Option (Int32) :=
  mLoop (fun x : Int32 × Int32 => f_X8_rowSpectrum_b5 v0 v1 v2 x.1 x.2 h) (v3, v4)
set_option maxRecDepth 100000 in
set_option maxHeartbeats 4000000 in
theorem g_X8_rowSpectrum_l5 {w : mWp} {Q : Option Value → mH → Prop} (v0 : Option Nat) (v1 : Option Nat) (v2 : Int32) (v3 : Int32) (v4 : Int32) (h : mH) {res : Int32} (e : f_X8_rowSpectrum_l5 v0 v1 v2 v3 v4 h = some res) (q : (fun r : Int32 => Q (some (.int r)) h) res) : mGo w kX8_rowSpectrum 0 0 5 [some (va_rf v0), some (va_rf v1), some (.int v2), some (.int v3), some (.int v4)] [] h Q := by
  unfold f_X8_rowSpectrum_l5 at e
  refine mLoop_go (x := (v3, v4)) (fun x : Int32 × Int32 => mGo w kX8_rowSpectrum 0 0 5 [some (va_rf v0), some (va_rf v1), some (.int v2), some (.int x.1), some (.int x.2)] [] h Q) (fun r : Int32 => Q (some (.int r)) h) ?_ e q
  rintro ⟨v3, v4⟩ res e q
  exact g_X8_rowSpectrum_b5 v0 v1 v2 v3 v4 h e q
noncomputable def f_X8_rowSpectrum (v0 : Option Nat) (v1 : Option Nat) (v2 : Int32) (h : mH) : Option (Int32) :=
  (mIs h v0 7).bind fun _ =>
  f_X8_rowSpectrum_l5 v0 v1 v2 (0 : Int32) (0 : Int32) h
set_option maxRecDepth 100000 in
set_option maxHeartbeats 4000000 in
theorem g_X8_rowSpectrum {w : mWp} {Q : Option Value → mH → Prop} (v0 : Option Nat) (v1 : Option Nat) (v2 : Int32) (h : mH) {res : Int32} (e : f_X8_rowSpectrum v0 v1 v2 h = some res) (q : (fun r : Int32 => Q (some (.int r)) h) res) : mGo w kX8_rowSpectrum 0 0 0 [some (va_rf v0), some (va_rf v1), some (.int v2), none, none] [] h Q := by
  unfold f_X8_rowSpectrum at e
  obtain ⟨_, _, e⟩ := mBind e
  refine mGo.iconst (n := 1) (v := (0 : Int32)) dX8_rowSpectrum_0 (by decide) rfl ?_
  refine mGo.istore_n (n := 2) (ls' := [some (va_rf v0), some (va_rf v1), some (.int v2), some (.int (0 : Int32)), none]) dX8_rowSpectrum_1 rfl (Nat.le_of_ble_eq_true rfl) rfl ?_
  refine mGo.iconst (n := 3) (v := (0 : Int32)) dX8_rowSpectrum_2 (by decide) rfl ?_
  refine mGo.istore (n := 5) (ls' := [some (va_rf v0), some (va_rf v1), some (.int v2), some (.int (0 : Int32)), some (.int (0 : Int32))]) dX8_rowSpectrum_3 rfl (Nat.le_of_ble_eq_true rfl) rfl ?_
  refine mGo.mk [true, true, true, true, true] ?_
  exact g_X8_rowSpectrum_l5 v0 v1 v2 (0 : Int32) (0 : Int32) h e q
theorem e_X8_rowSpectrum {w : mWp} (v0 : Option Nat) (v1 : Option Nat) (v2 : Int32) (h : mH) {res : Int32} (e : f_X8_rowSpectrum v0 v1 v2 h = some res) : mEx w zX8_rowSpectrum (mRoom 3 0 0) [va_rf v0, va_rf v1, .int v2] h (fun r h2 => r = some (.int res) ∧ h2 = h) := by
  refine mEx.of (by decide +kernel) (show mEnt [va_rf v0, va_rf v1, .int v2] 5 = [some (va_rf v0), some (va_rf v1), some (.int v2), none, none] by rw [mEnt_r, mEnt_r, mEnt_i] <;> rfl) (by simp only [List.map_cons, List.map_nil, mRfc, mCi, mCj, List.sum_cons, List.sum_nil]; exact Nat.le_of_ble_eq_true rfl) ?_
  refine g_X8_rowSpectrum v0 v1 v2 h e ?_
  exact ⟨rfl, rfl⟩
theorem s_X8_rowSpectrum (v0 : Option Nat) (v1 : Option Nat) (v2 : Int32) (h : mH) {res : Int32} (e : f_X8_rowSpectrum v0 v1 v2 h = some res) : mIs h v0 7 = some () := by
  unfold f_X8_rowSpectrum at e
  obtain ⟨u, e1, _⟩ := mBind e
  cases u
  exact e1
-- X8_spectrum
def kX8_spectrum : mK := (cX8_spectrum, RX8, 8, some (.int), "spectrum", mRoom 4 0 0)
def zX8_spectrum : mY := (yX8_spectrum, cX8_spectrum, 8, some (.int))
set_option maxRecDepth 100000 in
theorem sc_RX8_271 : mSV RX8 271 zX8_rowSpectrum 2 7 := ⟨Or.inl (mT_at 748 (by decide +kernel) rfl), mT_at 750 (by decide +kernel) rfl, mT_at 36 (by decide +kernel) rfl, mT_at 83 (by decide +kernel) rfl, mT_at 751 (by decide +kernel) rfl, ⟨by decide +kernel, by decide +kernel, by decide +kernel⟩, by decide, rfl⟩
def f_X8_spectrum_c21 (h : mH) : Option (Int32) :=
  some (-1000000000 : Int32)
set_option maxRecDepth 100000 in
set_option maxHeartbeats 4000000 in
theorem g_X8_spectrum_c21 {w : mWp} {Q : Option Value → mH → Prop}  (h : mH) {res : Int32} (e : f_X8_spectrum_c21 h = some res) (q : (fun r : Int32 => Q (some (.int r)) h) res) : mGo w kX8_spectrum 0 0 21 [none, none, none, none, none, none, none, none] [] h Q := by
  unfold f_X8_spectrum_c21 at e
  refine mGo.ldc_w (n := 24) (v := (-1000000000 : Int32)) dX8_spectrum_21 (mT_at 747 (by decide +kernel) rfl) rfl ?_
  cases e
  exact mGo.iret dX8_spectrum_24 rfl (Nat.le_of_ble_eq_true rfl) (Nat.le_of_ble_eq_true rfl) q
def f_X8_spectrum_c84 (v0 : Option Nat) (v2 : Int32) (v4 : Option Nat) (v6 : Int32) (s0 : Int32) (s1 : Int32) (h : mH) : Option ((Int32 × Int32) ⊕ (Int32)) :=
  some (Sum.inl ((s0 + s1), (v6 + 1)))
set_option maxRecDepth 100000 in
set_option maxHeartbeats 4000000 in
theorem g_X8_spectrum_c84 {w : mWp} {Q : Option Value → mH → Prop} (v0 : Option Nat) (v2 : Int32) (v4 : Option Nat) (v6 : Int32) (s0 : Int32) (s1 : Int32) (h : mH) {res : (Int32 × Int32) ⊕ (Int32)} (e : f_X8_spectrum_c84 v0 v2 v4 v6 s0 s1 h = some res) (q : (Sum.elim (fun x : Int32 × Int32 => mGo w kX8_spectrum 0 0 43 [some (va_rf v0), none, some (.int v2), none, some (va_rf v4), some (.int x.1), some (.int x.2), none] [] h Q) (fun r : Int32 => Q (some (.int r)) h)) res) : mGo w kX8_spectrum 0 0 84 [some (va_rf v0), none, some (.int v2), none, some (va_rf v4), none, some (.int v6), none] [.int s1, .int s0] h Q := by
  unfold f_X8_spectrum_c84 at e
  refine mGo.iadd (n := 85) dX8_spectrum_84 rfl ?_
  refine mGo.istore (n := 87) (ls' := [some (va_rf v0), none, some (.int v2), none, some (va_rf v4), some (.int (s0 + s1)), some (.int v6), none]) dX8_spectrum_85 ((mSt_set (fun u _ hu => by cases hu; exact mRfc _)).trans rfl) (Nat.le_of_ble_eq_true rfl) rfl ?_
  refine mGo.iinc (n := 90) (x := v6) (v := (v6 + 1)) (ls' := [some (va_rf v0), none, some (.int v2), none, some (va_rf v4), some (.int (s0 + s1)), some (.int (v6 + 1)), none]) dX8_spectrum_87 rfl rfl rfl (Nat.le_of_ble_eq_true rfl) rfl ?_
  refine mGo.goto (tgt := 43) dX8_spectrum_90 (by decide) ?_
  cases e
  refine mGo.mk [true, false, true, false, true, true, true, false] ?_
  exact q
noncomputable def f_X8_spectrum_b43 (v0 : Option Nat) (v2 : Int32) (v4 : Option Nat) (v5 : Int32) (v6 : Int32) (h : mH) : Option ((Int32 × Int32) ⊕ (Int32)) :=
  (mGI h v4 6 0).bind fun x1 =>
  if x1 ≤ v6 then
    some (Sum.inr v5)
  else
    (f_X8_rowSpectrum v0 v4 v6 h).bind fun x2 =>
    (f_X7_isMinus v4 v6 v2 h).bind fun x3 =>
    if x3 = 0 then
      f_X8_spectrum_c84 v0 v2 v4 v6 v5 x2 h
    else
      f_X8_spectrum_c84 v0 v2 v4 v6 v5 (-x2) h
set_option maxRecDepth 100000 in
set_option maxHeartbeats 4000000 in
theorem g_X8_spectrum_b43 {w : mWp} {Q : Option Value → mH → Prop} (v0 : Option Nat) (v2 : Int32) (v4 : Option Nat) (v5 : Int32) (v6 : Int32) (h : mH) {res : (Int32 × Int32) ⊕ (Int32)} (e : f_X8_spectrum_b43 v0 v2 v4 v5 v6 h = some res) (q : (Sum.elim (fun x : Int32 × Int32 => mGo w kX8_spectrum 0 0 43 [some (va_rf v0), none, some (.int v2), none, some (va_rf v4), some (.int x.1), some (.int x.2), none] [] h Q) (fun r : Int32 => Q (some (.int r)) h)) res) : mGo w kX8_spectrum 0 0 43 [some (va_rf v0), none, some (.int v2), none, some (va_rf v4), some (.int v5), some (.int v6), none] [] h Q := by
  unfold f_X8_spectrum_b43 at e
  refine mGo.iload (n := 45) (x := v6) dX8_spectrum_43 rfl rfl ?_
  refine mGo.aload (n := 47) (r := v4) dX8_spectrum_45 rfl rfl ?_
  obtain ⟨x1, e_x1, e⟩ := mBind e
  refine mGo.getI (n := 50) dX8_spectrum_47 sf_RX8_122 e_x1 rfl ?_
  refine mGo.icmp_ge (tgt := 93) (n := 53) dX8_spectrum_50 (by decide) rfl (fun hc => ?_) (fun hc => ?_)
  · replace e := mIft hc e
    refine mGo.iload (n := 95) (x := v5) dX8_spectrum_93 rfl rfl ?_
    cases e
    exact mGo.iret dX8_spectrum_95 rfl (Nat.le_of_ble_eq_true rfl) (Nat.le_of_ble_eq_true rfl) q
  · replace e := mIff hc e
    refine mGo.aload_n (n := 54) (r := v0) dX8_spectrum_53 rfl rfl ?_
    refine mGo.aload (n := 56) (r := v4) dX8_spectrum_54 rfl rfl ?_
    refine mGo.iload (n := 58) (x := v6) dX8_spectrum_56 rfl rfl ?_
    obtain ⟨x2, e_x2, e⟩ := mBind e
    refine mGo.callV (n := 61) (y := zX8_rowSpectrum) (R' := (mRoom (3) 0 0)) (as := [va_rf v4, .int v6]) (st := []) (r0 := v0) dX8_spectrum_58 sc_RX8_271 rfl (s_X8_rowSpectrum v0 v4 v6 h e_x2) (e_X8_rowSpectrum v0 v4 v6 h e_x2) (mFit_of rfl (Nat.le_of_ble_eq_true rfl) (by decide) (Nat.le_of_ble_eq_true rfl) (Nat.le_of_ble_eq_true rfl)) (Nat.le_of_ble_eq_true rfl) rfl rfl ?_
    intro _ _ hq
    rw [hq.1, hq.2]
    show mGo w kX8_spectrum 0 0 61 [some (va_rf v0), none, some (.int v2), none, some (va_rf v4), some (.int v5), some (.int v6), none] [.int x2] h Q
    refine mGo.istore (n := 63) (ls' := [some (va_rf v0), none, some (.int v2), none, some (va_rf v4), some (.int v5), some (.int v6), some (.int x2)]) dX8_spectrum_61 rfl (Nat.le_of_ble_eq_true rfl) rfl ?_
    refine mGo.iload (n := 65) (x := v5) dX8_spectrum_63 rfl rfl ?_
    refine mGo.aload (n := 67) (r := v4) dX8_spectrum_65 rfl rfl ?_
    refine mGo.iload (n := 69) (x := v6) dX8_spectrum_67 rfl rfl ?_
    refine mGo.iload_n (n := 70) (x := v2) dX8_spectrum_69 rfl rfl ?_
    obtain ⟨x3, e_x3, e⟩ := mBind e
    refine mGo.callV (n := 73) (y := zX7_isMinus) (R' := (mRoom (2) 0 0)) (as := [.int v6, .int v2]) (st := [.int v5]) (r0 := v4) dX8_spectrum_70 sc_RX8_168 rfl (s_X7_isMinus v4 v6 v2 h e_x3) (e_X7_isMinus v4 v6 v2 h e_x3) (mFit_of rfl (Nat.le_of_ble_eq_true rfl) (by decide) (Nat.le_of_ble_eq_true rfl) (Nat.le_of_ble_eq_true rfl)) (Nat.le_of_ble_eq_true rfl) rfl rfl ?_
    intro _ _ hq
    rw [hq.1, hq.2]
    show mGo w kX8_spectrum 0 0 73 [some (va_rf v0), none, some (.int v2), none, some (va_rf v4), some (.int v5), some (.int v6), some (.int x2)] [.int x3, .int v5] h Q
    refine mGo.if_eq (tgt := 82) (n := 76) dX8_spectrum_73 (by decide) rfl (fun hc => ?_) (fun hc => ?_)
    · replace e := mIft hc e
      refine mGo.iload (n := 84) (x := x2) dX8_spectrum_82 rfl rfl ?_
      refine mGo.mk [true, false, true, false, true, false, true, false] ?_
      exact g_X8_spectrum_c84 v0 v2 v4 v6 v5 x2 h e q
    · replace e := mIff hc e
      refine mGo.iload (n := 78) (x := x2) dX8_spectrum_76 rfl rfl ?_
      refine mGo.ineg (n := 79) dX8_spectrum_78 rfl ?_
      refine mGo.goto (tgt := 84) dX8_spectrum_79 (by decide) ?_
      refine mGo.mk [true, false, true, false, true, false, true, false] ?_
      exact g_X8_spectrum_c84 v0 v2 v4 v6 v5 (-x2) h e q
noncomputable def f_X8_spectrum_l43 (v0 : Option Nat) (v2 : Int32) (v4 : Option Nat) (v5 : Int32) (v6 : Int32) (h : mH) : Option (Int32) :=
  mLoop (fun x : Int32 × Int32 => f_X8_spectrum_b43 v0 v2 v4 x.1 x.2 h) (v5, v6)
set_option maxRecDepth 100000 in
set_option maxHeartbeats 4000000 in
theorem g_X8_spectrum_l43 {w : mWp} {Q : Option Value → mH → Prop} (v0 : Option Nat) (v2 : Int32) (v4 : Option Nat) (v5 : Int32) (v6 : Int32) (h : mH) {res : Int32} (e : f_X8_spectrum_l43 v0 v2 v4 v5 v6 h = some res) (q : (fun r : Int32 => Q (some (.int r)) h) res) : mGo w kX8_spectrum 0 0 43 [some (va_rf v0), none, some (.int v2), none, some (va_rf v4), some (.int v5), some (.int v6), none] [] h Q := by
  unfold f_X8_spectrum_l43 at e
  refine mLoop_go (x := (v5, v6)) (fun x : Int32 × Int32 => mGo w kX8_spectrum 0 0 43 [some (va_rf v0), none, some (.int v2), none, some (va_rf v4), some (.int x.1), some (.int x.2), none] [] h Q) (fun r : Int32 => Q (some (.int r)) h) ?_ e q
  rintro ⟨v5, v6⟩ res e q
  exact g_X8_spectrum_b43 v0 v2 v4 v5 v6 h e q
noncomputable def f_X8_spectrum (v0 : Option Nat) (v1 : Int32) (v2 : Int32) (v3 : Int32) (h : mH) : Option (Int32) :=
  (mIs h v0 7).bind fun _ =>
  (f_X8_tableAt v0 v1 h).bind fun x1 =>
  if x1 = none then
    f_X8_spectrum_c21 h
  else
    (f_X7_has x1 v2 h).bind fun x2 =>
    if x2 = 0 then
      f_X8_spectrum_c21 h
    else
      if v3 = 0 then
        (f_X8_rowSpectrum v0 x1 v2 h).bind fun x3 =>
        some x3
      else
        f_X8_spectrum_l43 v0 v2 x1 (0 : Int32) (0 : Int32) h
set_option maxRecDepth 100000 in
set_option maxHeartbeats 4000000 in
theorem g_X8_spectrum {w : mWp} {Q : Option Value → mH → Prop} (v0 : Option Nat) (v1 : Int32) (v2 : Int32) (v3 : Int32) (h : mH) {res : Int32} (e : f_X8_spectrum v0 v1 v2 v3 h = some res) (q : (fun r : Int32 => Q (some (.int r)) h) res) : mGo w kX8_spectrum 0 0 0 [some (va_rf v0), some (.int v1), some (.int v2), some (.int v3), none, none, none, none] [] h Q := by
  unfold f_X8_spectrum at e
  obtain ⟨_, _, e⟩ := mBind e
  refine mGo.aload_n (n := 1) (r := v0) dX8_spectrum_0 rfl rfl ?_
  refine mGo.iload_n (n := 2) (x := v1) dX8_spectrum_1 rfl rfl ?_
  obtain ⟨x1, e_x1, e⟩ := mBind e
  refine mGo.callV (n := 5) (y := zX8_tableAt) (R' := (mRoom (1) 0 0)) (as := [.int v1]) (st := []) (r0 := v0) dX8_spectrum_2 sc_RX8_118 rfl (s_X8_tableAt v0 v1 h e_x1) (e_X8_tableAt v0 v1 h e_x1) (mFit_of rfl (Nat.le_of_ble_eq_true rfl) (by decide) (Nat.le_of_ble_eq_true rfl) (Nat.le_of_ble_eq_true rfl)) (Nat.le_of_ble_eq_true rfl) rfl rfl ?_
  intro _ _ hq
  rw [hq.1, hq.2]
  show mGo w kX8_spectrum 0 0 5 [some (va_rf v0), some (.int v1), some (.int v2), some (.int v3), none, none, none, none] [va_rf x1] h Q
  refine mGo.astore (n := 7) (ls' := [some (va_rf v0), some (.int v1), some (.int v2), some (.int v3), some (va_rf x1), none, none, none]) dX8_spectrum_5 rfl (Nat.le_of_ble_eq_true rfl) rfl ?_
  refine mGo.aload (n := 9) (r := x1) dX8_spectrum_7 rfl rfl ?_
  refine mGo.ifnull (tgt := 21) (n := 12) dX8_spectrum_9 (by decide) rfl (fun hc => ?_) (fun hc => ?_)
  · replace e := mIft hc e
    refine mGo.mk [false, false, false, false, false, false, false, false] ?_
    exact g_X8_spectrum_c21 h e q
  · replace e := mIff hc e
    refine mGo.aload (n := 14) (r := x1) dX8_spectrum_12 rfl rfl ?_
    refine mGo.iload_n (n := 15) (x := v2) dX8_spectrum_14 rfl rfl ?_
    obtain ⟨x2, e_x2, e⟩ := mBind e
    refine mGo.callV (n := 18) (y := zX7_has) (R' := (mRoom (1) 0 0)) (as := [.int v2]) (st := []) (r0 := x1) dX8_spectrum_15 sc_RX8_150 rfl (s_X7_has x1 v2 h e_x2) (e_X7_has x1 v2 h e_x2) (mFit_of rfl (Nat.le_of_ble_eq_true rfl) (by decide) (Nat.le_of_ble_eq_true rfl) (Nat.le_of_ble_eq_true rfl)) (Nat.le_of_ble_eq_true rfl) rfl rfl ?_
    intro _ _ hq
    rw [hq.1, hq.2]
    show mGo w kX8_spectrum 0 0 18 [some (va_rf v0), some (.int v1), some (.int v2), some (.int v3), some (va_rf x1), none, none, none] [.int x2] h Q
    refine mGo.if_ne (tgt := 25) (n := 21) dX8_spectrum_18 (by decide) rfl (fun hc => ?_) (fun hc => ?_)
    · replace e := mIff hc e
      refine mGo.iload_n (n := 26) (x := v3) dX8_spectrum_25 rfl rfl ?_
      refine mGo.if_ne (tgt := 37) (n := 29) dX8_spectrum_26 (by decide) rfl (fun hc => ?_) (fun hc => ?_)
      · replace e := mIff hc e
        refine mGo.iconst (n := 38) (v := (0 : Int32)) dX8_spectrum_37 (by decide) rfl ?_
        refine mGo.istore (n := 40) (ls' := [some (va_rf v0), some (.int v1), some (.int v2), some (.int v3), some (va_rf x1), some (.int (0 : Int32)), none, none]) dX8_spectrum_38 ((mSt_set (fun u _ hu => by cases hu; exact mRfc _)).trans rfl) (Nat.le_of_ble_eq_true rfl) rfl ?_
        refine mGo.iconst (n := 41) (v := (0 : Int32)) dX8_spectrum_40 (by decide) rfl ?_
        refine mGo.istore (n := 43) (ls' := [some (va_rf v0), some (.int v1), some (.int v2), some (.int v3), some (va_rf x1), some (.int (0 : Int32)), some (.int (0 : Int32)), none]) dX8_spectrum_41 rfl (Nat.le_of_ble_eq_true rfl) rfl ?_
        refine mGo.mk [true, false, true, false, true, true, true, false] ?_
        exact g_X8_spectrum_l43 v0 v2 x1 (0 : Int32) (0 : Int32) h e q
      · replace e := mIft hc e
        refine mGo.aload_n (n := 30) (r := v0) dX8_spectrum_29 rfl rfl ?_
        refine mGo.aload (n := 32) (r := x1) dX8_spectrum_30 rfl rfl ?_
        refine mGo.iload_n (n := 33) (x := v2) dX8_spectrum_32 rfl rfl ?_
        obtain ⟨x3, e_x3, e⟩ := mBind e
        refine mGo.callV (n := 36) (y := zX8_rowSpectrum) (R' := (mRoom (3) 0 0)) (as := [va_rf x1, .int v2]) (st := []) (r0 := v0) dX8_spectrum_33 sc_RX8_271 rfl (s_X8_rowSpectrum v0 x1 v2 h e_x3) (e_X8_rowSpectrum v0 x1 v2 h e_x3) (mFit_of rfl (Nat.le_of_ble_eq_true rfl) (by decide) (Nat.le_of_ble_eq_true rfl) (Nat.le_of_ble_eq_true rfl)) (Nat.le_of_ble_eq_true rfl) rfl rfl ?_
        intro _ _ hq
        rw [hq.1, hq.2]
        show mGo w kX8_spectrum 0 0 36 [some (va_rf v0), some (.int v1), some (.int v2), some (.int v3), some (va_rf x1), none, none, none] [.int x3] h Q
        cases e
        exact mGo.iret dX8_spectrum_36 rfl (Nat.le_of_ble_eq_true rfl) (Nat.le_of_ble_eq_true rfl) q
    · replace e := mIft hc e
      refine mGo.mk [false, false, false, false, false, false, false, false] ?_
      exact g_X8_spectrum_c21 h e q
theorem e_X8_spectrum {w : mWp} (v0 : Option Nat) (v1 : Int32) (v2 : Int32) (v3 : Int32) (h : mH) {res : Int32} (e : f_X8_spectrum v0 v1 v2 v3 h = some res) : mEx w zX8_spectrum (mRoom 4 0 0) [va_rf v0, .int v1, .int v2, .int v3] h (fun r h2 => r = some (.int res) ∧ h2 = h) := by
  refine mEx.of (by decide +kernel) (show mEnt [va_rf v0, .int v1, .int v2, .int v3] 8 = [some (va_rf v0), some (.int v1), some (.int v2), some (.int v3), none, none, none, none] by rw [mEnt_r, mEnt_i, mEnt_i, mEnt_i] <;> rfl) (by simp only [List.map_cons, List.map_nil, mRfc, mCi, mCj, List.sum_cons, List.sum_nil]; exact Nat.le_of_ble_eq_true rfl) ?_
  refine g_X8_spectrum v0 v1 v2 v3 h e ?_
  exact ⟨rfl, rfl⟩
theorem s_X8_spectrum (v0 : Option Nat) (v1 : Int32) (v2 : Int32) (v3 : Int32) (h : mH) {res : Int32} (e : f_X8_spectrum v0 v1 v2 v3 h = some res) : mIs h v0 7 = some () := by
  unfold f_X8_spectrum at e
  obtain ⟨u, e1, _⟩ := mBind e
  cases u
  exact e1
-- X8_field
def kX8_field : mK := (cX8_field, RX8, 5, some (.int), "field", mRoom 5 0 0)
def zX8_field : mY := (yX8_field, cX8_field, 5, some (.int))
set_option maxRecDepth 100000 in
theorem sc_RX8_275 : mSS RX8 275 zX2_total 3 := ⟨Or.inr ⟨_, mNest_at 674 (x := Cond.methodLinkNest RX8 275 yX2_total "SignTables") (by decide +kernel) rfl⟩, mT_at 757 (by decide +kernel) rfl, mT_at 93 (by decide +kernel) rfl, mT_at 758 (by decide +kernel) rfl, ⟨by decide +kernel, by decide +kernel, by decide +kernel⟩⟩
set_option maxRecDepth 100000 in
theorem sc_RX8_278 : mSS RX8 278 zX2_times 3 := ⟨Or.inr ⟨_, mNest_at 677 (x := Cond.methodLinkNest RX8 278 yX2_times "SignTables") (by decide +kernel) rfl⟩, mT_at 353 (by decide +kernel) rfl, mT_at 93 (by decide +kernel) rfl, mT_at 354 (by decide +kernel) rfl, ⟨by decide +kernel, by decide +kernel, by decide +kernel⟩⟩
noncomputable def f_X8_field (v0 : Option Nat) (v1 : Int32) (v2 : Int32) (v3 : Int32) (v4 : Int32) (h : mH) : Option (Int32) :=
  (mIs h v0 7).bind fun _ =>
  (f_X2_prime v1).bind fun x1 =>
  if x1 = 0 then
    some (-1 : Int32)
  else
    if v2 < 0 then
      some (-1 : Int32)
    else
      if v1 ≤ v2 then
        some (-1 : Int32)
      else
        if v3 < 0 then
          some (-1 : Int32)
        else
          if v3 < v1 then
            if v4 = 0 then
              (f_X2_total v1 v2 v3).bind fun x3 =>
              some x3
            else
            if v4 = 1 then
              (f_X2_times v1 v2 v3).bind fun x5 =>
              some x5
            else
            if v4 = 2 then
              (f_X2_difference v1 v2 v3).bind fun x7 =>
              some x7
            else
            if v4 = 3 then
              (f_X2_squares v1).bind fun x9 =>
              (f_X8_inSet x9 v2).bind fun x10 =>
              if x10 = 0 then
                some (0 : Int32)
              else
                some (1 : Int32)
            else
            some (-1 : Int32)
          else
            some (-1 : Int32)
set_option maxRecDepth 100000 in
set_option maxHeartbeats 4000000 in
theorem g_X8_field {w : mWp} {Q : Option Value → mH → Prop} (v0 : Option Nat) (v1 : Int32) (v2 : Int32) (v3 : Int32) (v4 : Int32) (h : mH) {res : Int32} (e : f_X8_field v0 v1 v2 v3 v4 h = some res) (q : (fun r : Int32 => Q (some (.int r)) h) res) : mGo w kX8_field 0 0 0 [some (va_rf v0), some (.int v1), some (.int v2), some (.int v3), some (.int v4)] [] h Q := by
  unfold f_X8_field at e
  obtain ⟨_, _, e⟩ := mBind e
  refine mGo.iload_n (n := 1) (x := v1) dX8_field_0 rfl rfl ?_
  obtain ⟨x1, e_x1, e⟩ := mBind e
  refine mGo.callS (n := 4) (y := zX2_prime) (R' := (mRoom (1) 0 0)) (as := [.int v1]) (st := []) dX8_field_1 sc_RX8_85 rfl (e_X2_prime v1 h e_x1) (mFit_of rfl (Nat.le_of_ble_eq_true rfl) (by decide) (Nat.le_of_ble_eq_true rfl) (Nat.le_of_ble_eq_true rfl)) (Nat.le_of_ble_eq_true rfl) rfl rfl ?_
  intro _ _ hq
  rw [hq.1, hq.2]
  show mGo w kX8_field 0 0 4 [some (va_rf v0), some (.int v1), some (.int v2), some (.int v3), some (.int v4)] [.int x1] h Q
  refine mGo.if_eq (tgt := 25) (n := 7) dX8_field_4 (by decide) rfl (fun hc => ?_) (fun hc => ?_)
  · replace e := mIft hc e
    refine mGo.iconst (n := 26) (v := (-1 : Int32)) dX8_field_25 (by decide) rfl ?_
    cases e
    exact mGo.iret dX8_field_26 rfl (Nat.le_of_ble_eq_true rfl) (Nat.le_of_ble_eq_true rfl) q
  · replace e := mIff hc e
    refine mGo.iload_n (n := 8) (x := v2) dX8_field_7 rfl rfl ?_
    refine mGo.if_lt (tgt := 25) (n := 11) dX8_field_8 (by decide) rfl (fun hc => ?_) (fun hc => ?_)
    · replace e := mIft hc e
      refine mGo.iconst (n := 26) (v := (-1 : Int32)) dX8_field_25 (by decide) rfl ?_
      cases e
      exact mGo.iret dX8_field_26 rfl (Nat.le_of_ble_eq_true rfl) (Nat.le_of_ble_eq_true rfl) q
    · replace e := mIff hc e
      refine mGo.iload_n (n := 12) (x := v2) dX8_field_11 rfl rfl ?_
      refine mGo.iload_n (n := 13) (x := v1) dX8_field_12 rfl rfl ?_
      refine mGo.icmp_ge (tgt := 25) (n := 16) dX8_field_13 (by decide) rfl (fun hc => ?_) (fun hc => ?_)
      · replace e := mIft hc e
        refine mGo.iconst (n := 26) (v := (-1 : Int32)) dX8_field_25 (by decide) rfl ?_
        cases e
        exact mGo.iret dX8_field_26 rfl (Nat.le_of_ble_eq_true rfl) (Nat.le_of_ble_eq_true rfl) q
      · replace e := mIff hc e
        refine mGo.iload_n (n := 17) (x := v3) dX8_field_16 rfl rfl ?_
        refine mGo.if_lt (tgt := 25) (n := 20) dX8_field_17 (by decide) rfl (fun hc => ?_) (fun hc => ?_)
        · replace e := mIft hc e
          refine mGo.iconst (n := 26) (v := (-1 : Int32)) dX8_field_25 (by decide) rfl ?_
          cases e
          exact mGo.iret dX8_field_26 rfl (Nat.le_of_ble_eq_true rfl) (Nat.le_of_ble_eq_true rfl) q
        · replace e := mIff hc e
          refine mGo.iload_n (n := 21) (x := v3) dX8_field_20 rfl rfl ?_
          refine mGo.iload_n (n := 22) (x := v1) dX8_field_21 rfl rfl ?_
          refine mGo.icmp_lt (tgt := 27) (n := 25) dX8_field_22 (by decide) rfl (fun hc => ?_) (fun hc => ?_)
          · replace e := mIft hc e
            refine mGo.iload (n := 29) (x := v4) dX8_field_27 rfl rfl ?_
            by_cases hc2 : v4 = 0
            · replace e := mIft hc2 e
              refine mGo.tcase (v := 0) (tgt := 60) hc2 dX8_field_29 (by decide) (by decide) (off := 31) (by decide) (by decide) ?_
              refine mGo.iload_n (n := 61) (x := v1) dX8_field_60 rfl rfl ?_
              refine mGo.iload_n (n := 62) (x := v2) dX8_field_61 rfl rfl ?_
              refine mGo.iload_n (n := 63) (x := v3) dX8_field_62 rfl rfl ?_
              obtain ⟨x3, e_x3, e⟩ := mBind e
              refine mGo.callS (n := 66) (y := zX2_total) (R' := (mRoom (3) 0 0)) (as := [.int v1, .int v2, .int v3]) (st := []) dX8_field_63 sc_RX8_275 rfl (e_X2_total v1 v2 v3 h e_x3) (mFit_of rfl (Nat.le_of_ble_eq_true rfl) (by decide) (Nat.le_of_ble_eq_true rfl) (Nat.le_of_ble_eq_true rfl)) (Nat.le_of_ble_eq_true rfl) rfl rfl ?_
              intro _ _ hq
              rw [hq.1, hq.2]
              show mGo w kX8_field 0 0 66 [some (va_rf v0), some (.int v1), some (.int v2), some (.int v3), some (.int v4)] [.int x3] h Q
              cases e
              exact mGo.iret dX8_field_66 rfl (Nat.le_of_ble_eq_true rfl) (Nat.le_of_ble_eq_true rfl) q
            replace e := mIff hc2 e
            by_cases hc4 : v4 = 1
            · replace e := mIft hc4 e
              refine mGo.tcase (v := 1) (tgt := 67) hc4 dX8_field_29 (by decide) (by decide) (off := 38) (by decide) (by decide) ?_
              refine mGo.iload_n (n := 68) (x := v1) dX8_field_67 rfl rfl ?_
              refine mGo.iload_n (n := 69) (x := v2) dX8_field_68 rfl rfl ?_
              refine mGo.iload_n (n := 70) (x := v3) dX8_field_69 rfl rfl ?_
              obtain ⟨x5, e_x5, e⟩ := mBind e
              refine mGo.callS (n := 73) (y := zX2_times) (R' := (mRoom (3) 0 0)) (as := [.int v1, .int v2, .int v3]) (st := []) dX8_field_70 sc_RX8_278 rfl (e_X2_times v1 v2 v3 h e_x5) (mFit_of rfl (Nat.le_of_ble_eq_true rfl) (by decide) (Nat.le_of_ble_eq_true rfl) (Nat.le_of_ble_eq_true rfl)) (Nat.le_of_ble_eq_true rfl) rfl rfl ?_
              intro _ _ hq
              rw [hq.1, hq.2]
              show mGo w kX8_field 0 0 73 [some (va_rf v0), some (.int v1), some (.int v2), some (.int v3), some (.int v4)] [.int x5] h Q
              cases e
              exact mGo.iret dX8_field_73 rfl (Nat.le_of_ble_eq_true rfl) (Nat.le_of_ble_eq_true rfl) q
            replace e := mIff hc4 e
            by_cases hc6 : v4 = 2
            · replace e := mIft hc6 e
              refine mGo.tcase (v := 2) (tgt := 74) hc6 dX8_field_29 (by decide) (by decide) (off := 45) (by decide) (by decide) ?_
              refine mGo.iload_n (n := 75) (x := v1) dX8_field_74 rfl rfl ?_
              refine mGo.iload_n (n := 76) (x := v2) dX8_field_75 rfl rfl ?_
              refine mGo.iload_n (n := 77) (x := v3) dX8_field_76 rfl rfl ?_
              obtain ⟨x7, e_x7, e⟩ := mBind e
              refine mGo.callS (n := 80) (y := zX2_difference) (R' := (mRoom (3) 0 0)) (as := [.int v1, .int v2, .int v3]) (st := []) dX8_field_77 sc_RX8_102 rfl (e_X2_difference v1 v2 v3 h e_x7) (mFit_of rfl (Nat.le_of_ble_eq_true rfl) (by decide) (Nat.le_of_ble_eq_true rfl) (Nat.le_of_ble_eq_true rfl)) (Nat.le_of_ble_eq_true rfl) rfl rfl ?_
              intro _ _ hq
              rw [hq.1, hq.2]
              show mGo w kX8_field 0 0 80 [some (va_rf v0), some (.int v1), some (.int v2), some (.int v3), some (.int v4)] [.int x7] h Q
              cases e
              exact mGo.iret dX8_field_80 rfl (Nat.le_of_ble_eq_true rfl) (Nat.le_of_ble_eq_true rfl) q
            replace e := mIff hc6 e
            by_cases hc8 : v4 = 3
            · replace e := mIft hc8 e
              refine mGo.tcase (v := 3) (tgt := 81) hc8 dX8_field_29 (by decide) (by decide) (off := 52) (by decide) (by decide) ?_
              refine mGo.iload_n (n := 82) (x := v1) dX8_field_81 rfl rfl ?_
              obtain ⟨x9, e_x9, e⟩ := mBind e
              refine mGo.callS (n := 85) (y := zX2_squares) (R' := (mRoom (4) 0 0)) (as := [.int v1]) (st := []) dX8_field_82 sc_RX8_95 rfl (e_X2_squares v1 h e_x9) (mFit_of rfl (Nat.le_of_ble_eq_true rfl) (by decide) (Nat.le_of_ble_eq_true rfl) (Nat.le_of_ble_eq_true rfl)) (Nat.le_of_ble_eq_true rfl) rfl rfl ?_
              intro _ _ hq
              rw [hq.1, hq.2]
              show mGo w kX8_field 0 0 85 [some (va_rf v0), some (.int v1), some (.int v2), some (.int v3), some (.int v4)] [.int x9] h Q
              refine mGo.iload_n (n := 86) (x := v2) dX8_field_85 rfl rfl ?_
              obtain ⟨x10, e_x10, e⟩ := mBind e
              refine mGo.callS (n := 89) (y := zX8_inSet) (R' := (mRoom (1) 0 0)) (as := [.int x9, .int v2]) (st := []) dX8_field_86 sc_RX8_106 rfl (e_X8_inSet x9 v2 h e_x10) (mFit_of rfl (Nat.le_of_ble_eq_true rfl) (by decide) (Nat.le_of_ble_eq_true rfl) (Nat.le_of_ble_eq_true rfl)) (Nat.le_of_ble_eq_true rfl) rfl rfl ?_
              intro _ _ hq
              rw [hq.1, hq.2]
              show mGo w kX8_field 0 0 89 [some (va_rf v0), some (.int v1), some (.int v2), some (.int v3), some (.int v4)] [.int x10] h Q
              refine mGo.if_eq (tgt := 96) (n := 92) dX8_field_89 (by decide) rfl (fun hc => ?_) (fun hc => ?_)
              · replace e := mIft hc e
                refine mGo.iconst (n := 97) (v := (0 : Int32)) dX8_field_96 (by decide) rfl ?_
                cases e
                exact mGo.iret dX8_field_97 rfl (Nat.le_of_ble_eq_true rfl) (Nat.le_of_ble_eq_true rfl) q
              · replace e := mIff hc e
                refine mGo.iconst (n := 93) (v := (1 : Int32)) dX8_field_92 (by decide) rfl ?_
                refine mGo.goto (tgt := 97) dX8_field_93 (by decide) ?_
                cases e
                exact mGo.iret dX8_field_97 rfl (Nat.le_of_ble_eq_true rfl) (Nat.le_of_ble_eq_true rfl) q
            replace e := mIff hc8 e
            refine mGo.tdef (tgt := 98) [0, 1, 2, 3] dX8_field_29 (List.forall_mem_cons.mpr ⟨hc2, (List.forall_mem_cons.mpr ⟨hc4, (List.forall_mem_cons.mpr ⟨hc6, (List.forall_mem_cons.mpr ⟨hc8, (fun _ hm => absurd hm List.not_mem_nil)⟩)⟩)⟩)⟩) (by decide) (by decide +kernel) (by decide) ?_
            refine mGo.iconst (n := 99) (v := (-1 : Int32)) dX8_field_98 (by decide) rfl ?_
            cases e
            exact mGo.iret dX8_field_99 rfl (Nat.le_of_ble_eq_true rfl) (Nat.le_of_ble_eq_true rfl) q
          · replace e := mIff hc e
            refine mGo.iconst (n := 26) (v := (-1 : Int32)) dX8_field_25 (by decide) rfl ?_
            cases e
            exact mGo.iret dX8_field_26 rfl (Nat.le_of_ble_eq_true rfl) (Nat.le_of_ble_eq_true rfl) q
theorem e_X8_field {w : mWp} (v0 : Option Nat) (v1 : Int32) (v2 : Int32) (v3 : Int32) (v4 : Int32) (h : mH) {res : Int32} (e : f_X8_field v0 v1 v2 v3 v4 h = some res) : mEx w zX8_field (mRoom 5 0 0) [va_rf v0, .int v1, .int v2, .int v3, .int v4] h (fun r h2 => r = some (.int res) ∧ h2 = h) := by
  refine mEx.of (by decide +kernel) (show mEnt [va_rf v0, .int v1, .int v2, .int v3, .int v4] 5 = [some (va_rf v0), some (.int v1), some (.int v2), some (.int v3), some (.int v4)] by rw [mEnt_r, mEnt_i, mEnt_i, mEnt_i, mEnt_i] <;> rfl) (by simp only [List.map_cons, List.map_nil, mRfc, mCi, mCj, List.sum_cons, List.sum_nil]; exact Nat.le_of_ble_eq_true rfl) ?_
  refine g_X8_field v0 v1 v2 v3 v4 h e ?_
  exact ⟨rfl, rfl⟩
theorem s_X8_field (v0 : Option Nat) (v1 : Int32) (v2 : Int32) (v3 : Int32) (v4 : Int32) (h : mH) {res : Int32} (e : f_X8_field v0 v1 v2 v3 v4 h = some res) : mIs h v0 7 = some () := by
  unfold f_X8_field at e
  obtain ⟨u, e1, _⟩ := mBind e
  cases u
  exact e1
-- X8_fours
def kX8_fours : mK := (cX8_fours, RX8, 4, some (.int), "fours", mRoom 6 0 0)
def zX8_fours : mY := (yX8_fours, cX8_fours, 4, some (.int))
set_option maxRecDepth 100000 in
theorem sc_RX8_281 : mSV RX8 281 zX5_search 2 4 := ⟨Or.inr ⟨_, mNest_at 682 (x := Cond.methodLinkNest RX8 281 yX5_search "SignTables") (by decide +kernel) rfl⟩, mT_at 766 (by decide +kernel) rfl, mT_at 37 (by decide +kernel) rfl, mT_at 90 (by decide +kernel) rfl, mT_at 767 (by decide +kernel) rfl, ⟨by decide +kernel, by decide +kernel, by decide +kernel⟩, by decide, rfl⟩
set_option maxRecDepth 100000 in
theorem sf_RX8_284 : mFld RX8 284 4 3 := ⟨by decide, by decide, Or.inr ⟨_, mNest_at 180 (x := Cond.fieldLinkNest RX8 284 (mCR 4) (mCT 4 3).2.1 (mCT 4 3).2.2.1 "SignTables") (by decide +kernel) rfl⟩⟩
noncomputable def f_X8_fours_c23 (v0 : Option Nat) (v1 : Int32) (v2 : Int32) (v3 : Int32) (h : mH) : Option (Int32 × mH) :=
  if v2 = (-1 : Int32) then
    if v3 = 0 then
      (mGR h v0 7 10).bind fun x6 =>
      (f_X5_search x6 v1 (-1 : Int32) h).bind fun x7 =>
      some (x7.1, x7.2)
    else
      some ((-1 : Int32), h)
  else
    if v2 < 0 then
      some ((-1 : Int32), h)
    else
      if v3 < 0 then
        some ((-1 : Int32), h)
      else
        if (3 : Int32) < v3 then
          some ((-1 : Int32), h)
        else
          (mGR h v0 7 10).bind fun x1 =>
          (f_X5_search x1 v1 v2 h).bind fun x2 =>
          if v2 < x2.1 then
            (mGR x2.2 v0 7 10).bind fun x3 =>
            (mGR x2.2 x3 4 3).bind fun x4 =>
            (mAI x2.2 x4 v3).bind fun x5 =>
            some (x5, x2.2)
          else
            some ((-1 : Int32), x2.2)
set_option maxRecDepth 100000 in
set_option maxHeartbeats 4000000 in
theorem g_X8_fours_c23 {w : mWp} {Q : Option Value → mH → Prop} (v0 : Option Nat) (v1 : Int32) (v2 : Int32) (v3 : Int32) (h : mH) {res : Int32 × mH} (e : f_X8_fours_c23 v0 v1 v2 v3 h = some res) (q : (fun r : Int32 × mH => Q (some (.int r.1)) r.2) res) : mGo w kX8_fours 0 0 23 [some (va_rf v0), some (.int v1), some (.int v2), some (.int v3)] [] h Q := by
  unfold f_X8_fours_c23 at e
  refine mGo.iload_n (n := 24) (x := v2) dX8_fours_23 rfl rfl ?_
  refine mGo.iconst (n := 25) (v := (-1 : Int32)) dX8_fours_24 (by decide) rfl ?_
  refine mGo.icmp_ne (tgt := 46) (n := 28) dX8_fours_25 (by decide) rfl (fun hc => ?_) (fun hc => ?_)
  · replace e := mIff hc e
    refine mGo.iload_n (n := 47) (x := v2) dX8_fours_46 rfl rfl ?_
    refine mGo.if_lt (tgt := 72) (n := 50) dX8_fours_47 (by decide) rfl (fun hc => ?_) (fun hc => ?_)
    · replace e := mIft hc e
      refine mGo.iconst (n := 73) (v := (-1 : Int32)) dX8_fours_72 (by decide) rfl ?_
      cases e
      exact mGo.iret dX8_fours_73 rfl (Nat.le_of_ble_eq_true rfl) (Nat.le_of_ble_eq_true rfl) q
    · replace e := mIff hc e
      refine mGo.iload_n (n := 51) (x := v3) dX8_fours_50 rfl rfl ?_
      refine mGo.if_lt (tgt := 72) (n := 54) dX8_fours_51 (by decide) rfl (fun hc => ?_) (fun hc => ?_)
      · replace e := mIft hc e
        refine mGo.iconst (n := 73) (v := (-1 : Int32)) dX8_fours_72 (by decide) rfl ?_
        cases e
        exact mGo.iret dX8_fours_73 rfl (Nat.le_of_ble_eq_true rfl) (Nat.le_of_ble_eq_true rfl) q
      · replace e := mIff hc e
        refine mGo.iload_n (n := 55) (x := v3) dX8_fours_54 rfl rfl ?_
        refine mGo.iconst (n := 56) (v := (3 : Int32)) dX8_fours_55 (by decide) rfl ?_
        refine mGo.icmp_gt (tgt := 72) (n := 59) dX8_fours_56 (by decide) rfl (fun hc => ?_) (fun hc => ?_)
        · replace e := mIft hc e
          refine mGo.iconst (n := 73) (v := (-1 : Int32)) dX8_fours_72 (by decide) rfl ?_
          cases e
          exact mGo.iret dX8_fours_73 rfl (Nat.le_of_ble_eq_true rfl) (Nat.le_of_ble_eq_true rfl) q
        · replace e := mIff hc e
          refine mGo.aload_n (n := 60) (r := v0) dX8_fours_59 rfl rfl ?_
          obtain ⟨x1, e_x1, e⟩ := mBind e
          refine mGo.getR (n := 63) dX8_fours_60 sf_RX8_64 e_x1 rfl ?_
          refine mGo.iload_n (n := 64) (x := v1) dX8_fours_63 rfl rfl ?_
          refine mGo.iload_n (n := 65) (x := v2) dX8_fours_64 rfl rfl ?_
          obtain ⟨x2, e_x2, e⟩ := mBind e
          refine mGo.callV (n := 68) (y := zX5_search) (R' := (mRoom (5) 0 0)) (as := [.int v1, .int v2]) (st := []) (r0 := x1) dX8_fours_65 sc_RX8_281 rfl (s_X5_search x1 v1 v2 h e_x2) (e_X5_search x1 v1 v2 h e_x2) (mFit_of rfl (Nat.le_of_ble_eq_true rfl) (by decide) (Nat.le_of_ble_eq_true rfl) (Nat.le_of_ble_eq_true rfl)) (Nat.le_of_ble_eq_true rfl) rfl rfl ?_
          intro _ _ hq
          rw [hq.1, hq.2]
          show mGo w kX8_fours 0 0 68 [some (va_rf v0), some (.int v1), some (.int v2), some (.int v3)] [.int x2.1] x2.2 Q
          refine mGo.iload_n (n := 69) (x := v2) dX8_fours_68 rfl rfl ?_
          refine mGo.icmp_gt (tgt := 74) (n := 72) dX8_fours_69 (by decide) rfl (fun hc => ?_) (fun hc => ?_)
          · replace e := mIft hc e
            refine mGo.aload_n (n := 75) (r := v0) dX8_fours_74 rfl rfl ?_
            obtain ⟨x3, e_x3, e⟩ := mBind e
            refine mGo.getR (n := 78) dX8_fours_75 sf_RX8_64 e_x3 rfl ?_
            obtain ⟨x4, e_x4, e⟩ := mBind e
            refine mGo.getR (n := 81) dX8_fours_78 sf_RX8_284 e_x4 rfl ?_
            refine mGo.iload_n (n := 82) (x := v3) dX8_fours_81 rfl rfl ?_
            obtain ⟨x5, e_x5, e⟩ := mBind e
            refine mGo.iald (n := 83) dX8_fours_82 e_x5 rfl ?_
            cases e
            exact mGo.iret dX8_fours_83 rfl (Nat.le_of_ble_eq_true rfl) (Nat.le_of_ble_eq_true rfl) q
          · replace e := mIff hc e
            refine mGo.iconst (n := 73) (v := (-1 : Int32)) dX8_fours_72 (by decide) rfl ?_
            cases e
            exact mGo.iret dX8_fours_73 rfl (Nat.le_of_ble_eq_true rfl) (Nat.le_of_ble_eq_true rfl) q
  · replace e := mIft hc e
    refine mGo.iload_n (n := 29) (x := v3) dX8_fours_28 rfl rfl ?_
    refine mGo.if_ne (tgt := 44) (n := 32) dX8_fours_29 (by decide) rfl (fun hc => ?_) (fun hc => ?_)
    · replace e := mIff hc e
      refine mGo.iconst (n := 45) (v := (-1 : Int32)) dX8_fours_44 (by decide) rfl ?_
      cases e
      exact mGo.iret dX8_fours_45 rfl (Nat.le_of_ble_eq_true rfl) (Nat.le_of_ble_eq_true rfl) q
    · replace e := mIft hc e
      refine mGo.aload_n (n := 33) (r := v0) dX8_fours_32 rfl rfl ?_
      obtain ⟨x6, e_x6, e⟩ := mBind e
      refine mGo.getR (n := 36) dX8_fours_33 sf_RX8_64 e_x6 rfl ?_
      refine mGo.iload_n (n := 37) (x := v1) dX8_fours_36 rfl rfl ?_
      refine mGo.iconst (n := 38) (v := (-1 : Int32)) dX8_fours_37 (by decide) rfl ?_
      obtain ⟨x7, e_x7, e⟩ := mBind e
      refine mGo.callV (n := 41) (y := zX5_search) (R' := (mRoom (5) 0 0)) (as := [.int v1, .int (-1 : Int32)]) (st := []) (r0 := x6) dX8_fours_38 sc_RX8_281 rfl (s_X5_search x6 v1 (-1 : Int32) h e_x7) (e_X5_search x6 v1 (-1 : Int32) h e_x7) (mFit_of rfl (Nat.le_of_ble_eq_true rfl) (by decide) (Nat.le_of_ble_eq_true rfl) (Nat.le_of_ble_eq_true rfl)) (Nat.le_of_ble_eq_true rfl) rfl rfl ?_
      intro _ _ hq
      rw [hq.1, hq.2]
      show mGo w kX8_fours 0 0 41 [some (va_rf v0), some (.int v1), some (.int v2), some (.int v3)] [.int x7.1] x7.2 Q
      refine mGo.goto (tgt := 45) dX8_fours_41 (by decide) ?_
      cases e
      exact mGo.iret dX8_fours_45 rfl (Nat.le_of_ble_eq_true rfl) (Nat.le_of_ble_eq_true rfl) q
noncomputable def f_X8_fours (v0 : Option Nat) (v1 : Int32) (v2 : Int32) (v3 : Int32) (h : mH) : Option (Int32 × mH) :=
  (mIs h v0 7).bind fun _ =>
  if v1 = (1 : Int32) then
    f_X8_fours_c23 v0 v1 v2 v3 h
  else
    if v1 = (3 : Int32) then
      f_X8_fours_c23 v0 v1 v2 v3 h
    else
      if v1 = (5 : Int32) then
        f_X8_fours_c23 v0 v1 v2 v3 h
      else
        if v1 = (7 : Int32) then
          f_X8_fours_c23 v0 v1 v2 v3 h
        else
          some ((-1 : Int32), h)
set_option maxRecDepth 100000 in
set_option maxHeartbeats 4000000 in
theorem g_X8_fours {w : mWp} {Q : Option Value → mH → Prop} (v0 : Option Nat) (v1 : Int32) (v2 : Int32) (v3 : Int32) (h : mH) {res : Int32 × mH} (e : f_X8_fours v0 v1 v2 v3 h = some res) (q : (fun r : Int32 × mH => Q (some (.int r.1)) r.2) res) : mGo w kX8_fours 0 0 0 [some (va_rf v0), some (.int v1), some (.int v2), some (.int v3)] [] h Q := by
  unfold f_X8_fours at e
  obtain ⟨_, _, e⟩ := mBind e
  refine mGo.iload_n (n := 1) (x := v1) dX8_fours_0 rfl rfl ?_
  refine mGo.iconst (n := 2) (v := (1 : Int32)) dX8_fours_1 (by decide) rfl ?_
  refine mGo.icmp_eq (tgt := 23) (n := 5) dX8_fours_2 (by decide) rfl (fun hc => ?_) (fun hc => ?_)
  · replace e := mIft hc e
    refine mGo.mk [true, true, true, true] ?_
    exact g_X8_fours_c23 v0 v1 v2 v3 h e q
  · replace e := mIff hc e
    refine mGo.iload_n (n := 6) (x := v1) dX8_fours_5 rfl rfl ?_
    refine mGo.iconst (n := 7) (v := (3 : Int32)) dX8_fours_6 (by decide) rfl ?_
    refine mGo.icmp_eq (tgt := 23) (n := 10) dX8_fours_7 (by decide) rfl (fun hc => ?_) (fun hc => ?_)
    · replace e := mIft hc e
      refine mGo.mk [true, true, true, true] ?_
      exact g_X8_fours_c23 v0 v1 v2 v3 h e q
    · replace e := mIff hc e
      refine mGo.iload_n (n := 11) (x := v1) dX8_fours_10 rfl rfl ?_
      refine mGo.iconst (n := 12) (v := (5 : Int32)) dX8_fours_11 (by decide) rfl ?_
      refine mGo.icmp_eq (tgt := 23) (n := 15) dX8_fours_12 (by decide) rfl (fun hc => ?_) (fun hc => ?_)
      · replace e := mIft hc e
        refine mGo.mk [true, true, true, true] ?_
        exact g_X8_fours_c23 v0 v1 v2 v3 h e q
      · replace e := mIff hc e
        refine mGo.iload_n (n := 16) (x := v1) dX8_fours_15 rfl rfl ?_
        refine mGo.bipush (n := 18) (v := (7 : Int32)) dX8_fours_16 (by decide) rfl ?_
        refine mGo.icmp_eq (tgt := 23) (n := 21) dX8_fours_18 (by decide) rfl (fun hc => ?_) (fun hc => ?_)
        · replace e := mIft hc e
          refine mGo.mk [true, true, true, true] ?_
          exact g_X8_fours_c23 v0 v1 v2 v3 h e q
        · replace e := mIff hc e
          refine mGo.iconst (n := 22) (v := (-1 : Int32)) dX8_fours_21 (by decide) rfl ?_
          cases e
          exact mGo.iret dX8_fours_22 rfl (Nat.le_of_ble_eq_true rfl) (Nat.le_of_ble_eq_true rfl) q
theorem e_X8_fours {w : mWp} (v0 : Option Nat) (v1 : Int32) (v2 : Int32) (v3 : Int32) (h : mH) {res : Int32 × mH} (e : f_X8_fours v0 v1 v2 v3 h = some res) : mEx w zX8_fours (mRoom 6 0 0) [va_rf v0, .int v1, .int v2, .int v3] h (fun r h2 => r = some (.int res.1) ∧ h2 = res.2) := by
  refine mEx.of (by decide +kernel) (show mEnt [va_rf v0, .int v1, .int v2, .int v3] 4 = [some (va_rf v0), some (.int v1), some (.int v2), some (.int v3)] by rw [mEnt_r, mEnt_i, mEnt_i, mEnt_i] <;> rfl) (by simp only [List.map_cons, List.map_nil, mRfc, mCi, mCj, List.sum_cons, List.sum_nil]; exact Nat.le_of_ble_eq_true rfl) ?_
  refine g_X8_fours v0 v1 v2 v3 h e ?_
  exact ⟨rfl, rfl⟩
theorem s_X8_fours (v0 : Option Nat) (v1 : Int32) (v2 : Int32) (v3 : Int32) (h : mH) {res : Int32 × mH} (e : f_X8_fours v0 v1 v2 v3 h = some res) : mIs h v0 7 = some () := by
  unfold f_X8_fours at e
  obtain ⟨u, e1, _⟩ := mBind e
  cases u
  exact e1
-- X8_filledPlaces
def kX8_filledPlaces : mK := (cX8_filledPlaces, RX8, 3, some (.int), "filledPlaces", mRoom 1 0 0)
def zX8_filledPlaces : mY := (yX8_filledPlaces, cX8_filledPlaces, 3, some (.int))
def f_X8_filledPlaces_b4 (v0 : Option Nat) (v1 : Int32) (v2 : Int32) (h : mH) : Option ((Int32 × Int32) ⊕ (Int32)) :=
  if (6 : Int32) ≤ v2 then
    some (Sum.inr v1)
  else
    (mGR h v0 7 0).bind fun x1 =>
    (mAR h x1 v2).bind fun x2 =>
    (mGI h x2 6 0).bind fun x3 =>
    if x3 ≤ 0 then
      some (Sum.inl (v1, (v2 + 1)))
    else
      some (Sum.inl ((v1 ||| ((1 : Int32) <<< (v2 &&& 31))), (v2 + 1)))
set_option maxRecDepth 100000 in
set_option maxHeartbeats 4000000 in
theorem g_X8_filledPlaces_b4 {w : mWp} {Q : Option Value → mH → Prop} (v0 : Option Nat) (v1 : Int32) (v2 : Int32) (h : mH) {res : (Int32 × Int32) ⊕ (Int32)} (e : f_X8_filledPlaces_b4 v0 v1 v2 h = some res) (q : (Sum.elim (fun x : Int32 × Int32 => mGo w kX8_filledPlaces 0 0 4 [some (va_rf v0), some (.int x.1), some (.int x.2)] [] h Q) (fun r : Int32 => Q (some (.int r)) h)) res) : mGo w kX8_filledPlaces 0 0 4 [some (va_rf v0), some (.int v1), some (.int v2)] [] h Q := by
  unfold f_X8_filledPlaces_b4 at e
  refine mGo.iload_n (n := 5) (x := v2) dX8_filledPlaces_4 rfl rfl ?_
  refine mGo.bipush (n := 7) (v := (6 : Int32)) dX8_filledPlaces_5 (by decide) rfl ?_
  refine mGo.icmp_ge (tgt := 34) (n := 10) dX8_filledPlaces_7 (by decide) rfl (fun hc => ?_) (fun hc => ?_)
  · replace e := mIft hc e
    refine mGo.iload_n (n := 35) (x := v1) dX8_filledPlaces_34 rfl rfl ?_
    cases e
    exact mGo.iret dX8_filledPlaces_35 rfl (Nat.le_of_ble_eq_true rfl) (Nat.le_of_ble_eq_true rfl) q
  · replace e := mIff hc e
    refine mGo.aload_n (n := 11) (r := v0) dX8_filledPlaces_10 rfl rfl ?_
    obtain ⟨x1, e_x1, e⟩ := mBind e
    refine mGo.getR (n := 14) dX8_filledPlaces_11 sf_RX8_11 e_x1 rfl ?_
    refine mGo.iload_n (n := 15) (x := v2) dX8_filledPlaces_14 rfl rfl ?_
    obtain ⟨x2, e_x2, e⟩ := mBind e
    refine mGo.aald (n := 16) dX8_filledPlaces_15 e_x2 rfl ?_
    obtain ⟨x3, e_x3, e⟩ := mBind e
    refine mGo.getI (n := 19) dX8_filledPlaces_16 sf_RX8_122 e_x3 rfl ?_
    refine mGo.if_le (tgt := 28) (n := 22) dX8_filledPlaces_19 (by decide) rfl (fun hc => ?_) (fun hc => ?_)
    · replace e := mIft hc e
      refine mGo.iinc (n := 31) (x := v2) (v := (v2 + 1)) (ls' := [some (va_rf v0), some (.int v1), some (.int (v2 + 1))]) dX8_filledPlaces_28 rfl rfl rfl (Nat.le_of_ble_eq_true rfl) rfl ?_
      refine mGo.goto (tgt := 4) dX8_filledPlaces_31 (by decide) ?_
      cases e
      refine mGo.mk [true, true, true] ?_
      exact q
    · replace e := mIff hc e
      refine mGo.iload_n (n := 23) (x := v1) dX8_filledPlaces_22 rfl rfl ?_
      refine mGo.iconst (n := 24) (v := (1 : Int32)) dX8_filledPlaces_23 (by decide) rfl ?_
      refine mGo.iload_n (n := 25) (x := v2) dX8_filledPlaces_24 rfl rfl ?_
      refine mGo.ishl (n := 26) dX8_filledPlaces_25 rfl ?_
      refine mGo.ior (n := 27) dX8_filledPlaces_26 rfl ?_
      refine mGo.istore_n (n := 28) (ls' := [some (va_rf v0), some (.int (v1 ||| ((1 : Int32) <<< (v2 &&& 31)))), some (.int v2)]) dX8_filledPlaces_27 ((mSt_set (fun u _ hu => by cases hu; exact mRfc _)).trans rfl) (Nat.le_of_ble_eq_true rfl) rfl ?_
      refine mGo.iinc (n := 31) (x := v2) (v := (v2 + 1)) (ls' := [some (va_rf v0), some (.int (v1 ||| ((1 : Int32) <<< (v2 &&& 31)))), some (.int (v2 + 1))]) dX8_filledPlaces_28 rfl rfl rfl (Nat.le_of_ble_eq_true rfl) rfl ?_
      refine mGo.goto (tgt := 4) dX8_filledPlaces_31 (by decide) ?_
      cases e
      refine mGo.mk [true, true, true] ?_
      exact q
noncomputable def f_X8_filledPlaces_l4 (v0 : Option Nat) (v1 : Int32) (v2 : Int32) (h : mH) : Option (Int32) :=
  mLoop (fun x : Int32 × Int32 => f_X8_filledPlaces_b4 v0 x.1 x.2 h) (v1, v2)
set_option maxRecDepth 100000 in
set_option maxHeartbeats 4000000 in
theorem g_X8_filledPlaces_l4 {w : mWp} {Q : Option Value → mH → Prop} (v0 : Option Nat) (v1 : Int32) (v2 : Int32) (h : mH) {res : Int32} (e : f_X8_filledPlaces_l4 v0 v1 v2 h = some res) (q : (fun r : Int32 => Q (some (.int r)) h) res) : mGo w kX8_filledPlaces 0 0 4 [some (va_rf v0), some (.int v1), some (.int v2)] [] h Q := by
  unfold f_X8_filledPlaces_l4 at e
  refine mLoop_go (x := (v1, v2)) (fun x : Int32 × Int32 => mGo w kX8_filledPlaces 0 0 4 [some (va_rf v0), some (.int x.1), some (.int x.2)] [] h Q) (fun r : Int32 => Q (some (.int r)) h) ?_ e q
  rintro ⟨v1, v2⟩ res e q
  exact g_X8_filledPlaces_b4 v0 v1 v2 h e q
noncomputable def f_X8_filledPlaces (v0 : Option Nat) (h : mH) : Option (Int32) :=
  (mIs h v0 7).bind fun _ =>
  f_X8_filledPlaces_l4 v0 (0 : Int32) (0 : Int32) h
set_option maxRecDepth 100000 in
set_option maxHeartbeats 4000000 in
theorem g_X8_filledPlaces {w : mWp} {Q : Option Value → mH → Prop} (v0 : Option Nat) (h : mH) {res : Int32} (e : f_X8_filledPlaces v0 h = some res) (q : (fun r : Int32 => Q (some (.int r)) h) res) : mGo w kX8_filledPlaces 0 0 0 [some (va_rf v0), none, none] [] h Q := by
  unfold f_X8_filledPlaces at e
  obtain ⟨_, _, e⟩ := mBind e
  refine mGo.iconst (n := 1) (v := (0 : Int32)) dX8_filledPlaces_0 (by decide) rfl ?_
  refine mGo.istore_n (n := 2) (ls' := [some (va_rf v0), some (.int (0 : Int32)), none]) dX8_filledPlaces_1 ((mSt_set (fun u _ hu => by cases hu; exact mRfc _)).trans rfl) (Nat.le_of_ble_eq_true rfl) rfl ?_
  refine mGo.iconst (n := 3) (v := (0 : Int32)) dX8_filledPlaces_2 (by decide) rfl ?_
  refine mGo.istore_n (n := 4) (ls' := [some (va_rf v0), some (.int (0 : Int32)), some (.int (0 : Int32))]) dX8_filledPlaces_3 rfl (Nat.le_of_ble_eq_true rfl) rfl ?_
  refine mGo.mk [true, true, true] ?_
  exact g_X8_filledPlaces_l4 v0 (0 : Int32) (0 : Int32) h e q
theorem e_X8_filledPlaces {w : mWp} (v0 : Option Nat) (h : mH) {res : Int32} (e : f_X8_filledPlaces v0 h = some res) : mEx w zX8_filledPlaces (mRoom 1 0 0) [va_rf v0] h (fun r h2 => r = some (.int res) ∧ h2 = h) := by
  refine mEx.of (by decide +kernel) (show mEnt [va_rf v0] 3 = [some (va_rf v0), none, none] by rw [mEnt_r] <;> rfl) (by simp only [List.map_cons, List.map_nil, mRfc, mCi, mCj, List.sum_cons, List.sum_nil]; exact Nat.le_of_ble_eq_true rfl) ?_
  refine g_X8_filledPlaces v0 h e ?_
  exact ⟨rfl, rfl⟩
theorem s_X8_filledPlaces (v0 : Option Nat) (h : mH) {res : Int32} (e : f_X8_filledPlaces v0 h = some res) : mIs h v0 7 = some () := by
  unfold f_X8_filledPlaces at e
  obtain ⟨u, e1, _⟩ := mBind e
  cases u
  exact e1
-- X8_perpendicularPlaces
def kX8_perpendicularPlaces : mK := (cX8_perpendicularPlaces, RX8, 3, some (.int), "perpendicularPlaces", mRoom 4 0 0)
def zX8_perpendicularPlaces : mY := (yX8_perpendicularPlaces, cX8_perpendicularPlaces, 3, some (.int))
noncomputable def f_X8_perpendicularPlaces_b4 (v0 : Option Nat) (v1 : Int32) (v2 : Int32) (h : mH) : Option ((Int32 × Int32) ⊕ (Int32)) :=
  if (6 : Int32) ≤ v2 then
    some (Sum.inr v1)
  else
    (mGR h v0 7 0).bind fun x1 =>
    (mAR h x1 v2).bind fun x2 =>
    (mGI h x2 6 0).bind fun x3 =>
    if x3 ≤ 0 then
      some (Sum.inl (v1, (v2 + 1)))
    else
      (mGR h v0 7 0).bind fun x4 =>
      (mAR h x4 v2).bind fun x5 =>
      (f_X7_firstSlantPair x5 h).bind fun x6 =>
      if x6 = (-2 : Int32) then
        some (Sum.inl ((v1 ||| ((1 : Int32) <<< (v2 &&& 31))), (v2 + 1)))
      else
        some (Sum.inl (v1, (v2 + 1)))
set_option maxRecDepth 100000 in
set_option maxHeartbeats 4000000 in
theorem g_X8_perpendicularPlaces_b4 {w : mWp} {Q : Option Value → mH → Prop} (v0 : Option Nat) (v1 : Int32) (v2 : Int32) (h : mH) {res : (Int32 × Int32) ⊕ (Int32)} (e : f_X8_perpendicularPlaces_b4 v0 v1 v2 h = some res) (q : (Sum.elim (fun x : Int32 × Int32 => mGo w kX8_perpendicularPlaces 0 0 4 [some (va_rf v0), some (.int x.1), some (.int x.2)] [] h Q) (fun r : Int32 => Q (some (.int r)) h)) res) : mGo w kX8_perpendicularPlaces 0 0 4 [some (va_rf v0), some (.int v1), some (.int v2)] [] h Q := by
  unfold f_X8_perpendicularPlaces_b4 at e
  refine mGo.iload_n (n := 5) (x := v2) dX8_perpendicularPlaces_4 rfl rfl ?_
  refine mGo.bipush (n := 7) (v := (6 : Int32)) dX8_perpendicularPlaces_5 (by decide) rfl ?_
  refine mGo.icmp_ge (tgt := 48) (n := 10) dX8_perpendicularPlaces_7 (by decide) rfl (fun hc => ?_) (fun hc => ?_)
  · replace e := mIft hc e
    refine mGo.iload_n (n := 49) (x := v1) dX8_perpendicularPlaces_48 rfl rfl ?_
    cases e
    exact mGo.iret dX8_perpendicularPlaces_49 rfl (Nat.le_of_ble_eq_true rfl) (Nat.le_of_ble_eq_true rfl) q
  · replace e := mIff hc e
    refine mGo.aload_n (n := 11) (r := v0) dX8_perpendicularPlaces_10 rfl rfl ?_
    obtain ⟨x1, e_x1, e⟩ := mBind e
    refine mGo.getR (n := 14) dX8_perpendicularPlaces_11 sf_RX8_11 e_x1 rfl ?_
    refine mGo.iload_n (n := 15) (x := v2) dX8_perpendicularPlaces_14 rfl rfl ?_
    obtain ⟨x2, e_x2, e⟩ := mBind e
    refine mGo.aald (n := 16) dX8_perpendicularPlaces_15 e_x2 rfl ?_
    obtain ⟨x3, e_x3, e⟩ := mBind e
    refine mGo.getI (n := 19) dX8_perpendicularPlaces_16 sf_RX8_122 e_x3 rfl ?_
    refine mGo.if_le (tgt := 42) (n := 22) dX8_perpendicularPlaces_19 (by decide) rfl (fun hc => ?_) (fun hc => ?_)
    · replace e := mIft hc e
      refine mGo.iinc (n := 45) (x := v2) (v := (v2 + 1)) (ls' := [some (va_rf v0), some (.int v1), some (.int (v2 + 1))]) dX8_perpendicularPlaces_42 rfl rfl rfl (Nat.le_of_ble_eq_true rfl) rfl ?_
      refine mGo.goto (tgt := 4) dX8_perpendicularPlaces_45 (by decide) ?_
      cases e
      refine mGo.mk [true, true, true] ?_
      exact q
    · replace e := mIff hc e
      refine mGo.aload_n (n := 23) (r := v0) dX8_perpendicularPlaces_22 rfl rfl ?_
      obtain ⟨x4, e_x4, e⟩ := mBind e
      refine mGo.getR (n := 26) dX8_perpendicularPlaces_23 sf_RX8_11 e_x4 rfl ?_
      refine mGo.iload_n (n := 27) (x := v2) dX8_perpendicularPlaces_26 rfl rfl ?_
      obtain ⟨x5, e_x5, e⟩ := mBind e
      refine mGo.aald (n := 28) dX8_perpendicularPlaces_27 e_x5 rfl ?_
      obtain ⟨x6, e_x6, e⟩ := mBind e
      refine mGo.callV (n := 31) (y := zX7_firstSlantPair) (R' := (mRoom (3) 0 0)) (as := []) (st := []) (r0 := x5) dX8_perpendicularPlaces_28 sc_RX8_189 rfl (s_X7_firstSlantPair x5 h e_x6) (e_X7_firstSlantPair x5 h e_x6) (mFit_of rfl (Nat.le_of_ble_eq_true rfl) (by decide) (Nat.le_of_ble_eq_true rfl) (Nat.le_of_ble_eq_true rfl)) (Nat.le_of_ble_eq_true rfl) rfl rfl ?_
      intro _ _ hq
      rw [hq.1, hq.2]
      show mGo w kX8_perpendicularPlaces 0 0 31 [some (va_rf v0), some (.int v1), some (.int v2)] [.int x6] h Q
      refine mGo.bipush (n := 33) (v := (-2 : Int32)) dX8_perpendicularPlaces_31 (by decide) rfl ?_
      refine mGo.icmp_ne (tgt := 42) (n := 36) dX8_perpendicularPlaces_33 (by decide) rfl (fun hc => ?_) (fun hc => ?_)
      · replace e := mIff hc e
        refine mGo.iinc (n := 45) (x := v2) (v := (v2 + 1)) (ls' := [some (va_rf v0), some (.int v1), some (.int (v2 + 1))]) dX8_perpendicularPlaces_42 rfl rfl rfl (Nat.le_of_ble_eq_true rfl) rfl ?_
        refine mGo.goto (tgt := 4) dX8_perpendicularPlaces_45 (by decide) ?_
        cases e
        refine mGo.mk [true, true, true] ?_
        exact q
      · replace e := mIft hc e
        refine mGo.iload_n (n := 37) (x := v1) dX8_perpendicularPlaces_36 rfl rfl ?_
        refine mGo.iconst (n := 38) (v := (1 : Int32)) dX8_perpendicularPlaces_37 (by decide) rfl ?_
        refine mGo.iload_n (n := 39) (x := v2) dX8_perpendicularPlaces_38 rfl rfl ?_
        refine mGo.ishl (n := 40) dX8_perpendicularPlaces_39 rfl ?_
        refine mGo.ior (n := 41) dX8_perpendicularPlaces_40 rfl ?_
        refine mGo.istore_n (n := 42) (ls' := [some (va_rf v0), some (.int (v1 ||| ((1 : Int32) <<< (v2 &&& 31)))), some (.int v2)]) dX8_perpendicularPlaces_41 ((mSt_set (fun u _ hu => by cases hu; exact mRfc _)).trans rfl) (Nat.le_of_ble_eq_true rfl) rfl ?_
        refine mGo.iinc (n := 45) (x := v2) (v := (v2 + 1)) (ls' := [some (va_rf v0), some (.int (v1 ||| ((1 : Int32) <<< (v2 &&& 31)))), some (.int (v2 + 1))]) dX8_perpendicularPlaces_42 rfl rfl rfl (Nat.le_of_ble_eq_true rfl) rfl ?_
        refine mGo.goto (tgt := 4) dX8_perpendicularPlaces_45 (by decide) ?_
        cases e
        refine mGo.mk [true, true, true] ?_
        exact q
noncomputable def f_X8_perpendicularPlaces_l4 (v0 : Option Nat) (v1 : Int32) (v2 : Int32) (h : mH) : Option (Int32) :=
  mLoop (fun x : Int32 × Int32 => f_X8_perpendicularPlaces_b4 v0 x.1 x.2 h) (v1, v2)
set_option maxRecDepth 100000 in
set_option maxHeartbeats 4000000 in
theorem g_X8_perpendicularPlaces_l4 {w : mWp} {Q : Option Value → mH → Prop} (v0 : Option Nat) (v1 : Int32) (v2 : Int32) (h : mH) {res : Int32} (e : f_X8_perpendicularPlaces_l4 v0 v1 v2 h = some res) (q : (fun r : Int32 => Q (some (.int r)) h) res) : mGo w kX8_perpendicularPlaces 0 0 4 [some (va_rf v0), some (.int v1), some (.int v2)] [] h Q := by
  unfold f_X8_perpendicularPlaces_l4 at e
  refine mLoop_go (x := (v1, v2)) (fun x : Int32 × Int32 => mGo w kX8_perpendicularPlaces 0 0 4 [some (va_rf v0), some (.int x.1), some (.int x.2)] [] h Q) (fun r : Int32 => Q (some (.int r)) h) ?_ e q
  rintro ⟨v1, v2⟩ res e q
  exact g_X8_perpendicularPlaces_b4 v0 v1 v2 h e q
noncomputable def f_X8_perpendicularPlaces (v0 : Option Nat) (h : mH) : Option (Int32) :=
  (mIs h v0 7).bind fun _ =>
  f_X8_perpendicularPlaces_l4 v0 (0 : Int32) (0 : Int32) h
set_option maxRecDepth 100000 in
set_option maxHeartbeats 4000000 in
theorem g_X8_perpendicularPlaces {w : mWp} {Q : Option Value → mH → Prop} (v0 : Option Nat) (h : mH) {res : Int32} (e : f_X8_perpendicularPlaces v0 h = some res) (q : (fun r : Int32 => Q (some (.int r)) h) res) : mGo w kX8_perpendicularPlaces 0 0 0 [some (va_rf v0), none, none] [] h Q := by
  unfold f_X8_perpendicularPlaces at e
  obtain ⟨_, _, e⟩ := mBind e
  refine mGo.iconst (n := 1) (v := (0 : Int32)) dX8_perpendicularPlaces_0 (by decide) rfl ?_
  refine mGo.istore_n (n := 2) (ls' := [some (va_rf v0), some (.int (0 : Int32)), none]) dX8_perpendicularPlaces_1 ((mSt_set (fun u _ hu => by cases hu; exact mRfc _)).trans rfl) (Nat.le_of_ble_eq_true rfl) rfl ?_
  refine mGo.iconst (n := 3) (v := (0 : Int32)) dX8_perpendicularPlaces_2 (by decide) rfl ?_
  refine mGo.istore_n (n := 4) (ls' := [some (va_rf v0), some (.int (0 : Int32)), some (.int (0 : Int32))]) dX8_perpendicularPlaces_3 rfl (Nat.le_of_ble_eq_true rfl) rfl ?_
  refine mGo.mk [true, true, true] ?_
  exact g_X8_perpendicularPlaces_l4 v0 (0 : Int32) (0 : Int32) h e q
theorem e_X8_perpendicularPlaces {w : mWp} (v0 : Option Nat) (h : mH) {res : Int32} (e : f_X8_perpendicularPlaces v0 h = some res) : mEx w zX8_perpendicularPlaces (mRoom 4 0 0) [va_rf v0] h (fun r h2 => r = some (.int res) ∧ h2 = h) := by
  refine mEx.of (by decide +kernel) (show mEnt [va_rf v0] 3 = [some (va_rf v0), none, none] by rw [mEnt_r] <;> rfl) (by simp only [List.map_cons, List.map_nil, mRfc, mCi, mCj, List.sum_cons, List.sum_nil]; exact Nat.le_of_ble_eq_true rfl) ?_
  refine g_X8_perpendicularPlaces v0 h e ?_
  exact ⟨rfl, rfl⟩
theorem s_X8_perpendicularPlaces (v0 : Option Nat) (h : mH) {res : Int32} (e : f_X8_perpendicularPlaces v0 h = some res) : mIs h v0 7 = some () := by
  unfold f_X8_perpendicularPlaces at e
  obtain ⟨u, e1, _⟩ := mBind e
  cases u
  exact e1
-- X8_count
def kX8_count : mK := (cX8_count, RX8, 2, some (.int), "count", mRoom 5 0 0)
def zX8_count : mY := (yX8_count, cX8_count, 2, some (.int))
set_option maxRecDepth 100000 in
theorem sc_RX8_287 : mSV RX8 287 zX8_filledPlaces 0 7 := ⟨Or.inl (mT_at 789 (by decide +kernel) rfl), mT_at 791 (by decide +kernel) rfl, mT_at 40 (by decide +kernel) rfl, mT_at 83 (by decide +kernel) rfl, mT_at 792 (by decide +kernel) rfl, ⟨by decide +kernel, by decide +kernel, by decide +kernel⟩, by decide, rfl⟩
set_option maxRecDepth 100000 in
theorem sc_RX8_290 : mSV RX8 290 zX8_perpendicularPlaces 0 7 := ⟨Or.inl (mT_at 793 (by decide +kernel) rfl), mT_at 795 (by decide +kernel) rfl, mT_at 41 (by decide +kernel) rfl, mT_at 83 (by decide +kernel) rfl, mT_at 796 (by decide +kernel) rfl, ⟨by decide +kernel, by decide +kernel, by decide +kernel⟩, by decide, rfl⟩
noncomputable def f_X8_count (v0 : Option Nat) (v1 : Int32) (h : mH) : Option (Int32) :=
  (mIs h v0 7).bind fun _ =>
  if v1 = 0 then
    (f_X8_filledPlaces v0 h).bind fun x2 =>
    (f_J6_bitCount_0f7a4 x2).bind fun x3 =>
    some x3
  else
  if v1 = 1 then
    (f_X8_filledPlaces v0 h).bind fun x5 =>
    some x5
  else
  if v1 = 2 then
    (mGI h v0 7 2).bind fun x7 =>
    some x7
  else
  if v1 = 3 then
    (f_X8_perpendicularPlaces v0 h).bind fun x9 =>
    some x9
  else
  some (-1 : Int32)
set_option maxRecDepth 100000 in
set_option maxHeartbeats 4000000 in
theorem g_X8_count {w : mWp} {Q : Option Value → mH → Prop} (v0 : Option Nat) (v1 : Int32) (h : mH) {res : Int32} (e : f_X8_count v0 v1 h = some res) (q : (fun r : Int32 => Q (some (.int r)) h) res) : mGo w kX8_count 0 0 0 [some (va_rf v0), some (.int v1)] [] h Q := by
  unfold f_X8_count at e
  obtain ⟨_, _, e⟩ := mBind e
  refine mGo.iload_n (n := 1) (x := v1) dX8_count_0 rfl rfl ?_
  by_cases hc1 : v1 = 0
  · replace e := mIft hc1 e
    refine mGo.tcase (v := 0) (tgt := 32) hc1 dX8_count_1 (by decide) (by decide) (off := 31) (by decide) (by decide) ?_
    refine mGo.aload_n (n := 33) (r := v0) dX8_count_32 rfl rfl ?_
    obtain ⟨x2, e_x2, e⟩ := mBind e
    refine mGo.callV (n := 36) (y := zX8_filledPlaces) (R' := (mRoom (1) 0 0)) (as := []) (st := []) (r0 := v0) dX8_count_33 sc_RX8_287 rfl (s_X8_filledPlaces v0 h e_x2) (e_X8_filledPlaces v0 h e_x2) (mFit_of rfl (Nat.le_of_ble_eq_true rfl) (by decide) (Nat.le_of_ble_eq_true rfl) (Nat.le_of_ble_eq_true rfl)) (Nat.le_of_ble_eq_true rfl) rfl rfl ?_
    intro _ _ hq
    rw [hq.1, hq.2]
    show mGo w kX8_count 0 0 36 [some (va_rf v0), some (.int v1)] [.int x2] h Q
    obtain ⟨x3, e_x3, e⟩ := mBind e
    refine mGo.callS (n := 39) (y := zJ6_bitCount_0f7a4) (R' := (mRoom (1) 0 0)) (as := [.int x2]) (st := []) dX8_count_36 sc_RX8_258 rfl (e_J6_bitCount_0f7a4 x2 h e_x3) (mFit_of rfl (Nat.le_of_ble_eq_true rfl) (by decide) (Nat.le_of_ble_eq_true rfl) (Nat.le_of_ble_eq_true rfl)) (Nat.le_of_ble_eq_true rfl) rfl rfl ?_
    intro _ _ hq
    rw [hq.1, hq.2]
    show mGo w kX8_count 0 0 39 [some (va_rf v0), some (.int v1)] [.int x3] h Q
    cases e
    exact mGo.iret dX8_count_39 rfl (Nat.le_of_ble_eq_true rfl) (Nat.le_of_ble_eq_true rfl) q
  replace e := mIff hc1 e
  by_cases hc4 : v1 = 1
  · replace e := mIft hc4 e
    refine mGo.tcase (v := 1) (tgt := 40) hc4 dX8_count_1 (by decide) (by decide) (off := 39) (by decide) (by decide) ?_
    refine mGo.aload_n (n := 41) (r := v0) dX8_count_40 rfl rfl ?_
    obtain ⟨x5, e_x5, e⟩ := mBind e
    refine mGo.callV (n := 44) (y := zX8_filledPlaces) (R' := (mRoom (1) 0 0)) (as := []) (st := []) (r0 := v0) dX8_count_41 sc_RX8_287 rfl (s_X8_filledPlaces v0 h e_x5) (e_X8_filledPlaces v0 h e_x5) (mFit_of rfl (Nat.le_of_ble_eq_true rfl) (by decide) (Nat.le_of_ble_eq_true rfl) (Nat.le_of_ble_eq_true rfl)) (Nat.le_of_ble_eq_true rfl) rfl rfl ?_
    intro _ _ hq
    rw [hq.1, hq.2]
    show mGo w kX8_count 0 0 44 [some (va_rf v0), some (.int v1)] [.int x5] h Q
    cases e
    exact mGo.iret dX8_count_44 rfl (Nat.le_of_ble_eq_true rfl) (Nat.le_of_ble_eq_true rfl) q
  replace e := mIff hc4 e
  by_cases hc6 : v1 = 2
  · replace e := mIft hc6 e
    refine mGo.tcase (v := 2) (tgt := 45) hc6 dX8_count_1 (by decide) (by decide) (off := 44) (by decide) (by decide) ?_
    refine mGo.aload_n (n := 46) (r := v0) dX8_count_45 rfl rfl ?_
    obtain ⟨x7, e_x7, e⟩ := mBind e
    refine mGo.getI (n := 49) dX8_count_46 sf_RX8_68 e_x7 rfl ?_
    cases e
    exact mGo.iret dX8_count_49 rfl (Nat.le_of_ble_eq_true rfl) (Nat.le_of_ble_eq_true rfl) q
  replace e := mIff hc6 e
  by_cases hc8 : v1 = 3
  · replace e := mIft hc8 e
    refine mGo.tcase (v := 3) (tgt := 50) hc8 dX8_count_1 (by decide) (by decide) (off := 49) (by decide) (by decide) ?_
    refine mGo.aload_n (n := 51) (r := v0) dX8_count_50 rfl rfl ?_
    obtain ⟨x9, e_x9, e⟩ := mBind e
    refine mGo.callV (n := 54) (y := zX8_perpendicularPlaces) (R' := (mRoom (4) 0 0)) (as := []) (st := []) (r0 := v0) dX8_count_51 sc_RX8_290 rfl (s_X8_perpendicularPlaces v0 h e_x9) (e_X8_perpendicularPlaces v0 h e_x9) (mFit_of rfl (Nat.le_of_ble_eq_true rfl) (by decide) (Nat.le_of_ble_eq_true rfl) (Nat.le_of_ble_eq_true rfl)) (Nat.le_of_ble_eq_true rfl) rfl rfl ?_
    intro _ _ hq
    rw [hq.1, hq.2]
    show mGo w kX8_count 0 0 54 [some (va_rf v0), some (.int v1)] [.int x9] h Q
    cases e
    exact mGo.iret dX8_count_54 rfl (Nat.le_of_ble_eq_true rfl) (Nat.le_of_ble_eq_true rfl) q
  replace e := mIff hc8 e
  refine mGo.tdef (tgt := 55) [0, 1, 2, 3] dX8_count_1 (List.forall_mem_cons.mpr ⟨hc1, (List.forall_mem_cons.mpr ⟨hc4, (List.forall_mem_cons.mpr ⟨hc6, (List.forall_mem_cons.mpr ⟨hc8, (fun _ hm => absurd hm List.not_mem_nil)⟩)⟩)⟩)⟩) (by decide) (by decide +kernel) (by decide) ?_
  refine mGo.iconst (n := 56) (v := (-1 : Int32)) dX8_count_55 (by decide) rfl ?_
  cases e
  exact mGo.iret dX8_count_56 rfl (Nat.le_of_ble_eq_true rfl) (Nat.le_of_ble_eq_true rfl) q
theorem e_X8_count {w : mWp} (v0 : Option Nat) (v1 : Int32) (h : mH) {res : Int32} (e : f_X8_count v0 v1 h = some res) : mEx w zX8_count (mRoom 5 0 0) [va_rf v0, .int v1] h (fun r h2 => r = some (.int res) ∧ h2 = h) := by
  refine mEx.of (by decide +kernel) (show mEnt [va_rf v0, .int v1] 2 = [some (va_rf v0), some (.int v1)] by rw [mEnt_r, mEnt_i] <;> rfl) (by simp only [List.map_cons, List.map_nil, mRfc, mCi, mCj, List.sum_cons, List.sum_nil]; exact Nat.le_of_ble_eq_true rfl) ?_
  refine g_X8_count v0 v1 h e ?_
  exact ⟨rfl, rfl⟩
theorem s_X8_count (v0 : Option Nat) (v1 : Int32) (h : mH) {res : Int32} (e : f_X8_count v0 v1 h = some res) : mIs h v0 7 = some () := by
  unfold f_X8_count at e
  obtain ⟨u, e1, _⟩ := mBind e
  cases u
  exact e1
-- X9_init
def kX9_init : mK := (cX9_init, RX9, 1, none, "<init>", mRoom 2 21 1512)
def zX9_init : mY := (yX9_init, cX9_init, 1, none)
set_option maxRecDepth 100000 in
theorem sf_RX9_13 : mFld RX9 13 8 1 := ⟨by decide, by decide, Or.inl (mT_at 803 (by decide +kernel) rfl)⟩
set_option maxRecDepth 100000 in
theorem sf_RX9_17 : mFld RX9 17 8 2 := ⟨by decide, by decide, Or.inl (mT_at 804 (by decide +kernel) rfl)⟩
set_option maxRecDepth 100000 in
theorem sf_RX9_20 : mFld RX9 20 8 3 := ⟨by decide, by decide, Or.inl (mT_at 805 (by decide +kernel) rfl)⟩
set_option maxRecDepth 100000 in
theorem sf_RX9_23 : mFld RX9 23 8 4 := ⟨by decide, by decide, Or.inl (mT_at 806 (by decide +kernel) rfl)⟩
set_option maxRecDepth 100000 in
theorem sf_RX9_26 : mFld RX9 26 8 5 := ⟨by decide, by decide, Or.inl (mT_at 807 (by decide +kernel) rfl)⟩
set_option maxRecDepth 100000 in
theorem sf_RX9_29 : mFld RX9 29 8 6 := ⟨by decide, by decide, Or.inl (mT_at 808 (by decide +kernel) rfl)⟩
set_option maxRecDepth 100000 in
theorem sf_RX9_32 : mFld RX9 32 8 8 := ⟨by decide, by decide, Or.inl (mT_at 810 (by decide +kernel) rfl)⟩
set_option maxRecDepth 100000 in
theorem sf_RX9_35 : mFld RX9 35 8 9 := ⟨by decide, by decide, Or.inl (mT_at 811 (by decide +kernel) rfl)⟩
set_option maxRecDepth 100000 in
theorem sf_RX9_38 : mFld RX9 38 8 10 := ⟨by decide, by decide, Or.inl (mT_at 812 (by decide +kernel) rfl)⟩
set_option maxRecDepth 100000 in
theorem sf_RX9_41 : mFld RX9 41 8 11 := ⟨by decide, by decide, Or.inl (mT_at 813 (by decide +kernel) rfl)⟩
set_option maxRecDepth 100000 in
theorem sf_RX9_44 : mFld RX9 44 8 14 := ⟨by decide, by decide, Or.inl (mT_at 816 (by decide +kernel) rfl)⟩
set_option maxRecDepth 100000 in
theorem sf_RX9_47 : mFld RX9 47 8 15 := ⟨by decide, by decide, Or.inl (mT_at 817 (by decide +kernel) rfl)⟩
set_option maxRecDepth 100000 in
theorem sf_RX9_50 : mFld RX9 50 8 16 := ⟨by decide, by decide, Or.inl (mT_at 818 (by decide +kernel) rfl)⟩
set_option maxRecDepth 100000 in
theorem sf_RX9_53 : mFld RX9 53 8 17 := ⟨by decide, by decide, Or.inl (mT_at 819 (by decide +kernel) rfl)⟩
set_option maxRecDepth 100000 in
theorem sf_RX9_56 : mFld RX9 56 8 18 := ⟨by decide, by decide, Or.inl (mT_at 820 (by decide +kernel) rfl)⟩
set_option maxRecDepth 100000 in
theorem sf_RX9_60 : mFld RX9 60 8 19 := ⟨by decide, by decide, Or.inl (mT_at 821 (by decide +kernel) rfl)⟩
set_option maxRecDepth 100000 in
theorem sf_RX9_63 : mFld RX9 63 8 20 := ⟨by decide, by decide, Or.inl (mT_at 822 (by decide +kernel) rfl)⟩
set_option maxRecDepth 100000 in
theorem sf_RX9_66 : mFld RX9 66 8 21 := ⟨by decide, by decide, Or.inl (mT_at 823 (by decide +kernel) rfl)⟩
set_option maxRecDepth 100000 in
theorem sf_RX9_69 : mFld RX9 69 8 22 := ⟨by decide, by decide, Or.inl (mT_at 824 (by decide +kernel) rfl)⟩
set_option maxRecDepth 100000 in
theorem sf_RX9_72 : mFld RX9 72 8 23 := ⟨by decide, by decide, Or.inl (mT_at 825 (by decide +kernel) rfl)⟩
set_option maxRecDepth 100000 in
theorem sf_RX9_75 : mFld RX9 75 8 24 := ⟨by decide, by decide, Or.inl (mT_at 826 (by decide +kernel) rfl)⟩
def f_X9_init (v0 : Nat) (h : mH) : Option (mH) :=
  (mIs h (some v0) 8).bind fun _ =>
  (some (mNew h (.inl (6, .inl (fun _ => 0))))).bind fun h1 =>
  (mPF h1 (some v0) 8 1 (va_rf (some (h.1 + 1)))).bind fun h2 =>
  (some (mNew h2 (.inl (168, .inl (fun _ => 0))))).bind fun h3 =>
  (mPF h3 (some v0) 8 2 (va_rf (some (h2.1 + 1)))).bind fun h4 =>
  (some (mNew h4 (.inl (336, .inl (fun _ => 0))))).bind fun h5 =>
  (mPF h5 (some v0) 8 3 (va_rf (some (h4.1 + 1)))).bind fun h6 =>
  (some (mNew h6 (.inl (336, .inl (fun _ => 0))))).bind fun h7 =>
  (mPF h7 (some v0) 8 4 (va_rf (some (h6.1 + 1)))).bind fun h8 =>
  (some (mNew h8 (.inl (12, .inl (fun _ => 0))))).bind fun h9 =>
  (mPF h9 (some v0) 8 5 (va_rf (some (h8.1 + 1)))).bind fun h10 =>
  (some (mNew h10 (.inl (28, .inl (fun _ => 0))))).bind fun h11 =>
  (mPF h11 (some v0) 8 6 (va_rf (some (h10.1 + 1)))).bind fun h12 =>
  (some (mNew h12 (.inl (28, .inl (fun _ => 0))))).bind fun h13 =>
  (mPF h13 (some v0) 8 8 (va_rf (some (h12.1 + 1)))).bind fun h14 =>
  (some (mNew h14 (.inl (16, .inl (fun _ => 0))))).bind fun h15 =>
  (mSI h15 (some (h14.1 + 1)) (0 : Int32) (0 : Int32)).bind fun h16 =>
  (mSI h16 (some (h14.1 + 1)) (1 : Int32) (1 : Int32)).bind fun h17 =>
  (mSI h17 (some (h14.1 + 1)) (2 : Int32) (2 : Int32)).bind fun h18 =>
  (mSI h18 (some (h14.1 + 1)) (3 : Int32) (3 : Int32)).bind fun h19 =>
  (mSI h19 (some (h14.1 + 1)) (4 : Int32) (1 : Int32)).bind fun h20 =>
  (mSI h20 (some (h14.1 + 1)) (5 : Int32) (0 : Int32)).bind fun h21 =>
  (mSI h21 (some (h14.1 + 1)) (6 : Int32) (3 : Int32)).bind fun h22 =>
  (mSI h22 (some (h14.1 + 1)) (7 : Int32) (2 : Int32)).bind fun h23 =>
  (mSI h23 (some (h14.1 + 1)) (8 : Int32) (2 : Int32)).bind fun h24 =>
  (mSI h24 (some (h14.1 + 1)) (9 : Int32) (3 : Int32)).bind fun h25 =>
  (mSI h25 (some (h14.1 + 1)) (10 : Int32) (0 : Int32)).bind fun h26 =>
  (mSI h26 (some (h14.1 + 1)) (11 : Int32) (1 : Int32)).bind fun h27 =>
  (mSI h27 (some (h14.1 + 1)) (12 : Int32) (3 : Int32)).bind fun h28 =>
  (mSI h28 (some (h14.1 + 1)) (13 : Int32) (2 : Int32)).bind fun h29 =>
  (mSI h29 (some (h14.1 + 1)) (14 : Int32) (1 : Int32)).bind fun h30 =>
  (mSI h30 (some (h14.1 + 1)) (15 : Int32) (0 : Int32)).bind fun h31 =>
  (mPF h31 (some v0) 8 9 (va_rf (some (h14.1 + 1)))).bind fun h32 =>
  (some (mNew h32 (.inl (16, .inl (fun _ => 0))))).bind fun h33 =>
  (mSI h33 (some (h32.1 + 1)) (0 : Int32) (0 : Int32)).bind fun h34 =>
  (mSI h34 (some (h32.1 + 1)) (1 : Int32) (0 : Int32)).bind fun h35 =>
  (mSI h35 (some (h32.1 + 1)) (2 : Int32) (0 : Int32)).bind fun h36 =>
  (mSI h36 (some (h32.1 + 1)) (3 : Int32) (0 : Int32)).bind fun h37 =>
  (mSI h37 (some (h32.1 + 1)) (4 : Int32) (1 : Int32)).bind fun h38 =>
  (mSI h38 (some (h32.1 + 1)) (5 : Int32) (0 : Int32)).bind fun h39 =>
  (mSI h39 (some (h32.1 + 1)) (6 : Int32) (1 : Int32)).bind fun h40 =>
  (mSI h40 (some (h32.1 + 1)) (7 : Int32) (0 : Int32)).bind fun h41 =>
  (mSI h41 (some (h32.1 + 1)) (8 : Int32) (1 : Int32)).bind fun h42 =>
  (mSI h42 (some (h32.1 + 1)) (9 : Int32) (0 : Int32)).bind fun h43 =>
  (mSI h43 (some (h32.1 + 1)) (10 : Int32) (0 : Int32)).bind fun h44 =>
  (mSI h44 (some (h32.1 + 1)) (11 : Int32) (1 : Int32)).bind fun h45 =>
  (mSI h45 (some (h32.1 + 1)) (12 : Int32) (1 : Int32)).bind fun h46 =>
  (mSI h46 (some (h32.1 + 1)) (13 : Int32) (1 : Int32)).bind fun h47 =>
  (mSI h47 (some (h32.1 + 1)) (14 : Int32) (0 : Int32)).bind fun h48 =>
  (mSI h48 (some (h32.1 + 1)) (15 : Int32) (0 : Int32)).bind fun h49 =>
  (mPF h49 (some v0) 8 10 (va_rf (some (h32.1 + 1)))).bind fun h50 =>
  (some (mNew h50 (.inl (4, .inl (fun _ => 0))))).bind fun h51 =>
  (mPF h51 (some v0) 8 11 (va_rf (some (h50.1 + 1)))).bind fun h52 =>
  (some (mNew h52 (.inl (28, .inl (fun _ => 0))))).bind fun h53 =>
  (mPF h53 (some v0) 8 14 (va_rf (some (h52.1 + 1)))).bind fun h54 =>
  (some (mNew h54 (.inl (6, .inl (fun _ => 0))))).bind fun h55 =>
  (mPF h55 (some v0) 8 15 (va_rf (some (h54.1 + 1)))).bind fun h56 =>
  (some (mNew h56 (.inl (6, .inl (fun _ => 0))))).bind fun h57 =>
  (mPF h57 (some v0) 8 16 (va_rf (some (h56.1 + 1)))).bind fun h58 =>
  (some (mNew h58 (.inl (6, .inl (fun _ => 0))))).bind fun h59 =>
  (mPF h59 (some v0) 8 17 (va_rf (some (h58.1 + 1)))).bind fun h60 =>
  (some (mNew h60 (.inl (144, .inr (.inl (fun _ => 0)))))).bind fun h61 =>
  (mPF h61 (some v0) 8 18 (va_rf (some (h60.1 + 1)))).bind fun h62 =>
  (some (mNew h62 (.inl (12, .inl (fun _ => 0))))).bind fun h63 =>
  (mPF h63 (some v0) 8 19 (va_rf (some (h62.1 + 1)))).bind fun h64 =>
  (some (mNew h64 (.inl (12, .inl (fun _ => 0))))).bind fun h65 =>
  (mPF h65 (some v0) 8 20 (va_rf (some (h64.1 + 1)))).bind fun h66 =>
  (some (mNew h66 (.inl (156, .inl (fun _ => 0))))).bind fun h67 =>
  (mPF h67 (some v0) 8 21 (va_rf (some (h66.1 + 1)))).bind fun h68 =>
  (some (mNew h68 (.inl (156, .inl (fun _ => 0))))).bind fun h69 =>
  (mPF h69 (some v0) 8 22 (va_rf (some (h68.1 + 1)))).bind fun h70 =>
  (some (mNew h70 (.inl (28, .inl (fun _ => 0))))).bind fun h71 =>
  (mPF h71 (some v0) 8 23 (va_rf (some (h70.1 + 1)))).bind fun h72 =>
  (some (mNew h72 (.inl (8, .inl (fun _ => 0))))).bind fun h73 =>
  (mPF h73 (some v0) 8 24 (va_rf (some (h72.1 + 1)))).bind fun h74 =>
  some h74
set_option maxRecDepth 100000 in
set_option maxHeartbeats 4000000 in
theorem g_X9_init {w : mWp} {Q : Option Value → mH → Prop} (v0 : Nat) (h : mH) {res : mH} (e : f_X9_init v0 h = some res) (q : (fun r : mH => Q none r) res) : mGo w kX9_init 0 0 0 [some (va_rf (some v0))] [] h Q := by
  unfold f_X9_init at e
  obtain ⟨_, _, e⟩ := mBind e
  refine mGo.aload_n (n := 1) (r := (some v0)) dX9_init_0 rfl rfl ?_
  refine mGo.objI (n := 4) dX9_init_1 (mT_at 802 (by decide +kernel) rfl) (mT_at 102 (by decide +kernel) rfl) (mT_at 103 (by decide +kernel) rfl) (Nat.le_of_ble_eq_true rfl) (Nat.le_of_ble_eq_true rfl) rfl ?_
  refine mGo.aload_n (n := 5) (r := (some v0)) dX9_init_4 rfl rfl ?_
  refine mGo.bipush (n := 7) (v := (6 : Int32)) dX9_init_5 (by decide) rfl ?_
  obtain ⟨h1, e_h1, e⟩ := mBind e
  refine mGo.newI' (n := 9) (N := 6) dX9_init_7 (by decide) (by decide) (by decide) (mT_at 152 (by decide +kernel) rfl) (Nat.le_of_ble_eq_true rfl) (Nat.le_of_ble_eq_true rfl) rfl e_h1 ?_
  show mGo w kX9_init 1 6 9 [some (va_rf (some v0))] [va_rf (some (h.1 + 1)), va_rf (some v0)] h1 Q
  obtain ⟨h2, e_h2, e⟩ := mBind e
  refine mGo.putR (n := 12) dX9_init_9 sf_RX9_13 (Or.inr ⟨rfl, rfl, rfl, mT_at 803 (by decide +kernel) rfl⟩) rfl e_h2 rfl ?_
  refine mGo.aload_n (n := 13) (r := (some v0)) dX9_init_12 rfl rfl ?_
  refine mGo.sipush (n := 16) (v := (168 : Int32)) dX9_init_13 (by decide) rfl ?_
  obtain ⟨h3, e_h3, e⟩ := mBind e
  refine mGo.newI' (n := 18) (N := 168) dX9_init_16 (by decide) (by decide) (by decide) (mT_at 152 (by decide +kernel) rfl) (Nat.le_of_ble_eq_true rfl) (Nat.le_of_ble_eq_true rfl) rfl e_h3 ?_
  show mGo w kX9_init 2 174 18 [some (va_rf (some v0))] [va_rf (some (h2.1 + 1)), va_rf (some v0)] h3 Q
  obtain ⟨h4, e_h4, e⟩ := mBind e
  refine mGo.putR (n := 21) dX9_init_18 sf_RX9_17 (Or.inr ⟨rfl, rfl, rfl, mT_at 804 (by decide +kernel) rfl⟩) rfl e_h4 rfl ?_
  refine mGo.aload_n (n := 22) (r := (some v0)) dX9_init_21 rfl rfl ?_
  refine mGo.sipush (n := 25) (v := (336 : Int32)) dX9_init_22 (by decide) rfl ?_
  obtain ⟨h5, e_h5, e⟩ := mBind e
  refine mGo.newI' (n := 27) (N := 336) dX9_init_25 (by decide) (by decide) (by decide) (mT_at 152 (by decide +kernel) rfl) (Nat.le_of_ble_eq_true rfl) (Nat.le_of_ble_eq_true rfl) rfl e_h5 ?_
  show mGo w kX9_init 3 510 27 [some (va_rf (some v0))] [va_rf (some (h4.1 + 1)), va_rf (some v0)] h5 Q
  obtain ⟨h6, e_h6, e⟩ := mBind e
  refine mGo.putR (n := 30) dX9_init_27 sf_RX9_20 (Or.inr ⟨rfl, rfl, rfl, mT_at 805 (by decide +kernel) rfl⟩) rfl e_h6 rfl ?_
  refine mGo.aload_n (n := 31) (r := (some v0)) dX9_init_30 rfl rfl ?_
  refine mGo.sipush (n := 34) (v := (336 : Int32)) dX9_init_31 (by decide) rfl ?_
  obtain ⟨h7, e_h7, e⟩ := mBind e
  refine mGo.newI' (n := 36) (N := 336) dX9_init_34 (by decide) (by decide) (by decide) (mT_at 152 (by decide +kernel) rfl) (Nat.le_of_ble_eq_true rfl) (Nat.le_of_ble_eq_true rfl) rfl e_h7 ?_
  show mGo w kX9_init 4 846 36 [some (va_rf (some v0))] [va_rf (some (h6.1 + 1)), va_rf (some v0)] h7 Q
  obtain ⟨h8, e_h8, e⟩ := mBind e
  refine mGo.putR (n := 39) dX9_init_36 sf_RX9_23 (Or.inr ⟨rfl, rfl, rfl, mT_at 806 (by decide +kernel) rfl⟩) rfl e_h8 rfl ?_
  refine mGo.aload_n (n := 40) (r := (some v0)) dX9_init_39 rfl rfl ?_
  refine mGo.bipush (n := 42) (v := (12 : Int32)) dX9_init_40 (by decide) rfl ?_
  obtain ⟨h9, e_h9, e⟩ := mBind e
  refine mGo.newI' (n := 44) (N := 12) dX9_init_42 (by decide) (by decide) (by decide) (mT_at 152 (by decide +kernel) rfl) (Nat.le_of_ble_eq_true rfl) (Nat.le_of_ble_eq_true rfl) rfl e_h9 ?_
  show mGo w kX9_init 5 858 44 [some (va_rf (some v0))] [va_rf (some (h8.1 + 1)), va_rf (some v0)] h9 Q
  obtain ⟨h10, e_h10, e⟩ := mBind e
  refine mGo.putR (n := 47) dX9_init_44 sf_RX9_26 (Or.inr ⟨rfl, rfl, rfl, mT_at 807 (by decide +kernel) rfl⟩) rfl e_h10 rfl ?_
  refine mGo.aload_n (n := 48) (r := (some v0)) dX9_init_47 rfl rfl ?_
  refine mGo.bipush (n := 50) (v := (28 : Int32)) dX9_init_48 (by decide) rfl ?_
  obtain ⟨h11, e_h11, e⟩ := mBind e
  refine mGo.newI' (n := 52) (N := 28) dX9_init_50 (by decide) (by decide) (by decide) (mT_at 152 (by decide +kernel) rfl) (Nat.le_of_ble_eq_true rfl) (Nat.le_of_ble_eq_true rfl) rfl e_h11 ?_
  show mGo w kX9_init 6 886 52 [some (va_rf (some v0))] [va_rf (some (h10.1 + 1)), va_rf (some v0)] h11 Q
  obtain ⟨h12, e_h12, e⟩ := mBind e
  refine mGo.putR (n := 55) dX9_init_52 sf_RX9_29 (Or.inr ⟨rfl, rfl, rfl, mT_at 808 (by decide +kernel) rfl⟩) rfl e_h12 rfl ?_
  refine mGo.aload_n (n := 56) (r := (some v0)) dX9_init_55 rfl rfl ?_
  refine mGo.bipush (n := 58) (v := (28 : Int32)) dX9_init_56 (by decide) rfl ?_
  obtain ⟨h13, e_h13, e⟩ := mBind e
  refine mGo.newI' (n := 60) (N := 28) dX9_init_58 (by decide) (by decide) (by decide) (mT_at 152 (by decide +kernel) rfl) (Nat.le_of_ble_eq_true rfl) (Nat.le_of_ble_eq_true rfl) rfl e_h13 ?_
  show mGo w kX9_init 7 914 60 [some (va_rf (some v0))] [va_rf (some (h12.1 + 1)), va_rf (some v0)] h13 Q
  obtain ⟨h14, e_h14, e⟩ := mBind e
  refine mGo.putR (n := 63) dX9_init_60 sf_RX9_32 (Or.inr ⟨rfl, rfl, rfl, mT_at 810 (by decide +kernel) rfl⟩) rfl e_h14 rfl ?_
  refine mGo.aload_n (n := 64) (r := (some v0)) dX9_init_63 rfl rfl ?_
  refine mGo.bipush (n := 66) (v := (16 : Int32)) dX9_init_64 (by decide) rfl ?_
  obtain ⟨h15, e_h15, e⟩ := mBind e
  refine mGo.newI' (n := 68) (N := 16) dX9_init_66 (by decide) (by decide) (by decide) (mT_at 152 (by decide +kernel) rfl) (Nat.le_of_ble_eq_true rfl) (Nat.le_of_ble_eq_true rfl) rfl e_h15 ?_
  show mGo w kX9_init 8 930 68 [some (va_rf (some v0))] [va_rf (some (h14.1 + 1)), va_rf (some v0)] h15 Q
  refine mGo.dup (n := 69) dX9_init_68 (mRfc _) rfl ?_
  refine mGo.iconst (n := 70) (v := (0 : Int32)) dX9_init_69 (by decide) rfl ?_
  refine mGo.iconst (n := 71) (v := (0 : Int32)) dX9_init_70 (by decide) rfl ?_
  obtain ⟨h16, e_h16, e⟩ := mBind e
  refine mGo.iast (n := 72) dX9_init_71 e_h16 rfl ?_
  refine mGo.dup (n := 73) dX9_init_72 (mRfc _) rfl ?_
  refine mGo.iconst (n := 74) (v := (1 : Int32)) dX9_init_73 (by decide) rfl ?_
  refine mGo.iconst (n := 75) (v := (1 : Int32)) dX9_init_74 (by decide) rfl ?_
  obtain ⟨h17, e_h17, e⟩ := mBind e
  refine mGo.iast (n := 76) dX9_init_75 e_h17 rfl ?_
  refine mGo.dup (n := 77) dX9_init_76 (mRfc _) rfl ?_
  refine mGo.iconst (n := 78) (v := (2 : Int32)) dX9_init_77 (by decide) rfl ?_
  refine mGo.iconst (n := 79) (v := (2 : Int32)) dX9_init_78 (by decide) rfl ?_
  obtain ⟨h18, e_h18, e⟩ := mBind e
  refine mGo.iast (n := 80) dX9_init_79 e_h18 rfl ?_
  refine mGo.dup (n := 81) dX9_init_80 (mRfc _) rfl ?_
  refine mGo.iconst (n := 82) (v := (3 : Int32)) dX9_init_81 (by decide) rfl ?_
  refine mGo.iconst (n := 83) (v := (3 : Int32)) dX9_init_82 (by decide) rfl ?_
  obtain ⟨h19, e_h19, e⟩ := mBind e
  refine mGo.iast (n := 84) dX9_init_83 e_h19 rfl ?_
  refine mGo.dup (n := 85) dX9_init_84 (mRfc _) rfl ?_
  refine mGo.iconst (n := 86) (v := (4 : Int32)) dX9_init_85 (by decide) rfl ?_
  refine mGo.iconst (n := 87) (v := (1 : Int32)) dX9_init_86 (by decide) rfl ?_
  obtain ⟨h20, e_h20, e⟩ := mBind e
  refine mGo.iast (n := 88) dX9_init_87 e_h20 rfl ?_
  refine mGo.dup (n := 89) dX9_init_88 (mRfc _) rfl ?_
  refine mGo.iconst (n := 90) (v := (5 : Int32)) dX9_init_89 (by decide) rfl ?_
  refine mGo.iconst (n := 91) (v := (0 : Int32)) dX9_init_90 (by decide) rfl ?_
  obtain ⟨h21, e_h21, e⟩ := mBind e
  refine mGo.iast (n := 92) dX9_init_91 e_h21 rfl ?_
  refine mGo.dup (n := 93) dX9_init_92 (mRfc _) rfl ?_
  refine mGo.bipush (n := 95) (v := (6 : Int32)) dX9_init_93 (by decide) rfl ?_
  refine mGo.iconst (n := 96) (v := (3 : Int32)) dX9_init_95 (by decide) rfl ?_
  obtain ⟨h22, e_h22, e⟩ := mBind e
  refine mGo.iast (n := 97) dX9_init_96 e_h22 rfl ?_
  refine mGo.dup (n := 98) dX9_init_97 (mRfc _) rfl ?_
  refine mGo.bipush (n := 100) (v := (7 : Int32)) dX9_init_98 (by decide) rfl ?_
  refine mGo.iconst (n := 101) (v := (2 : Int32)) dX9_init_100 (by decide) rfl ?_
  obtain ⟨h23, e_h23, e⟩ := mBind e
  refine mGo.iast (n := 102) dX9_init_101 e_h23 rfl ?_
  refine mGo.dup (n := 103) dX9_init_102 (mRfc _) rfl ?_
  refine mGo.bipush (n := 105) (v := (8 : Int32)) dX9_init_103 (by decide) rfl ?_
  refine mGo.iconst (n := 106) (v := (2 : Int32)) dX9_init_105 (by decide) rfl ?_
  obtain ⟨h24, e_h24, e⟩ := mBind e
  refine mGo.iast (n := 107) dX9_init_106 e_h24 rfl ?_
  refine mGo.dup (n := 108) dX9_init_107 (mRfc _) rfl ?_
  refine mGo.bipush (n := 110) (v := (9 : Int32)) dX9_init_108 (by decide) rfl ?_
  refine mGo.iconst (n := 111) (v := (3 : Int32)) dX9_init_110 (by decide) rfl ?_
  obtain ⟨h25, e_h25, e⟩ := mBind e
  refine mGo.iast (n := 112) dX9_init_111 e_h25 rfl ?_
  refine mGo.dup (n := 113) dX9_init_112 (mRfc _) rfl ?_
  refine mGo.bipush (n := 115) (v := (10 : Int32)) dX9_init_113 (by decide) rfl ?_
  refine mGo.iconst (n := 116) (v := (0 : Int32)) dX9_init_115 (by decide) rfl ?_
  obtain ⟨h26, e_h26, e⟩ := mBind e
  refine mGo.iast (n := 117) dX9_init_116 e_h26 rfl ?_
  refine mGo.dup (n := 118) dX9_init_117 (mRfc _) rfl ?_
  refine mGo.bipush (n := 120) (v := (11 : Int32)) dX9_init_118 (by decide) rfl ?_
  refine mGo.iconst (n := 121) (v := (1 : Int32)) dX9_init_120 (by decide) rfl ?_
  obtain ⟨h27, e_h27, e⟩ := mBind e
  refine mGo.iast (n := 122) dX9_init_121 e_h27 rfl ?_
  refine mGo.dup (n := 123) dX9_init_122 (mRfc _) rfl ?_
  refine mGo.bipush (n := 125) (v := (12 : Int32)) dX9_init_123 (by decide) rfl ?_
  refine mGo.iconst (n := 126) (v := (3 : Int32)) dX9_init_125 (by decide) rfl ?_
  obtain ⟨h28, e_h28, e⟩ := mBind e
  refine mGo.iast (n := 127) dX9_init_126 e_h28 rfl ?_
  refine mGo.dup (n := 128) dX9_init_127 (mRfc _) rfl ?_
  refine mGo.bipush (n := 130) (v := (13 : Int32)) dX9_init_128 (by decide) rfl ?_
  refine mGo.iconst (n := 131) (v := (2 : Int32)) dX9_init_130 (by decide) rfl ?_
  obtain ⟨h29, e_h29, e⟩ := mBind e
  refine mGo.iast (n := 132) dX9_init_131 e_h29 rfl ?_
  refine mGo.dup (n := 133) dX9_init_132 (mRfc _) rfl ?_
  refine mGo.bipush (n := 135) (v := (14 : Int32)) dX9_init_133 (by decide) rfl ?_
  refine mGo.iconst (n := 136) (v := (1 : Int32)) dX9_init_135 (by decide) rfl ?_
  obtain ⟨h30, e_h30, e⟩ := mBind e
  refine mGo.iast (n := 137) dX9_init_136 e_h30 rfl ?_
  refine mGo.dup (n := 138) dX9_init_137 (mRfc _) rfl ?_
  refine mGo.bipush (n := 140) (v := (15 : Int32)) dX9_init_138 (by decide) rfl ?_
  refine mGo.iconst (n := 141) (v := (0 : Int32)) dX9_init_140 (by decide) rfl ?_
  obtain ⟨h31, e_h31, e⟩ := mBind e
  refine mGo.iast (n := 142) dX9_init_141 e_h31 rfl ?_
  obtain ⟨h32, e_h32, e⟩ := mBind e
  refine mGo.putR (n := 145) dX9_init_142 sf_RX9_35 (Or.inr ⟨rfl, rfl, rfl, mT_at 811 (by decide +kernel) rfl⟩) rfl e_h32 rfl ?_
  refine mGo.aload_n (n := 146) (r := (some v0)) dX9_init_145 rfl rfl ?_
  refine mGo.bipush (n := 148) (v := (16 : Int32)) dX9_init_146 (by decide) rfl ?_
  obtain ⟨h33, e_h33, e⟩ := mBind e
  refine mGo.newI' (n := 150) (N := 16) dX9_init_148 (by decide) (by decide) (by decide) (mT_at 152 (by decide +kernel) rfl) (Nat.le_of_ble_eq_true rfl) (Nat.le_of_ble_eq_true rfl) rfl e_h33 ?_
  show mGo w kX9_init 9 946 150 [some (va_rf (some v0))] [va_rf (some (h32.1 + 1)), va_rf (some v0)] h33 Q
  refine mGo.dup (n := 151) dX9_init_150 (mRfc _) rfl ?_
  refine mGo.iconst (n := 152) (v := (0 : Int32)) dX9_init_151 (by decide) rfl ?_
  refine mGo.iconst (n := 153) (v := (0 : Int32)) dX9_init_152 (by decide) rfl ?_
  obtain ⟨h34, e_h34, e⟩ := mBind e
  refine mGo.iast (n := 154) dX9_init_153 e_h34 rfl ?_
  refine mGo.dup (n := 155) dX9_init_154 (mRfc _) rfl ?_
  refine mGo.iconst (n := 156) (v := (1 : Int32)) dX9_init_155 (by decide) rfl ?_
  refine mGo.iconst (n := 157) (v := (0 : Int32)) dX9_init_156 (by decide) rfl ?_
  obtain ⟨h35, e_h35, e⟩ := mBind e
  refine mGo.iast (n := 158) dX9_init_157 e_h35 rfl ?_
  refine mGo.dup (n := 159) dX9_init_158 (mRfc _) rfl ?_
  refine mGo.iconst (n := 160) (v := (2 : Int32)) dX9_init_159 (by decide) rfl ?_
  refine mGo.iconst (n := 161) (v := (0 : Int32)) dX9_init_160 (by decide) rfl ?_
  obtain ⟨h36, e_h36, e⟩ := mBind e
  refine mGo.iast (n := 162) dX9_init_161 e_h36 rfl ?_
  refine mGo.dup (n := 163) dX9_init_162 (mRfc _) rfl ?_
  refine mGo.iconst (n := 164) (v := (3 : Int32)) dX9_init_163 (by decide) rfl ?_
  refine mGo.iconst (n := 165) (v := (0 : Int32)) dX9_init_164 (by decide) rfl ?_
  obtain ⟨h37, e_h37, e⟩ := mBind e
  refine mGo.iast (n := 166) dX9_init_165 e_h37 rfl ?_
  refine mGo.dup (n := 167) dX9_init_166 (mRfc _) rfl ?_
  refine mGo.iconst (n := 168) (v := (4 : Int32)) dX9_init_167 (by decide) rfl ?_
  refine mGo.iconst (n := 169) (v := (1 : Int32)) dX9_init_168 (by decide) rfl ?_
  obtain ⟨h38, e_h38, e⟩ := mBind e
  refine mGo.iast (n := 170) dX9_init_169 e_h38 rfl ?_
  refine mGo.dup (n := 171) dX9_init_170 (mRfc _) rfl ?_
  refine mGo.iconst (n := 172) (v := (5 : Int32)) dX9_init_171 (by decide) rfl ?_
  refine mGo.iconst (n := 173) (v := (0 : Int32)) dX9_init_172 (by decide) rfl ?_
  obtain ⟨h39, e_h39, e⟩ := mBind e
  refine mGo.iast (n := 174) dX9_init_173 e_h39 rfl ?_
  refine mGo.dup (n := 175) dX9_init_174 (mRfc _) rfl ?_
  refine mGo.bipush (n := 177) (v := (6 : Int32)) dX9_init_175 (by decide) rfl ?_
  refine mGo.iconst (n := 178) (v := (1 : Int32)) dX9_init_177 (by decide) rfl ?_
  obtain ⟨h40, e_h40, e⟩ := mBind e
  refine mGo.iast (n := 179) dX9_init_178 e_h40 rfl ?_
  refine mGo.dup (n := 180) dX9_init_179 (mRfc _) rfl ?_
  refine mGo.bipush (n := 182) (v := (7 : Int32)) dX9_init_180 (by decide) rfl ?_
  refine mGo.iconst (n := 183) (v := (0 : Int32)) dX9_init_182 (by decide) rfl ?_
  obtain ⟨h41, e_h41, e⟩ := mBind e
  refine mGo.iast (n := 184) dX9_init_183 e_h41 rfl ?_
  refine mGo.dup (n := 185) dX9_init_184 (mRfc _) rfl ?_
  refine mGo.bipush (n := 187) (v := (8 : Int32)) dX9_init_185 (by decide) rfl ?_
  refine mGo.iconst (n := 188) (v := (1 : Int32)) dX9_init_187 (by decide) rfl ?_
  obtain ⟨h42, e_h42, e⟩ := mBind e
  refine mGo.iast (n := 189) dX9_init_188 e_h42 rfl ?_
  refine mGo.dup (n := 190) dX9_init_189 (mRfc _) rfl ?_
  refine mGo.bipush (n := 192) (v := (9 : Int32)) dX9_init_190 (by decide) rfl ?_
  refine mGo.iconst (n := 193) (v := (0 : Int32)) dX9_init_192 (by decide) rfl ?_
  obtain ⟨h43, e_h43, e⟩ := mBind e
  refine mGo.iast (n := 194) dX9_init_193 e_h43 rfl ?_
  refine mGo.dup (n := 195) dX9_init_194 (mRfc _) rfl ?_
  refine mGo.bipush (n := 197) (v := (10 : Int32)) dX9_init_195 (by decide) rfl ?_
  refine mGo.iconst (n := 198) (v := (0 : Int32)) dX9_init_197 (by decide) rfl ?_
  obtain ⟨h44, e_h44, e⟩ := mBind e
  refine mGo.iast (n := 199) dX9_init_198 e_h44 rfl ?_
  refine mGo.dup (n := 200) dX9_init_199 (mRfc _) rfl ?_
  refine mGo.bipush (n := 202) (v := (11 : Int32)) dX9_init_200 (by decide) rfl ?_
  refine mGo.iconst (n := 203) (v := (1 : Int32)) dX9_init_202 (by decide) rfl ?_
  obtain ⟨h45, e_h45, e⟩ := mBind e
  refine mGo.iast (n := 204) dX9_init_203 e_h45 rfl ?_
  refine mGo.dup (n := 205) dX9_init_204 (mRfc _) rfl ?_
  refine mGo.bipush (n := 207) (v := (12 : Int32)) dX9_init_205 (by decide) rfl ?_
  refine mGo.iconst (n := 208) (v := (1 : Int32)) dX9_init_207 (by decide) rfl ?_
  obtain ⟨h46, e_h46, e⟩ := mBind e
  refine mGo.iast (n := 209) dX9_init_208 e_h46 rfl ?_
  refine mGo.dup (n := 210) dX9_init_209 (mRfc _) rfl ?_
  refine mGo.bipush (n := 212) (v := (13 : Int32)) dX9_init_210 (by decide) rfl ?_
  refine mGo.iconst (n := 213) (v := (1 : Int32)) dX9_init_212 (by decide) rfl ?_
  obtain ⟨h47, e_h47, e⟩ := mBind e
  refine mGo.iast (n := 214) dX9_init_213 e_h47 rfl ?_
  refine mGo.dup (n := 215) dX9_init_214 (mRfc _) rfl ?_
  refine mGo.bipush (n := 217) (v := (14 : Int32)) dX9_init_215 (by decide) rfl ?_
  refine mGo.iconst (n := 218) (v := (0 : Int32)) dX9_init_217 (by decide) rfl ?_
  obtain ⟨h48, e_h48, e⟩ := mBind e
  refine mGo.iast (n := 219) dX9_init_218 e_h48 rfl ?_
  refine mGo.dup (n := 220) dX9_init_219 (mRfc _) rfl ?_
  refine mGo.bipush (n := 222) (v := (15 : Int32)) dX9_init_220 (by decide) rfl ?_
  refine mGo.iconst (n := 223) (v := (0 : Int32)) dX9_init_222 (by decide) rfl ?_
  obtain ⟨h49, e_h49, e⟩ := mBind e
  refine mGo.iast (n := 224) dX9_init_223 e_h49 rfl ?_
  obtain ⟨h50, e_h50, e⟩ := mBind e
  refine mGo.putR (n := 227) dX9_init_224 sf_RX9_38 (Or.inr ⟨rfl, rfl, rfl, mT_at 812 (by decide +kernel) rfl⟩) rfl e_h50 rfl ?_
  refine mGo.aload_n (n := 228) (r := (some v0)) dX9_init_227 rfl rfl ?_
  refine mGo.iconst (n := 229) (v := (4 : Int32)) dX9_init_228 (by decide) rfl ?_
  obtain ⟨h51, e_h51, e⟩ := mBind e
  refine mGo.newI' (n := 231) (N := 4) dX9_init_229 (by decide) (by decide) (by decide) (mT_at 152 (by decide +kernel) rfl) (Nat.le_of_ble_eq_true rfl) (Nat.le_of_ble_eq_true rfl) rfl e_h51 ?_
  show mGo w kX9_init 10 950 231 [some (va_rf (some v0))] [va_rf (some (h50.1 + 1)), va_rf (some v0)] h51 Q
  obtain ⟨h52, e_h52, e⟩ := mBind e
  refine mGo.putR (n := 234) dX9_init_231 sf_RX9_41 (Or.inr ⟨rfl, rfl, rfl, mT_at 813 (by decide +kernel) rfl⟩) rfl e_h52 rfl ?_
  refine mGo.aload_n (n := 235) (r := (some v0)) dX9_init_234 rfl rfl ?_
  refine mGo.bipush (n := 237) (v := (28 : Int32)) dX9_init_235 (by decide) rfl ?_
  obtain ⟨h53, e_h53, e⟩ := mBind e
  refine mGo.newI' (n := 239) (N := 28) dX9_init_237 (by decide) (by decide) (by decide) (mT_at 152 (by decide +kernel) rfl) (Nat.le_of_ble_eq_true rfl) (Nat.le_of_ble_eq_true rfl) rfl e_h53 ?_
  show mGo w kX9_init 11 978 239 [some (va_rf (some v0))] [va_rf (some (h52.1 + 1)), va_rf (some v0)] h53 Q
  obtain ⟨h54, e_h54, e⟩ := mBind e
  refine mGo.putR (n := 242) dX9_init_239 sf_RX9_44 (Or.inr ⟨rfl, rfl, rfl, mT_at 816 (by decide +kernel) rfl⟩) rfl e_h54 rfl ?_
  refine mGo.aload_n (n := 243) (r := (some v0)) dX9_init_242 rfl rfl ?_
  refine mGo.bipush (n := 245) (v := (6 : Int32)) dX9_init_243 (by decide) rfl ?_
  obtain ⟨h55, e_h55, e⟩ := mBind e
  refine mGo.newI' (n := 247) (N := 6) dX9_init_245 (by decide) (by decide) (by decide) (mT_at 152 (by decide +kernel) rfl) (Nat.le_of_ble_eq_true rfl) (Nat.le_of_ble_eq_true rfl) rfl e_h55 ?_
  show mGo w kX9_init 12 984 247 [some (va_rf (some v0))] [va_rf (some (h54.1 + 1)), va_rf (some v0)] h55 Q
  obtain ⟨h56, e_h56, e⟩ := mBind e
  refine mGo.putR (n := 250) dX9_init_247 sf_RX9_47 (Or.inr ⟨rfl, rfl, rfl, mT_at 817 (by decide +kernel) rfl⟩) rfl e_h56 rfl ?_
  refine mGo.aload_n (n := 251) (r := (some v0)) dX9_init_250 rfl rfl ?_
  refine mGo.bipush (n := 253) (v := (6 : Int32)) dX9_init_251 (by decide) rfl ?_
  obtain ⟨h57, e_h57, e⟩ := mBind e
  refine mGo.newI' (n := 255) (N := 6) dX9_init_253 (by decide) (by decide) (by decide) (mT_at 152 (by decide +kernel) rfl) (Nat.le_of_ble_eq_true rfl) (Nat.le_of_ble_eq_true rfl) rfl e_h57 ?_
  show mGo w kX9_init 13 990 255 [some (va_rf (some v0))] [va_rf (some (h56.1 + 1)), va_rf (some v0)] h57 Q
  obtain ⟨h58, e_h58, e⟩ := mBind e
  refine mGo.putR (n := 258) dX9_init_255 sf_RX9_50 (Or.inr ⟨rfl, rfl, rfl, mT_at 818 (by decide +kernel) rfl⟩) rfl e_h58 rfl ?_
  refine mGo.aload_n (n := 259) (r := (some v0)) dX9_init_258 rfl rfl ?_
  refine mGo.bipush (n := 261) (v := (6 : Int32)) dX9_init_259 (by decide) rfl ?_
  obtain ⟨h59, e_h59, e⟩ := mBind e
  refine mGo.newI' (n := 263) (N := 6) dX9_init_261 (by decide) (by decide) (by decide) (mT_at 152 (by decide +kernel) rfl) (Nat.le_of_ble_eq_true rfl) (Nat.le_of_ble_eq_true rfl) rfl e_h59 ?_
  show mGo w kX9_init 14 996 263 [some (va_rf (some v0))] [va_rf (some (h58.1 + 1)), va_rf (some v0)] h59 Q
  obtain ⟨h60, e_h60, e⟩ := mBind e
  refine mGo.putR (n := 266) dX9_init_263 sf_RX9_53 (Or.inr ⟨rfl, rfl, rfl, mT_at 819 (by decide +kernel) rfl⟩) rfl e_h60 rfl ?_
  refine mGo.aload_n (n := 267) (r := (some v0)) dX9_init_266 rfl rfl ?_
  refine mGo.sipush (n := 270) (v := (144 : Int32)) dX9_init_267 (by decide) rfl ?_
  obtain ⟨h61, e_h61, e⟩ := mBind e
  refine mGo.newL' (n := 272) (N := 144) dX9_init_270 (by decide) (by decide) (by decide) (mT_at 241 (by decide +kernel) rfl) (Nat.le_of_ble_eq_true rfl) (Nat.le_of_ble_eq_true rfl) rfl e_h61 ?_
  show mGo w kX9_init 15 1140 272 [some (va_rf (some v0))] [va_rf (some (h60.1 + 1)), va_rf (some v0)] h61 Q
  obtain ⟨h62, e_h62, e⟩ := mBind e
  refine mGo.putR (n := 275) dX9_init_272 sf_RX9_56 (Or.inr ⟨rfl, rfl, rfl, mT_at 820 (by decide +kernel) rfl⟩) rfl e_h62 rfl ?_
  refine mGo.aload_n (n := 276) (r := (some v0)) dX9_init_275 rfl rfl ?_
  refine mGo.bipush (n := 278) (v := (12 : Int32)) dX9_init_276 (by decide) rfl ?_
  obtain ⟨h63, e_h63, e⟩ := mBind e
  refine mGo.newI' (n := 280) (N := 12) dX9_init_278 (by decide) (by decide) (by decide) (mT_at 152 (by decide +kernel) rfl) (Nat.le_of_ble_eq_true rfl) (Nat.le_of_ble_eq_true rfl) rfl e_h63 ?_
  show mGo w kX9_init 16 1152 280 [some (va_rf (some v0))] [va_rf (some (h62.1 + 1)), va_rf (some v0)] h63 Q
  obtain ⟨h64, e_h64, e⟩ := mBind e
  refine mGo.putR (n := 283) dX9_init_280 sf_RX9_60 (Or.inr ⟨rfl, rfl, rfl, mT_at 821 (by decide +kernel) rfl⟩) rfl e_h64 rfl ?_
  refine mGo.aload_n (n := 284) (r := (some v0)) dX9_init_283 rfl rfl ?_
  refine mGo.bipush (n := 286) (v := (12 : Int32)) dX9_init_284 (by decide) rfl ?_
  obtain ⟨h65, e_h65, e⟩ := mBind e
  refine mGo.newI' (n := 288) (N := 12) dX9_init_286 (by decide) (by decide) (by decide) (mT_at 152 (by decide +kernel) rfl) (Nat.le_of_ble_eq_true rfl) (Nat.le_of_ble_eq_true rfl) rfl e_h65 ?_
  show mGo w kX9_init 17 1164 288 [some (va_rf (some v0))] [va_rf (some (h64.1 + 1)), va_rf (some v0)] h65 Q
  obtain ⟨h66, e_h66, e⟩ := mBind e
  refine mGo.putR (n := 291) dX9_init_288 sf_RX9_63 (Or.inr ⟨rfl, rfl, rfl, mT_at 822 (by decide +kernel) rfl⟩) rfl e_h66 rfl ?_
  refine mGo.aload_n (n := 292) (r := (some v0)) dX9_init_291 rfl rfl ?_
  refine mGo.sipush (n := 295) (v := (156 : Int32)) dX9_init_292 (by decide) rfl ?_
  obtain ⟨h67, e_h67, e⟩ := mBind e
  refine mGo.newI' (n := 297) (N := 156) dX9_init_295 (by decide) (by decide) (by decide) (mT_at 152 (by decide +kernel) rfl) (Nat.le_of_ble_eq_true rfl) (Nat.le_of_ble_eq_true rfl) rfl e_h67 ?_
  show mGo w kX9_init 18 1320 297 [some (va_rf (some v0))] [va_rf (some (h66.1 + 1)), va_rf (some v0)] h67 Q
  obtain ⟨h68, e_h68, e⟩ := mBind e
  refine mGo.putR (n := 300) dX9_init_297 sf_RX9_66 (Or.inr ⟨rfl, rfl, rfl, mT_at 823 (by decide +kernel) rfl⟩) rfl e_h68 rfl ?_
  refine mGo.aload_n (n := 301) (r := (some v0)) dX9_init_300 rfl rfl ?_
  refine mGo.sipush (n := 304) (v := (156 : Int32)) dX9_init_301 (by decide) rfl ?_
  obtain ⟨h69, e_h69, e⟩ := mBind e
  refine mGo.newI' (n := 306) (N := 156) dX9_init_304 (by decide) (by decide) (by decide) (mT_at 152 (by decide +kernel) rfl) (Nat.le_of_ble_eq_true rfl) (Nat.le_of_ble_eq_true rfl) rfl e_h69 ?_
  show mGo w kX9_init 19 1476 306 [some (va_rf (some v0))] [va_rf (some (h68.1 + 1)), va_rf (some v0)] h69 Q
  obtain ⟨h70, e_h70, e⟩ := mBind e
  refine mGo.putR (n := 309) dX9_init_306 sf_RX9_69 (Or.inr ⟨rfl, rfl, rfl, mT_at 824 (by decide +kernel) rfl⟩) rfl e_h70 rfl ?_
  refine mGo.aload_n (n := 310) (r := (some v0)) dX9_init_309 rfl rfl ?_
  refine mGo.bipush (n := 312) (v := (28 : Int32)) dX9_init_310 (by decide) rfl ?_
  obtain ⟨h71, e_h71, e⟩ := mBind e
  refine mGo.newI' (n := 314) (N := 28) dX9_init_312 (by decide) (by decide) (by decide) (mT_at 152 (by decide +kernel) rfl) (Nat.le_of_ble_eq_true rfl) (Nat.le_of_ble_eq_true rfl) rfl e_h71 ?_
  show mGo w kX9_init 20 1504 314 [some (va_rf (some v0))] [va_rf (some (h70.1 + 1)), va_rf (some v0)] h71 Q
  obtain ⟨h72, e_h72, e⟩ := mBind e
  refine mGo.putR (n := 317) dX9_init_314 sf_RX9_72 (Or.inr ⟨rfl, rfl, rfl, mT_at 825 (by decide +kernel) rfl⟩) rfl e_h72 rfl ?_
  refine mGo.aload_n (n := 318) (r := (some v0)) dX9_init_317 rfl rfl ?_
  refine mGo.bipush (n := 320) (v := (8 : Int32)) dX9_init_318 (by decide) rfl ?_
  obtain ⟨h73, e_h73, e⟩ := mBind e
  refine mGo.newI' (n := 322) (N := 8) dX9_init_320 (by decide) (by decide) (by decide) (mT_at 152 (by decide +kernel) rfl) (Nat.le_of_ble_eq_true rfl) (Nat.le_of_ble_eq_true rfl) rfl e_h73 ?_
  show mGo w kX9_init 21 1512 322 [some (va_rf (some v0))] [va_rf (some (h72.1 + 1)), va_rf (some v0)] h73 Q
  obtain ⟨h74, e_h74, e⟩ := mBind e
  refine mGo.putR (n := 325) dX9_init_322 sf_RX9_75 (Or.inr ⟨rfl, rfl, rfl, mT_at 826 (by decide +kernel) rfl⟩) rfl e_h74 rfl ?_
  cases e
  exact mGo.vret dX9_init_325 rfl (Nat.le_of_ble_eq_true rfl) (Nat.le_of_ble_eq_true rfl) q
theorem e_X9_init {w : mWp} (v0 : Nat) (h : mH) {res : mH} (e : f_X9_init v0 h = some res) : mEx w zX9_init (mRoom 2 21 1512) [va_rf (some v0)] h (fun r h2 => r = none ∧ h2 = res) := by
  refine mEx.of (by decide +kernel) (show mEnt [va_rf (some v0)] 1 = [some (va_rf (some v0))] by rw [mEnt_r] <;> rfl) (by simp only [List.map_cons, List.map_nil, mRfc, mCi, mCj, List.sum_cons, List.sum_nil]; exact Nat.le_of_ble_eq_true rfl) ?_
  refine g_X9_init v0 h e ?_
  exact ⟨rfl, rfl⟩
theorem s_X9_init (v0 : Nat) (h : mH) {res : mH} (e : f_X9_init v0 h = some res) : mIs h (some v0) 8 = some () := by
  unfold f_X9_init at e
  obtain ⟨u, e1, _⟩ := mBind e
  cases u
  exact e1
