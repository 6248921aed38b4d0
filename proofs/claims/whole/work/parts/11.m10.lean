-- X9_best
def kX9_best : mK := (cX9_best, RX9, 8, some (.int), "best", mRoom 4 0 0)
def zX9_best : mY := (yX9_best, cX9_best, 8, some (.int))
def f_X9_best_b60 (v0 : Option Nat) (v1 : Int32) (v2 : Int32) (v3 : Int32) (v4 : Int32) (v5 : Int32) (v6 : Int32) (v7 : Int32) (h : mH) : Option ((Int32 × Int32) ⊕ ((Int32 × Int32 × Int32) ⊕ (Int32))) :=
  (mGR h v0 8 1).bind fun x1 =>
  (mAI h x1 v1).bind fun x2 =>
  if x2 ≤ v7 then
    if v4 < v6 then
      some (Sum.inr (Sum.inl (v5, v6, (v5 + 1))))
    else
      some (Sum.inr (Sum.inl (v3, v4, (v5 + 1))))
  else
    (f_X9_rowOf v0 v1 v7 h).bind fun x3 =>
    (mGR h v0 8 1).bind fun x4 =>
    (mAI h x4 v1).bind fun x5 =>
    (f_X9_sizeOf (x3 ^^^ v5) x5).bind fun x6 =>
    some (Sum.inl ((v6 + x6), (v7 + 1)))
set_option maxRecDepth 100000 in
set_option maxHeartbeats 4000000 in
theorem g_X9_best_b60 {w : mWp} {Q : Option Value → mH → Prop} (v0 : Option Nat) (v1 : Int32) (v2 : Int32) (v3 : Int32) (v4 : Int32) (v5 : Int32) (v6 : Int32) (v7 : Int32) (h : mH) {res : (Int32 × Int32) ⊕ ((Int32 × Int32 × Int32) ⊕ (Int32))} (e : f_X9_best_b60 v0 v1 v2 v3 v4 v5 v6 v7 h = some res) (q : (Sum.elim (fun x : Int32 × Int32 => mGo w kX9_best 0 0 60 [some (va_rf v0), some (.int v1), some (.int v2), some (.int v3), some (.int v4), some (.int v5), some (.int x.1), some (.int x.2)] [] h Q) (Sum.elim (fun x : Int32 × Int32 × Int32 => mGo w kX9_best 0 0 41 [some (va_rf v0), some (.int v1), some (.int v2), some (.int x.1), some (.int x.2.1), some (.int x.2.2), none, none] [] h Q) (fun r : Int32 => Q (some (.int r)) h))) res) : mGo w kX9_best 0 0 60 [some (va_rf v0), some (.int v1), some (.int v2), some (.int v3), some (.int v4), some (.int v5), some (.int v6), some (.int v7)] [] h Q := by
  unfold f_X9_best_b60 at e
  refine mGo.iload (n := 62) (x := v7) dX9_best_60 rfl rfl ?_
  refine mGo.aload_n (n := 63) (r := v0) dX9_best_62 rfl rfl ?_
  obtain ⟨x1, e_x1, e⟩ := mBind e
  refine mGo.getR (n := 66) dX9_best_63 sf_RX9_13 e_x1 rfl ?_
  refine mGo.iload_n (n := 67) (x := v1) dX9_best_66 rfl rfl ?_
  obtain ⟨x2, e_x2, e⟩ := mBind e
  refine mGo.iald (n := 68) dX9_best_67 e_x2 rfl ?_
  refine mGo.icmp_ge (tgt := 101) (n := 71) dX9_best_68 (by decide) rfl (fun hc => ?_) (fun hc => ?_)
  · replace e := mIft hc e
    refine mGo.iload (n := 103) (x := v6) dX9_best_101 rfl rfl ?_
    refine mGo.iload (n := 105) (x := v4) dX9_best_103 rfl rfl ?_
    refine mGo.icmp_gt (tgt := 111) (n := 108) dX9_best_105 (by decide) rfl (fun hc => ?_) (fun hc => ?_)
    · replace e := mIft hc e
      refine mGo.iload (n := 113) (x := v6) dX9_best_111 rfl rfl ?_
      refine mGo.istore (n := 115) (ls' := [some (va_rf v0), some (.int v1), some (.int v2), some (.int v3), some (.int v6), some (.int v5), some (.int v6), some (.int v7)]) dX9_best_113 rfl (Nat.le_of_ble_eq_true rfl) rfl ?_
      refine mGo.iload (n := 117) (x := v5) dX9_best_115 rfl rfl ?_
      refine mGo.istore_n (n := 118) (ls' := [some (va_rf v0), some (.int v1), some (.int v2), some (.int v5), some (.int v6), some (.int v5), some (.int v6), some (.int v7)]) dX9_best_117 rfl (Nat.le_of_ble_eq_true rfl) rfl ?_
      refine mGo.iinc (n := 121) (x := v5) (v := (v5 + 1)) (ls' := [some (va_rf v0), some (.int v1), some (.int v2), some (.int v5), some (.int v6), some (.int (v5 + 1)), some (.int v6), some (.int v7)]) dX9_best_118 rfl rfl rfl (Nat.le_of_ble_eq_true rfl) rfl ?_
      refine mGo.goto (tgt := 41) dX9_best_121 (by decide) ?_
      cases e
      refine mGo.mk [true, true, true, true, true, true, false, false] ?_
      exact q
    · replace e := mIff hc e
      refine mGo.goto (tgt := 118) dX9_best_108 (by decide) ?_
      refine mGo.iinc (n := 121) (x := v5) (v := (v5 + 1)) (ls' := [some (va_rf v0), some (.int v1), some (.int v2), some (.int v3), some (.int v4), some (.int (v5 + 1)), some (.int v6), some (.int v7)]) dX9_best_118 rfl rfl rfl (Nat.le_of_ble_eq_true rfl) rfl ?_
      refine mGo.goto (tgt := 41) dX9_best_121 (by decide) ?_
      cases e
      refine mGo.mk [true, true, true, true, true, true, false, false] ?_
      exact q
  · replace e := mIff hc e
    refine mGo.iload (n := 73) (x := v6) dX9_best_71 rfl rfl ?_
    refine mGo.aload_n (n := 74) (r := v0) dX9_best_73 rfl rfl ?_
    refine mGo.iload_n (n := 75) (x := v1) dX9_best_74 rfl rfl ?_
    refine mGo.iload (n := 77) (x := v7) dX9_best_75 rfl rfl ?_
    obtain ⟨x3, e_x3, e⟩ := mBind e
    refine mGo.callV (n := 80) (y := zX9_rowOf) (R' := (mRoom (1) 0 0)) (as := [.int v1, .int v7]) (st := [.int v6]) (r0 := v0) dX9_best_77 sc_RX9_90 rfl (s_X9_rowOf v0 v1 v7 h e_x3) (e_X9_rowOf v0 v1 v7 h e_x3) (mFit_of rfl (Nat.le_of_ble_eq_true rfl) (by decide) (Nat.le_of_ble_eq_true rfl) (Nat.le_of_ble_eq_true rfl)) (Nat.le_of_ble_eq_true rfl) rfl rfl ?_
    intro _ _ hq
    rw [hq.1, hq.2]
    show mGo w kX9_best 0 0 80 [some (va_rf v0), some (.int v1), some (.int v2), some (.int v3), some (.int v4), some (.int v5), some (.int v6), some (.int v7)] [.int x3, .int v6] h Q
    refine mGo.iload (n := 82) (x := v5) dX9_best_80 rfl rfl ?_
    refine mGo.ixor (n := 83) dX9_best_82 rfl ?_
    refine mGo.aload_n (n := 84) (r := v0) dX9_best_83 rfl rfl ?_
    obtain ⟨x4, e_x4, e⟩ := mBind e
    refine mGo.getR (n := 87) dX9_best_84 sf_RX9_13 e_x4 rfl ?_
    refine mGo.iload_n (n := 88) (x := v1) dX9_best_87 rfl rfl ?_
    obtain ⟨x5, e_x5, e⟩ := mBind e
    refine mGo.iald (n := 89) dX9_best_88 e_x5 rfl ?_
    obtain ⟨x6, e_x6, e⟩ := mBind e
    refine mGo.callS (n := 92) (y := zX9_sizeOf) (R' := (mRoom (3) 0 0)) (as := [.int (x3 ^^^ v5), .int x5]) (st := [.int v6]) dX9_best_89 sc_RX9_193 rfl (e_X9_sizeOf (x3 ^^^ v5) x5 h e_x6) (mFit_of rfl (Nat.le_of_ble_eq_true rfl) (by decide) (Nat.le_of_ble_eq_true rfl) (Nat.le_of_ble_eq_true rfl)) (Nat.le_of_ble_eq_true rfl) rfl rfl ?_
    intro _ _ hq
    rw [hq.1, hq.2]
    show mGo w kX9_best 0 0 92 [some (va_rf v0), some (.int v1), some (.int v2), some (.int v3), some (.int v4), some (.int v5), some (.int v6), some (.int v7)] [.int x6, .int v6] h Q
    refine mGo.iadd (n := 93) dX9_best_92 rfl ?_
    refine mGo.istore (n := 95) (ls' := [some (va_rf v0), some (.int v1), some (.int v2), some (.int v3), some (.int v4), some (.int v5), some (.int (v6 + x6)), some (.int v7)]) dX9_best_93 rfl (Nat.le_of_ble_eq_true rfl) rfl ?_
    refine mGo.iinc (n := 98) (x := v7) (v := (v7 + 1)) (ls' := [some (va_rf v0), some (.int v1), some (.int v2), some (.int v3), some (.int v4), some (.int v5), some (.int (v6 + x6)), some (.int (v7 + 1))]) dX9_best_95 rfl rfl rfl (Nat.le_of_ble_eq_true rfl) rfl ?_
    refine mGo.goto (tgt := 60) dX9_best_98 (by decide) ?_
    cases e
    refine mGo.mk [true, true, true, true, true, true, true, true] ?_
    exact q
noncomputable def f_X9_best_l60 (v0 : Option Nat) (v1 : Int32) (v2 : Int32) (v3 : Int32) (v4 : Int32) (v5 : Int32) (v6 : Int32) (v7 : Int32) (h : mH) : Option ((Int32 × Int32 × Int32) ⊕ (Int32)) :=
  mLoop (fun x : Int32 × Int32 => f_X9_best_b60 v0 v1 v2 v3 v4 v5 x.1 x.2 h) (v6, v7)
set_option maxRecDepth 100000 in
set_option maxHeartbeats 4000000 in
theorem g_X9_best_l60 {w : mWp} {Q : Option Value → mH → Prop} (v0 : Option Nat) (v1 : Int32) (v2 : Int32) (v3 : Int32) (v4 : Int32) (v5 : Int32) (v6 : Int32) (v7 : Int32) (h : mH) {res : (Int32 × Int32 × Int32) ⊕ (Int32)} (e : f_X9_best_l60 v0 v1 v2 v3 v4 v5 v6 v7 h = some res) (q : (Sum.elim (fun x : Int32 × Int32 × Int32 => mGo w kX9_best 0 0 41 [some (va_rf v0), some (.int v1), some (.int v2), some (.int x.1), some (.int x.2.1), some (.int x.2.2), none, none] [] h Q) (fun r : Int32 => Q (some (.int r)) h)) res) : mGo w kX9_best 0 0 60 [some (va_rf v0), some (.int v1), some (.int v2), some (.int v3), some (.int v4), some (.int v5), some (.int v6), some (.int v7)] [] h Q := by
  unfold f_X9_best_l60 at e
  refine mLoop_go (x := (v6, v7)) (fun x : Int32 × Int32 => mGo w kX9_best 0 0 60 [some (va_rf v0), some (.int v1), some (.int v2), some (.int v3), some (.int v4), some (.int v5), some (.int x.1), some (.int x.2)] [] h Q) (Sum.elim (fun x : Int32 × Int32 × Int32 => mGo w kX9_best 0 0 41 [some (va_rf v0), some (.int v1), some (.int v2), some (.int x.1), some (.int x.2.1), some (.int x.2.2), none, none] [] h Q) (fun r : Int32 => Q (some (.int r)) h)) ?_ e q
  rintro ⟨v6, v7⟩ res e q
  exact g_X9_best_b60 v0 v1 v2 v3 v4 v5 v6 v7 h e q
noncomputable def f_X9_best_b41 (v0 : Option Nat) (v1 : Int32) (v2 : Int32) (v3 : Int32) (v4 : Int32) (v5 : Int32) (h : mH) : Option ((Int32 × Int32 × Int32) ⊕ (Int32)) :=
  (mGR h v0 8 1).bind fun x1 =>
  (mAI h x1 v1).bind fun x2 =>
  if ((1 : Int32) <<< (x2 &&& 31)) ≤ v5 then
    if v2 = 0 then
      some (Sum.inr v4)
    else
      some (Sum.inr v3)
  else
    f_X9_best_l60 v0 v1 v2 v3 v4 v5 (0 : Int32) (0 : Int32) h
set_option maxRecDepth 100000 in
set_option maxHeartbeats 4000000 in
theorem g_X9_best_b41 {w : mWp} {Q : Option Value → mH → Prop} (v0 : Option Nat) (v1 : Int32) (v2 : Int32) (v3 : Int32) (v4 : Int32) (v5 : Int32) (h : mH) {res : (Int32 × Int32 × Int32) ⊕ (Int32)} (e : f_X9_best_b41 v0 v1 v2 v3 v4 v5 h = some res) (q : (Sum.elim (fun x : Int32 × Int32 × Int32 => mGo w kX9_best 0 0 41 [some (va_rf v0), some (.int v1), some (.int v2), some (.int x.1), some (.int x.2.1), some (.int x.2.2), none, none] [] h Q) (fun r : Int32 => Q (some (.int r)) h)) res) : mGo w kX9_best 0 0 41 [some (va_rf v0), some (.int v1), some (.int v2), some (.int v3), some (.int v4), some (.int v5), none, none] [] h Q := by
  unfold f_X9_best_b41 at e
  refine mGo.iload (n := 43) (x := v5) dX9_best_41 rfl rfl ?_
  refine mGo.iconst (n := 44) (v := (1 : Int32)) dX9_best_43 (by decide) rfl ?_
  refine mGo.aload_n (n := 45) (r := v0) dX9_best_44 rfl rfl ?_
  obtain ⟨x1, e_x1, e⟩ := mBind e
  refine mGo.getR (n := 48) dX9_best_45 sf_RX9_13 e_x1 rfl ?_
  refine mGo.iload_n (n := 49) (x := v1) dX9_best_48 rfl rfl ?_
  obtain ⟨x2, e_x2, e⟩ := mBind e
  refine mGo.iald (n := 50) dX9_best_49 e_x2 rfl ?_
  refine mGo.ishl (n := 51) dX9_best_50 rfl ?_
  refine mGo.icmp_ge (tgt := 124) (n := 54) dX9_best_51 (by decide) rfl (fun hc => ?_) (fun hc => ?_)
  · replace e := mIft hc e
    refine mGo.iload_n (n := 125) (x := v2) dX9_best_124 rfl rfl ?_
    refine mGo.if_ne (tgt := 133) (n := 128) dX9_best_125 (by decide) rfl (fun hc => ?_) (fun hc => ?_)
    · replace e := mIff hc e
      refine mGo.iload_n (n := 134) (x := v3) dX9_best_133 rfl rfl ?_
      cases e
      exact mGo.iret dX9_best_134 rfl (Nat.le_of_ble_eq_true rfl) (Nat.le_of_ble_eq_true rfl) q
    · replace e := mIft hc e
      refine mGo.iload (n := 130) (x := v4) dX9_best_128 rfl rfl ?_
      refine mGo.goto (tgt := 134) dX9_best_130 (by decide) ?_
      cases e
      exact mGo.iret dX9_best_134 rfl (Nat.le_of_ble_eq_true rfl) (Nat.le_of_ble_eq_true rfl) q
  · replace e := mIff hc e
    refine mGo.iconst (n := 55) (v := (0 : Int32)) dX9_best_54 (by decide) rfl ?_
    refine mGo.istore (n := 57) (ls' := [some (va_rf v0), some (.int v1), some (.int v2), some (.int v3), some (.int v4), some (.int v5), some (.int (0 : Int32)), none]) dX9_best_55 rfl (Nat.le_of_ble_eq_true rfl) rfl ?_
    refine mGo.iconst (n := 58) (v := (0 : Int32)) dX9_best_57 (by decide) rfl ?_
    refine mGo.istore (n := 60) (ls' := [some (va_rf v0), some (.int v1), some (.int v2), some (.int v3), some (.int v4), some (.int v5), some (.int (0 : Int32)), some (.int (0 : Int32))]) dX9_best_58 rfl (Nat.le_of_ble_eq_true rfl) rfl ?_
    refine mGo.mk [true, true, true, true, true, true, true, true] ?_
    exact g_X9_best_l60 v0 v1 v2 v3 v4 v5 (0 : Int32) (0 : Int32) h e q
noncomputable def f_X9_best_l41 (v0 : Option Nat) (v1 : Int32) (v2 : Int32) (v3 : Int32) (v4 : Int32) (v5 : Int32) (h : mH) : Option (Int32) :=
  mLoop (fun x : Int32 × Int32 × Int32 => f_X9_best_b41 v0 v1 v2 x.1 x.2.1 x.2.2 h) (v3, v4, v5)
set_option maxRecDepth 100000 in
set_option maxHeartbeats 4000000 in
theorem g_X9_best_l41 {w : mWp} {Q : Option Value → mH → Prop} (v0 : Option Nat) (v1 : Int32) (v2 : Int32) (v3 : Int32) (v4 : Int32) (v5 : Int32) (h : mH) {res : Int32} (e : f_X9_best_l41 v0 v1 v2 v3 v4 v5 h = some res) (q : (fun r : Int32 => Q (some (.int r)) h) res) : mGo w kX9_best 0 0 41 [some (va_rf v0), some (.int v1), some (.int v2), some (.int v3), some (.int v4), some (.int v5), none, none] [] h Q := by
  unfold f_X9_best_l41 at e
  refine mLoop_go (x := (v3, v4, v5)) (fun x : Int32 × Int32 × Int32 => mGo w kX9_best 0 0 41 [some (va_rf v0), some (.int v1), some (.int v2), some (.int x.1), some (.int x.2.1), some (.int x.2.2), none, none] [] h Q) (fun r : Int32 => Q (some (.int r)) h) ?_ e q
  rintro ⟨v3, v4, v5⟩ res e q
  exact g_X9_best_b41 v0 v1 v2 v3 v4 v5 h e q
noncomputable def f_X9_best (v0 : Option Nat) (v1 : Int32) (v2 : Int32) (h : mH) : Option (Int32) :=
  (mIs h v0 8).bind fun _ =>
  (f_X9_isTable v0 v1 h).bind fun x1 =>
  if x1 = 0 then
    some (-1 : Int32)
  else
    (f_X9_in v2 (0 : Int32) (1 : Int32)).bind fun x2 =>
    if x2 = 0 then
      some (-1 : Int32)
    else
      (mGR h v0 8 1).bind fun x3 =>
      (mAI h x3 v1).bind fun x4 =>
      if x4 ≤ (16 : Int32) then
        f_X9_best_l41 v0 v1 v2 (0 : Int32) (-1 : Int32) (0 : Int32) h
      else
        some (-2 : Int32)
set_option maxRecDepth 100000 in
set_option maxHeartbeats 4000000 in
theorem g_X9_best {w : mWp} {Q : Option Value → mH → Prop} (v0 : Option Nat) (v1 : Int32) (v2 : Int32) (h : mH) {res : Int32} (e : f_X9_best v0 v1 v2 h = some res) (q : (fun r : Int32 => Q (some (.int r)) h) res) : mGo w kX9_best 0 0 0 [some (va_rf v0), some (.int v1), some (.int v2), none, none, none, none, none] [] h Q := by
  unfold f_X9_best at e
  obtain ⟨_, _, e⟩ := mBind e
  refine mGo.aload_n (n := 1) (r := v0) dX9_best_0 rfl rfl ?_
  refine mGo.iload_n (n := 2) (x := v1) dX9_best_1 rfl rfl ?_
  obtain ⟨x1, e_x1, e⟩ := mBind e
  refine mGo.callV (n := 5) (y := zX9_isTable) (R' := (mRoom (2) 0 0)) (as := [.int v1]) (st := []) (r0 := v0) dX9_best_2 sc_RX9_86 rfl (s_X9_isTable v0 v1 h e_x1) (e_X9_isTable v0 v1 h e_x1) (mFit_of rfl (Nat.le_of_ble_eq_true rfl) (by decide) (Nat.le_of_ble_eq_true rfl) (Nat.le_of_ble_eq_true rfl)) (Nat.le_of_ble_eq_true rfl) rfl rfl ?_
  intro _ _ hq
  rw [hq.1, hq.2]
  show mGo w kX9_best 0 0 5 [some (va_rf v0), some (.int v1), some (.int v2), none, none, none, none, none] [.int x1] h Q
  refine mGo.if_eq (tgt := 17) (n := 8) dX9_best_5 (by decide) rfl (fun hc => ?_) (fun hc => ?_)
  · replace e := mIft hc e
    refine mGo.iconst (n := 18) (v := (-1 : Int32)) dX9_best_17 (by decide) rfl ?_
    cases e
    exact mGo.iret dX9_best_18 rfl (Nat.le_of_ble_eq_true rfl) (Nat.le_of_ble_eq_true rfl) q
  · replace e := mIff hc e
    refine mGo.iload_n (n := 9) (x := v2) dX9_best_8 rfl rfl ?_
    refine mGo.iconst (n := 10) (v := (0 : Int32)) dX9_best_9 (by decide) rfl ?_
    refine mGo.iconst (n := 11) (v := (1 : Int32)) dX9_best_10 (by decide) rfl ?_
    obtain ⟨x2, e_x2, e⟩ := mBind e
    refine mGo.callS (n := 14) (y := zX9_in) (R' := (mRoom (1) 0 0)) (as := [.int v2, .int (0 : Int32), .int (1 : Int32)]) (st := []) dX9_best_11 sc_RX9_82 rfl (e_X9_in v2 (0 : Int32) (1 : Int32) h e_x2) (mFit_of rfl (Nat.le_of_ble_eq_true rfl) (by decide) (Nat.le_of_ble_eq_true rfl) (Nat.le_of_ble_eq_true rfl)) (Nat.le_of_ble_eq_true rfl) rfl rfl ?_
    intro _ _ hq
    rw [hq.1, hq.2]
    show mGo w kX9_best 0 0 14 [some (va_rf v0), some (.int v1), some (.int v2), none, none, none, none, none] [.int x2] h Q
    refine mGo.if_ne (tgt := 19) (n := 17) dX9_best_14 (by decide) rfl (fun hc => ?_) (fun hc => ?_)
    · replace e := mIff hc e
      refine mGo.aload_n (n := 20) (r := v0) dX9_best_19 rfl rfl ?_
      obtain ⟨x3, e_x3, e⟩ := mBind e
      refine mGo.getR (n := 23) dX9_best_20 sf_RX9_13 e_x3 rfl ?_
      refine mGo.iload_n (n := 24) (x := v1) dX9_best_23 rfl rfl ?_
      obtain ⟨x4, e_x4, e⟩ := mBind e
      refine mGo.iald (n := 25) dX9_best_24 e_x4 rfl ?_
      refine mGo.bipush (n := 27) (v := (16 : Int32)) dX9_best_25 (by decide) rfl ?_
      refine mGo.icmp_le (tgt := 33) (n := 30) dX9_best_27 (by decide) rfl (fun hc => ?_) (fun hc => ?_)
      · replace e := mIft hc e
        refine mGo.iconst (n := 34) (v := (0 : Int32)) dX9_best_33 (by decide) rfl ?_
        refine mGo.istore_n (n := 35) (ls' := [some (va_rf v0), some (.int v1), some (.int v2), some (.int (0 : Int32)), none, none, none, none]) dX9_best_34 rfl (Nat.le_of_ble_eq_true rfl) rfl ?_
        refine mGo.iconst (n := 36) (v := (-1 : Int32)) dX9_best_35 (by decide) rfl ?_
        refine mGo.istore (n := 38) (ls' := [some (va_rf v0), some (.int v1), some (.int v2), some (.int (0 : Int32)), some (.int (-1 : Int32)), none, none, none]) dX9_best_36 rfl (Nat.le_of_ble_eq_true rfl) rfl ?_
        refine mGo.iconst (n := 39) (v := (0 : Int32)) dX9_best_38 (by decide) rfl ?_
        refine mGo.istore (n := 41) (ls' := [some (va_rf v0), some (.int v1), some (.int v2), some (.int (0 : Int32)), some (.int (-1 : Int32)), some (.int (0 : Int32)), none, none]) dX9_best_39 rfl (Nat.le_of_ble_eq_true rfl) rfl ?_
        refine mGo.mk [true, true, true, true, true, true, false, false] ?_
        exact g_X9_best_l41 v0 v1 v2 (0 : Int32) (-1 : Int32) (0 : Int32) h e q
      · replace e := mIff hc e
        refine mGo.bipush (n := 32) (v := (-2 : Int32)) dX9_best_30 (by decide) rfl ?_
        cases e
        exact mGo.iret dX9_best_32 rfl (Nat.le_of_ble_eq_true rfl) (Nat.le_of_ble_eq_true rfl) q
    · replace e := mIft hc e
      refine mGo.iconst (n := 18) (v := (-1 : Int32)) dX9_best_17 (by decide) rfl ?_
      cases e
      exact mGo.iret dX9_best_18 rfl (Nat.le_of_ble_eq_true rfl) (Nat.le_of_ble_eq_true rfl) q
theorem e_X9_best {w : mWp} (v0 : Option Nat) (v1 : Int32) (v2 : Int32) (h : mH) {res : Int32} (e : f_X9_best v0 v1 v2 h = some res) : mEx w zX9_best (mRoom 4 0 0) [va_rf v0, .int v1, .int v2] h (fun r h2 => r = some (.int res) ∧ h2 = h) := by
  refine mEx.of (by decide +kernel) (show mEnt [va_rf v0, .int v1, .int v2] 8 = [some (va_rf v0), some (.int v1), some (.int v2), none, none, none, none, none] by rw [mEnt_r, mEnt_i, mEnt_i] <;> rfl) (by simp only [List.map_cons, List.map_nil, mRfc, mCi, mCj, List.sum_cons, List.sum_nil]; exact Nat.le_of_ble_eq_true rfl) ?_
  refine g_X9_best v0 v1 v2 h e ?_
  exact ⟨rfl, rfl⟩
theorem s_X9_best (v0 : Option Nat) (v1 : Int32) (v2 : Int32) (h : mH) {res : Int32} (e : f_X9_best v0 v1 v2 h = some res) : mIs h v0 8 = some () := by
  unfold f_X9_best at e
  obtain ⟨u, e1, _⟩ := mBind e
  cases u
  exact e1
-- X9_laysLines
def kX9_laysLines : mK := (cX9_laysLines, RX9, 4, none, "laysLines", mRoom 5 0 0)
def zX9_laysLines : mY := (yX9_laysLines, cX9_laysLines, 4, none)
noncomputable def f_X9_laysLines_b2 (v0 : Option Nat) (v1 : Int32) (v2 : Int32) (v3 : Int32) (h : mH) : Option ((Int32 × mH) ⊕ (mH)) :=
  (mGR h v0 8 1).bind fun x1 =>
  (mAI h x1 v1).bind fun x2 =>
  if x2 ≤ v3 then
    some (Sum.inr h)
  else
    (mGR h v0 8 14).bind fun x3 =>
    (f_X9_lineOf v0 v1 v2 v3 h).bind fun x4 =>
    (mSI h x3 v3 x4).bind fun h5 =>
    some (Sum.inl ((v3 + 1), h5))
set_option maxRecDepth 100000 in
set_option maxHeartbeats 4000000 in
theorem g_X9_laysLines_b2 {w : mWp} {Q : Option Value → mH → Prop} (v0 : Option Nat) (v1 : Int32) (v2 : Int32) (v3 : Int32) (h : mH) {res : (Int32 × mH) ⊕ (mH)} (e : f_X9_laysLines_b2 v0 v1 v2 v3 h = some res) (q : (Sum.elim (fun x : Int32 × mH => mGo w kX9_laysLines 0 0 2 [some (va_rf v0), some (.int v1), some (.int v2), some (.int x.1)] [] x.2 Q) (fun r : mH => Q none r)) res) : mGo w kX9_laysLines 0 0 2 [some (va_rf v0), some (.int v1), some (.int v2), some (.int v3)] [] h Q := by
  unfold f_X9_laysLines_b2 at e
  refine mGo.iload_n (n := 3) (x := v3) dX9_laysLines_2 rfl rfl ?_
  refine mGo.aload_n (n := 4) (r := v0) dX9_laysLines_3 rfl rfl ?_
  obtain ⟨x1, e_x1, e⟩ := mBind e
  refine mGo.getR (n := 7) dX9_laysLines_4 sf_RX9_13 e_x1 rfl ?_
  refine mGo.iload_n (n := 8) (x := v1) dX9_laysLines_7 rfl rfl ?_
  obtain ⟨x2, e_x2, e⟩ := mBind e
  refine mGo.iald (n := 9) dX9_laysLines_8 e_x2 rfl ?_
  refine mGo.icmp_ge (tgt := 31) (n := 12) dX9_laysLines_9 (by decide) rfl (fun hc => ?_) (fun hc => ?_)
  · replace e := mIft hc e
    cases e
    exact mGo.vret dX9_laysLines_31 rfl (Nat.le_of_ble_eq_true rfl) (Nat.le_of_ble_eq_true rfl) q
  · replace e := mIff hc e
    refine mGo.aload_n (n := 13) (r := v0) dX9_laysLines_12 rfl rfl ?_
    obtain ⟨x3, e_x3, e⟩ := mBind e
    refine mGo.getR (n := 16) dX9_laysLines_13 sf_RX9_44 e_x3 rfl ?_
    refine mGo.iload_n (n := 17) (x := v3) dX9_laysLines_16 rfl rfl ?_
    refine mGo.aload_n (n := 18) (r := v0) dX9_laysLines_17 rfl rfl ?_
    refine mGo.iload_n (n := 19) (x := v1) dX9_laysLines_18 rfl rfl ?_
    refine mGo.iload_n (n := 20) (x := v2) dX9_laysLines_19 rfl rfl ?_
    refine mGo.iload_n (n := 21) (x := v3) dX9_laysLines_20 rfl rfl ?_
    obtain ⟨x4, e_x4, e⟩ := mBind e
    refine mGo.callV (n := 24) (y := zX9_lineOf) (R' := (mRoom (4) 0 0)) (as := [.int v1, .int v2, .int v3]) (st := [.int v3, va_rf x3]) (r0 := v0) dX9_laysLines_21 sc_RX9_196 rfl (s_X9_lineOf v0 v1 v2 v3 h e_x4) (e_X9_lineOf v0 v1 v2 v3 h e_x4) (mFit_of rfl (Nat.le_of_ble_eq_true rfl) (by decide) (Nat.le_of_ble_eq_true rfl) (Nat.le_of_ble_eq_true rfl)) (mCat8 (Nat.le_of_ble_eq_true rfl)) rfl rfl ?_
    intro _ _ hq
    rw [hq.1, hq.2]
    show mGo w kX9_laysLines 0 0 24 [some (va_rf v0), some (.int v1), some (.int v2), some (.int v3)] [.int x4, .int v3, va_rf x3] h Q
    obtain ⟨h5, e_h5, e⟩ := mBind e
    refine mGo.iast (n := 25) dX9_laysLines_24 e_h5 rfl ?_
    refine mGo.iinc (n := 28) (x := v3) (v := (v3 + 1)) (ls' := [some (va_rf v0), some (.int v1), some (.int v2), some (.int (v3 + 1))]) dX9_laysLines_25 rfl rfl rfl (Nat.le_of_ble_eq_true rfl) rfl ?_
    refine mGo.goto (tgt := 2) dX9_laysLines_28 (by decide) ?_
    cases e
    refine mGo.mk [true, true, true, true] ?_
    exact q
noncomputable def f_X9_laysLines_l2 (v0 : Option Nat) (v1 : Int32) (v2 : Int32) (v3 : Int32) (h : mH) : Option (mH) :=
  mLoop (fun x : Int32 × mH => f_X9_laysLines_b2 v0 v1 v2 x.1 x.2) (v3, h)
set_option maxRecDepth 100000 in
set_option maxHeartbeats 4000000 in
theorem g_X9_laysLines_l2 {w : mWp} {Q : Option Value → mH → Prop} (v0 : Option Nat) (v1 : Int32) (v2 : Int32) (v3 : Int32) (h : mH) {res : mH} (e : f_X9_laysLines_l2 v0 v1 v2 v3 h = some res) (q : (fun r : mH => Q none r) res) : mGo w kX9_laysLines 0 0 2 [some (va_rf v0), some (.int v1), some (.int v2), some (.int v3)] [] h Q := by
  unfold f_X9_laysLines_l2 at e
  refine mLoop_go (x := (v3, h)) (fun x : Int32 × mH => mGo w kX9_laysLines 0 0 2 [some (va_rf v0), some (.int v1), some (.int v2), some (.int x.1)] [] x.2 Q) (fun r : mH => Q none r) ?_ e q
  rintro ⟨v3, h1⟩ res e q
  exact g_X9_laysLines_b2 v0 v1 v2 v3 h1 e q
noncomputable def f_X9_laysLines (v0 : Option Nat) (v1 : Int32) (v2 : Int32) (h : mH) : Option (mH) :=
  (mIs h v0 8).bind fun _ =>
  f_X9_laysLines_l2 v0 v1 v2 (0 : Int32) h
set_option maxRecDepth 100000 in
set_option maxHeartbeats 4000000 in
theorem g_X9_laysLines {w : mWp} {Q : Option Value → mH → Prop} (v0 : Option Nat) (v1 : Int32) (v2 : Int32) (h : mH) {res : mH} (e : f_X9_laysLines v0 v1 v2 h = some res) (q : (fun r : mH => Q none r) res) : mGo w kX9_laysLines 0 0 0 [some (va_rf v0), some (.int v1), some (.int v2), none] [] h Q := by
  unfold f_X9_laysLines at e
  obtain ⟨_, _, e⟩ := mBind e
  refine mGo.iconst (n := 1) (v := (0 : Int32)) dX9_laysLines_0 (by decide) rfl ?_
  refine mGo.istore_n (n := 2) (ls' := [some (va_rf v0), some (.int v1), some (.int v2), some (.int (0 : Int32))]) dX9_laysLines_1 rfl (Nat.le_of_ble_eq_true rfl) rfl ?_
  refine mGo.mk [true, true, true, true] ?_
  exact g_X9_laysLines_l2 v0 v1 v2 (0 : Int32) h e q
theorem e_X9_laysLines {w : mWp} (v0 : Option Nat) (v1 : Int32) (v2 : Int32) (h : mH) {res : mH} (e : f_X9_laysLines v0 v1 v2 h = some res) : mEx w zX9_laysLines (mRoom 5 0 0) [va_rf v0, .int v1, .int v2] h (fun r h2 => r = none ∧ h2 = res) := by
  refine mEx.of (by decide +kernel) (show mEnt [va_rf v0, .int v1, .int v2] 4 = [some (va_rf v0), some (.int v1), some (.int v2), none] by rw [mEnt_r, mEnt_i, mEnt_i] <;> rfl) (by simp only [List.map_cons, List.map_nil, mRfc, mCi, mCj, List.sum_cons, List.sum_nil]; exact Nat.le_of_ble_eq_true rfl) ?_
  refine g_X9_laysLines v0 v1 v2 h e ?_
  exact ⟨rfl, rfl⟩
theorem s_X9_laysLines (v0 : Option Nat) (v1 : Int32) (v2 : Int32) (h : mH) {res : mH} (e : f_X9_laysLines v0 v1 v2 h = some res) : mIs h v0 8 = some () := by
  unfold f_X9_laysLines at e
  obtain ⟨u, e1, _⟩ := mBind e
  cases u
  exact e1
-- X9_fourMany
def kX9_fourMany : mK := (cX9_fourMany, RX9, 9, some (.int), "fourMany", mRoom 4 0 0)
def zX9_fourMany : mY := (yX9_fourMany, cX9_fourMany, 9, some (.int))
def f_X9_fourMany_c80 (v0 : Option Nat) (v1 : Int32) (v2 : Int32) (v3 : Int32) (v4 : Int32) (v5 : Int32) (v6 : Int32) (v7 : Int32) (v8 : Int32) (h : mH) : Option ((Int32 × Int32) ⊕ ((Int32 × Int32) ⊕ ((Int32 × Int32) ⊕ ((Int32 × Int32) ⊕ (Int32))))) :=
  (mGR h v0 8 14).bind fun x1 =>
  (mAI h x1 v5).bind fun x2 =>
  (mGR h v0 8 14).bind fun x3 =>
  (mAI h x3 v6).bind fun x4 =>
  (mGR h v0 8 14).bind fun x5 =>
  (mAI h x5 v7).bind fun x6 =>
  (mGR h v0 8 14).bind fun x7 =>
  (mAI h x7 v8).bind fun x8 =>
  (f_X9_sizeOf (((x2 ^^^ x4) ^^^ x6) ^^^ x8) v1).bind fun x9 =>
  if x9 = v2 then
    some (Sum.inl ((v4 + 1), (v8 + 1)))
  else
    some (Sum.inl (v4, (v8 + 1)))
set_option maxRecDepth 100000 in
set_option maxHeartbeats 4000000 in
theorem g_X9_fourMany_c80 {w : mWp} {Q : Option Value → mH → Prop} (v0 : Option Nat) (v1 : Int32) (v2 : Int32) (v3 : Int32) (v4 : Int32) (v5 : Int32) (v6 : Int32) (v7 : Int32) (v8 : Int32) (h : mH) {res : (Int32 × Int32) ⊕ ((Int32 × Int32) ⊕ ((Int32 × Int32) ⊕ ((Int32 × Int32) ⊕ (Int32))))} (e : f_X9_fourMany_c80 v0 v1 v2 v3 v4 v5 v6 v7 v8 h = some res) (q : (Sum.elim (fun x : Int32 × Int32 => mGo w kX9_fourMany 0 0 42 [some (va_rf v0), some (.int v1), some (.int v2), some (.int v3), some (.int x.1), some (.int v5), some (.int v6), some (.int v7), some (.int x.2)] [] h Q) (Sum.elim (fun x : Int32 × Int32 => mGo w kX9_fourMany 0 0 30 [some (va_rf v0), some (.int v1), some (.int v2), some (.int v3), some (.int x.1), some (.int v5), some (.int v6), some (.int x.2), none] [] h Q) (Sum.elim (fun x : Int32 × Int32 => mGo w kX9_fourMany 0 0 18 [some (va_rf v0), some (.int v1), some (.int v2), some (.int v3), some (.int x.1), some (.int v5), some (.int x.2), none, none] [] h Q) (Sum.elim (fun x : Int32 × Int32 => mGo w kX9_fourMany 0 0 6 [some (va_rf v0), some (.int v1), some (.int v2), some (.int v3), some (.int x.1), some (.int x.2), none, none, none] [] h Q) (fun r : Int32 => Q (some (.int r)) h))))) res) : mGo w kX9_fourMany 0 0 80 [some (va_rf v0), some (.int v1), some (.int v2), some (.int v3), some (.int v4), some (.int v5), some (.int v6), some (.int v7), some (.int v8)] [] h Q := by
  unfold f_X9_fourMany_c80 at e
  refine mGo.aload_n (n := 81) (r := v0) dX9_fourMany_80 rfl rfl ?_
  obtain ⟨x1, e_x1, e⟩ := mBind e
  refine mGo.getR (n := 84) dX9_fourMany_81 sf_RX9_44 e_x1 rfl ?_
  refine mGo.iload (n := 86) (x := v5) dX9_fourMany_84 rfl rfl ?_
  obtain ⟨x2, e_x2, e⟩ := mBind e
  refine mGo.iald (n := 87) dX9_fourMany_86 e_x2 rfl ?_
  refine mGo.aload_n (n := 88) (r := v0) dX9_fourMany_87 rfl rfl ?_
  obtain ⟨x3, e_x3, e⟩ := mBind e
  refine mGo.getR (n := 91) dX9_fourMany_88 sf_RX9_44 e_x3 rfl ?_
  refine mGo.iload (n := 93) (x := v6) dX9_fourMany_91 rfl rfl ?_
  obtain ⟨x4, e_x4, e⟩ := mBind e
  refine mGo.iald (n := 94) dX9_fourMany_93 e_x4 rfl ?_
  refine mGo.ixor (n := 95) dX9_fourMany_94 rfl ?_
  refine mGo.aload_n (n := 96) (r := v0) dX9_fourMany_95 rfl rfl ?_
  obtain ⟨x5, e_x5, e⟩ := mBind e
  refine mGo.getR (n := 99) dX9_fourMany_96 sf_RX9_44 e_x5 rfl ?_
  refine mGo.iload (n := 101) (x := v7) dX9_fourMany_99 rfl rfl ?_
  obtain ⟨x6, e_x6, e⟩ := mBind e
  refine mGo.iald (n := 102) dX9_fourMany_101 e_x6 rfl ?_
  refine mGo.ixor (n := 103) dX9_fourMany_102 rfl ?_
  refine mGo.aload_n (n := 104) (r := v0) dX9_fourMany_103 rfl rfl ?_
  obtain ⟨x7, e_x7, e⟩ := mBind e
  refine mGo.getR (n := 107) dX9_fourMany_104 sf_RX9_44 e_x7 rfl ?_
  refine mGo.iload (n := 109) (x := v8) dX9_fourMany_107 rfl rfl ?_
  obtain ⟨x8, e_x8, e⟩ := mBind e
  refine mGo.iald (n := 110) dX9_fourMany_109 e_x8 rfl ?_
  refine mGo.ixor (n := 111) dX9_fourMany_110 rfl ?_
  refine mGo.iload_n (n := 112) (x := v1) dX9_fourMany_111 rfl rfl ?_
  obtain ⟨x9, e_x9, e⟩ := mBind e
  refine mGo.callS (n := 115) (y := zX9_sizeOf) (R' := (mRoom (3) 0 0)) (as := [.int (((x2 ^^^ x4) ^^^ x6) ^^^ x8), .int v1]) (st := []) dX9_fourMany_112 sc_RX9_193 rfl (e_X9_sizeOf (((x2 ^^^ x4) ^^^ x6) ^^^ x8) v1 h e_x9) (mFit_of rfl (Nat.le_of_ble_eq_true rfl) (by decide) (Nat.le_of_ble_eq_true rfl) (Nat.le_of_ble_eq_true rfl)) (Nat.le_of_ble_eq_true rfl) rfl rfl ?_
  intro _ _ hq
  rw [hq.1, hq.2]
  show mGo w kX9_fourMany 0 0 115 [some (va_rf v0), some (.int v1), some (.int v2), some (.int v3), some (.int v4), some (.int v5), some (.int v6), some (.int v7), some (.int v8)] [.int x9] h Q
  refine mGo.iload_n (n := 116) (x := v2) dX9_fourMany_115 rfl rfl ?_
  refine mGo.icmp_ne (tgt := 122) (n := 119) dX9_fourMany_116 (by decide) rfl (fun hc => ?_) (fun hc => ?_)
  · replace e := mIff hc e
    refine mGo.iinc (n := 125) (x := v8) (v := (v8 + 1)) (ls' := [some (va_rf v0), some (.int v1), some (.int v2), some (.int v3), some (.int v4), some (.int v5), some (.int v6), some (.int v7), some (.int (v8 + 1))]) dX9_fourMany_122 rfl rfl rfl (Nat.le_of_ble_eq_true rfl) rfl ?_
    refine mGo.goto (tgt := 42) dX9_fourMany_125 (by decide) ?_
    cases e
    refine mGo.mk [true, true, true, true, true, true, true, true, true] ?_
    exact q
  · replace e := mIft hc e
    refine mGo.iinc (n := 122) (x := v4) (v := (v4 + 1)) (ls' := [some (va_rf v0), some (.int v1), some (.int v2), some (.int v3), some (.int (v4 + 1)), some (.int v5), some (.int v6), some (.int v7), some (.int v8)]) dX9_fourMany_119 rfl rfl rfl (Nat.le_of_ble_eq_true rfl) rfl ?_
    refine mGo.iinc (n := 125) (x := v8) (v := (v8 + 1)) (ls' := [some (va_rf v0), some (.int v1), some (.int v2), some (.int v3), some (.int (v4 + 1)), some (.int v5), some (.int v6), some (.int v7), some (.int (v8 + 1))]) dX9_fourMany_122 rfl rfl rfl (Nat.le_of_ble_eq_true rfl) rfl ?_
    refine mGo.goto (tgt := 42) dX9_fourMany_125 (by decide) ?_
    cases e
    refine mGo.mk [true, true, true, true, true, true, true, true, true] ?_
    exact q
def f_X9_fourMany_b42 (v0 : Option Nat) (v1 : Int32) (v2 : Int32) (v3 : Int32) (v5 : Int32) (v6 : Int32) (v7 : Int32) (v4 : Int32) (v8 : Int32) (h : mH) : Option ((Int32 × Int32) ⊕ ((Int32 × Int32) ⊕ ((Int32 × Int32) ⊕ ((Int32 × Int32) ⊕ (Int32))))) :=
  if v1 ≤ v8 then
    some (Sum.inr (Sum.inl (v4, (v7 + 1))))
  else
    if v3 = (-1 : Int32) then
      f_X9_fourMany_c80 v0 v1 v2 v3 v4 v5 v6 v7 v8 h
    else
      if v5 = v3 then
        f_X9_fourMany_c80 v0 v1 v2 v3 v4 v5 v6 v7 v8 h
      else
        if v6 = v3 then
          f_X9_fourMany_c80 v0 v1 v2 v3 v4 v5 v6 v7 v8 h
        else
          if v7 = v3 then
            f_X9_fourMany_c80 v0 v1 v2 v3 v4 v5 v6 v7 v8 h
          else
            if v8 = v3 then
              f_X9_fourMany_c80 v0 v1 v2 v3 v4 v5 v6 v7 v8 h
            else
              some (Sum.inl (v4, (v8 + 1)))
set_option maxRecDepth 100000 in
set_option maxHeartbeats 4000000 in
theorem g_X9_fourMany_b42 {w : mWp} {Q : Option Value → mH → Prop} (v0 : Option Nat) (v1 : Int32) (v2 : Int32) (v3 : Int32) (v5 : Int32) (v6 : Int32) (v7 : Int32) (v4 : Int32) (v8 : Int32) (h : mH) {res : (Int32 × Int32) ⊕ ((Int32 × Int32) ⊕ ((Int32 × Int32) ⊕ ((Int32 × Int32) ⊕ (Int32))))} (e : f_X9_fourMany_b42 v0 v1 v2 v3 v5 v6 v7 v4 v8 h = some res) (q : (Sum.elim (fun x : Int32 × Int32 => mGo w kX9_fourMany 0 0 42 [some (va_rf v0), some (.int v1), some (.int v2), some (.int v3), some (.int x.1), some (.int v5), some (.int v6), some (.int v7), some (.int x.2)] [] h Q) (Sum.elim (fun x : Int32 × Int32 => mGo w kX9_fourMany 0 0 30 [some (va_rf v0), some (.int v1), some (.int v2), some (.int v3), some (.int x.1), some (.int v5), some (.int v6), some (.int x.2), none] [] h Q) (Sum.elim (fun x : Int32 × Int32 => mGo w kX9_fourMany 0 0 18 [some (va_rf v0), some (.int v1), some (.int v2), some (.int v3), some (.int x.1), some (.int v5), some (.int x.2), none, none] [] h Q) (Sum.elim (fun x : Int32 × Int32 => mGo w kX9_fourMany 0 0 6 [some (va_rf v0), some (.int v1), some (.int v2), some (.int v3), some (.int x.1), some (.int x.2), none, none, none] [] h Q) (fun r : Int32 => Q (some (.int r)) h))))) res) : mGo w kX9_fourMany 0 0 42 [some (va_rf v0), some (.int v1), some (.int v2), some (.int v3), some (.int v4), some (.int v5), some (.int v6), some (.int v7), some (.int v8)] [] h Q := by
  unfold f_X9_fourMany_b42 at e
  refine mGo.iload (n := 44) (x := v8) dX9_fourMany_42 rfl rfl ?_
  refine mGo.iload_n (n := 45) (x := v1) dX9_fourMany_44 rfl rfl ?_
  refine mGo.icmp_ge (tgt := 128) (n := 48) dX9_fourMany_45 (by decide) rfl (fun hc => ?_) (fun hc => ?_)
  · replace e := mIft hc e
    refine mGo.iinc (n := 131) (x := v7) (v := (v7 + 1)) (ls' := [some (va_rf v0), some (.int v1), some (.int v2), some (.int v3), some (.int v4), some (.int v5), some (.int v6), some (.int (v7 + 1)), some (.int v8)]) dX9_fourMany_128 rfl rfl rfl (Nat.le_of_ble_eq_true rfl) rfl ?_
    refine mGo.goto (tgt := 30) dX9_fourMany_131 (by decide) ?_
    cases e
    refine mGo.mk [true, true, true, true, true, true, true, true, false] ?_
    exact q
  · replace e := mIff hc e
    refine mGo.iload_n (n := 49) (x := v3) dX9_fourMany_48 rfl rfl ?_
    refine mGo.iconst (n := 50) (v := (-1 : Int32)) dX9_fourMany_49 (by decide) rfl ?_
    refine mGo.icmp_eq (tgt := 80) (n := 53) dX9_fourMany_50 (by decide) rfl (fun hc => ?_) (fun hc => ?_)
    · replace e := mIft hc e
      refine mGo.mk [true, true, true, true, true, true, true, true, true] ?_
      exact g_X9_fourMany_c80 v0 v1 v2 v3 v4 v5 v6 v7 v8 h e q
    · replace e := mIff hc e
      refine mGo.iload (n := 55) (x := v5) dX9_fourMany_53 rfl rfl ?_
      refine mGo.iload_n (n := 56) (x := v3) dX9_fourMany_55 rfl rfl ?_
      refine mGo.icmp_eq (tgt := 80) (n := 59) dX9_fourMany_56 (by decide) rfl (fun hc => ?_) (fun hc => ?_)
      · replace e := mIft hc e
        refine mGo.mk [true, true, true, true, true, true, true, true, true] ?_
        exact g_X9_fourMany_c80 v0 v1 v2 v3 v4 v5 v6 v7 v8 h e q
      · replace e := mIff hc e
        refine mGo.iload (n := 61) (x := v6) dX9_fourMany_59 rfl rfl ?_
        refine mGo.iload_n (n := 62) (x := v3) dX9_fourMany_61 rfl rfl ?_
        refine mGo.icmp_eq (tgt := 80) (n := 65) dX9_fourMany_62 (by decide) rfl (fun hc => ?_) (fun hc => ?_)
        · replace e := mIft hc e
          refine mGo.mk [true, true, true, true, true, true, true, true, true] ?_
          exact g_X9_fourMany_c80 v0 v1 v2 v3 v4 v5 v6 v7 v8 h e q
        · replace e := mIff hc e
          refine mGo.iload (n := 67) (x := v7) dX9_fourMany_65 rfl rfl ?_
          refine mGo.iload_n (n := 68) (x := v3) dX9_fourMany_67 rfl rfl ?_
          refine mGo.icmp_eq (tgt := 80) (n := 71) dX9_fourMany_68 (by decide) rfl (fun hc => ?_) (fun hc => ?_)
          · replace e := mIft hc e
            refine mGo.mk [true, true, true, true, true, true, true, true, true] ?_
            exact g_X9_fourMany_c80 v0 v1 v2 v3 v4 v5 v6 v7 v8 h e q
          · replace e := mIff hc e
            refine mGo.iload (n := 73) (x := v8) dX9_fourMany_71 rfl rfl ?_
            refine mGo.iload_n (n := 74) (x := v3) dX9_fourMany_73 rfl rfl ?_
            refine mGo.icmp_eq (tgt := 80) (n := 77) dX9_fourMany_74 (by decide) rfl (fun hc => ?_) (fun hc => ?_)
            · replace e := mIft hc e
              refine mGo.mk [true, true, true, true, true, true, true, true, true] ?_
              exact g_X9_fourMany_c80 v0 v1 v2 v3 v4 v5 v6 v7 v8 h e q
            · replace e := mIff hc e
              refine mGo.goto (tgt := 122) dX9_fourMany_77 (by decide) ?_
              refine mGo.iinc (n := 125) (x := v8) (v := (v8 + 1)) (ls' := [some (va_rf v0), some (.int v1), some (.int v2), some (.int v3), some (.int v4), some (.int v5), some (.int v6), some (.int v7), some (.int (v8 + 1))]) dX9_fourMany_122 rfl rfl rfl (Nat.le_of_ble_eq_true rfl) rfl ?_
              refine mGo.goto (tgt := 42) dX9_fourMany_125 (by decide) ?_
              cases e
              refine mGo.mk [true, true, true, true, true, true, true, true, true] ?_
              exact q
noncomputable def f_X9_fourMany_l42 (v0 : Option Nat) (v1 : Int32) (v2 : Int32) (v3 : Int32) (v4 : Int32) (v5 : Int32) (v6 : Int32) (v7 : Int32) (v8 : Int32) (h : mH) : Option ((Int32 × Int32) ⊕ ((Int32 × Int32) ⊕ ((Int32 × Int32) ⊕ (Int32)))) :=
  mLoop (fun x : Int32 × Int32 => f_X9_fourMany_b42 v0 v1 v2 v3 v5 v6 v7 x.1 x.2 h) (v4, v8)
set_option maxRecDepth 100000 in
set_option maxHeartbeats 4000000 in
theorem g_X9_fourMany_l42 {w : mWp} {Q : Option Value → mH → Prop} (v0 : Option Nat) (v1 : Int32) (v2 : Int32) (v3 : Int32) (v4 : Int32) (v5 : Int32) (v6 : Int32) (v7 : Int32) (v8 : Int32) (h : mH) {res : (Int32 × Int32) ⊕ ((Int32 × Int32) ⊕ ((Int32 × Int32) ⊕ (Int32)))} (e : f_X9_fourMany_l42 v0 v1 v2 v3 v4 v5 v6 v7 v8 h = some res) (q : (Sum.elim (fun x : Int32 × Int32 => mGo w kX9_fourMany 0 0 30 [some (va_rf v0), some (.int v1), some (.int v2), some (.int v3), some (.int x.1), some (.int v5), some (.int v6), some (.int x.2), none] [] h Q) (Sum.elim (fun x : Int32 × Int32 => mGo w kX9_fourMany 0 0 18 [some (va_rf v0), some (.int v1), some (.int v2), some (.int v3), some (.int x.1), some (.int v5), some (.int x.2), none, none] [] h Q) (Sum.elim (fun x : Int32 × Int32 => mGo w kX9_fourMany 0 0 6 [some (va_rf v0), some (.int v1), some (.int v2), some (.int v3), some (.int x.1), some (.int x.2), none, none, none] [] h Q) (fun r : Int32 => Q (some (.int r)) h)))) res) : mGo w kX9_fourMany 0 0 42 [some (va_rf v0), some (.int v1), some (.int v2), some (.int v3), some (.int v4), some (.int v5), some (.int v6), some (.int v7), some (.int v8)] [] h Q := by
  unfold f_X9_fourMany_l42 at e
  refine mLoop_go (x := (v4, v8)) (fun x : Int32 × Int32 => mGo w kX9_fourMany 0 0 42 [some (va_rf v0), some (.int v1), some (.int v2), some (.int v3), some (.int x.1), some (.int v5), some (.int v6), some (.int v7), some (.int x.2)] [] h Q) (Sum.elim (fun x : Int32 × Int32 => mGo w kX9_fourMany 0 0 30 [some (va_rf v0), some (.int v1), some (.int v2), some (.int v3), some (.int x.1), some (.int v5), some (.int v6), some (.int x.2), none] [] h Q) (Sum.elim (fun x : Int32 × Int32 => mGo w kX9_fourMany 0 0 18 [some (va_rf v0), some (.int v1), some (.int v2), some (.int v3), some (.int x.1), some (.int v5), some (.int x.2), none, none] [] h Q) (Sum.elim (fun x : Int32 × Int32 => mGo w kX9_fourMany 0 0 6 [some (va_rf v0), some (.int v1), some (.int v2), some (.int v3), some (.int x.1), some (.int x.2), none, none, none] [] h Q) (fun r : Int32 => Q (some (.int r)) h)))) ?_ e q
  rintro ⟨v4, v8⟩ res e q
  exact g_X9_fourMany_b42 v0 v1 v2 v3 v5 v6 v7 v4 v8 h e q
noncomputable def f_X9_fourMany_b30 (v0 : Option Nat) (v1 : Int32) (v2 : Int32) (v3 : Int32) (v5 : Int32) (v6 : Int32) (v4 : Int32) (v7 : Int32) (h : mH) : Option ((Int32 × Int32) ⊕ ((Int32 × Int32) ⊕ ((Int32 × Int32) ⊕ (Int32)))) :=
  if v1 ≤ v7 then
    some (Sum.inr (Sum.inl (v4, (v6 + 1))))
  else
    f_X9_fourMany_l42 v0 v1 v2 v3 v4 v5 v6 v7 (v7 + (1 : Int32)) h
set_option maxRecDepth 100000 in
set_option maxHeartbeats 4000000 in
theorem g_X9_fourMany_b30 {w : mWp} {Q : Option Value → mH → Prop} (v0 : Option Nat) (v1 : Int32) (v2 : Int32) (v3 : Int32) (v5 : Int32) (v6 : Int32) (v4 : Int32) (v7 : Int32) (h : mH) {res : (Int32 × Int32) ⊕ ((Int32 × Int32) ⊕ ((Int32 × Int32) ⊕ (Int32)))} (e : f_X9_fourMany_b30 v0 v1 v2 v3 v5 v6 v4 v7 h = some res) (q : (Sum.elim (fun x : Int32 × Int32 => mGo w kX9_fourMany 0 0 30 [some (va_rf v0), some (.int v1), some (.int v2), some (.int v3), some (.int x.1), some (.int v5), some (.int v6), some (.int x.2), none] [] h Q) (Sum.elim (fun x : Int32 × Int32 => mGo w kX9_fourMany 0 0 18 [some (va_rf v0), some (.int v1), some (.int v2), some (.int v3), some (.int x.1), some (.int v5), some (.int x.2), none, none] [] h Q) (Sum.elim (fun x : Int32 × Int32 => mGo w kX9_fourMany 0 0 6 [some (va_rf v0), some (.int v1), some (.int v2), some (.int v3), some (.int x.1), some (.int x.2), none, none, none] [] h Q) (fun r : Int32 => Q (some (.int r)) h)))) res) : mGo w kX9_fourMany 0 0 30 [some (va_rf v0), some (.int v1), some (.int v2), some (.int v3), some (.int v4), some (.int v5), some (.int v6), some (.int v7), none] [] h Q := by
  unfold f_X9_fourMany_b30 at e
  refine mGo.iload (n := 32) (x := v7) dX9_fourMany_30 rfl rfl ?_
  refine mGo.iload_n (n := 33) (x := v1) dX9_fourMany_32 rfl rfl ?_
  refine mGo.icmp_ge (tgt := 134) (n := 36) dX9_fourMany_33 (by decide) rfl (fun hc => ?_) (fun hc => ?_)
  · replace e := mIft hc e
    refine mGo.iinc (n := 137) (x := v6) (v := (v6 + 1)) (ls' := [some (va_rf v0), some (.int v1), some (.int v2), some (.int v3), some (.int v4), some (.int v5), some (.int (v6 + 1)), some (.int v7), none]) dX9_fourMany_134 rfl rfl rfl (Nat.le_of_ble_eq_true rfl) rfl ?_
    refine mGo.goto (tgt := 18) dX9_fourMany_137 (by decide) ?_
    cases e
    refine mGo.mk [true, true, true, true, true, true, true, false, false] ?_
    exact q
  · replace e := mIff hc e
    refine mGo.iload (n := 38) (x := v7) dX9_fourMany_36 rfl rfl ?_
    refine mGo.iconst (n := 39) (v := (1 : Int32)) dX9_fourMany_38 (by decide) rfl ?_
    refine mGo.iadd (n := 40) dX9_fourMany_39 rfl ?_
    refine mGo.istore (n := 42) (ls' := [some (va_rf v0), some (.int v1), some (.int v2), some (.int v3), some (.int v4), some (.int v5), some (.int v6), some (.int v7), some (.int (v7 + (1 : Int32)))]) dX9_fourMany_40 rfl (Nat.le_of_ble_eq_true rfl) rfl ?_
    refine mGo.mk [true, true, true, true, true, true, true, true, true] ?_
    exact g_X9_fourMany_l42 v0 v1 v2 v3 v4 v5 v6 v7 (v7 + (1 : Int32)) h e q
noncomputable def f_X9_fourMany_l30 (v0 : Option Nat) (v1 : Int32) (v2 : Int32) (v3 : Int32) (v4 : Int32) (v5 : Int32) (v6 : Int32) (v7 : Int32) (h : mH) : Option ((Int32 × Int32) ⊕ ((Int32 × Int32) ⊕ (Int32))) :=
  mLoop (fun x : Int32 × Int32 => f_X9_fourMany_b30 v0 v1 v2 v3 v5 v6 x.1 x.2 h) (v4, v7)
set_option maxRecDepth 100000 in
set_option maxHeartbeats 4000000 in
theorem g_X9_fourMany_l30 {w : mWp} {Q : Option Value → mH → Prop} (v0 : Option Nat) (v1 : Int32) (v2 : Int32) (v3 : Int32) (v4 : Int32) (v5 : Int32) (v6 : Int32) (v7 : Int32) (h : mH) {res : (Int32 × Int32) ⊕ ((Int32 × Int32) ⊕ (Int32))} (e : f_X9_fourMany_l30 v0 v1 v2 v3 v4 v5 v6 v7 h = some res) (q : (Sum.elim (fun x : Int32 × Int32 => mGo w kX9_fourMany 0 0 18 [some (va_rf v0), some (.int v1), some (.int v2), some (.int v3), some (.int x.1), some (.int v5), some (.int x.2), none, none] [] h Q) (Sum.elim (fun x : Int32 × Int32 => mGo w kX9_fourMany 0 0 6 [some (va_rf v0), some (.int v1), some (.int v2), some (.int v3), some (.int x.1), some (.int x.2), none, none, none] [] h Q) (fun r : Int32 => Q (some (.int r)) h))) res) : mGo w kX9_fourMany 0 0 30 [some (va_rf v0), some (.int v1), some (.int v2), some (.int v3), some (.int v4), some (.int v5), some (.int v6), some (.int v7), none] [] h Q := by
  unfold f_X9_fourMany_l30 at e
  refine mLoop_go (x := (v4, v7)) (fun x : Int32 × Int32 => mGo w kX9_fourMany 0 0 30 [some (va_rf v0), some (.int v1), some (.int v2), some (.int v3), some (.int x.1), some (.int v5), some (.int v6), some (.int x.2), none] [] h Q) (Sum.elim (fun x : Int32 × Int32 => mGo w kX9_fourMany 0 0 18 [some (va_rf v0), some (.int v1), some (.int v2), some (.int v3), some (.int x.1), some (.int v5), some (.int x.2), none, none] [] h Q) (Sum.elim (fun x : Int32 × Int32 => mGo w kX9_fourMany 0 0 6 [some (va_rf v0), some (.int v1), some (.int v2), some (.int v3), some (.int x.1), some (.int x.2), none, none, none] [] h Q) (fun r : Int32 => Q (some (.int r)) h))) ?_ e q
  rintro ⟨v4, v7⟩ res e q
  exact g_X9_fourMany_b30 v0 v1 v2 v3 v5 v6 v4 v7 h e q
noncomputable def f_X9_fourMany_b18 (v0 : Option Nat) (v1 : Int32) (v2 : Int32) (v3 : Int32) (v5 : Int32) (v4 : Int32) (v6 : Int32) (h : mH) : Option ((Int32 × Int32) ⊕ ((Int32 × Int32) ⊕ (Int32))) :=
  if v1 ≤ v6 then
    some (Sum.inr (Sum.inl (v4, (v5 + 1))))
  else
    f_X9_fourMany_l30 v0 v1 v2 v3 v4 v5 v6 (v6 + (1 : Int32)) h
set_option maxRecDepth 100000 in
set_option maxHeartbeats 4000000 in
theorem g_X9_fourMany_b18 {w : mWp} {Q : Option Value → mH → Prop} (v0 : Option Nat) (v1 : Int32) (v2 : Int32) (v3 : Int32) (v5 : Int32) (v4 : Int32) (v6 : Int32) (h : mH) {res : (Int32 × Int32) ⊕ ((Int32 × Int32) ⊕ (Int32))} (e : f_X9_fourMany_b18 v0 v1 v2 v3 v5 v4 v6 h = some res) (q : (Sum.elim (fun x : Int32 × Int32 => mGo w kX9_fourMany 0 0 18 [some (va_rf v0), some (.int v1), some (.int v2), some (.int v3), some (.int x.1), some (.int v5), some (.int x.2), none, none] [] h Q) (Sum.elim (fun x : Int32 × Int32 => mGo w kX9_fourMany 0 0 6 [some (va_rf v0), some (.int v1), some (.int v2), some (.int v3), some (.int x.1), some (.int x.2), none, none, none] [] h Q) (fun r : Int32 => Q (some (.int r)) h))) res) : mGo w kX9_fourMany 0 0 18 [some (va_rf v0), some (.int v1), some (.int v2), some (.int v3), some (.int v4), some (.int v5), some (.int v6), none, none] [] h Q := by
  unfold f_X9_fourMany_b18 at e
  refine mGo.iload (n := 20) (x := v6) dX9_fourMany_18 rfl rfl ?_
  refine mGo.iload_n (n := 21) (x := v1) dX9_fourMany_20 rfl rfl ?_
  refine mGo.icmp_ge (tgt := 140) (n := 24) dX9_fourMany_21 (by decide) rfl (fun hc => ?_) (fun hc => ?_)
  · replace e := mIft hc e
    refine mGo.iinc (n := 143) (x := v5) (v := (v5 + 1)) (ls' := [some (va_rf v0), some (.int v1), some (.int v2), some (.int v3), some (.int v4), some (.int (v5 + 1)), some (.int v6), none, none]) dX9_fourMany_140 rfl rfl rfl (Nat.le_of_ble_eq_true rfl) rfl ?_
    refine mGo.goto (tgt := 6) dX9_fourMany_143 (by decide) ?_
    cases e
    refine mGo.mk [true, true, true, true, true, true, false, false, false] ?_
    exact q
  · replace e := mIff hc e
    refine mGo.iload (n := 26) (x := v6) dX9_fourMany_24 rfl rfl ?_
    refine mGo.iconst (n := 27) (v := (1 : Int32)) dX9_fourMany_26 (by decide) rfl ?_
    refine mGo.iadd (n := 28) dX9_fourMany_27 rfl ?_
    refine mGo.istore (n := 30) (ls' := [some (va_rf v0), some (.int v1), some (.int v2), some (.int v3), some (.int v4), some (.int v5), some (.int v6), some (.int (v6 + (1 : Int32))), none]) dX9_fourMany_28 rfl (Nat.le_of_ble_eq_true rfl) rfl ?_
    refine mGo.mk [true, true, true, true, true, true, true, true, false] ?_
    exact g_X9_fourMany_l30 v0 v1 v2 v3 v4 v5 v6 (v6 + (1 : Int32)) h e q
noncomputable def f_X9_fourMany_l18 (v0 : Option Nat) (v1 : Int32) (v2 : Int32) (v3 : Int32) (v4 : Int32) (v5 : Int32) (v6 : Int32) (h : mH) : Option ((Int32 × Int32) ⊕ (Int32)) :=
  mLoop (fun x : Int32 × Int32 => f_X9_fourMany_b18 v0 v1 v2 v3 v5 x.1 x.2 h) (v4, v6)
set_option maxRecDepth 100000 in
set_option maxHeartbeats 4000000 in
theorem g_X9_fourMany_l18 {w : mWp} {Q : Option Value → mH → Prop} (v0 : Option Nat) (v1 : Int32) (v2 : Int32) (v3 : Int32) (v4 : Int32) (v5 : Int32) (v6 : Int32) (h : mH) {res : (Int32 × Int32) ⊕ (Int32)} (e : f_X9_fourMany_l18 v0 v1 v2 v3 v4 v5 v6 h = some res) (q : (Sum.elim (fun x : Int32 × Int32 => mGo w kX9_fourMany 0 0 6 [some (va_rf v0), some (.int v1), some (.int v2), some (.int v3), some (.int x.1), some (.int x.2), none, none, none] [] h Q) (fun r : Int32 => Q (some (.int r)) h)) res) : mGo w kX9_fourMany 0 0 18 [some (va_rf v0), some (.int v1), some (.int v2), some (.int v3), some (.int v4), some (.int v5), some (.int v6), none, none] [] h Q := by
  unfold f_X9_fourMany_l18 at e
  refine mLoop_go (x := (v4, v6)) (fun x : Int32 × Int32 => mGo w kX9_fourMany 0 0 18 [some (va_rf v0), some (.int v1), some (.int v2), some (.int v3), some (.int x.1), some (.int v5), some (.int x.2), none, none] [] h Q) (Sum.elim (fun x : Int32 × Int32 => mGo w kX9_fourMany 0 0 6 [some (va_rf v0), some (.int v1), some (.int v2), some (.int v3), some (.int x.1), some (.int x.2), none, none, none] [] h Q) (fun r : Int32 => Q (some (.int r)) h)) ?_ e q
  rintro ⟨v4, v6⟩ res e q
  exact g_X9_fourMany_b18 v0 v1 v2 v3 v5 v4 v6 h e q
noncomputable def f_X9_fourMany_b6 (v0 : Option Nat) (v1 : Int32) (v2 : Int32) (v3 : Int32) (v4 : Int32) (v5 : Int32) (h : mH) : Option ((Int32 × Int32) ⊕ (Int32)) :=
  if v1 ≤ v5 then
    some (Sum.inr v4)
  else
    f_X9_fourMany_l18 v0 v1 v2 v3 v4 v5 (v5 + (1 : Int32)) h
set_option maxRecDepth 100000 in
set_option maxHeartbeats 4000000 in
theorem g_X9_fourMany_b6 {w : mWp} {Q : Option Value → mH → Prop} (v0 : Option Nat) (v1 : Int32) (v2 : Int32) (v3 : Int32) (v4 : Int32) (v5 : Int32) (h : mH) {res : (Int32 × Int32) ⊕ (Int32)} (e : f_X9_fourMany_b6 v0 v1 v2 v3 v4 v5 h = some res) (q : (Sum.elim (fun x : Int32 × Int32 => mGo w kX9_fourMany 0 0 6 [some (va_rf v0), some (.int v1), some (.int v2), some (.int v3), some (.int x.1), some (.int x.2), none, none, none] [] h Q) (fun r : Int32 => Q (some (.int r)) h)) res) : mGo w kX9_fourMany 0 0 6 [some (va_rf v0), some (.int v1), some (.int v2), some (.int v3), some (.int v4), some (.int v5), none, none, none] [] h Q := by
  unfold f_X9_fourMany_b6 at e
  refine mGo.iload (n := 8) (x := v5) dX9_fourMany_6 rfl rfl ?_
  refine mGo.iload_n (n := 9) (x := v1) dX9_fourMany_8 rfl rfl ?_
  refine mGo.icmp_ge (tgt := 146) (n := 12) dX9_fourMany_9 (by decide) rfl (fun hc => ?_) (fun hc => ?_)
  · replace e := mIft hc e
    refine mGo.iload (n := 148) (x := v4) dX9_fourMany_146 rfl rfl ?_
    cases e
    exact mGo.iret dX9_fourMany_148 rfl (Nat.le_of_ble_eq_true rfl) (Nat.le_of_ble_eq_true rfl) q
  · replace e := mIff hc e
    refine mGo.iload (n := 14) (x := v5) dX9_fourMany_12 rfl rfl ?_
    refine mGo.iconst (n := 15) (v := (1 : Int32)) dX9_fourMany_14 (by decide) rfl ?_
    refine mGo.iadd (n := 16) dX9_fourMany_15 rfl ?_
    refine mGo.istore (n := 18) (ls' := [some (va_rf v0), some (.int v1), some (.int v2), some (.int v3), some (.int v4), some (.int v5), some (.int (v5 + (1 : Int32))), none, none]) dX9_fourMany_16 rfl (Nat.le_of_ble_eq_true rfl) rfl ?_
    refine mGo.mk [true, true, true, true, true, true, true, false, false] ?_
    exact g_X9_fourMany_l18 v0 v1 v2 v3 v4 v5 (v5 + (1 : Int32)) h e q
noncomputable def f_X9_fourMany_l6 (v0 : Option Nat) (v1 : Int32) (v2 : Int32) (v3 : Int32) (v4 : Int32) (v5 : Int32) (h : mH) : Option (Int32) :=
  mLoop (fun x : Int32 × Int32 => f_X9_fourMany_b6 v0 v1 v2 v3 x.1 x.2 h) (v4, v5)
set_option maxRecDepth 100000 in
set_option maxHeartbeats 4000000 in
theorem g_X9_fourMany_l6 {w : mWp} {Q : Option Value → mH → Prop} (v0 : Option Nat) (v1 : Int32) (v2 : Int32) (v3 : Int32) (v4 : Int32) (v5 : Int32) (h : mH) {res : Int32} (e : f_X9_fourMany_l6 v0 v1 v2 v3 v4 v5 h = some res) (q : (fun r : Int32 => Q (some (.int r)) h) res) : mGo w kX9_fourMany 0 0 6 [some (va_rf v0), some (.int v1), some (.int v2), some (.int v3), some (.int v4), some (.int v5), none, none, none] [] h Q := by
  unfold f_X9_fourMany_l6 at e
  refine mLoop_go (x := (v4, v5)) (fun x : Int32 × Int32 => mGo w kX9_fourMany 0 0 6 [some (va_rf v0), some (.int v1), some (.int v2), some (.int v3), some (.int x.1), some (.int x.2), none, none, none] [] h Q) (fun r : Int32 => Q (some (.int r)) h) ?_ e q
  rintro ⟨v4, v5⟩ res e q
  exact g_X9_fourMany_b6 v0 v1 v2 v3 v4 v5 h e q
noncomputable def f_X9_fourMany (v0 : Option Nat) (v1 : Int32) (v2 : Int32) (v3 : Int32) (h : mH) : Option (Int32) :=
  (mIs h v0 8).bind fun _ =>
  f_X9_fourMany_l6 v0 v1 v2 v3 (0 : Int32) (0 : Int32) h
set_option maxRecDepth 100000 in
set_option maxHeartbeats 4000000 in
theorem g_X9_fourMany {w : mWp} {Q : Option Value → mH → Prop} (v0 : Option Nat) (v1 : Int32) (v2 : Int32) (v3 : Int32) (h : mH) {res : Int32} (e : f_X9_fourMany v0 v1 v2 v3 h = some res) (q : (fun r : Int32 => Q (some (.int r)) h) res) : mGo w kX9_fourMany 0 0 0 [some (va_rf v0), some (.int v1), some (.int v2), some (.int v3), none, none, none, none, none] [] h Q := by
  unfold f_X9_fourMany at e
  obtain ⟨_, _, e⟩ := mBind e
  refine mGo.iconst (n := 1) (v := (0 : Int32)) dX9_fourMany_0 (by decide) rfl ?_
  refine mGo.istore (n := 3) (ls' := [some (va_rf v0), some (.int v1), some (.int v2), some (.int v3), some (.int (0 : Int32)), none, none, none, none]) dX9_fourMany_1 rfl (Nat.le_of_ble_eq_true rfl) rfl ?_
  refine mGo.iconst (n := 4) (v := (0 : Int32)) dX9_fourMany_3 (by decide) rfl ?_
  refine mGo.istore (n := 6) (ls' := [some (va_rf v0), some (.int v1), some (.int v2), some (.int v3), some (.int (0 : Int32)), some (.int (0 : Int32)), none, none, none]) dX9_fourMany_4 rfl (Nat.le_of_ble_eq_true rfl) rfl ?_
  refine mGo.mk [true, true, true, true, true, true, false, false, false] ?_
  exact g_X9_fourMany_l6 v0 v1 v2 v3 (0 : Int32) (0 : Int32) h e q
theorem e_X9_fourMany {w : mWp} (v0 : Option Nat) (v1 : Int32) (v2 : Int32) (v3 : Int32) (h : mH) {res : Int32} (e : f_X9_fourMany v0 v1 v2 v3 h = some res) : mEx w zX9_fourMany (mRoom 4 0 0) [va_rf v0, .int v1, .int v2, .int v3] h (fun r h2 => r = some (.int res) ∧ h2 = h) := by
  refine mEx.of (by decide +kernel) (show mEnt [va_rf v0, .int v1, .int v2, .int v3] 9 = [some (va_rf v0), some (.int v1), some (.int v2), some (.int v3), none, none, none, none, none] by rw [mEnt_r, mEnt_i, mEnt_i, mEnt_i] <;> rfl) (by simp only [List.map_cons, List.map_nil, mRfc, mCi, mCj, List.sum_cons, List.sum_nil]; exact Nat.le_of_ble_eq_true rfl) ?_
  refine g_X9_fourMany v0 v1 v2 v3 h e ?_
  exact ⟨rfl, rfl⟩
theorem s_X9_fourMany (v0 : Option Nat) (v1 : Int32) (v2 : Int32) (v3 : Int32) (h : mH) {res : Int32} (e : f_X9_fourMany v0 v1 v2 v3 h = some res) : mIs h v0 8 = some () := by
  unfold f_X9_fourMany at e
  obtain ⟨u, e1, _⟩ := mBind e
  cases u
  exact e1
-- X9_tally
def kX9_tally : mK := (cX9_tally, RX9, 4, some (.int), "tally", mRoom 6 0 0)
def zX9_tally : mY := (yX9_tally, cX9_tally, 4, some (.int))
set_option maxRecDepth 100000 in
theorem sc_RX9_208 : mSV RX9 208 zX9_laysLines 2 8 := ⟨Or.inl (mT_at 1104 (by decide +kernel) rfl), mT_at 1106 (by decide +kernel) rfl, mT_at 61 (by decide +kernel) rfl, mT_at 91 (by decide +kernel) rfl, mT_at 1107 (by decide +kernel) rfl, ⟨by decide +kernel, by decide +kernel, by decide +kernel⟩, by decide, rfl⟩
set_option maxRecDepth 100000 in
theorem sc_RX9_212 : mSV RX9 212 zX9_fourMany 3 8 := ⟨Or.inl (mT_at 1108 (by decide +kernel) rfl), mT_at 1110 (by decide +kernel) rfl, mT_at 62 (by decide +kernel) rfl, mT_at 91 (by decide +kernel) rfl, mT_at 1111 (by decide +kernel) rfl, ⟨by decide +kernel, by decide +kernel, by decide +kernel⟩, by decide, rfl⟩
noncomputable def f_X9_tally (v0 : Option Nat) (v1 : Int32) (v2 : Int32) (v3 : Int32) (h : mH) : Option (Int32 × mH) :=
  (mIs h v0 8).bind fun _ =>
  (f_X9_isTable v0 v1 h).bind fun x1 =>
  if x1 = 0 then
    some ((-1 : Int32), h)
  else
    if 0 ≤ v3 then
      (f_X9_laysLines v0 v1 v2 h).bind fun x2 =>
      (mGR x2 v0 8 1).bind fun x3 =>
      (mAI x2 x3 v1).bind fun x4 =>
      (f_X9_fourMany v0 x4 v3 (-1 : Int32) x2).bind fun x5 =>
      some (x5, x2)
    else
      some ((-1 : Int32), h)
set_option maxRecDepth 100000 in
set_option maxHeartbeats 4000000 in
theorem g_X9_tally {w : mWp} {Q : Option Value → mH → Prop} (v0 : Option Nat) (v1 : Int32) (v2 : Int32) (v3 : Int32) (h : mH) {res : Int32 × mH} (e : f_X9_tally v0 v1 v2 v3 h = some res) (q : (fun r : Int32 × mH => Q (some (.int r.1)) r.2) res) : mGo w kX9_tally 0 0 0 [some (va_rf v0), some (.int v1), some (.int v2), some (.int v3)] [] h Q := by
  unfold f_X9_tally at e
  obtain ⟨_, _, e⟩ := mBind e
  refine mGo.aload_n (n := 1) (r := v0) dX9_tally_0 rfl rfl ?_
  refine mGo.iload_n (n := 2) (x := v1) dX9_tally_1 rfl rfl ?_
  obtain ⟨x1, e_x1, e⟩ := mBind e
  refine mGo.callV (n := 5) (y := zX9_isTable) (R' := (mRoom (2) 0 0)) (as := [.int v1]) (st := []) (r0 := v0) dX9_tally_2 sc_RX9_86 rfl (s_X9_isTable v0 v1 h e_x1) (e_X9_isTable v0 v1 h e_x1) (mFit_of rfl (Nat.le_of_ble_eq_true rfl) (by decide) (Nat.le_of_ble_eq_true rfl) (Nat.le_of_ble_eq_true rfl)) (Nat.le_of_ble_eq_true rfl) rfl rfl ?_
  intro _ _ hq
  rw [hq.1, hq.2]
  show mGo w kX9_tally 0 0 5 [some (va_rf v0), some (.int v1), some (.int v2), some (.int v3)] [.int x1] h Q
  refine mGo.if_eq (tgt := 12) (n := 8) dX9_tally_5 (by decide) rfl (fun hc => ?_) (fun hc => ?_)
  · replace e := mIft hc e
    refine mGo.iconst (n := 13) (v := (-1 : Int32)) dX9_tally_12 (by decide) rfl ?_
    cases e
    exact mGo.iret dX9_tally_13 rfl (Nat.le_of_ble_eq_true rfl) (Nat.le_of_ble_eq_true rfl) q
  · replace e := mIff hc e
    refine mGo.iload_n (n := 9) (x := v3) dX9_tally_8 rfl rfl ?_
    refine mGo.if_ge (tgt := 14) (n := 12) dX9_tally_9 (by decide) rfl (fun hc => ?_) (fun hc => ?_)
    · replace e := mIft hc e
      refine mGo.aload_n (n := 15) (r := v0) dX9_tally_14 rfl rfl ?_
      refine mGo.iload_n (n := 16) (x := v1) dX9_tally_15 rfl rfl ?_
      refine mGo.iload_n (n := 17) (x := v2) dX9_tally_16 rfl rfl ?_
      obtain ⟨x2, e_x2, e⟩ := mBind e
      refine mGo.callV (n := 20) (y := zX9_laysLines) (R' := (mRoom (5) 0 0)) (as := [.int v1, .int v2]) (st := []) (r0 := v0) dX9_tally_17 sc_RX9_208 rfl (s_X9_laysLines v0 v1 v2 h e_x2) (e_X9_laysLines v0 v1 v2 h e_x2) (mFit_of rfl (Nat.le_of_ble_eq_true rfl) (by decide) (Nat.le_of_ble_eq_true rfl) (Nat.le_of_ble_eq_true rfl)) (Nat.le_of_ble_eq_true rfl) rfl rfl ?_
      intro _ _ hq
      rw [hq.1, hq.2]
      show mGo w kX9_tally 0 0 20 [some (va_rf v0), some (.int v1), some (.int v2), some (.int v3)] [] x2 Q
      refine mGo.aload_n (n := 21) (r := v0) dX9_tally_20 rfl rfl ?_
      refine mGo.aload_n (n := 22) (r := v0) dX9_tally_21 rfl rfl ?_
      obtain ⟨x3, e_x3, e⟩ := mBind e
      refine mGo.getR (n := 25) dX9_tally_22 sf_RX9_13 e_x3 rfl ?_
      refine mGo.iload_n (n := 26) (x := v1) dX9_tally_25 rfl rfl ?_
      obtain ⟨x4, e_x4, e⟩ := mBind e
      refine mGo.iald (n := 27) dX9_tally_26 e_x4 rfl ?_
      refine mGo.iload_n (n := 28) (x := v3) dX9_tally_27 rfl rfl ?_
      refine mGo.iconst (n := 29) (v := (-1 : Int32)) dX9_tally_28 (by decide) rfl ?_
      obtain ⟨x5, e_x5, e⟩ := mBind e
      refine mGo.callV (n := 32) (y := zX9_fourMany) (R' := (mRoom (4) 0 0)) (as := [.int x4, .int v3, .int (-1 : Int32)]) (st := []) (r0 := v0) dX9_tally_29 sc_RX9_212 rfl (s_X9_fourMany v0 x4 v3 (-1 : Int32) x2 e_x5) (e_X9_fourMany v0 x4 v3 (-1 : Int32) x2 e_x5) (mFit_of rfl (Nat.le_of_ble_eq_true rfl) (by decide) (Nat.le_of_ble_eq_true rfl) (Nat.le_of_ble_eq_true rfl)) (Nat.le_of_ble_eq_true rfl) rfl rfl ?_
      intro _ _ hq
      rw [hq.1, hq.2]
      show mGo w kX9_tally 0 0 32 [some (va_rf v0), some (.int v1), some (.int v2), some (.int v3)] [.int x5] x2 Q
      cases e
      exact mGo.iret dX9_tally_32 rfl (Nat.le_of_ble_eq_true rfl) (Nat.le_of_ble_eq_true rfl) q
    · replace e := mIff hc e
      refine mGo.iconst (n := 13) (v := (-1 : Int32)) dX9_tally_12 (by decide) rfl ?_
      cases e
      exact mGo.iret dX9_tally_13 rfl (Nat.le_of_ble_eq_true rfl) (Nat.le_of_ble_eq_true rfl) q
theorem e_X9_tally {w : mWp} (v0 : Option Nat) (v1 : Int32) (v2 : Int32) (v3 : Int32) (h : mH) {res : Int32 × mH} (e : f_X9_tally v0 v1 v2 v3 h = some res) : mEx w zX9_tally (mRoom 6 0 0) [va_rf v0, .int v1, .int v2, .int v3] h (fun r h2 => r = some (.int res.1) ∧ h2 = res.2) := by
  refine mEx.of (by decide +kernel) (show mEnt [va_rf v0, .int v1, .int v2, .int v3] 4 = [some (va_rf v0), some (.int v1), some (.int v2), some (.int v3)] by rw [mEnt_r, mEnt_i, mEnt_i, mEnt_i] <;> rfl) (by simp only [List.map_cons, List.map_nil, mRfc, mCi, mCj, List.sum_cons, List.sum_nil]; exact Nat.le_of_ble_eq_true rfl) ?_
  refine g_X9_tally v0 v1 v2 v3 h e ?_
  exact ⟨rfl, rfl⟩
theorem s_X9_tally (v0 : Option Nat) (v1 : Int32) (v2 : Int32) (v3 : Int32) (h : mH) {res : Int32 × mH} (e : f_X9_tally v0 v1 v2 v3 h = some res) : mIs h v0 8 = some () := by
  unfold f_X9_tally at e
  obtain ⟨u, e1, _⟩ := mBind e
  cases u
  exact e1
-- X9_part
def kX9_part : mK := (cX9_part, RX9, 5, some (.int), "part", mRoom 6 0 0)
def zX9_part : mY := (yX9_part, cX9_part, 5, some (.int))
noncomputable def f_X9_part (v0 : Option Nat) (v1 : Int32) (v2 : Int32) (v3 : Int32) (v4 : Int32) (h : mH) : Option (Int32 × mH) :=
  (mIs h v0 8).bind fun _ =>
  (f_X9_isLine v0 v1 v3 h).bind fun x1 =>
  if x1 = 0 then
    some ((-1 : Int32), h)
  else
    if 0 ≤ v4 then
      (f_X9_laysLines v0 v1 v2 h).bind fun x2 =>
      (mGR x2 v0 8 1).bind fun x3 =>
      (mAI x2 x3 v1).bind fun x4 =>
      (f_X9_fourMany v0 x4 v4 v3 x2).bind fun x5 =>
      some (x5, x2)
    else
      some ((-1 : Int32), h)
set_option maxRecDepth 100000 in
set_option maxHeartbeats 4000000 in
theorem g_X9_part {w : mWp} {Q : Option Value → mH → Prop} (v0 : Option Nat) (v1 : Int32) (v2 : Int32) (v3 : Int32) (v4 : Int32) (h : mH) {res : Int32 × mH} (e : f_X9_part v0 v1 v2 v3 v4 h = some res) (q : (fun r : Int32 × mH => Q (some (.int r.1)) r.2) res) : mGo w kX9_part 0 0 0 [some (va_rf v0), some (.int v1), some (.int v2), some (.int v3), some (.int v4)] [] h Q := by
  unfold f_X9_part at e
  obtain ⟨_, _, e⟩ := mBind e
  refine mGo.aload_n (n := 1) (r := v0) dX9_part_0 rfl rfl ?_
  refine mGo.iload_n (n := 2) (x := v1) dX9_part_1 rfl rfl ?_
  refine mGo.iload_n (n := 3) (x := v3) dX9_part_2 rfl rfl ?_
  obtain ⟨x1, e_x1, e⟩ := mBind e
  refine mGo.callV (n := 6) (y := zX9_isLine) (R' := (mRoom (3) 0 0)) (as := [.int v1, .int v3]) (st := []) (r0 := v0) dX9_part_3 sc_RX9_182 rfl (s_X9_isLine v0 v1 v3 h e_x1) (e_X9_isLine v0 v1 v3 h e_x1) (mFit_of rfl (Nat.le_of_ble_eq_true rfl) (by decide) (Nat.le_of_ble_eq_true rfl) (Nat.le_of_ble_eq_true rfl)) (Nat.le_of_ble_eq_true rfl) rfl rfl ?_
  intro _ _ hq
  rw [hq.1, hq.2]
  show mGo w kX9_part 0 0 6 [some (va_rf v0), some (.int v1), some (.int v2), some (.int v3), some (.int v4)] [.int x1] h Q
  refine mGo.if_eq (tgt := 14) (n := 9) dX9_part_6 (by decide) rfl (fun hc => ?_) (fun hc => ?_)
  · replace e := mIft hc e
    refine mGo.iconst (n := 15) (v := (-1 : Int32)) dX9_part_14 (by decide) rfl ?_
    cases e
    exact mGo.iret dX9_part_15 rfl (Nat.le_of_ble_eq_true rfl) (Nat.le_of_ble_eq_true rfl) q
  · replace e := mIff hc e
    refine mGo.iload (n := 11) (x := v4) dX9_part_9 rfl rfl ?_
    refine mGo.if_ge (tgt := 16) (n := 14) dX9_part_11 (by decide) rfl (fun hc => ?_) (fun hc => ?_)
    · replace e := mIft hc e
      refine mGo.aload_n (n := 17) (r := v0) dX9_part_16 rfl rfl ?_
      refine mGo.iload_n (n := 18) (x := v1) dX9_part_17 rfl rfl ?_
      refine mGo.iload_n (n := 19) (x := v2) dX9_part_18 rfl rfl ?_
      obtain ⟨x2, e_x2, e⟩ := mBind e
      refine mGo.callV (n := 22) (y := zX9_laysLines) (R' := (mRoom (5) 0 0)) (as := [.int v1, .int v2]) (st := []) (r0 := v0) dX9_part_19 sc_RX9_208 rfl (s_X9_laysLines v0 v1 v2 h e_x2) (e_X9_laysLines v0 v1 v2 h e_x2) (mFit_of rfl (Nat.le_of_ble_eq_true rfl) (by decide) (Nat.le_of_ble_eq_true rfl) (Nat.le_of_ble_eq_true rfl)) (Nat.le_of_ble_eq_true rfl) rfl rfl ?_
      intro _ _ hq
      rw [hq.1, hq.2]
      show mGo w kX9_part 0 0 22 [some (va_rf v0), some (.int v1), some (.int v2), some (.int v3), some (.int v4)] [] x2 Q
      refine mGo.aload_n (n := 23) (r := v0) dX9_part_22 rfl rfl ?_
      refine mGo.aload_n (n := 24) (r := v0) dX9_part_23 rfl rfl ?_
      obtain ⟨x3, e_x3, e⟩ := mBind e
      refine mGo.getR (n := 27) dX9_part_24 sf_RX9_13 e_x3 rfl ?_
      refine mGo.iload_n (n := 28) (x := v1) dX9_part_27 rfl rfl ?_
      obtain ⟨x4, e_x4, e⟩ := mBind e
      refine mGo.iald (n := 29) dX9_part_28 e_x4 rfl ?_
      refine mGo.iload (n := 31) (x := v4) dX9_part_29 rfl rfl ?_
      refine mGo.iload_n (n := 32) (x := v3) dX9_part_31 rfl rfl ?_
      obtain ⟨x5, e_x5, e⟩ := mBind e
      refine mGo.callV (n := 35) (y := zX9_fourMany) (R' := (mRoom (4) 0 0)) (as := [.int x4, .int v4, .int v3]) (st := []) (r0 := v0) dX9_part_32 sc_RX9_212 rfl (s_X9_fourMany v0 x4 v4 v3 x2 e_x5) (e_X9_fourMany v0 x4 v4 v3 x2 e_x5) (mFit_of rfl (Nat.le_of_ble_eq_true rfl) (by decide) (Nat.le_of_ble_eq_true rfl) (Nat.le_of_ble_eq_true rfl)) (Nat.le_of_ble_eq_true rfl) rfl rfl ?_
      intro _ _ hq
      rw [hq.1, hq.2]
      show mGo w kX9_part 0 0 35 [some (va_rf v0), some (.int v1), some (.int v2), some (.int v3), some (.int v4)] [.int x5] x2 Q
      cases e
      exact mGo.iret dX9_part_35 rfl (Nat.le_of_ble_eq_true rfl) (Nat.le_of_ble_eq_true rfl) q
    · replace e := mIff hc e
      refine mGo.iconst (n := 15) (v := (-1 : Int32)) dX9_part_14 (by decide) rfl ?_
      cases e
      exact mGo.iret dX9_part_15 rfl (Nat.le_of_ble_eq_true rfl) (Nat.le_of_ble_eq_true rfl) q
theorem e_X9_part {w : mWp} (v0 : Option Nat) (v1 : Int32) (v2 : Int32) (v3 : Int32) (v4 : Int32) (h : mH) {res : Int32 × mH} (e : f_X9_part v0 v1 v2 v3 v4 h = some res) : mEx w zX9_part (mRoom 6 0 0) [va_rf v0, .int v1, .int v2, .int v3, .int v4] h (fun r h2 => r = some (.int res.1) ∧ h2 = res.2) := by
  refine mEx.of (by decide +kernel) (show mEnt [va_rf v0, .int v1, .int v2, .int v3, .int v4] 5 = [some (va_rf v0), some (.int v1), some (.int v2), some (.int v3), some (.int v4)] by rw [mEnt_r, mEnt_i, mEnt_i, mEnt_i, mEnt_i] <;> rfl) (by simp only [List.map_cons, List.map_nil, mRfc, mCi, mCj, List.sum_cons, List.sum_nil]; exact Nat.le_of_ble_eq_true rfl) ?_
  refine g_X9_part v0 v1 v2 v3 v4 h e ?_
  exact ⟨rfl, rfl⟩
theorem s_X9_part (v0 : Option Nat) (v1 : Int32) (v2 : Int32) (v3 : Int32) (v4 : Int32) (h : mH) {res : Int32 × mH} (e : f_X9_part v0 v1 v2 v3 v4 h = some res) : mIs h v0 8 = some () := by
  unfold f_X9_part at e
  obtain ⟨u, e1, _⟩ := mBind e
  cases u
  exact e1
-- X9_laysForm
def kX9_laysForm : mK := (cX9_laysForm, RX9, 10, none, "laysForm", mRoom 2 0 0)
def zX9_laysForm : mY := (yX9_laysForm, cX9_laysForm, 10, none)
def f_X9_laysForm_c145 (v0 : Option Nat) (v1 : Int32) (v2 : Int32) (v3 : Int32) (v4 : Int32) (v8 : Int32) (v9 : Int32) (h : mH) : Option ((Int32 × mH) ⊕ (mH)) :=
  (mGR h v0 8 16).bind fun x1 =>
  (mSI h x1 v9 v8).bind fun h2 =>
  some (Sum.inl ((v4 + 1), h2))
set_option maxRecDepth 100000 in
set_option maxHeartbeats 4000000 in
theorem g_X9_laysForm_c145 {w : mWp} {Q : Option Value → mH → Prop} (v0 : Option Nat) (v1 : Int32) (v2 : Int32) (v3 : Int32) (v4 : Int32) (v8 : Int32) (v9 : Int32) (h : mH) {res : (Int32 × mH) ⊕ (mH)} (e : f_X9_laysForm_c145 v0 v1 v2 v3 v4 v8 v9 h = some res) (q : (Sum.elim (fun x : Int32 × mH => mGo w kX9_laysForm 0 0 10 [some (va_rf v0), some (.int v1), some (.int v2), some (.int v3), some (.int x.1), none, none, none, none, none] [] x.2 Q) (fun r : mH => Q none r)) res) : mGo w kX9_laysForm 0 0 145 [some (va_rf v0), some (.int v1), some (.int v2), some (.int v3), some (.int v4), none, none, none, some (.int v8), some (.int v9)] [] h Q := by
  unfold f_X9_laysForm_c145 at e
  refine mGo.aload_n (n := 146) (r := v0) dX9_laysForm_145 rfl rfl ?_
  obtain ⟨x1, e_x1, e⟩ := mBind e
  refine mGo.getR (n := 149) dX9_laysForm_146 sf_RX9_50 e_x1 rfl ?_
  refine mGo.iload (n := 151) (x := v9) dX9_laysForm_149 rfl rfl ?_
  refine mGo.iload (n := 153) (x := v8) dX9_laysForm_151 rfl rfl ?_
  obtain ⟨h2, e_h2, e⟩ := mBind e
  refine mGo.iast (n := 154) dX9_laysForm_153 e_h2 rfl ?_
  refine mGo.iinc (n := 157) (x := v4) (v := (v4 + 1)) (ls' := [some (va_rf v0), some (.int v1), some (.int v2), some (.int v3), some (.int (v4 + 1)), none, none, none, some (.int v8), some (.int v9)]) dX9_laysForm_154 rfl rfl rfl (Nat.le_of_ble_eq_true rfl) rfl ?_
  refine mGo.goto (tgt := 10) dX9_laysForm_157 (by decide) ?_
  cases e
  refine mGo.mk [true, true, true, true, true, false, false, false, false, false] ?_
  exact q
def f_X9_laysForm_b104 (v0 : Option Nat) (v1 : Int32) (v2 : Int32) (v3 : Int32) (v4 : Int32) (v8 : Int32) (v9 : Int32) (h : mH) : Option ((Int32 × mH) ⊕ ((Int32 × mH) ⊕ (mH))) :=
  if v9 ≤ 0 then
    (f_X9_laysForm_c145 v0 v1 v2 v3 v4 v8 v9 h).map (fun r => (Sum.inr r))
  else
    (mGR h v0 8 16).bind fun x2 =>
    (mAI h x2 (v9 - (1 : Int32))).bind fun x3 =>
    if x3 ≤ v8 then
      (f_X9_laysForm_c145 v0 v1 v2 v3 v4 v8 v9 h).map (fun r => (Sum.inr r))
    else
      (mGR h v0 8 16).bind fun x5 =>
      (mGR h v0 8 16).bind fun x6 =>
      (mAI h x6 (v9 - (1 : Int32))).bind fun x7 =>
      (mSI h x5 v9 x7).bind fun h8 =>
      some (Sum.inl ((v9 + (-1)), h8))
set_option maxRecDepth 100000 in
set_option maxHeartbeats 4000000 in
theorem g_X9_laysForm_b104 {w : mWp} {Q : Option Value → mH → Prop} (v0 : Option Nat) (v1 : Int32) (v2 : Int32) (v3 : Int32) (v4 : Int32) (v8 : Int32) (v9 : Int32) (h : mH) {res : (Int32 × mH) ⊕ ((Int32 × mH) ⊕ (mH))} (e : f_X9_laysForm_b104 v0 v1 v2 v3 v4 v8 v9 h = some res) (q : (Sum.elim (fun x : Int32 × mH => mGo w kX9_laysForm 0 0 104 [some (va_rf v0), some (.int v1), some (.int v2), some (.int v3), some (.int v4), none, none, none, some (.int v8), some (.int x.1)] [] x.2 Q) (Sum.elim (fun x : Int32 × mH => mGo w kX9_laysForm 0 0 10 [some (va_rf v0), some (.int v1), some (.int v2), some (.int v3), some (.int x.1), none, none, none, none, none] [] x.2 Q) (fun r : mH => Q none r))) res) : mGo w kX9_laysForm 0 0 104 [some (va_rf v0), some (.int v1), some (.int v2), some (.int v3), some (.int v4), none, none, none, some (.int v8), some (.int v9)] [] h Q := by
  unfold f_X9_laysForm_b104 at e
  refine mGo.iload (n := 106) (x := v9) dX9_laysForm_104 rfl rfl ?_
  refine mGo.if_le (tgt := 145) (n := 109) dX9_laysForm_106 (by decide) rfl (fun hc => ?_) (fun hc => ?_)
  · replace e := mIft hc e
    obtain ⟨r1, e2, rfl⟩ := mMap e
    refine mGo.mk [true, true, true, true, true, false, false, false, true, true] ?_
    exact g_X9_laysForm_c145 v0 v1 v2 v3 v4 v8 v9 h e2 q
  · replace e := mIff hc e
    refine mGo.aload_n (n := 110) (r := v0) dX9_laysForm_109 rfl rfl ?_
    obtain ⟨x2, e_x2, e⟩ := mBind e
    refine mGo.getR (n := 113) dX9_laysForm_110 sf_RX9_50 e_x2 rfl ?_
    refine mGo.iload (n := 115) (x := v9) dX9_laysForm_113 rfl rfl ?_
    refine mGo.iconst (n := 116) (v := (1 : Int32)) dX9_laysForm_115 (by decide) rfl ?_
    refine mGo.isub (n := 117) dX9_laysForm_116 rfl ?_
    obtain ⟨x3, e_x3, e⟩ := mBind e
    refine mGo.iald (n := 118) dX9_laysForm_117 e_x3 rfl ?_
    refine mGo.iload (n := 120) (x := v8) dX9_laysForm_118 rfl rfl ?_
    refine mGo.icmp_le (tgt := 145) (n := 123) dX9_laysForm_120 (by decide) rfl (fun hc => ?_) (fun hc => ?_)
    · replace e := mIft hc e
      obtain ⟨r4, e2, rfl⟩ := mMap e
      refine mGo.mk [true, true, true, true, true, false, false, false, true, true] ?_
      exact g_X9_laysForm_c145 v0 v1 v2 v3 v4 v8 v9 h e2 q
    · replace e := mIff hc e
      refine mGo.aload_n (n := 124) (r := v0) dX9_laysForm_123 rfl rfl ?_
      obtain ⟨x5, e_x5, e⟩ := mBind e
      refine mGo.getR (n := 127) dX9_laysForm_124 sf_RX9_50 e_x5 rfl ?_
      refine mGo.iload (n := 129) (x := v9) dX9_laysForm_127 rfl rfl ?_
      refine mGo.aload_n (n := 130) (r := v0) dX9_laysForm_129 rfl rfl ?_
      obtain ⟨x6, e_x6, e⟩ := mBind e
      refine mGo.getR (n := 133) dX9_laysForm_130 sf_RX9_50 e_x6 rfl ?_
      refine mGo.iload (n := 135) (x := v9) dX9_laysForm_133 rfl rfl ?_
      refine mGo.iconst (n := 136) (v := (1 : Int32)) dX9_laysForm_135 (by decide) rfl ?_
      refine mGo.isub (n := 137) dX9_laysForm_136 rfl ?_
      obtain ⟨x7, e_x7, e⟩ := mBind e
      refine mGo.iald (n := 138) dX9_laysForm_137 e_x7 rfl ?_
      obtain ⟨h8, e_h8, e⟩ := mBind e
      refine mGo.iast (n := 139) dX9_laysForm_138 e_h8 rfl ?_
      refine mGo.iinc (n := 142) (x := v9) (v := (v9 + (-1))) (ls' := [some (va_rf v0), some (.int v1), some (.int v2), some (.int v3), some (.int v4), none, none, none, some (.int v8), some (.int (v9 + (-1)))]) dX9_laysForm_139 rfl rfl rfl (Nat.le_of_ble_eq_true rfl) rfl ?_
      refine mGo.goto (tgt := 104) dX9_laysForm_142 (by decide) ?_
      cases e
      refine mGo.mk [true, true, true, true, true, false, false, false, true, true] ?_
      exact q
noncomputable def f_X9_laysForm_l104 (v0 : Option Nat) (v1 : Int32) (v2 : Int32) (v3 : Int32) (v4 : Int32) (v8 : Int32) (v9 : Int32) (h : mH) : Option ((Int32 × mH) ⊕ (mH)) :=
  mLoop (fun x : Int32 × mH => f_X9_laysForm_b104 v0 v1 v2 v3 v4 v8 x.1 x.2) (v9, h)
set_option maxRecDepth 100000 in
set_option maxHeartbeats 4000000 in
theorem g_X9_laysForm_l104 {w : mWp} {Q : Option Value → mH → Prop} (v0 : Option Nat) (v1 : Int32) (v2 : Int32) (v3 : Int32) (v4 : Int32) (v8 : Int32) (v9 : Int32) (h : mH) {res : (Int32 × mH) ⊕ (mH)} (e : f_X9_laysForm_l104 v0 v1 v2 v3 v4 v8 v9 h = some res) (q : (Sum.elim (fun x : Int32 × mH => mGo w kX9_laysForm 0 0 10 [some (va_rf v0), some (.int v1), some (.int v2), some (.int v3), some (.int x.1), none, none, none, none, none] [] x.2 Q) (fun r : mH => Q none r)) res) : mGo w kX9_laysForm 0 0 104 [some (va_rf v0), some (.int v1), some (.int v2), some (.int v3), some (.int v4), none, none, none, some (.int v8), some (.int v9)] [] h Q := by
  unfold f_X9_laysForm_l104 at e
  refine mLoop_go (x := (v9, h)) (fun x : Int32 × mH => mGo w kX9_laysForm 0 0 104 [some (va_rf v0), some (.int v1), some (.int v2), some (.int v3), some (.int v4), none, none, none, some (.int v8), some (.int x.1)] [] x.2 Q) (Sum.elim (fun x : Int32 × mH => mGo w kX9_laysForm 0 0 10 [some (va_rf v0), some (.int v1), some (.int v2), some (.int v3), some (.int x.1), none, none, none, none, none] [] x.2 Q) (fun r : mH => Q none r)) ?_ e q
  rintro ⟨v9, h1⟩ res e q
  exact g_X9_laysForm_b104 v0 v1 v2 v3 v4 v8 v9 h1 e q
noncomputable def f_X9_laysForm_b38 (v0 : Option Nat) (v1 : Int32) (v2 : Int32) (v3 : Int32) (v4 : Int32) (v5 : Int32) (v6 : Int32) (v7 : Int32) (h : mH) : Option ((Int32 × Int32) ⊕ ((Int32 × mH) ⊕ (mH))) :=
  if v3 ≤ v7 then
    if (v6 ^^^ (((1 : Int32) <<< (v3 &&& 31)) - (1 : Int32))) ≤ v6 then
      (f_X9_laysForm_l104 v0 v1 v2 v3 v4 (v6 ^^^ (((1 : Int32) <<< (v3 &&& 31)) - (1 : Int32))) v4 h).map (fun r => (Sum.inr r))
    else
      (f_X9_laysForm_l104 v0 v1 v2 v3 v4 v6 v4 h).map (fun r => (Sum.inr r))
  else
    (f_X9_has v5 v7).bind fun x3 =>
    if x3 = 0 then
      some (Sum.inl (v6, (v7 + 1)))
    else
      (mGR h v0 8 15).bind fun x4 =>
      (mAI h x4 v7).bind fun x5 =>
      some (Sum.inl ((v6 ||| ((1 : Int32) <<< (x5 &&& 31))), (v7 + 1)))
set_option maxRecDepth 100000 in
set_option maxHeartbeats 4000000 in
theorem g_X9_laysForm_b38 {w : mWp} {Q : Option Value → mH → Prop} (v0 : Option Nat) (v1 : Int32) (v2 : Int32) (v3 : Int32) (v4 : Int32) (v5 : Int32) (v6 : Int32) (v7 : Int32) (h : mH) {res : (Int32 × Int32) ⊕ ((Int32 × mH) ⊕ (mH))} (e : f_X9_laysForm_b38 v0 v1 v2 v3 v4 v5 v6 v7 h = some res) (q : (Sum.elim (fun x : Int32 × Int32 => mGo w kX9_laysForm 0 0 38 [some (va_rf v0), some (.int v1), some (.int v2), some (.int v3), some (.int v4), some (.int v5), some (.int x.1), some (.int x.2), none, none] [] h Q) (Sum.elim (fun x : Int32 × mH => mGo w kX9_laysForm 0 0 10 [some (va_rf v0), some (.int v1), some (.int v2), some (.int v3), some (.int x.1), none, none, none, none, none] [] x.2 Q) (fun r : mH => Q none r))) res) : mGo w kX9_laysForm 0 0 38 [some (va_rf v0), some (.int v1), some (.int v2), some (.int v3), some (.int v4), some (.int v5), some (.int v6), some (.int v7), none, none] [] h Q := by
  unfold f_X9_laysForm_b38 at e
  refine mGo.iload (n := 40) (x := v7) dX9_laysForm_38 rfl rfl ?_
  refine mGo.iload_n (n := 41) (x := v3) dX9_laysForm_40 rfl rfl ?_
  refine mGo.icmp_ge (tgt := 74) (n := 44) dX9_laysForm_41 (by decide) rfl (fun hc => ?_) (fun hc => ?_)
  · replace e := mIft hc e
    refine mGo.iload (n := 76) (x := v6) dX9_laysForm_74 rfl rfl ?_
    refine mGo.iconst (n := 77) (v := (1 : Int32)) dX9_laysForm_76 (by decide) rfl ?_
    refine mGo.iload_n (n := 78) (x := v3) dX9_laysForm_77 rfl rfl ?_
    refine mGo.ishl (n := 79) dX9_laysForm_78 rfl ?_
    refine mGo.iconst (n := 80) (v := (1 : Int32)) dX9_laysForm_79 (by decide) rfl ?_
    refine mGo.isub (n := 81) dX9_laysForm_80 rfl ?_
    refine mGo.ixor (n := 82) dX9_laysForm_81 rfl ?_
    refine mGo.istore (n := 84) (ls' := [some (va_rf v0), some (.int v1), some (.int v2), some (.int v3), some (.int v4), some (.int v5), some (.int v6), some (.int (v6 ^^^ (((1 : Int32) <<< (v3 &&& 31)) - (1 : Int32)))), none, none]) dX9_laysForm_82 rfl (Nat.le_of_ble_eq_true rfl) rfl ?_
    refine mGo.iload (n := 86) (x := v6) dX9_laysForm_84 rfl rfl ?_
    refine mGo.iload (n := 88) (x := (v6 ^^^ (((1 : Int32) <<< (v3 &&& 31)) - (1 : Int32)))) dX9_laysForm_86 rfl rfl ?_
    refine mGo.icmp_ge (tgt := 96) (n := 91) dX9_laysForm_88 (by decide) rfl (fun hc => ?_) (fun hc => ?_)
    · replace e := mIft hc e
      refine mGo.iload (n := 98) (x := (v6 ^^^ (((1 : Int32) <<< (v3 &&& 31)) - (1 : Int32)))) dX9_laysForm_96 rfl rfl ?_
      refine mGo.istore (n := 100) (ls' := [some (va_rf v0), some (.int v1), some (.int v2), some (.int v3), some (.int v4), some (.int v5), some (.int v6), some (.int (v6 ^^^ (((1 : Int32) <<< (v3 &&& 31)) - (1 : Int32)))), some (.int (v6 ^^^ (((1 : Int32) <<< (v3 &&& 31)) - (1 : Int32)))), none]) dX9_laysForm_98 rfl (Nat.le_of_ble_eq_true rfl) rfl ?_
      refine mGo.iload (n := 102) (x := v4) dX9_laysForm_100 rfl rfl ?_
      refine mGo.istore (n := 104) (ls' := [some (va_rf v0), some (.int v1), some (.int v2), some (.int v3), some (.int v4), some (.int v5), some (.int v6), some (.int (v6 ^^^ (((1 : Int32) <<< (v3 &&& 31)) - (1 : Int32)))), some (.int (v6 ^^^ (((1 : Int32) <<< (v3 &&& 31)) - (1 : Int32)))), some (.int v4)]) dX9_laysForm_102 rfl (Nat.le_of_ble_eq_true rfl) rfl ?_
      obtain ⟨r1, e2, rfl⟩ := mMap e
      refine mGo.mk [true, true, true, true, true, false, false, false, true, true] ?_
      exact g_X9_laysForm_l104 v0 v1 v2 v3 v4 (v6 ^^^ (((1 : Int32) <<< (v3 &&& 31)) - (1 : Int32))) v4 h e2 q
    · replace e := mIff hc e
      refine mGo.iload (n := 93) (x := v6) dX9_laysForm_91 rfl rfl ?_
      refine mGo.goto (tgt := 98) dX9_laysForm_93 (by decide) ?_
      refine mGo.istore (n := 100) (ls' := [some (va_rf v0), some (.int v1), some (.int v2), some (.int v3), some (.int v4), some (.int v5), some (.int v6), some (.int (v6 ^^^ (((1 : Int32) <<< (v3 &&& 31)) - (1 : Int32)))), some (.int v6), none]) dX9_laysForm_98 rfl (Nat.le_of_ble_eq_true rfl) rfl ?_
      refine mGo.iload (n := 102) (x := v4) dX9_laysForm_100 rfl rfl ?_
      refine mGo.istore (n := 104) (ls' := [some (va_rf v0), some (.int v1), some (.int v2), some (.int v3), some (.int v4), some (.int v5), some (.int v6), some (.int (v6 ^^^ (((1 : Int32) <<< (v3 &&& 31)) - (1 : Int32)))), some (.int v6), some (.int v4)]) dX9_laysForm_102 rfl (Nat.le_of_ble_eq_true rfl) rfl ?_
      obtain ⟨r2, e2, rfl⟩ := mMap e
      refine mGo.mk [true, true, true, true, true, false, false, false, true, true] ?_
      exact g_X9_laysForm_l104 v0 v1 v2 v3 v4 v6 v4 h e2 q
  · replace e := mIff hc e
    refine mGo.iload (n := 46) (x := v5) dX9_laysForm_44 rfl rfl ?_
    refine mGo.iload (n := 48) (x := v7) dX9_laysForm_46 rfl rfl ?_
    obtain ⟨x3, e_x3, e⟩ := mBind e
    refine mGo.callS (n := 51) (y := zX9_has) (R' := (mRoom (1) 0 0)) (as := [.int v5, .int v7]) (st := []) dX9_laysForm_48 sc_RX9_94 rfl (e_X9_has v5 v7 h e_x3) (mFit_of rfl (Nat.le_of_ble_eq_true rfl) (by decide) (Nat.le_of_ble_eq_true rfl) (Nat.le_of_ble_eq_true rfl)) (Nat.le_of_ble_eq_true rfl) rfl rfl ?_
    intro _ _ hq
    rw [hq.1, hq.2]
    show mGo w kX9_laysForm 0 0 51 [some (va_rf v0), some (.int v1), some (.int v2), some (.int v3), some (.int v4), some (.int v5), some (.int v6), some (.int v7), none, none] [.int x3] h Q
    refine mGo.if_eq (tgt := 68) (n := 54) dX9_laysForm_51 (by decide) rfl (fun hc => ?_) (fun hc => ?_)
    · replace e := mIft hc e
      refine mGo.iinc (n := 71) (x := v7) (v := (v7 + 1)) (ls' := [some (va_rf v0), some (.int v1), some (.int v2), some (.int v3), some (.int v4), some (.int v5), some (.int v6), some (.int (v7 + 1)), none, none]) dX9_laysForm_68 rfl rfl rfl (Nat.le_of_ble_eq_true rfl) rfl ?_
      refine mGo.goto (tgt := 38) dX9_laysForm_71 (by decide) ?_
      cases e
      refine mGo.mk [true, true, true, true, true, true, true, true, false, false] ?_
      exact q
    · replace e := mIff hc e
      refine mGo.iload (n := 56) (x := v6) dX9_laysForm_54 rfl rfl ?_
      refine mGo.iconst (n := 57) (v := (1 : Int32)) dX9_laysForm_56 (by decide) rfl ?_
      refine mGo.aload_n (n := 58) (r := v0) dX9_laysForm_57 rfl rfl ?_
      obtain ⟨x4, e_x4, e⟩ := mBind e
      refine mGo.getR (n := 61) dX9_laysForm_58 sf_RX9_47 e_x4 rfl ?_
      refine mGo.iload (n := 63) (x := v7) dX9_laysForm_61 rfl rfl ?_
      obtain ⟨x5, e_x5, e⟩ := mBind e
      refine mGo.iald (n := 64) dX9_laysForm_63 e_x5 rfl ?_
      refine mGo.ishl (n := 65) dX9_laysForm_64 rfl ?_
      refine mGo.ior (n := 66) dX9_laysForm_65 rfl ?_
      refine mGo.istore (n := 68) (ls' := [some (va_rf v0), some (.int v1), some (.int v2), some (.int v3), some (.int v4), some (.int v5), some (.int (v6 ||| ((1 : Int32) <<< (x5 &&& 31)))), some (.int v7), none, none]) dX9_laysForm_66 rfl (Nat.le_of_ble_eq_true rfl) rfl ?_
      refine mGo.iinc (n := 71) (x := v7) (v := (v7 + 1)) (ls' := [some (va_rf v0), some (.int v1), some (.int v2), some (.int v3), some (.int v4), some (.int v5), some (.int (v6 ||| ((1 : Int32) <<< (x5 &&& 31)))), some (.int (v7 + 1)), none, none]) dX9_laysForm_68 rfl rfl rfl (Nat.le_of_ble_eq_true rfl) rfl ?_
      refine mGo.goto (tgt := 38) dX9_laysForm_71 (by decide) ?_
      cases e
      refine mGo.mk [true, true, true, true, true, true, true, true, false, false] ?_
      exact q
noncomputable def f_X9_laysForm_l38 (v0 : Option Nat) (v1 : Int32) (v2 : Int32) (v3 : Int32) (v4 : Int32) (v5 : Int32) (v6 : Int32) (v7 : Int32) (h : mH) : Option ((Int32 × mH) ⊕ (mH)) :=
  mLoop (fun x : Int32 × Int32 => f_X9_laysForm_b38 v0 v1 v2 v3 v4 v5 x.1 x.2 h) (v6, v7)
set_option maxRecDepth 100000 in
set_option maxHeartbeats 4000000 in
theorem g_X9_laysForm_l38 {w : mWp} {Q : Option Value → mH → Prop} (v0 : Option Nat) (v1 : Int32) (v2 : Int32) (v3 : Int32) (v4 : Int32) (v5 : Int32) (v6 : Int32) (v7 : Int32) (h : mH) {res : (Int32 × mH) ⊕ (mH)} (e : f_X9_laysForm_l38 v0 v1 v2 v3 v4 v5 v6 v7 h = some res) (q : (Sum.elim (fun x : Int32 × mH => mGo w kX9_laysForm 0 0 10 [some (va_rf v0), some (.int v1), some (.int v2), some (.int v3), some (.int x.1), none, none, none, none, none] [] x.2 Q) (fun r : mH => Q none r)) res) : mGo w kX9_laysForm 0 0 38 [some (va_rf v0), some (.int v1), some (.int v2), some (.int v3), some (.int v4), some (.int v5), some (.int v6), some (.int v7), none, none] [] h Q := by
  unfold f_X9_laysForm_l38 at e
  refine mLoop_go (x := (v6, v7)) (fun x : Int32 × Int32 => mGo w kX9_laysForm 0 0 38 [some (va_rf v0), some (.int v1), some (.int v2), some (.int v3), some (.int v4), some (.int v5), some (.int x.1), some (.int x.2), none, none] [] h Q) (Sum.elim (fun x : Int32 × mH => mGo w kX9_laysForm 0 0 10 [some (va_rf v0), some (.int v1), some (.int v2), some (.int v3), some (.int x.1), none, none, none, none, none] [] x.2 Q) (fun r : mH => Q none r)) ?_ e q
  rintro ⟨v6, v7⟩ res e q
  exact g_X9_laysForm_b38 v0 v1 v2 v3 v4 v5 v6 v7 h e q
noncomputable def f_X9_laysForm_b10 (v0 : Option Nat) (v1 : Int32) (v2 : Int32) (v3 : Int32) (v4 : Int32) (h : mH) : Option ((Int32 × mH) ⊕ (mH)) :=
  if v3 ≤ v4 then
    some (Sum.inr h)
  else
    (f_X9_rowOf v0 v1 v4 h).bind fun x1 =>
    (f_X9_rowOf v0 v1 v2 h).bind fun x2 =>
    f_X9_laysForm_l38 v0 v1 v2 v3 v4 (x1 ^^^ x2) (0 : Int32) (0 : Int32) h
set_option maxRecDepth 100000 in
set_option maxHeartbeats 4000000 in
theorem g_X9_laysForm_b10 {w : mWp} {Q : Option Value → mH → Prop} (v0 : Option Nat) (v1 : Int32) (v2 : Int32) (v3 : Int32) (v4 : Int32) (h : mH) {res : (Int32 × mH) ⊕ (mH)} (e : f_X9_laysForm_b10 v0 v1 v2 v3 v4 h = some res) (q : (Sum.elim (fun x : Int32 × mH => mGo w kX9_laysForm 0 0 10 [some (va_rf v0), some (.int v1), some (.int v2), some (.int v3), some (.int x.1), none, none, none, none, none] [] x.2 Q) (fun r : mH => Q none r)) res) : mGo w kX9_laysForm 0 0 10 [some (va_rf v0), some (.int v1), some (.int v2), some (.int v3), some (.int v4), none, none, none, none, none] [] h Q := by
  unfold f_X9_laysForm_b10 at e
  refine mGo.iload (n := 12) (x := v4) dX9_laysForm_10 rfl rfl ?_
  refine mGo.iload_n (n := 13) (x := v3) dX9_laysForm_12 rfl rfl ?_
  refine mGo.icmp_ge (tgt := 160) (n := 16) dX9_laysForm_13 (by decide) rfl (fun hc => ?_) (fun hc => ?_)
  · replace e := mIft hc e
    cases e
    exact mGo.vret dX9_laysForm_160 rfl (Nat.le_of_ble_eq_true rfl) (Nat.le_of_ble_eq_true rfl) q
  · replace e := mIff hc e
    refine mGo.aload_n (n := 17) (r := v0) dX9_laysForm_16 rfl rfl ?_
    refine mGo.iload_n (n := 18) (x := v1) dX9_laysForm_17 rfl rfl ?_
    refine mGo.iload (n := 20) (x := v4) dX9_laysForm_18 rfl rfl ?_
    obtain ⟨x1, e_x1, e⟩ := mBind e
    refine mGo.callV (n := 23) (y := zX9_rowOf) (R' := (mRoom (1) 0 0)) (as := [.int v1, .int v4]) (st := []) (r0 := v0) dX9_laysForm_20 sc_RX9_90 rfl (s_X9_rowOf v0 v1 v4 h e_x1) (e_X9_rowOf v0 v1 v4 h e_x1) (mFit_of rfl (Nat.le_of_ble_eq_true rfl) (by decide) (Nat.le_of_ble_eq_true rfl) (Nat.le_of_ble_eq_true rfl)) (Nat.le_of_ble_eq_true rfl) rfl rfl ?_
    intro _ _ hq
    rw [hq.1, hq.2]
    show mGo w kX9_laysForm 0 0 23 [some (va_rf v0), some (.int v1), some (.int v2), some (.int v3), some (.int v4), none, none, none, none, none] [.int x1] h Q
    refine mGo.aload_n (n := 24) (r := v0) dX9_laysForm_23 rfl rfl ?_
    refine mGo.iload_n (n := 25) (x := v1) dX9_laysForm_24 rfl rfl ?_
    refine mGo.iload_n (n := 26) (x := v2) dX9_laysForm_25 rfl rfl ?_
    obtain ⟨x2, e_x2, e⟩ := mBind e
    refine mGo.callV (n := 29) (y := zX9_rowOf) (R' := (mRoom (1) 0 0)) (as := [.int v1, .int v2]) (st := [.int x1]) (r0 := v0) dX9_laysForm_26 sc_RX9_90 rfl (s_X9_rowOf v0 v1 v2 h e_x2) (e_X9_rowOf v0 v1 v2 h e_x2) (mFit_of rfl (Nat.le_of_ble_eq_true rfl) (by decide) (Nat.le_of_ble_eq_true rfl) (Nat.le_of_ble_eq_true rfl)) (Nat.le_of_ble_eq_true rfl) rfl rfl ?_
    intro _ _ hq
    rw [hq.1, hq.2]
    show mGo w kX9_laysForm 0 0 29 [some (va_rf v0), some (.int v1), some (.int v2), some (.int v3), some (.int v4), none, none, none, none, none] [.int x2, .int x1] h Q
    refine mGo.ixor (n := 30) dX9_laysForm_29 rfl ?_
    refine mGo.istore (n := 32) (ls' := [some (va_rf v0), some (.int v1), some (.int v2), some (.int v3), some (.int v4), some (.int (x1 ^^^ x2)), none, none, none, none]) dX9_laysForm_30 rfl (Nat.le_of_ble_eq_true rfl) rfl ?_
    refine mGo.iconst (n := 33) (v := (0 : Int32)) dX9_laysForm_32 (by decide) rfl ?_
    refine mGo.istore (n := 35) (ls' := [some (va_rf v0), some (.int v1), some (.int v2), some (.int v3), some (.int v4), some (.int (x1 ^^^ x2)), some (.int (0 : Int32)), none, none, none]) dX9_laysForm_33 rfl (Nat.le_of_ble_eq_true rfl) rfl ?_
    refine mGo.iconst (n := 36) (v := (0 : Int32)) dX9_laysForm_35 (by decide) rfl ?_
    refine mGo.istore (n := 38) (ls' := [some (va_rf v0), some (.int v1), some (.int v2), some (.int v3), some (.int v4), some (.int (x1 ^^^ x2)), some (.int (0 : Int32)), some (.int (0 : Int32)), none, none]) dX9_laysForm_36 rfl (Nat.le_of_ble_eq_true rfl) rfl ?_
    refine mGo.mk [true, true, true, true, true, true, true, true, false, false] ?_
    exact g_X9_laysForm_l38 v0 v1 v2 v3 v4 (x1 ^^^ x2) (0 : Int32) (0 : Int32) h e q
noncomputable def f_X9_laysForm_l10 (v0 : Option Nat) (v1 : Int32) (v2 : Int32) (v3 : Int32) (v4 : Int32) (h : mH) : Option (mH) :=
  mLoop (fun x : Int32 × mH => f_X9_laysForm_b10 v0 v1 v2 v3 x.1 x.2) (v4, h)
set_option maxRecDepth 100000 in
set_option maxHeartbeats 4000000 in
theorem g_X9_laysForm_l10 {w : mWp} {Q : Option Value → mH → Prop} (v0 : Option Nat) (v1 : Int32) (v2 : Int32) (v3 : Int32) (v4 : Int32) (h : mH) {res : mH} (e : f_X9_laysForm_l10 v0 v1 v2 v3 v4 h = some res) (q : (fun r : mH => Q none r) res) : mGo w kX9_laysForm 0 0 10 [some (va_rf v0), some (.int v1), some (.int v2), some (.int v3), some (.int v4), none, none, none, none, none] [] h Q := by
  unfold f_X9_laysForm_l10 at e
  refine mLoop_go (x := (v4, h)) (fun x : Int32 × mH => mGo w kX9_laysForm 0 0 10 [some (va_rf v0), some (.int v1), some (.int v2), some (.int v3), some (.int x.1), none, none, none, none, none] [] x.2 Q) (fun r : mH => Q none r) ?_ e q
  rintro ⟨v4, h1⟩ res e q
  exact g_X9_laysForm_b10 v0 v1 v2 v3 v4 h1 e q
noncomputable def f_X9_laysForm (v0 : Option Nat) (v1 : Int32) (v2 : Int32) (h : mH) : Option (mH) :=
  (mIs h v0 8).bind fun _ =>
  (mGR h v0 8 1).bind fun x1 =>
  (mAI h x1 v1).bind fun x2 =>
  f_X9_laysForm_l10 v0 v1 v2 x2 (0 : Int32) h
set_option maxRecDepth 100000 in
set_option maxHeartbeats 4000000 in
theorem g_X9_laysForm {w : mWp} {Q : Option Value → mH → Prop} (v0 : Option Nat) (v1 : Int32) (v2 : Int32) (h : mH) {res : mH} (e : f_X9_laysForm v0 v1 v2 h = some res) (q : (fun r : mH => Q none r) res) : mGo w kX9_laysForm 0 0 0 [some (va_rf v0), some (.int v1), some (.int v2), none, none, none, none, none, none, none] [] h Q := by
  unfold f_X9_laysForm at e
  obtain ⟨_, _, e⟩ := mBind e
  refine mGo.aload_n (n := 1) (r := v0) dX9_laysForm_0 rfl rfl ?_
  obtain ⟨x1, e_x1, e⟩ := mBind e
  refine mGo.getR (n := 4) dX9_laysForm_1 sf_RX9_13 e_x1 rfl ?_
  refine mGo.iload_n (n := 5) (x := v1) dX9_laysForm_4 rfl rfl ?_
  obtain ⟨x2, e_x2, e⟩ := mBind e
  refine mGo.iald (n := 6) dX9_laysForm_5 e_x2 rfl ?_
  refine mGo.istore_n (n := 7) (ls' := [some (va_rf v0), some (.int v1), some (.int v2), some (.int x2), none, none, none, none, none, none]) dX9_laysForm_6 rfl (Nat.le_of_ble_eq_true rfl) rfl ?_
  refine mGo.iconst (n := 8) (v := (0 : Int32)) dX9_laysForm_7 (by decide) rfl ?_
  refine mGo.istore (n := 10) (ls' := [some (va_rf v0), some (.int v1), some (.int v2), some (.int x2), some (.int (0 : Int32)), none, none, none, none, none]) dX9_laysForm_8 rfl (Nat.le_of_ble_eq_true rfl) rfl ?_
  refine mGo.mk [true, true, true, true, true, false, false, false, false, false] ?_
  exact g_X9_laysForm_l10 v0 v1 v2 x2 (0 : Int32) h e q
theorem e_X9_laysForm {w : mWp} (v0 : Option Nat) (v1 : Int32) (v2 : Int32) (h : mH) {res : mH} (e : f_X9_laysForm v0 v1 v2 h = some res) : mEx w zX9_laysForm (mRoom 2 0 0) [va_rf v0, .int v1, .int v2] h (fun r h2 => r = none ∧ h2 = res) := by
  refine mEx.of (by decide +kernel) (show mEnt [va_rf v0, .int v1, .int v2] 10 = [some (va_rf v0), some (.int v1), some (.int v2), none, none, none, none, none, none, none] by rw [mEnt_r, mEnt_i, mEnt_i] <;> rfl) (by simp only [List.map_cons, List.map_nil, mRfc, mCi, mCj, List.sum_cons, List.sum_nil]; exact Nat.le_of_ble_eq_true rfl) ?_
  refine g_X9_laysForm v0 v1 v2 h e ?_
  exact ⟨rfl, rfl⟩
theorem s_X9_laysForm (v0 : Option Nat) (v1 : Int32) (v2 : Int32) (h : mH) {res : mH} (e : f_X9_laysForm v0 v1 v2 h = some res) : mIs h v0 8 = some () := by
  unfold f_X9_laysForm at e
  obtain ⟨u, e1, _⟩ := mBind e
  cases u
  exact e1
-- X9_isLess
def kX9_isLess : mK := (cX9_isLess, RX9, 3, some (.boolean), "isLess", mRoom 1 0 0)
def zX9_isLess : mY := (yX9_isLess, cX9_isLess, 3, some (.boolean))
def f_X9_isLess_c28 (v0 : Option Nat) (v1 : Int32) (v2 : Int32) (h : mH) : Option (Int32) :=
  if v1 ≤ v2 then
    some (0 : Int32)
  else
    (mGR h v0 8 16).bind fun x1 =>
    (mAI h x1 v2).bind fun x2 =>
    (mGR h v0 8 17).bind fun x3 =>
    (mAI h x3 v2).bind fun x4 =>
    if x4 ≤ x2 then
      some (0 : Int32)
    else
      some (1 : Int32)
set_option maxRecDepth 100000 in
set_option maxHeartbeats 4000000 in
theorem g_X9_isLess_c28 {w : mWp} {Q : Option Value → mH → Prop} (v0 : Option Nat) (v1 : Int32) (v2 : Int32) (h : mH) {res : Int32} (e : f_X9_isLess_c28 v0 v1 v2 h = some res) (q : (fun r : Int32 => Q (some (.int r)) h) res) : mGo w kX9_isLess 0 0 28 [some (va_rf v0), some (.int v1), some (.int v2)] [] h Q := by
  unfold f_X9_isLess_c28 at e
  refine mGo.iload_n (n := 29) (x := v2) dX9_isLess_28 rfl rfl ?_
  refine mGo.iload_n (n := 30) (x := v1) dX9_isLess_29 rfl rfl ?_
  refine mGo.icmp_ge (tgt := 52) (n := 33) dX9_isLess_30 (by decide) rfl (fun hc => ?_) (fun hc => ?_)
  · replace e := mIft hc e
    refine mGo.iconst (n := 53) (v := (0 : Int32)) dX9_isLess_52 (by decide) rfl ?_
    cases e
    exact mGo.zret dX9_isLess_53 rfl (by decide) (Nat.le_of_ble_eq_true rfl) (Nat.le_of_ble_eq_true rfl) q
  · replace e := mIff hc e
    refine mGo.aload_n (n := 34) (r := v0) dX9_isLess_33 rfl rfl ?_
    obtain ⟨x1, e_x1, e⟩ := mBind e
    refine mGo.getR (n := 37) dX9_isLess_34 sf_RX9_50 e_x1 rfl ?_
    refine mGo.iload_n (n := 38) (x := v2) dX9_isLess_37 rfl rfl ?_
    obtain ⟨x2, e_x2, e⟩ := mBind e
    refine mGo.iald (n := 39) dX9_isLess_38 e_x2 rfl ?_
    refine mGo.aload_n (n := 40) (r := v0) dX9_isLess_39 rfl rfl ?_
    obtain ⟨x3, e_x3, e⟩ := mBind e
    refine mGo.getR (n := 43) dX9_isLess_40 sf_RX9_53 e_x3 rfl ?_
    refine mGo.iload_n (n := 44) (x := v2) dX9_isLess_43 rfl rfl ?_
    obtain ⟨x4, e_x4, e⟩ := mBind e
    refine mGo.iald (n := 45) dX9_isLess_44 e_x4 rfl ?_
    refine mGo.icmp_ge (tgt := 52) (n := 48) dX9_isLess_45 (by decide) rfl (fun hc => ?_) (fun hc => ?_)
    · replace e := mIft hc e
      refine mGo.iconst (n := 53) (v := (0 : Int32)) dX9_isLess_52 (by decide) rfl ?_
      cases e
      exact mGo.zret dX9_isLess_53 rfl (by decide) (Nat.le_of_ble_eq_true rfl) (Nat.le_of_ble_eq_true rfl) q
    · replace e := mIff hc e
      refine mGo.iconst (n := 49) (v := (1 : Int32)) dX9_isLess_48 (by decide) rfl ?_
      refine mGo.goto (tgt := 53) dX9_isLess_49 (by decide) ?_
      cases e
      exact mGo.zret dX9_isLess_53 rfl (by decide) (Nat.le_of_ble_eq_true rfl) (Nat.le_of_ble_eq_true rfl) q
def f_X9_isLess_b2 (v0 : Option Nat) (v1 : Int32) (v2 : Int32) (h : mH) : Option ((Int32) ⊕ (Int32)) :=
  if v1 ≤ v2 then
    (f_X9_isLess_c28 v0 v1 v2 h).map (fun r => (Sum.inr r))
  else
    (mGR h v0 8 16).bind fun x2 =>
    (mAI h x2 v2).bind fun x3 =>
    (mGR h v0 8 17).bind fun x4 =>
    (mAI h x4 v2).bind fun x5 =>
    if x3 = x5 then
      some (Sum.inl (v2 + 1))
    else
      (f_X9_isLess_c28 v0 v1 v2 h).map (fun r => (Sum.inr r))
set_option maxRecDepth 100000 in
set_option maxHeartbeats 4000000 in
theorem g_X9_isLess_b2 {w : mWp} {Q : Option Value → mH → Prop} (v0 : Option Nat) (v1 : Int32) (v2 : Int32) (h : mH) {res : (Int32) ⊕ (Int32)} (e : f_X9_isLess_b2 v0 v1 v2 h = some res) (q : (Sum.elim (fun x : Int32 => mGo w kX9_isLess 0 0 2 [some (va_rf v0), some (.int v1), some (.int x)] [] h Q) (fun r : Int32 => Q (some (.int r)) h)) res) : mGo w kX9_isLess 0 0 2 [some (va_rf v0), some (.int v1), some (.int v2)] [] h Q := by
  unfold f_X9_isLess_b2 at e
  refine mGo.iload_n (n := 3) (x := v2) dX9_isLess_2 rfl rfl ?_
  refine mGo.iload_n (n := 4) (x := v1) dX9_isLess_3 rfl rfl ?_
  refine mGo.icmp_ge (tgt := 28) (n := 7) dX9_isLess_4 (by decide) rfl (fun hc => ?_) (fun hc => ?_)
  · replace e := mIft hc e
    obtain ⟨r1, e2, rfl⟩ := mMap e
    refine mGo.mk [true, true, true] ?_
    exact g_X9_isLess_c28 v0 v1 v2 h e2 q
  · replace e := mIff hc e
    refine mGo.aload_n (n := 8) (r := v0) dX9_isLess_7 rfl rfl ?_
    obtain ⟨x2, e_x2, e⟩ := mBind e
    refine mGo.getR (n := 11) dX9_isLess_8 sf_RX9_50 e_x2 rfl ?_
    refine mGo.iload_n (n := 12) (x := v2) dX9_isLess_11 rfl rfl ?_
    obtain ⟨x3, e_x3, e⟩ := mBind e
    refine mGo.iald (n := 13) dX9_isLess_12 e_x3 rfl ?_
    refine mGo.aload_n (n := 14) (r := v0) dX9_isLess_13 rfl rfl ?_
    obtain ⟨x4, e_x4, e⟩ := mBind e
    refine mGo.getR (n := 17) dX9_isLess_14 sf_RX9_53 e_x4 rfl ?_
    refine mGo.iload_n (n := 18) (x := v2) dX9_isLess_17 rfl rfl ?_
    obtain ⟨x5, e_x5, e⟩ := mBind e
    refine mGo.iald (n := 19) dX9_isLess_18 e_x5 rfl ?_
    refine mGo.icmp_ne (tgt := 28) (n := 22) dX9_isLess_19 (by decide) rfl (fun hc => ?_) (fun hc => ?_)
    · replace e := mIff hc e
      obtain ⟨r6, e2, rfl⟩ := mMap e
      refine mGo.mk [true, true, true] ?_
      exact g_X9_isLess_c28 v0 v1 v2 h e2 q
    · replace e := mIft hc e
      refine mGo.iinc (n := 25) (x := v2) (v := (v2 + 1)) (ls' := [some (va_rf v0), some (.int v1), some (.int (v2 + 1))]) dX9_isLess_22 rfl rfl rfl (Nat.le_of_ble_eq_true rfl) rfl ?_
      refine mGo.goto (tgt := 2) dX9_isLess_25 (by decide) ?_
      cases e
      refine mGo.mk [true, true, true] ?_
      exact q
noncomputable def f_X9_isLess_l2 (v0 : Option Nat) (v1 : Int32) (v2 : Int32) (h : mH) : Option (Int32) :=
  mLoop (fun x : Int32 => f_X9_isLess_b2 v0 v1 x h) (v2)
set_option maxRecDepth 100000 in
set_option maxHeartbeats 4000000 in
theorem g_X9_isLess_l2 {w : mWp} {Q : Option Value → mH → Prop} (v0 : Option Nat) (v1 : Int32) (v2 : Int32) (h : mH) {res : Int32} (e : f_X9_isLess_l2 v0 v1 v2 h = some res) (q : (fun r : Int32 => Q (some (.int r)) h) res) : mGo w kX9_isLess 0 0 2 [some (va_rf v0), some (.int v1), some (.int v2)] [] h Q := by
  unfold f_X9_isLess_l2 at e
  refine mLoop_go (x := (v2)) (fun x : Int32 => mGo w kX9_isLess 0 0 2 [some (va_rf v0), some (.int v1), some (.int x)] [] h Q) (fun r : Int32 => Q (some (.int r)) h) ?_ e q
  rintro v2 res e q
  exact g_X9_isLess_b2 v0 v1 v2 h e q
noncomputable def f_X9_isLess (v0 : Option Nat) (v1 : Int32) (h : mH) : Option (Int32) :=
  (mIs h v0 8).bind fun _ =>
  f_X9_isLess_l2 v0 v1 (0 : Int32) h
set_option maxRecDepth 100000 in
set_option maxHeartbeats 4000000 in
theorem g_X9_isLess {w : mWp} {Q : Option Value → mH → Prop} (v0 : Option Nat) (v1 : Int32) (h : mH) {res : Int32} (e : f_X9_isLess v0 v1 h = some res) (q : (fun r : Int32 => Q (some (.int r)) h) res) : mGo w kX9_isLess 0 0 0 [some (va_rf v0), some (.int v1), none] [] h Q := by
  unfold f_X9_isLess at e
  obtain ⟨_, _, e⟩ := mBind e
  refine mGo.iconst (n := 1) (v := (0 : Int32)) dX9_isLess_0 (by decide) rfl ?_
  refine mGo.istore_n (n := 2) (ls' := [some (va_rf v0), some (.int v1), some (.int (0 : Int32))]) dX9_isLess_1 rfl (Nat.le_of_ble_eq_true rfl) rfl ?_
  refine mGo.mk [true, true, true] ?_
  exact g_X9_isLess_l2 v0 v1 (0 : Int32) h e q
theorem e_X9_isLess {w : mWp} (v0 : Option Nat) (v1 : Int32) (h : mH) {res : Int32} (e : f_X9_isLess v0 v1 h = some res) : mEx w zX9_isLess (mRoom 1 0 0) [va_rf v0, .int v1] h (fun r h2 => r = some (.int res) ∧ h2 = h) := by
  refine mEx.of (by decide +kernel) (show mEnt [va_rf v0, .int v1] 3 = [some (va_rf v0), some (.int v1), none] by rw [mEnt_r, mEnt_i] <;> rfl) (by simp only [List.map_cons, List.map_nil, mRfc, mCi, mCj, List.sum_cons, List.sum_nil]; exact Nat.le_of_ble_eq_true rfl) ?_
  refine g_X9_isLess v0 v1 h e ?_
  exact ⟨rfl, rfl⟩
theorem s_X9_isLess (v0 : Option Nat) (v1 : Int32) (h : mH) {res : Int32} (e : f_X9_isLess v0 v1 h = some res) : mIs h v0 8 = some () := by
  unfold f_X9_isLess at e
  obtain ⟨u, e1, _⟩ := mBind e
  cases u
  exact e1
-- X9_goesOn
def kX9_goesOn : mK := (cX9_goesOn, RX9, 6, some (.boolean), "goesOn", mRoom 2 0 0)
def zX9_goesOn : mY := (yX9_goesOn, cX9_goesOn, 6, some (.boolean))
def f_X9_goesOn_b81 (v0 : Option Nat) (v4 : Int32) (v5 : Int32) (h : mH) : Option ((Int32 × Int32 × mH) ⊕ (Int32 × mH)) :=
  if v5 ≤ v4 then
    some (Sum.inr ((1 : Int32), h))
  else
    (mGR h v0 8 15).bind fun x1 =>
    (f_X9_swaps x1 v4 v5 h).bind fun x2 =>
    some (Sum.inl ((v4 + 1), (v5 + (-1)), x2))
set_option maxRecDepth 100000 in
set_option maxHeartbeats 4000000 in
theorem g_X9_goesOn_b81 {w : mWp} {Q : Option Value → mH → Prop} (v0 : Option Nat) (v4 : Int32) (v5 : Int32) (h : mH) {res : (Int32 × Int32 × mH) ⊕ (Int32 × mH)} (e : f_X9_goesOn_b81 v0 v4 v5 h = some res) (q : (Sum.elim (fun x : Int32 × Int32 × mH => mGo w kX9_goesOn 0 0 81 [some (va_rf v0), none, none, none, some (.int x.1), some (.int x.2.1)] [] x.2.2 Q) (fun r : Int32 × mH => Q (some (.int r.1)) r.2)) res) : mGo w kX9_goesOn 0 0 81 [some (va_rf v0), none, none, none, some (.int v4), some (.int v5)] [] h Q := by
  unfold f_X9_goesOn_b81 at e
  refine mGo.iload (n := 83) (x := v4) dX9_goesOn_81 rfl rfl ?_
  refine mGo.iload (n := 85) (x := v5) dX9_goesOn_83 rfl rfl ?_
  refine mGo.icmp_ge (tgt := 108) (n := 88) dX9_goesOn_85 (by decide) rfl (fun hc => ?_) (fun hc => ?_)
  · replace e := mIft hc e
    refine mGo.iconst (n := 109) (v := (1 : Int32)) dX9_goesOn_108 (by decide) rfl ?_
    cases e
    exact mGo.zret dX9_goesOn_109 rfl (by decide) (Nat.le_of_ble_eq_true rfl) (Nat.le_of_ble_eq_true rfl) q
  · replace e := mIff hc e
    refine mGo.aload_n (n := 89) (r := v0) dX9_goesOn_88 rfl rfl ?_
    obtain ⟨x1, e_x1, e⟩ := mBind e
    refine mGo.getR (n := 92) dX9_goesOn_89 sf_RX9_47 e_x1 rfl ?_
    refine mGo.iload (n := 94) (x := v4) dX9_goesOn_92 rfl rfl ?_
    refine mGo.iload (n := 96) (x := v5) dX9_goesOn_94 rfl rfl ?_
    obtain ⟨x2, e_x2, e⟩ := mBind e
    refine mGo.callS (n := 99) (y := zX9_swaps) (R' := (mRoom (1) 0 0)) (as := [va_rf x1, .int v4, .int v5]) (st := []) dX9_goesOn_96 sc_RX9_189 rfl (e_X9_swaps x1 v4 v5 h e_x2) (mFit_of rfl (Nat.le_of_ble_eq_true rfl) (by decide) (Nat.le_of_ble_eq_true rfl) (Nat.le_of_ble_eq_true rfl)) (Nat.le_of_ble_eq_true rfl) rfl rfl ?_
    intro _ _ hq
    rw [hq.1, hq.2]
    show mGo w kX9_goesOn 0 0 99 [some (va_rf v0), none, none, none, some (.int v4), some (.int v5)] [] x2 Q
    refine mGo.iinc (n := 102) (x := v4) (v := (v4 + 1)) (ls' := [some (va_rf v0), none, none, none, some (.int (v4 + 1)), some (.int v5)]) dX9_goesOn_99 rfl rfl rfl (Nat.le_of_ble_eq_true rfl) rfl ?_
    refine mGo.iinc (n := 105) (x := v5) (v := (v5 + (-1))) (ls' := [some (va_rf v0), none, none, none, some (.int (v4 + 1)), some (.int (v5 + (-1)))]) dX9_goesOn_102 rfl rfl rfl (Nat.le_of_ble_eq_true rfl) rfl ?_
    refine mGo.goto (tgt := 81) dX9_goesOn_105 (by decide) ?_
    cases e
    refine mGo.mk [true, false, false, false, true, true] ?_
    exact q
noncomputable def f_X9_goesOn_l81 (v0 : Option Nat) (v4 : Int32) (v5 : Int32) (h : mH) : Option (Int32 × mH) :=
  mLoop (fun x : Int32 × Int32 × mH => f_X9_goesOn_b81 v0 x.1 x.2.1 x.2.2) (v4, v5, h)
set_option maxRecDepth 100000 in
set_option maxHeartbeats 4000000 in
theorem g_X9_goesOn_l81 {w : mWp} {Q : Option Value → mH → Prop} (v0 : Option Nat) (v4 : Int32) (v5 : Int32) (h : mH) {res : Int32 × mH} (e : f_X9_goesOn_l81 v0 v4 v5 h = some res) (q : (fun r : Int32 × mH => Q (some (.int r.1)) r.2) res) : mGo w kX9_goesOn 0 0 81 [some (va_rf v0), none, none, none, some (.int v4), some (.int v5)] [] h Q := by
  unfold f_X9_goesOn_l81 at e
  refine mLoop_go (x := (v4, v5, h)) (fun x : Int32 × Int32 × mH => mGo w kX9_goesOn 0 0 81 [some (va_rf v0), none, none, none, some (.int x.1), some (.int x.2.1)] [] x.2.2 Q) (fun r : Int32 × mH => Q (some (.int r.1)) r.2) ?_ e q
  rintro ⟨v4, v5, h1⟩ res e q
  exact g_X9_goesOn_b81 v0 v4 v5 h1 e q
noncomputable def f_X9_goesOn_b41 (v0 : Option Nat) (v1 : Int32) (v2 : Int32) (v3 : Int32) (h : mH) : Option ((Int32) ⊕ (Int32 × mH)) :=
  (mGR h v0 8 15).bind fun x1 =>
  (mAI h x1 v3).bind fun x2 =>
  (mGR h v0 8 15).bind fun x3 =>
  (mAI h x3 v2).bind fun x4 =>
  if x4 ≤ x2 then
    (mGR h v0 8 15).bind fun x5 =>
    (f_X9_swaps x5 v2 v3 h).bind fun x6 =>
    (f_X9_goesOn_l81 v0 (v2 + (1 : Int32)) (v1 - (1 : Int32)) x6).map (fun r => (Sum.inr r))
  else
    some (Sum.inl (v3 + (-1)))
set_option maxRecDepth 100000 in
set_option maxHeartbeats 4000000 in
theorem g_X9_goesOn_b41 {w : mWp} {Q : Option Value → mH → Prop} (v0 : Option Nat) (v1 : Int32) (v2 : Int32) (v3 : Int32) (h : mH) {res : (Int32) ⊕ (Int32 × mH)} (e : f_X9_goesOn_b41 v0 v1 v2 v3 h = some res) (q : (Sum.elim (fun x : Int32 => mGo w kX9_goesOn 0 0 41 [some (va_rf v0), some (.int v1), some (.int v2), some (.int x), none, none] [] h Q) (fun r : Int32 × mH => Q (some (.int r.1)) r.2)) res) : mGo w kX9_goesOn 0 0 41 [some (va_rf v0), some (.int v1), some (.int v2), some (.int v3), none, none] [] h Q := by
  unfold f_X9_goesOn_b41 at e
  refine mGo.aload_n (n := 42) (r := v0) dX9_goesOn_41 rfl rfl ?_
  obtain ⟨x1, e_x1, e⟩ := mBind e
  refine mGo.getR (n := 45) dX9_goesOn_42 sf_RX9_47 e_x1 rfl ?_
  refine mGo.iload_n (n := 46) (x := v3) dX9_goesOn_45 rfl rfl ?_
  obtain ⟨x2, e_x2, e⟩ := mBind e
  refine mGo.iald (n := 47) dX9_goesOn_46 e_x2 rfl ?_
  refine mGo.aload_n (n := 48) (r := v0) dX9_goesOn_47 rfl rfl ?_
  obtain ⟨x3, e_x3, e⟩ := mBind e
  refine mGo.getR (n := 51) dX9_goesOn_48 sf_RX9_47 e_x3 rfl ?_
  refine mGo.iload_n (n := 52) (x := v2) dX9_goesOn_51 rfl rfl ?_
  obtain ⟨x4, e_x4, e⟩ := mBind e
  refine mGo.iald (n := 53) dX9_goesOn_52 e_x4 rfl ?_
  refine mGo.icmp_ge (tgt := 62) (n := 56) dX9_goesOn_53 (by decide) rfl (fun hc => ?_) (fun hc => ?_)
  · replace e := mIft hc e
    refine mGo.aload_n (n := 63) (r := v0) dX9_goesOn_62 rfl rfl ?_
    obtain ⟨x5, e_x5, e⟩ := mBind e
    refine mGo.getR (n := 66) dX9_goesOn_63 sf_RX9_47 e_x5 rfl ?_
    refine mGo.iload_n (n := 67) (x := v2) dX9_goesOn_66 rfl rfl ?_
    refine mGo.iload_n (n := 68) (x := v3) dX9_goesOn_67 rfl rfl ?_
    obtain ⟨x6, e_x6, e⟩ := mBind e
    refine mGo.callS (n := 71) (y := zX9_swaps) (R' := (mRoom (1) 0 0)) (as := [va_rf x5, .int v2, .int v3]) (st := []) dX9_goesOn_68 sc_RX9_189 rfl (e_X9_swaps x5 v2 v3 h e_x6) (mFit_of rfl (Nat.le_of_ble_eq_true rfl) (by decide) (Nat.le_of_ble_eq_true rfl) (Nat.le_of_ble_eq_true rfl)) (Nat.le_of_ble_eq_true rfl) rfl rfl ?_
    intro _ _ hq
    rw [hq.1, hq.2]
    show mGo w kX9_goesOn 0 0 71 [some (va_rf v0), some (.int v1), some (.int v2), some (.int v3), none, none] [] x6 Q
    refine mGo.iload_n (n := 72) (x := v2) dX9_goesOn_71 rfl rfl ?_
    refine mGo.iconst (n := 73) (v := (1 : Int32)) dX9_goesOn_72 (by decide) rfl ?_
    refine mGo.iadd (n := 74) dX9_goesOn_73 rfl ?_
    refine mGo.istore (n := 76) (ls' := [some (va_rf v0), some (.int v1), some (.int v2), some (.int v3), some (.int (v2 + (1 : Int32))), none]) dX9_goesOn_74 rfl (Nat.le_of_ble_eq_true rfl) rfl ?_
    refine mGo.iload_n (n := 77) (x := v1) dX9_goesOn_76 rfl rfl ?_
    refine mGo.iconst (n := 78) (v := (1 : Int32)) dX9_goesOn_77 (by decide) rfl ?_
    refine mGo.isub (n := 79) dX9_goesOn_78 rfl ?_
    refine mGo.istore (n := 81) (ls' := [some (va_rf v0), some (.int v1), some (.int v2), some (.int v3), some (.int (v2 + (1 : Int32))), some (.int (v1 - (1 : Int32)))]) dX9_goesOn_79 rfl (Nat.le_of_ble_eq_true rfl) rfl ?_
    obtain ⟨r7, e2, rfl⟩ := mMap e
    refine mGo.mk [true, false, false, false, true, true] ?_
    exact g_X9_goesOn_l81 v0 (v2 + (1 : Int32)) (v1 - (1 : Int32)) x6 e2 q
  · replace e := mIff hc e
    refine mGo.iinc (n := 59) (x := v3) (v := (v3 + (-1))) (ls' := [some (va_rf v0), some (.int v1), some (.int v2), some (.int (v3 + (-1))), none, none]) dX9_goesOn_56 rfl rfl rfl (Nat.le_of_ble_eq_true rfl) rfl ?_
    refine mGo.goto (tgt := 41) dX9_goesOn_59 (by decide) ?_
    cases e
    refine mGo.mk [true, true, true, true, false, false] ?_
    exact q
noncomputable def f_X9_goesOn_l41 (v0 : Option Nat) (v1 : Int32) (v2 : Int32) (v3 : Int32) (h : mH) : Option (Int32 × mH) :=
  mLoop (fun x : Int32 => f_X9_goesOn_b41 v0 v1 v2 x h) (v3)
set_option maxRecDepth 100000 in
set_option maxHeartbeats 4000000 in
theorem g_X9_goesOn_l41 {w : mWp} {Q : Option Value → mH → Prop} (v0 : Option Nat) (v1 : Int32) (v2 : Int32) (v3 : Int32) (h : mH) {res : Int32 × mH} (e : f_X9_goesOn_l41 v0 v1 v2 v3 h = some res) (q : (fun r : Int32 × mH => Q (some (.int r.1)) r.2) res) : mGo w kX9_goesOn 0 0 41 [some (va_rf v0), some (.int v1), some (.int v2), some (.int v3), none, none] [] h Q := by
  unfold f_X9_goesOn_l41 at e
  refine mLoop_go (x := (v3)) (fun x : Int32 => mGo w kX9_goesOn 0 0 41 [some (va_rf v0), some (.int v1), some (.int v2), some (.int x), none, none] [] h Q) (fun r : Int32 × mH => Q (some (.int r.1)) r.2) ?_ e q
  rintro v3 res e q
  exact g_X9_goesOn_b41 v0 v1 v2 v3 h e q
noncomputable def f_X9_goesOn_c31 (v0 : Option Nat) (v1 : Int32) (v2 : Int32) (h : mH) : Option (Int32 × mH) :=
  if 0 ≤ v2 then
    f_X9_goesOn_l41 v0 v1 v2 (v1 - (1 : Int32)) h
  else
    some ((0 : Int32), h)
set_option maxRecDepth 100000 in
set_option maxHeartbeats 4000000 in
theorem g_X9_goesOn_c31 {w : mWp} {Q : Option Value → mH → Prop} (v0 : Option Nat) (v1 : Int32) (v2 : Int32) (h : mH) {res : Int32 × mH} (e : f_X9_goesOn_c31 v0 v1 v2 h = some res) (q : (fun r : Int32 × mH => Q (some (.int r.1)) r.2) res) : mGo w kX9_goesOn 0 0 31 [some (va_rf v0), some (.int v1), some (.int v2), none, none, none] [] h Q := by
  unfold f_X9_goesOn_c31 at e
  refine mGo.iload_n (n := 32) (x := v2) dX9_goesOn_31 rfl rfl ?_
  refine mGo.if_ge (tgt := 37) (n := 35) dX9_goesOn_32 (by decide) rfl (fun hc => ?_) (fun hc => ?_)
  · replace e := mIft hc e
    refine mGo.iload_n (n := 38) (x := v1) dX9_goesOn_37 rfl rfl ?_
    refine mGo.iconst (n := 39) (v := (1 : Int32)) dX9_goesOn_38 (by decide) rfl ?_
    refine mGo.isub (n := 40) dX9_goesOn_39 rfl ?_
    refine mGo.istore_n (n := 41) (ls' := [some (va_rf v0), some (.int v1), some (.int v2), some (.int (v1 - (1 : Int32))), none, none]) dX9_goesOn_40 rfl (Nat.le_of_ble_eq_true rfl) rfl ?_
    refine mGo.mk [true, true, true, true, false, false] ?_
    exact g_X9_goesOn_l41 v0 v1 v2 (v1 - (1 : Int32)) h e q
  · replace e := mIff hc e
    refine mGo.iconst (n := 36) (v := (0 : Int32)) dX9_goesOn_35 (by decide) rfl ?_
    cases e
    exact mGo.zret dX9_goesOn_36 rfl (by decide) (Nat.le_of_ble_eq_true rfl) (Nat.le_of_ble_eq_true rfl) q
noncomputable def f_X9_goesOn_b4 (v0 : Option Nat) (v1 : Int32) (v2 : Int32) (h : mH) : Option ((Int32) ⊕ (Int32 × mH)) :=
  if v2 < 0 then
    (f_X9_goesOn_c31 v0 v1 v2 h).map (fun r => (Sum.inr r))
  else
    (mGR h v0 8 15).bind fun x2 =>
    (mAI h x2 v2).bind fun x3 =>
    (mGR h v0 8 15).bind fun x4 =>
    (mAI h x4 (v2 + (1 : Int32))).bind fun x5 =>
    if x3 ≤ x5 then
      (f_X9_goesOn_c31 v0 v1 v2 h).map (fun r => (Sum.inr r))
    else
      some (Sum.inl (v2 + (-1)))
set_option maxRecDepth 100000 in
set_option maxHeartbeats 4000000 in
theorem g_X9_goesOn_b4 {w : mWp} {Q : Option Value → mH → Prop} (v0 : Option Nat) (v1 : Int32) (v2 : Int32) (h : mH) {res : (Int32) ⊕ (Int32 × mH)} (e : f_X9_goesOn_b4 v0 v1 v2 h = some res) (q : (Sum.elim (fun x : Int32 => mGo w kX9_goesOn 0 0 4 [some (va_rf v0), some (.int v1), some (.int x), none, none, none] [] h Q) (fun r : Int32 × mH => Q (some (.int r.1)) r.2)) res) : mGo w kX9_goesOn 0 0 4 [some (va_rf v0), some (.int v1), some (.int v2), none, none, none] [] h Q := by
  unfold f_X9_goesOn_b4 at e
  refine mGo.iload_n (n := 5) (x := v2) dX9_goesOn_4 rfl rfl ?_
  refine mGo.if_lt (tgt := 31) (n := 8) dX9_goesOn_5 (by decide) rfl (fun hc => ?_) (fun hc => ?_)
  · replace e := mIft hc e
    obtain ⟨r1, e2, rfl⟩ := mMap e
    refine mGo.mk [true, true, true, false, false, false] ?_
    exact g_X9_goesOn_c31 v0 v1 v2 h e2 q
  · replace e := mIff hc e
    refine mGo.aload_n (n := 9) (r := v0) dX9_goesOn_8 rfl rfl ?_
    obtain ⟨x2, e_x2, e⟩ := mBind e
    refine mGo.getR (n := 12) dX9_goesOn_9 sf_RX9_47 e_x2 rfl ?_
    refine mGo.iload_n (n := 13) (x := v2) dX9_goesOn_12 rfl rfl ?_
    obtain ⟨x3, e_x3, e⟩ := mBind e
    refine mGo.iald (n := 14) dX9_goesOn_13 e_x3 rfl ?_
    refine mGo.aload_n (n := 15) (r := v0) dX9_goesOn_14 rfl rfl ?_
    obtain ⟨x4, e_x4, e⟩ := mBind e
    refine mGo.getR (n := 18) dX9_goesOn_15 sf_RX9_47 e_x4 rfl ?_
    refine mGo.iload_n (n := 19) (x := v2) dX9_goesOn_18 rfl rfl ?_
    refine mGo.iconst (n := 20) (v := (1 : Int32)) dX9_goesOn_19 (by decide) rfl ?_
    refine mGo.iadd (n := 21) dX9_goesOn_20 rfl ?_
    obtain ⟨x5, e_x5, e⟩ := mBind e
    refine mGo.iald (n := 22) dX9_goesOn_21 e_x5 rfl ?_
    refine mGo.icmp_le (tgt := 31) (n := 25) dX9_goesOn_22 (by decide) rfl (fun hc => ?_) (fun hc => ?_)
    · replace e := mIft hc e
      obtain ⟨r6, e2, rfl⟩ := mMap e
      refine mGo.mk [true, true, true, false, false, false] ?_
      exact g_X9_goesOn_c31 v0 v1 v2 h e2 q
    · replace e := mIff hc e
      refine mGo.iinc (n := 28) (x := v2) (v := (v2 + (-1))) (ls' := [some (va_rf v0), some (.int v1), some (.int (v2 + (-1))), none, none, none]) dX9_goesOn_25 rfl rfl rfl (Nat.le_of_ble_eq_true rfl) rfl ?_
      refine mGo.goto (tgt := 4) dX9_goesOn_28 (by decide) ?_
      cases e
      refine mGo.mk [true, true, true, false, false, false] ?_
      exact q
noncomputable def f_X9_goesOn_l4 (v0 : Option Nat) (v1 : Int32) (v2 : Int32) (h : mH) : Option (Int32 × mH) :=
  mLoop (fun x : Int32 => f_X9_goesOn_b4 v0 v1 x h) (v2)
set_option maxRecDepth 100000 in
set_option maxHeartbeats 4000000 in
theorem g_X9_goesOn_l4 {w : mWp} {Q : Option Value → mH → Prop} (v0 : Option Nat) (v1 : Int32) (v2 : Int32) (h : mH) {res : Int32 × mH} (e : f_X9_goesOn_l4 v0 v1 v2 h = some res) (q : (fun r : Int32 × mH => Q (some (.int r.1)) r.2) res) : mGo w kX9_goesOn 0 0 4 [some (va_rf v0), some (.int v1), some (.int v2), none, none, none] [] h Q := by
  unfold f_X9_goesOn_l4 at e
  refine mLoop_go (x := (v2)) (fun x : Int32 => mGo w kX9_goesOn 0 0 4 [some (va_rf v0), some (.int v1), some (.int x), none, none, none] [] h Q) (fun r : Int32 × mH => Q (some (.int r.1)) r.2) ?_ e q
  rintro v2 res e q
  exact g_X9_goesOn_b4 v0 v1 v2 h e q
noncomputable def f_X9_goesOn (v0 : Option Nat) (v1 : Int32) (h : mH) : Option (Int32 × mH) :=
  (mIs h v0 8).bind fun _ =>
  f_X9_goesOn_l4 v0 v1 (v1 - (2 : Int32)) h
set_option maxRecDepth 100000 in
set_option maxHeartbeats 4000000 in
theorem g_X9_goesOn {w : mWp} {Q : Option Value → mH → Prop} (v0 : Option Nat) (v1 : Int32) (h : mH) {res : Int32 × mH} (e : f_X9_goesOn v0 v1 h = some res) (q : (fun r : Int32 × mH => Q (some (.int r.1)) r.2) res) : mGo w kX9_goesOn 0 0 0 [some (va_rf v0), some (.int v1), none, none, none, none] [] h Q := by
  unfold f_X9_goesOn at e
  obtain ⟨_, _, e⟩ := mBind e
  refine mGo.iload_n (n := 1) (x := v1) dX9_goesOn_0 rfl rfl ?_
  refine mGo.iconst (n := 2) (v := (2 : Int32)) dX9_goesOn_1 (by decide) rfl ?_
  refine mGo.isub (n := 3) dX9_goesOn_2 rfl ?_
  refine mGo.istore_n (n := 4) (ls' := [some (va_rf v0), some (.int v1), some (.int (v1 - (2 : Int32))), none, none, none]) dX9_goesOn_3 rfl (Nat.le_of_ble_eq_true rfl) rfl ?_
  refine mGo.mk [true, true, true, false, false, false] ?_
  exact g_X9_goesOn_l4 v0 v1 (v1 - (2 : Int32)) h e q
theorem e_X9_goesOn {w : mWp} (v0 : Option Nat) (v1 : Int32) (h : mH) {res : Int32 × mH} (e : f_X9_goesOn v0 v1 h = some res) : mEx w zX9_goesOn (mRoom 2 0 0) [va_rf v0, .int v1] h (fun r h2 => r = some (.int res.1) ∧ h2 = res.2) := by
  refine mEx.of (by decide +kernel) (show mEnt [va_rf v0, .int v1] 6 = [some (va_rf v0), some (.int v1), none, none, none, none] by rw [mEnt_r, mEnt_i] <;> rfl) (by simp only [List.map_cons, List.map_nil, mRfc, mCi, mCj, List.sum_cons, List.sum_nil]; exact Nat.le_of_ble_eq_true rfl) ?_
  refine g_X9_goesOn v0 v1 h e ?_
  exact ⟨rfl, rfl⟩
theorem s_X9_goesOn (v0 : Option Nat) (v1 : Int32) (h : mH) {res : Int32 × mH} (e : f_X9_goesOn v0 v1 h = some res) : mIs h v0 8 = some () := by
  unfold f_X9_goesOn at e
  obtain ⟨u, e1, _⟩ := mBind e
  cases u
  exact e1
-- X9_laysLeast
def kX9_laysLeast : mK := (cX9_laysLeast, RX9, 6, none, "laysLeast", mRoom 3 0 0)
def zX9_laysLeast : mY := (yX9_laysLeast, cX9_laysLeast, 6, none)
set_option maxRecDepth 100000 in
theorem sc_RX9_215 : mSV RX9 215 zX9_laysForm 2 8 := ⟨Or.inl (mT_at 1124 (by decide +kernel) rfl), mT_at 1126 (by decide +kernel) rfl, mT_at 64 (by decide +kernel) rfl, mT_at 91 (by decide +kernel) rfl, mT_at 1127 (by decide +kernel) rfl, ⟨by decide +kernel, by decide +kernel, by decide +kernel⟩, by decide, rfl⟩
set_option maxRecDepth 100000 in
theorem sc_RX9_219 : mSV RX9 219 zX9_isLess 1 8 := ⟨Or.inl (mT_at 1128 (by decide +kernel) rfl), mT_at 1130 (by decide +kernel) rfl, mT_at 65 (by decide +kernel) rfl, mT_at 91 (by decide +kernel) rfl, mT_at 1131 (by decide +kernel) rfl, ⟨by decide +kernel, by decide +kernel, by decide +kernel⟩, by decide, rfl⟩
set_option maxRecDepth 100000 in
theorem sc_RX9_222 : mSV RX9 222 zX9_goesOn 1 8 := ⟨Or.inl (mT_at 1132 (by decide +kernel) rfl), mT_at 1134 (by decide +kernel) rfl, mT_at 66 (by decide +kernel) rfl, mT_at 91 (by decide +kernel) rfl, mT_at 1135 (by decide +kernel) rfl, ⟨by decide +kernel, by decide +kernel, by decide +kernel⟩, by decide, rfl⟩
noncomputable def f_X9_laysLeast_c98 (v0 : Option Nat) (v1 : Int32) (v2 : Int32) (v3 : Int32) (h : mH) : Option ((Int32 × mH) ⊕ ((Int32 × mH) ⊕ (mH))) :=
  (f_X9_goesOn v0 v2 h).bind fun x1 =>
  some (Sum.inl (x1.1, x1.2))
set_option maxRecDepth 100000 in
set_option maxHeartbeats 4000000 in
theorem g_X9_laysLeast_c98 {w : mWp} {Q : Option Value → mH → Prop} (v0 : Option Nat) (v1 : Int32) (v2 : Int32) (v3 : Int32) (h : mH) {res : (Int32 × mH) ⊕ ((Int32 × mH) ⊕ (mH))} (e : f_X9_laysLeast_c98 v0 v1 v2 v3 h = some res) (q : (Sum.elim (fun x : Int32 × mH => mGo w kX9_laysLeast 0 0 50 [some (va_rf v0), some (.int v1), some (.int v2), some (.int v3), some (.int x.1), none] [] x.2 Q) (Sum.elim (fun x : Int32 × mH => mGo w kX9_laysLeast 0 0 18 [some (va_rf v0), some (.int v1), some (.int v2), some (.int x.1), none, none] [] x.2 Q) (fun r : mH => Q none r))) res) : mGo w kX9_laysLeast 0 0 98 [some (va_rf v0), some (.int v1), some (.int v2), some (.int v3), none, none] [] h Q := by
  unfold f_X9_laysLeast_c98 at e
  refine mGo.aload_n (n := 99) (r := v0) dX9_laysLeast_98 rfl rfl ?_
  refine mGo.iload_n (n := 100) (x := v2) dX9_laysLeast_99 rfl rfl ?_
  obtain ⟨x1, e_x1, e⟩ := mBind e
  refine mGo.callV (n := 103) (y := zX9_goesOn) (R' := (mRoom (2) 0 0)) (as := [.int v2]) (st := []) (r0 := v0) dX9_laysLeast_100 sc_RX9_222 rfl (s_X9_goesOn v0 v2 h e_x1) (e_X9_goesOn v0 v2 h e_x1) (mFit_of rfl (Nat.le_of_ble_eq_true rfl) (by decide) (Nat.le_of_ble_eq_true rfl) (Nat.le_of_ble_eq_true rfl)) (Nat.le_of_ble_eq_true rfl) rfl rfl ?_
  intro _ _ hq
  rw [hq.1, hq.2]
  show mGo w kX9_laysLeast 0 0 103 [some (va_rf v0), some (.int v1), some (.int v2), some (.int v3), none, none] [.int x1.1] x1.2 Q
  refine mGo.istore (n := 105) (ls' := [some (va_rf v0), some (.int v1), some (.int v2), some (.int v3), some (.int x1.1), none]) dX9_laysLeast_103 rfl (Nat.le_of_ble_eq_true rfl) rfl ?_
  refine mGo.goto (tgt := 50) dX9_laysLeast_105 (by decide) ?_
  cases e
  refine mGo.mk [true, true, true, true, true, false] ?_
  exact q
noncomputable def f_X9_laysLeast_b72 (v0 : Option Nat) (v1 : Int32) (v2 : Int32) (v3 : Int32) (v5 : Int32) (h : mH) : Option ((Int32 × mH) ⊕ ((Int32 × mH) ⊕ ((Int32 × mH) ⊕ (mH)))) :=
  if v2 ≤ v5 then
    (f_X9_laysLeast_c98 v0 v1 v2 v3 h).map (fun r => (Sum.inr r))
  else
    (mGR h v0 8 17).bind fun x2 =>
    (mGR h v0 8 16).bind fun x3 =>
    (mAI h x3 v5).bind fun x4 =>
    (mSI h x2 v5 x4).bind fun h5 =>
    some (Sum.inl ((v5 + 1), h5))
set_option maxRecDepth 100000 in
set_option maxHeartbeats 4000000 in
theorem g_X9_laysLeast_b72 {w : mWp} {Q : Option Value → mH → Prop} (v0 : Option Nat) (v1 : Int32) (v2 : Int32) (v3 : Int32) (v5 : Int32) (h : mH) {res : (Int32 × mH) ⊕ ((Int32 × mH) ⊕ ((Int32 × mH) ⊕ (mH)))} (e : f_X9_laysLeast_b72 v0 v1 v2 v3 v5 h = some res) (q : (Sum.elim (fun x : Int32 × mH => mGo w kX9_laysLeast 0 0 72 [some (va_rf v0), some (.int v1), some (.int v2), some (.int v3), none, some (.int x.1)] [] x.2 Q) (Sum.elim (fun x : Int32 × mH => mGo w kX9_laysLeast 0 0 50 [some (va_rf v0), some (.int v1), some (.int v2), some (.int v3), some (.int x.1), none] [] x.2 Q) (Sum.elim (fun x : Int32 × mH => mGo w kX9_laysLeast 0 0 18 [some (va_rf v0), some (.int v1), some (.int v2), some (.int x.1), none, none] [] x.2 Q) (fun r : mH => Q none r)))) res) : mGo w kX9_laysLeast 0 0 72 [some (va_rf v0), some (.int v1), some (.int v2), some (.int v3), none, some (.int v5)] [] h Q := by
  unfold f_X9_laysLeast_b72 at e
  refine mGo.iload (n := 74) (x := v5) dX9_laysLeast_72 rfl rfl ?_
  refine mGo.iload_n (n := 75) (x := v2) dX9_laysLeast_74 rfl rfl ?_
  refine mGo.icmp_ge (tgt := 98) (n := 78) dX9_laysLeast_75 (by decide) rfl (fun hc => ?_) (fun hc => ?_)
  · replace e := mIft hc e
    obtain ⟨r1, e2, rfl⟩ := mMap e
    refine mGo.mk [true, true, true, true, false, false] ?_
    exact g_X9_laysLeast_c98 v0 v1 v2 v3 h e2 q
  · replace e := mIff hc e
    refine mGo.aload_n (n := 79) (r := v0) dX9_laysLeast_78 rfl rfl ?_
    obtain ⟨x2, e_x2, e⟩ := mBind e
    refine mGo.getR (n := 82) dX9_laysLeast_79 sf_RX9_53 e_x2 rfl ?_
    refine mGo.iload (n := 84) (x := v5) dX9_laysLeast_82 rfl rfl ?_
    refine mGo.aload_n (n := 85) (r := v0) dX9_laysLeast_84 rfl rfl ?_
    obtain ⟨x3, e_x3, e⟩ := mBind e
    refine mGo.getR (n := 88) dX9_laysLeast_85 sf_RX9_50 e_x3 rfl ?_
    refine mGo.iload (n := 90) (x := v5) dX9_laysLeast_88 rfl rfl ?_
    obtain ⟨x4, e_x4, e⟩ := mBind e
    refine mGo.iald (n := 91) dX9_laysLeast_90 e_x4 rfl ?_
    obtain ⟨h5, e_h5, e⟩ := mBind e
    refine mGo.iast (n := 92) dX9_laysLeast_91 e_h5 rfl ?_
    refine mGo.iinc (n := 95) (x := v5) (v := (v5 + 1)) (ls' := [some (va_rf v0), some (.int v1), some (.int v2), some (.int v3), none, some (.int (v5 + 1))]) dX9_laysLeast_92 rfl rfl rfl (Nat.le_of_ble_eq_true rfl) rfl ?_
    refine mGo.goto (tgt := 72) dX9_laysLeast_95 (by decide) ?_
    cases e
    refine mGo.mk [true, true, true, true, false, true] ?_
    exact q
noncomputable def f_X9_laysLeast_l72 (v0 : Option Nat) (v1 : Int32) (v2 : Int32) (v3 : Int32) (v5 : Int32) (h : mH) : Option ((Int32 × mH) ⊕ ((Int32 × mH) ⊕ (mH))) :=
  mLoop (fun x : Int32 × mH => f_X9_laysLeast_b72 v0 v1 v2 v3 x.1 x.2) (v5, h)
set_option maxRecDepth 100000 in
set_option maxHeartbeats 4000000 in
theorem g_X9_laysLeast_l72 {w : mWp} {Q : Option Value → mH → Prop} (v0 : Option Nat) (v1 : Int32) (v2 : Int32) (v3 : Int32) (v5 : Int32) (h : mH) {res : (Int32 × mH) ⊕ ((Int32 × mH) ⊕ (mH))} (e : f_X9_laysLeast_l72 v0 v1 v2 v3 v5 h = some res) (q : (Sum.elim (fun x : Int32 × mH => mGo w kX9_laysLeast 0 0 50 [some (va_rf v0), some (.int v1), some (.int v2), some (.int v3), some (.int x.1), none] [] x.2 Q) (Sum.elim (fun x : Int32 × mH => mGo w kX9_laysLeast 0 0 18 [some (va_rf v0), some (.int v1), some (.int v2), some (.int x.1), none, none] [] x.2 Q) (fun r : mH => Q none r))) res) : mGo w kX9_laysLeast 0 0 72 [some (va_rf v0), some (.int v1), some (.int v2), some (.int v3), none, some (.int v5)] [] h Q := by
  unfold f_X9_laysLeast_l72 at e
  refine mLoop_go (x := (v5, h)) (fun x : Int32 × mH => mGo w kX9_laysLeast 0 0 72 [some (va_rf v0), some (.int v1), some (.int v2), some (.int v3), none, some (.int x.1)] [] x.2 Q) (Sum.elim (fun x : Int32 × mH => mGo w kX9_laysLeast 0 0 50 [some (va_rf v0), some (.int v1), some (.int v2), some (.int v3), some (.int x.1), none] [] x.2 Q) (Sum.elim (fun x : Int32 × mH => mGo w kX9_laysLeast 0 0 18 [some (va_rf v0), some (.int v1), some (.int v2), some (.int x.1), none, none] [] x.2 Q) (fun r : mH => Q none r))) ?_ e q
  rintro ⟨v5, h1⟩ res e q
  exact g_X9_laysLeast_b72 v0 v1 v2 v3 v5 h1 e q
noncomputable def f_X9_laysLeast_b50 (v0 : Option Nat) (v1 : Int32) (v2 : Int32) (v3 : Int32) (v4 : Int32) (h : mH) : Option ((Int32 × mH) ⊕ ((Int32 × mH) ⊕ (mH))) :=
  if v4 = 0 then
    some (Sum.inr (Sum.inl ((v3 + 1), h)))
  else
    (f_X9_laysForm v0 v1 v3 h).bind fun x1 =>
    (f_X9_isLess v0 v2 x1).bind fun x2 =>
    if x2 = 0 then
      f_X9_laysLeast_c98 v0 v1 v2 v3 x1
    else
      f_X9_laysLeast_l72 v0 v1 v2 v3 (0 : Int32) x1
set_option maxRecDepth 100000 in
set_option maxHeartbeats 4000000 in
theorem g_X9_laysLeast_b50 {w : mWp} {Q : Option Value → mH → Prop} (v0 : Option Nat) (v1 : Int32) (v2 : Int32) (v3 : Int32) (v4 : Int32) (h : mH) {res : (Int32 × mH) ⊕ ((Int32 × mH) ⊕ (mH))} (e : f_X9_laysLeast_b50 v0 v1 v2 v3 v4 h = some res) (q : (Sum.elim (fun x : Int32 × mH => mGo w kX9_laysLeast 0 0 50 [some (va_rf v0), some (.int v1), some (.int v2), some (.int v3), some (.int x.1), none] [] x.2 Q) (Sum.elim (fun x : Int32 × mH => mGo w kX9_laysLeast 0 0 18 [some (va_rf v0), some (.int v1), some (.int v2), some (.int x.1), none, none] [] x.2 Q) (fun r : mH => Q none r))) res) : mGo w kX9_laysLeast 0 0 50 [some (va_rf v0), some (.int v1), some (.int v2), some (.int v3), some (.int v4), none] [] h Q := by
  unfold f_X9_laysLeast_b50 at e
  refine mGo.iload (n := 52) (x := v4) dX9_laysLeast_50 rfl rfl ?_
  refine mGo.if_eq (tgt := 108) (n := 55) dX9_laysLeast_52 (by decide) rfl (fun hc => ?_) (fun hc => ?_)
  · replace e := mIft hc e
    refine mGo.iinc (n := 111) (x := v3) (v := (v3 + 1)) (ls' := [some (va_rf v0), some (.int v1), some (.int v2), some (.int (v3 + 1)), some (.int v4), none]) dX9_laysLeast_108 rfl rfl rfl (Nat.le_of_ble_eq_true rfl) rfl ?_
    refine mGo.goto (tgt := 18) dX9_laysLeast_111 (by decide) ?_
    cases e
    refine mGo.mk [true, true, true, true, false, false] ?_
    exact q
  · replace e := mIff hc e
    refine mGo.aload_n (n := 56) (r := v0) dX9_laysLeast_55 rfl rfl ?_
    refine mGo.iload_n (n := 57) (x := v1) dX9_laysLeast_56 rfl rfl ?_
    refine mGo.iload_n (n := 58) (x := v3) dX9_laysLeast_57 rfl rfl ?_
    obtain ⟨x1, e_x1, e⟩ := mBind e
    refine mGo.callV (n := 61) (y := zX9_laysForm) (R' := (mRoom (2) 0 0)) (as := [.int v1, .int v3]) (st := []) (r0 := v0) dX9_laysLeast_58 sc_RX9_215 rfl (s_X9_laysForm v0 v1 v3 h e_x1) (e_X9_laysForm v0 v1 v3 h e_x1) (mFit_of rfl (Nat.le_of_ble_eq_true rfl) (by decide) (Nat.le_of_ble_eq_true rfl) (Nat.le_of_ble_eq_true rfl)) (Nat.le_of_ble_eq_true rfl) rfl rfl ?_
    intro _ _ hq
    rw [hq.1, hq.2]
    show mGo w kX9_laysLeast 0 0 61 [some (va_rf v0), some (.int v1), some (.int v2), some (.int v3), some (.int v4), none] [] x1 Q
    refine mGo.aload_n (n := 62) (r := v0) dX9_laysLeast_61 rfl rfl ?_
    refine mGo.iload_n (n := 63) (x := v2) dX9_laysLeast_62 rfl rfl ?_
    obtain ⟨x2, e_x2, e⟩ := mBind e
    refine mGo.callV (n := 66) (y := zX9_isLess) (R' := (mRoom (1) 0 0)) (as := [.int v2]) (st := []) (r0 := v0) dX9_laysLeast_63 sc_RX9_219 rfl (s_X9_isLess v0 v2 x1 e_x2) (e_X9_isLess v0 v2 x1 e_x2) (mFit_of rfl (Nat.le_of_ble_eq_true rfl) (by decide) (Nat.le_of_ble_eq_true rfl) (Nat.le_of_ble_eq_true rfl)) (Nat.le_of_ble_eq_true rfl) rfl rfl ?_
    intro _ _ hq
    rw [hq.1, hq.2]
    show mGo w kX9_laysLeast 0 0 66 [some (va_rf v0), some (.int v1), some (.int v2), some (.int v3), some (.int v4), none] [.int x2] x1 Q
    refine mGo.if_eq (tgt := 98) (n := 69) dX9_laysLeast_66 (by decide) rfl (fun hc => ?_) (fun hc => ?_)
    · replace e := mIft hc e
      refine mGo.mk [true, true, true, true, false, false] ?_
      exact g_X9_laysLeast_c98 v0 v1 v2 v3 x1 e q
    · replace e := mIff hc e
      refine mGo.iconst (n := 70) (v := (0 : Int32)) dX9_laysLeast_69 (by decide) rfl ?_
      refine mGo.istore (n := 72) (ls' := [some (va_rf v0), some (.int v1), some (.int v2), some (.int v3), some (.int v4), some (.int (0 : Int32))]) dX9_laysLeast_70 rfl (Nat.le_of_ble_eq_true rfl) rfl ?_
      refine mGo.mk [true, true, true, true, false, true] ?_
      exact g_X9_laysLeast_l72 v0 v1 v2 v3 (0 : Int32) x1 e q
noncomputable def f_X9_laysLeast_l50 (v0 : Option Nat) (v1 : Int32) (v2 : Int32) (v3 : Int32) (v4 : Int32) (h : mH) : Option ((Int32 × mH) ⊕ (mH)) :=
  mLoop (fun x : Int32 × mH => f_X9_laysLeast_b50 v0 v1 v2 v3 x.1 x.2) (v4, h)
set_option maxRecDepth 100000 in
set_option maxHeartbeats 4000000 in
theorem g_X9_laysLeast_l50 {w : mWp} {Q : Option Value → mH → Prop} (v0 : Option Nat) (v1 : Int32) (v2 : Int32) (v3 : Int32) (v4 : Int32) (h : mH) {res : (Int32 × mH) ⊕ (mH)} (e : f_X9_laysLeast_l50 v0 v1 v2 v3 v4 h = some res) (q : (Sum.elim (fun x : Int32 × mH => mGo w kX9_laysLeast 0 0 18 [some (va_rf v0), some (.int v1), some (.int v2), some (.int x.1), none, none] [] x.2 Q) (fun r : mH => Q none r)) res) : mGo w kX9_laysLeast 0 0 50 [some (va_rf v0), some (.int v1), some (.int v2), some (.int v3), some (.int v4), none] [] h Q := by
  unfold f_X9_laysLeast_l50 at e
  refine mLoop_go (x := (v4, h)) (fun x : Int32 × mH => mGo w kX9_laysLeast 0 0 50 [some (va_rf v0), some (.int v1), some (.int v2), some (.int v3), some (.int x.1), none] [] x.2 Q) (Sum.elim (fun x : Int32 × mH => mGo w kX9_laysLeast 0 0 18 [some (va_rf v0), some (.int v1), some (.int v2), some (.int x.1), none, none] [] x.2 Q) (fun r : mH => Q none r)) ?_ e q
  rintro ⟨v4, h1⟩ res e q
  exact g_X9_laysLeast_b50 v0 v1 v2 v3 v4 h1 e q
noncomputable def f_X9_laysLeast_b26 (v0 : Option Nat) (v1 : Int32) (v2 : Int32) (v3 : Int32) (v4 : Int32) (h : mH) : Option ((Int32 × mH) ⊕ ((Int32 × mH) ⊕ (mH))) :=
  if v2 ≤ v4 then
    (f_X9_laysLeast_l50 v0 v1 v2 v3 (1 : Int32) h).map (fun r => (Sum.inr r))
  else
    (mGR h v0 8 15).bind fun x2 =>
    (mSI h x2 v4 v4).bind fun h3 =>
    some (Sum.inl ((v4 + 1), h3))
set_option maxRecDepth 100000 in
set_option maxHeartbeats 4000000 in
theorem g_X9_laysLeast_b26 {w : mWp} {Q : Option Value → mH → Prop} (v0 : Option Nat) (v1 : Int32) (v2 : Int32) (v3 : Int32) (v4 : Int32) (h : mH) {res : (Int32 × mH) ⊕ ((Int32 × mH) ⊕ (mH))} (e : f_X9_laysLeast_b26 v0 v1 v2 v3 v4 h = some res) (q : (Sum.elim (fun x : Int32 × mH => mGo w kX9_laysLeast 0 0 26 [some (va_rf v0), some (.int v1), some (.int v2), some (.int v3), some (.int x.1), none] [] x.2 Q) (Sum.elim (fun x : Int32 × mH => mGo w kX9_laysLeast 0 0 18 [some (va_rf v0), some (.int v1), some (.int v2), some (.int x.1), none, none] [] x.2 Q) (fun r : mH => Q none r))) res) : mGo w kX9_laysLeast 0 0 26 [some (va_rf v0), some (.int v1), some (.int v2), some (.int v3), some (.int v4), none] [] h Q := by
  unfold f_X9_laysLeast_b26 at e
  refine mGo.iload (n := 28) (x := v4) dX9_laysLeast_26 rfl rfl ?_
  refine mGo.iload_n (n := 29) (x := v2) dX9_laysLeast_28 rfl rfl ?_
  refine mGo.icmp_ge (tgt := 47) (n := 32) dX9_laysLeast_29 (by decide) rfl (fun hc => ?_) (fun hc => ?_)
  · replace e := mIft hc e
    refine mGo.iconst (n := 48) (v := (1 : Int32)) dX9_laysLeast_47 (by decide) rfl ?_
    refine mGo.istore (n := 50) (ls' := [some (va_rf v0), some (.int v1), some (.int v2), some (.int v3), some (.int (1 : Int32)), none]) dX9_laysLeast_48 rfl (Nat.le_of_ble_eq_true rfl) rfl ?_
    obtain ⟨r1, e2, rfl⟩ := mMap e
    refine mGo.mk [true, true, true, true, true, false] ?_
    exact g_X9_laysLeast_l50 v0 v1 v2 v3 (1 : Int32) h e2 q
  · replace e := mIff hc e
    refine mGo.aload_n (n := 33) (r := v0) dX9_laysLeast_32 rfl rfl ?_
    obtain ⟨x2, e_x2, e⟩ := mBind e
    refine mGo.getR (n := 36) dX9_laysLeast_33 sf_RX9_47 e_x2 rfl ?_
    refine mGo.iload (n := 38) (x := v4) dX9_laysLeast_36 rfl rfl ?_
    refine mGo.iload (n := 40) (x := v4) dX9_laysLeast_38 rfl rfl ?_
    obtain ⟨h3, e_h3, e⟩ := mBind e
    refine mGo.iast (n := 41) dX9_laysLeast_40 e_h3 rfl ?_
    refine mGo.iinc (n := 44) (x := v4) (v := (v4 + 1)) (ls' := [some (va_rf v0), some (.int v1), some (.int v2), some (.int v3), some (.int (v4 + 1)), none]) dX9_laysLeast_41 rfl rfl rfl (Nat.le_of_ble_eq_true rfl) rfl ?_
    refine mGo.goto (tgt := 26) dX9_laysLeast_44 (by decide) ?_
    cases e
    refine mGo.mk [true, true, true, true, true, false] ?_
    exact q
noncomputable def f_X9_laysLeast_l26 (v0 : Option Nat) (v1 : Int32) (v2 : Int32) (v3 : Int32) (v4 : Int32) (h : mH) : Option ((Int32 × mH) ⊕ (mH)) :=
  mLoop (fun x : Int32 × mH => f_X9_laysLeast_b26 v0 v1 v2 v3 x.1 x.2) (v4, h)
set_option maxRecDepth 100000 in
set_option maxHeartbeats 4000000 in
theorem g_X9_laysLeast_l26 {w : mWp} {Q : Option Value → mH → Prop} (v0 : Option Nat) (v1 : Int32) (v2 : Int32) (v3 : Int32) (v4 : Int32) (h : mH) {res : (Int32 × mH) ⊕ (mH)} (e : f_X9_laysLeast_l26 v0 v1 v2 v3 v4 h = some res) (q : (Sum.elim (fun x : Int32 × mH => mGo w kX9_laysLeast 0 0 18 [some (va_rf v0), some (.int v1), some (.int v2), some (.int x.1), none, none] [] x.2 Q) (fun r : mH => Q none r)) res) : mGo w kX9_laysLeast 0 0 26 [some (va_rf v0), some (.int v1), some (.int v2), some (.int v3), some (.int v4), none] [] h Q := by
  unfold f_X9_laysLeast_l26 at e
  refine mLoop_go (x := (v4, h)) (fun x : Int32 × mH => mGo w kX9_laysLeast 0 0 26 [some (va_rf v0), some (.int v1), some (.int v2), some (.int v3), some (.int x.1), none] [] x.2 Q) (Sum.elim (fun x : Int32 × mH => mGo w kX9_laysLeast 0 0 18 [some (va_rf v0), some (.int v1), some (.int v2), some (.int x.1), none, none] [] x.2 Q) (fun r : mH => Q none r)) ?_ e q
  rintro ⟨v4, h1⟩ res e q
  exact g_X9_laysLeast_b26 v0 v1 v2 v3 v4 h1 e q
noncomputable def f_X9_laysLeast_b18 (v0 : Option Nat) (v1 : Int32) (v2 : Int32) (v3 : Int32) (h : mH) : Option ((Int32 × mH) ⊕ (mH)) :=
  if v2 ≤ v3 then
    some (Sum.inr h)
  else
    f_X9_laysLeast_l26 v0 v1 v2 v3 (0 : Int32) h
set_option maxRecDepth 100000 in
set_option maxHeartbeats 4000000 in
theorem g_X9_laysLeast_b18 {w : mWp} {Q : Option Value → mH → Prop} (v0 : Option Nat) (v1 : Int32) (v2 : Int32) (v3 : Int32) (h : mH) {res : (Int32 × mH) ⊕ (mH)} (e : f_X9_laysLeast_b18 v0 v1 v2 v3 h = some res) (q : (Sum.elim (fun x : Int32 × mH => mGo w kX9_laysLeast 0 0 18 [some (va_rf v0), some (.int v1), some (.int v2), some (.int x.1), none, none] [] x.2 Q) (fun r : mH => Q none r)) res) : mGo w kX9_laysLeast 0 0 18 [some (va_rf v0), some (.int v1), some (.int v2), some (.int v3), none, none] [] h Q := by
  unfold f_X9_laysLeast_b18 at e
  refine mGo.iload_n (n := 19) (x := v3) dX9_laysLeast_18 rfl rfl ?_
  refine mGo.iload_n (n := 20) (x := v2) dX9_laysLeast_19 rfl rfl ?_
  refine mGo.icmp_ge (tgt := 114) (n := 23) dX9_laysLeast_20 (by decide) rfl (fun hc => ?_) (fun hc => ?_)
  · replace e := mIft hc e
    cases e
    exact mGo.vret dX9_laysLeast_114 rfl (Nat.le_of_ble_eq_true rfl) (Nat.le_of_ble_eq_true rfl) q
  · replace e := mIff hc e
    refine mGo.iconst (n := 24) (v := (0 : Int32)) dX9_laysLeast_23 (by decide) rfl ?_
    refine mGo.istore (n := 26) (ls' := [some (va_rf v0), some (.int v1), some (.int v2), some (.int v3), some (.int (0 : Int32)), none]) dX9_laysLeast_24 rfl (Nat.le_of_ble_eq_true rfl) rfl ?_
    refine mGo.mk [true, true, true, true, true, false] ?_
    exact g_X9_laysLeast_l26 v0 v1 v2 v3 (0 : Int32) h e q
noncomputable def f_X9_laysLeast_l18 (v0 : Option Nat) (v1 : Int32) (v2 : Int32) (v3 : Int32) (h : mH) : Option (mH) :=
  mLoop (fun x : Int32 × mH => f_X9_laysLeast_b18 v0 v1 v2 x.1 x.2) (v3, h)
set_option maxRecDepth 100000 in
set_option maxHeartbeats 4000000 in
theorem g_X9_laysLeast_l18 {w : mWp} {Q : Option Value → mH → Prop} (v0 : Option Nat) (v1 : Int32) (v2 : Int32) (v3 : Int32) (h : mH) {res : mH} (e : f_X9_laysLeast_l18 v0 v1 v2 v3 h = some res) (q : (fun r : mH => Q none r) res) : mGo w kX9_laysLeast 0 0 18 [some (va_rf v0), some (.int v1), some (.int v2), some (.int v3), none, none] [] h Q := by
  unfold f_X9_laysLeast_l18 at e
  refine mLoop_go (x := (v3, h)) (fun x : Int32 × mH => mGo w kX9_laysLeast 0 0 18 [some (va_rf v0), some (.int v1), some (.int v2), some (.int x.1), none, none] [] x.2 Q) (fun r : mH => Q none r) ?_ e q
  rintro ⟨v3, h1⟩ res e q
  exact g_X9_laysLeast_b18 v0 v1 v2 v3 h1 e q
noncomputable def f_X9_laysLeast (v0 : Option Nat) (v1 : Int32) (h : mH) : Option (mH) :=
  (mIs h v0 8).bind fun _ =>
  (mGR h v0 8 1).bind fun x1 =>
  (mAI h x1 v1).bind fun x2 =>
  (mGR h v0 8 17).bind fun x3 =>
  (mSI h x3 (0 : Int32) (784 : Int32)).bind fun h4 =>
  f_X9_laysLeast_l18 v0 v1 x2 (0 : Int32) h4
set_option maxRecDepth 100000 in
set_option maxHeartbeats 4000000 in
theorem g_X9_laysLeast {w : mWp} {Q : Option Value → mH → Prop} (v0 : Option Nat) (v1 : Int32) (h : mH) {res : mH} (e : f_X9_laysLeast v0 v1 h = some res) (q : (fun r : mH => Q none r) res) : mGo w kX9_laysLeast 0 0 0 [some (va_rf v0), some (.int v1), none, none, none, none] [] h Q := by
  unfold f_X9_laysLeast at e
  obtain ⟨_, _, e⟩ := mBind e
  refine mGo.aload_n (n := 1) (r := v0) dX9_laysLeast_0 rfl rfl ?_
  obtain ⟨x1, e_x1, e⟩ := mBind e
  refine mGo.getR (n := 4) dX9_laysLeast_1 sf_RX9_13 e_x1 rfl ?_
  refine mGo.iload_n (n := 5) (x := v1) dX9_laysLeast_4 rfl rfl ?_
  obtain ⟨x2, e_x2, e⟩ := mBind e
  refine mGo.iald (n := 6) dX9_laysLeast_5 e_x2 rfl ?_
  refine mGo.istore_n (n := 7) (ls' := [some (va_rf v0), some (.int v1), some (.int x2), none, none, none]) dX9_laysLeast_6 rfl (Nat.le_of_ble_eq_true rfl) rfl ?_
  refine mGo.aload_n (n := 8) (r := v0) dX9_laysLeast_7 rfl rfl ?_
  obtain ⟨x3, e_x3, e⟩ := mBind e
  refine mGo.getR (n := 11) dX9_laysLeast_8 sf_RX9_53 e_x3 rfl ?_
  refine mGo.iconst (n := 12) (v := (0 : Int32)) dX9_laysLeast_11 (by decide) rfl ?_
  refine mGo.sipush (n := 15) (v := (784 : Int32)) dX9_laysLeast_12 (by decide) rfl ?_
  obtain ⟨h4, e_h4, e⟩ := mBind e
  refine mGo.iast (n := 16) dX9_laysLeast_15 e_h4 rfl ?_
  refine mGo.iconst (n := 17) (v := (0 : Int32)) dX9_laysLeast_16 (by decide) rfl ?_
  refine mGo.istore_n (n := 18) (ls' := [some (va_rf v0), some (.int v1), some (.int x2), some (.int (0 : Int32)), none, none]) dX9_laysLeast_17 rfl (Nat.le_of_ble_eq_true rfl) rfl ?_
  refine mGo.mk [true, true, true, true, false, false] ?_
  exact g_X9_laysLeast_l18 v0 v1 x2 (0 : Int32) h4 e q
theorem e_X9_laysLeast {w : mWp} (v0 : Option Nat) (v1 : Int32) (h : mH) {res : mH} (e : f_X9_laysLeast v0 v1 h = some res) : mEx w zX9_laysLeast (mRoom 3 0 0) [va_rf v0, .int v1] h (fun r h2 => r = none ∧ h2 = res) := by
  refine mEx.of (by decide +kernel) (show mEnt [va_rf v0, .int v1] 6 = [some (va_rf v0), some (.int v1), none, none, none, none] by rw [mEnt_r, mEnt_i] <;> rfl) (by simp only [List.map_cons, List.map_nil, mRfc, mCi, mCj, List.sum_cons, List.sum_nil]; exact Nat.le_of_ble_eq_true rfl) ?_
  refine g_X9_laysLeast v0 v1 h e ?_
  exact ⟨rfl, rfl⟩
theorem s_X9_laysLeast (v0 : Option Nat) (v1 : Int32) (h : mH) {res : mH} (e : f_X9_laysLeast v0 v1 h = some res) : mIs h v0 8 = some () := by
  unfold f_X9_laysLeast at e
  obtain ⟨u, e1, _⟩ := mBind e
  cases u
  exact e1
-- X9_form
def kX9_form : mK := (cX9_form, RX9, 3, some (.int), "form", mRoom 4 0 0)
def zX9_form : mY := (yX9_form, cX9_form, 3, some (.int))
set_option maxRecDepth 100000 in
theorem sc_RX9_225 : mSV RX9 225 zX9_laysLeast 1 8 := ⟨Or.inl (mT_at 1120 (by decide +kernel) rfl), mT_at 1122 (by decide +kernel) rfl, mT_at 63 (by decide +kernel) rfl, mT_at 91 (by decide +kernel) rfl, mT_at 1123 (by decide +kernel) rfl, ⟨by decide +kernel, by decide +kernel, by decide +kernel⟩, by decide, rfl⟩
noncomputable def f_X9_form (v0 : Option Nat) (v1 : Int32) (v2 : Int32) (h : mH) : Option (Int32 × mH) :=
  (mIs h v0 8).bind fun _ =>
  (f_X9_isLine v0 v1 v2 h).bind fun x1 =>
  if x1 = 0 then
    some ((-1 : Int32), h)
  else
    (mGR h v0 8 1).bind fun x2 =>
    (mAI h x2 v1).bind fun x3 =>
    if x3 ≤ (6 : Int32) then
      (f_X9_laysLeast v0 v1 h).bind fun x4 =>
      (mGR x4 v0 8 17).bind fun x5 =>
      (mAI x4 x5 v2).bind fun x6 =>
      some (x6, x4)
    else
      some ((-2 : Int32), h)
set_option maxRecDepth 100000 in
set_option maxHeartbeats 4000000 in
theorem g_X9_form {w : mWp} {Q : Option Value → mH → Prop} (v0 : Option Nat) (v1 : Int32) (v2 : Int32) (h : mH) {res : Int32 × mH} (e : f_X9_form v0 v1 v2 h = some res) (q : (fun r : Int32 × mH => Q (some (.int r.1)) r.2) res) : mGo w kX9_form 0 0 0 [some (va_rf v0), some (.int v1), some (.int v2)] [] h Q := by
  unfold f_X9_form at e
  obtain ⟨_, _, e⟩ := mBind e
  refine mGo.aload_n (n := 1) (r := v0) dX9_form_0 rfl rfl ?_
  refine mGo.iload_n (n := 2) (x := v1) dX9_form_1 rfl rfl ?_
  refine mGo.iload_n (n := 3) (x := v2) dX9_form_2 rfl rfl ?_
  obtain ⟨x1, e_x1, e⟩ := mBind e
  refine mGo.callV (n := 6) (y := zX9_isLine) (R' := (mRoom (3) 0 0)) (as := [.int v1, .int v2]) (st := []) (r0 := v0) dX9_form_3 sc_RX9_182 rfl (s_X9_isLine v0 v1 v2 h e_x1) (e_X9_isLine v0 v1 v2 h e_x1) (mFit_of rfl (Nat.le_of_ble_eq_true rfl) (by decide) (Nat.le_of_ble_eq_true rfl) (Nat.le_of_ble_eq_true rfl)) (Nat.le_of_ble_eq_true rfl) rfl rfl ?_
  intro _ _ hq
  rw [hq.1, hq.2]
  show mGo w kX9_form 0 0 6 [some (va_rf v0), some (.int v1), some (.int v2)] [.int x1] h Q
  refine mGo.if_ne (tgt := 11) (n := 9) dX9_form_6 (by decide) rfl (fun hc => ?_) (fun hc => ?_)
  · replace e := mIff hc e
    refine mGo.aload_n (n := 12) (r := v0) dX9_form_11 rfl rfl ?_
    obtain ⟨x2, e_x2, e⟩ := mBind e
    refine mGo.getR (n := 15) dX9_form_12 sf_RX9_13 e_x2 rfl ?_
    refine mGo.iload_n (n := 16) (x := v1) dX9_form_15 rfl rfl ?_
    obtain ⟨x3, e_x3, e⟩ := mBind e
    refine mGo.iald (n := 17) dX9_form_16 e_x3 rfl ?_
    refine mGo.bipush (n := 19) (v := (6 : Int32)) dX9_form_17 (by decide) rfl ?_
    refine mGo.icmp_le (tgt := 25) (n := 22) dX9_form_19 (by decide) rfl (fun hc => ?_) (fun hc => ?_)
    · replace e := mIft hc e
      refine mGo.aload_n (n := 26) (r := v0) dX9_form_25 rfl rfl ?_
      refine mGo.iload_n (n := 27) (x := v1) dX9_form_26 rfl rfl ?_
      obtain ⟨x4, e_x4, e⟩ := mBind e
      refine mGo.callV (n := 30) (y := zX9_laysLeast) (R' := (mRoom (3) 0 0)) (as := [.int v1]) (st := []) (r0 := v0) dX9_form_27 sc_RX9_225 rfl (s_X9_laysLeast v0 v1 h e_x4) (e_X9_laysLeast v0 v1 h e_x4) (mFit_of rfl (Nat.le_of_ble_eq_true rfl) (by decide) (Nat.le_of_ble_eq_true rfl) (Nat.le_of_ble_eq_true rfl)) (Nat.le_of_ble_eq_true rfl) rfl rfl ?_
      intro _ _ hq
      rw [hq.1, hq.2]
      show mGo w kX9_form 0 0 30 [some (va_rf v0), some (.int v1), some (.int v2)] [] x4 Q
      refine mGo.aload_n (n := 31) (r := v0) dX9_form_30 rfl rfl ?_
      obtain ⟨x5, e_x5, e⟩ := mBind e
      refine mGo.getR (n := 34) dX9_form_31 sf_RX9_53 e_x5 rfl ?_
      refine mGo.iload_n (n := 35) (x := v2) dX9_form_34 rfl rfl ?_
      obtain ⟨x6, e_x6, e⟩ := mBind e
      refine mGo.iald (n := 36) dX9_form_35 e_x6 rfl ?_
      cases e
      exact mGo.iret dX9_form_36 rfl (Nat.le_of_ble_eq_true rfl) (Nat.le_of_ble_eq_true rfl) q
    · replace e := mIff hc e
      refine mGo.bipush (n := 24) (v := (-2 : Int32)) dX9_form_22 (by decide) rfl ?_
      cases e
      exact mGo.iret dX9_form_24 rfl (Nat.le_of_ble_eq_true rfl) (Nat.le_of_ble_eq_true rfl) q
  · replace e := mIft hc e
    refine mGo.iconst (n := 10) (v := (-1 : Int32)) dX9_form_9 (by decide) rfl ?_
    cases e
    exact mGo.iret dX9_form_10 rfl (Nat.le_of_ble_eq_true rfl) (Nat.le_of_ble_eq_true rfl) q
theorem e_X9_form {w : mWp} (v0 : Option Nat) (v1 : Int32) (v2 : Int32) (h : mH) {res : Int32 × mH} (e : f_X9_form v0 v1 v2 h = some res) : mEx w zX9_form (mRoom 4 0 0) [va_rf v0, .int v1, .int v2] h (fun r h2 => r = some (.int res.1) ∧ h2 = res.2) := by
  refine mEx.of (by decide +kernel) (show mEnt [va_rf v0, .int v1, .int v2] 3 = [some (va_rf v0), some (.int v1), some (.int v2)] by rw [mEnt_r, mEnt_i, mEnt_i] <;> rfl) (by simp only [List.map_cons, List.map_nil, mRfc, mCi, mCj, List.sum_cons, List.sum_nil]; exact Nat.le_of_ble_eq_true rfl) ?_
  refine g_X9_form v0 v1 v2 h e ?_
  exact ⟨rfl, rfl⟩
theorem s_X9_form (v0 : Option Nat) (v1 : Int32) (v2 : Int32) (h : mH) {res : Int32 × mH} (e : f_X9_form v0 v1 v2 h = some res) : mIs h v0 8 = some () := by
  unfold f_X9_form at e
  obtain ⟨u, e1, _⟩ := mBind e
  cases u
  exact e1
-- X9_comesUp
def kX9_comesUp : mK := (cX9_comesUp, RX9, 7, some (.int), "comesUp", mRoom 1 0 0)
def zX9_comesUp : mY := (yX9_comesUp, cX9_comesUp, 7, some (.int))
def f_X9_comesUp_b46 (v0 : Option Nat) (v1 : Int32) (v2 : Int32) (v3 : Int32) (v4 : Int32) (h : mH) : Option ((Int32 × mH) ⊕ (Int32 × mH)) :=
  if v1 ≤ v4 then
    some (Sum.inr ((-1 : Int32), h))
  else
    (mGR h v0 8 18).bind fun x1 =>
    (mAL h x1 (((12 : Int32) * v2) + v4)).bind fun x2 =>
    (mGR h v0 8 18).bind fun x3 =>
    (mGR h v0 8 18).bind fun x4 =>
    (mAL h x4 (((12 : Int32) * v3) + v4)).bind fun x5 =>
    (mSL h x3 (((12 : Int32) * v2) + v4) x5).bind fun h6 =>
    (mGR h6 v0 8 18).bind fun x7 =>
    (mSL h6 x7 (((12 : Int32) * v3) + v4) x2).bind fun h8 =>
    some (Sum.inl ((v4 + 1), h8))
set_option maxRecDepth 100000 in
set_option maxHeartbeats 4000000 in
theorem g_X9_comesUp_b46 {w : mWp} {Q : Option Value → mH → Prop} (v0 : Option Nat) (v1 : Int32) (v2 : Int32) (v3 : Int32) (v4 : Int32) (h : mH) {res : (Int32 × mH) ⊕ (Int32 × mH)} (e : f_X9_comesUp_b46 v0 v1 v2 v3 v4 h = some res) (q : (Sum.elim (fun x : Int32 × mH => mGo w kX9_comesUp 0 0 46 [some (va_rf v0), some (.int v1), some (.int v2), some (.int v3), some (.int x.1), none, none] [] x.2 Q) (fun r : Int32 × mH => Q (some (.int r.1)) r.2)) res) : mGo w kX9_comesUp 0 0 46 [some (va_rf v0), some (.int v1), some (.int v2), some (.int v3), some (.int v4), none, none] [] h Q := by
  unfold f_X9_comesUp_b46 at e
  refine mGo.iload (n := 48) (x := v4) dX9_comesUp_46 rfl rfl ?_
  refine mGo.iload_n (n := 49) (x := v1) dX9_comesUp_48 rfl rfl ?_
  refine mGo.icmp_ge (tgt := 110) (n := 52) dX9_comesUp_49 (by decide) rfl (fun hc => ?_) (fun hc => ?_)
  · replace e := mIft hc e
    refine mGo.iconst (n := 111) (v := (-1 : Int32)) dX9_comesUp_110 (by decide) rfl ?_
    cases e
    exact mGo.iret dX9_comesUp_111 rfl (Nat.le_of_ble_eq_true rfl) (Nat.le_of_ble_eq_true rfl) q
  · replace e := mIff hc e
    refine mGo.aload_n (n := 53) (r := v0) dX9_comesUp_52 rfl rfl ?_
    obtain ⟨x1, e_x1, e⟩ := mBind e
    refine mGo.getR (n := 56) dX9_comesUp_53 sf_RX9_56 e_x1 rfl ?_
    refine mGo.bipush (n := 58) (v := (12 : Int32)) dX9_comesUp_56 (by decide) rfl ?_
    refine mGo.iload_n (n := 59) (x := v2) dX9_comesUp_58 rfl rfl ?_
    refine mGo.imul (n := 60) dX9_comesUp_59 rfl ?_
    refine mGo.iload (n := 62) (x := v4) dX9_comesUp_60 rfl rfl ?_
    refine mGo.iadd (n := 63) dX9_comesUp_62 rfl ?_
    obtain ⟨x2, e_x2, e⟩ := mBind e
    refine mGo.lald (n := 64) dX9_comesUp_63 e_x2 rfl ?_
    refine mGo.lstore (n := 66) (ls' := [some (va_rf v0), some (.int v1), some (.int v2), some (.int v3), some (.int v4), some (.long x2), none]) dX9_comesUp_64 rfl (Nat.le_of_ble_eq_true rfl) rfl ?_
    refine mGo.aload_n (n := 67) (r := v0) dX9_comesUp_66 rfl rfl ?_
    obtain ⟨x3, e_x3, e⟩ := mBind e
    refine mGo.getR (n := 70) dX9_comesUp_67 sf_RX9_56 e_x3 rfl ?_
    refine mGo.bipush (n := 72) (v := (12 : Int32)) dX9_comesUp_70 (by decide) rfl ?_
    refine mGo.iload_n (n := 73) (x := v2) dX9_comesUp_72 rfl rfl ?_
    refine mGo.imul (n := 74) dX9_comesUp_73 rfl ?_
    refine mGo.iload (n := 76) (x := v4) dX9_comesUp_74 rfl rfl ?_
    refine mGo.iadd (n := 77) dX9_comesUp_76 rfl ?_
    refine mGo.aload_n (n := 78) (r := v0) dX9_comesUp_77 rfl rfl ?_
    obtain ⟨x4, e_x4, e⟩ := mBind e
    refine mGo.getR (n := 81) dX9_comesUp_78 sf_RX9_56 e_x4 rfl ?_
    refine mGo.bipush (n := 83) (v := (12 : Int32)) dX9_comesUp_81 (by decide) rfl ?_
    refine mGo.iload_n (n := 84) (x := v3) dX9_comesUp_83 rfl rfl ?_
    refine mGo.imul (n := 85) dX9_comesUp_84 rfl ?_
    refine mGo.iload (n := 87) (x := v4) dX9_comesUp_85 rfl rfl ?_
    refine mGo.iadd (n := 88) dX9_comesUp_87 rfl ?_
    obtain ⟨x5, e_x5, e⟩ := mBind e
    refine mGo.lald (n := 89) dX9_comesUp_88 e_x5 rfl ?_
    obtain ⟨h6, e_h6, e⟩ := mBind e
    refine mGo.last (n := 90) dX9_comesUp_89 e_h6 rfl ?_
    refine mGo.aload_n (n := 91) (r := v0) dX9_comesUp_90 rfl rfl ?_
    obtain ⟨x7, e_x7, e⟩ := mBind e
    refine mGo.getR (n := 94) dX9_comesUp_91 sf_RX9_56 e_x7 rfl ?_
    refine mGo.bipush (n := 96) (v := (12 : Int32)) dX9_comesUp_94 (by decide) rfl ?_
    refine mGo.iload_n (n := 97) (x := v3) dX9_comesUp_96 rfl rfl ?_
    refine mGo.imul (n := 98) dX9_comesUp_97 rfl ?_
    refine mGo.iload (n := 100) (x := v4) dX9_comesUp_98 rfl rfl ?_
    refine mGo.iadd (n := 101) dX9_comesUp_100 rfl ?_
    refine mGo.lload (n := 103) (x := x2) dX9_comesUp_101 rfl rfl ?_
    obtain ⟨h8, e_h8, e⟩ := mBind e
    refine mGo.last (n := 104) dX9_comesUp_103 e_h8 rfl ?_
    refine mGo.iinc (n := 107) (x := v4) (v := (v4 + 1)) (ls' := [some (va_rf v0), some (.int v1), some (.int v2), some (.int v3), some (.int (v4 + 1)), some (.long x2), none]) dX9_comesUp_104 rfl rfl rfl (Nat.le_of_ble_eq_true rfl) rfl ?_
    refine mGo.goto (tgt := 46) dX9_comesUp_107 (by decide) ?_
    cases e
    refine mGo.mk [true, true, true, true, true, false, false] ?_
    exact q
noncomputable def f_X9_comesUp_l46 (v0 : Option Nat) (v1 : Int32) (v2 : Int32) (v3 : Int32) (v4 : Int32) (h : mH) : Option (Int32 × mH) :=
  mLoop (fun x : Int32 × mH => f_X9_comesUp_b46 v0 v1 v2 v3 x.1 x.2) (v4, h)
set_option maxRecDepth 100000 in
set_option maxHeartbeats 4000000 in
theorem g_X9_comesUp_l46 {w : mWp} {Q : Option Value → mH → Prop} (v0 : Option Nat) (v1 : Int32) (v2 : Int32) (v3 : Int32) (v4 : Int32) (h : mH) {res : Int32 × mH} (e : f_X9_comesUp_l46 v0 v1 v2 v3 v4 h = some res) (q : (fun r : Int32 × mH => Q (some (.int r.1)) r.2) res) : mGo w kX9_comesUp 0 0 46 [some (va_rf v0), some (.int v1), some (.int v2), some (.int v3), some (.int v4), none, none] [] h Q := by
  unfold f_X9_comesUp_l46 at e
  refine mLoop_go (x := (v4, h)) (fun x : Int32 × mH => mGo w kX9_comesUp 0 0 46 [some (va_rf v0), some (.int v1), some (.int v2), some (.int v3), some (.int x.1), none, none] [] x.2 Q) (fun r : Int32 × mH => Q (some (.int r.1)) r.2) ?_ e q
  rintro ⟨v4, h1⟩ res e q
  exact g_X9_comesUp_b46 v0 v1 v2 v3 v4 h1 e q
noncomputable def f_X9_comesUp_c29 (v0 : Option Nat) (v1 : Int32) (v2 : Int32) (v3 : Int32) (h : mH) : Option (Int32 × mH) :=
  if v3 = v1 then
    some ((0 : Int32), h)
  else
    if v3 = v2 then
      some ((1 : Int32), h)
    else
      f_X9_comesUp_l46 v0 v1 v2 v3 (0 : Int32) h
set_option maxRecDepth 100000 in
set_option maxHeartbeats 4000000 in
theorem g_X9_comesUp_c29 {w : mWp} {Q : Option Value → mH → Prop} (v0 : Option Nat) (v1 : Int32) (v2 : Int32) (v3 : Int32) (h : mH) {res : Int32 × mH} (e : f_X9_comesUp_c29 v0 v1 v2 v3 h = some res) (q : (fun r : Int32 × mH => Q (some (.int r.1)) r.2) res) : mGo w kX9_comesUp 0 0 29 [some (va_rf v0), some (.int v1), some (.int v2), some (.int v3), none, none, none] [] h Q := by
  unfold f_X9_comesUp_c29 at e
  refine mGo.iload_n (n := 30) (x := v3) dX9_comesUp_29 rfl rfl ?_
  refine mGo.iload_n (n := 31) (x := v1) dX9_comesUp_30 rfl rfl ?_
  refine mGo.icmp_ne (tgt := 36) (n := 34) dX9_comesUp_31 (by decide) rfl (fun hc => ?_) (fun hc => ?_)
  · replace e := mIff hc e
    refine mGo.iload_n (n := 37) (x := v3) dX9_comesUp_36 rfl rfl ?_
    refine mGo.iload_n (n := 38) (x := v2) dX9_comesUp_37 rfl rfl ?_
    refine mGo.icmp_ne (tgt := 43) (n := 41) dX9_comesUp_38 (by decide) rfl (fun hc => ?_) (fun hc => ?_)
    · replace e := mIff hc e
      refine mGo.iconst (n := 44) (v := (0 : Int32)) dX9_comesUp_43 (by decide) rfl ?_
      refine mGo.istore (n := 46) (ls' := [some (va_rf v0), some (.int v1), some (.int v2), some (.int v3), some (.int (0 : Int32)), none, none]) dX9_comesUp_44 rfl (Nat.le_of_ble_eq_true rfl) rfl ?_
      refine mGo.mk [true, true, true, true, true, false, false] ?_
      exact g_X9_comesUp_l46 v0 v1 v2 v3 (0 : Int32) h e q
    · replace e := mIft hc e
      refine mGo.iconst (n := 42) (v := (1 : Int32)) dX9_comesUp_41 (by decide) rfl ?_
      cases e
      exact mGo.iret dX9_comesUp_42 rfl (Nat.le_of_ble_eq_true rfl) (Nat.le_of_ble_eq_true rfl) q
  · replace e := mIft hc e
    refine mGo.iconst (n := 35) (v := (0 : Int32)) dX9_comesUp_34 (by decide) rfl ?_
    cases e
    exact mGo.iret dX9_comesUp_35 rfl (Nat.le_of_ble_eq_true rfl) (Nat.le_of_ble_eq_true rfl) q
noncomputable def f_X9_comesUp_b2 (v0 : Option Nat) (v1 : Int32) (v2 : Int32) (v3 : Int32) (h : mH) : Option ((Int32) ⊕ (Int32 × mH)) :=
  if v1 ≤ v3 then
    (f_X9_comesUp_c29 v0 v1 v2 v3 h).map (fun r => (Sum.inr r))
  else
    (mGR h v0 8 18).bind fun x2 =>
    (mAL h x2 (((12 : Int32) * v3) + v2)).bind fun x3 =>
    if (lg_cmp x3 (0 : Int64)) = 0 then
      some (Sum.inl (v3 + 1))
    else
      (f_X9_comesUp_c29 v0 v1 v2 v3 h).map (fun r => (Sum.inr r))
set_option maxRecDepth 100000 in
set_option maxHeartbeats 4000000 in
theorem g_X9_comesUp_b2 {w : mWp} {Q : Option Value → mH → Prop} (v0 : Option Nat) (v1 : Int32) (v2 : Int32) (v3 : Int32) (h : mH) {res : (Int32) ⊕ (Int32 × mH)} (e : f_X9_comesUp_b2 v0 v1 v2 v3 h = some res) (q : (Sum.elim (fun x : Int32 => mGo w kX9_comesUp 0 0 2 [some (va_rf v0), some (.int v1), some (.int v2), some (.int x), none, none, none] [] h Q) (fun r : Int32 × mH => Q (some (.int r.1)) r.2)) res) : mGo w kX9_comesUp 0 0 2 [some (va_rf v0), some (.int v1), some (.int v2), some (.int v3), none, none, none] [] h Q := by
  unfold f_X9_comesUp_b2 at e
  refine mGo.iload_n (n := 3) (x := v3) dX9_comesUp_2 rfl rfl ?_
  refine mGo.iload_n (n := 4) (x := v1) dX9_comesUp_3 rfl rfl ?_
  refine mGo.icmp_ge (tgt := 29) (n := 7) dX9_comesUp_4 (by decide) rfl (fun hc => ?_) (fun hc => ?_)
  · replace e := mIft hc e
    obtain ⟨r1, e2, rfl⟩ := mMap e
    refine mGo.mk [true, true, true, true, false, false, false] ?_
    exact g_X9_comesUp_c29 v0 v1 v2 v3 h e2 q
  · replace e := mIff hc e
    refine mGo.aload_n (n := 8) (r := v0) dX9_comesUp_7 rfl rfl ?_
    obtain ⟨x2, e_x2, e⟩ := mBind e
    refine mGo.getR (n := 11) dX9_comesUp_8 sf_RX9_56 e_x2 rfl ?_
    refine mGo.bipush (n := 13) (v := (12 : Int32)) dX9_comesUp_11 (by decide) rfl ?_
    refine mGo.iload_n (n := 14) (x := v3) dX9_comesUp_13 rfl rfl ?_
    refine mGo.imul (n := 15) dX9_comesUp_14 rfl ?_
    refine mGo.iload_n (n := 16) (x := v2) dX9_comesUp_15 rfl rfl ?_
    refine mGo.iadd (n := 17) dX9_comesUp_16 rfl ?_
    obtain ⟨x3, e_x3, e⟩ := mBind e
    refine mGo.lald (n := 18) dX9_comesUp_17 e_x3 rfl ?_
    refine mGo.lconst (n := 19) (v := (0 : Int64)) dX9_comesUp_18 (by decide) rfl ?_
    refine mGo.lcmp (n := 20) dX9_comesUp_19 rfl ?_
    refine mGo.if_ne (tgt := 29) (n := 23) dX9_comesUp_20 (by decide) rfl (fun hc => ?_) (fun hc => ?_)
    · replace e := mIff hc e
      obtain ⟨r4, e2, rfl⟩ := mMap e
      refine mGo.mk [true, true, true, true, false, false, false] ?_
      exact g_X9_comesUp_c29 v0 v1 v2 v3 h e2 q
    · replace e := mIft hc e
      refine mGo.iinc (n := 26) (x := v3) (v := (v3 + 1)) (ls' := [some (va_rf v0), some (.int v1), some (.int v2), some (.int (v3 + 1)), none, none, none]) dX9_comesUp_23 rfl rfl rfl (Nat.le_of_ble_eq_true rfl) rfl ?_
      refine mGo.goto (tgt := 2) dX9_comesUp_26 (by decide) ?_
      cases e
      refine mGo.mk [true, true, true, true, false, false, false] ?_
      exact q
noncomputable def f_X9_comesUp_l2 (v0 : Option Nat) (v1 : Int32) (v2 : Int32) (v3 : Int32) (h : mH) : Option (Int32 × mH) :=
  mLoop (fun x : Int32 => f_X9_comesUp_b2 v0 v1 v2 x h) (v3)
set_option maxRecDepth 100000 in
set_option maxHeartbeats 4000000 in
theorem g_X9_comesUp_l2 {w : mWp} {Q : Option Value → mH → Prop} (v0 : Option Nat) (v1 : Int32) (v2 : Int32) (v3 : Int32) (h : mH) {res : Int32 × mH} (e : f_X9_comesUp_l2 v0 v1 v2 v3 h = some res) (q : (fun r : Int32 × mH => Q (some (.int r.1)) r.2) res) : mGo w kX9_comesUp 0 0 2 [some (va_rf v0), some (.int v1), some (.int v2), some (.int v3), none, none, none] [] h Q := by
  unfold f_X9_comesUp_l2 at e
  refine mLoop_go (x := (v3)) (fun x : Int32 => mGo w kX9_comesUp 0 0 2 [some (va_rf v0), some (.int v1), some (.int v2), some (.int x), none, none, none] [] h Q) (fun r : Int32 × mH => Q (some (.int r.1)) r.2) ?_ e q
  rintro v3 res e q
  exact g_X9_comesUp_b2 v0 v1 v2 v3 h e q
noncomputable def f_X9_comesUp (v0 : Option Nat) (v1 : Int32) (v2 : Int32) (h : mH) : Option (Int32 × mH) :=
  (mIs h v0 8).bind fun _ =>
  f_X9_comesUp_l2 v0 v1 v2 v2 h
set_option maxRecDepth 100000 in
set_option maxHeartbeats 4000000 in
theorem g_X9_comesUp {w : mWp} {Q : Option Value → mH → Prop} (v0 : Option Nat) (v1 : Int32) (v2 : Int32) (h : mH) {res : Int32 × mH} (e : f_X9_comesUp v0 v1 v2 h = some res) (q : (fun r : Int32 × mH => Q (some (.int r.1)) r.2) res) : mGo w kX9_comesUp 0 0 0 [some (va_rf v0), some (.int v1), some (.int v2), none, none, none, none] [] h Q := by
  unfold f_X9_comesUp at e
  obtain ⟨_, _, e⟩ := mBind e
  refine mGo.iload_n (n := 1) (x := v2) dX9_comesUp_0 rfl rfl ?_
  refine mGo.istore_n (n := 2) (ls' := [some (va_rf v0), some (.int v1), some (.int v2), some (.int v2), none, none, none]) dX9_comesUp_1 rfl (Nat.le_of_ble_eq_true rfl) rfl ?_
  refine mGo.mk [true, true, true, true, false, false, false] ?_
  exact g_X9_comesUp_l2 v0 v1 v2 v2 h e q
theorem e_X9_comesUp {w : mWp} (v0 : Option Nat) (v1 : Int32) (v2 : Int32) (h : mH) {res : Int32 × mH} (e : f_X9_comesUp v0 v1 v2 h = some res) : mEx w zX9_comesUp (mRoom 1 0 0) [va_rf v0, .int v1, .int v2] h (fun r h2 => r = some (.int res.1) ∧ h2 = res.2) := by
  refine mEx.of (by decide +kernel) (show mEnt [va_rf v0, .int v1, .int v2] 7 = [some (va_rf v0), some (.int v1), some (.int v2), none, none, none, none] by rw [mEnt_r, mEnt_i, mEnt_i] <;> rfl) (by simp only [List.map_cons, List.map_nil, mRfc, mCi, mCj, List.sum_cons, List.sum_nil]; exact Nat.le_of_ble_eq_true rfl) ?_
  refine g_X9_comesUp v0 v1 v2 h e ?_
  exact ⟨rfl, rfl⟩
theorem s_X9_comesUp (v0 : Option Nat) (v1 : Int32) (v2 : Int32) (h : mH) {res : Int32 × mH} (e : f_X9_comesUp v0 v1 v2 h = some res) : mIs h v0 8 = some () := by
  unfold f_X9_comesUp at e
  obtain ⟨u, e1, _⟩ := mBind e
  cases u
  exact e1
-- X9_determinant
def kX9_determinant : mK := (cX9_determinant, RX9, 9, some (.long), "determinant", mRoom 3 0 0)
def zX9_determinant : mY := (yX9_determinant, cX9_determinant, 9, some (.long))
set_option maxRecDepth 100000 in
theorem sc_RX9_232 : mSV RX9 232 zX9_comesUp 2 8 := ⟨Or.inl (mT_at 1142 (by decide +kernel) rfl), mT_at 1144 (by decide +kernel) rfl, mT_at 67 (by decide +kernel) rfl, mT_at 91 (by decide +kernel) rfl, mT_at 1145 (by decide +kernel) rfl, ⟨by decide +kernel, by decide +kernel, by decide +kernel⟩, by decide, rfl⟩
def f_X9_determinant_c19 (h : mH) : Option (Int64 × mH) :=
  some ((-1000000000 : Int64), h)
set_option maxRecDepth 100000 in
set_option maxHeartbeats 4000000 in
theorem g_X9_determinant_c19 {w : mWp} {Q : Option Value → mH → Prop}  (h : mH) {res : Int64 × mH} (e : f_X9_determinant_c19 h = some res) (q : (fun r : Int64 × mH => Q (some (.long r.1)) r.2) res) : mGo w kX9_determinant 0 0 19 [none, none, none, none, none, none, none, none, none] [] h Q := by
  unfold f_X9_determinant_c19 at e
  refine mGo.ldc2_w (n := 22) (v := (-1000000000 : Int64)) dX9_determinant_19 (mT_at 1140 (by decide +kernel) rfl) rfl ?_
  cases e
  exact mGo.lret dX9_determinant_22 rfl (Nat.le_of_ble_eq_true rfl) (Nat.le_of_ble_eq_true rfl) q
def f_X9_determinant_b141 (v0 : Option Nat) (v2 : Int32) (v3 : Int64) (v5 : Int32) (v6 : Int32) (v7 : Int32) (v8 : Int32) (h : mH) : Option ((Int32 × mH) ⊕ ((Int32 × mH) ⊕ ((Int64 × Int32 × Int32 × mH) ⊕ (Int64 × mH)))) :=
  if v2 ≤ v8 then
    some (Sum.inr (Sum.inl ((v7 + 1), h)))
  else
    (mGR h v0 8 18).bind fun x1 =>
    (mGR h v0 8 18).bind fun x2 =>
    (mAL h x2 (((12 : Int32) * v7) + v8)).bind fun x3 =>
    (mGR h v0 8 18).bind fun x4 =>
    (mAL h x4 (((12 : Int32) * v6) + v6)).bind fun x5 =>
    (mGR h v0 8 18).bind fun x6 =>
    (mAL h x6 (((12 : Int32) * v7) + v6)).bind fun x7 =>
    (mGR h v0 8 18).bind fun x8 =>
    (mAL h x8 (((12 : Int32) * v6) + v8)).bind fun x9 =>
    if v3 = 0 then none else
    (mSL h x1 (((12 : Int32) * v7) + v8) (((x3 * x5) - (x7 * x9)) / v3)).bind fun h11 =>
    some (Sum.inl ((v8 + 1), h11))
set_option maxRecDepth 100000 in
set_option maxHeartbeats 4000000 in
theorem g_X9_determinant_b141 {w : mWp} {Q : Option Value → mH → Prop} (v0 : Option Nat) (v2 : Int32) (v3 : Int64) (v5 : Int32) (v6 : Int32) (v7 : Int32) (v8 : Int32) (h : mH) {res : (Int32 × mH) ⊕ ((Int32 × mH) ⊕ ((Int64 × Int32 × Int32 × mH) ⊕ (Int64 × mH)))} (e : f_X9_determinant_b141 v0 v2 v3 v5 v6 v7 v8 h = some res) (q : (Sum.elim (fun x : Int32 × mH => mGo w kX9_determinant 0 0 141 [some (va_rf v0), none, some (.int v2), some (.long v3), none, some (.int v5), some (.int v6), some (.int v7), some (.int x.1)] [] x.2 Q) (Sum.elim (fun x : Int32 × mH => mGo w kX9_determinant 0 0 129 [some (va_rf v0), none, some (.int v2), some (.long v3), none, some (.int v5), some (.int v6), some (.int x.1), none] [] x.2 Q) (Sum.elim (fun x : Int64 × Int32 × Int32 × mH => mGo w kX9_determinant 0 0 96 [some (va_rf v0), none, some (.int v2), some (.long x.1), none, some (.int x.2.1), some (.int x.2.2.1), none, none] [] x.2.2.2 Q) (fun r : Int64 × mH => Q (some (.long r.1)) r.2)))) res) : mGo w kX9_determinant 0 0 141 [some (va_rf v0), none, some (.int v2), some (.long v3), none, some (.int v5), some (.int v6), some (.int v7), some (.int v8)] [] h Q := by
  unfold f_X9_determinant_b141 at e
  refine mGo.iload (n := 143) (x := v8) dX9_determinant_141 rfl rfl ?_
  refine mGo.iload_n (n := 144) (x := v2) dX9_determinant_143 rfl rfl ?_
  refine mGo.icmp_ge (tgt := 223) (n := 147) dX9_determinant_144 (by decide) rfl (fun hc => ?_) (fun hc => ?_)
  · replace e := mIft hc e
    refine mGo.iinc (n := 226) (x := v7) (v := (v7 + 1)) (ls' := [some (va_rf v0), none, some (.int v2), some (.long v3), none, some (.int v5), some (.int v6), some (.int (v7 + 1)), some (.int v8)]) dX9_determinant_223 rfl rfl rfl (Nat.le_of_ble_eq_true rfl) rfl ?_
    refine mGo.goto (tgt := 129) dX9_determinant_226 (by decide) ?_
    cases e
    refine mGo.mk [true, false, true, true, false, true, true, true, false] ?_
    exact q
  · replace e := mIff hc e
    refine mGo.aload_n (n := 148) (r := v0) dX9_determinant_147 rfl rfl ?_
    obtain ⟨x1, e_x1, e⟩ := mBind e
    refine mGo.getR (n := 151) dX9_determinant_148 sf_RX9_56 e_x1 rfl ?_
    refine mGo.bipush (n := 153) (v := (12 : Int32)) dX9_determinant_151 (by decide) rfl ?_
    refine mGo.iload (n := 155) (x := v7) dX9_determinant_153 rfl rfl ?_
    refine mGo.imul (n := 156) dX9_determinant_155 rfl ?_
    refine mGo.iload (n := 158) (x := v8) dX9_determinant_156 rfl rfl ?_
    refine mGo.iadd (n := 159) dX9_determinant_158 rfl ?_
    refine mGo.aload_n (n := 160) (r := v0) dX9_determinant_159 rfl rfl ?_
    obtain ⟨x2, e_x2, e⟩ := mBind e
    refine mGo.getR (n := 163) dX9_determinant_160 sf_RX9_56 e_x2 rfl ?_
    refine mGo.bipush (n := 165) (v := (12 : Int32)) dX9_determinant_163 (by decide) rfl ?_
    refine mGo.iload (n := 167) (x := v7) dX9_determinant_165 rfl rfl ?_
    refine mGo.imul (n := 168) dX9_determinant_167 rfl ?_
    refine mGo.iload (n := 170) (x := v8) dX9_determinant_168 rfl rfl ?_
    refine mGo.iadd (n := 171) dX9_determinant_170 rfl ?_
    obtain ⟨x3, e_x3, e⟩ := mBind e
    refine mGo.lald (n := 172) dX9_determinant_171 e_x3 rfl ?_
    refine mGo.aload_n (n := 173) (r := v0) dX9_determinant_172 rfl rfl ?_
    obtain ⟨x4, e_x4, e⟩ := mBind e
    refine mGo.getR (n := 176) dX9_determinant_173 sf_RX9_56 e_x4 rfl ?_
    refine mGo.bipush (n := 178) (v := (12 : Int32)) dX9_determinant_176 (by decide) rfl ?_
    refine mGo.iload (n := 180) (x := v6) dX9_determinant_178 rfl rfl ?_
    refine mGo.imul (n := 181) dX9_determinant_180 rfl ?_
    refine mGo.iload (n := 183) (x := v6) dX9_determinant_181 rfl rfl ?_
    refine mGo.iadd (n := 184) dX9_determinant_183 rfl ?_
    obtain ⟨x5, e_x5, e⟩ := mBind e
    refine mGo.lald (n := 185) dX9_determinant_184 e_x5 rfl ?_
    refine mGo.lmul (n := 186) dX9_determinant_185 rfl ?_
    refine mGo.aload_n (n := 187) (r := v0) dX9_determinant_186 rfl rfl ?_
    obtain ⟨x6, e_x6, e⟩ := mBind e
    refine mGo.getR (n := 190) dX9_determinant_187 sf_RX9_56 e_x6 rfl ?_
    refine mGo.bipush (n := 192) (v := (12 : Int32)) dX9_determinant_190 (by decide) rfl ?_
    refine mGo.iload (n := 194) (x := v7) dX9_determinant_192 rfl rfl ?_
    refine mGo.imul (n := 195) dX9_determinant_194 rfl ?_
    refine mGo.iload (n := 197) (x := v6) dX9_determinant_195 rfl rfl ?_
    refine mGo.iadd (n := 198) dX9_determinant_197 rfl ?_
    obtain ⟨x7, e_x7, e⟩ := mBind e
    refine mGo.lald (n := 199) dX9_determinant_198 e_x7 rfl ?_
    refine mGo.aload_n (n := 200) (r := v0) dX9_determinant_199 rfl rfl ?_
    obtain ⟨x8, e_x8, e⟩ := mBind e
    refine mGo.getR (n := 203) dX9_determinant_200 sf_RX9_56 e_x8 rfl ?_
    refine mGo.bipush (n := 205) (v := (12 : Int32)) dX9_determinant_203 (by decide) rfl ?_
    refine mGo.iload (n := 207) (x := v6) dX9_determinant_205 rfl rfl ?_
    refine mGo.imul (n := 208) dX9_determinant_207 rfl ?_
    refine mGo.iload (n := 210) (x := v8) dX9_determinant_208 rfl rfl ?_
    refine mGo.iadd (n := 211) dX9_determinant_210 rfl ?_
    obtain ⟨x9, e_x9, e⟩ := mBind e
    refine mGo.lald (n := 212) dX9_determinant_211 e_x9 rfl ?_
    refine mGo.lmul (n := 213) dX9_determinant_212 rfl ?_
    refine mGo.lsub (n := 214) dX9_determinant_213 rfl ?_
    refine mGo.lload_n (n := 215) (x := v3) dX9_determinant_214 rfl rfl ?_
    obtain ⟨z10, e⟩ := mIfN e
    refine mGo.ldiv (n := 216) dX9_determinant_215 z10 rfl ?_
    obtain ⟨h11, e_h11, e⟩ := mBind e
    refine mGo.last (n := 217) dX9_determinant_216 e_h11 rfl ?_
    refine mGo.iinc (n := 220) (x := v8) (v := (v8 + 1)) (ls' := [some (va_rf v0), none, some (.int v2), some (.long v3), none, some (.int v5), some (.int v6), some (.int v7), some (.int (v8 + 1))]) dX9_determinant_217 rfl rfl rfl (Nat.le_of_ble_eq_true rfl) rfl ?_
    refine mGo.goto (tgt := 141) dX9_determinant_220 (by decide) ?_
    cases e
    refine mGo.mk [true, false, true, true, false, true, true, true, true] ?_
    exact q
noncomputable def f_X9_determinant_l141 (v0 : Option Nat) (v2 : Int32) (v3 : Int64) (v5 : Int32) (v6 : Int32) (v7 : Int32) (v8 : Int32) (h : mH) : Option ((Int32 × mH) ⊕ ((Int64 × Int32 × Int32 × mH) ⊕ (Int64 × mH))) :=
  mLoop (fun x : Int32 × mH => f_X9_determinant_b141 v0 v2 v3 v5 v6 v7 x.1 x.2) (v8, h)
set_option maxRecDepth 100000 in
set_option maxHeartbeats 4000000 in
theorem g_X9_determinant_l141 {w : mWp} {Q : Option Value → mH → Prop} (v0 : Option Nat) (v2 : Int32) (v3 : Int64) (v5 : Int32) (v6 : Int32) (v7 : Int32) (v8 : Int32) (h : mH) {res : (Int32 × mH) ⊕ ((Int64 × Int32 × Int32 × mH) ⊕ (Int64 × mH))} (e : f_X9_determinant_l141 v0 v2 v3 v5 v6 v7 v8 h = some res) (q : (Sum.elim (fun x : Int32 × mH => mGo w kX9_determinant 0 0 129 [some (va_rf v0), none, some (.int v2), some (.long v3), none, some (.int v5), some (.int v6), some (.int x.1), none] [] x.2 Q) (Sum.elim (fun x : Int64 × Int32 × Int32 × mH => mGo w kX9_determinant 0 0 96 [some (va_rf v0), none, some (.int v2), some (.long x.1), none, some (.int x.2.1), some (.int x.2.2.1), none, none] [] x.2.2.2 Q) (fun r : Int64 × mH => Q (some (.long r.1)) r.2))) res) : mGo w kX9_determinant 0 0 141 [some (va_rf v0), none, some (.int v2), some (.long v3), none, some (.int v5), some (.int v6), some (.int v7), some (.int v8)] [] h Q := by
  unfold f_X9_determinant_l141 at e
  refine mLoop_go (x := (v8, h)) (fun x : Int32 × mH => mGo w kX9_determinant 0 0 141 [some (va_rf v0), none, some (.int v2), some (.long v3), none, some (.int v5), some (.int v6), some (.int v7), some (.int x.1)] [] x.2 Q) (Sum.elim (fun x : Int32 × mH => mGo w kX9_determinant 0 0 129 [some (va_rf v0), none, some (.int v2), some (.long v3), none, some (.int v5), some (.int v6), some (.int x.1), none] [] x.2 Q) (Sum.elim (fun x : Int64 × Int32 × Int32 × mH => mGo w kX9_determinant 0 0 96 [some (va_rf v0), none, some (.int v2), some (.long x.1), none, some (.int x.2.1), some (.int x.2.2.1), none, none] [] x.2.2.2 Q) (fun r : Int64 × mH => Q (some (.long r.1)) r.2))) ?_ e q
  rintro ⟨v8, h1⟩ res e q
  exact g_X9_determinant_b141 v0 v2 v3 v5 v6 v7 v8 h1 e q
noncomputable def f_X9_determinant_b129 (v0 : Option Nat) (v2 : Int32) (v3 : Int64) (v5 : Int32) (v6 : Int32) (v7 : Int32) (h : mH) : Option ((Int32 × mH) ⊕ ((Int64 × Int32 × Int32 × mH) ⊕ (Int64 × mH))) :=
  if v2 ≤ v7 then
    (mGR h v0 8 18).bind fun x1 =>
    (mAL h x1 (((12 : Int32) * v6) + v6)).bind fun x2 =>
    some (Sum.inr (Sum.inl (x2, v5, (v6 + 1), h)))
  else
    f_X9_determinant_l141 v0 v2 v3 v5 v6 v7 (v6 + (1 : Int32)) h
set_option maxRecDepth 100000 in
set_option maxHeartbeats 4000000 in
theorem g_X9_determinant_b129 {w : mWp} {Q : Option Value → mH → Prop} (v0 : Option Nat) (v2 : Int32) (v3 : Int64) (v5 : Int32) (v6 : Int32) (v7 : Int32) (h : mH) {res : (Int32 × mH) ⊕ ((Int64 × Int32 × Int32 × mH) ⊕ (Int64 × mH))} (e : f_X9_determinant_b129 v0 v2 v3 v5 v6 v7 h = some res) (q : (Sum.elim (fun x : Int32 × mH => mGo w kX9_determinant 0 0 129 [some (va_rf v0), none, some (.int v2), some (.long v3), none, some (.int v5), some (.int v6), some (.int x.1), none] [] x.2 Q) (Sum.elim (fun x : Int64 × Int32 × Int32 × mH => mGo w kX9_determinant 0 0 96 [some (va_rf v0), none, some (.int v2), some (.long x.1), none, some (.int x.2.1), some (.int x.2.2.1), none, none] [] x.2.2.2 Q) (fun r : Int64 × mH => Q (some (.long r.1)) r.2))) res) : mGo w kX9_determinant 0 0 129 [some (va_rf v0), none, some (.int v2), some (.long v3), none, some (.int v5), some (.int v6), some (.int v7), none] [] h Q := by
  unfold f_X9_determinant_b129 at e
  refine mGo.iload (n := 131) (x := v7) dX9_determinant_129 rfl rfl ?_
  refine mGo.iload_n (n := 132) (x := v2) dX9_determinant_131 rfl rfl ?_
  refine mGo.icmp_ge (tgt := 229) (n := 135) dX9_determinant_132 (by decide) rfl (fun hc => ?_) (fun hc => ?_)
  · replace e := mIft hc e
    refine mGo.aload_n (n := 230) (r := v0) dX9_determinant_229 rfl rfl ?_
    obtain ⟨x1, e_x1, e⟩ := mBind e
    refine mGo.getR (n := 233) dX9_determinant_230 sf_RX9_56 e_x1 rfl ?_
    refine mGo.bipush (n := 235) (v := (12 : Int32)) dX9_determinant_233 (by decide) rfl ?_
    refine mGo.iload (n := 237) (x := v6) dX9_determinant_235 rfl rfl ?_
    refine mGo.imul (n := 238) dX9_determinant_237 rfl ?_
    refine mGo.iload (n := 240) (x := v6) dX9_determinant_238 rfl rfl ?_
    refine mGo.iadd (n := 241) dX9_determinant_240 rfl ?_
    obtain ⟨x2, e_x2, e⟩ := mBind e
    refine mGo.lald (n := 242) dX9_determinant_241 e_x2 rfl ?_
    refine mGo.lstore_n (n := 243) (ls' := [some (va_rf v0), none, some (.int v2), some (.long x2), none, some (.int v5), some (.int v6), some (.int v7), none]) dX9_determinant_242 rfl (Nat.le_of_ble_eq_true rfl) rfl ?_
    refine mGo.iinc (n := 246) (x := v6) (v := (v6 + 1)) (ls' := [some (va_rf v0), none, some (.int v2), some (.long x2), none, some (.int v5), some (.int (v6 + 1)), some (.int v7), none]) dX9_determinant_243 rfl rfl rfl (Nat.le_of_ble_eq_true rfl) rfl ?_
    refine mGo.goto (tgt := 96) dX9_determinant_246 (by decide) ?_
    cases e
    refine mGo.mk [true, false, true, true, false, true, true, false, false] ?_
    exact q
  · replace e := mIff hc e
    refine mGo.iload (n := 137) (x := v6) dX9_determinant_135 rfl rfl ?_
    refine mGo.iconst (n := 138) (v := (1 : Int32)) dX9_determinant_137 (by decide) rfl ?_
    refine mGo.iadd (n := 139) dX9_determinant_138 rfl ?_
    refine mGo.istore (n := 141) (ls' := [some (va_rf v0), none, some (.int v2), some (.long v3), none, some (.int v5), some (.int v6), some (.int v7), some (.int (v6 + (1 : Int32)))]) dX9_determinant_139 rfl (Nat.le_of_ble_eq_true rfl) rfl ?_
    refine mGo.mk [true, false, true, true, false, true, true, true, true] ?_
    exact g_X9_determinant_l141 v0 v2 v3 v5 v6 v7 (v6 + (1 : Int32)) h e q
noncomputable def f_X9_determinant_l129 (v0 : Option Nat) (v2 : Int32) (v3 : Int64) (v5 : Int32) (v6 : Int32) (v7 : Int32) (h : mH) : Option ((Int64 × Int32 × Int32 × mH) ⊕ (Int64 × mH)) :=
  mLoop (fun x : Int32 × mH => f_X9_determinant_b129 v0 v2 v3 v5 v6 x.1 x.2) (v7, h)
set_option maxRecDepth 100000 in
set_option maxHeartbeats 4000000 in
theorem g_X9_determinant_l129 {w : mWp} {Q : Option Value → mH → Prop} (v0 : Option Nat) (v2 : Int32) (v3 : Int64) (v5 : Int32) (v6 : Int32) (v7 : Int32) (h : mH) {res : (Int64 × Int32 × Int32 × mH) ⊕ (Int64 × mH)} (e : f_X9_determinant_l129 v0 v2 v3 v5 v6 v7 h = some res) (q : (Sum.elim (fun x : Int64 × Int32 × Int32 × mH => mGo w kX9_determinant 0 0 96 [some (va_rf v0), none, some (.int v2), some (.long x.1), none, some (.int x.2.1), some (.int x.2.2.1), none, none] [] x.2.2.2 Q) (fun r : Int64 × mH => Q (some (.long r.1)) r.2)) res) : mGo w kX9_determinant 0 0 129 [some (va_rf v0), none, some (.int v2), some (.long v3), none, some (.int v5), some (.int v6), some (.int v7), none] [] h Q := by
  unfold f_X9_determinant_l129 at e
  refine mLoop_go (x := (v7, h)) (fun x : Int32 × mH => mGo w kX9_determinant 0 0 129 [some (va_rf v0), none, some (.int v2), some (.long v3), none, some (.int v5), some (.int v6), some (.int x.1), none] [] x.2 Q) (Sum.elim (fun x : Int64 × Int32 × Int32 × mH => mGo w kX9_determinant 0 0 96 [some (va_rf v0), none, some (.int v2), some (.long x.1), none, some (.int x.2.1), some (.int x.2.2.1), none, none] [] x.2.2.2 Q) (fun r : Int64 × mH => Q (some (.long r.1)) r.2)) ?_ e q
  rintro ⟨v7, h1⟩ res e q
  exact g_X9_determinant_b129 v0 v2 v3 v5 v6 v7 h1 e q
noncomputable def f_X9_determinant_b96 (v0 : Option Nat) (v2 : Int32) (v3 : Int64) (v5 : Int32) (v6 : Int32) (h : mH) : Option ((Int64 × Int32 × Int32 × mH) ⊕ (Int64 × mH)) :=
  if v2 ≤ (v6 + (1 : Int32)) then
    (mGR h v0 8 18).bind fun x1 =>
    (mAL h x1 ((((12 : Int32) * (v2 - (1 : Int32))) + v2) - (1 : Int32))).bind fun x2 =>
    some (Sum.inr (((Int32.toInt64 v5) * x2), h))
  else
    (f_X9_comesUp v0 v2 v6 h).bind fun x3 =>
    if (v5 * x3.1) = 0 then
      some (Sum.inr ((0 : Int64), x3.2))
    else
      f_X9_determinant_l129 v0 v2 v3 (v5 * x3.1) v6 (v6 + (1 : Int32)) x3.2
set_option maxRecDepth 100000 in
set_option maxHeartbeats 4000000 in
theorem g_X9_determinant_b96 {w : mWp} {Q : Option Value → mH → Prop} (v0 : Option Nat) (v2 : Int32) (v3 : Int64) (v5 : Int32) (v6 : Int32) (h : mH) {res : (Int64 × Int32 × Int32 × mH) ⊕ (Int64 × mH)} (e : f_X9_determinant_b96 v0 v2 v3 v5 v6 h = some res) (q : (Sum.elim (fun x : Int64 × Int32 × Int32 × mH => mGo w kX9_determinant 0 0 96 [some (va_rf v0), none, some (.int v2), some (.long x.1), none, some (.int x.2.1), some (.int x.2.2.1), none, none] [] x.2.2.2 Q) (fun r : Int64 × mH => Q (some (.long r.1)) r.2)) res) : mGo w kX9_determinant 0 0 96 [some (va_rf v0), none, some (.int v2), some (.long v3), none, some (.int v5), some (.int v6), none, none] [] h Q := by
  unfold f_X9_determinant_b96 at e
  refine mGo.iload (n := 98) (x := v6) dX9_determinant_96 rfl rfl ?_
  refine mGo.iconst (n := 99) (v := (1 : Int32)) dX9_determinant_98 (by decide) rfl ?_
  refine mGo.iadd (n := 100) dX9_determinant_99 rfl ?_
  refine mGo.iload_n (n := 101) (x := v2) dX9_determinant_100 rfl rfl ?_
  refine mGo.icmp_ge (tgt := 249) (n := 104) dX9_determinant_101 (by decide) rfl (fun hc => ?_) (fun hc => ?_)
  · replace e := mIft hc e
    refine mGo.iload (n := 251) (x := v5) dX9_determinant_249 rfl rfl ?_
    refine mGo.i2l (n := 252) dX9_determinant_251 rfl ?_
    refine mGo.aload_n (n := 253) (r := v0) dX9_determinant_252 rfl rfl ?_
    obtain ⟨x1, e_x1, e⟩ := mBind e
    refine mGo.getR (n := 256) dX9_determinant_253 sf_RX9_56 e_x1 rfl ?_
    refine mGo.bipush (n := 258) (v := (12 : Int32)) dX9_determinant_256 (by decide) rfl ?_
    refine mGo.iload_n (n := 259) (x := v2) dX9_determinant_258 rfl rfl ?_
    refine mGo.iconst (n := 260) (v := (1 : Int32)) dX9_determinant_259 (by decide) rfl ?_
    refine mGo.isub (n := 261) dX9_determinant_260 rfl ?_
    refine mGo.imul (n := 262) dX9_determinant_261 rfl ?_
    refine mGo.iload_n (n := 263) (x := v2) dX9_determinant_262 rfl rfl ?_
    refine mGo.iadd (n := 264) dX9_determinant_263 rfl ?_
    refine mGo.iconst (n := 265) (v := (1 : Int32)) dX9_determinant_264 (by decide) rfl ?_
    refine mGo.isub (n := 266) dX9_determinant_265 rfl ?_
    obtain ⟨x2, e_x2, e⟩ := mBind e
    refine mGo.lald (n := 267) dX9_determinant_266 e_x2 rfl ?_
    refine mGo.lmul (n := 268) dX9_determinant_267 rfl ?_
    cases e
    exact mGo.lret dX9_determinant_268 rfl (Nat.le_of_ble_eq_true rfl) (Nat.le_of_ble_eq_true rfl) q
  · replace e := mIff hc e
    refine mGo.iload (n := 106) (x := v5) dX9_determinant_104 rfl rfl ?_
    refine mGo.aload_n (n := 107) (r := v0) dX9_determinant_106 rfl rfl ?_
    refine mGo.iload_n (n := 108) (x := v2) dX9_determinant_107 rfl rfl ?_
    refine mGo.iload (n := 110) (x := v6) dX9_determinant_108 rfl rfl ?_
    obtain ⟨x3, e_x3, e⟩ := mBind e
    refine mGo.callV (n := 113) (y := zX9_comesUp) (R' := (mRoom (1) 0 0)) (as := [.int v2, .int v6]) (st := [.int v5]) (r0 := v0) dX9_determinant_110 sc_RX9_232 rfl (s_X9_comesUp v0 v2 v6 h e_x3) (e_X9_comesUp v0 v2 v6 h e_x3) (mFit_of rfl (Nat.le_of_ble_eq_true rfl) (by decide) (Nat.le_of_ble_eq_true rfl) (Nat.le_of_ble_eq_true rfl)) (Nat.le_of_ble_eq_true rfl) rfl rfl ?_
    intro _ _ hq
    rw [hq.1, hq.2]
    show mGo w kX9_determinant 0 0 113 [some (va_rf v0), none, some (.int v2), some (.long v3), none, some (.int v5), some (.int v6), none, none] [.int x3.1, .int v5] x3.2 Q
    refine mGo.imul (n := 114) dX9_determinant_113 rfl ?_
    refine mGo.istore (n := 116) (ls' := [some (va_rf v0), none, some (.int v2), some (.long v3), none, some (.int (v5 * x3.1)), some (.int v6), none, none]) dX9_determinant_114 rfl (Nat.le_of_ble_eq_true rfl) rfl ?_
    refine mGo.iload (n := 118) (x := (v5 * x3.1)) dX9_determinant_116 rfl rfl ?_
    refine mGo.if_ne (tgt := 123) (n := 121) dX9_determinant_118 (by decide) rfl (fun hc => ?_) (fun hc => ?_)
    · replace e := mIff hc e
      refine mGo.iload (n := 125) (x := v6) dX9_determinant_123 rfl rfl ?_
      refine mGo.iconst (n := 126) (v := (1 : Int32)) dX9_determinant_125 (by decide) rfl ?_
      refine mGo.iadd (n := 127) dX9_determinant_126 rfl ?_
      refine mGo.istore (n := 129) (ls' := [some (va_rf v0), none, some (.int v2), some (.long v3), none, some (.int (v5 * x3.1)), some (.int v6), some (.int (v6 + (1 : Int32))), none]) dX9_determinant_127 rfl (Nat.le_of_ble_eq_true rfl) rfl ?_
      refine mGo.mk [true, false, true, true, false, true, true, true, false] ?_
      exact g_X9_determinant_l129 v0 v2 v3 (v5 * x3.1) v6 (v6 + (1 : Int32)) x3.2 e q
    · replace e := mIft hc e
      refine mGo.lconst (n := 122) (v := (0 : Int64)) dX9_determinant_121 (by decide) rfl ?_
      cases e
      exact mGo.lret dX9_determinant_122 rfl (Nat.le_of_ble_eq_true rfl) (Nat.le_of_ble_eq_true rfl) q
noncomputable def f_X9_determinant_l96 (v0 : Option Nat) (v2 : Int32) (v3 : Int64) (v5 : Int32) (v6 : Int32) (h : mH) : Option (Int64 × mH) :=
  mLoop (fun x : Int64 × Int32 × Int32 × mH => f_X9_determinant_b96 v0 v2 x.1 x.2.1 x.2.2.1 x.2.2.2) (v3, v5, v6, h)
set_option maxRecDepth 100000 in
set_option maxHeartbeats 4000000 in
theorem g_X9_determinant_l96 {w : mWp} {Q : Option Value → mH → Prop} (v0 : Option Nat) (v2 : Int32) (v3 : Int64) (v5 : Int32) (v6 : Int32) (h : mH) {res : Int64 × mH} (e : f_X9_determinant_l96 v0 v2 v3 v5 v6 h = some res) (q : (fun r : Int64 × mH => Q (some (.long r.1)) r.2) res) : mGo w kX9_determinant 0 0 96 [some (va_rf v0), none, some (.int v2), some (.long v3), none, some (.int v5), some (.int v6), none, none] [] h Q := by
  unfold f_X9_determinant_l96 at e
  refine mLoop_go (x := (v3, v5, v6, h)) (fun x : Int64 × Int32 × Int32 × mH => mGo w kX9_determinant 0 0 96 [some (va_rf v0), none, some (.int v2), some (.long x.1), none, some (.int x.2.1), some (.int x.2.2.1), none, none] [] x.2.2.2 Q) (fun r : Int64 × mH => Q (some (.long r.1)) r.2) ?_ e q
  rintro ⟨v3, v5, v6, h1⟩ res e q
  exact g_X9_determinant_b96 v0 v2 v3 v5 v6 h1 e q
def f_X9_determinant_c75 (v0 : Option Nat) (v1 : Int32) (v2 : Int32) (v3 : Int32) (v4 : Int32) (s0 : Option Nat) (s1 : Int32) (s2 : Int64) (h : mH) : Option ((Int32 × mH) ⊕ ((Int32 × mH) ⊕ (Int64 × mH))) :=
  (mSL h s0 s1 s2).bind fun h1 =>
  some (Sum.inl ((v4 + 1), h1))
set_option maxRecDepth 100000 in
set_option maxHeartbeats 4000000 in
theorem g_X9_determinant_c75 {w : mWp} {Q : Option Value → mH → Prop} (v0 : Option Nat) (v1 : Int32) (v2 : Int32) (v3 : Int32) (v4 : Int32) (s0 : Option Nat) (s1 : Int32) (s2 : Int64) (h : mH) {res : (Int32 × mH) ⊕ ((Int32 × mH) ⊕ (Int64 × mH))} (e : f_X9_determinant_c75 v0 v1 v2 v3 v4 s0 s1 s2 h = some res) (q : (Sum.elim (fun x : Int32 × mH => mGo w kX9_determinant 0 0 40 [some (va_rf v0), some (.int v1), some (.int v2), some (.int v3), some (.int x.1), none, none, none, none] [] x.2 Q) (Sum.elim (fun x : Int32 × mH => mGo w kX9_determinant 0 0 32 [some (va_rf v0), some (.int v1), some (.int v2), some (.int x.1), none, none, none, none, none] [] x.2 Q) (fun r : Int64 × mH => Q (some (.long r.1)) r.2))) res) : mGo w kX9_determinant 0 0 75 [some (va_rf v0), some (.int v1), some (.int v2), some (.int v3), some (.int v4), none, none, none, none] [.long s2, .int s1, va_rf s0] h Q := by
  unfold f_X9_determinant_c75 at e
  obtain ⟨h1, e_h1, e⟩ := mBind e
  refine mGo.last (n := 76) dX9_determinant_75 e_h1 rfl ?_
  refine mGo.iinc (n := 79) (x := v4) (v := (v4 + 1)) (ls' := [some (va_rf v0), some (.int v1), some (.int v2), some (.int v3), some (.int (v4 + 1)), none, none, none, none]) dX9_determinant_76 rfl rfl rfl (Nat.le_of_ble_eq_true rfl) rfl ?_
  refine mGo.goto (tgt := 40) dX9_determinant_79 (by decide) ?_
  cases e
  refine mGo.mk [true, true, true, true, true, false, false, false, false] ?_
  exact q
def f_X9_determinant_b40 (v0 : Option Nat) (v1 : Int32) (v2 : Int32) (v3 : Int32) (v4 : Int32) (h : mH) : Option ((Int32 × mH) ⊕ ((Int32 × mH) ⊕ (Int64 × mH))) :=
  if v2 ≤ v4 then
    some (Sum.inr (Sum.inl ((v3 + 1), h)))
  else
    (mGR h v0 8 18).bind fun x1 =>
    (f_X9_isMinus v0 v1 v3 v4 h).bind fun x2 =>
    if x2 = 0 then
      f_X9_determinant_c75 v0 v1 v2 v3 v4 x1 (((12 : Int32) * v3) + v4) (1 : Int64) h
    else
      f_X9_determinant_c75 v0 v1 v2 v3 v4 x1 (((12 : Int32) * v3) + v4) (-1 : Int64) h
set_option maxRecDepth 100000 in
set_option maxHeartbeats 4000000 in
theorem g_X9_determinant_b40 {w : mWp} {Q : Option Value → mH → Prop} (v0 : Option Nat) (v1 : Int32) (v2 : Int32) (v3 : Int32) (v4 : Int32) (h : mH) {res : (Int32 × mH) ⊕ ((Int32 × mH) ⊕ (Int64 × mH))} (e : f_X9_determinant_b40 v0 v1 v2 v3 v4 h = some res) (q : (Sum.elim (fun x : Int32 × mH => mGo w kX9_determinant 0 0 40 [some (va_rf v0), some (.int v1), some (.int v2), some (.int v3), some (.int x.1), none, none, none, none] [] x.2 Q) (Sum.elim (fun x : Int32 × mH => mGo w kX9_determinant 0 0 32 [some (va_rf v0), some (.int v1), some (.int v2), some (.int x.1), none, none, none, none, none] [] x.2 Q) (fun r : Int64 × mH => Q (some (.long r.1)) r.2))) res) : mGo w kX9_determinant 0 0 40 [some (va_rf v0), some (.int v1), some (.int v2), some (.int v3), some (.int v4), none, none, none, none] [] h Q := by
  unfold f_X9_determinant_b40 at e
  refine mGo.iload (n := 42) (x := v4) dX9_determinant_40 rfl rfl ?_
  refine mGo.iload_n (n := 43) (x := v2) dX9_determinant_42 rfl rfl ?_
  refine mGo.icmp_ge (tgt := 82) (n := 46) dX9_determinant_43 (by decide) rfl (fun hc => ?_) (fun hc => ?_)
  · replace e := mIft hc e
    refine mGo.iinc (n := 85) (x := v3) (v := (v3 + 1)) (ls' := [some (va_rf v0), some (.int v1), some (.int v2), some (.int (v3 + 1)), some (.int v4), none, none, none, none]) dX9_determinant_82 rfl rfl rfl (Nat.le_of_ble_eq_true rfl) rfl ?_
    refine mGo.goto (tgt := 32) dX9_determinant_85 (by decide) ?_
    cases e
    refine mGo.mk [true, true, true, true, false, false, false, false, false] ?_
    exact q
  · replace e := mIff hc e
    refine mGo.aload_n (n := 47) (r := v0) dX9_determinant_46 rfl rfl ?_
    obtain ⟨x1, e_x1, e⟩ := mBind e
    refine mGo.getR (n := 50) dX9_determinant_47 sf_RX9_56 e_x1 rfl ?_
    refine mGo.bipush (n := 52) (v := (12 : Int32)) dX9_determinant_50 (by decide) rfl ?_
    refine mGo.iload_n (n := 53) (x := v3) dX9_determinant_52 rfl rfl ?_
    refine mGo.imul (n := 54) dX9_determinant_53 rfl ?_
    refine mGo.iload (n := 56) (x := v4) dX9_determinant_54 rfl rfl ?_
    refine mGo.iadd (n := 57) dX9_determinant_56 rfl ?_
    refine mGo.aload_n (n := 58) (r := v0) dX9_determinant_57 rfl rfl ?_
    refine mGo.iload_n (n := 59) (x := v1) dX9_determinant_58 rfl rfl ?_
    refine mGo.iload_n (n := 60) (x := v3) dX9_determinant_59 rfl rfl ?_
    refine mGo.iload (n := 62) (x := v4) dX9_determinant_60 rfl rfl ?_
    obtain ⟨x2, e_x2, e⟩ := mBind e
    refine mGo.callV (n := 65) (y := zX9_isMinus) (R' := (mRoom (2) 0 0)) (as := [.int v1, .int v3, .int v4]) (st := [.int (((12 : Int32) * v3) + v4), va_rf x1]) (r0 := v0) dX9_determinant_62 sc_RX9_98 rfl (s_X9_isMinus v0 v1 v3 v4 h e_x2) (e_X9_isMinus v0 v1 v3 v4 h e_x2) (mFit_of rfl (Nat.le_of_ble_eq_true rfl) (by decide) (Nat.le_of_ble_eq_true rfl) (Nat.le_of_ble_eq_true rfl)) (mCat8 (Nat.le_of_ble_eq_true rfl)) rfl rfl ?_
    intro _ _ hq
    rw [hq.1, hq.2]
    show mGo w kX9_determinant 0 0 65 [some (va_rf v0), some (.int v1), some (.int v2), some (.int v3), some (.int v4), none, none, none, none] [.int x2, .int (((12 : Int32) * v3) + v4), va_rf x1] h Q
    refine mGo.if_eq (tgt := 74) (n := 68) dX9_determinant_65 (by decide) rfl (fun hc => ?_) (fun hc => ?_)
    · replace e := mIft hc e
      refine mGo.lconst (n := 75) (v := (1 : Int64)) dX9_determinant_74 (by decide) rfl ?_
      refine mGo.mk [true, true, true, true, true, false, false, false, false] ?_
      exact g_X9_determinant_c75 v0 v1 v2 v3 v4 x1 (((12 : Int32) * v3) + v4) (1 : Int64) h e q
    · replace e := mIff hc e
      refine mGo.ldc2_w (n := 71) (v := (-1 : Int64)) dX9_determinant_68 (mT_at 1141 (by decide +kernel) rfl) rfl ?_
      refine mGo.goto (tgt := 75) dX9_determinant_71 (by decide) ?_
      refine mGo.mk [true, true, true, true, true, false, false, false, false] ?_
      exact g_X9_determinant_c75 v0 v1 v2 v3 v4 x1 (((12 : Int32) * v3) + v4) (-1 : Int64) h e q
noncomputable def f_X9_determinant_l40 (v0 : Option Nat) (v1 : Int32) (v2 : Int32) (v3 : Int32) (v4 : Int32) (h : mH) : Option ((Int32 × mH) ⊕ (Int64 × mH)) :=
  mLoop (fun x : Int32 × mH => f_X9_determinant_b40 v0 v1 v2 v3 x.1 x.2) (v4, h)
set_option maxRecDepth 100000 in
set_option maxHeartbeats 4000000 in
theorem g_X9_determinant_l40 {w : mWp} {Q : Option Value → mH → Prop} (v0 : Option Nat) (v1 : Int32) (v2 : Int32) (v3 : Int32) (v4 : Int32) (h : mH) {res : (Int32 × mH) ⊕ (Int64 × mH)} (e : f_X9_determinant_l40 v0 v1 v2 v3 v4 h = some res) (q : (Sum.elim (fun x : Int32 × mH => mGo w kX9_determinant 0 0 32 [some (va_rf v0), some (.int v1), some (.int v2), some (.int x.1), none, none, none, none, none] [] x.2 Q) (fun r : Int64 × mH => Q (some (.long r.1)) r.2)) res) : mGo w kX9_determinant 0 0 40 [some (va_rf v0), some (.int v1), some (.int v2), some (.int v3), some (.int v4), none, none, none, none] [] h Q := by
  unfold f_X9_determinant_l40 at e
  refine mLoop_go (x := (v4, h)) (fun x : Int32 × mH => mGo w kX9_determinant 0 0 40 [some (va_rf v0), some (.int v1), some (.int v2), some (.int v3), some (.int x.1), none, none, none, none] [] x.2 Q) (Sum.elim (fun x : Int32 × mH => mGo w kX9_determinant 0 0 32 [some (va_rf v0), some (.int v1), some (.int v2), some (.int x.1), none, none, none, none, none] [] x.2 Q) (fun r : Int64 × mH => Q (some (.long r.1)) r.2)) ?_ e q
  rintro ⟨v4, h1⟩ res e q
  exact g_X9_determinant_b40 v0 v1 v2 v3 v4 h1 e q
noncomputable def f_X9_determinant_b32 (v0 : Option Nat) (v1 : Int32) (v2 : Int32) (v3 : Int32) (h : mH) : Option ((Int32 × mH) ⊕ (Int64 × mH)) :=
  if v2 ≤ v3 then
    (f_X9_determinant_l96 v0 v2 (1 : Int64) (1 : Int32) (0 : Int32) h).map (fun r => (Sum.inr r))
  else
    f_X9_determinant_l40 v0 v1 v2 v3 (0 : Int32) h
set_option maxRecDepth 100000 in
set_option maxHeartbeats 4000000 in
theorem g_X9_determinant_b32 {w : mWp} {Q : Option Value → mH → Prop} (v0 : Option Nat) (v1 : Int32) (v2 : Int32) (v3 : Int32) (h : mH) {res : (Int32 × mH) ⊕ (Int64 × mH)} (e : f_X9_determinant_b32 v0 v1 v2 v3 h = some res) (q : (Sum.elim (fun x : Int32 × mH => mGo w kX9_determinant 0 0 32 [some (va_rf v0), some (.int v1), some (.int v2), some (.int x.1), none, none, none, none, none] [] x.2 Q) (fun r : Int64 × mH => Q (some (.long r.1)) r.2)) res) : mGo w kX9_determinant 0 0 32 [some (va_rf v0), some (.int v1), some (.int v2), some (.int v3), none, none, none, none, none] [] h Q := by
  unfold f_X9_determinant_b32 at e
  refine mGo.iload_n (n := 33) (x := v3) dX9_determinant_32 rfl rfl ?_
  refine mGo.iload_n (n := 34) (x := v2) dX9_determinant_33 rfl rfl ?_
  refine mGo.icmp_ge (tgt := 88) (n := 37) dX9_determinant_34 (by decide) rfl (fun hc => ?_) (fun hc => ?_)
  · replace e := mIft hc e
    refine mGo.lconst (n := 89) (v := (1 : Int64)) dX9_determinant_88 (by decide) rfl ?_
    refine mGo.lstore_n (n := 90) (ls' := [some (va_rf v0), some (.int v1), some (.int v2), some (.long (1 : Int64)), none, none, none, none, none]) dX9_determinant_89 rfl (Nat.le_of_ble_eq_true rfl) rfl ?_
    refine mGo.iconst (n := 91) (v := (1 : Int32)) dX9_determinant_90 (by decide) rfl ?_
    refine mGo.istore (n := 93) (ls' := [some (va_rf v0), some (.int v1), some (.int v2), some (.long (1 : Int64)), none, some (.int (1 : Int32)), none, none, none]) dX9_determinant_91 rfl (Nat.le_of_ble_eq_true rfl) rfl ?_
    refine mGo.iconst (n := 94) (v := (0 : Int32)) dX9_determinant_93 (by decide) rfl ?_
    refine mGo.istore (n := 96) (ls' := [some (va_rf v0), some (.int v1), some (.int v2), some (.long (1 : Int64)), none, some (.int (1 : Int32)), some (.int (0 : Int32)), none, none]) dX9_determinant_94 rfl (Nat.le_of_ble_eq_true rfl) rfl ?_
    obtain ⟨r1, e2, rfl⟩ := mMap e
    refine mGo.mk [true, false, true, true, false, true, true, false, false] ?_
    exact g_X9_determinant_l96 v0 v2 (1 : Int64) (1 : Int32) (0 : Int32) h e2 q
  · replace e := mIff hc e
    refine mGo.iconst (n := 38) (v := (0 : Int32)) dX9_determinant_37 (by decide) rfl ?_
    refine mGo.istore (n := 40) (ls' := [some (va_rf v0), some (.int v1), some (.int v2), some (.int v3), some (.int (0 : Int32)), none, none, none, none]) dX9_determinant_38 rfl (Nat.le_of_ble_eq_true rfl) rfl ?_
    refine mGo.mk [true, true, true, true, true, false, false, false, false] ?_
    exact g_X9_determinant_l40 v0 v1 v2 v3 (0 : Int32) h e q
noncomputable def f_X9_determinant_l32 (v0 : Option Nat) (v1 : Int32) (v2 : Int32) (v3 : Int32) (h : mH) : Option (Int64 × mH) :=
  mLoop (fun x : Int32 × mH => f_X9_determinant_b32 v0 v1 v2 x.1 x.2) (v3, h)
set_option maxRecDepth 100000 in
set_option maxHeartbeats 4000000 in
theorem g_X9_determinant_l32 {w : mWp} {Q : Option Value → mH → Prop} (v0 : Option Nat) (v1 : Int32) (v2 : Int32) (v3 : Int32) (h : mH) {res : Int64 × mH} (e : f_X9_determinant_l32 v0 v1 v2 v3 h = some res) (q : (fun r : Int64 × mH => Q (some (.long r.1)) r.2) res) : mGo w kX9_determinant 0 0 32 [some (va_rf v0), some (.int v1), some (.int v2), some (.int v3), none, none, none, none, none] [] h Q := by
  unfold f_X9_determinant_l32 at e
  refine mLoop_go (x := (v3, h)) (fun x : Int32 × mH => mGo w kX9_determinant 0 0 32 [some (va_rf v0), some (.int v1), some (.int v2), some (.int x.1), none, none, none, none, none] [] x.2 Q) (fun r : Int64 × mH => Q (some (.long r.1)) r.2) ?_ e q
  rintro ⟨v3, h1⟩ res e q
  exact g_X9_determinant_b32 v0 v1 v2 v3 h1 e q
noncomputable def f_X9_determinant (v0 : Option Nat) (v1 : Int32) (h : mH) : Option (Int64 × mH) :=
  (mIs h v0 8).bind fun _ =>
  (f_X9_isTable v0 v1 h).bind fun x1 =>
  if x1 = 0 then
    f_X9_determinant_c19 h
  else
    (mGR h v0 8 1).bind fun x2 =>
    (mAI h x2 v1).bind fun x3 =>
    if x3 ≤ (12 : Int32) then
      (mGR h v0 8 1).bind fun x4 =>
      (mAI h x4 v1).bind fun x5 =>
      f_X9_determinant_l32 v0 v1 x5 (0 : Int32) h
    else
      f_X9_determinant_c19 h
set_option maxRecDepth 100000 in
set_option maxHeartbeats 4000000 in
theorem g_X9_determinant {w : mWp} {Q : Option Value → mH → Prop} (v0 : Option Nat) (v1 : Int32) (h : mH) {res : Int64 × mH} (e : f_X9_determinant v0 v1 h = some res) (q : (fun r : Int64 × mH => Q (some (.long r.1)) r.2) res) : mGo w kX9_determinant 0 0 0 [some (va_rf v0), some (.int v1), none, none, none, none, none, none, none] [] h Q := by
  unfold f_X9_determinant at e
  obtain ⟨_, _, e⟩ := mBind e
  refine mGo.aload_n (n := 1) (r := v0) dX9_determinant_0 rfl rfl ?_
  refine mGo.iload_n (n := 2) (x := v1) dX9_determinant_1 rfl rfl ?_
  obtain ⟨x1, e_x1, e⟩ := mBind e
  refine mGo.callV (n := 5) (y := zX9_isTable) (R' := (mRoom (2) 0 0)) (as := [.int v1]) (st := []) (r0 := v0) dX9_determinant_2 sc_RX9_86 rfl (s_X9_isTable v0 v1 h e_x1) (e_X9_isTable v0 v1 h e_x1) (mFit_of rfl (Nat.le_of_ble_eq_true rfl) (by decide) (Nat.le_of_ble_eq_true rfl) (Nat.le_of_ble_eq_true rfl)) (Nat.le_of_ble_eq_true rfl) rfl rfl ?_
  intro _ _ hq
  rw [hq.1, hq.2]
  show mGo w kX9_determinant 0 0 5 [some (va_rf v0), some (.int v1), none, none, none, none, none, none, none] [.int x1] h Q
  refine mGo.if_eq (tgt := 19) (n := 8) dX9_determinant_5 (by decide) rfl (fun hc => ?_) (fun hc => ?_)
  · replace e := mIft hc e
    refine mGo.mk [false, false, false, false, false, false, false, false, false] ?_
    exact g_X9_determinant_c19 h e q
  · replace e := mIff hc e
    refine mGo.aload_n (n := 9) (r := v0) dX9_determinant_8 rfl rfl ?_
    obtain ⟨x2, e_x2, e⟩ := mBind e
    refine mGo.getR (n := 12) dX9_determinant_9 sf_RX9_13 e_x2 rfl ?_
    refine mGo.iload_n (n := 13) (x := v1) dX9_determinant_12 rfl rfl ?_
    obtain ⟨x3, e_x3, e⟩ := mBind e
    refine mGo.iald (n := 14) dX9_determinant_13 e_x3 rfl ?_
    refine mGo.bipush (n := 16) (v := (12 : Int32)) dX9_determinant_14 (by decide) rfl ?_
    refine mGo.icmp_le (tgt := 23) (n := 19) dX9_determinant_16 (by decide) rfl (fun hc => ?_) (fun hc => ?_)
    · replace e := mIft hc e
      refine mGo.aload_n (n := 24) (r := v0) dX9_determinant_23 rfl rfl ?_
      obtain ⟨x4, e_x4, e⟩ := mBind e
      refine mGo.getR (n := 27) dX9_determinant_24 sf_RX9_13 e_x4 rfl ?_
      refine mGo.iload_n (n := 28) (x := v1) dX9_determinant_27 rfl rfl ?_
      obtain ⟨x5, e_x5, e⟩ := mBind e
      refine mGo.iald (n := 29) dX9_determinant_28 e_x5 rfl ?_
      refine mGo.istore_n (n := 30) (ls' := [some (va_rf v0), some (.int v1), some (.int x5), none, none, none, none, none, none]) dX9_determinant_29 rfl (Nat.le_of_ble_eq_true rfl) rfl ?_
      refine mGo.iconst (n := 31) (v := (0 : Int32)) dX9_determinant_30 (by decide) rfl ?_
      refine mGo.istore_n (n := 32) (ls' := [some (va_rf v0), some (.int v1), some (.int x5), some (.int (0 : Int32)), none, none, none, none, none]) dX9_determinant_31 rfl (Nat.le_of_ble_eq_true rfl) rfl ?_
      refine mGo.mk [true, true, true, true, false, false, false, false, false] ?_
      exact g_X9_determinant_l32 v0 v1 x5 (0 : Int32) h e q
    · replace e := mIff hc e
      refine mGo.mk [false, false, false, false, false, false, false, false, false] ?_
      exact g_X9_determinant_c19 h e q
theorem e_X9_determinant {w : mWp} (v0 : Option Nat) (v1 : Int32) (h : mH) {res : Int64 × mH} (e : f_X9_determinant v0 v1 h = some res) : mEx w zX9_determinant (mRoom 3 0 0) [va_rf v0, .int v1] h (fun r h2 => r = some (.long res.1) ∧ h2 = res.2) := by
  refine mEx.of (by decide +kernel) (show mEnt [va_rf v0, .int v1] 9 = [some (va_rf v0), some (.int v1), none, none, none, none, none, none, none] by rw [mEnt_r, mEnt_i] <;> rfl) (by simp only [List.map_cons, List.map_nil, mRfc, mCi, mCj, List.sum_cons, List.sum_nil]; exact Nat.le_of_ble_eq_true rfl) ?_
  refine g_X9_determinant v0 v1 h e ?_
  exact ⟨rfl, rfl⟩
theorem s_X9_determinant (v0 : Option Nat) (v1 : Int32) (h : mH) {res : Int64 × mH} (e : f_X9_determinant v0 v1 h = some res) : mIs h v0 8 = some () := by
  unfold f_X9_determinant at e
  obtain ⟨u, e1, _⟩ := mBind e
  cases u
  exact e1
