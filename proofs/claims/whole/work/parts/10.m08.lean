-- X9_square
def kX9_square : mK := (cX9_square, RX9, 3, some (.int), "square", mRoom 5 0 0)
def zX9_square : mY := (yX9_square, cX9_square, 3, some (.int))
noncomputable def f_X9_square (v0 : Int32) (v1 : Int32) (v2 : Int32)  : Option (Int32) :=
  if v1 = v2 then
    some (0 : Int32)
  else
    if v1 = 0 then
      some (1 : Int32)
    else
      if v2 = 0 then
        some (1 : Int32)
      else
        (f_X9_summed v0 (v1 - (1 : Int32)) (v2 - (1 : Int32)) (-1 : Int32)).bind fun x1 =>
        (f_X9_chi v0 x1).bind fun x2 =>
        some x2
set_option maxRecDepth 100000 in
set_option maxHeartbeats 4000000 in
theorem g_X9_square {w : mWp} {Q : Option Value → mH → Prop} (v0 : Int32) (v1 : Int32) (v2 : Int32) (h : mH) {res : Int32} (e : f_X9_square v0 v1 v2 = some res) (q : (fun r : Int32 => Q (some (.int r)) h) res) : mGo w kX9_square 0 0 0 [some (.int v0), some (.int v1), some (.int v2)] [] h Q := by
  unfold f_X9_square at e
  refine mGo.iload_n (n := 1) (x := v1) dX9_square_0 rfl rfl ?_
  refine mGo.iload_n (n := 2) (x := v2) dX9_square_1 rfl rfl ?_
  refine mGo.icmp_ne (tgt := 7) (n := 5) dX9_square_2 (by decide) rfl (fun hc => ?_) (fun hc => ?_)
  · replace e := mIff hc e
    refine mGo.iload_n (n := 8) (x := v1) dX9_square_7 rfl rfl ?_
    refine mGo.if_eq (tgt := 15) (n := 11) dX9_square_8 (by decide) rfl (fun hc => ?_) (fun hc => ?_)
    · replace e := mIft hc e
      refine mGo.iconst (n := 16) (v := (1 : Int32)) dX9_square_15 (by decide) rfl ?_
      refine mGo.goto (tgt := 34) dX9_square_16 (by decide) ?_
      cases e
      exact mGo.iret dX9_square_34 rfl (Nat.le_of_ble_eq_true rfl) (Nat.le_of_ble_eq_true rfl) q
    · replace e := mIff hc e
      refine mGo.iload_n (n := 12) (x := v2) dX9_square_11 rfl rfl ?_
      refine mGo.if_ne (tgt := 19) (n := 15) dX9_square_12 (by decide) rfl (fun hc => ?_) (fun hc => ?_)
      · replace e := mIff hc e
        refine mGo.iload_n (n := 20) (x := v0) dX9_square_19 rfl rfl ?_
        refine mGo.iload_n (n := 21) (x := v0) dX9_square_20 rfl rfl ?_
        refine mGo.iload_n (n := 22) (x := v1) dX9_square_21 rfl rfl ?_
        refine mGo.iconst (n := 23) (v := (1 : Int32)) dX9_square_22 (by decide) rfl ?_
        refine mGo.isub (n := 24) dX9_square_23 rfl ?_
        refine mGo.iload_n (n := 25) (x := v2) dX9_square_24 rfl rfl ?_
        refine mGo.iconst (n := 26) (v := (1 : Int32)) dX9_square_25 (by decide) rfl ?_
        refine mGo.isub (n := 27) dX9_square_26 rfl ?_
        refine mGo.iconst (n := 28) (v := (-1 : Int32)) dX9_square_27 (by decide) rfl ?_
        obtain ⟨x1, e_x1, e⟩ := mBind e
        refine mGo.callS (n := 31) (y := zX9_summed) (R' := (mRoom (2) 0 0)) (as := [.int v0, .int (v1 - (1 : Int32)), .int (v2 - (1 : Int32)), .int (-1 : Int32)]) (st := [.int v0]) dX9_square_28 sc_RX9_146 rfl (e_X9_summed v0 (v1 - (1 : Int32)) (v2 - (1 : Int32)) (-1 : Int32) h e_x1) (mFit_of rfl (Nat.le_of_ble_eq_true rfl) (by decide) (Nat.le_of_ble_eq_true rfl) (Nat.le_of_ble_eq_true rfl)) (Nat.le_of_ble_eq_true rfl) rfl rfl ?_
        intro _ _ hq
        rw [hq.1, hq.2]
        show mGo w kX9_square 0 0 31 [some (.int v0), some (.int v1), some (.int v2)] [.int x1, .int v0] h Q
        obtain ⟨x2, e_x2, e⟩ := mBind e
        refine mGo.callS (n := 34) (y := zX9_chi) (R' := (mRoom (4) 0 0)) (as := [.int v0, .int x1]) (st := []) dX9_square_31 sc_RX9_154 rfl (e_X9_chi v0 x1 h e_x2) (mFit_of rfl (Nat.le_of_ble_eq_true rfl) (by decide) (Nat.le_of_ble_eq_true rfl) (Nat.le_of_ble_eq_true rfl)) (Nat.le_of_ble_eq_true rfl) rfl rfl ?_
        intro _ _ hq
        rw [hq.1, hq.2]
        show mGo w kX9_square 0 0 34 [some (.int v0), some (.int v1), some (.int v2)] [.int x2] h Q
        cases e
        exact mGo.iret dX9_square_34 rfl (Nat.le_of_ble_eq_true rfl) (Nat.le_of_ble_eq_true rfl) q
      · replace e := mIft hc e
        refine mGo.iconst (n := 16) (v := (1 : Int32)) dX9_square_15 (by decide) rfl ?_
        refine mGo.goto (tgt := 34) dX9_square_16 (by decide) ?_
        cases e
        exact mGo.iret dX9_square_34 rfl (Nat.le_of_ble_eq_true rfl) (Nat.le_of_ble_eq_true rfl) q
  · replace e := mIft hc e
    refine mGo.iconst (n := 6) (v := (0 : Int32)) dX9_square_5 (by decide) rfl ?_
    cases e
    exact mGo.iret dX9_square_6 rfl (Nat.le_of_ble_eq_true rfl) (Nat.le_of_ble_eq_true rfl) q
theorem e_X9_square {w : mWp} (v0 : Int32) (v1 : Int32) (v2 : Int32) (h : mH) {res : Int32} (e : f_X9_square v0 v1 v2 = some res) : mEx w zX9_square (mRoom 5 0 0) [.int v0, .int v1, .int v2] h (fun r h2 => r = some (.int res) ∧ h2 = h) := by
  refine mEx.of (by decide +kernel) rfl (Nat.le_of_ble_eq_true rfl) ?_
  refine g_X9_square v0 v1 v2 h e ?_
  exact ⟨rfl, rfl⟩
-- X9_twice
def kX9_twice : mK := (cX9_twice, RX9, 5, some (.int), "twice", mRoom 6 0 0)
def zX9_twice : mY := (yX9_twice, cX9_twice, 5, some (.int))
set_option maxRecDepth 100000 in
theorem sc_RX9_157 : mSS RX9 157 zX9_square 3 := ⟨Or.inl (mT_at 951 (by decide +kernel) rfl), mT_at 952 (by decide +kernel) rfl, mT_at 91 (by decide +kernel) rfl, mT_at 953 (by decide +kernel) rfl, ⟨by decide +kernel, by decide +kernel, by decide +kernel⟩⟩
def f_X9_twice_c140 (v0 : Option Nat) (v1 : Int32) (v2 : Int32) (v3 : Int32) (s0 : Option Nat) (s1 : Int32) (s2 : Int32) (s3 : Int32) (h : mH) : Option ((Int32 × mH) ⊕ ((Int32 × mH) ⊕ (Int32 × mH))) :=
  (f_X9_lays s0 s1 s2 s3 h).bind fun x1 =>
  some (Sum.inl ((v3 + 1), x1))
set_option maxRecDepth 100000 in
set_option maxHeartbeats 4000000 in
theorem g_X9_twice_c140 {w : mWp} {Q : Option Value → mH → Prop} (v0 : Option Nat) (v1 : Int32) (v2 : Int32) (v3 : Int32) (s0 : Option Nat) (s1 : Int32) (s2 : Int32) (s3 : Int32) (h : mH) {res : (Int32 × mH) ⊕ ((Int32 × mH) ⊕ (Int32 × mH))} (e : f_X9_twice_c140 v0 v1 v2 v3 s0 s1 s2 s3 h = some res) (q : (Sum.elim (fun x : Int32 × mH => mGo w kX9_twice 0 0 42 [some (va_rf v0), some (.int v1), some (.int v2), some (.int x.1), none] [] x.2 Q) (Sum.elim (fun x : Int32 × mH => mGo w kX9_twice 0 0 35 [some (va_rf v0), some (.int v1), some (.int x.1), none, none] [] x.2 Q) (fun r : Int32 × mH => Q (some (.int r.1)) r.2))) res) : mGo w kX9_twice 0 0 140 [some (va_rf v0), some (.int v1), some (.int v2), some (.int v3), none] [.int s3, .int s2, .int s1, va_rf s0] h Q := by
  unfold f_X9_twice_c140 at e
  obtain ⟨x1, e_x1, e⟩ := mBind e
  refine mGo.callV (n := 143) (y := zX9_lays) (R' := (mRoom (1) 0 0)) (as := [.int s1, .int s2, .int s3]) (st := []) (r0 := s0) dX9_twice_140 sc_RX9_150 rfl (s_X9_lays s0 s1 s2 s3 h e_x1) (e_X9_lays s0 s1 s2 s3 h e_x1) (mFit_of rfl (Nat.le_of_ble_eq_true rfl) (by decide) (Nat.le_of_ble_eq_true rfl) (Nat.le_of_ble_eq_true rfl)) (Nat.le_of_ble_eq_true rfl) rfl rfl ?_
  intro _ _ hq
  rw [hq.1, hq.2]
  show mGo w kX9_twice 0 0 143 [some (va_rf v0), some (.int v1), some (.int v2), some (.int v3), none] [] x1 Q
  refine mGo.iinc (n := 146) (x := v3) (v := (v3 + 1)) (ls' := [some (va_rf v0), some (.int v1), some (.int v2), some (.int (v3 + 1)), none]) dX9_twice_143 rfl rfl rfl (Nat.le_of_ble_eq_true rfl) rfl ?_
  refine mGo.goto (tgt := 42) dX9_twice_146 (by decide) ?_
  cases e
  refine mGo.mk [true, true, true, true, false] ?_
  exact q
def f_X9_twice_c116 (v0 : Option Nat) (v1 : Int32) (v2 : Int32) (v3 : Int32) (v4 : Int32) (s0 : Option Nat) (s1 : Int32) (s2 : Int32) (s3 : Int32) (h : mH) : Option ((Int32 × mH) ⊕ ((Int32 × mH) ⊕ (Int32 × mH))) :=
  (f_X9_lays s0 s1 s2 s3 h).bind fun x1 =>
  if v4 < 0 then
    f_X9_twice_c140 v0 v1 v2 v3 v0 (((2 : Int32) * v2) + (1 : Int32)) (((2 : Int32) * v3) + (1 : Int32)) (0 : Int32) x1
  else
    f_X9_twice_c140 v0 v1 v2 v3 v0 (((2 : Int32) * v2) + (1 : Int32)) (((2 : Int32) * v3) + (1 : Int32)) (1 : Int32) x1
set_option maxRecDepth 100000 in
set_option maxHeartbeats 4000000 in
theorem g_X9_twice_c116 {w : mWp} {Q : Option Value → mH → Prop} (v0 : Option Nat) (v1 : Int32) (v2 : Int32) (v3 : Int32) (v4 : Int32) (s0 : Option Nat) (s1 : Int32) (s2 : Int32) (s3 : Int32) (h : mH) {res : (Int32 × mH) ⊕ ((Int32 × mH) ⊕ (Int32 × mH))} (e : f_X9_twice_c116 v0 v1 v2 v3 v4 s0 s1 s2 s3 h = some res) (q : (Sum.elim (fun x : Int32 × mH => mGo w kX9_twice 0 0 42 [some (va_rf v0), some (.int v1), some (.int v2), some (.int x.1), none] [] x.2 Q) (Sum.elim (fun x : Int32 × mH => mGo w kX9_twice 0 0 35 [some (va_rf v0), some (.int v1), some (.int x.1), none, none] [] x.2 Q) (fun r : Int32 × mH => Q (some (.int r.1)) r.2))) res) : mGo w kX9_twice 0 0 116 [some (va_rf v0), some (.int v1), some (.int v2), some (.int v3), some (.int v4)] [.int s3, .int s2, .int s1, va_rf s0] h Q := by
  unfold f_X9_twice_c116 at e
  obtain ⟨x1, e_x1, e⟩ := mBind e
  refine mGo.callV (n := 119) (y := zX9_lays) (R' := (mRoom (1) 0 0)) (as := [.int s1, .int s2, .int s3]) (st := []) (r0 := s0) dX9_twice_116 sc_RX9_150 rfl (s_X9_lays s0 s1 s2 s3 h e_x1) (e_X9_lays s0 s1 s2 s3 h e_x1) (mFit_of rfl (Nat.le_of_ble_eq_true rfl) (by decide) (Nat.le_of_ble_eq_true rfl) (Nat.le_of_ble_eq_true rfl)) (Nat.le_of_ble_eq_true rfl) rfl rfl ?_
  intro _ _ hq
  rw [hq.1, hq.2]
  show mGo w kX9_twice 0 0 119 [some (va_rf v0), some (.int v1), some (.int v2), some (.int v3), some (.int v4)] [] x1 Q
  refine mGo.aload_n (n := 120) (r := v0) dX9_twice_119 rfl rfl ?_
  refine mGo.iconst (n := 121) (v := (2 : Int32)) dX9_twice_120 (by decide) rfl ?_
  refine mGo.iload_n (n := 122) (x := v2) dX9_twice_121 rfl rfl ?_
  refine mGo.imul (n := 123) dX9_twice_122 rfl ?_
  refine mGo.iconst (n := 124) (v := (1 : Int32)) dX9_twice_123 (by decide) rfl ?_
  refine mGo.iadd (n := 125) dX9_twice_124 rfl ?_
  refine mGo.iconst (n := 126) (v := (2 : Int32)) dX9_twice_125 (by decide) rfl ?_
  refine mGo.iload_n (n := 127) (x := v3) dX9_twice_126 rfl rfl ?_
  refine mGo.imul (n := 128) dX9_twice_127 rfl ?_
  refine mGo.iconst (n := 129) (v := (1 : Int32)) dX9_twice_128 (by decide) rfl ?_
  refine mGo.iadd (n := 130) dX9_twice_129 rfl ?_
  refine mGo.iload (n := 132) (x := v4) dX9_twice_130 rfl rfl ?_
  refine mGo.if_lt (tgt := 139) (n := 135) dX9_twice_132 (by decide) rfl (fun hc => ?_) (fun hc => ?_)
  · replace e := mIft hc e
    refine mGo.iconst (n := 140) (v := (0 : Int32)) dX9_twice_139 (by decide) rfl ?_
    refine mGo.mk [true, true, true, true, false] ?_
    exact g_X9_twice_c140 v0 v1 v2 v3 v0 (((2 : Int32) * v2) + (1 : Int32)) (((2 : Int32) * v3) + (1 : Int32)) (0 : Int32) x1 e q
  · replace e := mIff hc e
    refine mGo.iconst (n := 136) (v := (1 : Int32)) dX9_twice_135 (by decide) rfl ?_
    refine mGo.goto (tgt := 140) dX9_twice_136 (by decide) ?_
    refine mGo.mk [true, true, true, true, false] ?_
    exact g_X9_twice_c140 v0 v1 v2 v3 v0 (((2 : Int32) * v2) + (1 : Int32)) (((2 : Int32) * v3) + (1 : Int32)) (1 : Int32) x1 e q
def f_X9_twice_c94 (v0 : Option Nat) (v1 : Int32) (v2 : Int32) (v3 : Int32) (v4 : Int32) (s0 : Option Nat) (s1 : Int32) (s2 : Int32) (s3 : Int32) (h : mH) : Option ((Int32 × mH) ⊕ ((Int32 × mH) ⊕ (Int32 × mH))) :=
  (f_X9_lays s0 s1 s2 s3 h).bind fun x1 =>
  if 0 < v4 then
    f_X9_twice_c116 v0 v1 v2 v3 v4 v0 (((2 : Int32) * v2) + (1 : Int32)) ((2 : Int32) * v3) (0 : Int32) x1
  else
    f_X9_twice_c116 v0 v1 v2 v3 v4 v0 (((2 : Int32) * v2) + (1 : Int32)) ((2 : Int32) * v3) (1 : Int32) x1
set_option maxRecDepth 100000 in
set_option maxHeartbeats 4000000 in
theorem g_X9_twice_c94 {w : mWp} {Q : Option Value → mH → Prop} (v0 : Option Nat) (v1 : Int32) (v2 : Int32) (v3 : Int32) (v4 : Int32) (s0 : Option Nat) (s1 : Int32) (s2 : Int32) (s3 : Int32) (h : mH) {res : (Int32 × mH) ⊕ ((Int32 × mH) ⊕ (Int32 × mH))} (e : f_X9_twice_c94 v0 v1 v2 v3 v4 s0 s1 s2 s3 h = some res) (q : (Sum.elim (fun x : Int32 × mH => mGo w kX9_twice 0 0 42 [some (va_rf v0), some (.int v1), some (.int v2), some (.int x.1), none] [] x.2 Q) (Sum.elim (fun x : Int32 × mH => mGo w kX9_twice 0 0 35 [some (va_rf v0), some (.int v1), some (.int x.1), none, none] [] x.2 Q) (fun r : Int32 × mH => Q (some (.int r.1)) r.2))) res) : mGo w kX9_twice 0 0 94 [some (va_rf v0), some (.int v1), some (.int v2), some (.int v3), some (.int v4)] [.int s3, .int s2, .int s1, va_rf s0] h Q := by
  unfold f_X9_twice_c94 at e
  obtain ⟨x1, e_x1, e⟩ := mBind e
  refine mGo.callV (n := 97) (y := zX9_lays) (R' := (mRoom (1) 0 0)) (as := [.int s1, .int s2, .int s3]) (st := []) (r0 := s0) dX9_twice_94 sc_RX9_150 rfl (s_X9_lays s0 s1 s2 s3 h e_x1) (e_X9_lays s0 s1 s2 s3 h e_x1) (mFit_of rfl (Nat.le_of_ble_eq_true rfl) (by decide) (Nat.le_of_ble_eq_true rfl) (Nat.le_of_ble_eq_true rfl)) (Nat.le_of_ble_eq_true rfl) rfl rfl ?_
  intro _ _ hq
  rw [hq.1, hq.2]
  show mGo w kX9_twice 0 0 97 [some (va_rf v0), some (.int v1), some (.int v2), some (.int v3), some (.int v4)] [] x1 Q
  refine mGo.aload_n (n := 98) (r := v0) dX9_twice_97 rfl rfl ?_
  refine mGo.iconst (n := 99) (v := (2 : Int32)) dX9_twice_98 (by decide) rfl ?_
  refine mGo.iload_n (n := 100) (x := v2) dX9_twice_99 rfl rfl ?_
  refine mGo.imul (n := 101) dX9_twice_100 rfl ?_
  refine mGo.iconst (n := 102) (v := (1 : Int32)) dX9_twice_101 (by decide) rfl ?_
  refine mGo.iadd (n := 103) dX9_twice_102 rfl ?_
  refine mGo.iconst (n := 104) (v := (2 : Int32)) dX9_twice_103 (by decide) rfl ?_
  refine mGo.iload_n (n := 105) (x := v3) dX9_twice_104 rfl rfl ?_
  refine mGo.imul (n := 106) dX9_twice_105 rfl ?_
  refine mGo.iload (n := 108) (x := v4) dX9_twice_106 rfl rfl ?_
  refine mGo.if_gt (tgt := 115) (n := 111) dX9_twice_108 (by decide) rfl (fun hc => ?_) (fun hc => ?_)
  · replace e := mIft hc e
    refine mGo.iconst (n := 116) (v := (0 : Int32)) dX9_twice_115 (by decide) rfl ?_
    refine mGo.mk [true, true, true, true, true] ?_
    exact g_X9_twice_c116 v0 v1 v2 v3 v4 v0 (((2 : Int32) * v2) + (1 : Int32)) ((2 : Int32) * v3) (0 : Int32) x1 e q
  · replace e := mIff hc e
    refine mGo.iconst (n := 112) (v := (1 : Int32)) dX9_twice_111 (by decide) rfl ?_
    refine mGo.goto (tgt := 116) dX9_twice_112 (by decide) ?_
    refine mGo.mk [true, true, true, true, true] ?_
    exact g_X9_twice_c116 v0 v1 v2 v3 v4 v0 (((2 : Int32) * v2) + (1 : Int32)) ((2 : Int32) * v3) (1 : Int32) x1 e q
def f_X9_twice_c72 (v0 : Option Nat) (v1 : Int32) (v2 : Int32) (v3 : Int32) (v4 : Int32) (s0 : Option Nat) (s1 : Int32) (s2 : Int32) (s3 : Int32) (h : mH) : Option ((Int32 × mH) ⊕ ((Int32 × mH) ⊕ (Int32 × mH))) :=
  (f_X9_lays s0 s1 s2 s3 h).bind fun x1 =>
  if 0 < v4 then
    f_X9_twice_c94 v0 v1 v2 v3 v4 v0 ((2 : Int32) * v2) (((2 : Int32) * v3) + (1 : Int32)) (0 : Int32) x1
  else
    f_X9_twice_c94 v0 v1 v2 v3 v4 v0 ((2 : Int32) * v2) (((2 : Int32) * v3) + (1 : Int32)) (1 : Int32) x1
set_option maxRecDepth 100000 in
set_option maxHeartbeats 4000000 in
theorem g_X9_twice_c72 {w : mWp} {Q : Option Value → mH → Prop} (v0 : Option Nat) (v1 : Int32) (v2 : Int32) (v3 : Int32) (v4 : Int32) (s0 : Option Nat) (s1 : Int32) (s2 : Int32) (s3 : Int32) (h : mH) {res : (Int32 × mH) ⊕ ((Int32 × mH) ⊕ (Int32 × mH))} (e : f_X9_twice_c72 v0 v1 v2 v3 v4 s0 s1 s2 s3 h = some res) (q : (Sum.elim (fun x : Int32 × mH => mGo w kX9_twice 0 0 42 [some (va_rf v0), some (.int v1), some (.int v2), some (.int x.1), none] [] x.2 Q) (Sum.elim (fun x : Int32 × mH => mGo w kX9_twice 0 0 35 [some (va_rf v0), some (.int v1), some (.int x.1), none, none] [] x.2 Q) (fun r : Int32 × mH => Q (some (.int r.1)) r.2))) res) : mGo w kX9_twice 0 0 72 [some (va_rf v0), some (.int v1), some (.int v2), some (.int v3), some (.int v4)] [.int s3, .int s2, .int s1, va_rf s0] h Q := by
  unfold f_X9_twice_c72 at e
  obtain ⟨x1, e_x1, e⟩ := mBind e
  refine mGo.callV (n := 75) (y := zX9_lays) (R' := (mRoom (1) 0 0)) (as := [.int s1, .int s2, .int s3]) (st := []) (r0 := s0) dX9_twice_72 sc_RX9_150 rfl (s_X9_lays s0 s1 s2 s3 h e_x1) (e_X9_lays s0 s1 s2 s3 h e_x1) (mFit_of rfl (Nat.le_of_ble_eq_true rfl) (by decide) (Nat.le_of_ble_eq_true rfl) (Nat.le_of_ble_eq_true rfl)) (Nat.le_of_ble_eq_true rfl) rfl rfl ?_
  intro _ _ hq
  rw [hq.1, hq.2]
  show mGo w kX9_twice 0 0 75 [some (va_rf v0), some (.int v1), some (.int v2), some (.int v3), some (.int v4)] [] x1 Q
  refine mGo.aload_n (n := 76) (r := v0) dX9_twice_75 rfl rfl ?_
  refine mGo.iconst (n := 77) (v := (2 : Int32)) dX9_twice_76 (by decide) rfl ?_
  refine mGo.iload_n (n := 78) (x := v2) dX9_twice_77 rfl rfl ?_
  refine mGo.imul (n := 79) dX9_twice_78 rfl ?_
  refine mGo.iconst (n := 80) (v := (2 : Int32)) dX9_twice_79 (by decide) rfl ?_
  refine mGo.iload_n (n := 81) (x := v3) dX9_twice_80 rfl rfl ?_
  refine mGo.imul (n := 82) dX9_twice_81 rfl ?_
  refine mGo.iconst (n := 83) (v := (1 : Int32)) dX9_twice_82 (by decide) rfl ?_
  refine mGo.iadd (n := 84) dX9_twice_83 rfl ?_
  refine mGo.iload (n := 86) (x := v4) dX9_twice_84 rfl rfl ?_
  refine mGo.if_gt (tgt := 93) (n := 89) dX9_twice_86 (by decide) rfl (fun hc => ?_) (fun hc => ?_)
  · replace e := mIft hc e
    refine mGo.iconst (n := 94) (v := (0 : Int32)) dX9_twice_93 (by decide) rfl ?_
    refine mGo.mk [true, true, true, true, true] ?_
    exact g_X9_twice_c94 v0 v1 v2 v3 v4 v0 ((2 : Int32) * v2) (((2 : Int32) * v3) + (1 : Int32)) (0 : Int32) x1 e q
  · replace e := mIff hc e
    refine mGo.iconst (n := 90) (v := (1 : Int32)) dX9_twice_89 (by decide) rfl ?_
    refine mGo.goto (tgt := 94) dX9_twice_90 (by decide) ?_
    refine mGo.mk [true, true, true, true, true] ?_
    exact g_X9_twice_c94 v0 v1 v2 v3 v4 v0 ((2 : Int32) * v2) (((2 : Int32) * v3) + (1 : Int32)) (1 : Int32) x1 e q
noncomputable def f_X9_twice_b42 (v0 : Option Nat) (v1 : Int32) (v2 : Int32) (v3 : Int32) (h : mH) : Option ((Int32 × mH) ⊕ ((Int32 × mH) ⊕ (Int32 × mH))) :=
  if v1 < v3 then
    some (Sum.inr (Sum.inl ((v2 + 1), h)))
  else
    (f_X9_square v1 v2 v3).bind fun x1 =>
    if 0 ≤ x1 then
      f_X9_twice_c72 v0 v1 v2 v3 x1 v0 ((2 : Int32) * v2) ((2 : Int32) * v3) (0 : Int32) h
    else
      f_X9_twice_c72 v0 v1 v2 v3 x1 v0 ((2 : Int32) * v2) ((2 : Int32) * v3) (1 : Int32) h
set_option maxRecDepth 100000 in
set_option maxHeartbeats 4000000 in
theorem g_X9_twice_b42 {w : mWp} {Q : Option Value → mH → Prop} (v0 : Option Nat) (v1 : Int32) (v2 : Int32) (v3 : Int32) (h : mH) {res : (Int32 × mH) ⊕ ((Int32 × mH) ⊕ (Int32 × mH))} (e : f_X9_twice_b42 v0 v1 v2 v3 h = some res) (q : (Sum.elim (fun x : Int32 × mH => mGo w kX9_twice 0 0 42 [some (va_rf v0), some (.int v1), some (.int v2), some (.int x.1), none] [] x.2 Q) (Sum.elim (fun x : Int32 × mH => mGo w kX9_twice 0 0 35 [some (va_rf v0), some (.int v1), some (.int x.1), none, none] [] x.2 Q) (fun r : Int32 × mH => Q (some (.int r.1)) r.2))) res) : mGo w kX9_twice 0 0 42 [some (va_rf v0), some (.int v1), some (.int v2), some (.int v3), none] [] h Q := by
  unfold f_X9_twice_b42 at e
  refine mGo.iload_n (n := 43) (x := v3) dX9_twice_42 rfl rfl ?_
  refine mGo.iload_n (n := 44) (x := v1) dX9_twice_43 rfl rfl ?_
  refine mGo.icmp_gt (tgt := 149) (n := 47) dX9_twice_44 (by decide) rfl (fun hc => ?_) (fun hc => ?_)
  · replace e := mIft hc e
    refine mGo.iinc (n := 152) (x := v2) (v := (v2 + 1)) (ls' := [some (va_rf v0), some (.int v1), some (.int (v2 + 1)), some (.int v3), none]) dX9_twice_149 rfl rfl rfl (Nat.le_of_ble_eq_true rfl) rfl ?_
    refine mGo.goto (tgt := 35) dX9_twice_152 (by decide) ?_
    cases e
    refine mGo.mk [true, true, true, false, false] ?_
    exact q
  · replace e := mIff hc e
    refine mGo.iload_n (n := 48) (x := v1) dX9_twice_47 rfl rfl ?_
    refine mGo.iload_n (n := 49) (x := v2) dX9_twice_48 rfl rfl ?_
    refine mGo.iload_n (n := 50) (x := v3) dX9_twice_49 rfl rfl ?_
    obtain ⟨x1, e_x1, e⟩ := mBind e
    refine mGo.callS (n := 53) (y := zX9_square) (R' := (mRoom (5) 0 0)) (as := [.int v1, .int v2, .int v3]) (st := []) dX9_twice_50 sc_RX9_157 rfl (e_X9_square v1 v2 v3 h e_x1) (mFit_of rfl (Nat.le_of_ble_eq_true rfl) (by decide) (Nat.le_of_ble_eq_true rfl) (Nat.le_of_ble_eq_true rfl)) (Nat.le_of_ble_eq_true rfl) rfl rfl ?_
    intro _ _ hq
    rw [hq.1, hq.2]
    show mGo w kX9_twice 0 0 53 [some (va_rf v0), some (.int v1), some (.int v2), some (.int v3), none] [.int x1] h Q
    refine mGo.istore (n := 55) (ls' := [some (va_rf v0), some (.int v1), some (.int v2), some (.int v3), some (.int x1)]) dX9_twice_53 rfl (Nat.le_of_ble_eq_true rfl) rfl ?_
    refine mGo.aload_n (n := 56) (r := v0) dX9_twice_55 rfl rfl ?_
    refine mGo.iconst (n := 57) (v := (2 : Int32)) dX9_twice_56 (by decide) rfl ?_
    refine mGo.iload_n (n := 58) (x := v2) dX9_twice_57 rfl rfl ?_
    refine mGo.imul (n := 59) dX9_twice_58 rfl ?_
    refine mGo.iconst (n := 60) (v := (2 : Int32)) dX9_twice_59 (by decide) rfl ?_
    refine mGo.iload_n (n := 61) (x := v3) dX9_twice_60 rfl rfl ?_
    refine mGo.imul (n := 62) dX9_twice_61 rfl ?_
    refine mGo.iload (n := 64) (x := x1) dX9_twice_62 rfl rfl ?_
    refine mGo.if_ge (tgt := 71) (n := 67) dX9_twice_64 (by decide) rfl (fun hc => ?_) (fun hc => ?_)
    · replace e := mIft hc e
      refine mGo.iconst (n := 72) (v := (0 : Int32)) dX9_twice_71 (by decide) rfl ?_
      refine mGo.mk [true, true, true, true, true] ?_
      exact g_X9_twice_c72 v0 v1 v2 v3 x1 v0 ((2 : Int32) * v2) ((2 : Int32) * v3) (0 : Int32) h e q
    · replace e := mIff hc e
      refine mGo.iconst (n := 68) (v := (1 : Int32)) dX9_twice_67 (by decide) rfl ?_
      refine mGo.goto (tgt := 72) dX9_twice_68 (by decide) ?_
      refine mGo.mk [true, true, true, true, true] ?_
      exact g_X9_twice_c72 v0 v1 v2 v3 x1 v0 ((2 : Int32) * v2) ((2 : Int32) * v3) (1 : Int32) h e q
noncomputable def f_X9_twice_l42 (v0 : Option Nat) (v1 : Int32) (v2 : Int32) (v3 : Int32) (h : mH) : Option ((Int32 × mH) ⊕ (Int32 × mH)) :=
  mLoop (fun x : Int32 × mH => f_X9_twice_b42 v0 v1 v2 x.1 x.2) (v3, h)
set_option maxRecDepth 100000 in
set_option maxHeartbeats 4000000 in
theorem g_X9_twice_l42 {w : mWp} {Q : Option Value → mH → Prop} (v0 : Option Nat) (v1 : Int32) (v2 : Int32) (v3 : Int32) (h : mH) {res : (Int32 × mH) ⊕ (Int32 × mH)} (e : f_X9_twice_l42 v0 v1 v2 v3 h = some res) (q : (Sum.elim (fun x : Int32 × mH => mGo w kX9_twice 0 0 35 [some (va_rf v0), some (.int v1), some (.int x.1), none, none] [] x.2 Q) (fun r : Int32 × mH => Q (some (.int r.1)) r.2)) res) : mGo w kX9_twice 0 0 42 [some (va_rf v0), some (.int v1), some (.int v2), some (.int v3), none] [] h Q := by
  unfold f_X9_twice_l42 at e
  refine mLoop_go (x := (v3, h)) (fun x : Int32 × mH => mGo w kX9_twice 0 0 42 [some (va_rf v0), some (.int v1), some (.int v2), some (.int x.1), none] [] x.2 Q) (Sum.elim (fun x : Int32 × mH => mGo w kX9_twice 0 0 35 [some (va_rf v0), some (.int v1), some (.int x.1), none, none] [] x.2 Q) (fun r : Int32 × mH => Q (some (.int r.1)) r.2)) ?_ e q
  rintro ⟨v3, h1⟩ res e q
  exact g_X9_twice_b42 v0 v1 v2 v3 h1 e q
noncomputable def f_X9_twice_b35 (v0 : Option Nat) (v1 : Int32) (v2 : Int32) (h : mH) : Option ((Int32 × mH) ⊕ (Int32 × mH)) :=
  if v1 < v2 then
    (f_X9_comes v0 (((2 : Int32) * v1) + (2 : Int32)) h).bind fun x1 =>
    some (Sum.inr (x1.1, x1.2))
  else
    f_X9_twice_l42 v0 v1 v2 (0 : Int32) h
set_option maxRecDepth 100000 in
set_option maxHeartbeats 4000000 in
theorem g_X9_twice_b35 {w : mWp} {Q : Option Value → mH → Prop} (v0 : Option Nat) (v1 : Int32) (v2 : Int32) (h : mH) {res : (Int32 × mH) ⊕ (Int32 × mH)} (e : f_X9_twice_b35 v0 v1 v2 h = some res) (q : (Sum.elim (fun x : Int32 × mH => mGo w kX9_twice 0 0 35 [some (va_rf v0), some (.int v1), some (.int x.1), none, none] [] x.2 Q) (fun r : Int32 × mH => Q (some (.int r.1)) r.2)) res) : mGo w kX9_twice 0 0 35 [some (va_rf v0), some (.int v1), some (.int v2), none, none] [] h Q := by
  unfold f_X9_twice_b35 at e
  refine mGo.iload_n (n := 36) (x := v2) dX9_twice_35 rfl rfl ?_
  refine mGo.iload_n (n := 37) (x := v1) dX9_twice_36 rfl rfl ?_
  refine mGo.icmp_gt (tgt := 155) (n := 40) dX9_twice_37 (by decide) rfl (fun hc => ?_) (fun hc => ?_)
  · replace e := mIft hc e
    refine mGo.aload_n (n := 156) (r := v0) dX9_twice_155 rfl rfl ?_
    refine mGo.iconst (n := 157) (v := (2 : Int32)) dX9_twice_156 (by decide) rfl ?_
    refine mGo.iload_n (n := 158) (x := v1) dX9_twice_157 rfl rfl ?_
    refine mGo.imul (n := 159) dX9_twice_158 rfl ?_
    refine mGo.iconst (n := 160) (v := (2 : Int32)) dX9_twice_159 (by decide) rfl ?_
    refine mGo.iadd (n := 161) dX9_twice_160 rfl ?_
    obtain ⟨x1, e_x1, e⟩ := mBind e
    refine mGo.callV (n := 164) (y := zX9_comes) (R' := (mRoom (2) 0 0)) (as := [.int (((2 : Int32) * v1) + (2 : Int32))]) (st := []) (r0 := v0) dX9_twice_161 sc_RX9_126 rfl (s_X9_comes v0 (((2 : Int32) * v1) + (2 : Int32)) h e_x1) (e_X9_comes v0 (((2 : Int32) * v1) + (2 : Int32)) h e_x1) (mFit_of rfl (Nat.le_of_ble_eq_true rfl) (by decide) (Nat.le_of_ble_eq_true rfl) (Nat.le_of_ble_eq_true rfl)) (Nat.le_of_ble_eq_true rfl) rfl rfl ?_
    intro _ _ hq
    rw [hq.1, hq.2]
    show mGo w kX9_twice 0 0 164 [some (va_rf v0), some (.int v1), some (.int v2), none, none] [.int x1.1] x1.2 Q
    cases e
    exact mGo.iret dX9_twice_164 rfl (Nat.le_of_ble_eq_true rfl) (Nat.le_of_ble_eq_true rfl) q
  · replace e := mIff hc e
    refine mGo.iconst (n := 41) (v := (0 : Int32)) dX9_twice_40 (by decide) rfl ?_
    refine mGo.istore_n (n := 42) (ls' := [some (va_rf v0), some (.int v1), some (.int v2), some (.int (0 : Int32)), none]) dX9_twice_41 rfl (Nat.le_of_ble_eq_true rfl) rfl ?_
    refine mGo.mk [true, true, true, true, false] ?_
    exact g_X9_twice_l42 v0 v1 v2 (0 : Int32) h e q
noncomputable def f_X9_twice_l35 (v0 : Option Nat) (v1 : Int32) (v2 : Int32) (h : mH) : Option (Int32 × mH) :=
  mLoop (fun x : Int32 × mH => f_X9_twice_b35 v0 v1 x.1 x.2) (v2, h)
set_option maxRecDepth 100000 in
set_option maxHeartbeats 4000000 in
theorem g_X9_twice_l35 {w : mWp} {Q : Option Value → mH → Prop} (v0 : Option Nat) (v1 : Int32) (v2 : Int32) (h : mH) {res : Int32 × mH} (e : f_X9_twice_l35 v0 v1 v2 h = some res) (q : (fun r : Int32 × mH => Q (some (.int r.1)) r.2) res) : mGo w kX9_twice 0 0 35 [some (va_rf v0), some (.int v1), some (.int v2), none, none] [] h Q := by
  unfold f_X9_twice_l35 at e
  refine mLoop_go (x := (v2, h)) (fun x : Int32 × mH => mGo w kX9_twice 0 0 35 [some (va_rf v0), some (.int v1), some (.int x.1), none, none] [] x.2 Q) (fun r : Int32 × mH => Q (some (.int r.1)) r.2) ?_ e q
  rintro ⟨v2, h1⟩ res e q
  exact g_X9_twice_b35 v0 v1 v2 h1 e q
noncomputable def f_X9_twice (v0 : Option Nat) (v1 : Int32) (h : mH) : Option (Int32 × mH) :=
  (mIs h v0 8).bind fun _ =>
  (f_X9_isField v1).bind fun x1 =>
  if x1 = 0 then
    some ((-1 : Int32), h)
  else
    if (mRem v1 (4 : Int32)) = (1 : Int32) then
      if (13 : Int32) < v1 then
        some ((-1 : Int32), h)
      else
        (f_X9_isFull v0 h).bind fun x2 =>
        if x2 = 0 then
          (f_X9_clearsMade v0 h).bind fun x3 =>
          f_X9_twice_l35 v0 v1 (0 : Int32) x3
        else
          some ((-1 : Int32), h)
    else
      some ((-1 : Int32), h)
set_option maxRecDepth 100000 in
set_option maxHeartbeats 4000000 in
theorem g_X9_twice {w : mWp} {Q : Option Value → mH → Prop} (v0 : Option Nat) (v1 : Int32) (h : mH) {res : Int32 × mH} (e : f_X9_twice v0 v1 h = some res) (q : (fun r : Int32 × mH => Q (some (.int r.1)) r.2) res) : mGo w kX9_twice 0 0 0 [some (va_rf v0), some (.int v1), none, none, none] [] h Q := by
  unfold f_X9_twice at e
  obtain ⟨_, _, e⟩ := mBind e
  refine mGo.iload_n (n := 1) (x := v1) dX9_twice_0 rfl rfl ?_
  obtain ⟨x1, e_x1, e⟩ := mBind e
  refine mGo.callS (n := 4) (y := zX9_isField) (R' := (mRoom (2) 0 0)) (as := [.int v1]) (st := []) dX9_twice_1 sc_RX9_143 rfl (e_X9_isField v1 h e_x1) (mFit_of rfl (Nat.le_of_ble_eq_true rfl) (by decide) (Nat.le_of_ble_eq_true rfl) (Nat.le_of_ble_eq_true rfl)) (Nat.le_of_ble_eq_true rfl) rfl rfl ?_
  intro _ _ hq
  rw [hq.1, hq.2]
  show mGo w kX9_twice 0 0 4 [some (va_rf v0), some (.int v1), none, none, none] [.int x1] h Q
  refine mGo.if_eq (tgt := 27) (n := 7) dX9_twice_4 (by decide) rfl (fun hc => ?_) (fun hc => ?_)
  · replace e := mIft hc e
    refine mGo.iconst (n := 28) (v := (-1 : Int32)) dX9_twice_27 (by decide) rfl ?_
    cases e
    exact mGo.iret dX9_twice_28 rfl (Nat.le_of_ble_eq_true rfl) (Nat.le_of_ble_eq_true rfl) q
  · replace e := mIff hc e
    refine mGo.iload_n (n := 8) (x := v1) dX9_twice_7 rfl rfl ?_
    refine mGo.iconst (n := 9) (v := (4 : Int32)) dX9_twice_8 (by decide) rfl ?_
    refine mGo.irem (n := 10) dX9_twice_9 (by decide) rfl ?_
    refine mGo.iconst (n := 11) (v := (1 : Int32)) dX9_twice_10 (by decide) rfl ?_
    refine mGo.icmp_ne (tgt := 27) (n := 14) dX9_twice_11 (by decide) rfl (fun hc => ?_) (fun hc => ?_)
    · replace e := mIff hc e
      refine mGo.iconst (n := 28) (v := (-1 : Int32)) dX9_twice_27 (by decide) rfl ?_
      cases e
      exact mGo.iret dX9_twice_28 rfl (Nat.le_of_ble_eq_true rfl) (Nat.le_of_ble_eq_true rfl) q
    · replace e := mIft hc e
      refine mGo.iload_n (n := 15) (x := v1) dX9_twice_14 rfl rfl ?_
      refine mGo.bipush (n := 17) (v := (13 : Int32)) dX9_twice_15 (by decide) rfl ?_
      refine mGo.icmp_gt (tgt := 27) (n := 20) dX9_twice_17 (by decide) rfl (fun hc => ?_) (fun hc => ?_)
      · replace e := mIft hc e
        refine mGo.iconst (n := 28) (v := (-1 : Int32)) dX9_twice_27 (by decide) rfl ?_
        cases e
        exact mGo.iret dX9_twice_28 rfl (Nat.le_of_ble_eq_true rfl) (Nat.le_of_ble_eq_true rfl) q
      · replace e := mIff hc e
        refine mGo.aload_n (n := 21) (r := v0) dX9_twice_20 rfl rfl ?_
        obtain ⟨x2, e_x2, e⟩ := mBind e
        refine mGo.callV (n := 24) (y := zX9_isFull) (R' := (mRoom (2) 0 0)) (as := []) (st := []) (r0 := v0) dX9_twice_21 sc_RX9_116 rfl (s_X9_isFull v0 h e_x2) (e_X9_isFull v0 h e_x2) (mFit_of rfl (Nat.le_of_ble_eq_true rfl) (by decide) (Nat.le_of_ble_eq_true rfl) (Nat.le_of_ble_eq_true rfl)) (Nat.le_of_ble_eq_true rfl) rfl rfl ?_
        intro _ _ hq
        rw [hq.1, hq.2]
        show mGo w kX9_twice 0 0 24 [some (va_rf v0), some (.int v1), none, none, none] [.int x2] h Q
        refine mGo.if_eq (tgt := 29) (n := 27) dX9_twice_24 (by decide) rfl (fun hc => ?_) (fun hc => ?_)
        · replace e := mIft hc e
          refine mGo.aload_n (n := 30) (r := v0) dX9_twice_29 rfl rfl ?_
          obtain ⟨x3, e_x3, e⟩ := mBind e
          refine mGo.callV (n := 33) (y := zX9_clearsMade) (R' := (mRoom (1) 0 0)) (as := []) (st := []) (r0 := v0) dX9_twice_30 sc_RX9_123 rfl (s_X9_clearsMade v0 h e_x3) (e_X9_clearsMade v0 h e_x3) (mFit_of rfl (Nat.le_of_ble_eq_true rfl) (by decide) (Nat.le_of_ble_eq_true rfl) (Nat.le_of_ble_eq_true rfl)) (Nat.le_of_ble_eq_true rfl) rfl rfl ?_
          intro _ _ hq
          rw [hq.1, hq.2]
          show mGo w kX9_twice 0 0 33 [some (va_rf v0), some (.int v1), none, none, none] [] x3 Q
          refine mGo.iconst (n := 34) (v := (0 : Int32)) dX9_twice_33 (by decide) rfl ?_
          refine mGo.istore_n (n := 35) (ls' := [some (va_rf v0), some (.int v1), some (.int (0 : Int32)), none, none]) dX9_twice_34 rfl (Nat.le_of_ble_eq_true rfl) rfl ?_
          refine mGo.mk [true, true, true, false, false] ?_
          exact g_X9_twice_l35 v0 v1 (0 : Int32) x3 e q
        · replace e := mIff hc e
          refine mGo.iconst (n := 28) (v := (-1 : Int32)) dX9_twice_27 (by decide) rfl ?_
          cases e
          exact mGo.iret dX9_twice_28 rfl (Nat.le_of_ble_eq_true rfl) (Nat.le_of_ble_eq_true rfl) q
theorem e_X9_twice {w : mWp} (v0 : Option Nat) (v1 : Int32) (h : mH) {res : Int32 × mH} (e : f_X9_twice v0 v1 h = some res) : mEx w zX9_twice (mRoom 6 0 0) [va_rf v0, .int v1] h (fun r h2 => r = some (.int res.1) ∧ h2 = res.2) := by
  refine mEx.of (by decide +kernel) (show mEnt [va_rf v0, .int v1] 5 = [some (va_rf v0), some (.int v1), none, none, none] by rw [mEnt_r, mEnt_i] <;> rfl) (by simp only [List.map_cons, List.map_nil, mRfc, mCi, mCj, List.sum_cons, List.sum_nil]; exact Nat.le_of_ble_eq_true rfl) ?_
  refine g_X9_twice v0 v1 h e ?_
  exact ⟨rfl, rfl⟩
theorem s_X9_twice (v0 : Option Nat) (v1 : Int32) (h : mH) {res : Int32 × mH} (e : f_X9_twice v0 v1 h = some res) : mIs h v0 8 = some () := by
  unfold f_X9_twice at e
  obtain ⟨u, e1, _⟩ := mBind e
  cases u
  exact e1
-- X9_doubled
def kX9_doubled : mK := (cX9_doubled, RX9, 5, some (.int), "doubled", mRoom 3 0 0)
def zX9_doubled : mY := (yX9_doubled, cX9_doubled, 5, some (.int))
def f_X9_doubled_c101 (v0 : Option Nat) (v1 : Int32) (v2 : Int32) (v3 : Int32) (v4 : Int32) (s0 : Option Nat) (s1 : Int32) (s2 : Int32) (s3 : Int32) (h : mH) : Option ((Int32 × mH) ⊕ ((Int32 × mH) ⊕ (Int32 × mH))) :=
  (f_X9_lays s0 s1 s2 s3 h).bind fun x1 =>
  some (Sum.inl ((v4 + 1), x1))
set_option maxRecDepth 100000 in
set_option maxHeartbeats 4000000 in
theorem g_X9_doubled_c101 {w : mWp} {Q : Option Value → mH → Prop} (v0 : Option Nat) (v1 : Int32) (v2 : Int32) (v3 : Int32) (v4 : Int32) (s0 : Option Nat) (s1 : Int32) (s2 : Int32) (s3 : Int32) (h : mH) {res : (Int32 × mH) ⊕ ((Int32 × mH) ⊕ (Int32 × mH))} (e : f_X9_doubled_c101 v0 v1 v2 v3 v4 s0 s1 s2 s3 h = some res) (q : (Sum.elim (fun x : Int32 × mH => mGo w kX9_doubled 0 0 53 [some (va_rf v0), some (.int v1), some (.int v2), some (.int v3), some (.int x.1)] [] x.2 Q) (Sum.elim (fun x : Int32 × mH => mGo w kX9_doubled 0 0 43 [some (va_rf v0), some (.int v1), some (.int v2), some (.int x.1), none] [] x.2 Q) (fun r : Int32 × mH => Q (some (.int r.1)) r.2))) res) : mGo w kX9_doubled 0 0 101 [some (va_rf v0), some (.int v1), some (.int v2), some (.int v3), some (.int v4)] [.int s3, .int s2, .int s1, va_rf s0] h Q := by
  unfold f_X9_doubled_c101 at e
  obtain ⟨x1, e_x1, e⟩ := mBind e
  refine mGo.callV (n := 104) (y := zX9_lays) (R' := (mRoom (1) 0 0)) (as := [.int s1, .int s2, .int s3]) (st := []) (r0 := s0) dX9_doubled_101 sc_RX9_150 rfl (s_X9_lays s0 s1 s2 s3 h e_x1) (e_X9_lays s0 s1 s2 s3 h e_x1) (mFit_of rfl (Nat.le_of_ble_eq_true rfl) (by decide) (Nat.le_of_ble_eq_true rfl) (Nat.le_of_ble_eq_true rfl)) (Nat.le_of_ble_eq_true rfl) rfl rfl ?_
  intro _ _ hq
  rw [hq.1, hq.2]
  show mGo w kX9_doubled 0 0 104 [some (va_rf v0), some (.int v1), some (.int v2), some (.int v3), some (.int v4)] [] x1 Q
  refine mGo.iinc (n := 107) (x := v4) (v := (v4 + 1)) (ls' := [some (va_rf v0), some (.int v1), some (.int v2), some (.int v3), some (.int (v4 + 1))]) dX9_doubled_104 rfl rfl rfl (Nat.le_of_ble_eq_true rfl) rfl ?_
  refine mGo.goto (tgt := 53) dX9_doubled_107 (by decide) ?_
  cases e
  refine mGo.mk [true, true, true, true, true] ?_
  exact q
def f_X9_doubled_c93 (v0 : Option Nat) (v1 : Int32) (v2 : Int32) (v3 : Int32) (v4 : Int32) (s0 : Option Nat) (s1 : Int32) (s2 : Int32) (s3 : Int32) (s4 : Int32) (h : mH) : Option ((Int32 × mH) ⊕ ((Int32 × mH) ⊕ (Int32 × mH))) :=
  if s3 = s4 then
    f_X9_doubled_c101 v0 v1 v2 v3 v4 s0 s1 s2 (0 : Int32) h
  else
    f_X9_doubled_c101 v0 v1 v2 v3 v4 s0 s1 s2 (1 : Int32) h
set_option maxRecDepth 100000 in
set_option maxHeartbeats 4000000 in
theorem g_X9_doubled_c93 {w : mWp} {Q : Option Value → mH → Prop} (v0 : Option Nat) (v1 : Int32) (v2 : Int32) (v3 : Int32) (v4 : Int32) (s0 : Option Nat) (s1 : Int32) (s2 : Int32) (s3 : Int32) (s4 : Int32) (h : mH) {res : (Int32 × mH) ⊕ ((Int32 × mH) ⊕ (Int32 × mH))} (e : f_X9_doubled_c93 v0 v1 v2 v3 v4 s0 s1 s2 s3 s4 h = some res) (q : (Sum.elim (fun x : Int32 × mH => mGo w kX9_doubled 0 0 53 [some (va_rf v0), some (.int v1), some (.int v2), some (.int v3), some (.int x.1)] [] x.2 Q) (Sum.elim (fun x : Int32 × mH => mGo w kX9_doubled 0 0 43 [some (va_rf v0), some (.int v1), some (.int v2), some (.int x.1), none] [] x.2 Q) (fun r : Int32 × mH => Q (some (.int r.1)) r.2))) res) : mGo w kX9_doubled 0 0 93 [some (va_rf v0), some (.int v1), some (.int v2), some (.int v3), some (.int v4)] [.int s4, .int s3, .int s2, .int s1, va_rf s0] h Q := by
  unfold f_X9_doubled_c93 at e
  refine mGo.icmp_eq (tgt := 100) (n := 96) dX9_doubled_93 (by decide) rfl (fun hc => ?_) (fun hc => ?_)
  · replace e := mIft hc e
    refine mGo.iconst (n := 101) (v := (0 : Int32)) dX9_doubled_100 (by decide) rfl ?_
    refine mGo.mk [true, true, true, true, true] ?_
    exact g_X9_doubled_c101 v0 v1 v2 v3 v4 s0 s1 s2 (0 : Int32) h e q
  · replace e := mIff hc e
    refine mGo.iconst (n := 97) (v := (1 : Int32)) dX9_doubled_96 (by decide) rfl ?_
    refine mGo.goto (tgt := 101) dX9_doubled_97 (by decide) ?_
    refine mGo.mk [true, true, true, true, true] ?_
    exact g_X9_doubled_c101 v0 v1 v2 v3 v4 s0 s1 s2 (1 : Int32) h e q
def f_X9_doubled_c92 (v0 : Option Nat) (v1 : Int32) (v2 : Int32) (v3 : Int32) (v4 : Int32) (s0 : Option Nat) (s1 : Int32) (s2 : Int32) (s3 : Int32) (h : mH) : Option ((Int32 × mH) ⊕ ((Int32 × mH) ⊕ (Int32 × mH))) :=
  f_X9_doubled_c93 v0 v1 v2 v3 v4 s0 s1 s2 s3 (0 : Int32) h
set_option maxRecDepth 100000 in
set_option maxHeartbeats 4000000 in
theorem g_X9_doubled_c92 {w : mWp} {Q : Option Value → mH → Prop} (v0 : Option Nat) (v1 : Int32) (v2 : Int32) (v3 : Int32) (v4 : Int32) (s0 : Option Nat) (s1 : Int32) (s2 : Int32) (s3 : Int32) (h : mH) {res : (Int32 × mH) ⊕ ((Int32 × mH) ⊕ (Int32 × mH))} (e : f_X9_doubled_c92 v0 v1 v2 v3 v4 s0 s1 s2 s3 h = some res) (q : (Sum.elim (fun x : Int32 × mH => mGo w kX9_doubled 0 0 53 [some (va_rf v0), some (.int v1), some (.int v2), some (.int v3), some (.int x.1)] [] x.2 Q) (Sum.elim (fun x : Int32 × mH => mGo w kX9_doubled 0 0 43 [some (va_rf v0), some (.int v1), some (.int v2), some (.int x.1), none] [] x.2 Q) (fun r : Int32 × mH => Q (some (.int r.1)) r.2))) res) : mGo w kX9_doubled 0 0 92 [some (va_rf v0), some (.int v1), some (.int v2), some (.int v3), some (.int v4)] [.int s3, .int s2, .int s1, va_rf s0] h Q := by
  unfold f_X9_doubled_c92 at e
  refine mGo.iconst (n := 93) (v := (0 : Int32)) dX9_doubled_92 (by decide) rfl ?_
  refine mGo.mk [true, true, true, true, true] ?_
  exact g_X9_doubled_c93 v0 v1 v2 v3 v4 s0 s1 s2 s3 (0 : Int32) h e q
def f_X9_doubled_b53 (v0 : Option Nat) (v1 : Int32) (v2 : Int32) (v3 : Int32) (v4 : Int32) (h : mH) : Option ((Int32 × mH) ⊕ ((Int32 × mH) ⊕ (Int32 × mH))) :=
  if ((2 : Int32) * v2) ≤ v4 then
    some (Sum.inr (Sum.inl ((v3 + 1), h)))
  else
    if v2 = 0 then none else
    if v2 = 0 then none else
    (f_X9_isMinus v0 v1 (mRem v3 v2) (mRem v4 v2) h).bind fun x3 =>
    if v3 < v2 then
      f_X9_doubled_c92 v0 v1 v2 v3 v4 v0 v3 v4 x3 h
    else
      if v4 < v2 then
        f_X9_doubled_c92 v0 v1 v2 v3 v4 v0 v3 v4 x3 h
      else
        f_X9_doubled_c93 v0 v1 v2 v3 v4 v0 v3 v4 x3 (1 : Int32) h
set_option maxRecDepth 100000 in
set_option maxHeartbeats 4000000 in
theorem g_X9_doubled_b53 {w : mWp} {Q : Option Value → mH → Prop} (v0 : Option Nat) (v1 : Int32) (v2 : Int32) (v3 : Int32) (v4 : Int32) (h : mH) {res : (Int32 × mH) ⊕ ((Int32 × mH) ⊕ (Int32 × mH))} (e : f_X9_doubled_b53 v0 v1 v2 v3 v4 h = some res) (q : (Sum.elim (fun x : Int32 × mH => mGo w kX9_doubled 0 0 53 [some (va_rf v0), some (.int v1), some (.int v2), some (.int v3), some (.int x.1)] [] x.2 Q) (Sum.elim (fun x : Int32 × mH => mGo w kX9_doubled 0 0 43 [some (va_rf v0), some (.int v1), some (.int v2), some (.int x.1), none] [] x.2 Q) (fun r : Int32 × mH => Q (some (.int r.1)) r.2))) res) : mGo w kX9_doubled 0 0 53 [some (va_rf v0), some (.int v1), some (.int v2), some (.int v3), some (.int v4)] [] h Q := by
  unfold f_X9_doubled_b53 at e
  refine mGo.iload (n := 55) (x := v4) dX9_doubled_53 rfl rfl ?_
  refine mGo.iconst (n := 56) (v := (2 : Int32)) dX9_doubled_55 (by decide) rfl ?_
  refine mGo.iload_n (n := 57) (x := v2) dX9_doubled_56 rfl rfl ?_
  refine mGo.imul (n := 58) dX9_doubled_57 rfl ?_
  refine mGo.icmp_ge (tgt := 110) (n := 61) dX9_doubled_58 (by decide) rfl (fun hc => ?_) (fun hc => ?_)
  · replace e := mIft hc e
    refine mGo.iinc (n := 113) (x := v3) (v := (v3 + 1)) (ls' := [some (va_rf v0), some (.int v1), some (.int v2), some (.int (v3 + 1)), some (.int v4)]) dX9_doubled_110 rfl rfl rfl (Nat.le_of_ble_eq_true rfl) rfl ?_
    refine mGo.goto (tgt := 43) dX9_doubled_113 (by decide) ?_
    cases e
    refine mGo.mk [true, true, true, true, false] ?_
    exact q
  · replace e := mIff hc e
    refine mGo.aload_n (n := 62) (r := v0) dX9_doubled_61 rfl rfl ?_
    refine mGo.iload_n (n := 63) (x := v3) dX9_doubled_62 rfl rfl ?_
    refine mGo.iload (n := 65) (x := v4) dX9_doubled_63 rfl rfl ?_
    refine mGo.aload_n (n := 66) (r := v0) dX9_doubled_65 rfl rfl ?_
    refine mGo.iload_n (n := 67) (x := v1) dX9_doubled_66 rfl rfl ?_
    refine mGo.iload_n (n := 68) (x := v3) dX9_doubled_67 rfl rfl ?_
    refine mGo.iload_n (n := 69) (x := v2) dX9_doubled_68 rfl rfl ?_
    obtain ⟨z1, e⟩ := mIfN e
    refine mGo.irem (n := 70) dX9_doubled_69 z1 rfl ?_
    refine mGo.iload (n := 72) (x := v4) dX9_doubled_70 rfl rfl ?_
    refine mGo.iload_n (n := 73) (x := v2) dX9_doubled_72 rfl rfl ?_
    obtain ⟨z2, e⟩ := mIfN e
    refine mGo.irem (n := 74) dX9_doubled_73 z2 rfl ?_
    obtain ⟨x3, e_x3, e⟩ := mBind e
    refine mGo.callV (n := 77) (y := zX9_isMinus) (R' := (mRoom (2) 0 0)) (as := [.int v1, .int (mRem v3 v2), .int (mRem v4 v2)]) (st := [.int v4, .int v3, va_rf v0]) (r0 := v0) dX9_doubled_74 sc_RX9_98 rfl (s_X9_isMinus v0 v1 (mRem v3 v2) (mRem v4 v2) h e_x3) (e_X9_isMinus v0 v1 (mRem v3 v2) (mRem v4 v2) h e_x3) (mFit_of rfl (Nat.le_of_ble_eq_true rfl) (by decide) (Nat.le_of_ble_eq_true rfl) (Nat.le_of_ble_eq_true rfl)) (mCat8 (Nat.le_of_ble_eq_true rfl)) rfl rfl ?_
    intro _ _ hq
    rw [hq.1, hq.2]
    show mGo w kX9_doubled 0 0 77 [some (va_rf v0), some (.int v1), some (.int v2), some (.int v3), some (.int v4)] [.int x3, .int v4, .int v3, va_rf v0] h Q
    refine mGo.iload_n (n := 78) (x := v3) dX9_doubled_77 rfl rfl ?_
    refine mGo.iload_n (n := 79) (x := v2) dX9_doubled_78 rfl rfl ?_
    refine mGo.icmp_lt (tgt := 92) (n := 82) dX9_doubled_79 (by decide) rfl (fun hc => ?_) (fun hc => ?_)
    · replace e := mIft hc e
      refine mGo.mk [true, true, true, true, true] ?_
      exact g_X9_doubled_c92 v0 v1 v2 v3 v4 v0 v3 v4 x3 h e q
    · replace e := mIff hc e
      refine mGo.iload (n := 84) (x := v4) dX9_doubled_82 rfl rfl ?_
      refine mGo.iload_n (n := 85) (x := v2) dX9_doubled_84 rfl rfl ?_
      refine mGo.icmp_lt (tgt := 92) (n := 88) dX9_doubled_85 (by decide) rfl (fun hc => ?_) (fun hc => ?_)
      · replace e := mIft hc e
        refine mGo.mk [true, true, true, true, true] ?_
        exact g_X9_doubled_c92 v0 v1 v2 v3 v4 v0 v3 v4 x3 h e q
      · replace e := mIff hc e
        refine mGo.iconst (n := 89) (v := (1 : Int32)) dX9_doubled_88 (by decide) rfl ?_
        refine mGo.goto (tgt := 93) dX9_doubled_89 (by decide) ?_
        refine mGo.mk [true, true, true, true, true] ?_
        exact g_X9_doubled_c93 v0 v1 v2 v3 v4 v0 v3 v4 x3 (1 : Int32) h e q
noncomputable def f_X9_doubled_l53 (v0 : Option Nat) (v1 : Int32) (v2 : Int32) (v3 : Int32) (v4 : Int32) (h : mH) : Option ((Int32 × mH) ⊕ (Int32 × mH)) :=
  mLoop (fun x : Int32 × mH => f_X9_doubled_b53 v0 v1 v2 v3 x.1 x.2) (v4, h)
set_option maxRecDepth 100000 in
set_option maxHeartbeats 4000000 in
theorem g_X9_doubled_l53 {w : mWp} {Q : Option Value → mH → Prop} (v0 : Option Nat) (v1 : Int32) (v2 : Int32) (v3 : Int32) (v4 : Int32) (h : mH) {res : (Int32 × mH) ⊕ (Int32 × mH)} (e : f_X9_doubled_l53 v0 v1 v2 v3 v4 h = some res) (q : (Sum.elim (fun x : Int32 × mH => mGo w kX9_doubled 0 0 43 [some (va_rf v0), some (.int v1), some (.int v2), some (.int x.1), none] [] x.2 Q) (fun r : Int32 × mH => Q (some (.int r.1)) r.2)) res) : mGo w kX9_doubled 0 0 53 [some (va_rf v0), some (.int v1), some (.int v2), some (.int v3), some (.int v4)] [] h Q := by
  unfold f_X9_doubled_l53 at e
  refine mLoop_go (x := (v4, h)) (fun x : Int32 × mH => mGo w kX9_doubled 0 0 53 [some (va_rf v0), some (.int v1), some (.int v2), some (.int v3), some (.int x.1)] [] x.2 Q) (Sum.elim (fun x : Int32 × mH => mGo w kX9_doubled 0 0 43 [some (va_rf v0), some (.int v1), some (.int v2), some (.int x.1), none] [] x.2 Q) (fun r : Int32 × mH => Q (some (.int r.1)) r.2)) ?_ e q
  rintro ⟨v4, h1⟩ res e q
  exact g_X9_doubled_b53 v0 v1 v2 v3 v4 h1 e q
noncomputable def f_X9_doubled_b43 (v0 : Option Nat) (v1 : Int32) (v2 : Int32) (v3 : Int32) (h : mH) : Option ((Int32 × mH) ⊕ (Int32 × mH)) :=
  if ((2 : Int32) * v2) ≤ v3 then
    (f_X9_comes v0 ((2 : Int32) * v2) h).bind fun x1 =>
    some (Sum.inr (x1.1, x1.2))
  else
    f_X9_doubled_l53 v0 v1 v2 v3 (0 : Int32) h
set_option maxRecDepth 100000 in
set_option maxHeartbeats 4000000 in
theorem g_X9_doubled_b43 {w : mWp} {Q : Option Value → mH → Prop} (v0 : Option Nat) (v1 : Int32) (v2 : Int32) (v3 : Int32) (h : mH) {res : (Int32 × mH) ⊕ (Int32 × mH)} (e : f_X9_doubled_b43 v0 v1 v2 v3 h = some res) (q : (Sum.elim (fun x : Int32 × mH => mGo w kX9_doubled 0 0 43 [some (va_rf v0), some (.int v1), some (.int v2), some (.int x.1), none] [] x.2 Q) (fun r : Int32 × mH => Q (some (.int r.1)) r.2)) res) : mGo w kX9_doubled 0 0 43 [some (va_rf v0), some (.int v1), some (.int v2), some (.int v3), none] [] h Q := by
  unfold f_X9_doubled_b43 at e
  refine mGo.iload_n (n := 44) (x := v3) dX9_doubled_43 rfl rfl ?_
  refine mGo.iconst (n := 45) (v := (2 : Int32)) dX9_doubled_44 (by decide) rfl ?_
  refine mGo.iload_n (n := 46) (x := v2) dX9_doubled_45 rfl rfl ?_
  refine mGo.imul (n := 47) dX9_doubled_46 rfl ?_
  refine mGo.icmp_ge (tgt := 116) (n := 50) dX9_doubled_47 (by decide) rfl (fun hc => ?_) (fun hc => ?_)
  · replace e := mIft hc e
    refine mGo.aload_n (n := 117) (r := v0) dX9_doubled_116 rfl rfl ?_
    refine mGo.iconst (n := 118) (v := (2 : Int32)) dX9_doubled_117 (by decide) rfl ?_
    refine mGo.iload_n (n := 119) (x := v2) dX9_doubled_118 rfl rfl ?_
    refine mGo.imul (n := 120) dX9_doubled_119 rfl ?_
    obtain ⟨x1, e_x1, e⟩ := mBind e
    refine mGo.callV (n := 123) (y := zX9_comes) (R' := (mRoom (2) 0 0)) (as := [.int ((2 : Int32) * v2)]) (st := []) (r0 := v0) dX9_doubled_120 sc_RX9_126 rfl (s_X9_comes v0 ((2 : Int32) * v2) h e_x1) (e_X9_comes v0 ((2 : Int32) * v2) h e_x1) (mFit_of rfl (Nat.le_of_ble_eq_true rfl) (by decide) (Nat.le_of_ble_eq_true rfl) (Nat.le_of_ble_eq_true rfl)) (Nat.le_of_ble_eq_true rfl) rfl rfl ?_
    intro _ _ hq
    rw [hq.1, hq.2]
    show mGo w kX9_doubled 0 0 123 [some (va_rf v0), some (.int v1), some (.int v2), some (.int v3), none] [.int x1.1] x1.2 Q
    cases e
    exact mGo.iret dX9_doubled_123 rfl (Nat.le_of_ble_eq_true rfl) (Nat.le_of_ble_eq_true rfl) q
  · replace e := mIff hc e
    refine mGo.iconst (n := 51) (v := (0 : Int32)) dX9_doubled_50 (by decide) rfl ?_
    refine mGo.istore (n := 53) (ls' := [some (va_rf v0), some (.int v1), some (.int v2), some (.int v3), some (.int (0 : Int32))]) dX9_doubled_51 rfl (Nat.le_of_ble_eq_true rfl) rfl ?_
    refine mGo.mk [true, true, true, true, true] ?_
    exact g_X9_doubled_l53 v0 v1 v2 v3 (0 : Int32) h e q
noncomputable def f_X9_doubled_l43 (v0 : Option Nat) (v1 : Int32) (v2 : Int32) (v3 : Int32) (h : mH) : Option (Int32 × mH) :=
  mLoop (fun x : Int32 × mH => f_X9_doubled_b43 v0 v1 v2 x.1 x.2) (v3, h)
set_option maxRecDepth 100000 in
set_option maxHeartbeats 4000000 in
theorem g_X9_doubled_l43 {w : mWp} {Q : Option Value → mH → Prop} (v0 : Option Nat) (v1 : Int32) (v2 : Int32) (v3 : Int32) (h : mH) {res : Int32 × mH} (e : f_X9_doubled_l43 v0 v1 v2 v3 h = some res) (q : (fun r : Int32 × mH => Q (some (.int r.1)) r.2) res) : mGo w kX9_doubled 0 0 43 [some (va_rf v0), some (.int v1), some (.int v2), some (.int v3), none] [] h Q := by
  unfold f_X9_doubled_l43 at e
  refine mLoop_go (x := (v3, h)) (fun x : Int32 × mH => mGo w kX9_doubled 0 0 43 [some (va_rf v0), some (.int v1), some (.int v2), some (.int x.1), none] [] x.2 Q) (fun r : Int32 × mH => Q (some (.int r.1)) r.2) ?_ e q
  rintro ⟨v3, h1⟩ res e q
  exact g_X9_doubled_b43 v0 v1 v2 v3 h1 e q
noncomputable def f_X9_doubled (v0 : Option Nat) (v1 : Int32) (h : mH) : Option (Int32 × mH) :=
  (mIs h v0 8).bind fun _ =>
  (f_X9_isTable v0 v1 h).bind fun x1 =>
  if x1 = 0 then
    some ((-1 : Int32), h)
  else
    (mGR h v0 8 1).bind fun x2 =>
    (mAI h x2 v1).bind fun x3 =>
    if (28 : Int32) < ((2 : Int32) * x3) then
      some ((-1 : Int32), h)
    else
      (f_X9_isFull v0 h).bind fun x4 =>
      if x4 = 0 then
        (mGR h v0 8 1).bind fun x5 =>
        (mAI h x5 v1).bind fun x6 =>
        (f_X9_clearsMade v0 h).bind fun x7 =>
        f_X9_doubled_l43 v0 v1 x6 (0 : Int32) x7
      else
        some ((-1 : Int32), h)
set_option maxRecDepth 100000 in
set_option maxHeartbeats 4000000 in
theorem g_X9_doubled {w : mWp} {Q : Option Value → mH → Prop} (v0 : Option Nat) (v1 : Int32) (h : mH) {res : Int32 × mH} (e : f_X9_doubled v0 v1 h = some res) (q : (fun r : Int32 × mH => Q (some (.int r.1)) r.2) res) : mGo w kX9_doubled 0 0 0 [some (va_rf v0), some (.int v1), none, none, none] [] h Q := by
  unfold f_X9_doubled at e
  obtain ⟨_, _, e⟩ := mBind e
  refine mGo.aload_n (n := 1) (r := v0) dX9_doubled_0 rfl rfl ?_
  refine mGo.iload_n (n := 2) (x := v1) dX9_doubled_1 rfl rfl ?_
  obtain ⟨x1, e_x1, e⟩ := mBind e
  refine mGo.callV (n := 5) (y := zX9_isTable) (R' := (mRoom (2) 0 0)) (as := [.int v1]) (st := []) (r0 := v0) dX9_doubled_2 sc_RX9_86 rfl (s_X9_isTable v0 v1 h e_x1) (e_X9_isTable v0 v1 h e_x1) (mFit_of rfl (Nat.le_of_ble_eq_true rfl) (by decide) (Nat.le_of_ble_eq_true rfl) (Nat.le_of_ble_eq_true rfl)) (Nat.le_of_ble_eq_true rfl) rfl rfl ?_
  intro _ _ hq
  rw [hq.1, hq.2]
  show mGo w kX9_doubled 0 0 5 [some (va_rf v0), some (.int v1), none, none, none] [.int x1] h Q
  refine mGo.if_eq (tgt := 28) (n := 8) dX9_doubled_5 (by decide) rfl (fun hc => ?_) (fun hc => ?_)
  · replace e := mIft hc e
    refine mGo.iconst (n := 29) (v := (-1 : Int32)) dX9_doubled_28 (by decide) rfl ?_
    cases e
    exact mGo.iret dX9_doubled_29 rfl (Nat.le_of_ble_eq_true rfl) (Nat.le_of_ble_eq_true rfl) q
  · replace e := mIff hc e
    refine mGo.iconst (n := 9) (v := (2 : Int32)) dX9_doubled_8 (by decide) rfl ?_
    refine mGo.aload_n (n := 10) (r := v0) dX9_doubled_9 rfl rfl ?_
    obtain ⟨x2, e_x2, e⟩ := mBind e
    refine mGo.getR (n := 13) dX9_doubled_10 sf_RX9_13 e_x2 rfl ?_
    refine mGo.iload_n (n := 14) (x := v1) dX9_doubled_13 rfl rfl ?_
    obtain ⟨x3, e_x3, e⟩ := mBind e
    refine mGo.iald (n := 15) dX9_doubled_14 e_x3 rfl ?_
    refine mGo.imul (n := 16) dX9_doubled_15 rfl ?_
    refine mGo.bipush (n := 18) (v := (28 : Int32)) dX9_doubled_16 (by decide) rfl ?_
    refine mGo.icmp_gt (tgt := 28) (n := 21) dX9_doubled_18 (by decide) rfl (fun hc => ?_) (fun hc => ?_)
    · replace e := mIft hc e
      refine mGo.iconst (n := 29) (v := (-1 : Int32)) dX9_doubled_28 (by decide) rfl ?_
      cases e
      exact mGo.iret dX9_doubled_29 rfl (Nat.le_of_ble_eq_true rfl) (Nat.le_of_ble_eq_true rfl) q
    · replace e := mIff hc e
      refine mGo.aload_n (n := 22) (r := v0) dX9_doubled_21 rfl rfl ?_
      obtain ⟨x4, e_x4, e⟩ := mBind e
      refine mGo.callV (n := 25) (y := zX9_isFull) (R' := (mRoom (2) 0 0)) (as := []) (st := []) (r0 := v0) dX9_doubled_22 sc_RX9_116 rfl (s_X9_isFull v0 h e_x4) (e_X9_isFull v0 h e_x4) (mFit_of rfl (Nat.le_of_ble_eq_true rfl) (by decide) (Nat.le_of_ble_eq_true rfl) (Nat.le_of_ble_eq_true rfl)) (Nat.le_of_ble_eq_true rfl) rfl rfl ?_
      intro _ _ hq
      rw [hq.1, hq.2]
      show mGo w kX9_doubled 0 0 25 [some (va_rf v0), some (.int v1), none, none, none] [.int x4] h Q
      refine mGo.if_eq (tgt := 30) (n := 28) dX9_doubled_25 (by decide) rfl (fun hc => ?_) (fun hc => ?_)
      · replace e := mIft hc e
        refine mGo.aload_n (n := 31) (r := v0) dX9_doubled_30 rfl rfl ?_
        obtain ⟨x5, e_x5, e⟩ := mBind e
        refine mGo.getR (n := 34) dX9_doubled_31 sf_RX9_13 e_x5 rfl ?_
        refine mGo.iload_n (n := 35) (x := v1) dX9_doubled_34 rfl rfl ?_
        obtain ⟨x6, e_x6, e⟩ := mBind e
        refine mGo.iald (n := 36) dX9_doubled_35 e_x6 rfl ?_
        refine mGo.istore_n (n := 37) (ls' := [some (va_rf v0), some (.int v1), some (.int x6), none, none]) dX9_doubled_36 rfl (Nat.le_of_ble_eq_true rfl) rfl ?_
        refine mGo.aload_n (n := 38) (r := v0) dX9_doubled_37 rfl rfl ?_
        obtain ⟨x7, e_x7, e⟩ := mBind e
        refine mGo.callV (n := 41) (y := zX9_clearsMade) (R' := (mRoom (1) 0 0)) (as := []) (st := []) (r0 := v0) dX9_doubled_38 sc_RX9_123 rfl (s_X9_clearsMade v0 h e_x7) (e_X9_clearsMade v0 h e_x7) (mFit_of rfl (Nat.le_of_ble_eq_true rfl) (by decide) (Nat.le_of_ble_eq_true rfl) (Nat.le_of_ble_eq_true rfl)) (Nat.le_of_ble_eq_true rfl) rfl rfl ?_
        intro _ _ hq
        rw [hq.1, hq.2]
        show mGo w kX9_doubled 0 0 41 [some (va_rf v0), some (.int v1), some (.int x6), none, none] [] x7 Q
        refine mGo.iconst (n := 42) (v := (0 : Int32)) dX9_doubled_41 (by decide) rfl ?_
        refine mGo.istore_n (n := 43) (ls' := [some (va_rf v0), some (.int v1), some (.int x6), some (.int (0 : Int32)), none]) dX9_doubled_42 rfl (Nat.le_of_ble_eq_true rfl) rfl ?_
        refine mGo.mk [true, true, true, true, false] ?_
        exact g_X9_doubled_l43 v0 v1 x6 (0 : Int32) x7 e q
      · replace e := mIff hc e
        refine mGo.iconst (n := 29) (v := (-1 : Int32)) dX9_doubled_28 (by decide) rfl ?_
        cases e
        exact mGo.iret dX9_doubled_29 rfl (Nat.le_of_ble_eq_true rfl) (Nat.le_of_ble_eq_true rfl) q
theorem e_X9_doubled {w : mWp} (v0 : Option Nat) (v1 : Int32) (h : mH) {res : Int32 × mH} (e : f_X9_doubled v0 v1 h = some res) : mEx w zX9_doubled (mRoom 3 0 0) [va_rf v0, .int v1] h (fun r h2 => r = some (.int res.1) ∧ h2 = res.2) := by
  refine mEx.of (by decide +kernel) (show mEnt [va_rf v0, .int v1] 5 = [some (va_rf v0), some (.int v1), none, none, none] by rw [mEnt_r, mEnt_i] <;> rfl) (by simp only [List.map_cons, List.map_nil, mRfc, mCi, mCj, List.sum_cons, List.sum_nil]; exact Nat.le_of_ble_eq_true rfl) ?_
  refine g_X9_doubled v0 v1 h e ?_
  exact ⟨rfl, rfl⟩
theorem s_X9_doubled (v0 : Option Nat) (v1 : Int32) (h : mH) {res : Int32 × mH} (e : f_X9_doubled v0 v1 h = some res) : mIs h v0 8 = some () := by
  unfold f_X9_doubled at e
  obtain ⟨u, e1, _⟩ := mBind e
  cases u
  exact e1
-- X9_product
def kX9_product : mK := (cX9_product, RX9, 7, some (.int), "product", mRoom 3 0 0)
def zX9_product : mY := (yX9_product, cX9_product, 7, some (.int))
def f_X9_product_c123 (v0 : Option Nat) (v1 : Int32) (v2 : Int32) (v3 : Int32) (v4 : Int32) (v5 : Int32) (v6 : Int32) (s0 : Option Nat) (s1 : Int32) (s2 : Int32) (s3 : Int32) (h : mH) : Option ((Int32 × mH) ⊕ ((Int32 × mH) ⊕ (Int32 × mH))) :=
  (f_X9_lays s0 s1 s2 s3 h).bind fun x1 =>
  some (Sum.inl ((v6 + 1), x1))
set_option maxRecDepth 100000 in
set_option maxHeartbeats 4000000 in
theorem g_X9_product_c123 {w : mWp} {Q : Option Value → mH → Prop} (v0 : Option Nat) (v1 : Int32) (v2 : Int32) (v3 : Int32) (v4 : Int32) (v5 : Int32) (v6 : Int32) (s0 : Option Nat) (s1 : Int32) (s2 : Int32) (s3 : Int32) (h : mH) {res : (Int32 × mH) ⊕ ((Int32 × mH) ⊕ (Int32 × mH))} (e : f_X9_product_c123 v0 v1 v2 v3 v4 v5 v6 s0 s1 s2 s3 h = some res) (q : (Sum.elim (fun x : Int32 × mH => mGo w kX9_product 0 0 77 [some (va_rf v0), some (.int v1), some (.int v2), some (.int v3), some (.int v4), some (.int v5), some (.int x.1)] [] x.2 Q) (Sum.elim (fun x : Int32 × mH => mGo w kX9_product 0 0 67 [some (va_rf v0), some (.int v1), some (.int v2), some (.int v3), some (.int v4), some (.int x.1), none] [] x.2 Q) (fun r : Int32 × mH => Q (some (.int r.1)) r.2))) res) : mGo w kX9_product 0 0 123 [some (va_rf v0), some (.int v1), some (.int v2), some (.int v3), some (.int v4), some (.int v5), some (.int v6)] [.int s3, .int s2, .int s1, va_rf s0] h Q := by
  unfold f_X9_product_c123 at e
  obtain ⟨x1, e_x1, e⟩ := mBind e
  refine mGo.callV (n := 126) (y := zX9_lays) (R' := (mRoom (1) 0 0)) (as := [.int s1, .int s2, .int s3]) (st := []) (r0 := s0) dX9_product_123 sc_RX9_150 rfl (s_X9_lays s0 s1 s2 s3 h e_x1) (e_X9_lays s0 s1 s2 s3 h e_x1) (mFit_of rfl (Nat.le_of_ble_eq_true rfl) (by decide) (Nat.le_of_ble_eq_true rfl) (Nat.le_of_ble_eq_true rfl)) (Nat.le_of_ble_eq_true rfl) rfl rfl ?_
  intro _ _ hq
  rw [hq.1, hq.2]
  show mGo w kX9_product 0 0 126 [some (va_rf v0), some (.int v1), some (.int v2), some (.int v3), some (.int v4), some (.int v5), some (.int v6)] [] x1 Q
  refine mGo.iinc (n := 129) (x := v6) (v := (v6 + 1)) (ls' := [some (va_rf v0), some (.int v1), some (.int v2), some (.int v3), some (.int v4), some (.int v5), some (.int (v6 + 1))]) dX9_product_126 rfl rfl rfl (Nat.le_of_ble_eq_true rfl) rfl ?_
  refine mGo.goto (tgt := 77) dX9_product_129 (by decide) ?_
  cases e
  refine mGo.mk [true, true, true, true, true, true, true] ?_
  exact q
def f_X9_product_b77 (v0 : Option Nat) (v1 : Int32) (v2 : Int32) (v3 : Int32) (v4 : Int32) (v5 : Int32) (v6 : Int32) (h : mH) : Option ((Int32 × mH) ⊕ ((Int32 × mH) ⊕ (Int32 × mH))) :=
  if v4 ≤ v6 then
    some (Sum.inr (Sum.inl ((v5 + 1), h)))
  else
    if v3 = 0 then none else
    if v3 = 0 then none else
    (f_X9_isMinus v0 v1 (v5 / v3) (v6 / v3) h).bind fun x3 =>
    if v3 = 0 then none else
    if v3 = 0 then none else
    (f_X9_isMinus v0 v2 (mRem v5 v3) (mRem v6 v3) h).bind fun x6 =>
    if x3 = x6 then
      f_X9_product_c123 v0 v1 v2 v3 v4 v5 v6 v0 v5 v6 (0 : Int32) h
    else
      f_X9_product_c123 v0 v1 v2 v3 v4 v5 v6 v0 v5 v6 (1 : Int32) h
set_option maxRecDepth 100000 in
set_option maxHeartbeats 4000000 in
theorem g_X9_product_b77 {w : mWp} {Q : Option Value → mH → Prop} (v0 : Option Nat) (v1 : Int32) (v2 : Int32) (v3 : Int32) (v4 : Int32) (v5 : Int32) (v6 : Int32) (h : mH) {res : (Int32 × mH) ⊕ ((Int32 × mH) ⊕ (Int32 × mH))} (e : f_X9_product_b77 v0 v1 v2 v3 v4 v5 v6 h = some res) (q : (Sum.elim (fun x : Int32 × mH => mGo w kX9_product 0 0 77 [some (va_rf v0), some (.int v1), some (.int v2), some (.int v3), some (.int v4), some (.int v5), some (.int x.1)] [] x.2 Q) (Sum.elim (fun x : Int32 × mH => mGo w kX9_product 0 0 67 [some (va_rf v0), some (.int v1), some (.int v2), some (.int v3), some (.int v4), some (.int x.1), none] [] x.2 Q) (fun r : Int32 × mH => Q (some (.int r.1)) r.2))) res) : mGo w kX9_product 0 0 77 [some (va_rf v0), some (.int v1), some (.int v2), some (.int v3), some (.int v4), some (.int v5), some (.int v6)] [] h Q := by
  unfold f_X9_product_b77 at e
  refine mGo.iload (n := 79) (x := v6) dX9_product_77 rfl rfl ?_
  refine mGo.iload (n := 81) (x := v4) dX9_product_79 rfl rfl ?_
  refine mGo.icmp_ge (tgt := 132) (n := 84) dX9_product_81 (by decide) rfl (fun hc => ?_) (fun hc => ?_)
  · replace e := mIft hc e
    refine mGo.iinc (n := 135) (x := v5) (v := (v5 + 1)) (ls' := [some (va_rf v0), some (.int v1), some (.int v2), some (.int v3), some (.int v4), some (.int (v5 + 1)), some (.int v6)]) dX9_product_132 rfl rfl rfl (Nat.le_of_ble_eq_true rfl) rfl ?_
    refine mGo.goto (tgt := 67) dX9_product_135 (by decide) ?_
    cases e
    refine mGo.mk [true, true, true, true, true, true, false] ?_
    exact q
  · replace e := mIff hc e
    refine mGo.aload_n (n := 85) (r := v0) dX9_product_84 rfl rfl ?_
    refine mGo.iload (n := 87) (x := v5) dX9_product_85 rfl rfl ?_
    refine mGo.iload (n := 89) (x := v6) dX9_product_87 rfl rfl ?_
    refine mGo.aload_n (n := 90) (r := v0) dX9_product_89 rfl rfl ?_
    refine mGo.iload_n (n := 91) (x := v1) dX9_product_90 rfl rfl ?_
    refine mGo.iload (n := 93) (x := v5) dX9_product_91 rfl rfl ?_
    refine mGo.iload_n (n := 94) (x := v3) dX9_product_93 rfl rfl ?_
    obtain ⟨z1, e⟩ := mIfN e
    refine mGo.idiv (n := 95) dX9_product_94 z1 rfl ?_
    refine mGo.iload (n := 97) (x := v6) dX9_product_95 rfl rfl ?_
    refine mGo.iload_n (n := 98) (x := v3) dX9_product_97 rfl rfl ?_
    obtain ⟨z2, e⟩ := mIfN e
    refine mGo.idiv (n := 99) dX9_product_98 z2 rfl ?_
    obtain ⟨x3, e_x3, e⟩ := mBind e
    refine mGo.callV (n := 102) (y := zX9_isMinus) (R' := (mRoom (2) 0 0)) (as := [.int v1, .int (v5 / v3), .int (v6 / v3)]) (st := [.int v6, .int v5, va_rf v0]) (r0 := v0) dX9_product_99 sc_RX9_98 rfl (s_X9_isMinus v0 v1 (v5 / v3) (v6 / v3) h e_x3) (e_X9_isMinus v0 v1 (v5 / v3) (v6 / v3) h e_x3) (mFit_of rfl (Nat.le_of_ble_eq_true rfl) (by decide) (Nat.le_of_ble_eq_true rfl) (Nat.le_of_ble_eq_true rfl)) (mCat8 (Nat.le_of_ble_eq_true rfl)) rfl rfl ?_
    intro _ _ hq
    rw [hq.1, hq.2]
    show mGo w kX9_product 0 0 102 [some (va_rf v0), some (.int v1), some (.int v2), some (.int v3), some (.int v4), some (.int v5), some (.int v6)] [.int x3, .int v6, .int v5, va_rf v0] h Q
    refine mGo.aload_n (n := 103) (r := v0) dX9_product_102 rfl rfl ?_
    refine mGo.iload_n (n := 104) (x := v2) dX9_product_103 rfl rfl ?_
    refine mGo.iload (n := 106) (x := v5) dX9_product_104 rfl rfl ?_
    refine mGo.iload_n (n := 107) (x := v3) dX9_product_106 rfl rfl ?_
    obtain ⟨z4, e⟩ := mIfN e
    refine mGo.irem (n := 108) dX9_product_107 z4 rfl ?_
    refine mGo.iload (n := 110) (x := v6) dX9_product_108 rfl rfl ?_
    refine mGo.iload_n (n := 111) (x := v3) dX9_product_110 rfl rfl ?_
    obtain ⟨z5, e⟩ := mIfN e
    refine mGo.irem (n := 112) dX9_product_111 z5 rfl ?_
    obtain ⟨x6, e_x6, e⟩ := mBind e
    refine mGo.callV (n := 115) (y := zX9_isMinus) (R' := (mRoom (2) 0 0)) (as := [.int v2, .int (mRem v5 v3), .int (mRem v6 v3)]) (st := [.int x3, .int v6, .int v5, va_rf v0]) (r0 := v0) dX9_product_112 sc_RX9_98 rfl (s_X9_isMinus v0 v2 (mRem v5 v3) (mRem v6 v3) h e_x6) (e_X9_isMinus v0 v2 (mRem v5 v3) (mRem v6 v3) h e_x6) (mFit_of rfl (Nat.le_of_ble_eq_true rfl) (by decide) (Nat.le_of_ble_eq_true rfl) (Nat.le_of_ble_eq_true rfl)) (mCat8 (Nat.le_of_ble_eq_true rfl)) rfl rfl ?_
    intro _ _ hq
    rw [hq.1, hq.2]
    show mGo w kX9_product 0 0 115 [some (va_rf v0), some (.int v1), some (.int v2), some (.int v3), some (.int v4), some (.int v5), some (.int v6)] [.int x6, .int x3, .int v6, .int v5, va_rf v0] h Q
    refine mGo.icmp_eq (tgt := 122) (n := 118) dX9_product_115 (by decide) rfl (fun hc => ?_) (fun hc => ?_)
    · replace e := mIft hc e
      refine mGo.iconst (n := 123) (v := (0 : Int32)) dX9_product_122 (by decide) rfl ?_
      refine mGo.mk [true, true, true, true, true, true, true] ?_
      exact g_X9_product_c123 v0 v1 v2 v3 v4 v5 v6 v0 v5 v6 (0 : Int32) h e q
    · replace e := mIff hc e
      refine mGo.iconst (n := 119) (v := (1 : Int32)) dX9_product_118 (by decide) rfl ?_
      refine mGo.goto (tgt := 123) dX9_product_119 (by decide) ?_
      refine mGo.mk [true, true, true, true, true, true, true] ?_
      exact g_X9_product_c123 v0 v1 v2 v3 v4 v5 v6 v0 v5 v6 (1 : Int32) h e q
noncomputable def f_X9_product_l77 (v0 : Option Nat) (v1 : Int32) (v2 : Int32) (v3 : Int32) (v4 : Int32) (v5 : Int32) (v6 : Int32) (h : mH) : Option ((Int32 × mH) ⊕ (Int32 × mH)) :=
  mLoop (fun x : Int32 × mH => f_X9_product_b77 v0 v1 v2 v3 v4 v5 x.1 x.2) (v6, h)
set_option maxRecDepth 100000 in
set_option maxHeartbeats 4000000 in
theorem g_X9_product_l77 {w : mWp} {Q : Option Value → mH → Prop} (v0 : Option Nat) (v1 : Int32) (v2 : Int32) (v3 : Int32) (v4 : Int32) (v5 : Int32) (v6 : Int32) (h : mH) {res : (Int32 × mH) ⊕ (Int32 × mH)} (e : f_X9_product_l77 v0 v1 v2 v3 v4 v5 v6 h = some res) (q : (Sum.elim (fun x : Int32 × mH => mGo w kX9_product 0 0 67 [some (va_rf v0), some (.int v1), some (.int v2), some (.int v3), some (.int v4), some (.int x.1), none] [] x.2 Q) (fun r : Int32 × mH => Q (some (.int r.1)) r.2)) res) : mGo w kX9_product 0 0 77 [some (va_rf v0), some (.int v1), some (.int v2), some (.int v3), some (.int v4), some (.int v5), some (.int v6)] [] h Q := by
  unfold f_X9_product_l77 at e
  refine mLoop_go (x := (v6, h)) (fun x : Int32 × mH => mGo w kX9_product 0 0 77 [some (va_rf v0), some (.int v1), some (.int v2), some (.int v3), some (.int v4), some (.int v5), some (.int x.1)] [] x.2 Q) (Sum.elim (fun x : Int32 × mH => mGo w kX9_product 0 0 67 [some (va_rf v0), some (.int v1), some (.int v2), some (.int v3), some (.int v4), some (.int x.1), none] [] x.2 Q) (fun r : Int32 × mH => Q (some (.int r.1)) r.2)) ?_ e q
  rintro ⟨v6, h1⟩ res e q
  exact g_X9_product_b77 v0 v1 v2 v3 v4 v5 v6 h1 e q
noncomputable def f_X9_product_b67 (v0 : Option Nat) (v1 : Int32) (v2 : Int32) (v3 : Int32) (v4 : Int32) (v5 : Int32) (h : mH) : Option ((Int32 × mH) ⊕ (Int32 × mH)) :=
  if v4 ≤ v5 then
    (f_X9_comes v0 v4 h).bind fun x1 =>
    some (Sum.inr (x1.1, x1.2))
  else
    f_X9_product_l77 v0 v1 v2 v3 v4 v5 (0 : Int32) h
set_option maxRecDepth 100000 in
set_option maxHeartbeats 4000000 in
theorem g_X9_product_b67 {w : mWp} {Q : Option Value → mH → Prop} (v0 : Option Nat) (v1 : Int32) (v2 : Int32) (v3 : Int32) (v4 : Int32) (v5 : Int32) (h : mH) {res : (Int32 × mH) ⊕ (Int32 × mH)} (e : f_X9_product_b67 v0 v1 v2 v3 v4 v5 h = some res) (q : (Sum.elim (fun x : Int32 × mH => mGo w kX9_product 0 0 67 [some (va_rf v0), some (.int v1), some (.int v2), some (.int v3), some (.int v4), some (.int x.1), none] [] x.2 Q) (fun r : Int32 × mH => Q (some (.int r.1)) r.2)) res) : mGo w kX9_product 0 0 67 [some (va_rf v0), some (.int v1), some (.int v2), some (.int v3), some (.int v4), some (.int v5), none] [] h Q := by
  unfold f_X9_product_b67 at e
  refine mGo.iload (n := 69) (x := v5) dX9_product_67 rfl rfl ?_
  refine mGo.iload (n := 71) (x := v4) dX9_product_69 rfl rfl ?_
  refine mGo.icmp_ge (tgt := 138) (n := 74) dX9_product_71 (by decide) rfl (fun hc => ?_) (fun hc => ?_)
  · replace e := mIft hc e
    refine mGo.aload_n (n := 139) (r := v0) dX9_product_138 rfl rfl ?_
    refine mGo.iload (n := 141) (x := v4) dX9_product_139 rfl rfl ?_
    obtain ⟨x1, e_x1, e⟩ := mBind e
    refine mGo.callV (n := 144) (y := zX9_comes) (R' := (mRoom (2) 0 0)) (as := [.int v4]) (st := []) (r0 := v0) dX9_product_141 sc_RX9_126 rfl (s_X9_comes v0 v4 h e_x1) (e_X9_comes v0 v4 h e_x1) (mFit_of rfl (Nat.le_of_ble_eq_true rfl) (by decide) (Nat.le_of_ble_eq_true rfl) (Nat.le_of_ble_eq_true rfl)) (Nat.le_of_ble_eq_true rfl) rfl rfl ?_
    intro _ _ hq
    rw [hq.1, hq.2]
    show mGo w kX9_product 0 0 144 [some (va_rf v0), some (.int v1), some (.int v2), some (.int v3), some (.int v4), some (.int v5), none] [.int x1.1] x1.2 Q
    cases e
    exact mGo.iret dX9_product_144 rfl (Nat.le_of_ble_eq_true rfl) (Nat.le_of_ble_eq_true rfl) q
  · replace e := mIff hc e
    refine mGo.iconst (n := 75) (v := (0 : Int32)) dX9_product_74 (by decide) rfl ?_
    refine mGo.istore (n := 77) (ls' := [some (va_rf v0), some (.int v1), some (.int v2), some (.int v3), some (.int v4), some (.int v5), some (.int (0 : Int32))]) dX9_product_75 rfl (Nat.le_of_ble_eq_true rfl) rfl ?_
    refine mGo.mk [true, true, true, true, true, true, true] ?_
    exact g_X9_product_l77 v0 v1 v2 v3 v4 v5 (0 : Int32) h e q
noncomputable def f_X9_product_l67 (v0 : Option Nat) (v1 : Int32) (v2 : Int32) (v3 : Int32) (v4 : Int32) (v5 : Int32) (h : mH) : Option (Int32 × mH) :=
  mLoop (fun x : Int32 × mH => f_X9_product_b67 v0 v1 v2 v3 v4 x.1 x.2) (v5, h)
set_option maxRecDepth 100000 in
set_option maxHeartbeats 4000000 in
theorem g_X9_product_l67 {w : mWp} {Q : Option Value → mH → Prop} (v0 : Option Nat) (v1 : Int32) (v2 : Int32) (v3 : Int32) (v4 : Int32) (v5 : Int32) (h : mH) {res : Int32 × mH} (e : f_X9_product_l67 v0 v1 v2 v3 v4 v5 h = some res) (q : (fun r : Int32 × mH => Q (some (.int r.1)) r.2) res) : mGo w kX9_product 0 0 67 [some (va_rf v0), some (.int v1), some (.int v2), some (.int v3), some (.int v4), some (.int v5), none] [] h Q := by
  unfold f_X9_product_l67 at e
  refine mLoop_go (x := (v5, h)) (fun x : Int32 × mH => mGo w kX9_product 0 0 67 [some (va_rf v0), some (.int v1), some (.int v2), some (.int v3), some (.int v4), some (.int x.1), none] [] x.2 Q) (fun r : Int32 × mH => Q (some (.int r.1)) r.2) ?_ e q
  rintro ⟨v5, h1⟩ res e q
  exact g_X9_product_b67 v0 v1 v2 v3 v4 v5 h1 e q
noncomputable def f_X9_product (v0 : Option Nat) (v1 : Int32) (v2 : Int32) (h : mH) : Option (Int32 × mH) :=
  (mIs h v0 8).bind fun _ =>
  (f_X9_isTable v0 v1 h).bind fun x1 =>
  if x1 = 0 then
    some ((-1 : Int32), h)
  else
    (f_X9_isTable v0 v2 h).bind fun x2 =>
    if x2 = 0 then
      some ((-1 : Int32), h)
    else
      (mGR h v0 8 1).bind fun x3 =>
      (mAI h x3 v1).bind fun x4 =>
      (mGR h v0 8 1).bind fun x5 =>
      (mAI h x5 v2).bind fun x6 =>
      if (28 : Int32) < (x4 * x6) then
        some ((-1 : Int32), h)
      else
        (f_X9_isFull v0 h).bind fun x7 =>
        if x7 = 0 then
          (mGR h v0 8 1).bind fun x8 =>
          (mAI h x8 v2).bind fun x9 =>
          (mGR h v0 8 1).bind fun x10 =>
          (mAI h x10 v1).bind fun x11 =>
          (f_X9_clearsMade v0 h).bind fun x12 =>
          f_X9_product_l67 v0 v1 v2 x9 (x11 * x9) (0 : Int32) x12
        else
          some ((-1 : Int32), h)
set_option maxRecDepth 100000 in
set_option maxHeartbeats 4000000 in
theorem g_X9_product {w : mWp} {Q : Option Value → mH → Prop} (v0 : Option Nat) (v1 : Int32) (v2 : Int32) (h : mH) {res : Int32 × mH} (e : f_X9_product v0 v1 v2 h = some res) (q : (fun r : Int32 × mH => Q (some (.int r.1)) r.2) res) : mGo w kX9_product 0 0 0 [some (va_rf v0), some (.int v1), some (.int v2), none, none, none, none] [] h Q := by
  unfold f_X9_product at e
  obtain ⟨_, _, e⟩ := mBind e
  refine mGo.aload_n (n := 1) (r := v0) dX9_product_0 rfl rfl ?_
  refine mGo.iload_n (n := 2) (x := v1) dX9_product_1 rfl rfl ?_
  obtain ⟨x1, e_x1, e⟩ := mBind e
  refine mGo.callV (n := 5) (y := zX9_isTable) (R' := (mRoom (2) 0 0)) (as := [.int v1]) (st := []) (r0 := v0) dX9_product_2 sc_RX9_86 rfl (s_X9_isTable v0 v1 h e_x1) (e_X9_isTable v0 v1 h e_x1) (mFit_of rfl (Nat.le_of_ble_eq_true rfl) (by decide) (Nat.le_of_ble_eq_true rfl) (Nat.le_of_ble_eq_true rfl)) (Nat.le_of_ble_eq_true rfl) rfl rfl ?_
  intro _ _ hq
  rw [hq.1, hq.2]
  show mGo w kX9_product 0 0 5 [some (va_rf v0), some (.int v1), some (.int v2), none, none, none, none] [.int x1] h Q
  refine mGo.if_eq (tgt := 41) (n := 8) dX9_product_5 (by decide) rfl (fun hc => ?_) (fun hc => ?_)
  · replace e := mIft hc e
    refine mGo.iconst (n := 42) (v := (-1 : Int32)) dX9_product_41 (by decide) rfl ?_
    cases e
    exact mGo.iret dX9_product_42 rfl (Nat.le_of_ble_eq_true rfl) (Nat.le_of_ble_eq_true rfl) q
  · replace e := mIff hc e
    refine mGo.aload_n (n := 9) (r := v0) dX9_product_8 rfl rfl ?_
    refine mGo.iload_n (n := 10) (x := v2) dX9_product_9 rfl rfl ?_
    obtain ⟨x2, e_x2, e⟩ := mBind e
    refine mGo.callV (n := 13) (y := zX9_isTable) (R' := (mRoom (2) 0 0)) (as := [.int v2]) (st := []) (r0 := v0) dX9_product_10 sc_RX9_86 rfl (s_X9_isTable v0 v2 h e_x2) (e_X9_isTable v0 v2 h e_x2) (mFit_of rfl (Nat.le_of_ble_eq_true rfl) (by decide) (Nat.le_of_ble_eq_true rfl) (Nat.le_of_ble_eq_true rfl)) (Nat.le_of_ble_eq_true rfl) rfl rfl ?_
    intro _ _ hq
    rw [hq.1, hq.2]
    show mGo w kX9_product 0 0 13 [some (va_rf v0), some (.int v1), some (.int v2), none, none, none, none] [.int x2] h Q
    refine mGo.if_eq (tgt := 41) (n := 16) dX9_product_13 (by decide) rfl (fun hc => ?_) (fun hc => ?_)
    · replace e := mIft hc e
      refine mGo.iconst (n := 42) (v := (-1 : Int32)) dX9_product_41 (by decide) rfl ?_
      cases e
      exact mGo.iret dX9_product_42 rfl (Nat.le_of_ble_eq_true rfl) (Nat.le_of_ble_eq_true rfl) q
    · replace e := mIff hc e
      refine mGo.aload_n (n := 17) (r := v0) dX9_product_16 rfl rfl ?_
      obtain ⟨x3, e_x3, e⟩ := mBind e
      refine mGo.getR (n := 20) dX9_product_17 sf_RX9_13 e_x3 rfl ?_
      refine mGo.iload_n (n := 21) (x := v1) dX9_product_20 rfl rfl ?_
      obtain ⟨x4, e_x4, e⟩ := mBind e
      refine mGo.iald (n := 22) dX9_product_21 e_x4 rfl ?_
      refine mGo.aload_n (n := 23) (r := v0) dX9_product_22 rfl rfl ?_
      obtain ⟨x5, e_x5, e⟩ := mBind e
      refine mGo.getR (n := 26) dX9_product_23 sf_RX9_13 e_x5 rfl ?_
      refine mGo.iload_n (n := 27) (x := v2) dX9_product_26 rfl rfl ?_
      obtain ⟨x6, e_x6, e⟩ := mBind e
      refine mGo.iald (n := 28) dX9_product_27 e_x6 rfl ?_
      refine mGo.imul (n := 29) dX9_product_28 rfl ?_
      refine mGo.bipush (n := 31) (v := (28 : Int32)) dX9_product_29 (by decide) rfl ?_
      refine mGo.icmp_gt (tgt := 41) (n := 34) dX9_product_31 (by decide) rfl (fun hc => ?_) (fun hc => ?_)
      · replace e := mIft hc e
        refine mGo.iconst (n := 42) (v := (-1 : Int32)) dX9_product_41 (by decide) rfl ?_
        cases e
        exact mGo.iret dX9_product_42 rfl (Nat.le_of_ble_eq_true rfl) (Nat.le_of_ble_eq_true rfl) q
      · replace e := mIff hc e
        refine mGo.aload_n (n := 35) (r := v0) dX9_product_34 rfl rfl ?_
        obtain ⟨x7, e_x7, e⟩ := mBind e
        refine mGo.callV (n := 38) (y := zX9_isFull) (R' := (mRoom (2) 0 0)) (as := []) (st := []) (r0 := v0) dX9_product_35 sc_RX9_116 rfl (s_X9_isFull v0 h e_x7) (e_X9_isFull v0 h e_x7) (mFit_of rfl (Nat.le_of_ble_eq_true rfl) (by decide) (Nat.le_of_ble_eq_true rfl) (Nat.le_of_ble_eq_true rfl)) (Nat.le_of_ble_eq_true rfl) rfl rfl ?_
        intro _ _ hq
        rw [hq.1, hq.2]
        show mGo w kX9_product 0 0 38 [some (va_rf v0), some (.int v1), some (.int v2), none, none, none, none] [.int x7] h Q
        refine mGo.if_eq (tgt := 43) (n := 41) dX9_product_38 (by decide) rfl (fun hc => ?_) (fun hc => ?_)
        · replace e := mIft hc e
          refine mGo.aload_n (n := 44) (r := v0) dX9_product_43 rfl rfl ?_
          obtain ⟨x8, e_x8, e⟩ := mBind e
          refine mGo.getR (n := 47) dX9_product_44 sf_RX9_13 e_x8 rfl ?_
          refine mGo.iload_n (n := 48) (x := v2) dX9_product_47 rfl rfl ?_
          obtain ⟨x9, e_x9, e⟩ := mBind e
          refine mGo.iald (n := 49) dX9_product_48 e_x9 rfl ?_
          refine mGo.istore_n (n := 50) (ls' := [some (va_rf v0), some (.int v1), some (.int v2), some (.int x9), none, none, none]) dX9_product_49 rfl (Nat.le_of_ble_eq_true rfl) rfl ?_
          refine mGo.aload_n (n := 51) (r := v0) dX9_product_50 rfl rfl ?_
          obtain ⟨x10, e_x10, e⟩ := mBind e
          refine mGo.getR (n := 54) dX9_product_51 sf_RX9_13 e_x10 rfl ?_
          refine mGo.iload_n (n := 55) (x := v1) dX9_product_54 rfl rfl ?_
          obtain ⟨x11, e_x11, e⟩ := mBind e
          refine mGo.iald (n := 56) dX9_product_55 e_x11 rfl ?_
          refine mGo.iload_n (n := 57) (x := x9) dX9_product_56 rfl rfl ?_
          refine mGo.imul (n := 58) dX9_product_57 rfl ?_
          refine mGo.istore (n := 60) (ls' := [some (va_rf v0), some (.int v1), some (.int v2), some (.int x9), some (.int (x11 * x9)), none, none]) dX9_product_58 rfl (Nat.le_of_ble_eq_true rfl) rfl ?_
          refine mGo.aload_n (n := 61) (r := v0) dX9_product_60 rfl rfl ?_
          obtain ⟨x12, e_x12, e⟩ := mBind e
          refine mGo.callV (n := 64) (y := zX9_clearsMade) (R' := (mRoom (1) 0 0)) (as := []) (st := []) (r0 := v0) dX9_product_61 sc_RX9_123 rfl (s_X9_clearsMade v0 h e_x12) (e_X9_clearsMade v0 h e_x12) (mFit_of rfl (Nat.le_of_ble_eq_true rfl) (by decide) (Nat.le_of_ble_eq_true rfl) (Nat.le_of_ble_eq_true rfl)) (Nat.le_of_ble_eq_true rfl) rfl rfl ?_
          intro _ _ hq
          rw [hq.1, hq.2]
          show mGo w kX9_product 0 0 64 [some (va_rf v0), some (.int v1), some (.int v2), some (.int x9), some (.int (x11 * x9)), none, none] [] x12 Q
          refine mGo.iconst (n := 65) (v := (0 : Int32)) dX9_product_64 (by decide) rfl ?_
          refine mGo.istore (n := 67) (ls' := [some (va_rf v0), some (.int v1), some (.int v2), some (.int x9), some (.int (x11 * x9)), some (.int (0 : Int32)), none]) dX9_product_65 rfl (Nat.le_of_ble_eq_true rfl) rfl ?_
          refine mGo.mk [true, true, true, true, true, true, false] ?_
          exact g_X9_product_l67 v0 v1 v2 x9 (x11 * x9) (0 : Int32) x12 e q
        · replace e := mIff hc e
          refine mGo.iconst (n := 42) (v := (-1 : Int32)) dX9_product_41 (by decide) rfl ?_
          cases e
          exact mGo.iret dX9_product_42 rfl (Nat.le_of_ble_eq_true rfl) (Nat.le_of_ble_eq_true rfl) q
theorem e_X9_product {w : mWp} (v0 : Option Nat) (v1 : Int32) (v2 : Int32) (h : mH) {res : Int32 × mH} (e : f_X9_product v0 v1 v2 h = some res) : mEx w zX9_product (mRoom 3 0 0) [va_rf v0, .int v1, .int v2] h (fun r h2 => r = some (.int res.1) ∧ h2 = res.2) := by
  refine mEx.of (by decide +kernel) (show mEnt [va_rf v0, .int v1, .int v2] 7 = [some (va_rf v0), some (.int v1), some (.int v2), none, none, none, none] by rw [mEnt_r, mEnt_i, mEnt_i] <;> rfl) (by simp only [List.map_cons, List.map_nil, mRfc, mCi, mCj, List.sum_cons, List.sum_nil]; exact Nat.le_of_ble_eq_true rfl) ?_
  refine g_X9_product v0 v1 v2 h e ?_
  exact ⟨rfl, rfl⟩
theorem s_X9_product (v0 : Option Nat) (v1 : Int32) (v2 : Int32) (h : mH) {res : Int32 × mH} (e : f_X9_product v0 v1 v2 h = some res) : mIs h v0 8 = some () := by
  unfold f_X9_product at e
  obtain ⟨u, e1, _⟩ := mBind e
  cases u
  exact e1
-- X9_laysFour
def kX9_laysFour : mK := (cX9_laysFour, RX9, 5, none, "laysFour", mRoom 2 0 0)
def zX9_laysFour : mY := (yX9_laysFour, cX9_laysFour, 5, none)
def f_X9_laysFour_c86 (v0 : Option Nat) (v1 : Int32) (v2 : Int32) (v3 : Int32) (s0 : Option Nat) (s1 : Int32) (s2 : Int32) (s3 : Int32) (h : mH) : Option ((Int32 × mH) ⊕ ((Int32 × mH) ⊕ (mH))) :=
  (f_X9_lays s0 s1 s2 s3 h).bind fun x1 =>
  some (Sum.inl ((v3 + 1), x1))
set_option maxRecDepth 100000 in
set_option maxHeartbeats 4000000 in
theorem g_X9_laysFour_c86 {w : mWp} {Q : Option Value → mH → Prop} (v0 : Option Nat) (v1 : Int32) (v2 : Int32) (v3 : Int32) (s0 : Option Nat) (s1 : Int32) (s2 : Int32) (s3 : Int32) (h : mH) {res : (Int32 × mH) ⊕ ((Int32 × mH) ⊕ (mH))} (e : f_X9_laysFour_c86 v0 v1 v2 v3 s0 s1 s2 s3 h = some res) (q : (Sum.elim (fun x : Int32 × mH => mGo w kX9_laysFour 0 0 15 [some (va_rf v0), some (.int v1), some (.int v2), some (.int x.1), none] [] x.2 Q) (Sum.elim (fun x : Int32 × mH => mGo w kX9_laysFour 0 0 6 [some (va_rf v0), some (.int v1), some (.int x.1), none, none] [] x.2 Q) (fun r : mH => Q none r))) res) : mGo w kX9_laysFour 0 0 86 [some (va_rf v0), some (.int v1), some (.int v2), some (.int v3), none] [.int s3, .int s2, .int s1, va_rf s0] h Q := by
  unfold f_X9_laysFour_c86 at e
  obtain ⟨x1, e_x1, e⟩ := mBind e
  refine mGo.callV (n := 89) (y := zX9_lays) (R' := (mRoom (1) 0 0)) (as := [.int s1, .int s2, .int s3]) (st := []) (r0 := s0) dX9_laysFour_86 sc_RX9_150 rfl (s_X9_lays s0 s1 s2 s3 h e_x1) (e_X9_lays s0 s1 s2 s3 h e_x1) (mFit_of rfl (Nat.le_of_ble_eq_true rfl) (by decide) (Nat.le_of_ble_eq_true rfl) (Nat.le_of_ble_eq_true rfl)) (Nat.le_of_ble_eq_true rfl) rfl rfl ?_
  intro _ _ hq
  rw [hq.1, hq.2]
  show mGo w kX9_laysFour 0 0 89 [some (va_rf v0), some (.int v1), some (.int v2), some (.int v3), none] [] x1 Q
  refine mGo.iinc (n := 92) (x := v3) (v := (v3 + 1)) (ls' := [some (va_rf v0), some (.int v1), some (.int v2), some (.int (v3 + 1)), none]) dX9_laysFour_89 rfl rfl rfl (Nat.le_of_ble_eq_true rfl) rfl ?_
  refine mGo.goto (tgt := 15) dX9_laysFour_92 (by decide) ?_
  cases e
  refine mGo.mk [true, true, true, true, false] ?_
  exact q
def f_X9_laysFour_c78 (v0 : Option Nat) (v1 : Int32) (v2 : Int32) (v3 : Int32) (s0 : Option Nat) (s1 : Int32) (s2 : Int32) (s3 : Int32) (s4 : Int32) (h : mH) : Option ((Int32 × mH) ⊕ ((Int32 × mH) ⊕ (mH))) :=
  if s3 = s4 then
    f_X9_laysFour_c86 v0 v1 v2 v3 s0 s1 s2 (0 : Int32) h
  else
    f_X9_laysFour_c86 v0 v1 v2 v3 s0 s1 s2 (1 : Int32) h
set_option maxRecDepth 100000 in
set_option maxHeartbeats 4000000 in
theorem g_X9_laysFour_c78 {w : mWp} {Q : Option Value → mH → Prop} (v0 : Option Nat) (v1 : Int32) (v2 : Int32) (v3 : Int32) (s0 : Option Nat) (s1 : Int32) (s2 : Int32) (s3 : Int32) (s4 : Int32) (h : mH) {res : (Int32 × mH) ⊕ ((Int32 × mH) ⊕ (mH))} (e : f_X9_laysFour_c78 v0 v1 v2 v3 s0 s1 s2 s3 s4 h = some res) (q : (Sum.elim (fun x : Int32 × mH => mGo w kX9_laysFour 0 0 15 [some (va_rf v0), some (.int v1), some (.int v2), some (.int x.1), none] [] x.2 Q) (Sum.elim (fun x : Int32 × mH => mGo w kX9_laysFour 0 0 6 [some (va_rf v0), some (.int v1), some (.int x.1), none, none] [] x.2 Q) (fun r : mH => Q none r))) res) : mGo w kX9_laysFour 0 0 78 [some (va_rf v0), some (.int v1), some (.int v2), some (.int v3), none] [.int s4, .int s3, .int s2, .int s1, va_rf s0] h Q := by
  unfold f_X9_laysFour_c78 at e
  refine mGo.icmp_eq (tgt := 85) (n := 81) dX9_laysFour_78 (by decide) rfl (fun hc => ?_) (fun hc => ?_)
  · replace e := mIft hc e
    refine mGo.iconst (n := 86) (v := (0 : Int32)) dX9_laysFour_85 (by decide) rfl ?_
    refine mGo.mk [true, true, true, true, false] ?_
    exact g_X9_laysFour_c86 v0 v1 v2 v3 s0 s1 s2 (0 : Int32) h e q
  · replace e := mIff hc e
    refine mGo.iconst (n := 82) (v := (1 : Int32)) dX9_laysFour_81 (by decide) rfl ?_
    refine mGo.goto (tgt := 86) dX9_laysFour_82 (by decide) ?_
    refine mGo.mk [true, true, true, true, false] ?_
    exact g_X9_laysFour_c86 v0 v1 v2 v3 s0 s1 s2 (1 : Int32) h e q
def f_X9_laysFour_b15 (v0 : Option Nat) (v1 : Int32) (v2 : Int32) (v3 : Int32) (h : mH) : Option ((Int32 × mH) ⊕ ((Int32 × mH) ⊕ (mH))) :=
  if ((4 : Int32) * v1) ≤ v3 then
    some (Sum.inr (Sum.inl ((v2 + 1), h)))
  else
    if v1 = 0 then none else
    if v1 = 0 then none else
    (mGR h v0 8 11).bind fun x3 =>
    (mGR h v0 8 9).bind fun x4 =>
    (mAI h x4 (((4 : Int32) * (v2 / v1)) + (v3 / v1))).bind fun x5 =>
    (mAI h x3 x5).bind fun x6 =>
    if v1 = 0 then none else
    if v1 = 0 then none else
    if v1 = 0 then none else
    (f_X9_has x6 (mRem (((mRem v3 v1) - (mRem v2 v1)) + v1) v1)).bind fun x10 =>
    (mGR h v0 8 10).bind fun x11 =>
    (mAI h x11 (((4 : Int32) * (v2 / v1)) + (v3 / v1))).bind fun x12 =>
    if x12 = (1 : Int32) then
      f_X9_laysFour_c78 v0 v1 v2 v3 v0 v2 v3 x10 (1 : Int32) h
    else
      f_X9_laysFour_c78 v0 v1 v2 v3 v0 v2 v3 x10 (0 : Int32) h
set_option maxRecDepth 100000 in
set_option maxHeartbeats 4000000 in
theorem g_X9_laysFour_b15 {w : mWp} {Q : Option Value → mH → Prop} (v0 : Option Nat) (v1 : Int32) (v2 : Int32) (v3 : Int32) (h : mH) {res : (Int32 × mH) ⊕ ((Int32 × mH) ⊕ (mH))} (e : f_X9_laysFour_b15 v0 v1 v2 v3 h = some res) (q : (Sum.elim (fun x : Int32 × mH => mGo w kX9_laysFour 0 0 15 [some (va_rf v0), some (.int v1), some (.int v2), some (.int x.1), none] [] x.2 Q) (Sum.elim (fun x : Int32 × mH => mGo w kX9_laysFour 0 0 6 [some (va_rf v0), some (.int v1), some (.int x.1), none, none] [] x.2 Q) (fun r : mH => Q none r))) res) : mGo w kX9_laysFour 0 0 15 [some (va_rf v0), some (.int v1), some (.int v2), some (.int v3), none] [] h Q := by
  unfold f_X9_laysFour_b15 at e
  refine mGo.iload_n (n := 16) (x := v3) dX9_laysFour_15 rfl rfl ?_
  refine mGo.iconst (n := 17) (v := (4 : Int32)) dX9_laysFour_16 (by decide) rfl ?_
  refine mGo.iload_n (n := 18) (x := v1) dX9_laysFour_17 rfl rfl ?_
  refine mGo.imul (n := 19) dX9_laysFour_18 rfl ?_
  refine mGo.icmp_ge (tgt := 95) (n := 22) dX9_laysFour_19 (by decide) rfl (fun hc => ?_) (fun hc => ?_)
  · replace e := mIft hc e
    refine mGo.iinc (n := 98) (x := v2) (v := (v2 + 1)) (ls' := [some (va_rf v0), some (.int v1), some (.int (v2 + 1)), some (.int v3), none]) dX9_laysFour_95 rfl rfl rfl (Nat.le_of_ble_eq_true rfl) rfl ?_
    refine mGo.goto (tgt := 6) dX9_laysFour_98 (by decide) ?_
    cases e
    refine mGo.mk [true, true, true, false, false] ?_
    exact q
  · replace e := mIff hc e
    refine mGo.iconst (n := 23) (v := (4 : Int32)) dX9_laysFour_22 (by decide) rfl ?_
    refine mGo.iload_n (n := 24) (x := v2) dX9_laysFour_23 rfl rfl ?_
    refine mGo.iload_n (n := 25) (x := v1) dX9_laysFour_24 rfl rfl ?_
    obtain ⟨z1, e⟩ := mIfN e
    refine mGo.idiv (n := 26) dX9_laysFour_25 z1 rfl ?_
    refine mGo.imul (n := 27) dX9_laysFour_26 rfl ?_
    refine mGo.iload_n (n := 28) (x := v3) dX9_laysFour_27 rfl rfl ?_
    refine mGo.iload_n (n := 29) (x := v1) dX9_laysFour_28 rfl rfl ?_
    obtain ⟨z2, e⟩ := mIfN e
    refine mGo.idiv (n := 30) dX9_laysFour_29 z2 rfl ?_
    refine mGo.iadd (n := 31) dX9_laysFour_30 rfl ?_
    refine mGo.istore (n := 33) (ls' := [some (va_rf v0), some (.int v1), some (.int v2), some (.int v3), some (.int (((4 : Int32) * (v2 / v1)) + (v3 / v1)))]) dX9_laysFour_31 rfl (Nat.le_of_ble_eq_true rfl) rfl ?_
    refine mGo.aload_n (n := 34) (r := v0) dX9_laysFour_33 rfl rfl ?_
    refine mGo.iload_n (n := 35) (x := v2) dX9_laysFour_34 rfl rfl ?_
    refine mGo.iload_n (n := 36) (x := v3) dX9_laysFour_35 rfl rfl ?_
    refine mGo.aload_n (n := 37) (r := v0) dX9_laysFour_36 rfl rfl ?_
    obtain ⟨x3, e_x3, e⟩ := mBind e
    refine mGo.getR (n := 40) dX9_laysFour_37 sf_RX9_41 e_x3 rfl ?_
    refine mGo.aload_n (n := 41) (r := v0) dX9_laysFour_40 rfl rfl ?_
    obtain ⟨x4, e_x4, e⟩ := mBind e
    refine mGo.getR (n := 44) dX9_laysFour_41 sf_RX9_35 e_x4 rfl ?_
    refine mGo.iload (n := 46) (x := (((4 : Int32) * (v2 / v1)) + (v3 / v1))) dX9_laysFour_44 rfl rfl ?_
    obtain ⟨x5, e_x5, e⟩ := mBind e
    refine mGo.iald (n := 47) dX9_laysFour_46 e_x5 rfl ?_
    obtain ⟨x6, e_x6, e⟩ := mBind e
    refine mGo.iald (n := 48) dX9_laysFour_47 e_x6 rfl ?_
    refine mGo.iload_n (n := 49) (x := v3) dX9_laysFour_48 rfl rfl ?_
    refine mGo.iload_n (n := 50) (x := v1) dX9_laysFour_49 rfl rfl ?_
    obtain ⟨z7, e⟩ := mIfN e
    refine mGo.irem (n := 51) dX9_laysFour_50 z7 rfl ?_
    refine mGo.iload_n (n := 52) (x := v2) dX9_laysFour_51 rfl rfl ?_
    refine mGo.iload_n (n := 53) (x := v1) dX9_laysFour_52 rfl rfl ?_
    obtain ⟨z8, e⟩ := mIfN e
    refine mGo.irem (n := 54) dX9_laysFour_53 z8 rfl ?_
    refine mGo.isub (n := 55) dX9_laysFour_54 rfl ?_
    refine mGo.iload_n (n := 56) (x := v1) dX9_laysFour_55 rfl rfl ?_
    refine mGo.iadd (n := 57) dX9_laysFour_56 rfl ?_
    refine mGo.iload_n (n := 58) (x := v1) dX9_laysFour_57 rfl rfl ?_
    obtain ⟨z9, e⟩ := mIfN e
    refine mGo.irem (n := 59) dX9_laysFour_58 z9 rfl ?_
    obtain ⟨x10, e_x10, e⟩ := mBind e
    refine mGo.callS (n := 62) (y := zX9_has) (R' := (mRoom (1) 0 0)) (as := [.int x6, .int (mRem (((mRem v3 v1) - (mRem v2 v1)) + v1) v1)]) (st := [.int v3, .int v2, va_rf v0]) dX9_laysFour_59 sc_RX9_94 rfl (e_X9_has x6 (mRem (((mRem v3 v1) - (mRem v2 v1)) + v1) v1) h e_x10) (mFit_of rfl (Nat.le_of_ble_eq_true rfl) (by decide) (Nat.le_of_ble_eq_true rfl) (Nat.le_of_ble_eq_true rfl)) (mCat8 (Nat.le_of_ble_eq_true rfl)) rfl rfl ?_
    intro _ _ hq
    rw [hq.1, hq.2]
    show mGo w kX9_laysFour 0 0 62 [some (va_rf v0), some (.int v1), some (.int v2), some (.int v3), some (.int (((4 : Int32) * (v2 / v1)) + (v3 / v1)))] [.int x10, .int v3, .int v2, va_rf v0] h Q
    refine mGo.aload_n (n := 63) (r := v0) dX9_laysFour_62 rfl rfl ?_
    obtain ⟨x11, e_x11, e⟩ := mBind e
    refine mGo.getR (n := 66) dX9_laysFour_63 sf_RX9_38 e_x11 rfl ?_
    refine mGo.iload (n := 68) (x := (((4 : Int32) * (v2 / v1)) + (v3 / v1))) dX9_laysFour_66 rfl rfl ?_
    obtain ⟨x12, e_x12, e⟩ := mBind e
    refine mGo.iald (n := 69) dX9_laysFour_68 e_x12 rfl ?_
    refine mGo.iconst (n := 70) (v := (1 : Int32)) dX9_laysFour_69 (by decide) rfl ?_
    refine mGo.icmp_ne (tgt := 77) (n := 73) dX9_laysFour_70 (by decide) rfl (fun hc => ?_) (fun hc => ?_)
    · replace e := mIff hc e
      refine mGo.iconst (n := 78) (v := (0 : Int32)) dX9_laysFour_77 (by decide) rfl ?_
      refine mGo.mk [true, true, true, true, false] ?_
      exact g_X9_laysFour_c78 v0 v1 v2 v3 v0 v2 v3 x10 (0 : Int32) h e q
    · replace e := mIft hc e
      refine mGo.iconst (n := 74) (v := (1 : Int32)) dX9_laysFour_73 (by decide) rfl ?_
      refine mGo.goto (tgt := 78) dX9_laysFour_74 (by decide) ?_
      refine mGo.mk [true, true, true, true, false] ?_
      exact g_X9_laysFour_c78 v0 v1 v2 v3 v0 v2 v3 x10 (1 : Int32) h e q
noncomputable def f_X9_laysFour_l15 (v0 : Option Nat) (v1 : Int32) (v2 : Int32) (v3 : Int32) (h : mH) : Option ((Int32 × mH) ⊕ (mH)) :=
  mLoop (fun x : Int32 × mH => f_X9_laysFour_b15 v0 v1 v2 x.1 x.2) (v3, h)
set_option maxRecDepth 100000 in
set_option maxHeartbeats 4000000 in
theorem g_X9_laysFour_l15 {w : mWp} {Q : Option Value → mH → Prop} (v0 : Option Nat) (v1 : Int32) (v2 : Int32) (v3 : Int32) (h : mH) {res : (Int32 × mH) ⊕ (mH)} (e : f_X9_laysFour_l15 v0 v1 v2 v3 h = some res) (q : (Sum.elim (fun x : Int32 × mH => mGo w kX9_laysFour 0 0 6 [some (va_rf v0), some (.int v1), some (.int x.1), none, none] [] x.2 Q) (fun r : mH => Q none r)) res) : mGo w kX9_laysFour 0 0 15 [some (va_rf v0), some (.int v1), some (.int v2), some (.int v3), none] [] h Q := by
  unfold f_X9_laysFour_l15 at e
  refine mLoop_go (x := (v3, h)) (fun x : Int32 × mH => mGo w kX9_laysFour 0 0 15 [some (va_rf v0), some (.int v1), some (.int v2), some (.int x.1), none] [] x.2 Q) (Sum.elim (fun x : Int32 × mH => mGo w kX9_laysFour 0 0 6 [some (va_rf v0), some (.int v1), some (.int x.1), none, none] [] x.2 Q) (fun r : mH => Q none r)) ?_ e q
  rintro ⟨v3, h1⟩ res e q
  exact g_X9_laysFour_b15 v0 v1 v2 v3 h1 e q
noncomputable def f_X9_laysFour_b6 (v0 : Option Nat) (v1 : Int32) (v2 : Int32) (h : mH) : Option ((Int32 × mH) ⊕ (mH)) :=
  if ((4 : Int32) * v1) ≤ v2 then
    some (Sum.inr h)
  else
    f_X9_laysFour_l15 v0 v1 v2 (0 : Int32) h
set_option maxRecDepth 100000 in
set_option maxHeartbeats 4000000 in
theorem g_X9_laysFour_b6 {w : mWp} {Q : Option Value → mH → Prop} (v0 : Option Nat) (v1 : Int32) (v2 : Int32) (h : mH) {res : (Int32 × mH) ⊕ (mH)} (e : f_X9_laysFour_b6 v0 v1 v2 h = some res) (q : (Sum.elim (fun x : Int32 × mH => mGo w kX9_laysFour 0 0 6 [some (va_rf v0), some (.int v1), some (.int x.1), none, none] [] x.2 Q) (fun r : mH => Q none r)) res) : mGo w kX9_laysFour 0 0 6 [some (va_rf v0), some (.int v1), some (.int v2), none, none] [] h Q := by
  unfold f_X9_laysFour_b6 at e
  refine mGo.iload_n (n := 7) (x := v2) dX9_laysFour_6 rfl rfl ?_
  refine mGo.iconst (n := 8) (v := (4 : Int32)) dX9_laysFour_7 (by decide) rfl ?_
  refine mGo.iload_n (n := 9) (x := v1) dX9_laysFour_8 rfl rfl ?_
  refine mGo.imul (n := 10) dX9_laysFour_9 rfl ?_
  refine mGo.icmp_ge (tgt := 101) (n := 13) dX9_laysFour_10 (by decide) rfl (fun hc => ?_) (fun hc => ?_)
  · replace e := mIft hc e
    cases e
    exact mGo.vret dX9_laysFour_101 rfl (Nat.le_of_ble_eq_true rfl) (Nat.le_of_ble_eq_true rfl) q
  · replace e := mIff hc e
    refine mGo.iconst (n := 14) (v := (0 : Int32)) dX9_laysFour_13 (by decide) rfl ?_
    refine mGo.istore_n (n := 15) (ls' := [some (va_rf v0), some (.int v1), some (.int v2), some (.int (0 : Int32)), none]) dX9_laysFour_14 rfl (Nat.le_of_ble_eq_true rfl) rfl ?_
    refine mGo.mk [true, true, true, true, false] ?_
    exact g_X9_laysFour_l15 v0 v1 v2 (0 : Int32) h e q
noncomputable def f_X9_laysFour_l6 (v0 : Option Nat) (v1 : Int32) (v2 : Int32) (h : mH) : Option (mH) :=
  mLoop (fun x : Int32 × mH => f_X9_laysFour_b6 v0 v1 x.1 x.2) (v2, h)
set_option maxRecDepth 100000 in
set_option maxHeartbeats 4000000 in
theorem g_X9_laysFour_l6 {w : mWp} {Q : Option Value → mH → Prop} (v0 : Option Nat) (v1 : Int32) (v2 : Int32) (h : mH) {res : mH} (e : f_X9_laysFour_l6 v0 v1 v2 h = some res) (q : (fun r : mH => Q none r) res) : mGo w kX9_laysFour 0 0 6 [some (va_rf v0), some (.int v1), some (.int v2), none, none] [] h Q := by
  unfold f_X9_laysFour_l6 at e
  refine mLoop_go (x := (v2, h)) (fun x : Int32 × mH => mGo w kX9_laysFour 0 0 6 [some (va_rf v0), some (.int v1), some (.int x.1), none, none] [] x.2 Q) (fun r : mH => Q none r) ?_ e q
  rintro ⟨v2, h1⟩ res e q
  exact g_X9_laysFour_b6 v0 v1 v2 h1 e q
noncomputable def f_X9_laysFour (v0 : Option Nat) (v1 : Int32) (h : mH) : Option (mH) :=
  (mIs h v0 8).bind fun _ =>
  (f_X9_clearsMade v0 h).bind fun x1 =>
  f_X9_laysFour_l6 v0 v1 (0 : Int32) x1
set_option maxRecDepth 100000 in
set_option maxHeartbeats 4000000 in
theorem g_X9_laysFour {w : mWp} {Q : Option Value → mH → Prop} (v0 : Option Nat) (v1 : Int32) (h : mH) {res : mH} (e : f_X9_laysFour v0 v1 h = some res) (q : (fun r : mH => Q none r) res) : mGo w kX9_laysFour 0 0 0 [some (va_rf v0), some (.int v1), none, none, none] [] h Q := by
  unfold f_X9_laysFour at e
  obtain ⟨_, _, e⟩ := mBind e
  refine mGo.aload_n (n := 1) (r := v0) dX9_laysFour_0 rfl rfl ?_
  obtain ⟨x1, e_x1, e⟩ := mBind e
  refine mGo.callV (n := 4) (y := zX9_clearsMade) (R' := (mRoom (1) 0 0)) (as := []) (st := []) (r0 := v0) dX9_laysFour_1 sc_RX9_123 rfl (s_X9_clearsMade v0 h e_x1) (e_X9_clearsMade v0 h e_x1) (mFit_of rfl (Nat.le_of_ble_eq_true rfl) (by decide) (Nat.le_of_ble_eq_true rfl) (Nat.le_of_ble_eq_true rfl)) (Nat.le_of_ble_eq_true rfl) rfl rfl ?_
  intro _ _ hq
  rw [hq.1, hq.2]
  show mGo w kX9_laysFour 0 0 4 [some (va_rf v0), some (.int v1), none, none, none] [] x1 Q
  refine mGo.iconst (n := 5) (v := (0 : Int32)) dX9_laysFour_4 (by decide) rfl ?_
  refine mGo.istore_n (n := 6) (ls' := [some (va_rf v0), some (.int v1), some (.int (0 : Int32)), none, none]) dX9_laysFour_5 rfl (Nat.le_of_ble_eq_true rfl) rfl ?_
  refine mGo.mk [true, true, true, false, false] ?_
  exact g_X9_laysFour_l6 v0 v1 (0 : Int32) x1 e q
theorem e_X9_laysFour {w : mWp} (v0 : Option Nat) (v1 : Int32) (h : mH) {res : mH} (e : f_X9_laysFour v0 v1 h = some res) : mEx w zX9_laysFour (mRoom 2 0 0) [va_rf v0, .int v1] h (fun r h2 => r = none ∧ h2 = res) := by
  refine mEx.of (by decide +kernel) (show mEnt [va_rf v0, .int v1] 5 = [some (va_rf v0), some (.int v1), none, none, none] by rw [mEnt_r, mEnt_i] <;> rfl) (by simp only [List.map_cons, List.map_nil, mRfc, mCi, mCj, List.sum_cons, List.sum_nil]; exact Nat.le_of_ble_eq_true rfl) ?_
  refine g_X9_laysFour v0 v1 h e ?_
  exact ⟨rfl, rfl⟩
theorem s_X9_laysFour (v0 : Option Nat) (v1 : Int32) (h : mH) {res : mH} (e : f_X9_laysFour v0 v1 h = some res) : mIs h v0 8 = some () := by
  unfold f_X9_laysFour at e
  obtain ⟨u, e1, _⟩ := mBind e
  cases u
  exact e1
-- X9_isRow
def kX9_isRow : mK := (cX9_isRow, RX9, 2, some (.boolean), "isRow", mRoom 1 0 0)
def zX9_isRow : mY := (yX9_isRow, cX9_isRow, 2, some (.boolean))
def f_X9_isRow (v0 : Int32) (v1 : Int32)  : Option (Int32) :=
  if v0 < 0 then
    some (0 : Int32)
  else
    if (v0 >>> (v1 &&& 31)) = 0 then
      some (1 : Int32)
    else
      some (0 : Int32)
set_option maxRecDepth 100000 in
set_option maxHeartbeats 4000000 in
theorem g_X9_isRow {w : mWp} {Q : Option Value → mH → Prop} (v0 : Int32) (v1 : Int32) (h : mH) {res : Int32} (e : f_X9_isRow v0 v1 = some res) (q : (fun r : Int32 => Q (some (.int r)) h) res) : mGo w kX9_isRow 0 0 0 [some (.int v0), some (.int v1)] [] h Q := by
  unfold f_X9_isRow at e
  refine mGo.iload_n (n := 1) (x := v0) dX9_isRow_0 rfl rfl ?_
  refine mGo.if_lt (tgt := 14) (n := 4) dX9_isRow_1 (by decide) rfl (fun hc => ?_) (fun hc => ?_)
  · replace e := mIft hc e
    refine mGo.iconst (n := 15) (v := (0 : Int32)) dX9_isRow_14 (by decide) rfl ?_
    cases e
    exact mGo.zret dX9_isRow_15 rfl (by decide) (Nat.le_of_ble_eq_true rfl) (Nat.le_of_ble_eq_true rfl) q
  · replace e := mIff hc e
    refine mGo.iload_n (n := 5) (x := v0) dX9_isRow_4 rfl rfl ?_
    refine mGo.iload_n (n := 6) (x := v1) dX9_isRow_5 rfl rfl ?_
    refine mGo.ishr (n := 7) dX9_isRow_6 rfl ?_
    refine mGo.if_ne (tgt := 14) (n := 10) dX9_isRow_7 (by decide) rfl (fun hc => ?_) (fun hc => ?_)
    · replace e := mIff hc e
      refine mGo.iconst (n := 15) (v := (0 : Int32)) dX9_isRow_14 (by decide) rfl ?_
      cases e
      exact mGo.zret dX9_isRow_15 rfl (by decide) (Nat.le_of_ble_eq_true rfl) (Nat.le_of_ble_eq_true rfl) q
    · replace e := mIft hc e
      refine mGo.iconst (n := 11) (v := (1 : Int32)) dX9_isRow_10 (by decide) rfl ?_
      refine mGo.goto (tgt := 15) dX9_isRow_11 (by decide) ?_
      cases e
      exact mGo.zret dX9_isRow_15 rfl (by decide) (Nat.le_of_ble_eq_true rfl) (Nat.le_of_ble_eq_true rfl) q
theorem e_X9_isRow {w : mWp} (v0 : Int32) (v1 : Int32) (h : mH) {res : Int32} (e : f_X9_isRow v0 v1 = some res) : mEx w zX9_isRow (mRoom 1 0 0) [.int v0, .int v1] h (fun r h2 => r = some (.int res) ∧ h2 = h) := by
  refine mEx.of (by decide +kernel) rfl (Nat.le_of_ble_eq_true rfl) ?_
  refine g_X9_isRow v0 v1 h e ?_
  exact ⟨rfl, rfl⟩
-- X9_four
def kX9_four : mK := (cX9_four, RX9, 6, some (.int), "four", mRoom 3 0 0)
def zX9_four : mY := (yX9_four, cX9_four, 6, some (.int))
set_option maxRecDepth 100000 in
theorem sc_RX9_160 : mSS RX9 160 zX9_isRow 2 := ⟨Or.inl (mT_at 981 (by decide +kernel) rfl), mT_at 982 (by decide +kernel) rfl, mT_at 91 (by decide +kernel) rfl, mT_at 983 (by decide +kernel) rfl, ⟨by decide +kernel, by decide +kernel, by decide +kernel⟩⟩
set_option maxRecDepth 100000 in
theorem sc_RX9_163 : mSV RX9 163 zX9_laysFour 1 8 := ⟨Or.inl (mT_at 984 (by decide +kernel) rfl), mT_at 986 (by decide +kernel) rfl, mT_at 52 (by decide +kernel) rfl, mT_at 91 (by decide +kernel) rfl, mT_at 987 (by decide +kernel) rfl, ⟨by decide +kernel, by decide +kernel, by decide +kernel⟩, by decide, rfl⟩
noncomputable def f_X9_four (v0 : Option Nat) (v1 : Int32) (v2 : Int32) (v3 : Int32) (v4 : Int32) (v5 : Int32) (h : mH) : Option (Int32 × mH) :=
  (mIs h v0 8).bind fun _ =>
  (f_X9_in v1 (1 : Int32) (7 : Int32)).bind fun x1 =>
  if x1 = 0 then
    some ((-1 : Int32), h)
  else
    (f_X9_isRow v2 v1).bind fun x2 =>
    if x2 = 0 then
      some ((-1 : Int32), h)
    else
      (f_X9_isRow v3 v1).bind fun x3 =>
      if x3 = 0 then
        some ((-1 : Int32), h)
      else
        (f_X9_isRow v4 v1).bind fun x4 =>
        if x4 = 0 then
          some ((-1 : Int32), h)
        else
          (f_X9_isRow v5 v1).bind fun x5 =>
          if x5 = 0 then
            some ((-1 : Int32), h)
          else
            (f_X9_isFull v0 h).bind fun x6 =>
            if x6 = 0 then
              (mGR h v0 8 11).bind fun x7 =>
              (mSI h x7 (0 : Int32) v2).bind fun h8 =>
              (mGR h8 v0 8 11).bind fun x9 =>
              (mSI h8 x9 (1 : Int32) v3).bind fun h10 =>
              (mGR h10 v0 8 11).bind fun x11 =>
              (mSI h10 x11 (2 : Int32) v4).bind fun h12 =>
              (mGR h12 v0 8 11).bind fun x13 =>
              (mSI h12 x13 (3 : Int32) v5).bind fun h14 =>
              (f_X9_laysFour v0 v1 h14).bind fun x15 =>
              (f_X9_comes v0 ((4 : Int32) * v1) x15).bind fun x16 =>
              some (x16.1, x16.2)
            else
              some ((-1 : Int32), h)
set_option maxRecDepth 100000 in
set_option maxHeartbeats 4000000 in
theorem g_X9_four {w : mWp} {Q : Option Value → mH → Prop} (v0 : Option Nat) (v1 : Int32) (v2 : Int32) (v3 : Int32) (v4 : Int32) (v5 : Int32) (h : mH) {res : Int32 × mH} (e : f_X9_four v0 v1 v2 v3 v4 v5 h = some res) (q : (fun r : Int32 × mH => Q (some (.int r.1)) r.2) res) : mGo w kX9_four 0 0 0 [some (va_rf v0), some (.int v1), some (.int v2), some (.int v3), some (.int v4), some (.int v5)] [] h Q := by
  unfold f_X9_four at e
  obtain ⟨_, _, e⟩ := mBind e
  refine mGo.iload_n (n := 1) (x := v1) dX9_four_0 rfl rfl ?_
  refine mGo.iconst (n := 2) (v := (1 : Int32)) dX9_four_1 (by decide) rfl ?_
  refine mGo.bipush (n := 4) (v := (7 : Int32)) dX9_four_2 (by decide) rfl ?_
  obtain ⟨x1, e_x1, e⟩ := mBind e
  refine mGo.callS (n := 7) (y := zX9_in) (R' := (mRoom (1) 0 0)) (as := [.int v1, .int (1 : Int32), .int (7 : Int32)]) (st := []) dX9_four_4 sc_RX9_82 rfl (e_X9_in v1 (1 : Int32) (7 : Int32) h e_x1) (mFit_of rfl (Nat.le_of_ble_eq_true rfl) (by decide) (Nat.le_of_ble_eq_true rfl) (Nat.le_of_ble_eq_true rfl)) (Nat.le_of_ble_eq_true rfl) rfl rfl ?_
  intro _ _ hq
  rw [hq.1, hq.2]
  show mGo w kX9_four 0 0 7 [some (va_rf v0), some (.int v1), some (.int v2), some (.int v3), some (.int v4), some (.int v5)] [.int x1] h Q
  refine mGo.if_eq (tgt := 51) (n := 10) dX9_four_7 (by decide) rfl (fun hc => ?_) (fun hc => ?_)
  · replace e := mIft hc e
    refine mGo.iconst (n := 52) (v := (-1 : Int32)) dX9_four_51 (by decide) rfl ?_
    cases e
    exact mGo.iret dX9_four_52 rfl (Nat.le_of_ble_eq_true rfl) (Nat.le_of_ble_eq_true rfl) q
  · replace e := mIff hc e
    refine mGo.iload_n (n := 11) (x := v2) dX9_four_10 rfl rfl ?_
    refine mGo.iload_n (n := 12) (x := v1) dX9_four_11 rfl rfl ?_
    obtain ⟨x2, e_x2, e⟩ := mBind e
    refine mGo.callS (n := 15) (y := zX9_isRow) (R' := (mRoom (1) 0 0)) (as := [.int v2, .int v1]) (st := []) dX9_four_12 sc_RX9_160 rfl (e_X9_isRow v2 v1 h e_x2) (mFit_of rfl (Nat.le_of_ble_eq_true rfl) (by decide) (Nat.le_of_ble_eq_true rfl) (Nat.le_of_ble_eq_true rfl)) (Nat.le_of_ble_eq_true rfl) rfl rfl ?_
    intro _ _ hq
    rw [hq.1, hq.2]
    show mGo w kX9_four 0 0 15 [some (va_rf v0), some (.int v1), some (.int v2), some (.int v3), some (.int v4), some (.int v5)] [.int x2] h Q
    refine mGo.if_eq (tgt := 51) (n := 18) dX9_four_15 (by decide) rfl (fun hc => ?_) (fun hc => ?_)
    · replace e := mIft hc e
      refine mGo.iconst (n := 52) (v := (-1 : Int32)) dX9_four_51 (by decide) rfl ?_
      cases e
      exact mGo.iret dX9_four_52 rfl (Nat.le_of_ble_eq_true rfl) (Nat.le_of_ble_eq_true rfl) q
    · replace e := mIff hc e
      refine mGo.iload_n (n := 19) (x := v3) dX9_four_18 rfl rfl ?_
      refine mGo.iload_n (n := 20) (x := v1) dX9_four_19 rfl rfl ?_
      obtain ⟨x3, e_x3, e⟩ := mBind e
      refine mGo.callS (n := 23) (y := zX9_isRow) (R' := (mRoom (1) 0 0)) (as := [.int v3, .int v1]) (st := []) dX9_four_20 sc_RX9_160 rfl (e_X9_isRow v3 v1 h e_x3) (mFit_of rfl (Nat.le_of_ble_eq_true rfl) (by decide) (Nat.le_of_ble_eq_true rfl) (Nat.le_of_ble_eq_true rfl)) (Nat.le_of_ble_eq_true rfl) rfl rfl ?_
      intro _ _ hq
      rw [hq.1, hq.2]
      show mGo w kX9_four 0 0 23 [some (va_rf v0), some (.int v1), some (.int v2), some (.int v3), some (.int v4), some (.int v5)] [.int x3] h Q
      refine mGo.if_eq (tgt := 51) (n := 26) dX9_four_23 (by decide) rfl (fun hc => ?_) (fun hc => ?_)
      · replace e := mIft hc e
        refine mGo.iconst (n := 52) (v := (-1 : Int32)) dX9_four_51 (by decide) rfl ?_
        cases e
        exact mGo.iret dX9_four_52 rfl (Nat.le_of_ble_eq_true rfl) (Nat.le_of_ble_eq_true rfl) q
      · replace e := mIff hc e
        refine mGo.iload (n := 28) (x := v4) dX9_four_26 rfl rfl ?_
        refine mGo.iload_n (n := 29) (x := v1) dX9_four_28 rfl rfl ?_
        obtain ⟨x4, e_x4, e⟩ := mBind e
        refine mGo.callS (n := 32) (y := zX9_isRow) (R' := (mRoom (1) 0 0)) (as := [.int v4, .int v1]) (st := []) dX9_four_29 sc_RX9_160 rfl (e_X9_isRow v4 v1 h e_x4) (mFit_of rfl (Nat.le_of_ble_eq_true rfl) (by decide) (Nat.le_of_ble_eq_true rfl) (Nat.le_of_ble_eq_true rfl)) (Nat.le_of_ble_eq_true rfl) rfl rfl ?_
        intro _ _ hq
        rw [hq.1, hq.2]
        show mGo w kX9_four 0 0 32 [some (va_rf v0), some (.int v1), some (.int v2), some (.int v3), some (.int v4), some (.int v5)] [.int x4] h Q
        refine mGo.if_eq (tgt := 51) (n := 35) dX9_four_32 (by decide) rfl (fun hc => ?_) (fun hc => ?_)
        · replace e := mIft hc e
          refine mGo.iconst (n := 52) (v := (-1 : Int32)) dX9_four_51 (by decide) rfl ?_
          cases e
          exact mGo.iret dX9_four_52 rfl (Nat.le_of_ble_eq_true rfl) (Nat.le_of_ble_eq_true rfl) q
        · replace e := mIff hc e
          refine mGo.iload (n := 37) (x := v5) dX9_four_35 rfl rfl ?_
          refine mGo.iload_n (n := 38) (x := v1) dX9_four_37 rfl rfl ?_
          obtain ⟨x5, e_x5, e⟩ := mBind e
          refine mGo.callS (n := 41) (y := zX9_isRow) (R' := (mRoom (1) 0 0)) (as := [.int v5, .int v1]) (st := []) dX9_four_38 sc_RX9_160 rfl (e_X9_isRow v5 v1 h e_x5) (mFit_of rfl (Nat.le_of_ble_eq_true rfl) (by decide) (Nat.le_of_ble_eq_true rfl) (Nat.le_of_ble_eq_true rfl)) (Nat.le_of_ble_eq_true rfl) rfl rfl ?_
          intro _ _ hq
          rw [hq.1, hq.2]
          show mGo w kX9_four 0 0 41 [some (va_rf v0), some (.int v1), some (.int v2), some (.int v3), some (.int v4), some (.int v5)] [.int x5] h Q
          refine mGo.if_eq (tgt := 51) (n := 44) dX9_four_41 (by decide) rfl (fun hc => ?_) (fun hc => ?_)
          · replace e := mIft hc e
            refine mGo.iconst (n := 52) (v := (-1 : Int32)) dX9_four_51 (by decide) rfl ?_
            cases e
            exact mGo.iret dX9_four_52 rfl (Nat.le_of_ble_eq_true rfl) (Nat.le_of_ble_eq_true rfl) q
          · replace e := mIff hc e
            refine mGo.aload_n (n := 45) (r := v0) dX9_four_44 rfl rfl ?_
            obtain ⟨x6, e_x6, e⟩ := mBind e
            refine mGo.callV (n := 48) (y := zX9_isFull) (R' := (mRoom (2) 0 0)) (as := []) (st := []) (r0 := v0) dX9_four_45 sc_RX9_116 rfl (s_X9_isFull v0 h e_x6) (e_X9_isFull v0 h e_x6) (mFit_of rfl (Nat.le_of_ble_eq_true rfl) (by decide) (Nat.le_of_ble_eq_true rfl) (Nat.le_of_ble_eq_true rfl)) (Nat.le_of_ble_eq_true rfl) rfl rfl ?_
            intro _ _ hq
            rw [hq.1, hq.2]
            show mGo w kX9_four 0 0 48 [some (va_rf v0), some (.int v1), some (.int v2), some (.int v3), some (.int v4), some (.int v5)] [.int x6] h Q
            refine mGo.if_eq (tgt := 53) (n := 51) dX9_four_48 (by decide) rfl (fun hc => ?_) (fun hc => ?_)
            · replace e := mIft hc e
              refine mGo.aload_n (n := 54) (r := v0) dX9_four_53 rfl rfl ?_
              obtain ⟨x7, e_x7, e⟩ := mBind e
              refine mGo.getR (n := 57) dX9_four_54 sf_RX9_41 e_x7 rfl ?_
              refine mGo.iconst (n := 58) (v := (0 : Int32)) dX9_four_57 (by decide) rfl ?_
              refine mGo.iload_n (n := 59) (x := v2) dX9_four_58 rfl rfl ?_
              obtain ⟨h8, e_h8, e⟩ := mBind e
              refine mGo.iast (n := 60) dX9_four_59 e_h8 rfl ?_
              refine mGo.aload_n (n := 61) (r := v0) dX9_four_60 rfl rfl ?_
              obtain ⟨x9, e_x9, e⟩ := mBind e
              refine mGo.getR (n := 64) dX9_four_61 sf_RX9_41 e_x9 rfl ?_
              refine mGo.iconst (n := 65) (v := (1 : Int32)) dX9_four_64 (by decide) rfl ?_
              refine mGo.iload_n (n := 66) (x := v3) dX9_four_65 rfl rfl ?_
              obtain ⟨h10, e_h10, e⟩ := mBind e
              refine mGo.iast (n := 67) dX9_four_66 e_h10 rfl ?_
              refine mGo.aload_n (n := 68) (r := v0) dX9_four_67 rfl rfl ?_
              obtain ⟨x11, e_x11, e⟩ := mBind e
              refine mGo.getR (n := 71) dX9_four_68 sf_RX9_41 e_x11 rfl ?_
              refine mGo.iconst (n := 72) (v := (2 : Int32)) dX9_four_71 (by decide) rfl ?_
              refine mGo.iload (n := 74) (x := v4) dX9_four_72 rfl rfl ?_
              obtain ⟨h12, e_h12, e⟩ := mBind e
              refine mGo.iast (n := 75) dX9_four_74 e_h12 rfl ?_
              refine mGo.aload_n (n := 76) (r := v0) dX9_four_75 rfl rfl ?_
              obtain ⟨x13, e_x13, e⟩ := mBind e
              refine mGo.getR (n := 79) dX9_four_76 sf_RX9_41 e_x13 rfl ?_
              refine mGo.iconst (n := 80) (v := (3 : Int32)) dX9_four_79 (by decide) rfl ?_
              refine mGo.iload (n := 82) (x := v5) dX9_four_80 rfl rfl ?_
              obtain ⟨h14, e_h14, e⟩ := mBind e
              refine mGo.iast (n := 83) dX9_four_82 e_h14 rfl ?_
              refine mGo.aload_n (n := 84) (r := v0) dX9_four_83 rfl rfl ?_
              refine mGo.iload_n (n := 85) (x := v1) dX9_four_84 rfl rfl ?_
              obtain ⟨x15, e_x15, e⟩ := mBind e
              refine mGo.callV (n := 88) (y := zX9_laysFour) (R' := (mRoom (2) 0 0)) (as := [.int v1]) (st := []) (r0 := v0) dX9_four_85 sc_RX9_163 rfl (s_X9_laysFour v0 v1 h14 e_x15) (e_X9_laysFour v0 v1 h14 e_x15) (mFit_of rfl (Nat.le_of_ble_eq_true rfl) (by decide) (Nat.le_of_ble_eq_true rfl) (Nat.le_of_ble_eq_true rfl)) (Nat.le_of_ble_eq_true rfl) rfl rfl ?_
              intro _ _ hq
              rw [hq.1, hq.2]
              show mGo w kX9_four 0 0 88 [some (va_rf v0), some (.int v1), some (.int v2), some (.int v3), some (.int v4), some (.int v5)] [] x15 Q
              refine mGo.aload_n (n := 89) (r := v0) dX9_four_88 rfl rfl ?_
              refine mGo.iconst (n := 90) (v := (4 : Int32)) dX9_four_89 (by decide) rfl ?_
              refine mGo.iload_n (n := 91) (x := v1) dX9_four_90 rfl rfl ?_
              refine mGo.imul (n := 92) dX9_four_91 rfl ?_
              obtain ⟨x16, e_x16, e⟩ := mBind e
              refine mGo.callV (n := 95) (y := zX9_comes) (R' := (mRoom (2) 0 0)) (as := [.int ((4 : Int32) * v1)]) (st := []) (r0 := v0) dX9_four_92 sc_RX9_126 rfl (s_X9_comes v0 ((4 : Int32) * v1) x15 e_x16) (e_X9_comes v0 ((4 : Int32) * v1) x15 e_x16) (mFit_of rfl (Nat.le_of_ble_eq_true rfl) (by decide) (Nat.le_of_ble_eq_true rfl) (Nat.le_of_ble_eq_true rfl)) (Nat.le_of_ble_eq_true rfl) rfl rfl ?_
              intro _ _ hq
              rw [hq.1, hq.2]
              show mGo w kX9_four 0 0 95 [some (va_rf v0), some (.int v1), some (.int v2), some (.int v3), some (.int v4), some (.int v5)] [.int x16.1] x16.2 Q
              cases e
              exact mGo.iret dX9_four_95 rfl (Nat.le_of_ble_eq_true rfl) (Nat.le_of_ble_eq_true rfl) q
            · replace e := mIff hc e
              refine mGo.iconst (n := 52) (v := (-1 : Int32)) dX9_four_51 (by decide) rfl ?_
              cases e
              exact mGo.iret dX9_four_52 rfl (Nat.le_of_ble_eq_true rfl) (Nat.le_of_ble_eq_true rfl) q
theorem e_X9_four {w : mWp} (v0 : Option Nat) (v1 : Int32) (v2 : Int32) (v3 : Int32) (v4 : Int32) (v5 : Int32) (h : mH) {res : Int32 × mH} (e : f_X9_four v0 v1 v2 v3 v4 v5 h = some res) : mEx w zX9_four (mRoom 3 0 0) [va_rf v0, .int v1, .int v2, .int v3, .int v4, .int v5] h (fun r h2 => r = some (.int res.1) ∧ h2 = res.2) := by
  refine mEx.of (by decide +kernel) (show mEnt [va_rf v0, .int v1, .int v2, .int v3, .int v4, .int v5] 6 = [some (va_rf v0), some (.int v1), some (.int v2), some (.int v3), some (.int v4), some (.int v5)] by rw [mEnt_r, mEnt_i, mEnt_i, mEnt_i, mEnt_i, mEnt_i] <;> rfl) (by simp only [List.map_cons, List.map_nil, mRfc, mCi, mCj, List.sum_cons, List.sum_nil]; exact Nat.le_of_ble_eq_true rfl) ?_
  refine g_X9_four v0 v1 v2 v3 v4 v5 h e ?_
  exact ⟨rfl, rfl⟩
theorem s_X9_four (v0 : Option Nat) (v1 : Int32) (v2 : Int32) (v3 : Int32) (v4 : Int32) (v5 : Int32) (h : mH) {res : Int32 × mH} (e : f_X9_four v0 v1 v2 v3 v4 v5 h = some res) : mIs h v0 8 = some () := by
  unfold f_X9_four at e
  obtain ⟨u, e1, _⟩ := mBind e
  cases u
  exact e1
-- X9_bordered
def kX9_bordered : mK := (cX9_bordered, RX9, 5, some (.int), "bordered", mRoom 3 0 0)
def zX9_bordered : mY := (yX9_bordered, cX9_bordered, 5, some (.int))
def f_X9_bordered_b41 (v0 : Option Nat) (v1 : Int32) (v2 : Int32) (v3 : Int32) (v4 : Int32) (h : mH) : Option ((Int32 × mH) ⊕ ((Int32 × mH) ⊕ (Int32 × mH))) :=
  if v1 ≤ v4 then
    some (Sum.inr (Sum.inl ((v3 + 1), h)))
  else
    if v1 = 0 then none else
    (f_X9_has v2 (mRem ((v4 - v3) + v1) v1)).bind fun x2 =>
    (f_X9_lays v0 (v3 + (1 : Int32)) (v4 + (1 : Int32)) x2 h).bind fun x3 =>
    some (Sum.inl ((v4 + 1), x3))
set_option maxRecDepth 100000 in
set_option maxHeartbeats 4000000 in
theorem g_X9_bordered_b41 {w : mWp} {Q : Option Value → mH → Prop} (v0 : Option Nat) (v1 : Int32) (v2 : Int32) (v3 : Int32) (v4 : Int32) (h : mH) {res : (Int32 × mH) ⊕ ((Int32 × mH) ⊕ (Int32 × mH))} (e : f_X9_bordered_b41 v0 v1 v2 v3 v4 h = some res) (q : (Sum.elim (fun x : Int32 × mH => mGo w kX9_bordered 0 0 41 [some (va_rf v0), some (.int v1), some (.int v2), some (.int v3), some (.int x.1)] [] x.2 Q) (Sum.elim (fun x : Int32 × mH => mGo w kX9_bordered 0 0 33 [some (va_rf v0), some (.int v1), some (.int v2), some (.int x.1), none] [] x.2 Q) (fun r : Int32 × mH => Q (some (.int r.1)) r.2))) res) : mGo w kX9_bordered 0 0 41 [some (va_rf v0), some (.int v1), some (.int v2), some (.int v3), some (.int v4)] [] h Q := by
  unfold f_X9_bordered_b41 at e
  refine mGo.iload (n := 43) (x := v4) dX9_bordered_41 rfl rfl ?_
  refine mGo.iload_n (n := 44) (x := v1) dX9_bordered_43 rfl rfl ?_
  refine mGo.icmp_ge (tgt := 76) (n := 47) dX9_bordered_44 (by decide) rfl (fun hc => ?_) (fun hc => ?_)
  · replace e := mIft hc e
    refine mGo.iinc (n := 79) (x := v3) (v := (v3 + 1)) (ls' := [some (va_rf v0), some (.int v1), some (.int v2), some (.int (v3 + 1)), some (.int v4)]) dX9_bordered_76 rfl rfl rfl (Nat.le_of_ble_eq_true rfl) rfl ?_
    refine mGo.goto (tgt := 33) dX9_bordered_79 (by decide) ?_
    cases e
    refine mGo.mk [true, true, true, true, false] ?_
    exact q
  · replace e := mIff hc e
    refine mGo.aload_n (n := 48) (r := v0) dX9_bordered_47 rfl rfl ?_
    refine mGo.iload_n (n := 49) (x := v3) dX9_bordered_48 rfl rfl ?_
    refine mGo.iconst (n := 50) (v := (1 : Int32)) dX9_bordered_49 (by decide) rfl ?_
    refine mGo.iadd (n := 51) dX9_bordered_50 rfl ?_
    refine mGo.iload (n := 53) (x := v4) dX9_bordered_51 rfl rfl ?_
    refine mGo.iconst (n := 54) (v := (1 : Int32)) dX9_bordered_53 (by decide) rfl ?_
    refine mGo.iadd (n := 55) dX9_bordered_54 rfl ?_
    refine mGo.iload_n (n := 56) (x := v2) dX9_bordered_55 rfl rfl ?_
    refine mGo.iload (n := 58) (x := v4) dX9_bordered_56 rfl rfl ?_
    refine mGo.iload_n (n := 59) (x := v3) dX9_bordered_58 rfl rfl ?_
    refine mGo.isub (n := 60) dX9_bordered_59 rfl ?_
    refine mGo.iload_n (n := 61) (x := v1) dX9_bordered_60 rfl rfl ?_
    refine mGo.iadd (n := 62) dX9_bordered_61 rfl ?_
    refine mGo.iload_n (n := 63) (x := v1) dX9_bordered_62 rfl rfl ?_
    obtain ⟨z1, e⟩ := mIfN e
    refine mGo.irem (n := 64) dX9_bordered_63 z1 rfl ?_
    obtain ⟨x2, e_x2, e⟩ := mBind e
    refine mGo.callS (n := 67) (y := zX9_has) (R' := (mRoom (1) 0 0)) (as := [.int v2, .int (mRem ((v4 - v3) + v1) v1)]) (st := [.int (v4 + (1 : Int32)), .int (v3 + (1 : Int32)), va_rf v0]) dX9_bordered_64 sc_RX9_94 rfl (e_X9_has v2 (mRem ((v4 - v3) + v1) v1) h e_x2) (mFit_of rfl (Nat.le_of_ble_eq_true rfl) (by decide) (Nat.le_of_ble_eq_true rfl) (Nat.le_of_ble_eq_true rfl)) (mCat8 (Nat.le_of_ble_eq_true rfl)) rfl rfl ?_
    intro _ _ hq
    rw [hq.1, hq.2]
    show mGo w kX9_bordered 0 0 67 [some (va_rf v0), some (.int v1), some (.int v2), some (.int v3), some (.int v4)] [.int x2, .int (v4 + (1 : Int32)), .int (v3 + (1 : Int32)), va_rf v0] h Q
    obtain ⟨x3, e_x3, e⟩ := mBind e
    refine mGo.callV (n := 70) (y := zX9_lays) (R' := (mRoom (1) 0 0)) (as := [.int (v3 + (1 : Int32)), .int (v4 + (1 : Int32)), .int x2]) (st := []) (r0 := v0) dX9_bordered_67 sc_RX9_150 rfl (s_X9_lays v0 (v3 + (1 : Int32)) (v4 + (1 : Int32)) x2 h e_x3) (e_X9_lays v0 (v3 + (1 : Int32)) (v4 + (1 : Int32)) x2 h e_x3) (mFit_of rfl (Nat.le_of_ble_eq_true rfl) (by decide) (Nat.le_of_ble_eq_true rfl) (Nat.le_of_ble_eq_true rfl)) (Nat.le_of_ble_eq_true rfl) rfl rfl ?_
    intro _ _ hq
    rw [hq.1, hq.2]
    show mGo w kX9_bordered 0 0 70 [some (va_rf v0), some (.int v1), some (.int v2), some (.int v3), some (.int v4)] [] x3 Q
    refine mGo.iinc (n := 73) (x := v4) (v := (v4 + 1)) (ls' := [some (va_rf v0), some (.int v1), some (.int v2), some (.int v3), some (.int (v4 + 1))]) dX9_bordered_70 rfl rfl rfl (Nat.le_of_ble_eq_true rfl) rfl ?_
    refine mGo.goto (tgt := 41) dX9_bordered_73 (by decide) ?_
    cases e
    refine mGo.mk [true, true, true, true, true] ?_
    exact q
noncomputable def f_X9_bordered_l41 (v0 : Option Nat) (v1 : Int32) (v2 : Int32) (v3 : Int32) (v4 : Int32) (h : mH) : Option ((Int32 × mH) ⊕ (Int32 × mH)) :=
  mLoop (fun x : Int32 × mH => f_X9_bordered_b41 v0 v1 v2 v3 x.1 x.2) (v4, h)
set_option maxRecDepth 100000 in
set_option maxHeartbeats 4000000 in
theorem g_X9_bordered_l41 {w : mWp} {Q : Option Value → mH → Prop} (v0 : Option Nat) (v1 : Int32) (v2 : Int32) (v3 : Int32) (v4 : Int32) (h : mH) {res : (Int32 × mH) ⊕ (Int32 × mH)} (e : f_X9_bordered_l41 v0 v1 v2 v3 v4 h = some res) (q : (Sum.elim (fun x : Int32 × mH => mGo w kX9_bordered 0 0 33 [some (va_rf v0), some (.int v1), some (.int v2), some (.int x.1), none] [] x.2 Q) (fun r : Int32 × mH => Q (some (.int r.1)) r.2)) res) : mGo w kX9_bordered 0 0 41 [some (va_rf v0), some (.int v1), some (.int v2), some (.int v3), some (.int v4)] [] h Q := by
  unfold f_X9_bordered_l41 at e
  refine mLoop_go (x := (v4, h)) (fun x : Int32 × mH => mGo w kX9_bordered 0 0 41 [some (va_rf v0), some (.int v1), some (.int v2), some (.int v3), some (.int x.1)] [] x.2 Q) (Sum.elim (fun x : Int32 × mH => mGo w kX9_bordered 0 0 33 [some (va_rf v0), some (.int v1), some (.int v2), some (.int x.1), none] [] x.2 Q) (fun r : Int32 × mH => Q (some (.int r.1)) r.2)) ?_ e q
  rintro ⟨v4, h1⟩ res e q
  exact g_X9_bordered_b41 v0 v1 v2 v3 v4 h1 e q
noncomputable def f_X9_bordered_b33 (v0 : Option Nat) (v1 : Int32) (v2 : Int32) (v3 : Int32) (h : mH) : Option ((Int32 × mH) ⊕ (Int32 × mH)) :=
  if v1 ≤ v3 then
    (f_X9_comes v0 (v1 + (1 : Int32)) h).bind fun x1 =>
    some (Sum.inr (x1.1, x1.2))
  else
    f_X9_bordered_l41 v0 v1 v2 v3 (0 : Int32) h
set_option maxRecDepth 100000 in
set_option maxHeartbeats 4000000 in
theorem g_X9_bordered_b33 {w : mWp} {Q : Option Value → mH → Prop} (v0 : Option Nat) (v1 : Int32) (v2 : Int32) (v3 : Int32) (h : mH) {res : (Int32 × mH) ⊕ (Int32 × mH)} (e : f_X9_bordered_b33 v0 v1 v2 v3 h = some res) (q : (Sum.elim (fun x : Int32 × mH => mGo w kX9_bordered 0 0 33 [some (va_rf v0), some (.int v1), some (.int v2), some (.int x.1), none] [] x.2 Q) (fun r : Int32 × mH => Q (some (.int r.1)) r.2)) res) : mGo w kX9_bordered 0 0 33 [some (va_rf v0), some (.int v1), some (.int v2), some (.int v3), none] [] h Q := by
  unfold f_X9_bordered_b33 at e
  refine mGo.iload_n (n := 34) (x := v3) dX9_bordered_33 rfl rfl ?_
  refine mGo.iload_n (n := 35) (x := v1) dX9_bordered_34 rfl rfl ?_
  refine mGo.icmp_ge (tgt := 82) (n := 38) dX9_bordered_35 (by decide) rfl (fun hc => ?_) (fun hc => ?_)
  · replace e := mIft hc e
    refine mGo.aload_n (n := 83) (r := v0) dX9_bordered_82 rfl rfl ?_
    refine mGo.iload_n (n := 84) (x := v1) dX9_bordered_83 rfl rfl ?_
    refine mGo.iconst (n := 85) (v := (1 : Int32)) dX9_bordered_84 (by decide) rfl ?_
    refine mGo.iadd (n := 86) dX9_bordered_85 rfl ?_
    obtain ⟨x1, e_x1, e⟩ := mBind e
    refine mGo.callV (n := 89) (y := zX9_comes) (R' := (mRoom (2) 0 0)) (as := [.int (v1 + (1 : Int32))]) (st := []) (r0 := v0) dX9_bordered_86 sc_RX9_126 rfl (s_X9_comes v0 (v1 + (1 : Int32)) h e_x1) (e_X9_comes v0 (v1 + (1 : Int32)) h e_x1) (mFit_of rfl (Nat.le_of_ble_eq_true rfl) (by decide) (Nat.le_of_ble_eq_true rfl) (Nat.le_of_ble_eq_true rfl)) (Nat.le_of_ble_eq_true rfl) rfl rfl ?_
    intro _ _ hq
    rw [hq.1, hq.2]
    show mGo w kX9_bordered 0 0 89 [some (va_rf v0), some (.int v1), some (.int v2), some (.int v3), none] [.int x1.1] x1.2 Q
    cases e
    exact mGo.iret dX9_bordered_89 rfl (Nat.le_of_ble_eq_true rfl) (Nat.le_of_ble_eq_true rfl) q
  · replace e := mIff hc e
    refine mGo.iconst (n := 39) (v := (0 : Int32)) dX9_bordered_38 (by decide) rfl ?_
    refine mGo.istore (n := 41) (ls' := [some (va_rf v0), some (.int v1), some (.int v2), some (.int v3), some (.int (0 : Int32))]) dX9_bordered_39 rfl (Nat.le_of_ble_eq_true rfl) rfl ?_
    refine mGo.mk [true, true, true, true, true] ?_
    exact g_X9_bordered_l41 v0 v1 v2 v3 (0 : Int32) h e q
noncomputable def f_X9_bordered_l33 (v0 : Option Nat) (v1 : Int32) (v2 : Int32) (v3 : Int32) (h : mH) : Option (Int32 × mH) :=
  mLoop (fun x : Int32 × mH => f_X9_bordered_b33 v0 v1 v2 x.1 x.2) (v3, h)
set_option maxRecDepth 100000 in
set_option maxHeartbeats 4000000 in
theorem g_X9_bordered_l33 {w : mWp} {Q : Option Value → mH → Prop} (v0 : Option Nat) (v1 : Int32) (v2 : Int32) (v3 : Int32) (h : mH) {res : Int32 × mH} (e : f_X9_bordered_l33 v0 v1 v2 v3 h = some res) (q : (fun r : Int32 × mH => Q (some (.int r.1)) r.2) res) : mGo w kX9_bordered 0 0 33 [some (va_rf v0), some (.int v1), some (.int v2), some (.int v3), none] [] h Q := by
  unfold f_X9_bordered_l33 at e
  refine mLoop_go (x := (v3, h)) (fun x : Int32 × mH => mGo w kX9_bordered 0 0 33 [some (va_rf v0), some (.int v1), some (.int v2), some (.int x.1), none] [] x.2 Q) (fun r : Int32 × mH => Q (some (.int r.1)) r.2) ?_ e q
  rintro ⟨v3, h1⟩ res e q
  exact g_X9_bordered_b33 v0 v1 v2 v3 h1 e q
noncomputable def f_X9_bordered (v0 : Option Nat) (v1 : Int32) (v2 : Int32) (h : mH) : Option (Int32 × mH) :=
  (mIs h v0 8).bind fun _ =>
  (f_X9_in v1 (1 : Int32) (27 : Int32)).bind fun x1 =>
  if x1 = 0 then
    some ((-1 : Int32), h)
  else
    (f_X9_isRow v2 v1).bind fun x2 =>
    if x2 = 0 then
      some ((-1 : Int32), h)
    else
      (f_X9_isFull v0 h).bind fun x3 =>
      if x3 = 0 then
        (f_X9_clearsMade v0 h).bind fun x4 =>
        f_X9_bordered_l33 v0 v1 v2 (0 : Int32) x4
      else
        some ((-1 : Int32), h)
set_option maxRecDepth 100000 in
set_option maxHeartbeats 4000000 in
theorem g_X9_bordered {w : mWp} {Q : Option Value → mH → Prop} (v0 : Option Nat) (v1 : Int32) (v2 : Int32) (h : mH) {res : Int32 × mH} (e : f_X9_bordered v0 v1 v2 h = some res) (q : (fun r : Int32 × mH => Q (some (.int r.1)) r.2) res) : mGo w kX9_bordered 0 0 0 [some (va_rf v0), some (.int v1), some (.int v2), none, none] [] h Q := by
  unfold f_X9_bordered at e
  obtain ⟨_, _, e⟩ := mBind e
  refine mGo.iload_n (n := 1) (x := v1) dX9_bordered_0 rfl rfl ?_
  refine mGo.iconst (n := 2) (v := (1 : Int32)) dX9_bordered_1 (by decide) rfl ?_
  refine mGo.bipush (n := 4) (v := (27 : Int32)) dX9_bordered_2 (by decide) rfl ?_
  obtain ⟨x1, e_x1, e⟩ := mBind e
  refine mGo.callS (n := 7) (y := zX9_in) (R' := (mRoom (1) 0 0)) (as := [.int v1, .int (1 : Int32), .int (27 : Int32)]) (st := []) dX9_bordered_4 sc_RX9_82 rfl (e_X9_in v1 (1 : Int32) (27 : Int32) h e_x1) (mFit_of rfl (Nat.le_of_ble_eq_true rfl) (by decide) (Nat.le_of_ble_eq_true rfl) (Nat.le_of_ble_eq_true rfl)) (Nat.le_of_ble_eq_true rfl) rfl rfl ?_
  intro _ _ hq
  rw [hq.1, hq.2]
  show mGo w kX9_bordered 0 0 7 [some (va_rf v0), some (.int v1), some (.int v2), none, none] [.int x1] h Q
  refine mGo.if_eq (tgt := 25) (n := 10) dX9_bordered_7 (by decide) rfl (fun hc => ?_) (fun hc => ?_)
  · replace e := mIft hc e
    refine mGo.iconst (n := 26) (v := (-1 : Int32)) dX9_bordered_25 (by decide) rfl ?_
    cases e
    exact mGo.iret dX9_bordered_26 rfl (Nat.le_of_ble_eq_true rfl) (Nat.le_of_ble_eq_true rfl) q
  · replace e := mIff hc e
    refine mGo.iload_n (n := 11) (x := v2) dX9_bordered_10 rfl rfl ?_
    refine mGo.iload_n (n := 12) (x := v1) dX9_bordered_11 rfl rfl ?_
    obtain ⟨x2, e_x2, e⟩ := mBind e
    refine mGo.callS (n := 15) (y := zX9_isRow) (R' := (mRoom (1) 0 0)) (as := [.int v2, .int v1]) (st := []) dX9_bordered_12 sc_RX9_160 rfl (e_X9_isRow v2 v1 h e_x2) (mFit_of rfl (Nat.le_of_ble_eq_true rfl) (by decide) (Nat.le_of_ble_eq_true rfl) (Nat.le_of_ble_eq_true rfl)) (Nat.le_of_ble_eq_true rfl) rfl rfl ?_
    intro _ _ hq
    rw [hq.1, hq.2]
    show mGo w kX9_bordered 0 0 15 [some (va_rf v0), some (.int v1), some (.int v2), none, none] [.int x2] h Q
    refine mGo.if_eq (tgt := 25) (n := 18) dX9_bordered_15 (by decide) rfl (fun hc => ?_) (fun hc => ?_)
    · replace e := mIft hc e
      refine mGo.iconst (n := 26) (v := (-1 : Int32)) dX9_bordered_25 (by decide) rfl ?_
      cases e
      exact mGo.iret dX9_bordered_26 rfl (Nat.le_of_ble_eq_true rfl) (Nat.le_of_ble_eq_true rfl) q
    · replace e := mIff hc e
      refine mGo.aload_n (n := 19) (r := v0) dX9_bordered_18 rfl rfl ?_
      obtain ⟨x3, e_x3, e⟩ := mBind e
      refine mGo.callV (n := 22) (y := zX9_isFull) (R' := (mRoom (2) 0 0)) (as := []) (st := []) (r0 := v0) dX9_bordered_19 sc_RX9_116 rfl (s_X9_isFull v0 h e_x3) (e_X9_isFull v0 h e_x3) (mFit_of rfl (Nat.le_of_ble_eq_true rfl) (by decide) (Nat.le_of_ble_eq_true rfl) (Nat.le_of_ble_eq_true rfl)) (Nat.le_of_ble_eq_true rfl) rfl rfl ?_
      intro _ _ hq
      rw [hq.1, hq.2]
      show mGo w kX9_bordered 0 0 22 [some (va_rf v0), some (.int v1), some (.int v2), none, none] [.int x3] h Q
      refine mGo.if_eq (tgt := 27) (n := 25) dX9_bordered_22 (by decide) rfl (fun hc => ?_) (fun hc => ?_)
      · replace e := mIft hc e
        refine mGo.aload_n (n := 28) (r := v0) dX9_bordered_27 rfl rfl ?_
        obtain ⟨x4, e_x4, e⟩ := mBind e
        refine mGo.callV (n := 31) (y := zX9_clearsMade) (R' := (mRoom (1) 0 0)) (as := []) (st := []) (r0 := v0) dX9_bordered_28 sc_RX9_123 rfl (s_X9_clearsMade v0 h e_x4) (e_X9_clearsMade v0 h e_x4) (mFit_of rfl (Nat.le_of_ble_eq_true rfl) (by decide) (Nat.le_of_ble_eq_true rfl) (Nat.le_of_ble_eq_true rfl)) (Nat.le_of_ble_eq_true rfl) rfl rfl ?_
        intro _ _ hq
        rw [hq.1, hq.2]
        show mGo w kX9_bordered 0 0 31 [some (va_rf v0), some (.int v1), some (.int v2), none, none] [] x4 Q
        refine mGo.iconst (n := 32) (v := (0 : Int32)) dX9_bordered_31 (by decide) rfl ?_
        refine mGo.istore_n (n := 33) (ls' := [some (va_rf v0), some (.int v1), some (.int v2), some (.int (0 : Int32)), none]) dX9_bordered_32 rfl (Nat.le_of_ble_eq_true rfl) rfl ?_
        refine mGo.mk [true, true, true, true, false] ?_
        exact g_X9_bordered_l33 v0 v1 v2 (0 : Int32) x4 e q
      · replace e := mIff hc e
        refine mGo.iconst (n := 26) (v := (-1 : Int32)) dX9_bordered_25 (by decide) rfl ?_
        cases e
        exact mGo.iret dX9_bordered_26 rfl (Nat.le_of_ble_eq_true rfl) (Nat.le_of_ble_eq_true rfl) q
theorem e_X9_bordered {w : mWp} (v0 : Option Nat) (v1 : Int32) (v2 : Int32) (h : mH) {res : Int32 × mH} (e : f_X9_bordered v0 v1 v2 h = some res) : mEx w zX9_bordered (mRoom 3 0 0) [va_rf v0, .int v1, .int v2] h (fun r h2 => r = some (.int res.1) ∧ h2 = res.2) := by
  refine mEx.of (by decide +kernel) (show mEnt [va_rf v0, .int v1, .int v2] 5 = [some (va_rf v0), some (.int v1), some (.int v2), none, none] by rw [mEnt_r, mEnt_i, mEnt_i] <;> rfl) (by simp only [List.map_cons, List.map_nil, mRfc, mCi, mCj, List.sum_cons, List.sum_nil]; exact Nat.le_of_ble_eq_true rfl) ?_
  refine g_X9_bordered v0 v1 v2 h e ?_
  exact ⟨rfl, rfl⟩
theorem s_X9_bordered (v0 : Option Nat) (v1 : Int32) (v2 : Int32) (h : mH) {res : Int32 × mH} (e : f_X9_bordered v0 v1 v2 h = some res) : mIs h v0 8 = some () := by
  unfold f_X9_bordered at e
  obtain ⟨u, e1, _⟩ := mBind e
  cases u
  exact e1
-- X9_sumOf
def kX9_sumOf : mK := (cX9_sumOf, RX9, 3, some (.int), "sumOf", mRoom 2 0 0)
def zX9_sumOf : mY := (yX9_sumOf, cX9_sumOf, 3, some (.int))
set_option maxRecDepth 100000 in
theorem sc_RX9_166 : mSS RX9 166 zX9_bitsOf 1 := ⟨Or.inl (mT_at 1003 (by decide +kernel) rfl), mT_at 1004 (by decide +kernel) rfl, mT_at 91 (by decide +kernel) rfl, mT_at 1005 (by decide +kernel) rfl, ⟨by decide +kernel, by decide +kernel, by decide +kernel⟩⟩
def f_X9_sumOf (v0 : Int32) (v1 : Int32) (v2 : Int32)  : Option (Int32) :=
  (f_X9_bitsOf (v0 ^^^ v1)).bind fun x1 =>
  some (v2 - ((2 : Int32) * x1))
set_option maxRecDepth 100000 in
set_option maxHeartbeats 4000000 in
theorem g_X9_sumOf {w : mWp} {Q : Option Value → mH → Prop} (v0 : Int32) (v1 : Int32) (v2 : Int32) (h : mH) {res : Int32} (e : f_X9_sumOf v0 v1 v2 = some res) (q : (fun r : Int32 => Q (some (.int r)) h) res) : mGo w kX9_sumOf 0 0 0 [some (.int v0), some (.int v1), some (.int v2)] [] h Q := by
  unfold f_X9_sumOf at e
  refine mGo.iload_n (n := 1) (x := v2) dX9_sumOf_0 rfl rfl ?_
  refine mGo.iconst (n := 2) (v := (2 : Int32)) dX9_sumOf_1 (by decide) rfl ?_
  refine mGo.iload_n (n := 3) (x := v0) dX9_sumOf_2 rfl rfl ?_
  refine mGo.iload_n (n := 4) (x := v1) dX9_sumOf_3 rfl rfl ?_
  refine mGo.ixor (n := 5) dX9_sumOf_4 rfl ?_
  obtain ⟨x1, e_x1, e⟩ := mBind e
  refine mGo.callS (n := 8) (y := zX9_bitsOf) (R' := (mRoom (1) 0 0)) (as := [.int (v0 ^^^ v1)]) (st := [.int (2 : Int32), .int v2]) dX9_sumOf_5 sc_RX9_166 rfl (e_X9_bitsOf (v0 ^^^ v1) h e_x1) (mFit_of rfl (Nat.le_of_ble_eq_true rfl) (by decide) (Nat.le_of_ble_eq_true rfl) (Nat.le_of_ble_eq_true rfl)) (Nat.le_of_ble_eq_true rfl) rfl rfl ?_
  intro _ _ hq
  rw [hq.1, hq.2]
  show mGo w kX9_sumOf 0 0 8 [some (.int v0), some (.int v1), some (.int v2)] [.int x1, .int (2 : Int32), .int v2] h Q
  refine mGo.imul (n := 9) dX9_sumOf_8 rfl ?_
  refine mGo.isub (n := 10) dX9_sumOf_9 rfl ?_
  cases e
  exact mGo.iret dX9_sumOf_10 rfl (Nat.le_of_ble_eq_true rfl) (Nat.le_of_ble_eq_true rfl) q
theorem e_X9_sumOf {w : mWp} (v0 : Int32) (v1 : Int32) (v2 : Int32) (h : mH) {res : Int32} (e : f_X9_sumOf v0 v1 v2 = some res) : mEx w zX9_sumOf (mRoom 2 0 0) [.int v0, .int v1, .int v2] h (fun r h2 => r = some (.int res) ∧ h2 = h) := by
  refine mEx.of (by decide +kernel) rfl (Nat.le_of_ble_eq_true rfl) ?_
  refine g_X9_sumOf v0 v1 v2 h e ?_
  exact ⟨rfl, rfl⟩
-- X9_isMadeFit
def kX9_isMadeFit : mK := (cX9_isMadeFit, RX9, 4, some (.boolean), "isMadeFit", mRoom 3 0 0)
def zX9_isMadeFit : mY := (yX9_isMadeFit, cX9_isMadeFit, 4, some (.boolean))
set_option maxRecDepth 100000 in
theorem sc_RX9_169 : mSS RX9 169 zX9_sumOf 3 := ⟨Or.inl (mT_at 1000 (by decide +kernel) rfl), mT_at 1001 (by decide +kernel) rfl, mT_at 91 (by decide +kernel) rfl, mT_at 1002 (by decide +kernel) rfl, ⟨by decide +kernel, by decide +kernel, by decide +kernel⟩⟩
def f_X9_isMadeFit_b2 (v0 : Option Nat) (v1 : Int32) (v2 : Int32) (v3 : Int32) (h : mH) : Option ((Int32) ⊕ (Int32)) :=
  if v1 ≤ v3 then
    some (Sum.inr (1 : Int32))
  else
    (mGR h v0 8 8).bind fun x1 =>
    (mAI h x1 v3).bind fun x2 =>
    (mGR h v0 8 8).bind fun x3 =>
    (mAI h x3 v1).bind fun x4 =>
    (f_X9_sumOf x2 x4 v2).bind fun x5 =>
    if x5 = 0 then
      some (Sum.inl (v3 + 1))
    else
      some (Sum.inr (0 : Int32))
set_option maxRecDepth 100000 in
set_option maxHeartbeats 4000000 in
theorem g_X9_isMadeFit_b2 {w : mWp} {Q : Option Value → mH → Prop} (v0 : Option Nat) (v1 : Int32) (v2 : Int32) (v3 : Int32) (h : mH) {res : (Int32) ⊕ (Int32)} (e : f_X9_isMadeFit_b2 v0 v1 v2 v3 h = some res) (q : (Sum.elim (fun x : Int32 => mGo w kX9_isMadeFit 0 0 2 [some (va_rf v0), some (.int v1), some (.int v2), some (.int x)] [] h Q) (fun r : Int32 => Q (some (.int r)) h)) res) : mGo w kX9_isMadeFit 0 0 2 [some (va_rf v0), some (.int v1), some (.int v2), some (.int v3)] [] h Q := by
  unfold f_X9_isMadeFit_b2 at e
  refine mGo.iload_n (n := 3) (x := v3) dX9_isMadeFit_2 rfl rfl ?_
  refine mGo.iload_n (n := 4) (x := v1) dX9_isMadeFit_3 rfl rfl ?_
  refine mGo.icmp_ge (tgt := 34) (n := 7) dX9_isMadeFit_4 (by decide) rfl (fun hc => ?_) (fun hc => ?_)
  · replace e := mIft hc e
    refine mGo.iconst (n := 35) (v := (1 : Int32)) dX9_isMadeFit_34 (by decide) rfl ?_
    cases e
    exact mGo.zret dX9_isMadeFit_35 rfl (by decide) (Nat.le_of_ble_eq_true rfl) (Nat.le_of_ble_eq_true rfl) q
  · replace e := mIff hc e
    refine mGo.aload_n (n := 8) (r := v0) dX9_isMadeFit_7 rfl rfl ?_
    obtain ⟨x1, e_x1, e⟩ := mBind e
    refine mGo.getR (n := 11) dX9_isMadeFit_8 sf_RX9_32 e_x1 rfl ?_
    refine mGo.iload_n (n := 12) (x := v3) dX9_isMadeFit_11 rfl rfl ?_
    obtain ⟨x2, e_x2, e⟩ := mBind e
    refine mGo.iald (n := 13) dX9_isMadeFit_12 e_x2 rfl ?_
    refine mGo.aload_n (n := 14) (r := v0) dX9_isMadeFit_13 rfl rfl ?_
    obtain ⟨x3, e_x3, e⟩ := mBind e
    refine mGo.getR (n := 17) dX9_isMadeFit_14 sf_RX9_32 e_x3 rfl ?_
    refine mGo.iload_n (n := 18) (x := v1) dX9_isMadeFit_17 rfl rfl ?_
    obtain ⟨x4, e_x4, e⟩ := mBind e
    refine mGo.iald (n := 19) dX9_isMadeFit_18 e_x4 rfl ?_
    refine mGo.iload_n (n := 20) (x := v2) dX9_isMadeFit_19 rfl rfl ?_
    obtain ⟨x5, e_x5, e⟩ := mBind e
    refine mGo.callS (n := 23) (y := zX9_sumOf) (R' := (mRoom (2) 0 0)) (as := [.int x2, .int x4, .int v2]) (st := []) dX9_isMadeFit_20 sc_RX9_169 rfl (e_X9_sumOf x2 x4 v2 h e_x5) (mFit_of rfl (Nat.le_of_ble_eq_true rfl) (by decide) (Nat.le_of_ble_eq_true rfl) (Nat.le_of_ble_eq_true rfl)) (Nat.le_of_ble_eq_true rfl) rfl rfl ?_
    intro _ _ hq
    rw [hq.1, hq.2]
    show mGo w kX9_isMadeFit 0 0 23 [some (va_rf v0), some (.int v1), some (.int v2), some (.int v3)] [.int x5] h Q
    refine mGo.if_eq (tgt := 28) (n := 26) dX9_isMadeFit_23 (by decide) rfl (fun hc => ?_) (fun hc => ?_)
    · replace e := mIft hc e
      refine mGo.iinc (n := 31) (x := v3) (v := (v3 + 1)) (ls' := [some (va_rf v0), some (.int v1), some (.int v2), some (.int (v3 + 1))]) dX9_isMadeFit_28 rfl rfl rfl (Nat.le_of_ble_eq_true rfl) rfl ?_
      refine mGo.goto (tgt := 2) dX9_isMadeFit_31 (by decide) ?_
      cases e
      refine mGo.mk [true, true, true, true] ?_
      exact q
    · replace e := mIff hc e
      refine mGo.iconst (n := 27) (v := (0 : Int32)) dX9_isMadeFit_26 (by decide) rfl ?_
      cases e
      exact mGo.zret dX9_isMadeFit_27 rfl (by decide) (Nat.le_of_ble_eq_true rfl) (Nat.le_of_ble_eq_true rfl) q
noncomputable def f_X9_isMadeFit_l2 (v0 : Option Nat) (v1 : Int32) (v2 : Int32) (v3 : Int32) (h : mH) : Option (Int32) :=
  mLoop (fun x : Int32 => f_X9_isMadeFit_b2 v0 v1 v2 x h) (v3)
set_option maxRecDepth 100000 in
set_option maxHeartbeats 4000000 in
theorem g_X9_isMadeFit_l2 {w : mWp} {Q : Option Value → mH → Prop} (v0 : Option Nat) (v1 : Int32) (v2 : Int32) (v3 : Int32) (h : mH) {res : Int32} (e : f_X9_isMadeFit_l2 v0 v1 v2 v3 h = some res) (q : (fun r : Int32 => Q (some (.int r)) h) res) : mGo w kX9_isMadeFit 0 0 2 [some (va_rf v0), some (.int v1), some (.int v2), some (.int v3)] [] h Q := by
  unfold f_X9_isMadeFit_l2 at e
  refine mLoop_go (x := (v3)) (fun x : Int32 => mGo w kX9_isMadeFit 0 0 2 [some (va_rf v0), some (.int v1), some (.int v2), some (.int x)] [] h Q) (fun r : Int32 => Q (some (.int r)) h) ?_ e q
  rintro v3 res e q
  exact g_X9_isMadeFit_b2 v0 v1 v2 v3 h e q
noncomputable def f_X9_isMadeFit (v0 : Option Nat) (v1 : Int32) (v2 : Int32) (h : mH) : Option (Int32) :=
  (mIs h v0 8).bind fun _ =>
  f_X9_isMadeFit_l2 v0 v1 v2 (0 : Int32) h
set_option maxRecDepth 100000 in
set_option maxHeartbeats 4000000 in
theorem g_X9_isMadeFit {w : mWp} {Q : Option Value → mH → Prop} (v0 : Option Nat) (v1 : Int32) (v2 : Int32) (h : mH) {res : Int32} (e : f_X9_isMadeFit v0 v1 v2 h = some res) (q : (fun r : Int32 => Q (some (.int r)) h) res) : mGo w kX9_isMadeFit 0 0 0 [some (va_rf v0), some (.int v1), some (.int v2), none] [] h Q := by
  unfold f_X9_isMadeFit at e
  obtain ⟨_, _, e⟩ := mBind e
  refine mGo.iconst (n := 1) (v := (0 : Int32)) dX9_isMadeFit_0 (by decide) rfl ?_
  refine mGo.istore_n (n := 2) (ls' := [some (va_rf v0), some (.int v1), some (.int v2), some (.int (0 : Int32))]) dX9_isMadeFit_1 rfl (Nat.le_of_ble_eq_true rfl) rfl ?_
  refine mGo.mk [true, true, true, true] ?_
  exact g_X9_isMadeFit_l2 v0 v1 v2 (0 : Int32) h e q
theorem e_X9_isMadeFit {w : mWp} (v0 : Option Nat) (v1 : Int32) (v2 : Int32) (h : mH) {res : Int32} (e : f_X9_isMadeFit v0 v1 v2 h = some res) : mEx w zX9_isMadeFit (mRoom 3 0 0) [va_rf v0, .int v1, .int v2] h (fun r h2 => r = some (.int res) ∧ h2 = h) := by
  refine mEx.of (by decide +kernel) (show mEnt [va_rf v0, .int v1, .int v2] 4 = [some (va_rf v0), some (.int v1), some (.int v2), none] by rw [mEnt_r, mEnt_i, mEnt_i] <;> rfl) (by simp only [List.map_cons, List.map_nil, mRfc, mCi, mCj, List.sum_cons, List.sum_nil]; exact Nat.le_of_ble_eq_true rfl) ?_
  refine g_X9_isMadeFit v0 v1 v2 h e ?_
  exact ⟨rfl, rfl⟩
theorem s_X9_isMadeFit (v0 : Option Nat) (v1 : Int32) (v2 : Int32) (h : mH) {res : Int32} (e : f_X9_isMadeFit v0 v1 v2 h = some res) : mIs h v0 8 = some () := by
  unfold f_X9_isMadeFit at e
  obtain ⟨u, e1, _⟩ := mBind e
  cases u
  exact e1
-- X9_completes
def kX9_completes : mK := (cX9_completes, RX9, 3, some (.boolean), "completes", mRoom 4 0 0)
def zX9_completes : mY := (yX9_completes, cX9_completes, 3, some (.boolean))
set_option maxRecDepth 100000 in
theorem sc_RX9_172 : mSV RX9 172 zX9_isMadeFit 2 8 := ⟨Or.inl (mT_at 996 (by decide +kernel) rfl), mT_at 998 (by decide +kernel) rfl, mT_at 53 (by decide +kernel) rfl, mT_at 91 (by decide +kernel) rfl, mT_at 999 (by decide +kernel) rfl, ⟨by decide +kernel, by decide +kernel, by decide +kernel⟩, by decide, rfl⟩
def f_X9_completes_c71 (v0 : Option Nat) (v1 : Int32) (v2 : Int32) (h : mH) : Option ((Int32 × mH) ⊕ (Int32 × mH)) :=
  (mGR h v0 8 8).bind fun x1 =>
  (mAI h x1 v2).bind fun x2 =>
  if x2 = ((1 : Int32) <<< (v1 &&& 31)) then
    some (Sum.inl ((v2 + (-1)), h))
  else
    if v2 = (v1 - (1 : Int32)) then
      some (Sum.inr ((1 : Int32), h))
    else
      (mGR h v0 8 8).bind fun x3 =>
      (mGR h v0 8 8).bind fun x4 =>
      (mAI h x4 ((v2 + 1) - (1 : Int32))).bind fun x5 =>
      (mSI h x3 (v2 + 1) x5).bind fun h6 =>
      some (Sum.inl ((v2 + 1), h6))
set_option maxRecDepth 100000 in
set_option maxHeartbeats 4000000 in
theorem g_X9_completes_c71 {w : mWp} {Q : Option Value → mH → Prop} (v0 : Option Nat) (v1 : Int32) (v2 : Int32) (h : mH) {res : (Int32 × mH) ⊕ (Int32 × mH)} (e : f_X9_completes_c71 v0 v1 v2 h = some res) (q : (Sum.elim (fun x : Int32 × mH => mGo w kX9_completes 0 0 19 [some (va_rf v0), some (.int v1), some (.int x.1)] [] x.2 Q) (fun r : Int32 × mH => Q (some (.int r.1)) r.2)) res) : mGo w kX9_completes 0 0 71 [some (va_rf v0), some (.int v1), some (.int v2)] [] h Q := by
  unfold f_X9_completes_c71 at e
  refine mGo.aload_n (n := 72) (r := v0) dX9_completes_71 rfl rfl ?_
  obtain ⟨x1, e_x1, e⟩ := mBind e
  refine mGo.getR (n := 75) dX9_completes_72 sf_RX9_32 e_x1 rfl ?_
  refine mGo.iload_n (n := 76) (x := v2) dX9_completes_75 rfl rfl ?_
  obtain ⟨x2, e_x2, e⟩ := mBind e
  refine mGo.iald (n := 77) dX9_completes_76 e_x2 rfl ?_
  refine mGo.iconst (n := 78) (v := (1 : Int32)) dX9_completes_77 (by decide) rfl ?_
  refine mGo.iload_n (n := 79) (x := v1) dX9_completes_78 rfl rfl ?_
  refine mGo.ishl (n := 80) dX9_completes_79 rfl ?_
  refine mGo.icmp_ne (tgt := 89) (n := 83) dX9_completes_80 (by decide) rfl (fun hc => ?_) (fun hc => ?_)
  · replace e := mIff hc e
    refine mGo.iload_n (n := 90) (x := v2) dX9_completes_89 rfl rfl ?_
    refine mGo.iload_n (n := 91) (x := v1) dX9_completes_90 rfl rfl ?_
    refine mGo.iconst (n := 92) (v := (1 : Int32)) dX9_completes_91 (by decide) rfl ?_
    refine mGo.isub (n := 93) dX9_completes_92 rfl ?_
    refine mGo.icmp_ne (tgt := 98) (n := 96) dX9_completes_93 (by decide) rfl (fun hc => ?_) (fun hc => ?_)
    · replace e := mIff hc e
      refine mGo.iinc (n := 101) (x := v2) (v := (v2 + 1)) (ls' := [some (va_rf v0), some (.int v1), some (.int (v2 + 1))]) dX9_completes_98 rfl rfl rfl (Nat.le_of_ble_eq_true rfl) rfl ?_
      refine mGo.aload_n (n := 102) (r := v0) dX9_completes_101 rfl rfl ?_
      obtain ⟨x3, e_x3, e⟩ := mBind e
      refine mGo.getR (n := 105) dX9_completes_102 sf_RX9_32 e_x3 rfl ?_
      refine mGo.iload_n (n := 106) (x := (v2 + 1)) dX9_completes_105 rfl rfl ?_
      refine mGo.aload_n (n := 107) (r := v0) dX9_completes_106 rfl rfl ?_
      obtain ⟨x4, e_x4, e⟩ := mBind e
      refine mGo.getR (n := 110) dX9_completes_107 sf_RX9_32 e_x4 rfl ?_
      refine mGo.iload_n (n := 111) (x := (v2 + 1)) dX9_completes_110 rfl rfl ?_
      refine mGo.iconst (n := 112) (v := (1 : Int32)) dX9_completes_111 (by decide) rfl ?_
      refine mGo.isub (n := 113) dX9_completes_112 rfl ?_
      obtain ⟨x5, e_x5, e⟩ := mBind e
      refine mGo.iald (n := 114) dX9_completes_113 e_x5 rfl ?_
      obtain ⟨h6, e_h6, e⟩ := mBind e
      refine mGo.iast (n := 115) dX9_completes_114 e_h6 rfl ?_
      refine mGo.goto (tgt := 19) dX9_completes_115 (by decide) ?_
      cases e
      refine mGo.mk [true, true, true] ?_
      exact q
    · replace e := mIft hc e
      refine mGo.iconst (n := 97) (v := (1 : Int32)) dX9_completes_96 (by decide) rfl ?_
      cases e
      exact mGo.zret dX9_completes_97 rfl (by decide) (Nat.le_of_ble_eq_true rfl) (Nat.le_of_ble_eq_true rfl) q
  · replace e := mIft hc e
    refine mGo.iinc (n := 86) (x := v2) (v := (v2 + (-1))) (ls' := [some (va_rf v0), some (.int v1), some (.int (v2 + (-1)))]) dX9_completes_83 rfl rfl rfl (Nat.le_of_ble_eq_true rfl) rfl ?_
    refine mGo.goto (tgt := 19) dX9_completes_86 (by decide) ?_
    cases e
    refine mGo.mk [true, true, true] ?_
    exact q
noncomputable def f_X9_completes_b37 (v0 : Option Nat) (v1 : Int32) (v2 : Int32) (h : mH) : Option ((mH) ⊕ ((Int32 × mH) ⊕ (Int32 × mH))) :=
  (mGR h v0 8 8).bind fun x1 =>
  (mAI h x1 v2).bind fun x2 =>
  if ((1 : Int32) <<< (v1 &&& 31)) ≤ x2 then
    (f_X9_completes_c71 v0 v1 v2 h).map (fun r => (Sum.inr r))
  else
    (f_X9_isMadeFit v0 v2 v1 h).bind fun x4 =>
    if x4 = 0 then
      (mGR h v0 8 8).bind fun x6 =>
      (mAI h x6 v2).bind fun x7 =>
      (mSI h x6 v2 (x7 + (1 : Int32))).bind fun h8 =>
      some (Sum.inl h8)
    else
      (f_X9_completes_c71 v0 v1 v2 h).map (fun r => (Sum.inr r))
set_option maxRecDepth 100000 in
set_option maxHeartbeats 4000000 in
theorem g_X9_completes_b37 {w : mWp} {Q : Option Value → mH → Prop} (v0 : Option Nat) (v1 : Int32) (v2 : Int32) (h : mH) {res : (mH) ⊕ ((Int32 × mH) ⊕ (Int32 × mH))} (e : f_X9_completes_b37 v0 v1 v2 h = some res) (q : (Sum.elim (fun x : mH => mGo w kX9_completes 0 0 37 [some (va_rf v0), some (.int v1), some (.int v2)] [] x Q) (Sum.elim (fun x : Int32 × mH => mGo w kX9_completes 0 0 19 [some (va_rf v0), some (.int v1), some (.int x.1)] [] x.2 Q) (fun r : Int32 × mH => Q (some (.int r.1)) r.2))) res) : mGo w kX9_completes 0 0 37 [some (va_rf v0), some (.int v1), some (.int v2)] [] h Q := by
  unfold f_X9_completes_b37 at e
  refine mGo.aload_n (n := 38) (r := v0) dX9_completes_37 rfl rfl ?_
  obtain ⟨x1, e_x1, e⟩ := mBind e
  refine mGo.getR (n := 41) dX9_completes_38 sf_RX9_32 e_x1 rfl ?_
  refine mGo.iload_n (n := 42) (x := v2) dX9_completes_41 rfl rfl ?_
  obtain ⟨x2, e_x2, e⟩ := mBind e
  refine mGo.iald (n := 43) dX9_completes_42 e_x2 rfl ?_
  refine mGo.iconst (n := 44) (v := (1 : Int32)) dX9_completes_43 (by decide) rfl ?_
  refine mGo.iload_n (n := 45) (x := v1) dX9_completes_44 rfl rfl ?_
  refine mGo.ishl (n := 46) dX9_completes_45 rfl ?_
  refine mGo.icmp_ge (tgt := 71) (n := 49) dX9_completes_46 (by decide) rfl (fun hc => ?_) (fun hc => ?_)
  · replace e := mIft hc e
    obtain ⟨r3, e2, rfl⟩ := mMap e
    refine mGo.mk [true, true, true] ?_
    exact g_X9_completes_c71 v0 v1 v2 h e2 q
  · replace e := mIff hc e
    refine mGo.aload_n (n := 50) (r := v0) dX9_completes_49 rfl rfl ?_
    refine mGo.iload_n (n := 51) (x := v2) dX9_completes_50 rfl rfl ?_
    refine mGo.iload_n (n := 52) (x := v1) dX9_completes_51 rfl rfl ?_
    obtain ⟨x4, e_x4, e⟩ := mBind e
    refine mGo.callV (n := 55) (y := zX9_isMadeFit) (R' := (mRoom (3) 0 0)) (as := [.int v2, .int v1]) (st := []) (r0 := v0) dX9_completes_52 sc_RX9_172 rfl (s_X9_isMadeFit v0 v2 v1 h e_x4) (e_X9_isMadeFit v0 v2 v1 h e_x4) (mFit_of rfl (Nat.le_of_ble_eq_true rfl) (by decide) (Nat.le_of_ble_eq_true rfl) (Nat.le_of_ble_eq_true rfl)) (Nat.le_of_ble_eq_true rfl) rfl rfl ?_
    intro _ _ hq
    rw [hq.1, hq.2]
    show mGo w kX9_completes 0 0 55 [some (va_rf v0), some (.int v1), some (.int v2)] [.int x4] h Q
    refine mGo.if_ne (tgt := 71) (n := 58) dX9_completes_55 (by decide) rfl (fun hc => ?_) (fun hc => ?_)
    · replace e := mIff hc e
      obtain ⟨r5, e2, rfl⟩ := mMap e
      refine mGo.mk [true, true, true] ?_
      exact g_X9_completes_c71 v0 v1 v2 h e2 q
    · replace e := mIft hc e
      refine mGo.aload_n (n := 59) (r := v0) dX9_completes_58 rfl rfl ?_
      obtain ⟨x6, e_x6, e⟩ := mBind e
      refine mGo.getR (n := 62) dX9_completes_59 sf_RX9_32 e_x6 rfl ?_
      refine mGo.iload_n (n := 63) (x := v2) dX9_completes_62 rfl rfl ?_
      refine mGo.dup2 (n := 64) dX9_completes_63 rfl (mRfc _) rfl ?_
      obtain ⟨x7, e_x7, e⟩ := mBind e
      refine mGo.iald (n := 65) dX9_completes_64 e_x7 rfl ?_
      refine mGo.iconst (n := 66) (v := (1 : Int32)) dX9_completes_65 (by decide) rfl ?_
      refine mGo.iadd (n := 67) dX9_completes_66 rfl ?_
      obtain ⟨h8, e_h8, e⟩ := mBind e
      refine mGo.iast (n := 68) dX9_completes_67 e_h8 rfl ?_
      refine mGo.goto (tgt := 37) dX9_completes_68 (by decide) ?_
      cases e
      refine mGo.mk [true, true, true] ?_
      exact q
noncomputable def f_X9_completes_l37 (v0 : Option Nat) (v1 : Int32) (v2 : Int32) (h : mH) : Option ((Int32 × mH) ⊕ (Int32 × mH)) :=
  mLoop (fun x : mH => f_X9_completes_b37 v0 v1 v2 x) (h)
set_option maxRecDepth 100000 in
set_option maxHeartbeats 4000000 in
theorem g_X9_completes_l37 {w : mWp} {Q : Option Value → mH → Prop} (v0 : Option Nat) (v1 : Int32) (v2 : Int32) (h : mH) {res : (Int32 × mH) ⊕ (Int32 × mH)} (e : f_X9_completes_l37 v0 v1 v2 h = some res) (q : (Sum.elim (fun x : Int32 × mH => mGo w kX9_completes 0 0 19 [some (va_rf v0), some (.int v1), some (.int x.1)] [] x.2 Q) (fun r : Int32 × mH => Q (some (.int r.1)) r.2)) res) : mGo w kX9_completes 0 0 37 [some (va_rf v0), some (.int v1), some (.int v2)] [] h Q := by
  unfold f_X9_completes_l37 at e
  refine mLoop_go (x := (h)) (fun x : mH => mGo w kX9_completes 0 0 37 [some (va_rf v0), some (.int v1), some (.int v2)] [] x Q) (Sum.elim (fun x : Int32 × mH => mGo w kX9_completes 0 0 19 [some (va_rf v0), some (.int v1), some (.int x.1)] [] x.2 Q) (fun r : Int32 × mH => Q (some (.int r.1)) r.2)) ?_ e q
  rintro h1 res e q
  exact g_X9_completes_b37 v0 v1 v2 h1 e q
noncomputable def f_X9_completes_b19 (v0 : Option Nat) (v1 : Int32) (v2 : Int32) (h : mH) : Option ((Int32 × mH) ⊕ (Int32 × mH)) :=
  (mGI h v0 8 7).bind fun x1 =>
  if v2 < x1 then
    some (Sum.inr ((0 : Int32), h))
  else
    (mGR h v0 8 8).bind fun x2 =>
    (mAI h x2 v2).bind fun x3 =>
    (mSI h x2 v2 (x3 + (1 : Int32))).bind fun h4 =>
    f_X9_completes_l37 v0 v1 v2 h4
set_option maxRecDepth 100000 in
set_option maxHeartbeats 4000000 in
theorem g_X9_completes_b19 {w : mWp} {Q : Option Value → mH → Prop} (v0 : Option Nat) (v1 : Int32) (v2 : Int32) (h : mH) {res : (Int32 × mH) ⊕ (Int32 × mH)} (e : f_X9_completes_b19 v0 v1 v2 h = some res) (q : (Sum.elim (fun x : Int32 × mH => mGo w kX9_completes 0 0 19 [some (va_rf v0), some (.int v1), some (.int x.1)] [] x.2 Q) (fun r : Int32 × mH => Q (some (.int r.1)) r.2)) res) : mGo w kX9_completes 0 0 19 [some (va_rf v0), some (.int v1), some (.int v2)] [] h Q := by
  unfold f_X9_completes_b19 at e
  refine mGo.iload_n (n := 20) (x := v2) dX9_completes_19 rfl rfl ?_
  refine mGo.aload_n (n := 21) (r := v0) dX9_completes_20 rfl rfl ?_
  obtain ⟨x1, e_x1, e⟩ := mBind e
  refine mGo.getI (n := 24) dX9_completes_21 sf_RX9_112 e_x1 rfl ?_
  refine mGo.icmp_lt (tgt := 118) (n := 27) dX9_completes_24 (by decide) rfl (fun hc => ?_) (fun hc => ?_)
  · replace e := mIft hc e
    refine mGo.iconst (n := 119) (v := (0 : Int32)) dX9_completes_118 (by decide) rfl ?_
    cases e
    exact mGo.zret dX9_completes_119 rfl (by decide) (Nat.le_of_ble_eq_true rfl) (Nat.le_of_ble_eq_true rfl) q
  · replace e := mIff hc e
    refine mGo.aload_n (n := 28) (r := v0) dX9_completes_27 rfl rfl ?_
    obtain ⟨x2, e_x2, e⟩ := mBind e
    refine mGo.getR (n := 31) dX9_completes_28 sf_RX9_32 e_x2 rfl ?_
    refine mGo.iload_n (n := 32) (x := v2) dX9_completes_31 rfl rfl ?_
    refine mGo.dup2 (n := 33) dX9_completes_32 rfl (mRfc _) rfl ?_
    obtain ⟨x3, e_x3, e⟩ := mBind e
    refine mGo.iald (n := 34) dX9_completes_33 e_x3 rfl ?_
    refine mGo.iconst (n := 35) (v := (1 : Int32)) dX9_completes_34 (by decide) rfl ?_
    refine mGo.iadd (n := 36) dX9_completes_35 rfl ?_
    obtain ⟨h4, e_h4, e⟩ := mBind e
    refine mGo.iast (n := 37) dX9_completes_36 e_h4 rfl ?_
    refine mGo.mk [true, true, true] ?_
    exact g_X9_completes_l37 v0 v1 v2 h4 e q
noncomputable def f_X9_completes_l19 (v0 : Option Nat) (v1 : Int32) (v2 : Int32) (h : mH) : Option (Int32 × mH) :=
  mLoop (fun x : Int32 × mH => f_X9_completes_b19 v0 v1 x.1 x.2) (v2, h)
set_option maxRecDepth 100000 in
set_option maxHeartbeats 4000000 in
theorem g_X9_completes_l19 {w : mWp} {Q : Option Value → mH → Prop} (v0 : Option Nat) (v1 : Int32) (v2 : Int32) (h : mH) {res : Int32 × mH} (e : f_X9_completes_l19 v0 v1 v2 h = some res) (q : (fun r : Int32 × mH => Q (some (.int r.1)) r.2) res) : mGo w kX9_completes 0 0 19 [some (va_rf v0), some (.int v1), some (.int v2)] [] h Q := by
  unfold f_X9_completes_l19 at e
  refine mLoop_go (x := (v2, h)) (fun x : Int32 × mH => mGo w kX9_completes 0 0 19 [some (va_rf v0), some (.int v1), some (.int x.1)] [] x.2 Q) (fun r : Int32 × mH => Q (some (.int r.1)) r.2) ?_ e q
  rintro ⟨v2, h1⟩ res e q
  exact g_X9_completes_b19 v0 v1 v2 h1 e q
noncomputable def f_X9_completes (v0 : Option Nat) (v1 : Int32) (h : mH) : Option (Int32 × mH) :=
  (mIs h v0 8).bind fun _ =>
  (mGI h v0 8 7).bind fun x1 =>
  if x1 = v1 then
    some ((1 : Int32), h)
  else
    (mGR h v0 8 8).bind fun x2 =>
    (mSI h x2 x1 (-1 : Int32)).bind fun h3 =>
    f_X9_completes_l19 v0 v1 x1 h3
set_option maxRecDepth 100000 in
set_option maxHeartbeats 4000000 in
theorem g_X9_completes {w : mWp} {Q : Option Value → mH → Prop} (v0 : Option Nat) (v1 : Int32) (h : mH) {res : Int32 × mH} (e : f_X9_completes v0 v1 h = some res) (q : (fun r : Int32 × mH => Q (some (.int r.1)) r.2) res) : mGo w kX9_completes 0 0 0 [some (va_rf v0), some (.int v1), none] [] h Q := by
  unfold f_X9_completes at e
  obtain ⟨_, _, e⟩ := mBind e
  refine mGo.aload_n (n := 1) (r := v0) dX9_completes_0 rfl rfl ?_
  obtain ⟨x1, e_x1, e⟩ := mBind e
  refine mGo.getI (n := 4) dX9_completes_1 sf_RX9_112 e_x1 rfl ?_
  refine mGo.istore_n (n := 5) (ls' := [some (va_rf v0), some (.int v1), some (.int x1)]) dX9_completes_4 rfl (Nat.le_of_ble_eq_true rfl) rfl ?_
  refine mGo.iload_n (n := 6) (x := x1) dX9_completes_5 rfl rfl ?_
  refine mGo.iload_n (n := 7) (x := v1) dX9_completes_6 rfl rfl ?_
  refine mGo.icmp_ne (tgt := 12) (n := 10) dX9_completes_7 (by decide) rfl (fun hc => ?_) (fun hc => ?_)
  · replace e := mIff hc e
    refine mGo.aload_n (n := 13) (r := v0) dX9_completes_12 rfl rfl ?_
    obtain ⟨x2, e_x2, e⟩ := mBind e
    refine mGo.getR (n := 16) dX9_completes_13 sf_RX9_32 e_x2 rfl ?_
    refine mGo.iload_n (n := 17) (x := x1) dX9_completes_16 rfl rfl ?_
    refine mGo.iconst (n := 18) (v := (-1 : Int32)) dX9_completes_17 (by decide) rfl ?_
    obtain ⟨h3, e_h3, e⟩ := mBind e
    refine mGo.iast (n := 19) dX9_completes_18 e_h3 rfl ?_
    refine mGo.mk [true, true, true] ?_
    exact g_X9_completes_l19 v0 v1 x1 h3 e q
  · replace e := mIft hc e
    refine mGo.iconst (n := 11) (v := (1 : Int32)) dX9_completes_10 (by decide) rfl ?_
    cases e
    exact mGo.zret dX9_completes_11 rfl (by decide) (Nat.le_of_ble_eq_true rfl) (Nat.le_of_ble_eq_true rfl) q
theorem e_X9_completes {w : mWp} (v0 : Option Nat) (v1 : Int32) (h : mH) {res : Int32 × mH} (e : f_X9_completes v0 v1 h = some res) : mEx w zX9_completes (mRoom 4 0 0) [va_rf v0, .int v1] h (fun r h2 => r = some (.int res.1) ∧ h2 = res.2) := by
  refine mEx.of (by decide +kernel) (show mEnt [va_rf v0, .int v1] 3 = [some (va_rf v0), some (.int v1), none] by rw [mEnt_r, mEnt_i] <;> rfl) (by simp only [List.map_cons, List.map_nil, mRfc, mCi, mCj, List.sum_cons, List.sum_nil]; exact Nat.le_of_ble_eq_true rfl) ?_
  refine g_X9_completes v0 v1 h e ?_
  exact ⟨rfl, rfl⟩
theorem s_X9_completes (v0 : Option Nat) (v1 : Int32) (h : mH) {res : Int32 × mH} (e : f_X9_completes v0 v1 h = some res) : mIs h v0 8 = some () := by
  unfold f_X9_completes at e
  obtain ⟨u, e1, _⟩ := mBind e
  cases u
  exact e1
-- X9_completed
def kX9_completed : mK := (cX9_completed, RX9, 3, some (.int), "completed", mRoom 5 0 0)
def zX9_completed : mY := (yX9_completed, cX9_completed, 3, some (.int))
set_option maxRecDepth 100000 in
theorem sc_RX9_175 : mSV RX9 175 zX9_completes 1 8 := ⟨Or.inl (mT_at 1010 (by decide +kernel) rfl), mT_at 1012 (by decide +kernel) rfl, mT_at 54 (by decide +kernel) rfl, mT_at 91 (by decide +kernel) rfl, mT_at 1013 (by decide +kernel) rfl, ⟨by decide +kernel, by decide +kernel, by decide +kernel⟩, by decide, rfl⟩
noncomputable def f_X9_completed_b58 (v0 : Option Nat) (v1 : Int32) (v2 : Int32) (h : mH) : Option ((Int32 × mH) ⊕ (Int32 × mH)) :=
  (mGI h v0 8 7).bind fun x1 =>
  if x1 ≤ v2 then
    (f_X9_completes v0 v1 h).bind fun x2 =>
    if x2.1 = 0 then
      some (Sum.inr ((-1 : Int32), x2.2))
    else
      (mPF x2.2 v0 8 7 (.int (0 : Int32))).bind fun h3 =>
      (f_X9_comes v0 v1 h3).bind fun x4 =>
      some (Sum.inr (x4.1, x4.2))
  else
    (mGR h v0 8 8).bind fun x5 =>
    (mGR h v0 8 6).bind fun x6 =>
    (mAI h x6 v2).bind fun x7 =>
    (mSI h x5 v2 x7).bind fun h8 =>
    (f_X9_isMadeFit v0 v2 v1 h8).bind fun x9 =>
    if x9 = 0 then
      some (Sum.inr ((-1 : Int32), h8))
    else
      some (Sum.inl ((v2 + 1), h8))
set_option maxRecDepth 100000 in
set_option maxHeartbeats 4000000 in
theorem g_X9_completed_b58 {w : mWp} {Q : Option Value → mH → Prop} (v0 : Option Nat) (v1 : Int32) (v2 : Int32) (h : mH) {res : (Int32 × mH) ⊕ (Int32 × mH)} (e : f_X9_completed_b58 v0 v1 v2 h = some res) (q : (Sum.elim (fun x : Int32 × mH => mGo w kX9_completed 0 0 58 [some (va_rf v0), some (.int v1), some (.int x.1)] [] x.2 Q) (fun r : Int32 × mH => Q (some (.int r.1)) r.2)) res) : mGo w kX9_completed 0 0 58 [some (va_rf v0), some (.int v1), some (.int v2)] [] h Q := by
  unfold f_X9_completed_b58 at e
  refine mGo.iload_n (n := 59) (x := v2) dX9_completed_58 rfl rfl ?_
  refine mGo.aload_n (n := 60) (r := v0) dX9_completed_59 rfl rfl ?_
  obtain ⟨x1, e_x1, e⟩ := mBind e
  refine mGo.getI (n := 63) dX9_completed_60 sf_RX9_112 e_x1 rfl ?_
  refine mGo.icmp_ge (tgt := 95) (n := 66) dX9_completed_63 (by decide) rfl (fun hc => ?_) (fun hc => ?_)
  · replace e := mIft hc e
    refine mGo.aload_n (n := 96) (r := v0) dX9_completed_95 rfl rfl ?_
    refine mGo.iload_n (n := 97) (x := v1) dX9_completed_96 rfl rfl ?_
    obtain ⟨x2, e_x2, e⟩ := mBind e
    refine mGo.callV (n := 100) (y := zX9_completes) (R' := (mRoom (4) 0 0)) (as := [.int v1]) (st := []) (r0 := v0) dX9_completed_97 sc_RX9_175 rfl (s_X9_completes v0 v1 h e_x2) (e_X9_completes v0 v1 h e_x2) (mFit_of rfl (Nat.le_of_ble_eq_true rfl) (by decide) (Nat.le_of_ble_eq_true rfl) (Nat.le_of_ble_eq_true rfl)) (Nat.le_of_ble_eq_true rfl) rfl rfl ?_
    intro _ _ hq
    rw [hq.1, hq.2]
    show mGo w kX9_completed 0 0 100 [some (va_rf v0), some (.int v1), some (.int v2)] [.int x2.1] x2.2 Q
    refine mGo.if_ne (tgt := 105) (n := 103) dX9_completed_100 (by decide) rfl (fun hc => ?_) (fun hc => ?_)
    · replace e := mIff hc e
      refine mGo.aload_n (n := 106) (r := v0) dX9_completed_105 rfl rfl ?_
      refine mGo.iconst (n := 107) (v := (0 : Int32)) dX9_completed_106 (by decide) rfl ?_
      obtain ⟨h3, e_h3, e⟩ := mBind e
      refine mGo.putI (n := 110) dX9_completed_107 sf_RX9_112 rfl rfl e_h3 rfl ?_
      refine mGo.aload_n (n := 111) (r := v0) dX9_completed_110 rfl rfl ?_
      refine mGo.iload_n (n := 112) (x := v1) dX9_completed_111 rfl rfl ?_
      obtain ⟨x4, e_x4, e⟩ := mBind e
      refine mGo.callV (n := 115) (y := zX9_comes) (R' := (mRoom (2) 0 0)) (as := [.int v1]) (st := []) (r0 := v0) dX9_completed_112 sc_RX9_126 rfl (s_X9_comes v0 v1 h3 e_x4) (e_X9_comes v0 v1 h3 e_x4) (mFit_of rfl (Nat.le_of_ble_eq_true rfl) (by decide) (Nat.le_of_ble_eq_true rfl) (Nat.le_of_ble_eq_true rfl)) (Nat.le_of_ble_eq_true rfl) rfl rfl ?_
      intro _ _ hq
      rw [hq.1, hq.2]
      show mGo w kX9_completed 0 0 115 [some (va_rf v0), some (.int v1), some (.int v2)] [.int x4.1] x4.2 Q
      cases e
      exact mGo.iret dX9_completed_115 rfl (Nat.le_of_ble_eq_true rfl) (Nat.le_of_ble_eq_true rfl) q
    · replace e := mIft hc e
      refine mGo.iconst (n := 104) (v := (-1 : Int32)) dX9_completed_103 (by decide) rfl ?_
      cases e
      exact mGo.iret dX9_completed_104 rfl (Nat.le_of_ble_eq_true rfl) (Nat.le_of_ble_eq_true rfl) q
  · replace e := mIff hc e
    refine mGo.aload_n (n := 67) (r := v0) dX9_completed_66 rfl rfl ?_
    obtain ⟨x5, e_x5, e⟩ := mBind e
    refine mGo.getR (n := 70) dX9_completed_67 sf_RX9_32 e_x5 rfl ?_
    refine mGo.iload_n (n := 71) (x := v2) dX9_completed_70 rfl rfl ?_
    refine mGo.aload_n (n := 72) (r := v0) dX9_completed_71 rfl rfl ?_
    obtain ⟨x6, e_x6, e⟩ := mBind e
    refine mGo.getR (n := 75) dX9_completed_72 sf_RX9_29 e_x6 rfl ?_
    refine mGo.iload_n (n := 76) (x := v2) dX9_completed_75 rfl rfl ?_
    obtain ⟨x7, e_x7, e⟩ := mBind e
    refine mGo.iald (n := 77) dX9_completed_76 e_x7 rfl ?_
    obtain ⟨h8, e_h8, e⟩ := mBind e
    refine mGo.iast (n := 78) dX9_completed_77 e_h8 rfl ?_
    refine mGo.aload_n (n := 79) (r := v0) dX9_completed_78 rfl rfl ?_
    refine mGo.iload_n (n := 80) (x := v2) dX9_completed_79 rfl rfl ?_
    refine mGo.iload_n (n := 81) (x := v1) dX9_completed_80 rfl rfl ?_
    obtain ⟨x9, e_x9, e⟩ := mBind e
    refine mGo.callV (n := 84) (y := zX9_isMadeFit) (R' := (mRoom (3) 0 0)) (as := [.int v2, .int v1]) (st := []) (r0 := v0) dX9_completed_81 sc_RX9_172 rfl (s_X9_isMadeFit v0 v2 v1 h8 e_x9) (e_X9_isMadeFit v0 v2 v1 h8 e_x9) (mFit_of rfl (Nat.le_of_ble_eq_true rfl) (by decide) (Nat.le_of_ble_eq_true rfl) (Nat.le_of_ble_eq_true rfl)) (Nat.le_of_ble_eq_true rfl) rfl rfl ?_
    intro _ _ hq
    rw [hq.1, hq.2]
    show mGo w kX9_completed 0 0 84 [some (va_rf v0), some (.int v1), some (.int v2)] [.int x9] h8 Q
    refine mGo.if_ne (tgt := 89) (n := 87) dX9_completed_84 (by decide) rfl (fun hc => ?_) (fun hc => ?_)
    · replace e := mIff hc e
      refine mGo.iinc (n := 92) (x := v2) (v := (v2 + 1)) (ls' := [some (va_rf v0), some (.int v1), some (.int (v2 + 1))]) dX9_completed_89 rfl rfl rfl (Nat.le_of_ble_eq_true rfl) rfl ?_
      refine mGo.goto (tgt := 58) dX9_completed_92 (by decide) ?_
      cases e
      refine mGo.mk [true, true, true] ?_
      exact q
    · replace e := mIft hc e
      refine mGo.iconst (n := 88) (v := (-1 : Int32)) dX9_completed_87 (by decide) rfl ?_
      cases e
      exact mGo.iret dX9_completed_88 rfl (Nat.le_of_ble_eq_true rfl) (Nat.le_of_ble_eq_true rfl) q
noncomputable def f_X9_completed_l58 (v0 : Option Nat) (v1 : Int32) (v2 : Int32) (h : mH) : Option (Int32 × mH) :=
  mLoop (fun x : Int32 × mH => f_X9_completed_b58 v0 v1 x.1 x.2) (v2, h)
set_option maxRecDepth 100000 in
set_option maxHeartbeats 4000000 in
theorem g_X9_completed_l58 {w : mWp} {Q : Option Value → mH → Prop} (v0 : Option Nat) (v1 : Int32) (v2 : Int32) (h : mH) {res : Int32 × mH} (e : f_X9_completed_l58 v0 v1 v2 h = some res) (q : (fun r : Int32 × mH => Q (some (.int r.1)) r.2) res) : mGo w kX9_completed 0 0 58 [some (va_rf v0), some (.int v1), some (.int v2)] [] h Q := by
  unfold f_X9_completed_l58 at e
  refine mLoop_go (x := (v2, h)) (fun x : Int32 × mH => mGo w kX9_completed 0 0 58 [some (va_rf v0), some (.int v1), some (.int x.1)] [] x.2 Q) (fun r : Int32 × mH => Q (some (.int r.1)) r.2) ?_ e q
  rintro ⟨v2, h1⟩ res e q
  exact g_X9_completed_b58 v0 v1 v2 h1 e q
noncomputable def f_X9_completed_c27 (v0 : Option Nat) (v1 : Int32) (h : mH) : Option (Int32 × mH) :=
  (mGI h v0 8 7).bind fun x1 =>
  if v1 < x1 then
    some ((-1 : Int32), h)
  else
    (f_X9_areTold v0 v1 h).bind fun x2 =>
    if x2 = 0 then
      some ((-1 : Int32), h)
    else
      (f_X9_isFull v0 h).bind fun x3 =>
      if x3 = 0 then
        (f_X9_clearsMade v0 h).bind fun x4 =>
        f_X9_completed_l58 v0 v1 (0 : Int32) x4
      else
        some ((-1 : Int32), h)
set_option maxRecDepth 100000 in
set_option maxHeartbeats 4000000 in
theorem g_X9_completed_c27 {w : mWp} {Q : Option Value → mH → Prop} (v0 : Option Nat) (v1 : Int32) (h : mH) {res : Int32 × mH} (e : f_X9_completed_c27 v0 v1 h = some res) (q : (fun r : Int32 × mH => Q (some (.int r.1)) r.2) res) : mGo w kX9_completed 0 0 27 [some (va_rf v0), some (.int v1), none] [] h Q := by
  unfold f_X9_completed_c27 at e
  refine mGo.aload_n (n := 28) (r := v0) dX9_completed_27 rfl rfl ?_
  obtain ⟨x1, e_x1, e⟩ := mBind e
  refine mGo.getI (n := 31) dX9_completed_28 sf_RX9_112 e_x1 rfl ?_
  refine mGo.iload_n (n := 32) (x := v1) dX9_completed_31 rfl rfl ?_
  refine mGo.icmp_gt (tgt := 50) (n := 35) dX9_completed_32 (by decide) rfl (fun hc => ?_) (fun hc => ?_)
  · replace e := mIft hc e
    refine mGo.iconst (n := 51) (v := (-1 : Int32)) dX9_completed_50 (by decide) rfl ?_
    cases e
    exact mGo.iret dX9_completed_51 rfl (Nat.le_of_ble_eq_true rfl) (Nat.le_of_ble_eq_true rfl) q
  · replace e := mIff hc e
    refine mGo.aload_n (n := 36) (r := v0) dX9_completed_35 rfl rfl ?_
    refine mGo.iload_n (n := 37) (x := v1) dX9_completed_36 rfl rfl ?_
    obtain ⟨x2, e_x2, e⟩ := mBind e
    refine mGo.callV (n := 40) (y := zX9_areTold) (R' := (mRoom (1) 0 0)) (as := [.int v1]) (st := []) (r0 := v0) dX9_completed_37 sc_RX9_120 rfl (s_X9_areTold v0 v1 h e_x2) (e_X9_areTold v0 v1 h e_x2) (mFit_of rfl (Nat.le_of_ble_eq_true rfl) (by decide) (Nat.le_of_ble_eq_true rfl) (Nat.le_of_ble_eq_true rfl)) (Nat.le_of_ble_eq_true rfl) rfl rfl ?_
    intro _ _ hq
    rw [hq.1, hq.2]
    show mGo w kX9_completed 0 0 40 [some (va_rf v0), some (.int v1), none] [.int x2] h Q
    refine mGo.if_eq (tgt := 50) (n := 43) dX9_completed_40 (by decide) rfl (fun hc => ?_) (fun hc => ?_)
    · replace e := mIft hc e
      refine mGo.iconst (n := 51) (v := (-1 : Int32)) dX9_completed_50 (by decide) rfl ?_
      cases e
      exact mGo.iret dX9_completed_51 rfl (Nat.le_of_ble_eq_true rfl) (Nat.le_of_ble_eq_true rfl) q
    · replace e := mIff hc e
      refine mGo.aload_n (n := 44) (r := v0) dX9_completed_43 rfl rfl ?_
      obtain ⟨x3, e_x3, e⟩ := mBind e
      refine mGo.callV (n := 47) (y := zX9_isFull) (R' := (mRoom (2) 0 0)) (as := []) (st := []) (r0 := v0) dX9_completed_44 sc_RX9_116 rfl (s_X9_isFull v0 h e_x3) (e_X9_isFull v0 h e_x3) (mFit_of rfl (Nat.le_of_ble_eq_true rfl) (by decide) (Nat.le_of_ble_eq_true rfl) (Nat.le_of_ble_eq_true rfl)) (Nat.le_of_ble_eq_true rfl) rfl rfl ?_
      intro _ _ hq
      rw [hq.1, hq.2]
      show mGo w kX9_completed 0 0 47 [some (va_rf v0), some (.int v1), none] [.int x3] h Q
      refine mGo.if_eq (tgt := 52) (n := 50) dX9_completed_47 (by decide) rfl (fun hc => ?_) (fun hc => ?_)
      · replace e := mIft hc e
        refine mGo.aload_n (n := 53) (r := v0) dX9_completed_52 rfl rfl ?_
        obtain ⟨x4, e_x4, e⟩ := mBind e
        refine mGo.callV (n := 56) (y := zX9_clearsMade) (R' := (mRoom (1) 0 0)) (as := []) (st := []) (r0 := v0) dX9_completed_53 sc_RX9_123 rfl (s_X9_clearsMade v0 h e_x4) (e_X9_clearsMade v0 h e_x4) (mFit_of rfl (Nat.le_of_ble_eq_true rfl) (by decide) (Nat.le_of_ble_eq_true rfl) (Nat.le_of_ble_eq_true rfl)) (Nat.le_of_ble_eq_true rfl) rfl rfl ?_
        intro _ _ hq
        rw [hq.1, hq.2]
        show mGo w kX9_completed 0 0 56 [some (va_rf v0), some (.int v1), none] [] x4 Q
        refine mGo.iconst (n := 57) (v := (0 : Int32)) dX9_completed_56 (by decide) rfl ?_
        refine mGo.istore_n (n := 58) (ls' := [some (va_rf v0), some (.int v1), some (.int (0 : Int32))]) dX9_completed_57 rfl (Nat.le_of_ble_eq_true rfl) rfl ?_
        refine mGo.mk [true, true, true] ?_
        exact g_X9_completed_l58 v0 v1 (0 : Int32) x4 e q
      · replace e := mIff hc e
        refine mGo.iconst (n := 51) (v := (-1 : Int32)) dX9_completed_50 (by decide) rfl ?_
        cases e
        exact mGo.iret dX9_completed_51 rfl (Nat.le_of_ble_eq_true rfl) (Nat.le_of_ble_eq_true rfl) q
noncomputable def f_X9_completed (v0 : Option Nat) (v1 : Int32) (h : mH) : Option (Int32 × mH) :=
  (mIs h v0 8).bind fun _ =>
  if v1 = (1 : Int32) then
    f_X9_completed_c27 v0 v1 h
  else
    if v1 = (2 : Int32) then
      f_X9_completed_c27 v0 v1 h
    else
      if v1 = (4 : Int32) then
        f_X9_completed_c27 v0 v1 h
      else
        if v1 = (8 : Int32) then
          f_X9_completed_c27 v0 v1 h
        else
          if v1 = (12 : Int32) then
            f_X9_completed_c27 v0 v1 h
          else
            some ((-1 : Int32), h)
set_option maxRecDepth 100000 in
set_option maxHeartbeats 4000000 in
theorem g_X9_completed {w : mWp} {Q : Option Value → mH → Prop} (v0 : Option Nat) (v1 : Int32) (h : mH) {res : Int32 × mH} (e : f_X9_completed v0 v1 h = some res) (q : (fun r : Int32 × mH => Q (some (.int r.1)) r.2) res) : mGo w kX9_completed 0 0 0 [some (va_rf v0), some (.int v1), none] [] h Q := by
  unfold f_X9_completed at e
  obtain ⟨_, _, e⟩ := mBind e
  refine mGo.iload_n (n := 1) (x := v1) dX9_completed_0 rfl rfl ?_
  refine mGo.iconst (n := 2) (v := (1 : Int32)) dX9_completed_1 (by decide) rfl ?_
  refine mGo.icmp_eq (tgt := 27) (n := 5) dX9_completed_2 (by decide) rfl (fun hc => ?_) (fun hc => ?_)
  · replace e := mIft hc e
    refine mGo.mk [true, true, false] ?_
    exact g_X9_completed_c27 v0 v1 h e q
  · replace e := mIff hc e
    refine mGo.iload_n (n := 6) (x := v1) dX9_completed_5 rfl rfl ?_
    refine mGo.iconst (n := 7) (v := (2 : Int32)) dX9_completed_6 (by decide) rfl ?_
    refine mGo.icmp_eq (tgt := 27) (n := 10) dX9_completed_7 (by decide) rfl (fun hc => ?_) (fun hc => ?_)
    · replace e := mIft hc e
      refine mGo.mk [true, true, false] ?_
      exact g_X9_completed_c27 v0 v1 h e q
    · replace e := mIff hc e
      refine mGo.iload_n (n := 11) (x := v1) dX9_completed_10 rfl rfl ?_
      refine mGo.iconst (n := 12) (v := (4 : Int32)) dX9_completed_11 (by decide) rfl ?_
      refine mGo.icmp_eq (tgt := 27) (n := 15) dX9_completed_12 (by decide) rfl (fun hc => ?_) (fun hc => ?_)
      · replace e := mIft hc e
        refine mGo.mk [true, true, false] ?_
        exact g_X9_completed_c27 v0 v1 h e q
      · replace e := mIff hc e
        refine mGo.iload_n (n := 16) (x := v1) dX9_completed_15 rfl rfl ?_
        refine mGo.bipush (n := 18) (v := (8 : Int32)) dX9_completed_16 (by decide) rfl ?_
        refine mGo.icmp_eq (tgt := 27) (n := 21) dX9_completed_18 (by decide) rfl (fun hc => ?_) (fun hc => ?_)
        · replace e := mIft hc e
          refine mGo.mk [true, true, false] ?_
          exact g_X9_completed_c27 v0 v1 h e q
        · replace e := mIff hc e
          refine mGo.iload_n (n := 22) (x := v1) dX9_completed_21 rfl rfl ?_
          refine mGo.bipush (n := 24) (v := (12 : Int32)) dX9_completed_22 (by decide) rfl ?_
          refine mGo.icmp_ne (tgt := 50) (n := 27) dX9_completed_24 (by decide) rfl (fun hc => ?_) (fun hc => ?_)
          · replace e := mIff hc e
            refine mGo.iconst (n := 51) (v := (-1 : Int32)) dX9_completed_50 (by decide) rfl ?_
            cases e
            exact mGo.iret dX9_completed_51 rfl (Nat.le_of_ble_eq_true rfl) (Nat.le_of_ble_eq_true rfl) q
          · replace e := mIft hc e
            refine mGo.mk [true, true, false] ?_
            exact g_X9_completed_c27 v0 v1 h e q
theorem e_X9_completed {w : mWp} (v0 : Option Nat) (v1 : Int32) (h : mH) {res : Int32 × mH} (e : f_X9_completed v0 v1 h = some res) : mEx w zX9_completed (mRoom 5 0 0) [va_rf v0, .int v1] h (fun r h2 => r = some (.int res.1) ∧ h2 = res.2) := by
  refine mEx.of (by decide +kernel) (show mEnt [va_rf v0, .int v1] 3 = [some (va_rf v0), some (.int v1), none] by rw [mEnt_r, mEnt_i] <;> rfl) (by simp only [List.map_cons, List.map_nil, mRfc, mCi, mCj, List.sum_cons, List.sum_nil]; exact Nat.le_of_ble_eq_true rfl) ?_
  refine g_X9_completed v0 v1 h e ?_
  exact ⟨rfl, rfl⟩
theorem s_X9_completed (v0 : Option Nat) (v1 : Int32) (h : mH) {res : Int32 × mH} (e : f_X9_completed v0 v1 h = some res) : mIs h v0 8 = some () := by
  unfold f_X9_completed at e
  obtain ⟨u, e1, _⟩ := mBind e
  cases u
  exact e1
-- X9_copy
def kX9_copy : mK := (cX9_copy, RX9, 3, some (.int), "copy", mRoom 3 0 0)
def zX9_copy : mY := (yX9_copy, cX9_copy, 3, some (.int))
noncomputable def f_X9_copy_b19 (v0 : Option Nat) (v1 : Int32) (v2 : Int32) (h : mH) : Option ((Int32 × mH) ⊕ (Int32 × mH)) :=
  if (28 : Int32) ≤ v2 then
    (mGR h v0 8 1).bind fun x1 =>
    (mAI h x1 v1).bind fun x2 =>
    (f_X9_comes v0 x2 h).bind fun x3 =>
    some (Sum.inr (x3.1, x3.2))
  else
    (mGR h v0 8 8).bind fun x4 =>
    (f_X9_rowOf v0 v1 v2 h).bind fun x5 =>
    (mSI h x4 v2 x5).bind fun h6 =>
    some (Sum.inl ((v2 + 1), h6))
set_option maxRecDepth 100000 in
set_option maxHeartbeats 4000000 in
theorem g_X9_copy_b19 {w : mWp} {Q : Option Value → mH → Prop} (v0 : Option Nat) (v1 : Int32) (v2 : Int32) (h : mH) {res : (Int32 × mH) ⊕ (Int32 × mH)} (e : f_X9_copy_b19 v0 v1 v2 h = some res) (q : (Sum.elim (fun x : Int32 × mH => mGo w kX9_copy 0 0 19 [some (va_rf v0), some (.int v1), some (.int x.1)] [] x.2 Q) (fun r : Int32 × mH => Q (some (.int r.1)) r.2)) res) : mGo w kX9_copy 0 0 19 [some (va_rf v0), some (.int v1), some (.int v2)] [] h Q := by
  unfold f_X9_copy_b19 at e
  refine mGo.iload_n (n := 20) (x := v2) dX9_copy_19 rfl rfl ?_
  refine mGo.bipush (n := 22) (v := (28 : Int32)) dX9_copy_20 (by decide) rfl ?_
  refine mGo.icmp_ge (tgt := 43) (n := 25) dX9_copy_22 (by decide) rfl (fun hc => ?_) (fun hc => ?_)
  · replace e := mIft hc e
    refine mGo.aload_n (n := 44) (r := v0) dX9_copy_43 rfl rfl ?_
    refine mGo.aload_n (n := 45) (r := v0) dX9_copy_44 rfl rfl ?_
    obtain ⟨x1, e_x1, e⟩ := mBind e
    refine mGo.getR (n := 48) dX9_copy_45 sf_RX9_13 e_x1 rfl ?_
    refine mGo.iload_n (n := 49) (x := v1) dX9_copy_48 rfl rfl ?_
    obtain ⟨x2, e_x2, e⟩ := mBind e
    refine mGo.iald (n := 50) dX9_copy_49 e_x2 rfl ?_
    obtain ⟨x3, e_x3, e⟩ := mBind e
    refine mGo.callV (n := 53) (y := zX9_comes) (R' := (mRoom (2) 0 0)) (as := [.int x2]) (st := []) (r0 := v0) dX9_copy_50 sc_RX9_126 rfl (s_X9_comes v0 x2 h e_x3) (e_X9_comes v0 x2 h e_x3) (mFit_of rfl (Nat.le_of_ble_eq_true rfl) (by decide) (Nat.le_of_ble_eq_true rfl) (Nat.le_of_ble_eq_true rfl)) (Nat.le_of_ble_eq_true rfl) rfl rfl ?_
    intro _ _ hq
    rw [hq.1, hq.2]
    show mGo w kX9_copy 0 0 53 [some (va_rf v0), some (.int v1), some (.int v2)] [.int x3.1] x3.2 Q
    cases e
    exact mGo.iret dX9_copy_53 rfl (Nat.le_of_ble_eq_true rfl) (Nat.le_of_ble_eq_true rfl) q
  · replace e := mIff hc e
    refine mGo.aload_n (n := 26) (r := v0) dX9_copy_25 rfl rfl ?_
    obtain ⟨x4, e_x4, e⟩ := mBind e
    refine mGo.getR (n := 29) dX9_copy_26 sf_RX9_32 e_x4 rfl ?_
    refine mGo.iload_n (n := 30) (x := v2) dX9_copy_29 rfl rfl ?_
    refine mGo.aload_n (n := 31) (r := v0) dX9_copy_30 rfl rfl ?_
    refine mGo.iload_n (n := 32) (x := v1) dX9_copy_31 rfl rfl ?_
    refine mGo.iload_n (n := 33) (x := v2) dX9_copy_32 rfl rfl ?_
    obtain ⟨x5, e_x5, e⟩ := mBind e
    refine mGo.callV (n := 36) (y := zX9_rowOf) (R' := (mRoom (1) 0 0)) (as := [.int v1, .int v2]) (st := [.int v2, va_rf x4]) (r0 := v0) dX9_copy_33 sc_RX9_90 rfl (s_X9_rowOf v0 v1 v2 h e_x5) (e_X9_rowOf v0 v1 v2 h e_x5) (mFit_of rfl (Nat.le_of_ble_eq_true rfl) (by decide) (Nat.le_of_ble_eq_true rfl) (Nat.le_of_ble_eq_true rfl)) (mCat8 (Nat.le_of_ble_eq_true rfl)) rfl rfl ?_
    intro _ _ hq
    rw [hq.1, hq.2]
    show mGo w kX9_copy 0 0 36 [some (va_rf v0), some (.int v1), some (.int v2)] [.int x5, .int v2, va_rf x4] h Q
    obtain ⟨h6, e_h6, e⟩ := mBind e
    refine mGo.iast (n := 37) dX9_copy_36 e_h6 rfl ?_
    refine mGo.iinc (n := 40) (x := v2) (v := (v2 + 1)) (ls' := [some (va_rf v0), some (.int v1), some (.int (v2 + 1))]) dX9_copy_37 rfl rfl rfl (Nat.le_of_ble_eq_true rfl) rfl ?_
    refine mGo.goto (tgt := 19) dX9_copy_40 (by decide) ?_
    cases e
    refine mGo.mk [true, true, true] ?_
    exact q
noncomputable def f_X9_copy_l19 (v0 : Option Nat) (v1 : Int32) (v2 : Int32) (h : mH) : Option (Int32 × mH) :=
  mLoop (fun x : Int32 × mH => f_X9_copy_b19 v0 v1 x.1 x.2) (v2, h)
set_option maxRecDepth 100000 in
set_option maxHeartbeats 4000000 in
theorem g_X9_copy_l19 {w : mWp} {Q : Option Value → mH → Prop} (v0 : Option Nat) (v1 : Int32) (v2 : Int32) (h : mH) {res : Int32 × mH} (e : f_X9_copy_l19 v0 v1 v2 h = some res) (q : (fun r : Int32 × mH => Q (some (.int r.1)) r.2) res) : mGo w kX9_copy 0 0 19 [some (va_rf v0), some (.int v1), some (.int v2)] [] h Q := by
  unfold f_X9_copy_l19 at e
  refine mLoop_go (x := (v2, h)) (fun x : Int32 × mH => mGo w kX9_copy 0 0 19 [some (va_rf v0), some (.int v1), some (.int x.1)] [] x.2 Q) (fun r : Int32 × mH => Q (some (.int r.1)) r.2) ?_ e q
  rintro ⟨v2, h1⟩ res e q
  exact g_X9_copy_b19 v0 v1 v2 h1 e q
noncomputable def f_X9_copy (v0 : Option Nat) (v1 : Int32) (h : mH) : Option (Int32 × mH) :=
  (mIs h v0 8).bind fun _ =>
  (f_X9_isTable v0 v1 h).bind fun x1 =>
  if x1 = 0 then
    some ((-1 : Int32), h)
  else
    (f_X9_isFull v0 h).bind fun x2 =>
    if x2 = 0 then
      f_X9_copy_l19 v0 v1 (0 : Int32) h
    else
      some ((-1 : Int32), h)
set_option maxRecDepth 100000 in
set_option maxHeartbeats 4000000 in
theorem g_X9_copy {w : mWp} {Q : Option Value → mH → Prop} (v0 : Option Nat) (v1 : Int32) (h : mH) {res : Int32 × mH} (e : f_X9_copy v0 v1 h = some res) (q : (fun r : Int32 × mH => Q (some (.int r.1)) r.2) res) : mGo w kX9_copy 0 0 0 [some (va_rf v0), some (.int v1), none] [] h Q := by
  unfold f_X9_copy at e
  obtain ⟨_, _, e⟩ := mBind e
  refine mGo.aload_n (n := 1) (r := v0) dX9_copy_0 rfl rfl ?_
  refine mGo.iload_n (n := 2) (x := v1) dX9_copy_1 rfl rfl ?_
  obtain ⟨x1, e_x1, e⟩ := mBind e
  refine mGo.callV (n := 5) (y := zX9_isTable) (R' := (mRoom (2) 0 0)) (as := [.int v1]) (st := []) (r0 := v0) dX9_copy_2 sc_RX9_86 rfl (s_X9_isTable v0 v1 h e_x1) (e_X9_isTable v0 v1 h e_x1) (mFit_of rfl (Nat.le_of_ble_eq_true rfl) (by decide) (Nat.le_of_ble_eq_true rfl) (Nat.le_of_ble_eq_true rfl)) (Nat.le_of_ble_eq_true rfl) rfl rfl ?_
  intro _ _ hq
  rw [hq.1, hq.2]
  show mGo w kX9_copy 0 0 5 [some (va_rf v0), some (.int v1), none] [.int x1] h Q
  refine mGo.if_eq (tgt := 15) (n := 8) dX9_copy_5 (by decide) rfl (fun hc => ?_) (fun hc => ?_)
  · replace e := mIft hc e
    refine mGo.iconst (n := 16) (v := (-1 : Int32)) dX9_copy_15 (by decide) rfl ?_
    cases e
    exact mGo.iret dX9_copy_16 rfl (Nat.le_of_ble_eq_true rfl) (Nat.le_of_ble_eq_true rfl) q
  · replace e := mIff hc e
    refine mGo.aload_n (n := 9) (r := v0) dX9_copy_8 rfl rfl ?_
    obtain ⟨x2, e_x2, e⟩ := mBind e
    refine mGo.callV (n := 12) (y := zX9_isFull) (R' := (mRoom (2) 0 0)) (as := []) (st := []) (r0 := v0) dX9_copy_9 sc_RX9_116 rfl (s_X9_isFull v0 h e_x2) (e_X9_isFull v0 h e_x2) (mFit_of rfl (Nat.le_of_ble_eq_true rfl) (by decide) (Nat.le_of_ble_eq_true rfl) (Nat.le_of_ble_eq_true rfl)) (Nat.le_of_ble_eq_true rfl) rfl rfl ?_
    intro _ _ hq
    rw [hq.1, hq.2]
    show mGo w kX9_copy 0 0 12 [some (va_rf v0), some (.int v1), none] [.int x2] h Q
    refine mGo.if_eq (tgt := 17) (n := 15) dX9_copy_12 (by decide) rfl (fun hc => ?_) (fun hc => ?_)
    · replace e := mIft hc e
      refine mGo.iconst (n := 18) (v := (0 : Int32)) dX9_copy_17 (by decide) rfl ?_
      refine mGo.istore_n (n := 19) (ls' := [some (va_rf v0), some (.int v1), some (.int (0 : Int32))]) dX9_copy_18 rfl (Nat.le_of_ble_eq_true rfl) rfl ?_
      refine mGo.mk [true, true, true] ?_
      exact g_X9_copy_l19 v0 v1 (0 : Int32) h e q
    · replace e := mIff hc e
      refine mGo.iconst (n := 16) (v := (-1 : Int32)) dX9_copy_15 (by decide) rfl ?_
      cases e
      exact mGo.iret dX9_copy_16 rfl (Nat.le_of_ble_eq_true rfl) (Nat.le_of_ble_eq_true rfl) q
theorem e_X9_copy {w : mWp} (v0 : Option Nat) (v1 : Int32) (h : mH) {res : Int32 × mH} (e : f_X9_copy v0 v1 h = some res) : mEx w zX9_copy (mRoom 3 0 0) [va_rf v0, .int v1] h (fun r h2 => r = some (.int res.1) ∧ h2 = res.2) := by
  refine mEx.of (by decide +kernel) (show mEnt [va_rf v0, .int v1] 3 = [some (va_rf v0), some (.int v1), none] by rw [mEnt_r, mEnt_i] <;> rfl) (by simp only [List.map_cons, List.map_nil, mRfc, mCi, mCj, List.sum_cons, List.sum_nil]; exact Nat.le_of_ble_eq_true rfl) ?_
  refine g_X9_copy v0 v1 h e ?_
  exact ⟨rfl, rfl⟩
theorem s_X9_copy (v0 : Option Nat) (v1 : Int32) (h : mH) {res : Int32 × mH} (e : f_X9_copy v0 v1 h = some res) : mIs h v0 8 = some () := by
  unfold f_X9_copy at e
  obtain ⟨u, e1, _⟩ := mBind e
  cases u
  exact e1
-- X9_drop
def kX9_drop : mK := (cX9_drop, RX9, 2, some (.boolean), "drop", mRoom 3 0 0)
def zX9_drop : mY := (yX9_drop, cX9_drop, 2, some (.boolean))
def f_X9_drop (v0 : Option Nat) (v1 : Int32) (h : mH) : Option (Int32 × mH) :=
  (mIs h v0 8).bind fun _ =>
  (f_X9_isTable v0 v1 h).bind fun x1 =>
  if x1 = 0 then
    some ((0 : Int32), h)
  else
    (mGR h v0 8 1).bind fun x2 =>
    (mSI h x2 v1 (0 : Int32)).bind fun h3 =>
    some ((1 : Int32), h3)
set_option maxRecDepth 100000 in
set_option maxHeartbeats 4000000 in
theorem g_X9_drop {w : mWp} {Q : Option Value → mH → Prop} (v0 : Option Nat) (v1 : Int32) (h : mH) {res : Int32 × mH} (e : f_X9_drop v0 v1 h = some res) (q : (fun r : Int32 × mH => Q (some (.int r.1)) r.2) res) : mGo w kX9_drop 0 0 0 [some (va_rf v0), some (.int v1)] [] h Q := by
  unfold f_X9_drop at e
  obtain ⟨_, _, e⟩ := mBind e
  refine mGo.aload_n (n := 1) (r := v0) dX9_drop_0 rfl rfl ?_
  refine mGo.iload_n (n := 2) (x := v1) dX9_drop_1 rfl rfl ?_
  obtain ⟨x1, e_x1, e⟩ := mBind e
  refine mGo.callV (n := 5) (y := zX9_isTable) (R' := (mRoom (2) 0 0)) (as := [.int v1]) (st := []) (r0 := v0) dX9_drop_2 sc_RX9_86 rfl (s_X9_isTable v0 v1 h e_x1) (e_X9_isTable v0 v1 h e_x1) (mFit_of rfl (Nat.le_of_ble_eq_true rfl) (by decide) (Nat.le_of_ble_eq_true rfl) (Nat.le_of_ble_eq_true rfl)) (Nat.le_of_ble_eq_true rfl) rfl rfl ?_
  intro _ _ hq
  rw [hq.1, hq.2]
  show mGo w kX9_drop 0 0 5 [some (va_rf v0), some (.int v1)] [.int x1] h Q
  refine mGo.if_ne (tgt := 10) (n := 8) dX9_drop_5 (by decide) rfl (fun hc => ?_) (fun hc => ?_)
  · replace e := mIff hc e
    refine mGo.aload_n (n := 11) (r := v0) dX9_drop_10 rfl rfl ?_
    obtain ⟨x2, e_x2, e⟩ := mBind e
    refine mGo.getR (n := 14) dX9_drop_11 sf_RX9_13 e_x2 rfl ?_
    refine mGo.iload_n (n := 15) (x := v1) dX9_drop_14 rfl rfl ?_
    refine mGo.iconst (n := 16) (v := (0 : Int32)) dX9_drop_15 (by decide) rfl ?_
    obtain ⟨h3, e_h3, e⟩ := mBind e
    refine mGo.iast (n := 17) dX9_drop_16 e_h3 rfl ?_
    refine mGo.iconst (n := 18) (v := (1 : Int32)) dX9_drop_17 (by decide) rfl ?_
    cases e
    exact mGo.zret dX9_drop_18 rfl (by decide) (Nat.le_of_ble_eq_true rfl) (Nat.le_of_ble_eq_true rfl) q
  · replace e := mIft hc e
    refine mGo.iconst (n := 9) (v := (0 : Int32)) dX9_drop_8 (by decide) rfl ?_
    cases e
    exact mGo.zret dX9_drop_9 rfl (by decide) (Nat.le_of_ble_eq_true rfl) (Nat.le_of_ble_eq_true rfl) q
theorem e_X9_drop {w : mWp} (v0 : Option Nat) (v1 : Int32) (h : mH) {res : Int32 × mH} (e : f_X9_drop v0 v1 h = some res) : mEx w zX9_drop (mRoom 3 0 0) [va_rf v0, .int v1] h (fun r h2 => r = some (.int res.1) ∧ h2 = res.2) := by
  refine mEx.of (by decide +kernel) (show mEnt [va_rf v0, .int v1] 2 = [some (va_rf v0), some (.int v1)] by rw [mEnt_r, mEnt_i] <;> rfl) (by simp only [List.map_cons, List.map_nil, mRfc, mCi, mCj, List.sum_cons, List.sum_nil]; exact Nat.le_of_ble_eq_true rfl) ?_
  refine g_X9_drop v0 v1 h e ?_
  exact ⟨rfl, rfl⟩
theorem s_X9_drop (v0 : Option Nat) (v1 : Int32) (h : mH) {res : Int32 × mH} (e : f_X9_drop v0 v1 h = some res) : mIs h v0 8 = some () := by
  unfold f_X9_drop at e
  obtain ⟨u, e1, _⟩ := mBind e
  cases u
  exact e1
-- X9_trailAt
def kX9_trailAt : mK := (cX9_trailAt, RX9, 4, some (.int), "trailAt", mRoom 1 0 0)
def zX9_trailAt : mY := (yX9_trailAt, cX9_trailAt, 4, some (.int))
def f_X9_trailAt_c14 (v3 : Int32) (s0 : Int32) (s1 : Int32) (s2 : Int32) (h : mH) : Option (Int32) :=
  some ((s0 * (s1 + s2)) + v3)
set_option maxRecDepth 100000 in
set_option maxHeartbeats 4000000 in
theorem g_X9_trailAt_c14 {w : mWp} {Q : Option Value → mH → Prop} (v3 : Int32) (s0 : Int32) (s1 : Int32) (s2 : Int32) (h : mH) {res : Int32} (e : f_X9_trailAt_c14 v3 s0 s1 s2 h = some res) (q : (fun r : Int32 => Q (some (.int r)) h) res) : mGo w kX9_trailAt 0 0 14 [none, none, none, some (.int v3)] [.int s2, .int s1, .int s0] h Q := by
  unfold f_X9_trailAt_c14 at e
  refine mGo.iadd (n := 15) dX9_trailAt_14 rfl ?_
  refine mGo.imul (n := 16) dX9_trailAt_15 rfl ?_
  refine mGo.iload_n (n := 17) (x := v3) dX9_trailAt_16 rfl rfl ?_
  refine mGo.iadd (n := 18) dX9_trailAt_17 rfl ?_
  cases e
  exact mGo.iret dX9_trailAt_18 rfl (Nat.le_of_ble_eq_true rfl) (Nat.le_of_ble_eq_true rfl) q
def f_X9_trailAt (v0 : Option Nat) (v1 : Int32) (v2 : Int32) (v3 : Int32) (h : mH) : Option (Int32) :=
  (mIs h v0 8).bind fun _ =>
  if v2 = 0 then
    f_X9_trailAt_c14 v3 (28 : Int32) ((2 : Int32) * v1) (1 : Int32) h
  else
    f_X9_trailAt_c14 v3 (28 : Int32) ((2 : Int32) * v1) (0 : Int32) h
set_option maxRecDepth 100000 in
set_option maxHeartbeats 4000000 in
theorem g_X9_trailAt {w : mWp} {Q : Option Value → mH → Prop} (v0 : Option Nat) (v1 : Int32) (v2 : Int32) (v3 : Int32) (h : mH) {res : Int32} (e : f_X9_trailAt v0 v1 v2 v3 h = some res) (q : (fun r : Int32 => Q (some (.int r)) h) res) : mGo w kX9_trailAt 0 0 0 [some (va_rf v0), some (.int v1), some (.int v2), some (.int v3)] [] h Q := by
  unfold f_X9_trailAt at e
  obtain ⟨_, _, e⟩ := mBind e
  refine mGo.bipush (n := 2) (v := (28 : Int32)) dX9_trailAt_0 (by decide) rfl ?_
  refine mGo.iconst (n := 3) (v := (2 : Int32)) dX9_trailAt_2 (by decide) rfl ?_
  refine mGo.iload_n (n := 4) (x := v1) dX9_trailAt_3 rfl rfl ?_
  refine mGo.imul (n := 5) dX9_trailAt_4 rfl ?_
  refine mGo.iload_n (n := 6) (x := v2) dX9_trailAt_5 rfl rfl ?_
  refine mGo.if_eq (tgt := 13) (n := 9) dX9_trailAt_6 (by decide) rfl (fun hc => ?_) (fun hc => ?_)
  · replace e := mIft hc e
    refine mGo.iconst (n := 14) (v := (1 : Int32)) dX9_trailAt_13 (by decide) rfl ?_
    refine mGo.mk [false, false, false, true] ?_
    exact g_X9_trailAt_c14 v3 (28 : Int32) ((2 : Int32) * v1) (1 : Int32) h e q
  · replace e := mIff hc e
    refine mGo.iconst (n := 10) (v := (0 : Int32)) dX9_trailAt_9 (by decide) rfl ?_
    refine mGo.goto (tgt := 14) dX9_trailAt_10 (by decide) ?_
    refine mGo.mk [false, false, false, true] ?_
    exact g_X9_trailAt_c14 v3 (28 : Int32) ((2 : Int32) * v1) (0 : Int32) h e q
theorem e_X9_trailAt {w : mWp} (v0 : Option Nat) (v1 : Int32) (v2 : Int32) (v3 : Int32) (h : mH) {res : Int32} (e : f_X9_trailAt v0 v1 v2 v3 h = some res) : mEx w zX9_trailAt (mRoom 1 0 0) [va_rf v0, .int v1, .int v2, .int v3] h (fun r h2 => r = some (.int res) ∧ h2 = h) := by
  refine mEx.of (by decide +kernel) (show mEnt [va_rf v0, .int v1, .int v2, .int v3] 4 = [some (va_rf v0), some (.int v1), some (.int v2), some (.int v3)] by rw [mEnt_r, mEnt_i, mEnt_i, mEnt_i] <;> rfl) (by simp only [List.map_cons, List.map_nil, mRfc, mCi, mCj, List.sum_cons, List.sum_nil]; exact Nat.le_of_ble_eq_true rfl) ?_
  refine g_X9_trailAt v0 v1 v2 v3 h e ?_
  exact ⟨rfl, rfl⟩
theorem s_X9_trailAt (v0 : Option Nat) (v1 : Int32) (v2 : Int32) (v3 : Int32) (h : mH) {res : Int32} (e : f_X9_trailAt v0 v1 v2 v3 h = some res) : mIs h v0 8 = some () := by
  unfold f_X9_trailAt at e
  obtain ⟨u, e1, _⟩ := mBind e
  cases u
  exact e1
