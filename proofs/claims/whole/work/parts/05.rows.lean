def mUshr (x y : Int32) : Int32 := (x.toUInt32 >>> (y.toUInt32 &&& Int32.toUInt32 31)).toInt32
def mRem (x y : Int32) : Int32 := x - x / y * y
def mLushr (x : Int64) (y : Int32) : Int64 := (x.toUInt64 >>> (y.toInt64.toUInt64 &&& Int64.toUInt64 63)).toInt64
def mLshl (x : Int64) (y : Int32) : Int64 := x <<< (y.toInt64 &&& 63)
section MROWS
variable {w : mWp} {k : mK} {cu su pc n : Nat} {ls : List (Option Value)} {st : List Value} {h : mH} {Q : Option Value → mH → Prop}
theorem mGo.iconst {a : Int} {v : Int32} (hd : decode k.1 pc = .ok (.iconst a, 1)) (hv : Int32.ofInt a = v) (hn : pc + 1 = n) (kk : mGo w k cu su n ls (.int v :: st) h Q) : mGo w k cu su pc ls (st) h Q := by
  subst hn
  intro p e s m args below meth c Z H lc locs C R P F L
  exact lv_iconst C.1 C.2.1 hd hv (kk p e s m args below meth c Z H lc locs C R P F L)
theorem mGo.bipush {a : Int} {v : Int32} (hd : decode k.1 pc = .ok (.bipush a, 2)) (hv : (Int8.ofInt a).toInt32 = v) (hn : pc + 2 = n) (kk : mGo w k cu su n ls (.int v :: st) h Q) : mGo w k cu su pc ls (st) h Q := by
  subst hn
  intro p e s m args below meth c Z H lc locs C R P F L
  exact lv_bipush C.1 C.2.1 hd hv (kk p e s m args below meth c Z H lc locs C R P F L)
theorem mGo.sipush {a : Int} {v : Int32} (hd : decode k.1 pc = .ok (.sipush a, 3)) (hv : (Int16.ofInt a).toInt32 = v) (hn : pc + 3 = n) (kk : mGo w k cu su n ls (.int v :: st) h Q) : mGo w k cu su pc ls (st) h Q := by
  subst hn
  intro p e s m args below meth c Z H lc locs C R P F L
  exact lv_sipush C.1 C.2.1 hd hv (kk p e s m args below meth c Z H lc locs C R P F L)
theorem mGo.lconst {a : Fin 2} {v : Int64} (hd : decode k.1 pc = .ok (.lconst a, 1)) (hv : Int64.ofNat (a : Nat) = v) (hn : pc + 1 = n) (kk : mGo w k cu su n ls (.long v :: st) h Q) : mGo w k cu su pc ls (st) h Q := by
  subst hn
  intro p e s m args below meth c Z H lc locs C R P F L
  exact lv_lconst C.1 C.2.1 hd hv (kk p e s m args below meth c Z H lc locs C R P F L)
theorem mGo.anull (hd : decode k.1 pc = .ok (.aconst_null, 1)) (hn : pc + 1 = n) (kk : mGo w k cu su n ls (va_rf none :: st) h Q) : mGo w k cu su pc ls (st) h Q := by
  subst hn
  intro p e s m args below meth c Z H lc locs C R P F L
  exact lv_null C.1 C.2.1 hd (kk p e s m args below meth c Z H lc locs C R P F L)
theorem mGo.ldc {a : Nat} {v : Int32} (hd : decode k.1 pc = .ok (.ldc a, 2)) (hv : Cond.constant k.2.1 a v ∈ mT) (hn : pc + 2 = n) (kk : mGo w k cu su n ls (.int v :: st) h Q) : mGo w k cu su pc ls (st) h Q := by
  subst hn
  intro p e s m args below meth c Z H lc locs C R P F L
  exact lv_ldc C.1 C.2.1 C.2.2.2.1 (C.2.2.2.2.1 _ hv) hd (kk p e s m args below meth c Z H lc locs C R P F L)
theorem mGo.ldc_w {a : Nat} {v : Int32} (hd : decode k.1 pc = .ok (.ldc_w a, 3)) (hv : Cond.constant k.2.1 a v ∈ mT) (hn : pc + 3 = n) (kk : mGo w k cu su n ls (.int v :: st) h Q) : mGo w k cu su pc ls (st) h Q := by
  subst hn
  intro p e s m args below meth c Z H lc locs C R P F L
  exact lv_ldcw C.1 C.2.1 C.2.2.2.1 (C.2.2.2.2.1 _ hv) hd (kk p e s m args below meth c Z H lc locs C R P F L)
theorem mGo.ldc2_w {a : Nat} {v : Int64} (hd : decode k.1 pc = .ok (.ldc2_w a, 3)) (hv : Cond.constantLong k.2.1 a v ∈ mT) (hn : pc + 3 = n) (kk : mGo w k cu su n ls (.long v :: st) h Q) : mGo w k cu su pc ls (st) h Q := by
  subst hn
  intro p e s m args below meth c Z H lc locs C R P F L
  exact lv_ldc2 C.1 C.2.1 C.2.2.2.1 (C.2.2.2.2.1 _ hv) hd (kk p e s m args below meth c Z H lc locs C R P F L)
theorem mGo.iload_n {a : Fin 4} {x : Int32} (hd : decode k.1 pc = .ok (.iload_n a, 1)) (hl : ls[(a : Nat)]? = some (some (.int x))) (hn : pc + 1 = n) (kk : mGo w k cu su n ls (.int x :: st) h Q) : mGo w k cu su pc ls (st) h Q := by
  subst hn
  intro p e s m args below meth c Z H lc locs C R P F L
  exact lv_iload_n C.1 C.2.1 hd rfl (mKl_at L hl) (kk p e s m args below meth c Z H lc locs C R P F L)
theorem mGo.iload {a : Nat} {x : Int32} (hd : decode k.1 pc = .ok (.iload a, 2)) (hl : ls[a]? = some (some (.int x))) (hn : pc + 2 = n) (kk : mGo w k cu su n ls (.int x :: st) h Q) : mGo w k cu su pc ls (st) h Q := by
  subst hn
  intro p e s m args below meth c Z H lc locs C R P F L
  exact lv_iload C.1 C.2.1 hd (mKl_at L hl) (kk p e s m args below meth c Z H lc locs C R P F L)
theorem mGo.lload_n {a : Fin 4} {x : Int64} (hd : decode k.1 pc = .ok (.lload_n a, 1)) (hl : ls[(a : Nat)]? = some (some (.long x))) (hn : pc + 1 = n) (kk : mGo w k cu su n ls (.long x :: st) h Q) : mGo w k cu su pc ls (st) h Q := by
  subst hn
  intro p e s m args below meth c Z H lc locs C R P F L
  exact lv_lload_n C.1 C.2.1 hd rfl (mKl_at L hl) (kk p e s m args below meth c Z H lc locs C R P F L)
theorem mGo.lload {a : Nat} {x : Int64} (hd : decode k.1 pc = .ok (.lload a, 2)) (hl : ls[a]? = some (some (.long x))) (hn : pc + 2 = n) (kk : mGo w k cu su n ls (.long x :: st) h Q) : mGo w k cu su pc ls (st) h Q := by
  subst hn
  intro p e s m args below meth c Z H lc locs C R P F L
  exact lv_lload C.1 C.2.1 hd (mKl_at L hl) (kk p e s m args below meth c Z H lc locs C R P F L)
theorem mGo.aload_n {a : Fin 4} {r : Option Nat} (hd : decode k.1 pc = .ok (.aload_n a, 1)) (hl : ls[(a : Nat)]? = some (some (va_rf r))) (hn : pc + 1 = n) (kk : mGo w k cu su n ls (va_rf r :: st) h Q) : mGo w k cu su pc ls (st) h Q := by
  subst hn
  intro p e s m args below meth c Z H lc locs C R P F L
  have h1 := mKl_at L hl
  have h2 := kk p e s m args below meth c Z H lc locs C R P F L
  cases r with
  | none => exact lv_aload_nN C.1 C.2.1 hd rfl h1 h2
  | some a => exact lv_aload_n C.1 C.2.1 hd rfl h1 h2
theorem mGo.aload {a : Nat} {r : Option Nat} (hd : decode k.1 pc = .ok (.aload a, 2)) (hl : ls[a]? = some (some (va_rf r))) (hn : pc + 2 = n) (kk : mGo w k cu su n ls (va_rf r :: st) h Q) : mGo w k cu su pc ls (st) h Q := by
  subst hn
  intro p e s m args below meth c Z H lc locs C R P F L
  have h1 := mKl_at L hl
  have h2 := kk p e s m args below meth c Z H lc locs C R P F L
  cases r with
  | none => exact lv_aloadN C.1 C.2.1 hd h1 h2
  | some a => exact lv_aload C.1 C.2.1 hd h1 h2
theorem mGo.istore_n {a : Fin 4} {x : Int32} {ls' : List (Option Value)} (hd : decode k.1 pc = .ok (.istore_n a, 1)) (hs : mSt ls (a : Nat) (.int x) = ls') (hi : (a : Nat) < k.2.2.1) (hn : pc + 1 = n) (kk : mGo w k cu su n ls' st h Q) : mGo w k cu su pc ls (.int x :: st) h Q := by
  subst hn
  subst hs
  intro p e s m args below meth c Z H lc locs C R P F L
  exact lv_istore_n C.1 C.2.1 hd rfl L hi rfl (fun lc' L' => kk p e s m args below meth c Z H lc' locs C R P F (mSt_has L'))
theorem mGo.istore {a : Nat} {x : Int32} {ls' : List (Option Value)} (hd : decode k.1 pc = .ok (.istore a, 2)) (hs : mSt ls a (.int x) = ls') (hi : a < k.2.2.1) (hn : pc + 2 = n) (kk : mGo w k cu su n ls' st h Q) : mGo w k cu su pc ls (.int x :: st) h Q := by
  subst hn
  subst hs
  intro p e s m args below meth c Z H lc locs C R P F L
  exact lv_istore C.1 C.2.1 hd L hi rfl (fun lc' L' => kk p e s m args below meth c Z H lc' locs C R P F (mSt_has L'))
theorem mGo.lstore_n {a : Fin 4} {x : Int64} {ls' : List (Option Value)} (hd : decode k.1 pc = .ok (.lstore_n a, 1)) (hs : mStL ls (a : Nat) (.long x) = ls') (hi : (a : Nat) + 1 < k.2.2.1) (hn : pc + 1 = n) (kk : mGo w k cu su n ls' st h Q) : mGo w k cu su pc ls (.long x :: st) h Q := by
  subst hn
  subst hs
  intro p e s m args below meth c Z H lc locs C R P F L
  exact lv_lstore_n C.1 C.2.1 hd rfl L hi rfl (fun lc' L' => kk p e s m args below meth c Z H lc' locs C R P F (mStL_has L'))
theorem mGo.lstore {a : Nat} {x : Int64} {ls' : List (Option Value)} (hd : decode k.1 pc = .ok (.lstore a, 2)) (hs : mStL ls a (.long x) = ls') (hi : a + 1 < k.2.2.1) (hn : pc + 2 = n) (kk : mGo w k cu su n ls' st h Q) : mGo w k cu su pc ls (.long x :: st) h Q := by
  subst hn
  subst hs
  intro p e s m args below meth c Z H lc locs C R P F L
  exact lv_lstore C.1 C.2.1 hd L hi rfl (fun lc' L' => kk p e s m args below meth c Z H lc' locs C R P F (mStL_has L'))
theorem mGo.astore_n {a : Fin 4} {r : Option Nat} {ls' : List (Option Value)} (hd : decode k.1 pc = .ok (.astore_n a, 1)) (hs : mSt ls (a : Nat) (va_rf r) = ls') (hi : (a : Nat) < k.2.2.1) (hn : pc + 1 = n) (kk : mGo w k cu su n ls' st h Q) : mGo w k cu su pc ls (va_rf r :: st) h Q := by
  subst hn
  subst hs
  intro p e s m args below meth c Z H lc locs C R P F L
  cases r with
  | none => exact lv_astore_nN C.1 C.2.1 hd rfl L hi rfl (fun lc' L' => kk p e s m args below meth c Z H lc' locs C R P F (mSt_has (v := .null) L'))
  | some a0 => exact lv_astore_n C.1 C.2.1 hd rfl L hi rfl (fun lc' L' => kk p e s m args below meth c Z H lc' locs C R P F (mSt_has (v := .ref a0) L'))
theorem mGo.astore {a : Nat} {r : Option Nat} {ls' : List (Option Value)} (hd : decode k.1 pc = .ok (.astore a, 2)) (hs : mSt ls a (va_rf r) = ls') (hi : a < k.2.2.1) (hn : pc + 2 = n) (kk : mGo w k cu su n ls' st h Q) : mGo w k cu su pc ls (va_rf r :: st) h Q := by
  subst hn
  subst hs
  intro p e s m args below meth c Z H lc locs C R P F L
  cases r with
  | none => exact lv_astoreN C.1 C.2.1 hd L hi rfl (fun lc' L' => kk p e s m args below meth c Z H lc' locs C R P F (mSt_has (v := .null) L'))
  | some a0 => exact lv_astore C.1 C.2.1 hd L hi rfl (fun lc' L' => kk p e s m args below meth c Z H lc' locs C R P F (mSt_has (v := .ref a0) L'))
theorem mGo.iinc {a : Nat} {i : Int} {x v : Int32} {ls' : List (Option Value)} (hd : decode k.1 pc = .ok (.iinc a i, 3)) (hl : ls[a]? = some (some (.int x))) (hv : x + Int32.ofInt i = v) (hs : mSt ls a (.int v) = ls') (hi : a < k.2.2.1) (hn : pc + 3 = n) (kk : mGo w k cu su n ls' st h Q) : mGo w k cu su pc ls (st) h Q := by
  subst hn
  subst hs
  intro p e s m args below meth c Z H lc locs C R P F L
  obtain ⟨q, hq⟩ := List.getElem?_of_mem ((mKl_mem w ls 0 (a, .int x)).mpr ⟨a, .int x, hl, by simp [mV]⟩)
  exact lv_iinc C.1 C.2.1 hd L hq hv hi rfl (fun lc' L' => kk p e s m args below meth c Z H lc' locs C R P F (mSt_has (v := .int v) L'))
theorem mGo.iadd {x y : Int32} (hd : decode k.1 pc = .ok (.iadd, 1)) (hn : pc + 1 = n) (kk : mGo w k cu su n ls (.int (x + y) :: st) h Q) : mGo w k cu su pc ls (.int y :: .int x :: st) h Q := by
  subst hn
  intro p e s m args below meth c Z H lc locs C R P F L
  exact lv_iadd C.1 C.2.1 hd (kk p e s m args below meth c Z H lc locs C R P F L)
theorem mGo.isub {x y : Int32} (hd : decode k.1 pc = .ok (.isub, 1)) (hn : pc + 1 = n) (kk : mGo w k cu su n ls (.int (x - y) :: st) h Q) : mGo w k cu su pc ls (.int y :: .int x :: st) h Q := by
  subst hn
  intro p e s m args below meth c Z H lc locs C R P F L
  exact lv_isub C.1 C.2.1 hd (kk p e s m args below meth c Z H lc locs C R P F L)
theorem mGo.imul {x y : Int32} (hd : decode k.1 pc = .ok (.imul, 1)) (hn : pc + 1 = n) (kk : mGo w k cu su n ls (.int (x * y) :: st) h Q) : mGo w k cu su pc ls (.int y :: .int x :: st) h Q := by
  subst hn
  intro p e s m args below meth c Z H lc locs C R P F L
  exact lv_imul C.1 C.2.1 hd (kk p e s m args below meth c Z H lc locs C R P F L)
theorem mGo.iand {x y : Int32} (hd : decode k.1 pc = .ok (.iand, 1)) (hn : pc + 1 = n) (kk : mGo w k cu su n ls (.int (x &&& y) :: st) h Q) : mGo w k cu su pc ls (.int y :: .int x :: st) h Q := by
  subst hn
  intro p e s m args below meth c Z H lc locs C R P F L
  exact lv_iand C.1 C.2.1 hd (kk p e s m args below meth c Z H lc locs C R P F L)
theorem mGo.ior {x y : Int32} (hd : decode k.1 pc = .ok (.ior, 1)) (hn : pc + 1 = n) (kk : mGo w k cu su n ls (.int (x ||| y) :: st) h Q) : mGo w k cu su pc ls (.int y :: .int x :: st) h Q := by
  subst hn
  intro p e s m args below meth c Z H lc locs C R P F L
  exact lv_ior C.1 C.2.1 hd (kk p e s m args below meth c Z H lc locs C R P F L)
theorem mGo.ixor {x y : Int32} (hd : decode k.1 pc = .ok (.ixor, 1)) (hn : pc + 1 = n) (kk : mGo w k cu su n ls (.int (x ^^^ y) :: st) h Q) : mGo w k cu su pc ls (.int y :: .int x :: st) h Q := by
  subst hn
  intro p e s m args below meth c Z H lc locs C R P F L
  exact lv_ixor C.1 C.2.1 hd (kk p e s m args below meth c Z H lc locs C R P F L)
theorem mGo.ishl {x y : Int32} (hd : decode k.1 pc = .ok (.ishl, 1)) (hn : pc + 1 = n) (kk : mGo w k cu su n ls (.int (x <<< (y &&& 31)) :: st) h Q) : mGo w k cu su pc ls (.int y :: .int x :: st) h Q := by
  subst hn
  intro p e s m args below meth c Z H lc locs C R P F L
  exact lv_ishl C.1 C.2.1 hd (kk p e s m args below meth c Z H lc locs C R P F L)
theorem mGo.ishr {x y : Int32} (hd : decode k.1 pc = .ok (.ishr, 1)) (hn : pc + 1 = n) (kk : mGo w k cu su n ls (.int (x >>> (y &&& 31)) :: st) h Q) : mGo w k cu su pc ls (.int y :: .int x :: st) h Q := by
  subst hn
  intro p e s m args below meth c Z H lc locs C R P F L
  exact lv_ishr C.1 C.2.1 hd (kk p e s m args below meth c Z H lc locs C R P F L)
theorem mGo.iushr {x y : Int32} (hd : decode k.1 pc = .ok (.iushr, 1)) (hn : pc + 1 = n) (kk : mGo w k cu su n ls (.int (mUshr x y) :: st) h Q) : mGo w k cu su pc ls (.int y :: .int x :: st) h Q := by
  subst hn
  intro p e s m args below meth c Z H lc locs C R P F L
  exact lv_iushr C.1 C.2.1 hd rfl (kk p e s m args below meth c Z H lc locs C R P F L)
theorem mGo.idiv {x y : Int32} (hd : decode k.1 pc = .ok (.idiv, 1)) (hz : ¬ y = 0) (hn : pc + 1 = n) (kk : mGo w k cu su n ls (.int (x / y) :: st) h Q) : mGo w k cu su pc ls (.int y :: .int x :: st) h Q := by
  subst hn
  intro p e s m args below meth c Z H lc locs C R P F L
  exact lv_idiv C.1 C.2.1 hd hz (kk p e s m args below meth c Z H lc locs C R P F L)
theorem mGo.irem {x y : Int32} (hd : decode k.1 pc = .ok (.irem, 1)) (hz : ¬ y = 0) (hn : pc + 1 = n) (kk : mGo w k cu su n ls (.int (mRem x y) :: st) h Q) : mGo w k cu su pc ls (.int y :: .int x :: st) h Q := by
  subst hn
  intro p e s m args below meth c Z H lc locs C R P F L
  exact lv_irem C.1 C.2.1 hd hz (kk p e s m args below meth c Z H lc locs C R P F L)
theorem mGo.ineg {x : Int32} (hd : decode k.1 pc = .ok (.ineg, 1)) (hn : pc + 1 = n) (kk : mGo w k cu su n ls (.int (-x) :: st) h Q) : mGo w k cu su pc ls (.int x :: st) h Q := by
  subst hn
  intro p e s m args below meth c Z H lc locs C R P F L
  exact lv_ineg C.1 C.2.1 hd (kk p e s m args below meth c Z H lc locs C R P F L)
theorem mGo.ladd {x y : Int64} (hd : decode k.1 pc = .ok (.ladd, 1)) (hn : pc + 1 = n) (kk : mGo w k cu su n ls (.long (x + y) :: st) h Q) : mGo w k cu su pc ls (.long y :: .long x :: st) h Q := by
  subst hn
  intro p e s m args below meth c Z H lc locs C R P F L
  exact lv_ladd C.1 C.2.1 hd (kk p e s m args below meth c Z H lc locs C R P F L)
theorem mGo.lsub {x y : Int64} (hd : decode k.1 pc = .ok (.lsub, 1)) (hn : pc + 1 = n) (kk : mGo w k cu su n ls (.long (x - y) :: st) h Q) : mGo w k cu su pc ls (.long y :: .long x :: st) h Q := by
  subst hn
  intro p e s m args below meth c Z H lc locs C R P F L
  exact lv_lsub C.1 C.2.1 hd (kk p e s m args below meth c Z H lc locs C R P F L)
theorem mGo.lmul {x y : Int64} (hd : decode k.1 pc = .ok (.lmul, 1)) (hn : pc + 1 = n) (kk : mGo w k cu su n ls (.long (x * y) :: st) h Q) : mGo w k cu su pc ls (.long y :: .long x :: st) h Q := by
  subst hn
  intro p e s m args below meth c Z H lc locs C R P F L
  exact lv_lmul C.1 C.2.1 hd (kk p e s m args below meth c Z H lc locs C R P F L)
theorem mGo.land {x y : Int64} (hd : decode k.1 pc = .ok (.land, 1)) (hn : pc + 1 = n) (kk : mGo w k cu su n ls (.long (x &&& y) :: st) h Q) : mGo w k cu su pc ls (.long y :: .long x :: st) h Q := by
  subst hn
  intro p e s m args below meth c Z H lc locs C R P F L
  exact lv_land C.1 C.2.1 hd (kk p e s m args below meth c Z H lc locs C R P F L)
theorem mGo.lor {x y : Int64} (hd : decode k.1 pc = .ok (.lor, 1)) (hn : pc + 1 = n) (kk : mGo w k cu su n ls (.long (x ||| y) :: st) h Q) : mGo w k cu su pc ls (.long y :: .long x :: st) h Q := by
  subst hn
  intro p e s m args below meth c Z H lc locs C R P F L
  exact lv_lor C.1 C.2.1 hd (kk p e s m args below meth c Z H lc locs C R P F L)
theorem mGo.lxor {x y : Int64} (hd : decode k.1 pc = .ok (.lxor, 1)) (hn : pc + 1 = n) (kk : mGo w k cu su n ls (.long (x ^^^ y) :: st) h Q) : mGo w k cu su pc ls (.long y :: .long x :: st) h Q := by
  subst hn
  intro p e s m args below meth c Z H lc locs C R P F L
  exact lv_lxor C.1 C.2.1 hd (kk p e s m args below meth c Z H lc locs C R P F L)
theorem mGo.ldiv {x y : Int64} (hd : decode k.1 pc = .ok (.ldiv, 1)) (hz : ¬ y = 0) (hn : pc + 1 = n) (kk : mGo w k cu su n ls (.long (x / y) :: st) h Q) : mGo w k cu su pc ls (.long y :: .long x :: st) h Q := by
  subst hn
  intro p e s m args below meth c Z H lc locs C R P F L
  exact lv_ldiv C.1 C.2.1 hd hz (kk p e s m args below meth c Z H lc locs C R P F L)
theorem mGo.lneg {x : Int64} (hd : decode k.1 pc = .ok (.lneg, 1)) (hn : pc + 1 = n) (kk : mGo w k cu su n ls (.long (-x) :: st) h Q) : mGo w k cu su pc ls (.long x :: st) h Q := by
  subst hn
  intro p e s m args below meth c Z H lc locs C R P F L
  exact lv_lneg C.1 C.2.1 hd (kk p e s m args below meth c Z H lc locs C R P F L)
theorem mGo.lushr {x : Int64} {y : Int32} (hd : decode k.1 pc = .ok (.lushr, 1)) (hn : pc + 1 = n) (kk : mGo w k cu su n ls (.long (mLushr x y) :: st) h Q) : mGo w k cu su pc ls (.int y :: .long x :: st) h Q := by
  subst hn
  intro p e s m args below meth c Z H lc locs C R P F L
  exact lv_lushr C.1 C.2.1 hd rfl (kk p e s m args below meth c Z H lc locs C R P F L)
theorem mGo.lshl {x : Int64} {y : Int32} (hd : decode k.1 pc = .ok (.lshl, 1)) (hn : pc + 1 = n) (kk : mGo w k cu su n ls (.long (mLshl x y) :: st) h Q) : mGo w k cu su pc ls (.int y :: .long x :: st) h Q := by
  subst hn
  intro p e s m args below meth c Z H lc locs C R P F L
  exact lv_lshl C.1 C.2.1 hd rfl (kk p e s m args below meth c Z H lc locs C R P F L)
theorem mGo.i2l {x : Int32} (hd : decode k.1 pc = .ok (.i2l, 1)) (hn : pc + 1 = n) (kk : mGo w k cu su n ls (.long x.toInt64 :: st) h Q) : mGo w k cu su pc ls (.int x :: st) h Q := by
  subst hn
  intro p e s m args below meth c Z H lc locs C R P F L
  exact lv_i2l C.1 C.2.1 hd rfl (kk p e s m args below meth c Z H lc locs C R P F L)
theorem mGo.l2i {x : Int64} (hd : decode k.1 pc = .ok (.l2i, 1)) (hn : pc + 1 = n) (kk : mGo w k cu su n ls (.int x.toInt32 :: st) h Q) : mGo w k cu su pc ls (.long x :: st) h Q := by
  subst hn
  intro p e s m args below meth c Z H lc locs C R P F L
  exact lv_l2i C.1 C.2.1 hd rfl (kk p e s m args below meth c Z H lc locs C R P F L)
theorem mGo.lcmp {x y : Int64} (hd : decode k.1 pc = .ok (.lcmp, 1)) (hn : pc + 1 = n) (kk : mGo w k cu su n ls (.int (lg_cmp x y) :: st) h Q) : mGo w k cu su pc ls (.long y :: .long x :: st) h Q := by
  subst hn
  intro p e s m args below meth c Z H lc locs C R P F L
  exact W.lcmp C.1 C.2.1 hd (kk p e s m args below meth c Z H lc locs C R P F L)
theorem mGo.dup {x : Value} (hd : decode k.1 pc = .ok (.dup, 1)) (hc : x.category = 1) (hn : pc + 1 = n) (kk : mGo w k cu su n ls (x :: x :: st) h Q) : mGo w k cu su pc ls (x :: st) h Q := by
  subst hn
  intro p e s m args below meth c Z H lc locs C R P F L
  exact lv_dup C.1 C.2.1 hd (by rw [mV_cat]; exact hc) (kk p e s m args below meth c Z H lc locs C R P F L)
theorem mGo.pop {x : Value} (hd : decode k.1 pc = .ok (.pop, 1)) (hc : x.category = 1) (hn : pc + 1 = n) (kk : mGo w k cu su n ls (st) h Q) : mGo w k cu su pc ls (x :: st) h Q := by
  subst hn
  intro p e s m args below meth c Z H lc locs C R P F L
  exact lv_pop C.1 C.2.1 hd (by rw [mV_cat]; exact hc) (kk p e s m args below meth c Z H lc locs C R P F L)
theorem mGo.dup2 {x y : Value} (hd : decode k.1 pc = .ok (.dup2, 1)) (hc : x.category = 1) (hc2 : y.category = 1) (hn : pc + 1 = n) (kk : mGo w k cu su n ls (x :: y :: x :: y :: st) h Q) : mGo w k cu su pc ls (x :: y :: st) h Q := by
  subst hn
  intro p e s m args below meth c Z H lc locs C R P F L
  exact lv_dup2_11 C.1 C.2.1 hd (by rw [mV_cat]; exact hc) (by rw [mV_cat]; exact hc2) (kk p e s m args below meth c Z H lc locs C R P F L)
theorem mGo.dup2L {x : Value} (hd : decode k.1 pc = .ok (.dup2, 1)) (hc : x.category = 2) (hn : pc + 1 = n) (kk : mGo w k cu su n ls (x :: x :: st) h Q) : mGo w k cu su pc ls (x :: st) h Q := by
  subst hn
  intro p e s m args below meth c Z H lc locs C R P F L
  exact lv_dup2_2 C.1 C.2.1 hd (by rw [mV_cat]; exact hc) (kk p e s m args below meth c Z H lc locs C R P F L)
theorem mGo.if_eq {x : Int32} {off : Int} {tgt : Nat} (hd : decode k.1 pc = .ok (.ifCond .eq off, 3)) (ht : (pc : Int) + off = (tgt : Int)) (hn : pc + 3 = n) (kt : x = 0 → mGo w k cu su tgt ls (st) h Q) (kf : ¬ (x = 0) → mGo w k cu su n ls (st) h Q) : mGo w k cu su pc ls (.int x :: st) h Q := by
  subst hn
  intro p e s m args below meth c Z H lc locs C R P F L
  exact lv_if_eq C.1 C.2.1 hd ht (fun hc => kt hc p e s m args below meth c Z H lc locs C R P F L) (fun hc => kf hc p e s m args below meth c Z H lc locs C R P F L)
theorem mGo.icmp_eq {x y : Int32} {off : Int} {tgt : Nat} (hd : decode k.1 pc = .ok (.if_icmp .eq off, 3)) (ht : (pc : Int) + off = (tgt : Int)) (hn : pc + 3 = n) (kt : x = y → mGo w k cu su tgt ls (st) h Q) (kf : ¬ (x = y) → mGo w k cu su n ls (st) h Q) : mGo w k cu su pc ls (.int y :: .int x :: st) h Q := by
  subst hn
  intro p e s m args below meth c Z H lc locs C R P F L
  exact lv_icmp_eq C.1 C.2.1 hd ht (fun hc => kt hc p e s m args below meth c Z H lc locs C R P F L) (fun hc => kf hc p e s m args below meth c Z H lc locs C R P F L)
theorem mGo.if_ne {x : Int32} {off : Int} {tgt : Nat} (hd : decode k.1 pc = .ok (.ifCond .ne off, 3)) (ht : (pc : Int) + off = (tgt : Int)) (hn : pc + 3 = n) (kt : ¬ x = 0 → mGo w k cu su tgt ls (st) h Q) (kf : x = 0 → mGo w k cu su n ls (st) h Q) : mGo w k cu su pc ls (.int x :: st) h Q := by
  subst hn
  intro p e s m args below meth c Z H lc locs C R P F L
  exact lv_if_ne C.1 C.2.1 hd ht (fun hc => kt hc p e s m args below meth c Z H lc locs C R P F L) (fun hc => kf hc p e s m args below meth c Z H lc locs C R P F L)
theorem mGo.icmp_ne {x y : Int32} {off : Int} {tgt : Nat} (hd : decode k.1 pc = .ok (.if_icmp .ne off, 3)) (ht : (pc : Int) + off = (tgt : Int)) (hn : pc + 3 = n) (kt : ¬ x = y → mGo w k cu su tgt ls (st) h Q) (kf : x = y → mGo w k cu su n ls (st) h Q) : mGo w k cu su pc ls (.int y :: .int x :: st) h Q := by
  subst hn
  intro p e s m args below meth c Z H lc locs C R P F L
  exact lv_icmp_ne C.1 C.2.1 hd ht (fun hc => kt hc p e s m args below meth c Z H lc locs C R P F L) (fun hc => kf hc p e s m args below meth c Z H lc locs C R P F L)
theorem mGo.if_lt {x : Int32} {off : Int} {tgt : Nat} (hd : decode k.1 pc = .ok (.ifCond .lt off, 3)) (ht : (pc : Int) + off = (tgt : Int)) (hn : pc + 3 = n) (kt : x < 0 → mGo w k cu su tgt ls (st) h Q) (kf : ¬ (x < 0) → mGo w k cu su n ls (st) h Q) : mGo w k cu su pc ls (.int x :: st) h Q := by
  subst hn
  intro p e s m args below meth c Z H lc locs C R P F L
  exact lv_if_lt C.1 C.2.1 hd ht (fun hc => kt hc p e s m args below meth c Z H lc locs C R P F L) (fun hc => kf hc p e s m args below meth c Z H lc locs C R P F L)
theorem mGo.icmp_lt {x y : Int32} {off : Int} {tgt : Nat} (hd : decode k.1 pc = .ok (.if_icmp .lt off, 3)) (ht : (pc : Int) + off = (tgt : Int)) (hn : pc + 3 = n) (kt : x < y → mGo w k cu su tgt ls (st) h Q) (kf : ¬ (x < y) → mGo w k cu su n ls (st) h Q) : mGo w k cu su pc ls (.int y :: .int x :: st) h Q := by
  subst hn
  intro p e s m args below meth c Z H lc locs C R P F L
  exact lv_icmp_lt C.1 C.2.1 hd ht (fun hc => kt hc p e s m args below meth c Z H lc locs C R P F L) (fun hc => kf hc p e s m args below meth c Z H lc locs C R P F L)
theorem mGo.if_ge {x : Int32} {off : Int} {tgt : Nat} (hd : decode k.1 pc = .ok (.ifCond .ge off, 3)) (ht : (pc : Int) + off = (tgt : Int)) (hn : pc + 3 = n) (kt : 0 ≤ x → mGo w k cu su tgt ls (st) h Q) (kf : ¬ (0 ≤ x) → mGo w k cu su n ls (st) h Q) : mGo w k cu su pc ls (.int x :: st) h Q := by
  subst hn
  intro p e s m args below meth c Z H lc locs C R P F L
  exact lv_if_ge C.1 C.2.1 hd ht (fun hc => kt hc p e s m args below meth c Z H lc locs C R P F L) (fun hc => kf hc p e s m args below meth c Z H lc locs C R P F L)
theorem mGo.icmp_ge {x y : Int32} {off : Int} {tgt : Nat} (hd : decode k.1 pc = .ok (.if_icmp .ge off, 3)) (ht : (pc : Int) + off = (tgt : Int)) (hn : pc + 3 = n) (kt : y ≤ x → mGo w k cu su tgt ls (st) h Q) (kf : ¬ (y ≤ x) → mGo w k cu su n ls (st) h Q) : mGo w k cu su pc ls (.int y :: .int x :: st) h Q := by
  subst hn
  intro p e s m args below meth c Z H lc locs C R P F L
  exact lv_icmp_ge C.1 C.2.1 hd ht (fun hc => kt hc p e s m args below meth c Z H lc locs C R P F L) (fun hc => kf hc p e s m args below meth c Z H lc locs C R P F L)
theorem mGo.if_gt {x : Int32} {off : Int} {tgt : Nat} (hd : decode k.1 pc = .ok (.ifCond .gt off, 3)) (ht : (pc : Int) + off = (tgt : Int)) (hn : pc + 3 = n) (kt : 0 < x → mGo w k cu su tgt ls (st) h Q) (kf : ¬ (0 < x) → mGo w k cu su n ls (st) h Q) : mGo w k cu su pc ls (.int x :: st) h Q := by
  subst hn
  intro p e s m args below meth c Z H lc locs C R P F L
  exact lv_if_gt C.1 C.2.1 hd ht (fun hc => kt hc p e s m args below meth c Z H lc locs C R P F L) (fun hc => kf hc p e s m args below meth c Z H lc locs C R P F L)
theorem mGo.icmp_gt {x y : Int32} {off : Int} {tgt : Nat} (hd : decode k.1 pc = .ok (.if_icmp .gt off, 3)) (ht : (pc : Int) + off = (tgt : Int)) (hn : pc + 3 = n) (kt : y < x → mGo w k cu su tgt ls (st) h Q) (kf : ¬ (y < x) → mGo w k cu su n ls (st) h Q) : mGo w k cu su pc ls (.int y :: .int x :: st) h Q := by
  subst hn
  intro p e s m args below meth c Z H lc locs C R P F L
  exact lv_icmp_gt C.1 C.2.1 hd ht (fun hc => kt hc p e s m args below meth c Z H lc locs C R P F L) (fun hc => kf hc p e s m args below meth c Z H lc locs C R P F L)
theorem mGo.if_le {x : Int32} {off : Int} {tgt : Nat} (hd : decode k.1 pc = .ok (.ifCond .le off, 3)) (ht : (pc : Int) + off = (tgt : Int)) (hn : pc + 3 = n) (kt : x ≤ 0 → mGo w k cu su tgt ls (st) h Q) (kf : ¬ (x ≤ 0) → mGo w k cu su n ls (st) h Q) : mGo w k cu su pc ls (.int x :: st) h Q := by
  subst hn
  intro p e s m args below meth c Z H lc locs C R P F L
  exact lv_if_le C.1 C.2.1 hd ht (fun hc => kt hc p e s m args below meth c Z H lc locs C R P F L) (fun hc => kf hc p e s m args below meth c Z H lc locs C R P F L)
theorem mGo.icmp_le {x y : Int32} {off : Int} {tgt : Nat} (hd : decode k.1 pc = .ok (.if_icmp .le off, 3)) (ht : (pc : Int) + off = (tgt : Int)) (hn : pc + 3 = n) (kt : x ≤ y → mGo w k cu su tgt ls (st) h Q) (kf : ¬ (x ≤ y) → mGo w k cu su n ls (st) h Q) : mGo w k cu su pc ls (.int y :: .int x :: st) h Q := by
  subst hn
  intro p e s m args below meth c Z H lc locs C R P F L
  exact lv_icmp_le C.1 C.2.1 hd ht (fun hc => kt hc p e s m args below meth c Z H lc locs C R P F L) (fun hc => kf hc p e s m args below meth c Z H lc locs C R P F L)
theorem mGo.ifnull {r : Option Nat} {off : Int} {tgt : Nat} (hd : decode k.1 pc = .ok (.ifnull off, 3)) (ht : (pc : Int) + off = (tgt : Int)) (hn : pc + 3 = n) (kt : r = none → mGo w k cu su tgt ls (st) h Q) (kf : ¬ r = none → mGo w k cu su n ls (st) h Q) : mGo w k cu su pc ls (va_rf r :: st) h Q := by
  subst hn
  intro p e s m args below meth c Z H lc locs C R P F L
  cases r with
  | none => exact lv_ifnullN C.1 C.2.1 hd ht (kt rfl p e s m args below meth c Z H lc locs C R P F L)
  | some a => exact lv_ifnull C.1 C.2.1 hd (kf (by simp) p e s m args below meth c Z H lc locs C R P F L)
theorem mGo.ifnonnull {r : Option Nat} {off : Int} {tgt : Nat} (hd : decode k.1 pc = .ok (.ifnonnull off, 3)) (ht : (pc : Int) + off = (tgt : Int)) (hn : pc + 3 = n) (kt : ¬ r = none → mGo w k cu su tgt ls (st) h Q) (kf : r = none → mGo w k cu su n ls (st) h Q) : mGo w k cu su pc ls (va_rf r :: st) h Q := by
  subst hn
  intro p e s m args below meth c Z H lc locs C R P F L
  cases r with
  | none => exact lv_ifnonnullN C.1 C.2.1 hd (kf rfl p e s m args below meth c Z H lc locs C R P F L)
  | some a => exact lv_ifnonnull C.1 C.2.1 hd ht (kt (by simp) p e s m args below meth c Z H lc locs C R P F L)
theorem mGo.goto {off : Int} {tgt : Nat} (hd : decode k.1 pc = .ok (.goto off, 3)) (ht : (pc : Int) + off = (tgt : Int)) (kk : mGo w k cu su tgt ls (st) h Q) : mGo w k cu su pc ls (st) h Q := by
  intro p e s m args below meth c Z H lc locs C R P F L
  exact lv_goto C.1 C.2.1 hd ht (kk p e s m args below meth c Z H lc locs C R P F L)
theorem mGo.tin {dflt lo hi : Int} {offs : Array Int} {len tgt : Nat} {x : Int32} {off : Int} (hd : decode k.1 pc = .ok (.tableswitch dflt lo hi offs, len)) (h1 : ¬ x.toInt < lo) (h2 : ¬ hi < x.toInt) (ho : offs[(x.toInt - lo).toNat]? = some off) (ht : (pc : Int) + off = (tgt : Int)) (kk : mGo w k cu su tgt ls (st) h Q) : mGo w k cu su pc ls (.int x :: st) h Q := by
  intro p e s m args below meth c Z H lc locs C R P F L
  exact lv_tableIn C.1 C.2.1 hd h1 h2 ho ht (kk p e s m args below meth c Z H lc locs C R P F L)
theorem mGo.tout {dflt lo hi : Int} {offs : Array Int} {len tgt : Nat} {x : Int32} (hd : decode k.1 pc = .ok (.tableswitch dflt lo hi offs, len)) (hx : x.toInt < lo ∨ hi < x.toInt) (ht : (pc : Int) + dflt = (tgt : Int)) (kk : mGo w k cu su tgt ls (st) h Q) : mGo w k cu su pc ls (.int x :: st) h Q := by
  intro p e s m args below meth c Z H lc locs C R P F L
  exact lv_tableOut C.1 C.2.1 hd hx ht (kk p e s m args below meth c Z H lc locs C R P F L)
theorem mGo.vret (hd : decode k.1 pc = .ok (.return_, 1)) (hr : k.2.2.2.1 = none) (hc : cu ≤ k.2.2.2.2.2.cells) (hs : su ≤ k.2.2.2.2.2.slots) (hq : Q none h) : mGo w k cu su pc ls ([]) h Q := by
  intro p e s m args below meth c Z H lc locs C R P F L
  exact R none h H locs cu su pc lc hq (Or.inl ⟨hr, rfl, hd⟩) P F hc hs
theorem mGo.iret {x : Int32} (hd : decode k.1 pc = .ok (.ireturn, 1)) (hr : k.2.2.2.1 = some .int) (hc : cu ≤ k.2.2.2.2.2.cells) (hs : su ≤ k.2.2.2.2.2.slots) (hq : Q (some (.int x)) h) : mGo w k cu su pc ls ([.int x]) h Q := by
  intro p e s m args below meth c Z H lc locs C R P F L
  exact R (some (.int x)) h H locs cu su pc lc hq (Or.inr (Or.inl ⟨x, hr, rfl, hd⟩)) P F hc hs
theorem mGo.zret {x : Int32} (hd : decode k.1 pc = .ok (.ireturn, 1)) (hr : k.2.2.2.1 = some .boolean) (hx : x = 0 ∨ x = 1) (hc : cu ≤ k.2.2.2.2.2.cells) (hs : su ≤ k.2.2.2.2.2.slots) (hq : Q (some (.int x)) h) : mGo w k cu su pc ls ([.int x]) h Q := by
  intro p e s m args below meth c Z H lc locs C R P F L
  exact R (some (.int x)) h H locs cu su pc lc hq (Or.inr (Or.inr (Or.inl ⟨x, hr, hx, rfl, hd⟩))) P F hc hs
theorem mGo.lret {x : Int64} (hd : decode k.1 pc = .ok (.lreturn, 1)) (hr : k.2.2.2.1 = some .long) (hc : cu ≤ k.2.2.2.2.2.cells) (hs : su ≤ k.2.2.2.2.2.slots) (hq : Q (some (.long x)) h) : mGo w k cu su pc ls ([.long x]) h Q := by
  intro p e s m args below meth c Z H lc locs C R P F L
  exact R (some (.long x)) h H locs cu su pc lc hq (Or.inr (Or.inr (Or.inr (Or.inl ⟨x, hr, rfl, hd⟩)))) P F hc hs
theorem mGo.aret {C0 : String} {x : Option Nat} (hd : decode k.1 pc = .ok (.areturn, 1)) (hr : k.2.2.2.1 = some (.object C0)) (hc : cu ≤ k.2.2.2.2.2.cells) (hs : su ≤ k.2.2.2.2.2.slots) (hq : Q (some (va_rf x)) h) : mGo w k cu su pc ls ([va_rf x]) h Q := by
  intro p e s m args below meth c Z H lc locs C R P F L
  exact R (some (va_rf x)) h H locs cu su pc lc hq (Or.inr (Or.inr (Or.inr (Or.inr ⟨C0, x, hr, rfl, hd⟩)))) P F hc hs
end MROWS
