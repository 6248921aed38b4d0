/-! THE CLAIM OUT OF ONE WALK OF THE LAW'S BODY. Your part is whole_start (and what it stands on); all else here is the same for every law, but numbers. -/
def R_law : String := "SignTablesLaw"
def lw_P (b : Addr) (xs : List Int32) (args : Array Value) (s : State) : Prop := args = #[.ref b] ∧ s.IntsAt b xs ∧ xs.length ≤ 3584 ∧ (Jvm.Cond.and given_1 narrow_1).before args s = true
def lw_Q (_ : Array Value) (s : State) (o : Outcome) (t : State) : Prop := o = .returned (some (.int 1)) ∧ Framed s o t [] 600000 7302250
def lw_Z (below : List Frame) (a : Array Value) (s : State) : State → Prop := fun t => ∃ o, t.status = .running ∧ Ended t below o ∧ lw_Q a s o t
/-- the law's own end, with 1 on the stack, nothing written that was there before, its room as the claim has it -/
theorem lw_ret {p : Program} {l : Launch} {e : Env} {s : State} {m : MethodId} {below : List Frame} {meth : Method} {c : Code} {b : Nat} (hx : p.tables.exec = Jvm.exec) (hb : c.code = code) (hr : meth.sig.returnType = ret) (hlocks : meth.locks = false) {pc : Nat} {H : Heap} {ls : Array Slot} (hdg : decode code pc = .ok (.ireturn, 1)) : W p l e room_1 s m #[Value.ref b] below meth c H [] 600000 7302250 (lw_Z below #[Value.ref b] s) (F0 m pc ls [.int 1]) := by
  intro T hT X
  obtain ⟨fs, hret, hrun, hended, hW, hframe⟩ := X.leave (v := some (.int 1)) (hlocks := hlocks) (fun h => by rw [hr] at h; cases h)
  have hmeth' : T.vm.method? m = some meth := X.method'
  refine ⟨T.setFrames fs, ?_, .returned (some (.int 1)), hrun, hended, rfl, ⟨_, rfl⟩, hW, hframe⟩
  jvm_step X.here [X.here.top, hx, hb, hdg, hmeth', hr, ret, narrow_b1]
  (try refine ⟨rfl, ?_⟩); (try refine ⟨rfl, ?_⟩)
  first | (intro acts; rw [hret _ acts rfl rfl rfl]) | rw [hret _ _ rfl rfl rfl]
  exact Steps.refl _
/-- what holds at the law's entry: the machine, the code, the tables' words (any of lw_tbl by 'hts w (by decide +kernel)'), the script of L ints xs at the cell b, what the Statement gives of the start (any of its parts by flat_of_before) -/
def lw_At (p : Program) (s : State) (m : MethodId) (meth : Method) (c : Code) (b L : Nat) (xs : Nat → Int32) : Prop :=
  p.tables.exec = Jvm.exec ∧ c.code = code ∧ meth.sig.returnType = ret ∧ c.maxLocals = 4 ∧ s.vm.findClass R_law = some m.cls ∧ (∀ w ∈ lw_tbl, w.before #[Value.ref b] s = true) ∧ va_X b L xs s s.heap ∧ b < s.heap.size ∧ meth.locks = false ∧ (Jvm.Cond.and given_1 narrow_1).before #[Value.ref b] s = true ∧ meth.name = "law"

/-- the pure claim: the law's function, over the script, answers 1 -/
def mPure : Prop := ∀ (L : Nat) (xs : Nat → Int32), L ≤ 3584 → ∃ h1 : mH, f_L_law (some 0) (0, fun _ => .inl (L, .inl xs)) = some (1, h1)
theorem mArr_of {s : State} {args : Array Value} {ty : FieldType} (h : (Cond.arrayClass ty).before args s = true) : ∃ c : ClassId, ArrOfT s c ty ∧ s.vm.findClass ("[" ++ ty.toString) = some c := by
  obtain ⟨c, k, comp, h1, h2, h3⟩ := Cond.arrayClass_spec h
  exact ⟨c, fun n z => ⟨fun k h => (by cases h), k, h2, comp, h3⟩, h1⟩
theorem mArrT_of {s : State} {args : Array Value} {C : String} (h : (Cond.arrayOver (.object C)).before args s = true) : ∃ c : ClassId, ArrOfT s c (.object C) ∧ va_RA s c (.object C) := by
  obtain ⟨comp, c, k, h1, -, h2, h3, h4⟩ := Cond.arrayOver_spec h
  exact ⟨c, fun n z => ⟨fun k h => (by cases h), k, h2, comp, h3⟩, k, comp, h2, h3, h1, h4⟩
set_option maxHeartbeats 4000000 in
set_option maxRecDepth 100000 in
theorem whole_start_of (hpure : mPure) {p : Program} {e : Env} {s : State} {m : MethodId} {below : List Frame} {meth : Method} {c : Code} (l : Launch) (hflags : l.flags = flags0) {b L : Nat} {xs : Nat → Int32} (hL : L ≤ 3584) (C0 : lw_At p s m meth c b L xs) : W p l e room_1 s m #[Value.ref b] below meth c s.heap [] 0 0 (lw_Z below #[Value.ref b] s) (entryFrame m ([Value.ref b] : List Value).toArray 4) := by
  obtain ⟨hx, hb, hr, hml, hown, hts, hX, hbl, hlocks, hgv, hnm⟩ := id C0
  have hT : ∀ x ∈ mT, x.before #[Value.ref b] s = true := fun x hx => hts x (List.mem_filter.mp hx).1
  obtain ⟨c0, i0, k0⟩ := u_known (C := RX0) (T := TX0) (N := 2) hT mCin0 (hT (.instantiable RX0 2) (mT_at 154 (by decide +kernel) rfl))
  obtain ⟨c1, i1, k1⟩ := u_known (C := RX1) (T := TX1) (N := 1) hT mCin1 (hT (.instantiable RX1 1) (mT_at 243 (by decide +kernel) rfl))
  obtain ⟨c2, i2, k2⟩ := u_known (C := RX3) (T := TX3) (N := 6) hT mCin2 (hT (.instantiable RX3 6) (mT_at 203 (by decide +kernel) rfl))
  obtain ⟨c3, i3, k3⟩ := u_known (C := RX4) (T := TX4) (N := 9) hT mCin3 (hT (.instantiable RX4 9) (mT_at 168 (by decide +kernel) rfl))
  obtain ⟨c4, i4, k4⟩ := u_known (C := RX5) (T := TX5) (N := 4) hT mCin4 (hT (.instantiable RX5 4) (mT_at 253 (by decide +kernel) rfl))
  obtain ⟨c5, i5, k5⟩ := u_known (C := RX6) (T := TX6) (N := 2) hT mCin5 (hT (.instantiable RX6 2) (mT_at 229 (by decide +kernel) rfl))
  obtain ⟨c6, i6, k6⟩ := u_known (C := RX7) (T := TX7) (N := 8) hT mCin6 (hT (.instantiable RX7 8) (mT_at 106 (by decide +kernel) rfl))
  obtain ⟨c7, i7, k7⟩ := u_known (C := RX8) (T := TX8) (N := 11) hT mCin7 (hT (.instantiable RX8 11) (mT_at 97 (by decide +kernel) rfl))
  obtain ⟨c8, i8, k8⟩ := u_known (C := RX9) (T := TX9) (N := 25) hT mCin8 (hT (.instantiable RX9 25) (mT_at 798 (by decide +kernel) rfl))
  obtain ⟨cI, aI, fI⟩ := mArr_of (hT (.arrayClass .int) (mT_at 152 (by decide +kernel) rfl))
  obtain ⟨cJ, aJ, fJ⟩ := mArr_of (hT (.arrayClass .long) (mT_at 241 (by decide +kernel) rfl))
  have hover : (Cond.arrayOver (.object RX7)).before #[Value.ref b] s = true := hts _ (List.mem_of_getElem? (i := 105) (by decide +kernel))
  obtain ⟨cT, aT, fT⟩ := mArrT_of hover
  obtain ⟨D, hD⟩ : ∃ D : va_G, ∀ (k : Nat) (q : vw_C), mCl[k]? = some q → u_Kn s q.1 q.2.1 q.2.2 (D.1 k) (D.2 k) := by
    refine ⟨(fun k => match k with | 0 => c0 | 1 => c1 | 2 => c2 | 3 => c3 | 4 => c4 | 5 => c5 | 6 => c6 | 7 => c7 | _ => c8, fun k => match k with | 0 => i0 | 1 => i1 | 2 => i2 | 3 => i3 | 4 => i4 | 5 => i5 | 6 => i6 | 7 => i7 | _ => i8), ?_⟩
    intro k q hq
    match k, hq with
    | 0, hq => cases hq; exact k0
    | 1, hq => cases hq; exact k1
    | 2, hq => cases hq; exact k2
    | 3, hq => cases hq; exact k3
    | 4, hq => cases hq; exact k4
    | 5, hq => cases hq; exact k5
    | 6, hq => cases hq; exact k6
    | 7, hq => cases hq; exact k7
    | 8, hq => cases hq; exact k8
    | k + 9, hq => simp [mCl] at hq
  let w : mWp := (l, s.heap, D, (cI, cJ, cT), (b, L, xs))
  have hK : va_K (mD w) mCl (mTys w) s := by
    refine ⟨hD, fun k q hq => ?_⟩
    match k, hq with
    | 0, hq => cases hq; exact ⟨aI, fI⟩
    | 1, hq => cases hq; exact ⟨aJ, fJ⟩
    | 2, hq => cases hq; exact ⟨aT, fT⟩
    | k + 3, hq => simp [mTys] at hq
  have hN : ∀ x ∈ mNest, va_Nw x s := by
    intro x hx
    obtain ⟨h1, h2⟩ := List.mem_filter.mp hx
    have h3 := hts x (List.mem_append_right _ h1)
    cases x <;> first | exact va_Nw.of rfl h3 | (simp [mIsNest] at h2)
  have hKn : mKn w s := ⟨hK, hN, va_AO.of hover, hX, hbl⟩
  have hRep : mRep w (0, fun _ => .inl (L, .inl xs)) s.heap := ⟨rfl, fun _ _ => rfl, fun k hk => absurd hk (Nat.not_lt_zero k), rfl⟩
  have hC : mCx w kL_law p s m #[Value.ref b] meth c := ⟨hx, hb, hml, hown, hT, hr, hnm, hKn⟩
  obtain ⟨h1, he⟩ := hpure L xs hL
  have hl := lv_entry ([.ref b]) (n := 4) (Nat.le_of_ble_eq_true rfl)
  rw [lg_entry_eq]
  generalize (lg_sl ([.ref b]) ++ List.replicate (4 - (lg_sl ([.ref b])).length) Slot.unset).toArray = lc at hl ⊢
  have hR : mRt w kL_law p e s m #[Value.ref b] below meth c (fun r _ => r = some (.int 1)) (lw_Z below #[Value.ref b] s) := by
    intro r h H locs cu su pc ls hq ho P F hcu hsu
    subst hq
    refine va_forget (fun q hq => F q hq) ?_
    refine W.widen (k := 600000) (n := 7302250) hcu hsu ?_
    have hd : decode code pc = .ok (.ireturn, 1) := by
      rcases ho with ⟨h1, h2, hd⟩ | ⟨v, h1, h2, hd⟩ | ⟨v, h1, hv, h2, hd⟩ | ⟨v, h1, h2, hd⟩ | ⟨C0, v, h1, h2, hd⟩
      · cases h2
      · exact hd
      · exact hd
      · cases h2
      · cases v <;> cases h2
    exact lw_ret hx hb hr hlocks hd
  exact g_L_law (w := w) (Q := fun r _ => r = some (.int 1)) (some 0) (0, fun _ => .inl (L, .inl xs)) he rfl p e s m #[Value.ref b] below meth c _ s.heap lc [] hC hR hRep (fun q hq => by cases hq) hl
