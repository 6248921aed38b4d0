/-! PURE: THE START. What the two constructors leave in the cells; written by wip/whole/mkstart.py -/
def qX0 (L : Nat) (xs : Nat → Int32) (g : Nat → mC) : Prop :=
  (∃ f : Nat → Option Nat, g 2 = .inl (6, .inr (.inr f)) ∧ f 0 = some 3 ∧ f 1 = some 7 ∧ f 2 = some 11 ∧ f 3 = some 15 ∧ f 4 = some 19 ∧ f 5 = some 23) ∧
  g 0 = .inl (L, .inl xs) ∧
  g 1 = .inr (7, [.ref 2, .ref 27, .int 0, .ref 28, .ref 29, .ref 30, .ref 33, .ref 38, .ref 42, .ref 45, .ref 47]) ∧
  g 3 = .inr (6, [.int 0, .ref 4, .ref 5, .ref 6, .int 0, .int 0, .int 0, .int 0]) ∧
  g 4 = .inl (28, .inl (fun _ => 0)) ∧
  g 5 = .inl (28, .inl (fun _ => 0)) ∧
  g 6 = .inl (28, .inl (fun _ => 0)) ∧
  g 7 = .inr (6, [.int 0, .ref 8, .ref 9, .ref 10, .int 0, .int 0, .int 0, .int 0]) ∧
  g 8 = .inl (28, .inl (fun _ => 0)) ∧
  g 9 = .inl (28, .inl (fun _ => 0)) ∧
  g 10 = .inl (28, .inl (fun _ => 0)) ∧
  g 11 = .inr (6, [.int 0, .ref 12, .ref 13, .ref 14, .int 0, .int 0, .int 0, .int 0]) ∧
  g 12 = .inl (28, .inl (fun _ => 0)) ∧
  g 13 = .inl (28, .inl (fun _ => 0)) ∧
  g 14 = .inl (28, .inl (fun _ => 0)) ∧
  g 15 = .inr (6, [.int 0, .ref 16, .ref 17, .ref 18, .int 0, .int 0, .int 0, .int 0]) ∧
  g 16 = .inl (28, .inl (fun _ => 0)) ∧
  g 17 = .inl (28, .inl (fun _ => 0)) ∧
  g 18 = .inl (28, .inl (fun _ => 0)) ∧
  g 19 = .inr (6, [.int 0, .ref 20, .ref 21, .ref 22, .int 0, .int 0, .int 0, .int 0]) ∧
  g 20 = .inl (28, .inl (fun _ => 0)) ∧
  g 21 = .inl (28, .inl (fun _ => 0)) ∧
  g 22 = .inl (28, .inl (fun _ => 0)) ∧
  g 23 = .inr (6, [.int 0, .ref 24, .ref 25, .ref 26, .int 0, .int 0, .int 0, .int 0]) ∧
  g 24 = .inl (28, .inl (fun _ => 0)) ∧
  g 25 = .inl (28, .inl (fun _ => 0)) ∧
  g 26 = .inl (28, .inl (fun _ => 0)) ∧
  g 27 = .inl (28, .inl (fun _ => 0)) ∧
  g 28 = .inl (28, .inl (fun _ => 0)) ∧
  g 29 = .inl (28, .inl (fun _ => 0)) ∧
  g 30 = .inr (0, [.ref 31, .ref 32]) ∧
  g 31 = .inl (12, .inl (fun _ => 0)) ∧
  g 32 = .inl (1600, .inl (fun _ => 0)) ∧
  g 33 = .inr (3, [.int 0, .null, .null, .int 0, .int 0, .ref 34, .ref 35, .ref 36, .ref 37]) ∧
  g 34 = .inl (12, .inl (fun _ => 0)) ∧
  g 35 = .inl (156, .inl (fun _ => 0)) ∧
  g 36 = .inl (156, .inl (fun _ => 0)) ∧
  g 37 = .inl (13, .inl (fun _ => 0)) ∧
  g 38 = .inr (2, [.int 0, .null, .int 0, .ref 39, .ref 40, .ref 41]) ∧
  g 39 = .inl (6, .inl (fun _ => 0)) ∧
  g 40 = .inl (42, .inl (fun _ => 0)) ∧
  g 41 = .inl (7, .inl (fun _ => 0)) ∧
  g 42 = .inr (5, [.ref 43, .ref 44]) ∧
  g 43 = .inl (16, .inr (.inl (fun _ => 0))) ∧
  g 44 = .inl (16, .inr (.inl (fun _ => 0))) ∧
  g 45 = .inr (1, [.ref 46]) ∧
  g 46 = .inl (144, .inr (.inl (fun _ => 0))) ∧
  g 47 = .inr (4, [.ref 48, .ref 49, .int 0, .ref 50]) ∧
  g 48 = .inl (8, .inl (fun _ => 0)) ∧
  g 49 = .inl (8, .inl (fun _ => 0)) ∧
  g 50 = .inl (4, .inl (fun _ => 0))
set_option maxRecDepth 100000 in
set_option maxHeartbeats 8000000 in
theorem qStart_x (L : Nat) (xs : Nat → Int32) : ∃ g : Nat → mC, f_X8_init 1 (mNew (0, fun _ => .inl (L, .inl xs)) (.inr (7, [.null, .null, .int 0, .null, .null, .null, .null, .null, .null, .null, .null]))) = some (50, g) ∧ qX0 L xs g :=
  ⟨_, rfl, ⟨_, rfl, rfl, rfl, rfl, rfl, rfl, rfl⟩, rfl, rfl, rfl, rfl, rfl, rfl, rfl, rfl, rfl, rfl, rfl, rfl, rfl, rfl, rfl, rfl, rfl, rfl, rfl, rfl, rfl, rfl, rfl, rfl, rfl, rfl, rfl, rfl, rfl, rfl, rfl, rfl, rfl, rfl, rfl, rfl, rfl, rfl, rfl, rfl, rfl, rfl, rfl, rfl, rfl, rfl, rfl, rfl, rfl, rfl⟩
def qF16 (v0 v1 v2 v3 v4 v5 v6 v7 v8 v9 v10 v11 v12 v13 v14 v15 : Int32) : Nat → Int32 := (upd (upd (upd (upd (upd (upd (upd (upd (upd (upd (upd (upd (upd (upd (upd (upd (fun _ => 0) 0 v0) 1 v1) 2 v2) 3 v3) 4 v4) 5 v5) 6 v6) 7 v7) 8 v8) 9 v9) 10 v10) 11 v11) 12 v12) 13 v13) 14 v14) 15 v15)
def qE0 (g : Nat → mC) : Nat → mC := (va_up (va_up (va_up (va_up (va_up (va_up (va_up (va_up (va_up (va_up (va_up (va_up (va_up (va_up (va_up (va_up (va_up (va_up (va_up (va_up (va_up g 52 (.inl (6, .inl (fun _ => 0)))) 53 (.inl (168, .inl (fun _ => 0)))) 54 (.inl (336, .inl (fun _ => 0)))) 55 (.inl (336, .inl (fun _ => 0)))) 56 (.inl (12, .inl (fun _ => 0)))) 57 (.inl (28, .inl (fun _ => 0)))) 58 (.inl (28, .inl (fun _ => 0)))) 59 (.inl (16, .inl (qF16 0 1 2 3 1 0 3 2 2 3 0 1 3 2 1 0)))) 60 (.inl (16, .inl (qF16 0 0 0 0 1 0 1 0 1 0 0 1 1 1 0 0)))) 61 (.inl (4, .inl (fun _ => 0)))) 62 (.inl (28, .inl (fun _ => 0)))) 63 (.inl (6, .inl (fun _ => 0)))) 64 (.inl (6, .inl (fun _ => 0)))) 65 (.inl (6, .inl (fun _ => 0)))) 66 (.inl (144, .inr (.inl (fun _ => 0))))) 67 (.inl (12, .inl (fun _ => 0)))) 68 (.inl (12, .inl (fun _ => 0)))) 69 (.inl (156, .inl (fun _ => 0)))) 70 (.inl (156, .inl (fun _ => 0)))) 71 (.inl (28, .inl (fun _ => 0)))) 72 (.inl (8, .inl (fun _ => 0))))
def qVm (n : Nat) (fs : List Value) (E : Nat → mC) (h : mH) : Prop := h.1 = n ∧ h.2 51 = .inr (8, fs) ∧ ∀ k, k ≤ n → k ≠ 51 → h.2 k = E k
theorem lwBind {α β : Type} {o : Option α} {x : α} {f : α → Option β} {r : Option β} (h1 : o = some x) (h2 : f x = r) : o.bind f = r := by rw [h1]; exact h2
theorem qNewN (h : mH) (c : mC) {k : Nat} (hk : k ≠ h.1 + 1) : (mNew h c).2 k = h.2 k := by simp [mNew, va_up, hk]
theorem qNewS (h : mH) (c : mC) : (mNew h c).2 (h.1 + 1) = c := by simp [mNew, va_up]
theorem qVm.put {n : Nat} {fs : List Value} {E : Nat → mC} {h h' : mH} (q : qVm n fs E h) (hn : 51 ≤ n) {c : mC} (hE : E (n + 1) = c) (h1 : h'.1 = h.1 + 1) (hc : h'.2 (h.1 + 1) = c) (hs : ∀ k, k ≠ h.1 + 1 → h'.2 k = h.2 k) {j : Nat} (hj : j < fs.length) : mPF h' (some 51) 8 j (va_rf (some (h.1 + 1))) = some (mPut h' 51 (.inr (8, fs.set j (.ref (n + 1))))) ∧ qVm (n + 1) (fs.set j (.ref (n + 1))) E (mPut h' 51 (.inr (8, fs.set j (.ref (n + 1))))) := by
  obtain ⟨q1, q2, q3⟩ := q
  subst q1
  refine ⟨qPF (by omega) ((hs 51 (by omega)).trans q2) hj, h1, qPutS _, fun k hk h51 => ?_⟩
  rw [qPutN _ h51]
  by_cases hkn : k = h.1 + 1
  · rw [hkn, hc, hE]
  · rw [hs k hkn]; exact q3 k (by omega) h51
theorem qVm.new {n : Nat} {fs : List Value} {E : Nat → mC} {h : mH} (q : qVm n fs E h) (hn : 51 ≤ n) (c : mC) (hE : E (n + 1) = c) (j : Nat) (hj : j < fs.length) : ∃ h', qVm (n + 1) (fs.set j (.ref (n + 1))) E h' ∧ ∀ (K : mH → Option mH), ((some (mNew h c)).bind fun x1 => (mPF x1 (some 51) 8 j (va_rf (some (h.1 + 1)))).bind fun x2 => K x2) = K h' := by
  obtain ⟨p, r⟩ := q.put (h' := mNew h c) hn hE rfl (qNewS h c) (fun k hk => qNewN h c hk) hj
  exact ⟨_, r, fun K => lwBind rfl (lwBind p rfl)⟩
theorem qVm.new16 {n : Nat} {fs : List Value} {E : Nat → mC} {h : mH} (q : qVm n fs E h) (hn : 51 ≤ n) (v0 v1 v2 v3 v4 v5 v6 v7 v8 v9 v10 v11 v12 v13 v14 v15 : Int32) (hE : E (n + 1) = .inl (16, .inl (qF16 v0 v1 v2 v3 v4 v5 v6 v7 v8 v9 v10 v11 v12 v13 v14 v15))) (j : Nat) (hj : j < fs.length) : ∃ h', qVm (n + 1) (fs.set j (.ref (n + 1))) E h' ∧ ∀ (K : mH → Option mH), ((some (mNew h (.inl (16, .inl (fun _ => 0))))).bind fun x1 => (mSI x1 (some (h.1 + 1)) (0 : Int32) v0).bind fun x2 => (mSI x2 (some (h.1 + 1)) (1 : Int32) v1).bind fun x3 => (mSI x3 (some (h.1 + 1)) (2 : Int32) v2).bind fun x4 => (mSI x4 (some (h.1 + 1)) (3 : Int32) v3).bind fun x5 => (mSI x5 (some (h.1 + 1)) (4 : Int32) v4).bind fun x6 => (mSI x6 (some (h.1 + 1)) (5 : Int32) v5).bind fun x7 => (mSI x7 (some (h.1 + 1)) (6 : Int32) v6).bind fun x8 => (mSI x8 (some (h.1 + 1)) (7 : Int32) v7).bind fun x9 => (mSI x9 (some (h.1 + 1)) (8 : Int32) v8).bind fun x10 => (mSI x10 (some (h.1 + 1)) (9 : Int32) v9).bind fun x11 => (mSI x11 (some (h.1 + 1)) (10 : Int32) v10).bind fun x12 => (mSI x12 (some (h.1 + 1)) (11 : Int32) v11).bind fun x13 => (mSI x13 (some (h.1 + 1)) (12 : Int32) v12).bind fun x14 => (mSI x14 (some (h.1 + 1)) (13 : Int32) v13).bind fun x15 => (mSI x15 (some (h.1 + 1)) (14 : Int32) v14).bind fun x16 => (mSI x16 (some (h.1 + 1)) (15 : Int32) v15).bind fun x17 => (mPF x17 (some 51) 8 j (va_rf (some (h.1 + 1)))).bind fun x18 => K x18) = K h' := by
  have S : ∀ (i : Nat) (f : Nat → Int32) (v : Int32), i < 16 → mSI (mPut (mNew h (.inl (16, .inl (fun _ => 0)))) (h.1 + 1) (.inl (16, .inl f))) (some (h.1 + 1)) (nI i) v = some (mPut (mNew h (.inl (16, .inl (fun _ => 0)))) (h.1 + 1) (.inl (16, .inl (upd f i v)))) := by
    intro i f v hi
    rw [qSI (Nat.succ_ne_zero _) (Nat.le_refl _) (qPutS _) (by decide) hi, qPutP]
  obtain ⟨p, r⟩ := q.put (h' := mPut (mNew h (.inl (16, .inl (fun _ => 0)))) (h.1 + 1) (.inl (16, .inl (qF16 v0 v1 v2 v3 v4 v5 v6 v7 v8 v9 v10 v11 v12 v13 v14 v15)))) hn hE rfl (qPutS _) (fun k hk => (qPutN _ hk).trans (qNewN h _ hk)) hj
  refine ⟨_, r, fun K => lwBind rfl ?_⟩
  refine lwBind (qSI (i := 0) (Nat.succ_ne_zero _) (Nat.le_refl _) (qNewS h _) (by decide) (by decide)) ?_
  refine lwBind (S 1 _ _ (by decide)) ?_
  refine lwBind (S 2 _ _ (by decide)) ?_
  refine lwBind (S 3 _ _ (by decide)) ?_
  refine lwBind (S 4 _ _ (by decide)) ?_
  refine lwBind (S 5 _ _ (by decide)) ?_
  refine lwBind (S 6 _ _ (by decide)) ?_
  refine lwBind (S 7 _ _ (by decide)) ?_
  refine lwBind (S 8 _ _ (by decide)) ?_
  refine lwBind (S 9 _ _ (by decide)) ?_
  refine lwBind (S 10 _ _ (by decide)) ?_
  refine lwBind (S 11 _ _ (by decide)) ?_
  refine lwBind (S 12 _ _ (by decide)) ?_
  refine lwBind (S 13 _ _ (by decide)) ?_
  refine lwBind (S 14 _ _ (by decide)) ?_
  refine lwBind (S 15 _ _ (by decide)) ?_
  exact lwBind p rfl
theorem qStart_m {h : mH} (h1 : h.1 = 50) : ∃ h2, f_X9_init 51 (mNew h (.inr (8, [.int 0, .null, .null, .null, .null, .null, .null, .int 0, .null, .null, .null, .null, .int 0, .int 0, .null, .null, .null, .null, .null, .null, .null, .null, .null, .null, .null]))) = some h2 ∧ h2.1 = 72 ∧ h2.2 51 = .inr (8, [.int 0, .ref 52, .ref 53, .ref 54, .ref 55, .ref 56, .ref 57, .int 0, .ref 58, .ref 59, .ref 60, .ref 61, .int 0, .int 0, .ref 62, .ref 63, .ref 64, .ref 65, .ref 66, .ref 67, .ref 68, .ref 69, .ref 70, .ref 71, .ref 72]) ∧ ∀ k, k ≤ 72 → k ≠ 51 → h2.2 k = qE0 h.2 k := by
  generalize hh : mNew h (.inr (8, [.int 0, .null, .null, .null, .null, .null, .null, .int 0, .null, .null, .null, .null, .int 0, .int 0, .null, .null, .null, .null, .null, .null, .null, .null, .null, .null, .null])) = h0
  have e0 : h0.2 51 = .inr (8, [.int 0, .null, .null, .null, .null, .null, .null, .int 0, .null, .null, .null, .null, .int 0, .int 0, .null, .null, .null, .null, .null, .null, .null, .null, .null, .null, .null]) := by rw [← hh]; simp [mNew, va_up, h1]
  have n0 : h0.1 = 51 := by rw [← hh]; show h.1 + 1 = 51; rw [h1]
  have q52 : qVm 51 _ (qE0 h.2) h0 := ⟨n0, e0, fun k hk h51 => by
    have hk2 : k ≤ 50 := by omega
    rw [← hh, qNewN h _ (by omega)]
    unfold qE0
    simp only [va_up, show ¬ k = 52 by omega, show ¬ k = 53 by omega, show ¬ k = 54 by omega, show ¬ k = 55 by omega, show ¬ k = 56 by omega, show ¬ k = 57 by omega, show ¬ k = 58 by omega, show ¬ k = 59 by omega, show ¬ k = 60 by omega, show ¬ k = 61 by omega, show ¬ k = 62 by omega, show ¬ k = 63 by omega, show ¬ k = 64 by omega, show ¬ k = 65 by omega, show ¬ k = 66 by omega, show ¬ k = 67 by omega, show ¬ k = 68 by omega, show ¬ k = 69 by omega, show ¬ k = 70 by omega, show ¬ k = 71 by omega, show ¬ k = 72 by omega, if_false]⟩
  obtain ⟨h52, q53, K52⟩ := q52.new (by decide) (.inl (6, .inl (fun _ => 0))) rfl 1 (by decide)
  obtain ⟨h53, q54, K53⟩ := q53.new (by decide) (.inl (168, .inl (fun _ => 0))) rfl 2 (by decide)
  obtain ⟨h54, q55, K54⟩ := q54.new (by decide) (.inl (336, .inl (fun _ => 0))) rfl 3 (by decide)
  obtain ⟨h55, q56, K55⟩ := q55.new (by decide) (.inl (336, .inl (fun _ => 0))) rfl 4 (by decide)
  obtain ⟨h56, q57, K56⟩ := q56.new (by decide) (.inl (12, .inl (fun _ => 0))) rfl 5 (by decide)
  obtain ⟨h57, q58, K57⟩ := q57.new (by decide) (.inl (28, .inl (fun _ => 0))) rfl 6 (by decide)
  obtain ⟨h58, q59, K58⟩ := q58.new (by decide) (.inl (28, .inl (fun _ => 0))) rfl 8 (by decide)
  obtain ⟨h59, q60, K59⟩ := q59.new16 (by decide) 0 1 2 3 1 0 3 2 2 3 0 1 3 2 1 0 rfl 9 (by decide)
  obtain ⟨h60, q61, K60⟩ := q60.new16 (by decide) 0 0 0 0 1 0 1 0 1 0 0 1 1 1 0 0 rfl 10 (by decide)
  obtain ⟨h61, q62, K61⟩ := q61.new (by decide) (.inl (4, .inl (fun _ => 0))) rfl 11 (by decide)
  obtain ⟨h62, q63, K62⟩ := q62.new (by decide) (.inl (28, .inl (fun _ => 0))) rfl 14 (by decide)
  obtain ⟨h63, q64, K63⟩ := q63.new (by decide) (.inl (6, .inl (fun _ => 0))) rfl 15 (by decide)
  obtain ⟨h64, q65, K64⟩ := q64.new (by decide) (.inl (6, .inl (fun _ => 0))) rfl 16 (by decide)
  obtain ⟨h65, q66, K65⟩ := q65.new (by decide) (.inl (6, .inl (fun _ => 0))) rfl 17 (by decide)
  obtain ⟨h66, q67, K66⟩ := q66.new (by decide) (.inl (144, .inr (.inl (fun _ => 0)))) rfl 18 (by decide)
  obtain ⟨h67, q68, K67⟩ := q67.new (by decide) (.inl (12, .inl (fun _ => 0))) rfl 19 (by decide)
  obtain ⟨h68, q69, K68⟩ := q68.new (by decide) (.inl (12, .inl (fun _ => 0))) rfl 20 (by decide)
  obtain ⟨h69, q70, K69⟩ := q69.new (by decide) (.inl (156, .inl (fun _ => 0))) rfl 21 (by decide)
  obtain ⟨h70, q71, K70⟩ := q70.new (by decide) (.inl (156, .inl (fun _ => 0))) rfl 22 (by decide)
  obtain ⟨h71, q72, K71⟩ := q71.new (by decide) (.inl (28, .inl (fun _ => 0))) rfl 23 (by decide)
  obtain ⟨h72, q73, K72⟩ := q72.new (by decide) (.inl (8, .inl (fun _ => 0))) rfl 24 (by decide)
  refine ⟨h72, ?_, q73.1, q73.2.1, q73.2.2⟩
  unfold f_X9_init
  refine lwBind (qIs (by rw [n0]; exact Nat.le_refl _) e0) ?_
  refine (K52 _).trans ?_
  refine (K53 _).trans ?_
  refine (K54 _).trans ?_
  refine (K55 _).trans ?_
  refine (K56 _).trans ?_
  refine (K57 _).trans ?_
  refine (K58 _).trans ?_
  refine (K59 _).trans ?_
  refine (K60 _).trans ?_
  refine (K61 _).trans ?_
  refine (K62 _).trans ?_
  refine (K63 _).trans ?_
  refine (K64 _).trans ?_
  refine (K65 _).trans ?_
  refine (K66 _).trans ?_
  refine (K67 _).trans ?_
  refine (K68 _).trans ?_
  refine (K69 _).trans ?_
  refine (K70 _).trans ?_
  refine (K71 _).trans ?_
  refine (K72 _).trans ?_
  rfl
/-- nothing stands: no table, no row told, no signal -/
def qA0 : qA := (fun _ => (0, fun _ => 0, fun _ => 0, fun _ => 0, false), (0, fun _ => 0), fun _ => 0)
theorem qWA0 : qWA qA0 := ⟨fun t _ => ⟨by show 0 ≤ 28; decide, fun i hi => absurd hi (Nat.not_lt_zero i), fun i hi => absurd hi (Nat.not_lt_zero i), fun i hi => absurd hi (Nat.not_lt_zero i)⟩, by show 0 ≤ 28; decide, fun i hi => absurd hi (Nat.not_lt_zero i)⟩
theorem qXt0 {h : mH} {t : Nat} (h6 : t < 6) (h1 : h.1 = 72) (e3 : h.2 (3 + 4 * t) = .inr (6, [.int 0, .ref (4 + 4 * t), .ref (5 + 4 * t), .ref (6 + 4 * t), .int 0, .int 0, .int 0, .int 0])) (e4 : h.2 (4 + 4 * t) = .inl (28, .inl (fun _ => 0))) (e5 : h.2 (5 + 4 * t) = .inl (28, .inl (fun _ => 0))) (e6 : h.2 (6 + 4 * t) = .inl (28, .inl (fun _ => 0))) : qXt h t (qA0.1 t) :=
  ⟨0, 0, 0, 5 + 4 * t, 6 + 4 * t, fun _ => 0, fun _ => 0, fun _ => 0, ⟨h6, h1, e3, e4, e5, e6, Or.inl ⟨rfl, rfl⟩⟩, fun i hi => absurd hi (Nat.not_lt_zero i), fun i hi => absurd hi (Nat.not_lt_zero i), fun i hi => absurd hi (Nat.not_lt_zero i), Or.inl rfl⟩
theorem qX0_X {L : Nat} {xs : Nat → Int32} {h : mH} (h1 : h.1 = 72) (q : qX0 L xs h.2) : qX h qA0 := by
  obtain ⟨⟨f, f2, b0, b1, b2, b3, b4, b5⟩, a0, a1, a3, a4, a5, a6, a7, a8, a9, a10, a11, a12, a13, a14, a15, a16, a17, a18, a19, a20, a21, a22, a23, a24, a25, a26, a27, a28, a29, a30, a31, a32, a33, a34, a35, a36, a37, a38, a39, a40, a41, a42, a43, a44, a45, a46, a47, a48, a49, a50⟩ := q
  refine ⟨h1, a1, ⟨f, f2, fun t ht => ?_⟩, fun t ht => ?_, ⟨_, a27, fun i hi => absurd hi (Nat.not_lt_zero i)⟩, ⟨_, a28, fun _ _ => rfl⟩, ⟨_, a29⟩, a30, ⟨_, a31⟩, ⟨_, a32⟩, ⟨0, 0, 0, none, none, a33⟩, ⟨_, a34⟩, ⟨_, a35⟩, ⟨_, a36⟩, ⟨_, a37⟩, ⟨0, 0, none, a38⟩, ⟨_, a39⟩, ⟨_, a40⟩, ⟨_, a41⟩, a42, ⟨_, a43⟩, ⟨_, a44⟩, a45, ⟨_, a46⟩, ⟨0, a47⟩, ⟨_, a48⟩, ⟨_, a49⟩, ⟨_, a50⟩⟩
  · match t, ht with
    | 0, _ => exact b0
    | 1, _ => exact b1
    | 2, _ => exact b2
    | 3, _ => exact b3
    | 4, _ => exact b4
    | 5, _ => exact b5
    | t + 6, ht => exact absurd ht (by omega)
  · match t, ht with
    | 0, ht => exact qXt0 ht h1 a3 a4 a5 a6
    | 1, ht => exact qXt0 ht h1 a7 a8 a9 a10
    | 2, ht => exact qXt0 ht h1 a11 a12 a13 a14
    | 3, ht => exact qXt0 ht h1 a15 a16 a17 a18
    | 4, ht => exact qXt0 ht h1 a19 a20 a21 a22
    | 5, ht => exact qXt0 ht h1 a23 a24 a25 a26
    | t + 6, ht => exact absurd ht (by omega)
theorem qTab16 {f : Nat → Int32} {l : List Nat} (hl : l.length = 16) (e0 : f 0 = nI (l.getD 0 0)) (e1 : f 1 = nI (l.getD 1 0)) (e2 : f 2 = nI (l.getD 2 0)) (e3 : f 3 = nI (l.getD 3 0)) (e4 : f 4 = nI (l.getD 4 0)) (e5 : f 5 = nI (l.getD 5 0)) (e6 : f 6 = nI (l.getD 6 0)) (e7 : f 7 = nI (l.getD 7 0)) (e8 : f 8 = nI (l.getD 8 0)) (e9 : f 9 = nI (l.getD 9 0)) (e10 : f 10 = nI (l.getD 10 0)) (e11 : f 11 = nI (l.getD 11 0)) (e12 : f 12 = nI (l.getD 12 0)) (e13 : f 13 = nI (l.getD 13 0)) (e14 : f 14 = nI (l.getD 14 0)) (e15 : f 15 = nI (l.getD 15 0)) : qTab f l := by
  intro i hi
  rw [hl] at hi
  match i, hi with
  | 0, _ => exact e0
  | 1, _ => exact e1
  | 2, _ => exact e2
  | 3, _ => exact e3
  | 4, _ => exact e4
  | 5, _ => exact e5
  | 6, _ => exact e6
  | 7, _ => exact e7
  | 8, _ => exact e8
  | 9, _ => exact e9
  | 10, _ => exact e10
  | 11, _ => exact e11
  | 12, _ => exact e12
  | 13, _ => exact e13
  | 14, _ => exact e14
  | 15, _ => exact e15
  | i + 16, hi => exact absurd hi (by omega)
theorem qM0_M {g : Nat → mC} {h : mH} (h1 : h.1 = 72) (a51 : h.2 51 = .inr (8, [.int 0, .ref 52, .ref 53, .ref 54, .ref 55, .ref 56, .ref 57, .int 0, .ref 58, .ref 59, .ref 60, .ref 61, .int 0, .int 0, .ref 62, .ref 63, .ref 64, .ref 65, .ref 66, .ref 67, .ref 68, .ref 69, .ref 70, .ref 71, .ref 72])) (F : ∀ k, k ≤ 72 → k ≠ 51 → h.2 k = qE0 g k) : qM h qA0 := by
  have a52 : h.2 52 = .inl (6, .inl (fun _ => 0)) := (F 52 (by decide) (by decide)).trans rfl
  have a53 : h.2 53 = .inl (168, .inl (fun _ => 0)) := (F 53 (by decide) (by decide)).trans rfl
  have a54 : h.2 54 = .inl (336, .inl (fun _ => 0)) := (F 54 (by decide) (by decide)).trans rfl
  have a55 : h.2 55 = .inl (336, .inl (fun _ => 0)) := (F 55 (by decide) (by decide)).trans rfl
  have a56 : h.2 56 = .inl (12, .inl (fun _ => 0)) := (F 56 (by decide) (by decide)).trans rfl
  have a57 : h.2 57 = .inl (28, .inl (fun _ => 0)) := (F 57 (by decide) (by decide)).trans rfl
  have a58 : h.2 58 = .inl (28, .inl (fun _ => 0)) := (F 58 (by decide) (by decide)).trans rfl
  have a59 : h.2 59 = .inl (16, .inl (qF16 0 1 2 3 1 0 3 2 2 3 0 1 3 2 1 0)) := (F 59 (by decide) (by decide)).trans rfl
  have a60 : h.2 60 = .inl (16, .inl (qF16 0 0 0 0 1 0 1 0 1 0 0 1 1 1 0 0)) := (F 60 (by decide) (by decide)).trans rfl
  have a61 : h.2 61 = .inl (4, .inl (fun _ => 0)) := (F 61 (by decide) (by decide)).trans rfl
  have a62 : h.2 62 = .inl (28, .inl (fun _ => 0)) := (F 62 (by decide) (by decide)).trans rfl
  have a63 : h.2 63 = .inl (6, .inl (fun _ => 0)) := (F 63 (by decide) (by decide)).trans rfl
  have a64 : h.2 64 = .inl (6, .inl (fun _ => 0)) := (F 64 (by decide) (by decide)).trans rfl
  have a65 : h.2 65 = .inl (6, .inl (fun _ => 0)) := (F 65 (by decide) (by decide)).trans rfl
  have a66 : h.2 66 = .inl (144, .inr (.inl (fun _ => 0))) := (F 66 (by decide) (by decide)).trans rfl
  have a67 : h.2 67 = .inl (12, .inl (fun _ => 0)) := (F 67 (by decide) (by decide)).trans rfl
  have a68 : h.2 68 = .inl (12, .inl (fun _ => 0)) := (F 68 (by decide) (by decide)).trans rfl
  have a69 : h.2 69 = .inl (156, .inl (fun _ => 0)) := (F 69 (by decide) (by decide)).trans rfl
  have a70 : h.2 70 = .inl (156, .inl (fun _ => 0)) := (F 70 (by decide) (by decide)).trans rfl
  have a71 : h.2 71 = .inl (28, .inl (fun _ => 0)) := (F 71 (by decide) (by decide)).trans rfl
  have a72 : h.2 72 = .inl (8, .inl (fun _ => 0)) := (F 72 (by decide) (by decide)).trans rfl
  refine ⟨h1, ⟨0, 0, a51⟩, ⟨_, _, _, _, _, ⟨a52, a53, a54, a55, a56⟩, fun t _ => ⟨rfl, fun i hi => absurd hi (Nat.not_lt_zero i), fun i hi => absurd hi (Nat.not_lt_zero i), fun i hi => absurd hi (Nat.not_lt_zero i), fun z => absurd z (Nat.not_lt_zero 0), fun z => absurd z (Nat.not_lt_zero 0)⟩⟩, ⟨_, a57, fun i hi => absurd hi (Nat.not_lt_zero i)⟩, ⟨_, a71, fun _ _ => rfl⟩, ⟨_, a58⟩, ⟨_, a59, qTab16 rfl rfl rfl rfl rfl rfl rfl rfl rfl rfl rfl rfl rfl rfl rfl rfl rfl⟩, ⟨_, a60, qTab16 rfl rfl rfl rfl rfl rfl rfl rfl rfl rfl rfl rfl rfl rfl rfl rfl rfl⟩, ⟨_, a61⟩, ⟨_, a62⟩, ⟨_, a63⟩, ⟨_, a64⟩, ⟨_, a65⟩, ⟨_, a66⟩, ⟨_, a67⟩, ⟨_, a68⟩, ⟨_, a69⟩, ⟨_, a70⟩, ⟨_, a72⟩⟩
/-- both objects made: the state in which nothing stands -/
theorem qStart (L : Nat) (xs : Nat → Int32) : ∃ (g : Nat → mC) (h2 : mH), f_X8_init 1 (mNew (0, fun _ => .inl (L, .inl xs)) (.inr (7, [.null, .null, .int 0, .null, .null, .null, .null, .null, .null, .null, .null]))) = some (50, g) ∧ f_X9_init 51 (mNew (50, g) (.inr (8, [.int 0, .null, .null, .null, .null, .null, .null, .int 0, .null, .null, .null, .null, .int 0, .int 0, .null, .null, .null, .null, .null, .null, .null, .null, .null, .null, .null]))) = some h2 ∧ qI h2 qA0 ∧ h2.2 0 = .inl (L, .inl xs) := by
  obtain ⟨g, p1, q⟩ := qStart_x L xs
  obtain ⟨h2, p2, h1, a51, F⟩ := qStart_m (h := (50, g)) rfl
  obtain ⟨⟨f, f2, b⟩, a0, a1, a3, a4, a5, a6, a7, a8, a9, a10, a11, a12, a13, a14, a15, a16, a17, a18, a19, a20, a21, a22, a23, a24, a25, a26, a27, a28, a29, a30, a31, a32, a33, a34, a35, a36, a37, a38, a39, a40, a41, a42, a43, a44, a45, a46, a47, a48, a49, a50⟩ := q
  have E : ∀ k, k ≤ 50 → h2.2 k = g k := fun k hk => by
    rw [F k (by omega) (by omega)]
    unfold qE0
    simp only [va_up, show ¬ k = 52 by omega, show ¬ k = 53 by omega, show ¬ k = 54 by omega, show ¬ k = 55 by omega, show ¬ k = 56 by omega, show ¬ k = 57 by omega, show ¬ k = 58 by omega, show ¬ k = 59 by omega, show ¬ k = 60 by omega, show ¬ k = 61 by omega, show ¬ k = 62 by omega, show ¬ k = 63 by omega, show ¬ k = 64 by omega, show ¬ k = 65 by omega, show ¬ k = 66 by omega, show ¬ k = 67 by omega, show ¬ k = 68 by omega, show ¬ k = 69 by omega, show ¬ k = 70 by omega, show ¬ k = 71 by omega, show ¬ k = 72 by omega, if_false]
  have x : qX0 L xs h2.2 := ⟨⟨f, (E 2 (by decide)).trans f2, b⟩, (E 0 (by decide)).trans a0, (E 1 (by decide)).trans a1, (E 3 (by decide)).trans a3, (E 4 (by decide)).trans a4, (E 5 (by decide)).trans a5, (E 6 (by decide)).trans a6, (E 7 (by decide)).trans a7, (E 8 (by decide)).trans a8, (E 9 (by decide)).trans a9, (E 10 (by decide)).trans a10, (E 11 (by decide)).trans a11, (E 12 (by decide)).trans a12, (E 13 (by decide)).trans a13, (E 14 (by decide)).trans a14, (E 15 (by decide)).trans a15, (E 16 (by decide)).trans a16, (E 17 (by decide)).trans a17, (E 18 (by decide)).trans a18, (E 19 (by decide)).trans a19, (E 20 (by decide)).trans a20, (E 21 (by decide)).trans a21, (E 22 (by decide)).trans a22, (E 23 (by decide)).trans a23, (E 24 (by decide)).trans a24, (E 25 (by decide)).trans a25, (E 26 (by decide)).trans a26, (E 27 (by decide)).trans a27, (E 28 (by decide)).trans a28, (E 29 (by decide)).trans a29, (E 30 (by decide)).trans a30, (E 31 (by decide)).trans a31, (E 32 (by decide)).trans a32, (E 33 (by decide)).trans a33, (E 34 (by decide)).trans a34, (E 35 (by decide)).trans a35, (E 36 (by decide)).trans a36, (E 37 (by decide)).trans a37, (E 38 (by decide)).trans a38, (E 39 (by decide)).trans a39, (E 40 (by decide)).trans a40, (E 41 (by decide)).trans a41, (E 42 (by decide)).trans a42, (E 43 (by decide)).trans a43, (E 44 (by decide)).trans a44, (E 45 (by decide)).trans a45, (E 46 (by decide)).trans a46, (E 47 (by decide)).trans a47, (E 48 (by decide)).trans a48, (E 49 (by decide)).trans a49, (E 50 (by decide)).trans a50⟩
  exact ⟨g, h2, p1, p2, ⟨qX0_X h1 x, qM0_M h1 a51 F, qWA0⟩, (E 0 (by decide)).trans a0⟩
