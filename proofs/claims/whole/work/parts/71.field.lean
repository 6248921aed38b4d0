/-! PURE: field -/
theorem op_field {h : mH} {A : qA} (I : qI h A) (x y z v : Int32) : ∃ r, f_X8_field (some 1) x y z v h = some r ∧ f_X9_field (some 51) x y z v h = some r := by
  obtain ⟨q, m, w⟩ := I
  unfold f_X8_field f_X9_field
  rw [q.is, qbind, m.is, qbind]
  rcases qFd x with ⟨a1, a2⟩ | ⟨k, hk, k3, k28, rfl, a1, a2, p3, p28⟩
  · exact ⟨-1, by rw [a1, qbind, if_pos rfl], by rw [a2, qbind, if_pos rfl]⟩
  · rw [a2, qbind, if_neg (by rw [qI_zero, qeq (by omega) (by decide)]; omega), a1, qbind, if_neg q10, show nI k - 1 = nI (k - 1) by rw [qI_one, qI_sub (by omega)]]
    rcases qarg y with hy | ⟨a, ha, rfl⟩
    · exact ⟨-1, by rw [if_pos hy], by rw [m_in_neg hy, qbind, if_pos rfl]⟩
    · rw [if_neg (qpos ha), m_in_k ha (by omega), qbind]
      by_cases hak : a < k
      · rw [if_neg (by rw [qle (by omega) (by omega)]; omega), decide_eq_true (by omega), qif1]
        rcases qarg z with hz | ⟨b, hb, rfl⟩
        · exact ⟨-1, by rw [if_pos hz], by rw [m_in_neg hz, qbind, if_pos rfl]⟩
        · rw [if_neg (qpos hb), m_in_k hb (by omega), qbind]
          by_cases hbk : b < k
          · rw [if_pos (by rw [qlt (by omega) (by omega)]; omega), decide_eq_true (by omega), qif1]
            obtain ⟨b1, b2, b3, b4, b5, b6, b7, b8⟩ := qFa hk hak hbk
            obtain ⟨c1, c2, c3⟩ := qFs hk
            rcases qarg v with hv | ⟨u, hu, rfl⟩
            · refine ⟨-1, ?_, by rw [m_in_neg hv, qbind, if_pos rfl]⟩
              rw [if_neg (fun z => by rw [z] at hv; exact absurd hv (by decide)), if_neg (fun z => by rw [z] at hv; exact absurd hv (by decide)), if_neg (fun z => by rw [z] at hv; exact absurd hv (by decide)), if_neg (fun z => by rw [z] at hv; exact absurd hv (by decide))]
            · rw [show f_X9_in (nI u) 0 3 = some (qB2I (decide (u ≤ 3))) from m_in_k hu (by decide), qbind]
              match u, hu with
              | 0, _ => exact ⟨nI (qTo k a b), by rw [if_pos (by decide), b5, qbind], by rw [decide_eq_true (by decide), qif1, if_pos (by decide), b6, qbind]⟩
              | 1, _ => exact ⟨nI (qTi k a b), by rw [if_neg (by decide), if_pos (by decide), b7, qbind], by rw [decide_eq_true (by decide), qif1, if_neg (by decide), if_pos (by decide), b8, qbind]⟩
              | 2, _ => exact ⟨nI (qDf k a b), by rw [if_neg (by decide), if_neg (by decide), if_pos (by decide), b1, qbind], by rw [decide_eq_true (by decide), qif1, if_neg (by decide), if_neg (by decide), if_pos (by decide), b2, qbind]⟩
              | 3, _ =>
                refine ⟨qB2I ((qSqs k).testBit a), ?_, ?_⟩
                · rw [if_neg (by decide), if_neg (by decide), if_neg (by decide), if_pos (by decide), c1, qbind, x_inSet (by omega) (by omega), qbind]
                  cases (qSqs k).testBit a <;> rfl
                · rw [decide_eq_true (by decide), qif1, if_neg (by decide), if_neg (by decide), if_neg (by decide), c3 a hak, qbind]
                  cases (qSqs k).testBit a <;> rfl
              | u + 4, hu =>
                refine ⟨-1, ?_, by rw [decide_eq_false (by omega), qif0]⟩
                rw [if_neg (by rw [qI_zero, qeq hu (by decide)]; omega), if_neg (by rw [qI_one, qeq hu (by decide)]; omega), if_neg (by rw [show (2 : Int32) = nI 2 from rfl, qeq hu (by decide)]; omega), if_neg (by rw [show (3 : Int32) = nI 3 from rfl, qeq hu (by decide)]; omega)]
          · exact ⟨-1, by rw [if_neg (by rw [qlt (by omega) (by omega)]; omega)], by rw [decide_eq_false (by omega), qif0]⟩
      · exact ⟨-1, by rw [if_pos (by rw [qle (by omega) (by omega)]; omega)], by rw [decide_eq_false (by omega), qif0]⟩
