/-! the class's ways: the next column, the row above -/
theorem c_Di_nextColumn {c n fi j : Nat} (hn : n ≤ 8) (hfi : fi < 256) {d : qD} {b : Nat} (e0 : d.1 t_Di c 0 = (n : Int)) (e1 : d.1 t_Di c 1 = (fi : Int)) : ∀ (f m : Nat), m + f = n + 1 → j < m → (∀ k, j < k → k < m → q_hl fi k = true) → ∃ m', j < m' ∧ m' ≤ n + 1 ∧ (∀ k, j < k → k < m' → q_hl fi k = true) ∧ (m' ≤ n → q_hl fi m' = false) ∧ q_Ev m_Di_nextColumn 4 [q_r t_Di c, none, q_i (m : Int)] [] (q_mk d b) (q_i (m' : Int), q_mk d b)
  | 0, m, hf, hj, hk => ⟨m, hj, by omega, hk, fun hh => by omega, e_Di_nextColumn_4 ⟨fun _ => e_Di_nextColumn_15 rfl, fun hh => by rw [e0] at hh; omega⟩⟩
  | f + 1, m, hf, hj, hk => by
    have kh := c_Se_holds (s := fi) (l := m) (by omega) (by omega) (by omega) (d := d) (b := b)
    rw [← e1] at kh
    by_cases hl : q_hl fi m = true
    · rw [hl] at kh
      obtain ⟨m', a1, a2, a3, a4, v⟩ := c_Di_nextColumn (j := j) hn hfi (b := b) e0 e1 f (m + 1) (by omega) (by omega) (fun k k1 k2 => by
        by_cases hq : k = m
        · subst hq; exact hl
        · exact hk k k1 (by omega))
      refine ⟨m', a1, a2, a3, a4, e_Di_nextColumn_4 ⟨fun hh => by rw [e0] at hh; omega, fun _ => ⟨_, _, kh, e_Di_nextColumn_12 ⟨fun hh => absurd hh (by decide), fun _ => ?_⟩⟩⟩⟩
      rw [q_wS (by omega)]; exact v
    · rw [Bool.eq_false_iff.mpr hl] at kh
      exact ⟨m, hj, by omega, hk, fun _ => Bool.eq_false_iff.mpr hl, e_Di_nextColumn_4 ⟨fun hh => by rw [e0] at hh; omega, fun _ => ⟨_, _, kh, e_Di_nextColumn_12 ⟨fun _ => e_Di_nextColumn_15 rfl, fun hh => absurd rfl hh⟩⟩⟩⟩
theorem c_Di_rowAbove {c fi i : Nat} (hi : i ≤ 8) (hfi : fi < 256) {d : qD} {b : Nat} (e1 : d.1 t_Di c 1 = (fi : Int)) : ∀ (h : Nat), h < i → (∀ k, h < k → k < i → q_hl fi k = false) → ∃ h', h' < i ∧ (∀ k, h' < k → k < i → q_hl fi k = false) ∧ (1 ≤ h' → q_hl fi h' = true) ∧ q_Ev m_Di_rowAbove 4 [q_r t_Di c, none, q_i (h : Int)] [] (q_mk d b) (q_i (h' : Int), q_mk d b)
  | 0, h0, hk => ⟨0, h0, hk, fun hh => by omega, e_Di_rowAbove_4 ⟨fun _ => e_Di_rowAbove_14 rfl, fun hh => by omega⟩⟩
  | h + 1, h0, hk => by
    have kh := c_Se_holds (s := fi) (l := h + 1) (by omega) (by omega) (by omega) (d := d) (b := b)
    rw [← e1] at kh
    by_cases hl : q_hl fi (h + 1) = true
    · rw [hl] at kh
      exact ⟨h + 1, h0, hk, fun _ => hl, e_Di_rowAbove_4 ⟨fun hh => by omega, fun _ => ⟨_, _, kh, e_Di_rowAbove_11 ⟨fun _ => e_Di_rowAbove_14 rfl, fun hh => absurd hh (by decide)⟩⟩⟩⟩
    · have hl' := Bool.eq_false_iff.mpr hl
      rw [hl'] at kh
      obtain ⟨h', a1, a2, a3, v⟩ := c_Di_rowAbove hi hfi (b := b) e1 h (by omega) (fun k k1 k2 => by
        by_cases hq : k = h + 1
        · subst hq; exact hl'
        · exact hk k (by omega) k2)
      refine ⟨h', a1, a2, a3, e_Di_rowAbove_4 ⟨fun hh => by omega, fun _ => ⟨_, _, kh, e_Di_rowAbove_11 ⟨fun hh => absurd rfl hh, fun _ => ?_⟩⟩⟩⟩
      rw [show ((h + 1 : Nat) : Int) + (-1) = ((h + 1 : Nat) : Int) - ((1 : Nat) : Int) by omega, q_wD (by omega) (by omega), show h + 1 - 1 = h by omega]
      exact v
