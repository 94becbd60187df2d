/-! reading a fill: a box with 0 that breaks LE, the class -/
def s_brk (P : Nat → Nat) (i j : Nat) : Bool := !q_hl (P i) j && (decide (P i >>> j ≠ 0) && (List.range' 1 (i - 1)).any (fun h => q_hl (P h) j))
theorem c_Di_brkGo {c i j : Nat} {P : Nat → Nat} (hi : i ≤ 8) (hj : 1 ≤ j) (hj8 : j ≤ 8) (hP : ∀ k, P k < 256) {d : qD} {b : Nat} (eP : ∀ k, 1 ≤ k → k ≤ i → d.1 t_plus c k = (P k : Int)) : ∀ (f h : Nat), h + f = i → 1 ≤ h → q_Ev m_Di_breaksLe 16 [q_r t_Di c, q_i (i : Int), q_i (j : Int), q_i (h : Int)] [] (q_mk d b) (q_i (q_b2i ((List.range' h f).any (fun h => q_hl (P h) j))), q_mk d b)
  | 0, h, hf, h1 => e_Di_breaksLe_16 ⟨fun _ => ⟨by decide, by decide, rfl⟩, fun hh => by omega⟩
  | f + 1, h, hf, h1 => by
    rw [List.range'_succ, List.any_cons]
    refine e_Di_breaksLe_16 ⟨fun hh => by omega, fun _ => ⟨_, _, c_Di_isPlus (hP h) (by omega) hj (by omega) (eP h h1 (by omega)), e_Di_breaksLe_23 ⟨fun hh => ?_, fun hh => ?_⟩⟩⟩
    · rw [q_b2i_f hh, Bool.false_or, q_wS (by omega)]
      exact c_Di_brkGo hi hj hj8 hP eP f (h + 1) (by omega) (by omega)
    · rw [q_b2i_t hh, Bool.true_or]
      exact ⟨by decide, by decide, rfl⟩
theorem c_Di_breaksLe {c i j : Nat} {P : Nat → Nat} (h1 : 1 ≤ i) (hi : i ≤ 8) (hj : 1 ≤ j) (hj8 : j ≤ 8) (hP : ∀ k, P k < 256) {d : qD} {b : Nat} (eP : ∀ k, 1 ≤ k → k ≤ i → d.1 t_plus c k = (P k : Int)) : q_Ev m_Di_breaksLe 0 [q_r t_Di c, q_i (i : Int), q_i (j : Int), none] [] (q_mk d b) (q_i (q_b2i (s_brk P i j)), q_mk d b) := by
  have no : s_brk P i j = false → q_Ev m_Di_breaksLe 12 [none, none, none, none] [] (q_mk d b) (q_i (q_b2i (s_brk P i j)), q_mk d b) := by
    intro h
    rw [h]
    exact e_Di_breaksLe_12 ⟨by decide, by decide, rfl⟩
  have es := s_shr_nat (P i) (hP i) j (by omega)
  refine e_Di_breaksLe_0 ⟨_, _, c_Di_isPlus (hP i) (by omega) hj (by omega) (eP i h1 (Nat.le_refl i)), e_Di_breaksLe_4 ⟨fun hh => no ?_, fun hh => ⟨by omega, by omega, ?_⟩⟩⟩
  · unfold s_brk; rw [q_b2i_t hh]; rfl
  · rw [Int.toNat_natCast, eP i h1 (Nat.le_refl i), es]
    refine ⟨fun h2 => ?_, fun h2 => no ?_⟩
    · have k := c_Di_brkGo hi hj hj8 hP (b := b) eP (i - 1) 1 (by omega) (by omega)
      unfold s_brk
      rw [q_b2i_f hh, decide_eq_true (by omega), Bool.not_false, Bool.true_and, Bool.true_and]
      exact k
    · unfold s_brk; rw [decide_eq_false (by omega), Bool.false_and, Bool.and_false]
