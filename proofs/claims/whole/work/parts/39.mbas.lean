/-! at least, bases: the model -/
theorem q_rem_s : ∀ a : Nat, a < 64 → ∀ c : Nat, c < 17 → 0 < c → q_rem (a : Int) (c : Int) = ((a % c : Nat) : Int) := by decide +kernel
theorem s_on_mod {n fm s : Nat} (h1 : 1 ≤ fm) (h2 : fm ≤ n) (h3 : s < n) : (fm - 1 + s) % n + 1 = s_on n fm s := by
  unfold s_on
  by_cases h : fm + s ≤ n
  · rw [if_pos h, Nat.mod_eq_of_lt (by omega)]; omega
  · rw [if_neg h, Nat.mod_eq_sub_mod (by omega), Nat.mod_eq_of_lt (by omega)]; omega
theorem c_Md_isAtLeastGo {s o fm n : Nat} (hs : s < 256) (ho : o < 256) (hf : 1 ≤ fm) (hfn : fm ≤ n) (hn : n ≤ 8) {d : qD} {b : Nat} (e0 : d.1 t_Md 0 10 = (n : Int)) : ∀ (f step : Nat) (lead : Int), step + f = n → lead ≤ 0 → -8 - (step : Int) ≤ lead → q_Ev m_Md_isAtLeast 4 [some (.inr (.inr (t_Md, 0))), some (.inl (s : Int)), some (.inl (o : Int)), some (.inl (fm : Int)), some (.inl (-lead)), some (.inl (step : Int)), none] [] (q_mk d b) (some (.inl (q_b2i (s_alGo s o fm n f step lead))), q_mk d b)
  | 0, step, lead, hst, _, _ => by
    refine e_Md_isAtLeast_4 ⟨fun _ => ⟨by decide, by decide, rfl⟩, fun h => ?_⟩
    rw [e0] at h; omega
  | f + 1, step, lead, hst, h0, hm => by
    have hl : 1 ≤ s_on n fm step ∧ s_on n fm step ≤ n := by unfold s_on; split <;> omega
    have el : q_w ((q_rem (q_w ((q_w ((fm : Int) - 1)) + (step : Int))) (n : Int)) + 1) = (s_on n fm step : Int) := by
      rw [show q_w ((fm : Int) - 1) = ((fm - 1 : Nat) : Int) by rw [q_w_id (by omega) (by omega)]; omega,
        show q_w (((fm - 1 : Nat) : Int) + (step : Int)) = ((fm - 1 + step : Nat) : Int) by rw [q_w_id (by omega) (by omega)]; omega,
        q_rem_s _ (by omega) _ (by omega) (by omega), q_wS (by have := Nat.mod_lt (fm - 1 + step) (show 0 < n by omega); omega), s_on_mod hf hfn (by omega)]
    refine e_Md_isAtLeast_4 ⟨fun h => ?_, fun _ => ?_⟩
    · rw [e0] at h; omega
    rw [e0, el]
    refine ⟨by omega, _, _, c_Md_has (by omega) hl.1 (by omega), ?_⟩
    have k34 : q_Ev m_Md_isAtLeast 34 [some (.inr (.inr (t_Md, 0))), some (.inl (s : Int)), some (.inl (o : Int)), some (.inl (fm : Int)), none, some (.inl (step : Int)), none] [.inl (q_b2i (q_hl s (s_on n fm step))), .inl (q_b2i (q_hl o (s_on n fm step))), .inl (-lead)] (q_mk d b) (some (.inl (q_b2i (s_alGo s o fm n (f + 1) step lead))), q_mk d b) := by
      refine e_Md_isAtLeast_34 ?_
      have b1 := q_b2i_nn (q_hl s (s_on n fm step))
      have b2 := q_b2i_lt (q_hl s (s_on n fm step))
      have b3 := q_b2i_nn (q_hl o (s_on n fm step))
      have b4 := q_b2i_lt (q_hl o (s_on n fm step))
      rw [s_alGo]
      generalize q_b2i (q_hl s (s_on n fm step)) = u at *
      generalize q_b2i (q_hl o (s_on n fm step)) = v at *
      have e1 : q_w (v - u) = v - u := q_w_id (by omega) (by omega)
      have e2 : q_w (-lead + (v - u)) = -(lead + (u - v)) := by rw [q_w_id (by omega) (by omega)]; omega
      rw [e1, e2, q_wS (by omega)]
      refine ⟨fun h => ?_, fun h => ?_⟩
      · rw [if_pos (by omega)]
        exact c_Md_isAtLeastGo hs ho hf hfn hn e0 f (step + 1) _ (by omega) (by omega) (by omega)
      · rw [if_neg (by omega)]
        exact ⟨by decide, by decide, rfl⟩
    have k27 : q_Ev m_Md_isAtLeast 27 [some (.inr (.inr (t_Md, 0))), some (.inl (s : Int)), some (.inl (o : Int)), some (.inl (fm : Int)), none, some (.inl (step : Int)), some (.inl (s_on n fm step : Int))] [.inl (q_b2i (q_hl o (s_on n fm step))), .inl (-lead)] (q_mk d b) (some (.inl (q_b2i (s_alGo s o fm n (f + 1) step lead))), q_mk d b) := by
      refine e_Md_isAtLeast_27 ⟨_, _, c_Md_has (by omega) hl.1 (by omega), ?_⟩
      refine e_Md_isAtLeast_30 ⟨fun h => ?_, fun h => ?_⟩
      · rw [q_b2i_f h] at k34; exact k34
      · rw [q_b2i_t h] at k34; exact k34
    refine e_Md_isAtLeast_23 ⟨fun h => ?_, fun h => ?_⟩
    · rw [q_b2i_f h] at k27; exact k27
    · rw [q_b2i_t h] at k27; exact k27
theorem c_Md_isAtLeast {s o fm n : Nat} (hs : s < 256) (ho : o < 256) (hf : 1 ≤ fm) (hfn : fm ≤ n) (hn : n ≤ 8) {d : qD} {b : Nat} (e0 : d.1 t_Md 0 10 = (n : Int)) : q_Ev m_Md_isAtLeast 0 [some (.inr (.inr (t_Md, 0))), some (.inl (s : Int)), some (.inl (o : Int)), some (.inl (fm : Int)), none, none, none] [] (q_mk d b) (some (.inl (q_b2i (s_atLeast s o fm n))), q_mk d b) :=
  e_Md_isAtLeast_0 (c_Md_isAtLeastGo hs ho hf hfn hn e0 n 0 0 (by omega) (by omega) (by omega))
