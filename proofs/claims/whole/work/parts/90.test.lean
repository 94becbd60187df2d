def q_mk (d : (Nat → Nat → Nat → Int) × (Nat → Nat → Nat → Int64)) (b : Nat) : qW := (d.1, d.2, q_R b)
noncomputable def q_b (p : Prop) : Int := @ite _ p (Classical.propDecidable p) 1 0
theorem t1 (c : Nat) : q_env (t_Co, c) = some (0, 2) := rfl
theorem t_contains_loop (d : (Nat → Nat → Nat → Int) × (Nat → Nat → Nat → Int64)) (b c cnt : Nat) (x : Int) (hc : d.1 t_Co c 1 = (cnt : Int)) (hcnt : cnt ≤ 70) : ∀ (m i : Nat), i + m = cnt → q_Ev m_Co_contains 2 [some (.inr (.inr (t_Co, c))), some (.inl x), some (.inl (i : Int))] [] (q_mk d b) (some (.inl (q_b (∃ j, i ≤ j ∧ j < cnt ∧ d.1 t_coSets c j = x))), q_mk d b) := by
  intro m
  induction m with
  | zero =>
    intro i hi
    refine q_go 40 [2] ⟨fun h => ?_, fun h => ?_⟩
    · trace_state
      sorry
    · trace_state
      sorry
  | succ m ih =>
    intro i hi
    refine q_go 40 [2] ⟨fun h => ?_, fun h => ?_⟩
    · trace_state
      sorry
    · refine ⟨?_, ?_, fun h => ?_, fun h => ?_⟩
      · trace_state
        sorry
      · sorry
      · trace_state
        sorry
      · sorry
