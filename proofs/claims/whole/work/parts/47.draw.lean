/-! drawFor: all rows, the first loop -/
theorem c_Di_drawRows {c fs n : Nat} {x : Nat → Nat} (hf : fs < 256) (hn : n ≤ 8) {b : Nat} : ∀ (f i : Nat) (d : qD), i + f = n → d.1 t_Di c 0 = (n : Int) → d.1 t_Di c 1 = (fs : Int) → (∀ k, 1 ≤ k → k ≤ i → d.1 t_plus c k = (s_dp fs n x k : Int)) → (∀ k, i < k → k < 9 → d.1 t_plus c k = 0) → s_wires fs n (d.1 t_atLeft c) (d.1 t_atTop c) (s_dx fs n x i) → ∃ d', q_Ev m_Di_drawFor 48 [some (.inr (.inr (t_Di, c))), none, some (.inl ((i + 1 : Nat) : Int)), none, none] [] (q_mk d b) (none, q_mk d' b) ∧ q_ag [t_plus, t_atLeft, t_atTop] d d' ∧ (∀ k, 1 ≤ k → k ≤ n → d'.1 t_plus c k = (s_dp fs n x k : Int)) ∧ (∀ c', c' ≠ c → d'.1 t_plus c' = d.1 t_plus c') := by
  intro f
  induction f with
  | zero =>
    intro i d hi e0 e1 ep ez hw
    refine ⟨d, e_Di_drawFor_48 ⟨fun _ => rfl, fun h => ?_⟩, q_ag_refl _ _, fun k h1 h2 => ep k h1 (by omega), fun _ _ => rfl⟩
    rw [e0] at h; omega
  | succ f ih =>
    intro i d hi e0 e1 ep ez hw
    obtain ⟨d1, v, a, r1, r2, r3, r4⟩ := c_Di_drawRow (c := c) (i := i + 1) hf hn (by omega) (by omega) (b := b) (n - (i + 1)) (s_dx fs n x i) 0 d (fun _ => True) (by omega) (by decide) e0 e1 (ez (i + 1) (by omega) (by omega)) hw
    obtain ⟨d2, v2, a2, p1, p2⟩ := ih (i + 1) d1 (by omega) (by rw [a.1 t_Di (by decide), e0]) (by rw [a.1 t_Di (by decide), e1])
      (by
        intro k h1 h2
        by_cases hq : k = i + 1
        · subst hq; rw [r1]; rfl
        · rw [r2 k hq]; exact ep k h1 (by omega))
      (by
        intro k h1 h2
        rw [r2 k (by omega)]; exact ez k (by omega) h2) r4
    refine ⟨d2, e_Di_drawFor_48 ⟨fun h => ?_, fun _ => ?_⟩, q_ag_tr a a2, p1, fun c' hc => by rw [p2 c' hc, r3 c' hc]⟩
    · rw [e0] at h; omega
    · rw [e0, show (n : Int) = ((i + 1 + (n - (i + 1)) : Nat) : Int) by omega]
      exact v _ v2
