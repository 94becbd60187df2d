/-! the class's diagram: clear, boxes, + -/
def s_box (fs i j : Nat) : Bool := decide (i < j) && q_hl fs i && !q_hl fs j
theorem c_J_fill_plGo {c : Nat} {v : Int} {b : Nat} : ∀ (f i : Nat) (d : qD), i + f = 9 → (∀ k, k < i → d.1 t_plus c k = v) → ∃ d', q_Ev m_J_fill 5 [some (.inr (.inr (t_plus, c))), some (.inl v), some (.inl (i : Int)), some (.inl 9)] [] (q_mk d b) (none, q_mk d' b) ∧ q_ag [t_plus] d d' ∧ (∀ k, k < 9 → d'.1 t_plus c k = v) ∧ (∀ c', c' ≠ c → d'.1 t_plus c' = d.1 t_plus c')
  | 0, i, d, h, e => ⟨d, e_J_fill_pl_5 ⟨fun _ => rfl, fun h2 => by omega⟩, q_ag_refl _ _, fun k hk => e k (by omega), fun _ _ => rfl⟩
  | f + 1, i, d, h, e => by
    obtain ⟨d', v', a, r1, r2⟩ := c_J_fill_plGo (c := c) (v := v) (b := b) f (i + 1) (q_sI d t_plus c i v) (by omega) (by
      intro k hk
      rw [q_sI_row, q_sR_row]
      by_cases hq : k = i
      · subst hq; rw [q_up_at]
      · rw [q_up_ne _ _ hq]; exact e k (by omega))
    refine ⟨d', e_J_fill_pl_5 ⟨fun h2 => by omega, fun _ => ⟨by omega, by omega, ?_⟩⟩, q_ag_tr (q_ag_sI (by decide)) a, r1, ?_⟩
    · rw [q_wS (by omega), Int.toNat_natCast]; exact v'
    · intro c' hc
      rw [r2 c' hc, q_sI_row, q_sR_ni _ _ hc]
theorem c_Di_clear {c : Nat} {x y : Int} {d : qD} {b : Nat} : ∃ d', q_Ev m_Di_clear 0 [some (.inr (.inr (t_Di, c))), some (.inl x), some (.inl y)] [] (q_mk d b) (none, q_mk d' b) ∧ q_ag [t_Di, t_plus] d d' ∧ d'.1 t_Di c 0 = x ∧ d'.1 t_Di c 1 = y ∧ (∀ k, k < 9 → d'.1 t_plus c k = 0) ∧ (∀ c', c' ≠ c → d'.1 t_plus c' = d.1 t_plus c' ∧ d'.1 t_Di c' = d.1 t_Di c') := by
  obtain ⟨d', v, a, r1, r2⟩ := c_J_fill_plGo (c := c) (v := 0) (b := b) 9 0 (q_sI (q_sI d t_Di c 0 x) t_Di c 1 y) rfl (fun k hk => by omega)
  refine ⟨d', e_Di_clear_0 ⟨_, _, e_J_fill_pl_0 v, e_Di_clear_10 rfl⟩, q_ag_tr (q_ag_tr (q_ag_sI (by decide)) (q_ag_sI (by decide))) (q_ag_up a (by decide)), ?_, ?_, r1, ?_⟩
  · rw [a.1 t_Di (by decide), q_sI_row, q_sR_row, q_up_ne _ _ (by decide), q_sI_row, q_sR_row, q_up_at]
  · rw [a.1 t_Di (by decide), q_sI_row, q_sR_row, q_up_at]
  · intro c' hc
    refine ⟨?_, ?_⟩
    · rw [r2 c' hc, q_sI_row, q_sR_ne _ _ (by decide), q_sI_row, q_sR_ne _ _ (by decide)]
    · rw [a.1 t_Di (by decide), q_sI_row, q_sR_ni _ _ hc, q_sI_row, q_sR_ni _ _ hc]
theorem c_Di_isBox {c fs i j : Nat} (hf : fs < 256) (hi : 1 ≤ i) (hi2 : i ≤ 31) (hj : 1 ≤ j) (hj2 : j ≤ 31) {d : qD} {b : Nat} (e1 : d.1 t_Di c 1 = (fs : Int)) : q_Ev m_Di_isBox 0 [some (.inr (.inr (t_Di, c))), some (.inl (i : Int)), some (.inl (j : Int))] [] (q_mk d b) (some (.inl (q_b2i (s_box fs i j))), q_mk d b) := by
  have no : s_box fs i j = false → q_Ev m_Di_isBox 15 [none, none, none] [] (q_mk d b) (some (.inl (q_b2i (s_box fs i j))), q_mk d b) := by
    intro h
    rw [h]
    exact e_Di_isBox_15 (e_Di_isBox_16 ⟨by decide, by decide, rfl⟩)
  refine e_Di_isBox_0 ⟨fun h => no ?_, fun h => ?_⟩
  · unfold s_box; rw [decide_eq_false (by omega)]; rfl
  · rw [e1]
    refine ⟨_, _, c_Se_holds (by omega) hi hi2, e_Di_isBox_7 ⟨fun h2 => no ?_, fun h2 => ?_⟩⟩
    · unfold s_box; rw [q_b2i_f h2, Bool.and_false]; rfl
    · rw [e1]
      refine ⟨_, _, c_Se_holds (by omega) hj hj2, e_Di_isBox_12 ⟨fun h3 => no ?_, fun h3 => ?_⟩⟩
      · unfold s_box; rw [q_b2i_t h3, Bool.not_true, Bool.and_false]
      · have : s_box fs i j = true := by unfold s_box; rw [decide_eq_true (by omega), q_b2i_t h2, q_b2i_f h3]; rfl
        rw [this]
        exact e_Di_isBox_16 ⟨by decide, by decide, rfl⟩
theorem c_Di_isPlus {c p i j : Nat} (hp : p < 256) (hi : i < 9) (hj : 1 ≤ j) (hj2 : j ≤ 31) {d : qD} {b : Nat} (e1 : d.1 t_plus c i = (p : Int)) : q_Ev m_Di_isPlus 0 [some (.inr (.inr (t_Di, c))), some (.inl (i : Int)), some (.inl (j : Int))] [] (q_mk d b) (some (.inl (q_b2i (q_hl p j))), q_mk d b) := by
  refine e_Di_isPlus_0 ⟨by omega, by omega, ?_⟩
  rw [Int.toNat_natCast, e1]
  exact ⟨_, _, c_Se_holds (by omega) hj hj2, e_Di_isPlus_6 ⟨q_b2i_nn _, q_b2i_lt _, rfl⟩⟩
theorem c_Di_setPlus {c p i j : Nat} (hp : p < 256) (hi : i < 9) (hj : 1 ≤ j) (hj2 : j ≤ 8) {d : qD} {b : Nat} (e1 : d.1 t_plus c i = (p : Int)) : q_Ev m_Di_setPlus 0 [some (.inr (.inr (t_Di, c))), some (.inl (i : Int)), some (.inl (j : Int))] [] (q_mk d b) (none, q_mk (q_sI d t_plus c i (s_with p j : Int)) b) := by
  have hp2 := s_p2 hj2
  refine e_Di_setPlus_0 ⟨by omega, by omega, ?_⟩
  rw [Int.toNat_natCast, e1]
  refine ⟨_, _, c_Se_only hj (by omega), e_Di_setPlus_7 ⟨by omega, by omega, ?_⟩⟩
  rw [Int.toNat_natCast, q_or_nat (by omega) (by omega)]
  rfl
