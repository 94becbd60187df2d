/-! labels, f, neck -/
def s_isLab (n : Nat) (x : Int) : Bool := decide (1 ≤ x ∧ x ≤ (n : Int))
theorem c_Ce_isLabel {n : Nat} {x : Int} {d : qD} {b : Nat} (e0 : d.1 t_Ce 0 0 = (n : Int)) : q_Ev m_Ce_isLabel 0 [some (.inr (.inr (t_Ce, 0))), some (.inl x)] [] (q_mk d b) (some (.inl (q_b2i (s_isLab n x))), q_mk d b) := by
  unfold s_isLab
  have no : ¬ (1 ≤ x ∧ x ≤ (n : Int)) → q_Ev m_Ce_isLabel 9 [none, none] [] (q_mk d b) (some (.inl (q_b2i (decide (1 ≤ x ∧ x ≤ (n : Int))))), q_mk d b) := by
    intro h
    rw [decide_eq_false h]
    exact e_Ce_isLabel_9 (e_Ce_isLabel_10 ⟨by decide, by decide, rfl⟩)
  refine e_Ce_isLabel_0 ?_
  rw [e0]
  refine ⟨fun h => no (by omega), fun h => ⟨fun h2 => no (by omega), fun h2 => ?_⟩⟩
  rw [decide_eq_true (show 1 ≤ x ∧ x ≤ (n : Int) from ⟨by omega, by omega⟩)]
  exact e_Ce_isLabel_10 ⟨by decide, by decide, rfl⟩
theorem c_Md_isLabel {n : Nat} {x : Int} {d : qD} {b : Nat} (e0 : d.1 t_Md 0 10 = (n : Int)) : q_Ev m_Md_isLabel 0 [some (.inr (.inr (t_Md, 0))), some (.inl x)] [] (q_mk d b) (some (.inl (q_b2i (s_isLab n x))), q_mk d b) := by
  unfold s_isLab
  have no : ¬ (1 ≤ x ∧ x ≤ (n : Int)) → q_Ev m_Md_isLabel 9 [none, none] [] (q_mk d b) (some (.inl (q_b2i (decide (1 ≤ x ∧ x ≤ (n : Int))))), q_mk d b) := by
    intro h
    rw [decide_eq_false h]
    exact e_Md_isLabel_9 (e_Md_isLabel_10 ⟨by decide, by decide, rfl⟩)
  refine e_Md_isLabel_0 ?_
  rw [e0]
  refine ⟨fun h => no (by omega), fun h => ⟨fun h2 => no (by omega), fun h2 => ?_⟩⟩
  rw [decide_eq_true (show 1 ≤ x ∧ x ≤ (n : Int) from ⟨by omega, by omega⟩)]
  exact e_Md_isLabel_10 ⟨by decide, by decide, rfl⟩
theorem c_Md_isCell {n : Nat} {d : qD} {b : Nat} (e0 : d.1 t_Md 0 10 = (n : Int)) : q_Ev m_Md_isCell 0 [some (.inr (.inr (t_Md, 0)))] [] (q_mk d b) (some (.inl (q_b2i (decide (0 < n)))), q_mk d b) := by
  refine e_Md_isCell_0 ?_
  rw [e0]
  refine ⟨fun h => ?_, fun h => ?_⟩
  · rw [decide_eq_false (by omega)]
    exact e_Md_isCell_6 ⟨by decide, by decide, rfl⟩
  · rw [decide_eq_true (by omega)]
    exact e_Md_isCell_6 ⟨by decide, by decide, rfl⟩
/-- what f answers -/
def s_f (n : Nat) (F : Nat → Nat) (x : Int) : Int := if s_isLab n x then (F x.toNat : Int) else -1
theorem c_GC_f {n : Nat} {F : Nat → Nat} {x : Int} (hn : n ≤ 8) {d : qD} {b : Nat} (e0 : d.1 t_Ce 0 0 = (n : Int)) (eF : s_row (d.1 t_img 0) n F) : q_Ev m_GC_f 0 [some (.inr (.inr (t_GC, 0))), some (.inl x)] [] (q_mk d b) (some (.inl (s_f n F x)), q_mk d b) := by
  refine e_GC_f_0 ⟨_, _, c_Ce_isLabel e0, ?_⟩
  unfold s_f
  refine e_GC_f_4 ⟨fun h => ?_, fun h => ?_⟩
  · rw [q_b2i_f h]; exact e_GC_f_12 rfl
  · have ht := q_b2i_t h
    have h2 := of_decide_eq_true ht
    rw [ht]
    refine ⟨by omega, by omega, e_GC_f_12 ?_⟩
    rw [eF x.toNat (by omega) (by omega)]; rfl
theorem c_Md_f {n : Nat} {F : Nat → Nat} {x : Int} (hn : n ≤ 8) {d : qD} {b : Nat} (e0 : d.1 t_Md 0 10 = (n : Int)) (eF : s_row (d.1 t_mF 0) n F) : q_Ev m_Md_f 0 [some (.inr (.inr (t_Md, 0))), some (.inl x)] [] (q_mk d b) (some (.inl (s_f n F x)), q_mk d b) := by
  refine e_Md_f_0 ⟨_, _, c_Md_isLabel e0, ?_⟩
  unfold s_f
  refine e_Md_f_3 ⟨fun h => ?_, fun h => ?_⟩
  · rw [q_b2i_f h]; exact e_Md_f_10 rfl
  · have ht := q_b2i_t h
    have h2 := of_decide_eq_true ht
    rw [ht]
    refine ⟨by omega, by omega, e_Md_f_10 ?_⟩
    rw [eF x.toNat (by omega) (by omega)]; rfl
