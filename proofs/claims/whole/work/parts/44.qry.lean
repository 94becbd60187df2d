/-! neck; class bases and basis -/
theorem c_GC_neck {n : Nat} {F : Nat → Nat} {x : Int} (hn : n ≤ 8) {d : qD} {b : Nat} (e0 : d.1 t_Ce 0 0 = (n : Int)) (eN : s_row (d.1 t_nl 0) n (s_nk n F)) : q_Ev m_GC_neck 0 [some (.inr (.inr (t_GC, 0))), some (.inl x)] [] (q_mk d b) (some (.inl (s_f n (s_nk n F) x)), q_mk d b) := by
  refine e_GC_neck_0 ⟨_, _, c_Ce_isLabel e0, ?_⟩
  unfold s_f
  refine e_GC_neck_4 ⟨fun h => ?_, fun h => ?_⟩
  · rw [q_b2i_f h]; exact e_GC_neck_12 rfl
  · have ht := q_b2i_t h
    have h2 := of_decide_eq_true ht
    rw [ht]
    refine ⟨by omega, by omega, e_GC_neck_12 ?_⟩
    rw [eN x.toNat (by omega) (by omega)]; rfl
theorem c_Md_neck {n : Nat} {F : Nat → Nat} {x : Int} (hn : n ≤ 8) {d : qD} {b : Nat} (e0 : d.1 t_Md 0 10 = (n : Int)) (eN : s_row (d.1 t_mNeck 0) n (s_nk n F)) : q_Ev m_Md_neck 0 [some (.inr (.inr (t_Md, 0))), some (.inl x)] [] (q_mk d b) (some (.inl (s_f n (s_nk n F) x)), q_mk d b) := by
  refine e_Md_neck_0 ⟨_, _, c_Md_isLabel e0, ?_⟩
  unfold s_f
  refine e_Md_neck_3 ⟨fun h => ?_, fun h => ?_⟩
  · rw [q_b2i_f h]; exact e_Md_neck_10 rfl
  · have ht := q_b2i_t h
    have h2 := of_decide_eq_true ht
    rw [ht]
    refine ⟨by omega, by omega, e_Md_neck_10 ?_⟩
    rw [eN x.toNat (by omega) (by omega)]; rfl
/-- what bases and basis answer -/
def s_bases (n : Nat) (L : List Nat) : Int := if 0 < n then (L.length : Int) else -1
def s_basis (n : Nat) (L : List Nat) (x : Int) : Int := if n = 0 ∨ x < 0 then -1 else if x < (L.length : Int) then ((L.getD x.toNat 0 : Nat) : Int) else -2
theorem c_GC_bases {n : Nat} {L : List Nat} {d : qD} {b : Nat} (e0 : d.1 t_Ce 0 0 = (n : Int)) (e3 : d.1 t_Ce 0 3 = (L.length : Int)) : q_Ev m_GC_bases 0 [some (.inr (.inr (t_GC, 0)))] [] (q_mk d b) (some (.inl (s_bases n L)), q_mk d b) := by
  refine e_GC_bases_0 ?_
  unfold s_bases
  rw [e0, e3]
  refine ⟨fun h => ?_, fun h => ?_⟩
  · rw [if_neg (by omega)]; exact e_GC_bases_9 rfl
  · rw [if_pos (by omega)]; exact e_GC_bases_9 rfl
theorem c_GC_basis {n : Nat} {L : List Nat} {x : Int} (hL : L.length ≤ 70) {d : qD} {b : Nat} (e0 : d.1 t_Ce 0 0 = (n : Int)) (e3 : d.1 t_Ce 0 3 = (L.length : Int)) (eL : s_lst (d.1 t_bl 0) L) : q_Ev m_GC_basis 0 [some (.inr (.inr (t_GC, 0))), some (.inl x)] [] (q_mk d b) (some (.inl (s_basis n L x)), q_mk d b) := by
  refine e_GC_basis_0 ?_
  unfold s_basis
  rw [e0, e3]
  refine ⟨fun h => ?_, fun h => ⟨fun h2 => ⟨fun h3 => ?_, fun h3 => ⟨by omega, by omega, ?_⟩⟩, fun h2 => ?_⟩⟩
  · rw [if_pos (by omega)]; exact e_GC_basis_6 rfl
  · rw [if_neg (by omega), if_neg (by omega)]; exact e_GC_basis_20 rfl
  · rw [if_neg (by omega), if_pos h3, eL x.toNat (by omega)]; exact e_GC_basis_20 rfl
  · rw [if_pos (by omega)]; exact e_GC_basis_6 rfl
