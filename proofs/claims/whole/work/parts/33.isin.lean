/-! the model's tape; isIn -/
theorem q_i2l_t {x : Int} (hx : q_can x) : (q_i2l x).toInt = x := by
  unfold q_i2l
  rw [Int32.toInt_toInt64, q_toI hx]
theorem q_lc {x y : Int} (hx : q_can x) (hy : q_can y) : q_lcmp (q_i2l x) (q_i2l y) = if x < y then -1 else if y < x then 1 else 0 := by
  unfold q_lcmp lg_cmp
  simp only [gt_iff_lt, Int64.lt_iff_toInt_lt, ← Int64.toInt_inj, q_i2l_t hx, q_i2l_t hy]
  by_cases h1 : x < y
  · rw [if_neg (by omega), if_neg (by omega), if_pos h1]; rfl
  · by_cases h2 : y < x
    · rw [if_pos h2, if_neg h1, if_pos h2]; rfl
    · rw [if_neg h2, if_pos (by omega), if_neg h1, if_neg h2]; rfl
theorem q_can_s {x : Int} (h1 : -2147483648 ≤ x) (h2 : x < 2147483648) : q_can x := q_can_iff.mpr ⟨h1, h2⟩
theorem c_Md_isIn {x lo hi : Int} (hx : q_can x) (hl : q_can lo) (hh : q_can hi) {d : qD} {b : Nat} : q_Ev m_Md_isIn 0 [some (.inr (.inl (q_i2l x))), none, some (.inr (.inl (q_i2l lo))), none, some (.inr (.inl (q_i2l hi))), none] [] (q_mk d b) (some (.inl (q_b2i (decide (lo ≤ x ∧ x ≤ hi)))), q_mk d b) := by
  refine e_Md_isIn_0 ?_
  rw [q_lc hx hl, q_lc hx hh]
  have no : ¬ (lo ≤ x ∧ x ≤ hi) → q_Ev m_Md_isIn 10 [none, none, none, none, none, none] [] (q_mk d b) (some (.inl (q_b2i (decide (lo ≤ x ∧ x ≤ hi)))), q_mk d b) := by
    intro h
    rw [decide_eq_false h]
    exact e_Md_isIn_10 (e_Md_isIn_11 ⟨by decide, by decide, rfl⟩)
  refine ⟨fun h => no ?_, fun h => ⟨fun h2 => no ?_, fun h2 => ?_⟩⟩
  · split at h
    · omega
    · split at h <;> omega
  · split at h2
    · omega
    · split at h2 <;> omega
  · have : lo ≤ x ∧ x ≤ hi := by
      constructor
      · split at h
        · omega
        · omega
      · split at h2
        · omega
        · split at h2 <;> omega
    rw [decide_eq_true this]
    exact e_Md_isIn_11 ⟨by decide, by decide, rfl⟩
theorem q_l0 : Int64.ofInt 0 = q_i2l 0 := by decide
theorem q_l1 : Int64.ofInt 1 = q_i2l 1 := by decide
theorem q_l2 : Int64.ofInt 2 = q_i2l 2 := by decide
theorem q_l3 : Int64.ofInt 3 = q_i2l 3 := by decide
theorem q_l6 : Int64.ofInt 6 = q_i2l 6 := by decide
theorem q_l7 : Int64.ofInt 7 = q_i2l 7 := by decide
theorem q_l16 : Int64.ofInt 16 = q_i2l 16 := by decide
theorem q_l255 : Int64.ofInt 255 = q_i2l 255 := by decide
theorem c_Md_end {x : Int} {sz : Nat} {d : qD} {b : Nat} (hx : q_can x) (e1 : d.1 t_Md 0 1 = (sz : Int)) (hz : sz ≤ 160) : ∃ d', q_Ev m_Md_end 0 [some (.inr (.inr (t_Md, 0))), some (.inl x)] [] (q_mk d b) (some (.inl (if 0 ≤ x ∧ x ≤ sz then x else -1)), q_mk d' b) ∧ d' = q_sR d t_Md 0 (q_up (d.1 t_Md 0) 1 ((if 0 ≤ x ∧ x ≤ sz then x.toNat else sz : Nat) : Int)) := by
  by_cases h : 0 ≤ x ∧ x ≤ sz
  · simp only [if_pos h]
    refine ⟨_, ?_, rfl⟩
    refine e_Md_end_0 ?_
    rw [q_l0, e1]
    refine ⟨_, _, c_Md_isIn hx (q_can_s (by omega) (by omega)) (q_can_s (by omega) (by omega)), ?_⟩
    rw [decide_eq_true h]
    refine e_Md_end_7 ⟨fun _ => ?_, fun h => absurd h (by decide)⟩
    rw [q_sI_row, show ((x.toNat : Nat) : Int) = x by omega]
  · simp only [if_neg h]
    refine ⟨_, ?_, rfl⟩
    refine e_Md_end_0 ?_
    rw [q_l0, e1]
    refine ⟨_, _, c_Md_isIn hx (q_can_s (by omega) (by omega)) (q_can_s (by omega) (by omega)), ?_⟩
    rw [decide_eq_false h]
    refine e_Md_end_7 ⟨fun h => absurd rfl h, fun _ => ?_⟩
    have : q_up (d.1 t_Md 0) 1 (sz : Int) = d.1 t_Md 0 := by
      funext k
      by_cases hk : k = 1
      · subst hk; rw [q_up_at, e1]
      · rw [q_up_ne _ _ hk]
    rw [this, q_sR_id]
