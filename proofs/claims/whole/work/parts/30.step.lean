/-! contracts: stepOf, imageBetween -/
theorem s_ntz_lt {s : Nat} (hs : s < 256) (h0 : s ≠ 0) : s_ntz s < 8 := by
  have : ∀ x : Nat, x < 256 → x ≠ 0 → s_ntz x < 8 := by decide +kernel
  exact this s hs h0
theorem s_least_le {s : Nat} (hs : s < 256) (h0 : s ≠ 0) : s_least s ≤ 8 := by have := s_ntz_lt hs h0; unfold s_least; omega
theorem s_least_pos (s : Nat) : 1 ≤ s_least s := by unfold s_least; omega
theorem s_least_hl {s : Nat} (hs : s < 256) (h0 : s ≠ 0) : q_hl s (s_least s) = true ∧ ∀ j, 1 ≤ j → j < s_least s → q_hl s j = false := by
  have h1 := s_ntz_lt hs h0
  have h2 := s_ntz_bit (s := s) rfl (by omega)
  unfold q_hl s_least
  exact ⟨h2.1, fun j hj hj2 => h2.2 (j - 1) (by omega)⟩
theorem c_Md_stepOfGo {a i n : Nat} (ha : a < 256) (h0 : a ≠ 0) (hi : i ≤ 8) (hn : n ≤ 8) {d : qD} {b : Nat} : ∀ (f j : Nat), j + f = s_least a → 1 ≤ j → q_Ev m_Md_stepOf 16 [none, none, some (.inl (i : Int)), some (.inl (n : Int)), some (.inl (a : Int)), some (.inl (j : Int))] [] (q_mk d b) (some (.inl ((if i < s_least a then s_least a else s_least a + n : Nat) : Int)), q_mk d b)
  | 0, j, h, hj => by
    have hl := s_least_le ha h0
    refine e_Md_stepOf_16 ⟨_, _, c_Md_has (by omega) hj (by omega), ?_⟩
    have hb : q_hl a j = true := by rw [show j = s_least a by omega]; exact (s_least_hl ha h0).1
    refine e_Md_stepOf_19 ⟨fun _ => ⟨fun h5 => ?_, fun h5 => ?_⟩, fun h5 => ?_⟩
    · rw [if_neg (by omega), q_w_id (by omega) (by omega), show (j : Int) + (n : Int) = ((s_least a + n : Nat) : Int) by omega]
      exact e_Md_stepOf_30 rfl
    · rw [if_pos (by omega), show (j : Int) = ((s_least a : Nat) : Int) by omega]
      exact e_Md_stepOf_30 rfl
    · rw [hb] at h5; exact absurd h5 (by decide)
  | f + 1, j, h, hj => by
    have hl := s_least_le ha h0
    refine e_Md_stepOf_16 ⟨_, _, c_Md_has (by omega) hj (by omega), ?_⟩
    have hb : q_hl a j = false := (s_least_hl ha h0).2 j hj (by omega)
    refine e_Md_stepOf_19 ⟨fun h5 => ?_, fun _ => ?_⟩
    · rw [hb] at h5; exact absurd rfl h5
    · rw [q_w_id (by omega) (by omega), show (j : Int) + 1 = ((j + 1 : Nat) : Int) by omega]
      exact c_Md_stepOfGo ha h0 hi hn f (j + 1) (by omega) (by omega)
theorem c_Md_stepOf {s x i n : Nat} (hs : s < 256) (hx : x < 256) (h1 : 1 ≤ i) (hi : i ≤ 8) (hn : n ≤ 8) (h0 : q_hl s i = true → q_dif x (s_wo s i) ≠ 0) {d : qD} {b : Nat} : q_Ev m_Md_stepOf 0 [some (.inl (s : Int)), some (.inl (x : Int)), some (.inl (i : Int)), some (.inl (n : Int)), none, none] [] (q_mk d b) (some (.inl (s_step s i x n : Int)), q_mk d b) := by
  refine e_Md_stepOf_0 ⟨_, _, c_Md_has (by omega) h1 (by omega), ?_⟩
  unfold s_step
  refine e_Md_stepOf_3 ⟨fun h => ?_, fun h => ?_⟩
  · have hh : q_hl s i = true := q_b2i_t h
    rw [if_pos hh]
    refine ⟨_, _, c_Md_without hs h1 hi, ?_⟩
    have hw := s_wo_lt (l := i) hs
    refine e_Md_stepOf_10 ?_
    rw [q_andn_nat (by omega) (by omega)]
    have hd : q_dif x (s_wo s i) < 256 := q_dif_lt (k := 8) hx
    exact c_Md_stepOfGo hd (h0 hh) hi hn (s_least (q_dif x (s_wo s i)) - 1) 1 (by have := s_least_pos (q_dif x (s_wo s i)); omega) (by omega)
  · rw [if_neg (by rw [q_b2i_f h]; decide)]
