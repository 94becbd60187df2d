/-! the bases: the model -/
theorem c_Md_laysBases {n : Nat} {F : Nat → Nat} (hb : s_bd n F) (hn1 : 1 ≤ n) {b : Nat} : ∀ (f m : Nat) (d : qD), m + f = 256 → d.1 t_Md 0 10 = (n : Int) → d.1 t_Md 0 12 = (q_pc (s_n1 n F n) : Int) → s_row (d.1 t_mNeck 0) n (s_nk n F) → (∀ j, j < m → d.1 t_mIsB 0 j = q_b2i (s_bas n F j)) → ∃ d', q_Ev m_Md_laysBases 2 [some (.inr (.inr (t_Md, 0))), some (.inl (m : Int)), none, none] [] (q_mk d b) (none, q_mk d' b) ∧ q_ag [t_mIsB] d d' ∧ (∀ j, j < 256 → d'.1 t_mIsB 0 j = q_b2i (s_bas n F j)) := by
  intro f
  have hn := hb.1
  induction f with
  | zero =>
    intro m d hm e0 e1 eN eB
    exact ⟨d, e_Md_laysBases_2 ⟨fun _ => rfl, fun h => by omega⟩, q_ag_refl _ _, fun j hj => eB j (by omega)⟩
  | succ f ih =>
    intro m d hm e0 e1 eN eB
    obtain ⟨d', v, a, r⟩ := ih (m + 1) (q_sI d t_mIsB 0 m (q_b2i (s_bas n F m))) (by omega)
      (by rw [q_sI_row, q_sR_ne _ _ (by decide), e0])
      (by rw [q_sI_row, q_sR_ne _ _ (by decide), e1])
      (by rw [q_sI_row, q_sR_ne _ _ (by decide)]; exact eN)
      (by
        intro j hj
        rw [q_sI_row, q_sR_row]
        by_cases hq : j = m
        · subst hq; rw [q_up_at]
        · rw [q_up_ne _ _ hq]; exact eB j (by omega))
    refine ⟨d', ?_, q_ag_tr (q_ag_sI (by decide)) a, r⟩
    have k39 : q_Ev m_Md_laysBases 39 [some (.inr (.inr (t_Md, 0))), some (.inl (m : Int)), some (.inl (q_b2i (s_bas n F m))), none] [] (q_mk d b) (none, q_mk d' b) := by
      refine e_Md_laysBases_39 ⟨by omega, by omega, ?_⟩
      rw [q_nar3, Int.toNat_natCast, q_wS (by omega)]
      exact v
    -- inner loop: from label i on, when all so far was well
    have inn : ∀ (g i : Nat), i + g = n + 1 → 1 ≤ i → s_bas n F m = s_alN n F m g → q_Ev m_Md_laysBases 22 [some (.inr (.inr (t_Md, 0))), some (.inl (m : Int)), some (.inl 1), some (.inl (i : Int))] [] (q_mk d b) (none, q_mk d' b) := by
      intro g
      induction g with
      | zero =>
        intro i hi h1 hg
        refine e_Md_laysBases_22 ⟨fun _ => ?_, fun h => ?_⟩
        · rw [hg] at k39; exact k39
        · rw [e0] at h; omega
      | succ g ihg =>
        intro i hi h1 hg
        have hlt : s_nk n F i < 256 := by
          obtain ⟨j, rfl⟩ : ∃ j, i = j + 1 := ⟨i - 1, by omega⟩
          exact s_nk_lt hb j (by omega)
        refine e_Md_laysBases_22 ⟨fun h => ?_, fun _ => ⟨fun h => absurd h (by decide), fun _ => ⟨by omega, by omega, ?_⟩⟩⟩
        · rw [e0] at h; omega
        · rw [Int.toNat_natCast, eN i h1 (by omega)]
          refine ⟨_, _, c_Md_isAtLeast (by omega) hlt h1 (by omega) hn e0, ?_⟩
          refine e_Md_laysBases_36 ?_
          rw [q_wS (by omega)]
          rw [s_alN, show n - g = i by omega] at hg
          by_cases hc : s_atLeast m (s_nk n F i) i n = true
          · rw [hc, Bool.true_and] at hg
            rw [hc]
            exact ihg (i + 1) (by omega) (by omega) hg
          · have hc2 : s_atLeast m (s_nk n F i) i n = false := by simpa using hc
            rw [hc2, Bool.false_and] at hg
            rw [hc2]
            rw [hg] at k39
            exact e_Md_laysBases_22 ⟨fun _ => k39, fun _ => ⟨fun _ => k39, fun h => absurd rfl h⟩⟩
    -- where it is no set at all
    have bad : s_bas n F m = false → q_Ev m_Md_laysBases 18 [some (.inr (.inr (t_Md, 0))), some (.inl (m : Int)), none, none] [] (q_mk d b) (none, q_mk d' b) := by
      intro hf
      rw [hf] at k39
      exact e_Md_laysBases_18 (e_Md_laysBases_19 (e_Md_laysBases_22 ⟨fun _ => k39, fun _ => ⟨fun _ => k39, fun h => absurd rfl h⟩⟩))
    refine e_Md_laysBases_2 ⟨fun h => by omega, fun _ => ?_⟩
    rw [e0, q_shl1 n (by omega)]
    refine ⟨fun h => bad ?_, fun h => ⟨_, _, c_Md_sizeOf (by omega), ?_⟩⟩
    · unfold s_bas s_isSet
      rw [decide_eq_false (by omega), Bool.false_and, Bool.false_and]
    · refine e_Md_laysBases_13 ?_
      rw [e1]
      refine ⟨fun h2 => bad ?_, fun h2 => e_Md_laysBases_19 (inn n 1 (by omega) (by omega) ?_)⟩
      · unfold s_bas s_isSet
        rw [Int.toNat_natCast, show (q_pc m == q_pc (s_n1 n F n)) = false from beq_false_of_ne (by omega), Bool.and_false, Bool.false_and]
      · unfold s_bas s_isSet
        rw [Int.toNat_natCast, show (q_pc m == q_pc (s_n1 n F n)) = true from by rw [beq_iff_eq]; omega, decide_eq_true (by omega), Bool.true_and, Bool.true_and]
