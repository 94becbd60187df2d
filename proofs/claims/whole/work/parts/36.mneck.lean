/-! the model's necklace -/
theorem q_wS {i : Nat} (h : i < 2147483647) : q_w ((i : Int) + 1) = ((i + 1 : Nat) : Int) := by rw [q_w_id (by omega) (by omega)]; omega
theorem q_wD {a c : Nat} (h : c ≤ a) (h2 : a < 2147483648) : q_w ((a : Int) - (c : Int)) = ((a - c : Nat) : Int) := by rw [q_w_id (by omega) (by omega)]; omega
theorem c_Md_laysNeck {n : Nat} {F : Nat → Nat} (hb : s_bd n F) (hn1 : 1 ≤ n) {d : qD} {b : Nat} (e0 : d.1 t_Md 0 10 = (n : Int)) (eF : s_row (d.1 t_mF 0) n F) : ∃ d', q_Ev m_Md_laysNeck 0 [some (.inr (.inr (t_Md, 0))), none] [] (q_mk d b) (none, q_mk d' b) ∧ q_ag [t_Md, t_mNeck] d d' ∧ d'.1 t_Md 0 = q_up (d.1 t_Md 0) 12 (q_pc (s_n1 n F n) : Int) ∧ s_row (d'.1 t_mNeck 0) n (s_nk n F) := by
  have hn := hb.1
  have l2 : ∀ (f i : Nat) (d : qD), i + f = n → 1 ≤ i → d.1 t_Md 0 10 = (n : Int) → s_row (d.1 t_mF 0) n F → (∀ j, 1 ≤ j → j ≤ i → d.1 t_mNeck 0 j = (s_nk n F j : Int)) → ∃ d', q_Ev m_Md_laysNeck 38 [some (.inr (.inr (t_Md, 0))), some (.inl (i : Int))] [] (q_mk d b) (none, q_mk d' b) ∧ q_ag [t_Md, t_mNeck] d d' ∧ d'.1 t_Md 0 = q_up (d.1 t_Md 0) 12 (q_pc (s_n1 n F n) : Int) ∧ s_row (d'.1 t_mNeck 0) n (s_nk n F) := by
    intro f
    induction f with
    | zero =>
      intro i d hi h1 e0 eF eN
      have hlt := s_n1_lt hb n (Nat.le_refl n)
      refine ⟨q_sI d t_Md 0 12 (q_pc (s_n1 n F n) : Int), ?_, q_ag_sI (by decide), by rw [q_sI_row, q_sR_row], ?_⟩
      · refine e_Md_laysNeck_38 ⟨fun _ => ⟨by decide, by decide, ?_⟩, fun h => by omega⟩
        rw [show (1 : Int).toNat = 1 from rfl, eN 1 (by omega) (by omega), s_nk_1]
        exact ⟨_, _, c_Md_sizeOf hlt, e_Md_laysNeck_93 rfl⟩
      · rw [q_sI_row, q_sR_ne _ _ (by decide)]
        exact fun j hj hj2 => eN j hj (by omega)
    | succ f ih =>
      intro i d hi h1 e0 eF eN
      have hin : q_w ((i : Int) + 1) = ((i + 1 : Nat) : Int) := q_wS (by omega)
      obtain ⟨d', v, a, r1, r2⟩ := ih (i + 1) (q_sI d t_mNeck 0 (i + 1) (s_nk n F (i + 1) : Int)) (by omega) (by omega) (by rw [q_sI_row, q_sR_ne _ _ (by decide), e0]) (by rw [q_sI_row, q_sR_ne _ _ (by decide)]; exact eF) (by
        intro j hj hj2
        rw [q_sI_row, q_sR_row]
        by_cases hq : j = i + 1
        · subst hq; rw [q_up_at]
        · rw [q_up_ne _ _ hq]; exact eN j hj (by omega))
      have k84 : q_Ev m_Md_laysNeck 84 [some (.inr (.inr (t_Md, 0))), some (.inl (i : Int))] [.inl (s_nk n F (i + 1) : Int), .inl ((i + 1 : Nat) : Int), .inr (.inr (t_mNeck, 0))] (q_mk d b) (none, q_mk d' b) := by
        refine e_Md_laysNeck_84 ?_
        rw [hin, Int.toNat_natCast]
        exact ⟨by omega, by omega, v⟩
      have hF := eF i h1 (by omega)
      have hB := hb.2 i h1 (by omega)
      have hlt : s_nk n F i < 256 := by
        obtain ⟨j, rfl⟩ : ∃ j, i = j + 1 := ⟨i - 1, by omega⟩
        exact s_nk_lt hb j (by omega)
      have htg := s_tg_le hb h1 (show i ≤ n by omega)
      have hw := s_wo_lt (l := i) hlt
      have k83 : F i ≠ i → q_Ev m_Md_laysNeck 83 [some (.inr (.inr (t_Md, 0))), some (.inl (i : Int))] [.inl (s_tg n (F i) : Int), .inl (s_wo (s_nk n F i) i : Int), .inl ((i + 1 : Nat) : Int), .inr (.inr (t_mNeck, 0))] (q_mk d b) (none, q_mk d' b) := by
        intro hne
        refine e_Md_laysNeck_83 ⟨_, _, c_Md_with hw htg.1 (by omega), ?_⟩
        have : s_nk n F (i + 1) = s_with (s_wo (s_nk n F i) i) (s_tg n (F i)) := by rw [s_nk_s h1, if_neg hne]
        rw [← this]
        exact k84
      refine ⟨d', ?_, q_ag_tr (q_ag_sI (by decide)) a, ?_, r2⟩
      · refine e_Md_laysNeck_38 ⟨fun h => by omega, fun _ => ⟨by omega, by omega, ?_⟩⟩
        rw [Int.toNat_natCast, hF, hin, eN i h1 (Nat.le_refl i)]
        refine ⟨fun h => ⟨by omega, by omega, ⟨_, _, c_Md_without hlt h1 (by omega), ?_⟩⟩, fun h => ⟨by omega, by omega, ?_⟩⟩
        · refine e_Md_laysNeck_64 ⟨by omega, by omega, ?_⟩
          rw [Int.toNat_natCast, hF, e0]
          refine ⟨fun h2 => ⟨by omega, by omega, ?_⟩, fun h2 => ⟨by omega, by omega, ?_⟩⟩
          · have : s_tg n (F i) = F i := by unfold s_tg; rw [if_neg (by omega)]
            have k := k83 (by omega)
            rw [this] at k
            exact k
          · have : s_tg n (F i) = F i - n := by unfold s_tg; rw [if_pos (by omega)]
            have k := k83 (by omega)
            rw [this] at k
            rw [q_wD (by omega) (by omega)]
            exact k
        · have : s_nk n F (i + 1) = s_nk n F i := by rw [s_nk_s h1, if_pos (by omega)]
          rw [this] at k84
          exact k84
      · rw [r1, q_sI_row, q_sR_ne _ _ (by decide)]
  have l1 : ∀ (f i : Nat) (d1 : qD), i + f = n → q_ag [t_mNeck] d d1 → d1.1 t_mNeck 0 1 = (s_n1 n F i : Int) → ∃ d', q_Ev m_Md_laysNeck 7 [some (.inr (.inr (t_Md, 0))), some (.inl ((i + 1 : Nat) : Int))] [] (q_mk d1 b) (none, q_mk d' b) ∧ q_ag [t_Md, t_mNeck] d1 d' ∧ d'.1 t_Md 0 = q_up (d1.1 t_Md 0) 12 (q_pc (s_n1 n F n) : Int) ∧ s_row (d'.1 t_mNeck 0) n (s_nk n F) := by
    intro f
    induction f with
    | zero =>
      intro i d1 hi ha eN
      have e0' : d1.1 t_Md 0 10 = (n : Int) := by rw [ha.1 t_Md (by decide), e0]
      obtain ⟨d', v, a, r1, r2⟩ := l2 (n - 1) 1 d1 (by omega) (by omega) e0' (by rw [ha.1 t_mF (by decide)]; exact eF) (by
        intro j h1 h2
        have : j = 1 := by omega
        subst this
        rw [eN, s_nk_1, show i = n by omega])
      refine ⟨d', e_Md_laysNeck_7 ⟨fun _ => v, fun h => ?_⟩, a, r1, r2⟩
      rw [e0'] at h; omega
    | succ f ih =>
      intro i d1 hi ha eN
      have e0' : d1.1 t_Md 0 10 = (n : Int) := by rw [ha.1 t_Md (by decide), e0]
      have hF : d1.1 t_mF 0 (i + 1) = (F (i + 1) : Int) := by rw [ha.1 t_mF (by decide)]; exact eF (i + 1) (by omega) (by omega)
      have hB := hb.2 (i + 1) (by omega) (by omega)
      have hlt := s_n1_lt hb i (by omega)
      have hin : q_w (((i + 1 : Nat) : Int) + 1) = ((i + 1 + 1 : Nat) : Int) := q_wS (by omega)
      by_cases hc : n < F (i + 1)
      · have hs : s_n1 n F (i + 1) = s_with (s_n1 n F i) (F (i + 1) - n) := by rw [s_n1, if_pos hc]
        obtain ⟨d', v, a, r1, r2⟩ := ih (i + 1) (q_sI d1 t_mNeck 0 1 (s_n1 n F (i + 1) : Int)) (by omega) (q_ag_tr ha (q_ag_sI (by decide))) (by rw [q_sI_row, q_sR_row, q_up_at])
        refine ⟨d', ?_, q_ag_tr (q_ag_sI (by decide)) a, ?_, r2⟩
        · refine e_Md_laysNeck_7 ⟨fun h => by omega, fun _ => ⟨by omega, by omega, ?_⟩⟩
          rw [Int.toNat_natCast, hF, e0']
          refine ⟨fun h => by omega, fun _ => ⟨by decide, by decide, by omega, by omega, ?_⟩⟩
          rw [q_wD (by omega) (by omega), show (1 : Int).toNat = 1 from rfl, eN]
          refine ⟨_, _, c_Md_with hlt (by omega) (by omega), e_Md_laysNeck_33 ⟨by decide, by decide, e_Md_laysNeck_34 ?_⟩⟩
          rw [hin, ← hs]
          exact v
        · rw [r1, q_sI_row, q_sR_ne _ _ (by decide)]
      · have hs : s_n1 n F (i + 1) = s_n1 n F i := by rw [s_n1, if_neg hc]
        obtain ⟨d', v, a, r1, r2⟩ := ih (i + 1) d1 (by omega) ha (by rw [eN, hs])
        refine ⟨d', ?_, a, r1, r2⟩
        refine e_Md_laysNeck_7 ⟨fun h => by omega, fun _ => ⟨by omega, by omega, ?_⟩⟩
        rw [Int.toNat_natCast, hF, e0']
        refine ⟨fun _ => e_Md_laysNeck_34 ?_, fun h => by omega⟩
        rw [hin]
        exact v
  obtain ⟨d', v, a, r1, r2⟩ := l1 n 0 (q_sI d t_mNeck 0 1 0) (by omega) (q_ag_sI (by decide)) (by rw [q_sI_row, q_sR_row, q_up_at]; rfl)
  refine ⟨d', e_Md_laysNeck_0 ⟨by decide, by decide, v⟩, q_ag_tr (q_ag_sI (by decide)) a, ?_, r2⟩
  rw [r1, q_sI_row, q_sR_ne _ _ (by decide)]
