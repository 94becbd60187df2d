/-! the model's feed -/
def s_sel (x1 x2 x3 x4 x5 : Int) (k : Nat) : Int := if k < 4 then x1 else if k < 8 then x2 else if k < 12 then x3 else if k < 16 then x4 else x5
def s_rawV (x1 x2 x3 x4 x5 : Int) (k : Nat) : Int := q_nar 2 (q_i2b (q_shr (s_sel x1 x2 x3 x4 x5 k) (24 - 8 * ((k % 4 : Nat) : Int))))
theorem s_rawV_eq (x1 x2 x3 x4 x5 : Int) (k : Nat) : q_and (s_rawV x1 x2 x3 x4 x5 k) 255 = s_fedV x1 x2 x3 x4 x5 k := by
  unfold s_rawV s_fedV
  have h : k % 4 = 0 ∨ k % 4 = 1 ∨ k % 4 = 2 ∨ k % 4 = 3 := by omega
  rcases h with h | h | h | h <;> rw [h]
  · exact s_byte_m24 _
  · exact s_byte_m16 _
  · exact s_byte_m8 _
  · exact s_byte_m0 _
theorem s_shift : ∀ k : Nat, k < 20 → q_w (24 - (q_w (8 * (q_rem (k : Int) 4)))) = 24 - 8 * ((k % 4 : Nat) : Int) := by decide +kernel
theorem c_Md_feedGo {x1 x2 x3 x4 x5 : Int} {g : Nat → Int} {sz : Nat} (hz : sz ≤ 140) {b : Nat} : ∀ (f k : Nat) (d : qD), k + f = 20 → d.1 t_Md 0 1 = (sz : Int) → d.1 t_mTape 0 = s_fed g sz (s_rawV x1 x2 x3 x4 x5) k → ∃ d', q_Ev m_Md_feed 8 [some (.inr (.inr (t_Md, 0))), some (.inl x1), some (.inl x2), some (.inl x3), some (.inl x4), some (.inl x5), some (.inl (k : Int)), none] [] (q_mk d b) (some (.inl ((sz + 20 : Nat) : Int)), q_mk d' b) ∧ q_ag [t_Md, t_mTape] d d' ∧ d'.1 t_Md 0 = q_up (d.1 t_Md 0) 1 ((sz + 20 : Nat) : Int) ∧ d'.1 t_mTape 0 = s_fed g sz (s_rawV x1 x2 x3 x4 x5) 20
  | 0, k, d, h, e1, e2 => by
    refine ⟨q_sI d t_Md 0 1 ((sz + 20 : Nat) : Int), ?_, q_ag_sI (by decide), by rw [q_sI_row, q_sR_row], ?_⟩
    · refine e_Md_feed_8 ⟨fun _ => ?_, fun h2 => by omega⟩
      rw [e1, show q_w ((sz : Int) + 20) = ((sz + 20 : Nat) : Int) by rw [q_w_id (by omega) (by omega)]; omega]
    · rw [q_sI_row, q_sR_ne _ _ (by decide), e2, show k = 20 by omega]
  | f + 1, k, d, h, e1, e2 => by
    obtain ⟨d', v, a, r1, r2⟩ := c_Md_feedGo hz f (k + 1) (q_sI d t_mTape 0 (sz + k) (s_rawV x1 x2 x3 x4 x5 k)) (by omega) (by rw [q_sI_row, q_sR_ne _ _ (by decide), e1]) (by rw [q_sI_row, q_sR_row, e2, s_fed_up])
    have key : q_Ev m_Md_feed 32 [some (.inr (.inr (t_Md, 0))), some (.inl x1), some (.inl x2), some (.inl x3), some (.inl x4), some (.inl x5), some (.inl (k : Int)), none] [.inl (s_sel x1 x2 x3 x4 x5 k)] (q_mk d b) (some (.inl ((sz + 20 : Nat) : Int)), q_mk d' b) := by
      refine e_Md_feed_32 ⟨by decide, ?_⟩
      rw [e1, show q_w ((sz : Int) + (k : Int)) = ((sz + k : Nat) : Int) by rw [q_w_id (by omega) (by omega)]; omega, Int.toNat_natCast, s_shift k (by omega), show q_w ((k : Int) + 1) = ((k + 1 : Nat) : Int) by rw [q_w_id (by omega) (by omega)]; omega]
      exact ⟨by omega, by omega, v⟩
    refine ⟨d', ?_, q_ag_tr (q_ag_sI (by decide)) a, ?_, r2⟩
    · refine e_Md_feed_8 ⟨fun h2 => by omega, fun _ => ⟨fun h4 => ⟨fun h8 => ⟨fun h12 => ⟨fun h16 => ?_, fun h16 => ?_⟩, fun h12 => ?_⟩, fun h8 => ?_⟩, fun h4 => ?_⟩⟩
      · have : s_sel x1 x2 x3 x4 x5 k = x5 := by unfold s_sel; rw [if_neg (by omega), if_neg (by omega), if_neg (by omega), if_neg (by omega)]
        rw [this] at key; exact key
      · have : s_sel x1 x2 x3 x4 x5 k = x4 := by unfold s_sel; rw [if_neg (by omega), if_neg (by omega), if_neg (by omega), if_pos (by omega)]
        rw [this] at key; exact key
      · have : s_sel x1 x2 x3 x4 x5 k = x3 := by unfold s_sel; rw [if_neg (by omega), if_neg (by omega), if_pos (by omega)]
        rw [this] at key; exact key
      · have : s_sel x1 x2 x3 x4 x5 k = x2 := by unfold s_sel; rw [if_neg (by omega), if_pos (by omega)]
        rw [this] at key; exact key
      · have : s_sel x1 x2 x3 x4 x5 k = x1 := by unfold s_sel; rw [if_pos (by omega)]
        rw [this] at key; exact key
    · rw [r1, q_sI_row, q_sR_ne _ _ (by decide)]
theorem c_Md_feed {x1 x2 x3 x4 x5 : Int} {sz : Nat} {d : qD} {b : Nat} (e1 : d.1 t_Md 0 1 = (sz : Int)) (hz : sz ≤ 160) : ∃ d', q_Ev m_Md_feed 0 [some (.inr (.inr (t_Md, 0))), some (.inl x1), some (.inl x2), some (.inl x3), some (.inl x4), some (.inl x5), none, none] [] (q_mk d b) (some (.inl (if sz ≤ 140 then ((sz + 20 : Nat) : Int) else -1)), q_mk d' b) ∧ q_ag [t_Md, t_mTape] d d' ∧ d'.1 t_Md 0 = q_up (d.1 t_Md 0) 1 ((if sz ≤ 140 then sz + 20 else sz : Nat) : Int) ∧ d'.1 t_mTape 0 = if sz ≤ 140 then s_fed (d.1 t_mTape 0) sz (s_rawV x1 x2 x3 x4 x5) 20 else d.1 t_mTape 0 := by
  by_cases h : sz ≤ 140
  · simp only [if_pos h]
    obtain ⟨d', v, a, r1, r2⟩ := c_Md_feedGo (x1 := x1) (x2 := x2) (x3 := x3) (x4 := x4) (x5 := x5) (g := d.1 t_mTape 0) h (b := b) 20 0 d rfl e1 (s_fed_0 _ _ _).symm
    refine ⟨d', e_Md_feed_0 ⟨fun _ => v, fun h2 => ?_⟩, a, r1, r2⟩
    rw [e1] at h2; omega
  · simp only [if_neg h]
    refine ⟨d, e_Md_feed_0 ⟨fun h2 => ?_, fun _ => rfl⟩, q_ag_refl _ _, ?_, rfl⟩
    · rw [e1] at h2; omega
    · funext k
      by_cases hk : k = 1
      · subst hk; rw [q_up_at, e1]
      · rw [q_up_ne _ _ hk]
