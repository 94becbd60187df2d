/-! reading a fill: one row, the class -/
def s_row1 (sz : Nat) (V : Nat → Int) (fi i : Nat) : Nat → Nat → Nat → Nat ⊕ (Nat × Nat)
  | 0, P, q => .inr (P, q)
  | f + 1, P, q => if s_box fi i (i + f + 1) = true then (if s_bt sz V q = 43 then s_row1 sz V fi i f (s_with P (i + f + 1)) (q + 1) else if s_bt sz V q = 48 then s_row1 sz V fi i f P (q + 1) else .inl q) else s_row1 sz V fi i f P q
def s_oneRow (sz : Nat) (V : Nat → Int) (n fi i q : Nat) : Nat ⊕ (Nat × Nat × Nat) := if s_bt sz V (s_sk sz V q) = 47 then (match s_row1 sz V fi i (n - i) 0 (s_sk sz V (s_sk sz V q + 1)) with
    | .inl q' => .inl q'
    | .inr (P, q') => .inr (P, s_sk sz V (s_sk sz V q + 1), q')) else .inl (s_sk sz V q)
theorem s_row1_bd {sz fi i n : Nat} {V : Nat → Int} (hn : n ≤ 8) : ∀ (f P q : Nat), i + f ≤ n → P < 256 → q ≤ sz → (∀ q', s_row1 sz V fi i f P q = .inl q' → q' ≤ sz) ∧ (∀ o, s_row1 sz V fi i f P q = .inr o → o.1 < 256 ∧ o.2 ≤ sz)
  | 0, P, q, _, hP, hq => ⟨fun q' h => absurd h (by simp [s_row1]), fun o h => by
    unfold s_row1 at h
    injection h with h
    subst h
    exact ⟨hP, hq⟩⟩
  | f + 1, P, q, hf, hP, hq => by
    unfold s_row1
    by_cases hb : s_box fi i (i + f + 1) = true
    · rw [if_pos hb]
      by_cases h1 : s_bt sz V q = 43
      · rw [if_pos h1]
        have hlt := s_bt_lt (V := V) (sz := sz) (p := q) (by rw [h1]; decide)
        exact s_row1_bd hn f _ _ (by omega) (s_with_ltn (n := 8) hP (by omega) (by omega)) (by omega)
      · rw [if_neg h1]
        by_cases h2 : s_bt sz V q = 48
        · rw [if_pos h2]
          have hlt := s_bt_lt (V := V) (sz := sz) (p := q) (by rw [h2]; decide)
          exact s_row1_bd hn f _ _ (by omega) hP (by omega)
        · rw [if_neg h2]
          exact ⟨fun q' h => by injection h with h; omega, fun o h => absurd h (by simp)⟩
    · rw [if_neg hb]
      exact s_row1_bd hn f _ _ (by omega) hP hq
theorem c_Re_rowGo {sz n fi i : Nat} {V : Nat → Int} (hz : sz ≤ 160) (hn : n ≤ 8) (hfi : fi < 256) (h1 : 1 ≤ i) (hi : i ≤ n) {b : Nat} : ∀ (f P q : Nat) (d : qD), i + f ≤ n → P < 256 → q ≤ sz → s_Tp sz V d → d.1 t_Re 0 4 = (q : Int) → d.1 t_Di 0 1 = (fi : Int) → d.1 t_plus 0 i = (P : Int) → ∃ d', q_ag [t_Re, t_plus] d d' ∧ (∀ k, k ≠ 4 → d'.1 t_Re 0 k = d.1 t_Re 0 k) ∧ (∀ c k, (c ≠ 0 ∨ k ≠ i) → d'.1 t_plus c k = d.1 t_plus c k) ∧ match s_row1 sz V fi i f P q with
    | .inl q' => q_Ev m_Re_readRow 28 [q_r t_Re 0, q_i (i : Int), q_i ((i + f : Nat) : Int)] [] (q_mk d b) (q_i 0, q_mk d' b) ∧ d'.1 t_Re 0 4 = (q' : Int)
    | .inr (P', q') => q_Ev m_Re_readRow 28 [q_r t_Re 0, q_i (i : Int), q_i ((i + f : Nat) : Int)] [] (q_mk d b) (q_i 1, q_mk d' b) ∧ d'.1 t_Re 0 4 = (q' : Int) ∧ d'.1 t_plus 0 i = (P' : Int)
  | 0, P, q, d, hf, hP, hq, e, e4, eD, eP => ⟨d, q_ag_refl _ _, fun _ _ => rfl, fun _ _ _ => rfl, e_Re_readRow_28 ⟨fun _ => ⟨by decide, by decide, rfl⟩, fun hh => by omega⟩, e4, eP⟩
  | f + 1, P, q, d, hf, hP, hq, e, e4, eD, eP => by
    unfold s_row1
    have kb := c_Di_isBox (c := 0) (i := i) (j := i + f + 1) hfi h1 (by omega) (by omega) (by omega) (b := b) eD
    have ka := c_Ta_at (p := q) hz (b := b) e
    rw [← e4] at ka
    have ew : q_w (((i + (f + 1) : Nat) : Int) + (-1)) = ((i + f : Nat) : Int) := by
      rw [show ((i + (f + 1) : Nat) : Int) + (-1) = ((i + (f + 1) : Nat) : Int) - ((1 : Nat) : Int) by omega, q_wD (by omega) (by omega)]
      congr 1
    by_cases hb : s_box fi i (i + f + 1) = true
    · rw [if_pos hb]
      rw [hb] at kb
      have to42 : ∀ r, q_Ev m_Re_readRow 42 [q_r t_Re 0, q_i (i : Int), q_i ((i + (f + 1) : Nat) : Int)] [.inl (s_bt sz V q)] (q_mk d b) r → q_Ev m_Re_readRow 28 [q_r t_Re 0, q_i (i : Int), q_i ((i + (f + 1) : Nat) : Int)] [] (q_mk d b) r := fun r hr => e_Re_readRow_28 ⟨fun hh => by omega, fun _ => ⟨_, _, kb, e_Re_readRow_36 ⟨fun hh => absurd hh (by decide), fun _ => ⟨_, _, ka, hr⟩⟩⟩⟩
      by_cases h43 : s_bt sz V q = 43
      · rw [if_pos h43]
        have hlt := s_bt_lt (V := V) (sz := sz) (p := q) (by rw [h43]; decide)
        have sp := c_Di_setPlus (c := 0) (i := i) (j := i + f + 1) hP (by omega) (by omega) (by omega) (b := b) eP
        obtain ⟨d', a, o4, oP, hm⟩ := c_Re_rowGo (V := V) hz hn hfi h1 hi (b := b) f (s_with P (i + f + 1)) (q + 1) (q_sI (q_sI d t_plus 0 i (s_with P (i + f + 1) : Int)) t_Re 0 4 ((q + 1 : Nat) : Int)) (by omega) (s_with_ltn (n := 8) hP (by omega) (by omega)) (by omega) ⟨by rw [q_sI_ne _ _ (by decide), q_sI_ne _ _ (by decide)]; exact e.1, fun j hj => by rw [q_sI_ne _ _ (by decide), q_sI_ne _ _ (by decide)]; exact e.2 j hj⟩ (by rw [q_sI_at, q_up_at]) (by rw [q_sI_ne _ _ (by decide), q_sI_ne _ _ (by decide)]; exact eD) (by rw [q_sI_ne _ _ (by decide), q_sI_at, q_up_at])
        have step : ∀ r, q_Ev m_Re_readRow 28 [q_r t_Re 0, q_i (i : Int), q_i ((i + f : Nat) : Int)] [] (q_mk (q_sI (q_sI d t_plus 0 i (s_with P (i + f + 1) : Int)) t_Re 0 4 ((q + 1 : Nat) : Int)) b) r → q_Ev m_Re_readRow 28 [q_r t_Re 0, q_i (i : Int), q_i ((i + (f + 1) : Nat) : Int)] [] (q_mk d b) r := by
          intro r hr
          refine to42 r (e_Re_readRow_42 ⟨fun hh => absurd h43 hh, fun _ => ⟨_, _, sp, e_Re_readRow_49 (e_Re_readRow_59 (e_Re_readRow_65 ?_))⟩⟩)
          have e4' : (q_sI d t_plus 0 i (s_with P (i + f + 1) : Int)).1 t_Re 0 4 = (q : Int) := by rw [q_sI_ne _ _ (by decide)]; exact e4
          rw [e4', q_wS (by omega), ew]
          exact hr
        refine ⟨d', q_ag_tr (q_ag_tr (q_ag_sI (by decide)) (q_ag_sI (by decide))) a, fun k hk => by rw [o4 k hk, q_sI_at, q_up_ne _ _ hk, q_sI_ne _ _ (by decide)], fun c k hk => by
          rw [oP c k hk, q_sI_ne _ _ (by decide)]
          by_cases hc : c = 0
          · subst hc
            rw [q_sI_at, q_up_ne _ _ (by rcases hk with hk | hk; exact absurd rfl hk; exact hk)]
          · rw [q_sI_ni _ _ hc], ?_⟩
        cases hrs : s_row1 sz V fi i f (s_with P (i + f + 1)) (q + 1) with
        | inl q' => rw [hrs] at hm; exact ⟨step _ hm.1, hm.2⟩
        | inr o => obtain ⟨P', q'⟩ := o; rw [hrs] at hm; exact ⟨step _ hm.1, hm.2⟩
      · rw [if_neg h43]
        have to55 : ∀ r, q_Ev m_Re_readRow 55 [q_r t_Re 0, q_i (i : Int), q_i ((i + (f + 1) : Nat) : Int)] [.inl (s_bt sz V q)] (q_mk d b) r → q_Ev m_Re_readRow 28 [q_r t_Re 0, q_i (i : Int), q_i ((i + (f + 1) : Nat) : Int)] [] (q_mk d b) r := fun r hr => to42 r (e_Re_readRow_42 ⟨fun _ => ⟨_, _, ka, hr⟩, fun hh => absurd hh h43⟩)
        by_cases h48 : s_bt sz V q = 48
        · rw [if_pos h48]
          have hlt := s_bt_lt (V := V) (sz := sz) (p := q) (by rw [h48]; decide)
          obtain ⟨d', a, o4, oP, hm⟩ := c_Re_rowGo (V := V) hz hn hfi h1 hi (b := b) f P (q + 1) (q_sI d t_Re 0 4 ((q + 1 : Nat) : Int)) (by omega) hP (by omega) ⟨by rw [q_sI_ne _ _ (by decide)]; exact e.1, fun j hj => by rw [q_sI_ne _ _ (by decide)]; exact e.2 j hj⟩ (by rw [q_sI_at, q_up_at]) (by rw [q_sI_ne _ _ (by decide)]; exact eD) (by rw [q_sI_ne _ _ (by decide)]; exact eP)
          have step : ∀ r, q_Ev m_Re_readRow 28 [q_r t_Re 0, q_i (i : Int), q_i ((i + f : Nat) : Int)] [] (q_mk (q_sI d t_Re 0 4 ((q + 1 : Nat) : Int)) b) r → q_Ev m_Re_readRow 28 [q_r t_Re 0, q_i (i : Int), q_i ((i + (f + 1) : Nat) : Int)] [] (q_mk d b) r := by
            intro r hr
            refine to55 r (e_Re_readRow_55 ⟨fun _ => e_Re_readRow_59 (e_Re_readRow_65 ?_), fun hh => absurd h48 hh⟩)
            rw [e4, q_wS (by omega), ew]
            exact hr
          refine ⟨d', q_ag_tr (q_ag_sI (by decide)) a, fun k hk => by rw [o4 k hk, q_sI_at, q_up_ne _ _ hk], fun c k hk => by rw [oP c k hk, q_sI_ne _ _ (by decide)], ?_⟩
          cases hrs : s_row1 sz V fi i f P (q + 1) with
          | inl q' => rw [hrs] at hm; exact ⟨step _ hm.1, hm.2⟩
          | inr o => obtain ⟨P', q'⟩ := o; rw [hrs] at hm; exact ⟨step _ hm.1, hm.2⟩
        · rw [if_neg h48]
          exact ⟨d, q_ag_refl _ _, fun _ _ => rfl, fun _ _ _ => rfl, to55 _ (e_Re_readRow_55 ⟨fun hh => absurd hh h48, fun _ => ⟨by decide, by decide, rfl⟩⟩), e4⟩
    · rw [if_neg hb]
      rw [Bool.eq_false_iff.mpr hb] at kb
      obtain ⟨d', a, o4, oP, hm⟩ := c_Re_rowGo (V := V) hz hn hfi h1 hi (b := b) f P q d (by omega) hP hq e e4 eD eP
      have step : ∀ r, q_Ev m_Re_readRow 28 [q_r t_Re 0, q_i (i : Int), q_i ((i + f : Nat) : Int)] [] (q_mk d b) r → q_Ev m_Re_readRow 28 [q_r t_Re 0, q_i (i : Int), q_i ((i + (f + 1) : Nat) : Int)] [] (q_mk d b) r := by
        intro r hr
        refine e_Re_readRow_28 ⟨fun hh => by omega, fun _ => ⟨_, _, kb, e_Re_readRow_36 ⟨fun _ => e_Re_readRow_65 ?_, fun hh => absurd rfl hh⟩⟩⟩
        rw [ew]; exact hr
      refine ⟨d', a, o4, oP, ?_⟩
      cases hrs : s_row1 sz V fi i f P q with
      | inl q' => rw [hrs] at hm; exact ⟨step _ hm.1, hm.2⟩
      | inr o => obtain ⟨P', q'⟩ := o; rw [hrs] at hm; exact ⟨step _ hm.1, hm.2⟩
