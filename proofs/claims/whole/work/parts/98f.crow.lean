/-! reading a fill: one row whole, the class -/
theorem s_oneRow_bd {sz n fi i q : Nat} {V : Nat → Int} (hn : n ≤ 8) (hi : i ≤ n) (hq : q ≤ sz) : (∀ q', s_oneRow sz V n fi i q = .inl q' → q' ≤ sz) ∧ (∀ o, s_oneRow sz V n fi i q = .inr o → o.1 < 256 ∧ o.2.1 ≤ sz ∧ o.2.2 ≤ sz) := by
  have hs := s_sk_le (V := V) hq
  unfold s_oneRow
  by_cases h : s_bt sz V (s_sk sz V q) = 47
  · rw [if_pos h]
    have hlt := s_bt_lt (V := V) (sz := sz) (p := s_sk sz V q) (by rw [h]; decide)
    have hs2 := s_sk_le (V := V) (show s_sk sz V q + 1 ≤ sz by omega)
    have bd := s_row1_bd (fi := fi) (i := i) (V := V) hn (n - i) 0 (s_sk sz V (s_sk sz V q + 1)) (by omega) (by decide) hs2
    cases hr : s_row1 sz V fi i (n - i) 0 (s_sk sz V (s_sk sz V q + 1)) with
    | inl q' => exact ⟨fun q'' h => by injection h with h; subst h; exact bd.1 q' hr, fun o h => absurd h (by simp)⟩
    | inr o =>
      obtain ⟨P, q'⟩ := o
      have := bd.2 _ hr
      exact ⟨fun q'' h => absurd h (by simp), fun o h => by injection h with h; subst h; exact ⟨this.1, hs2, this.2⟩⟩
  · rw [if_neg h]
    exact ⟨fun q'' h => by injection h with h; omega, fun o h => absurd h (by simp)⟩
theorem c_Re_readRow {sz n fi i q : Nat} {V : Nat → Int} (hz : sz ≤ 160) (hn : n ≤ 8) (hfi : fi < 256) (h1 : 1 ≤ i) (hi : i ≤ n) (hq : q ≤ sz) {d : qD} {b : Nat} (e : s_Tp sz V d) (e4 : d.1 t_Re 0 4 = (q : Int)) (e7 : d.1 t_Re 0 7 = (n : Int)) (eD : d.1 t_Di 0 1 = (fi : Int)) (eP : d.1 t_plus 0 i = 0) : ∃ d', q_ag [t_Re, t_plus, t_begins] d d' ∧ (∀ k, k ≠ 4 → d'.1 t_Re 0 k = d.1 t_Re 0 k) ∧ (∀ c k, (c ≠ 0 ∨ k ≠ i) → d'.1 t_plus c k = d.1 t_plus c k) ∧ (∀ k, k ≠ i → d'.1 t_begins 0 k = d.1 t_begins 0 k) ∧ match s_oneRow sz V n fi i q with
    | .inl q' => q_Ev m_Re_readRow 0 [q_r t_Re 0, q_i (i : Int), none] [] (q_mk d b) (q_i 0, q_mk d' b) ∧ d'.1 t_Re 0 4 = (q' : Int)
    | .inr (P, p', q') => q_Ev m_Re_readRow 0 [q_r t_Re 0, q_i (i : Int), none] [] (q_mk d b) (q_i 1, q_mk d' b) ∧ d'.1 t_Re 0 4 = (q' : Int) ∧ d'.1 t_plus 0 i = (P : Int) ∧ d'.1 t_begins 0 i = (p' : Int) := by
  have hs := s_sk_le (V := V) hq
  have sk := c_Re_skip hz (b := b) hq e e4
  have eT : ∀ v : Int, s_Tp sz V (q_sI d t_Re 0 4 v) := fun v => ⟨by rw [q_sI_ne _ _ (by decide)]; exact e.1, fun j hj => by rw [q_sI_ne _ _ (by decide)]; exact e.2 j hj⟩
  have e41 : (q_sI d t_Re 0 4 (s_sk sz V q : Int)).1 t_Re 0 4 = (s_sk sz V q : Int) := by rw [q_sI_at, q_up_at]
  have ka := c_Ta_at (p := s_sk sz V q) hz (b := b) (eT (s_sk sz V q : Int))
  rw [← e41] at ka
  have to7 : ∀ r, q_Ev m_Re_readRow 7 [q_r t_Re 0, q_i (i : Int), none] [.inl (s_bt sz V (s_sk sz V q))] (q_mk (q_sI d t_Re 0 4 (s_sk sz V q : Int)) b) r → q_Ev m_Re_readRow 0 [q_r t_Re 0, q_i (i : Int), none] [] (q_mk d b) r := fun r hr => e_Re_readRow_0 ⟨_, _, sk, e_Re_readRow_2 ⟨_, _, ka, hr⟩⟩
  unfold s_oneRow
  by_cases h : s_bt sz V (s_sk sz V q) = 47
  · rw [if_pos h]
    have hlt := s_bt_lt (V := V) (sz := sz) (p := s_sk sz V q) (by rw [h]; decide)
    have hs2 := s_sk_le (V := V) (show s_sk sz V q + 1 ≤ sz by omega)
    have sk2 := c_Re_skip (p := s_sk sz V q + 1) hz (b := b) (by omega) (eT ((s_sk sz V q + 1 : Nat) : Int)) (by rw [q_sI_at, q_up_at])
    rw [s_sI_twice] at sk2
    have e42 : (q_sI d t_Re 0 4 (s_sk sz V (s_sk sz V q + 1) : Int)).1 t_Re 0 4 = (s_sk sz V (s_sk sz V q + 1) : Int) := by rw [q_sI_at, q_up_at]
    have e72 : ∀ v, (q_sI (q_sI d t_Re 0 4 (s_sk sz V (s_sk sz V q + 1) : Int)) t_begins 0 i v).1 t_Re 0 7 = (n : Int) := fun v => by rw [q_sI_ne _ _ (by decide), q_sI_at, q_up_ne _ _ (by decide)]; exact e7
    obtain ⟨d', a, o4, oP, hm⟩ := c_Re_rowGo (V := V) hz hn hfi h1 hi (b := b) (n - i) 0 (s_sk sz V (s_sk sz V q + 1)) (q_sI (q_sI d t_Re 0 4 (s_sk sz V (s_sk sz V q + 1) : Int)) t_begins 0 i (s_sk sz V (s_sk sz V q + 1) : Int)) (by omega) (by decide) hs2 ⟨by rw [q_sI_ne _ _ (by decide)]; exact (eT _).1, fun j hj => by rw [q_sI_ne _ _ (by decide)]; exact (eT _).2 j hj⟩ (by rw [q_sI_ne _ _ (by decide)]; exact e42) (by rw [q_sI_ne _ _ (by decide), q_sI_ne _ _ (by decide)]; exact eD) (by rw [q_sI_ne _ _ (by decide), q_sI_ne _ _ (by decide)]; exact eP)
    have step : ∀ r, q_Ev m_Re_readRow 28 [q_r t_Re 0, q_i (i : Int), q_i ((i + (n - i) : Nat) : Int)] [] (q_mk (q_sI (q_sI d t_Re 0 4 (s_sk sz V (s_sk sz V q + 1) : Int)) t_begins 0 i (s_sk sz V (s_sk sz V q + 1) : Int)) b) r → q_Ev m_Re_readRow 0 [q_r t_Re 0, q_i (i : Int), none] [] (q_mk d b) r := by
      intro r hr
      refine to7 r (e_Re_readRow_7 ⟨fun _ => ?_, fun hh => absurd h hh⟩)
      rw [e41, q_wS (by omega), s_sI_twice]
      refine ⟨_, _, sk2, e_Re_readRow_19 ⟨by omega, by omega, ?_⟩⟩
      rw [e42, Int.toNat_natCast]
      have : (q_sI d t_Re 0 4 (s_sk sz V (s_sk sz V q + 1) : Int)).1 t_Re 0 7 = (n : Int) := by rw [q_sI_at, q_up_ne _ _ (by decide)]; exact e7
      rw [show i + (n - i) = n by omega] at hr
      first
        | rw [this]; exact hr
        | rw [e72]; exact hr
    refine ⟨d', q_ag_tr (q_ag_tr (q_ag_sI (by decide)) (q_ag_sI (by decide))) (q_ag_up a (by decide)), fun k hk => by rw [o4 k hk, q_sI_ne _ _ (by decide), q_sI_at, q_up_ne _ _ hk], fun c k hk => by rw [oP c k hk, q_sI_ne _ _ (by decide), q_sI_ne _ _ (by decide)], fun k hk => by rw [a.1 t_begins (by decide), q_sI_at, q_up_ne _ _ hk, q_sI_ne _ _ (by decide)], ?_⟩
    cases hrs : s_row1 sz V fi i (n - i) 0 (s_sk sz V (s_sk sz V q + 1)) with
    | inl q' => rw [hrs] at hm; exact ⟨step _ hm.1, hm.2⟩
    | inr o =>
      obtain ⟨P', q'⟩ := o
      rw [hrs] at hm
      exact ⟨step _ hm.1, hm.2.1, hm.2.2, by rw [a.1 t_begins (by decide), q_sI_at, q_up_at]⟩
  · rw [if_neg h]
    exact ⟨q_sI d t_Re 0 4 (s_sk sz V q : Int), q_ag_sI (by decide), fun k hk => by rw [q_sI_at, q_up_ne _ _ hk], fun c k _ => by rw [q_sI_ne _ _ (by decide)], fun k _ => by rw [q_sI_ne _ _ (by decide)], to7 _ (e_Re_readRow_7 ⟨fun hh => absurd hh h, fun _ => ⟨by decide, by decide, rfl⟩⟩), e41⟩
