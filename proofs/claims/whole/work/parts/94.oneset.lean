/-! reading sets: what is asked; the class's one set -/
def s_rset (sz : Nat) (V : Nat → Int) (most : Nat) : Nat → Nat → Nat → Nat → Nat → Nat ⊕ (Nat × Nat × Nat)
  | 0, _, _, _, q => .inl q
  | f + 1, cnt, last, set, q => if cnt < most ∧ s_dgt (s_bt sz V q) = true then (if (s_bt sz V q - 48).toNat ≤ last ∨ 8 < (s_bt sz V q - 48).toNat then .inl q else s_rset sz V most f (cnt + 1) (s_bt sz V q - 48).toNat (s_with set (s_bt sz V q - 48).toNat) (q + 1)) else .inr (set, cnt, q)
def s_rsets (sz : Nat) (V : Nat → Int) : Nat → Nat → Nat → Nat → (Nat → Nat) → (Nat → Nat) → Nat ⊕ (Nat × (Nat → Nat) × (Nat → Nat))
  | 0, _, p, _, _, _ => .inl (8 * p + 1)
  | f + 1, k, p, size, S, G => if sz ≤ p then (if k < 2 then .inl (8 * p + 1) else .inr (k, S, G)) else if k = 8 then .inl (8 * p + 1) else
    match s_rset sz V (if k = 0 then 8 else size) 9 0 0 0 p with
    | .inl q => .inl (8 * q + 1)
    | .inr (set, cnt, q) => if 0 < cnt ∧ (k = 0 ∨ cnt = size) ∧ s_dgt (s_bt sz V q) = false then s_rsets sz V f (k + 1) (s_sk sz V q) (if k = 0 then cnt else size) (s_put S (k + 1) set) (s_put G (k + 1) p) else .inl (8 * q + 1)
theorem s_rset_bd {sz : Nat} {V : Nat → Int} {most : Nat} (hm : most ≤ 8) : ∀ (f cnt last set q : Nat), cnt + f = 9 → cnt ≤ most → set < 256 → q ≤ sz → (∀ q', s_rset sz V most f cnt last set q = .inl q' → q' ≤ sz) ∧ (∀ o, s_rset sz V most f cnt last set q = .inr o → o.1 < 256 ∧ o.2.1 ≤ most ∧ q ≤ o.2.2 ∧ o.2.2 ≤ sz)
  | 0, cnt, last, set, q, hf, hc, _, _ => by omega
  | f + 1, cnt, last, set, q, hf, hc, hs, hq => by
    unfold s_rset
    by_cases h : cnt < most ∧ s_dgt (s_bt sz V q) = true
    · rw [if_pos h]
      have hd := s_dgt_of h.2
      have hlt := s_dgt_lt h.2
      by_cases h2 : (s_bt sz V q - 48).toNat ≤ last ∨ 8 < (s_bt sz V q - 48).toNat
      · rw [if_pos h2]
        exact ⟨fun q' hh => by injection hh with hh; omega, fun o hh => absurd hh (by simp)⟩
      · rw [if_neg h2]
        have ih := s_rset_bd (sz := sz) (V := V) hm f (cnt + 1) (s_bt sz V q - 48).toNat (s_with set (s_bt sz V q - 48).toNat) (q + 1) (by omega) (by omega) (s_with_ltn (n := 8) hs (by omega) (by omega)) (by omega)
        exact ⟨ih.1, fun o hh => by have := ih.2 o hh; omega⟩
    · rw [if_neg h]
      refine ⟨fun q' hh => absurd hh (by simp), fun o hh => ?_⟩
      injection hh with hh
      subst hh
      exact ⟨hs, hc, Nat.le_refl _, hq⟩
abbrev s_TS : List Nat := [t_Re, t_sets, t_begins]
/-- digits of one set -/
theorem c_Re_setGo {sz i : Nat} {V : Nat → Int} (hz : sz ≤ 160) (hi1 : 1 ≤ i) (hi : i ≤ 8) {most : Nat} (hm : most ≤ 8) {b : Nat} : ∀ (f cnt last set q : Nat) (d : qD), cnt + f = 9 → cnt ≤ most → set < 256 → q ≤ sz → last ≤ 8 → s_Tp sz V d → d.1 t_Re 0 4 = (q : Int) → d.1 t_sets 0 i = (set : Int) → ∃ d', q_ag [t_Re, t_sets] d d' ∧ (∀ k, k ≠ 4 → d'.1 t_Re 0 k = d.1 t_Re 0 k) ∧ (∀ k, k ≠ i → d'.1 t_sets 0 k = d.1 t_sets 0 k) ∧ match s_rset sz V most f cnt last set q with
    | .inl q' => q_Ev m_Re_readSet 23 [q_r t_Re 0, q_i (i : Int), q_i (most : Int), q_i (cnt : Int), q_i (last : Int), none] [] (q_mk d b) (q_i 0, q_mk d' b) ∧ d'.1 t_Re 0 4 = (q' : Int)
    | .inr (set', cnt', q') => d'.1 t_Re 0 4 = (q' : Int) ∧ d'.1 t_sets 0 i = (set' : Int) ∧ ∀ r, q_Ev m_Re_readSet 67 [q_r t_Re 0, q_i (i : Int), none, q_i (cnt' : Int), none, none] [] (q_mk d' b) r → q_Ev m_Re_readSet 23 [q_r t_Re 0, q_i (i : Int), q_i (most : Int), q_i (cnt : Int), q_i (last : Int), none] [] (q_mk d b) r
  | 0, cnt, last, set, q, d, hf, hc, _, _, _, _, _, _ => by omega
  | f + 1, cnt, last, set, q, d, hf, hc, hs, hq, hl, e, e4, eS => by
    unfold s_rset
    have kd := c_Ta_isDigit (p := q) hz (b := b) e
    have ka := c_Ta_at (p := q) hz (b := b) e
    rw [← e4] at kd ka
    by_cases h1 : cnt < most
    · by_cases h2 : s_dgt (s_bt sz V q) = true
      · rw [if_pos ⟨h1, h2⟩]
        have hd := s_dgt_of h2
        have hlt := s_dgt_lt h2
        rw [h2] at kd
        have ew : q_w (s_bt sz V q - 48) = (((s_bt sz V q - 48).toNat : Nat) : Int) := by rw [q_w_id (by omega) (by omega)]; omega
        have to37 : ∀ r, q_Ev m_Re_readSet 37 [q_r t_Re 0, q_i (i : Int), q_i (most : Int), q_i (cnt : Int), q_i (last : Int), none] [.inl (s_bt sz V q)] (q_mk d b) r → q_Ev m_Re_readSet 23 [q_r t_Re 0, q_i (i : Int), q_i (most : Int), q_i (cnt : Int), q_i (last : Int), none] [] (q_mk d b) r := fun r hr => e_Re_readSet_23 ⟨fun hh => by omega, fun _ => ⟨_, _, kd, e_Re_readSet_31 ⟨fun hh => absurd hh (by decide), fun _ => ⟨_, _, ka, hr⟩⟩⟩⟩
        have no : q_Ev m_Re_readSet 46 [none, none, none, none, none, none] [] (q_mk d b) (q_i 0, q_mk d b) := e_Re_readSet_46 ⟨by decide, by decide, rfl⟩
        generalize (s_bt sz V q - 48).toNat = lb at *
        by_cases h3 : lb ≤ last ∨ 8 < lb
        · rw [if_pos h3]
          refine ⟨d, q_ag_refl _ _, fun _ _ => rfl, fun _ _ => rfl, to37 _ (e_Re_readSet_37 ?_), e4⟩
          rw [ew]
          exact ⟨fun _ => no, fun hh => ⟨fun hh2 => by omega, fun _ => no⟩⟩
        · rw [if_neg h3]
          have hp : 2 ^ (lb - 1) ≤ 2 ^ 7 := Nat.pow_le_pow_right (by decide) (by omega)
          have hsw := s_with_ltn (n := 8) hs (show 1 ≤ lb by omega) (show lb ≤ 8 by omega)
          obtain ⟨d', a, o4, oS, hmm⟩ := c_Re_setGo (V := V) hz hi1 hi hm (b := b) f (cnt + 1) lb (s_with set lb) (q + 1) (q_sI (q_sI d t_sets 0 i (s_with set lb : Int)) t_Re 0 4 ((q + 1 : Nat) : Int)) (by omega) (by omega) hsw (by omega) (by omega) ⟨by rw [q_sI_ne _ _ (by decide), q_sI_ne _ _ (by decide)]; exact e.1, fun k hk => by rw [q_sI_ne _ _ (by decide), q_sI_ne _ _ (by decide)]; exact e.2 k hk⟩ (by rw [q_sI_at, q_up_at]) (by rw [q_sI_ne _ _ (by decide), q_sI_at, q_up_at])
          have step : ∀ r, q_Ev m_Re_readSet 23 [q_r t_Re 0, q_i (i : Int), q_i (most : Int), q_i ((cnt + 1 : Nat) : Int), q_i (lb : Int), none] [] (q_mk (q_sI (q_sI d t_sets 0 i (s_with set lb : Int)) t_Re 0 4 ((q + 1 : Nat) : Int)) b) r → q_Ev m_Re_readSet 23 [q_r t_Re 0, q_i (i : Int), q_i (most : Int), q_i (cnt : Int), q_i (last : Int), none] [] (q_mk d b) r := by
            intro r hr
            refine to37 r (e_Re_readSet_37 ?_)
            rw [ew]
            refine ⟨fun hh => by omega, fun _ => ⟨fun _ => ⟨by omega, by omega, _, _, c_Se_only (by omega) (by omega), ?_⟩, fun hh => by omega⟩⟩
            rw [Int.toNat_natCast, eS]
            refine e_Re_readSet_55 ⟨by omega, by omega, ?_⟩
            rw [q_or_nat (by omega) (by omega), e4, q_wS (by omega), q_wS (by omega), Int.toNat_natCast]
            exact hr
          refine ⟨d', q_ag_tr (q_ag_tr (q_ag_sI (by decide)) (q_ag_sI (by decide))) a, fun k hk => by rw [o4 k hk, q_sI_at, q_up_ne _ _ hk, q_sI_ne _ _ (by decide)], fun k hk => by rw [oS k hk, q_sI_ne _ _ (by decide), q_sI_at, q_up_ne _ _ hk], ?_⟩
          cases hrs : s_rset sz V most f (cnt + 1) lb (s_with set lb) (q + 1) with
          | inl q' => rw [hrs] at hmm; exact ⟨step _ hmm.1, hmm.2⟩
          | inr o =>
            obtain ⟨set', cnt', q'⟩ := o
            rw [hrs] at hmm
            exact ⟨hmm.1, hmm.2.1, fun r hr => step r (hmm.2.2 r hr)⟩
      · rw [if_neg (fun hc => h2 hc.2)]
        rw [Bool.eq_false_iff.mpr h2] at kd
        exact ⟨d, q_ag_refl _ _, fun _ _ => rfl, fun _ _ => rfl, e4, eS, fun r hr => e_Re_readSet_23 ⟨fun hh => by omega, fun _ => ⟨_, _, kd, e_Re_readSet_31 ⟨fun _ => hr, fun hh => absurd rfl hh⟩⟩⟩⟩
    · rw [if_neg (fun hc => h1 hc.1)]
      exact ⟨d, q_ag_refl _ _, fun _ _ => rfl, fun _ _ => rfl, e4, eS, fun r hr => e_Re_readSet_23 ⟨fun _ => hr, fun hh => by omega⟩⟩
/-- one set: read, or the place of the fault -/
theorem c_Re_readSet {sz p k size : Nat} {V : Nat → Int} (hz : sz ≤ 160) (hp : p ≤ sz) (hk : k < 8) (hsz : size ≤ 8) {d : qD} {b : Nat} (e : s_Tp sz V d) (e4 : d.1 t_Re 0 4 = (p : Int)) (e5 : d.1 t_Re 0 5 = (size : Int)) : ∃ d', q_ag s_TS d d' ∧ d'.1 t_Re 0 7 = d.1 t_Re 0 7 ∧ (∀ j, j ≠ k + 1 → d'.1 t_sets 0 j = d.1 t_sets 0 j ∧ d'.1 t_begins 0 j = d.1 t_begins 0 j) ∧ match s_rset sz V (if k = 0 then 8 else size) 9 0 0 0 p with
    | .inl q => q_Ev m_Re_readSet 0 [q_r t_Re 0, q_i ((k + 1 : Nat) : Int), none, none, none, none] [] (q_mk d b) (q_i 0, q_mk d' b) ∧ d'.1 t_Re 0 4 = (q : Int)
    | .inr (set, cnt, q) => (q_Ev m_Re_readSet 0 [q_r t_Re 0, q_i ((k + 1 : Nat) : Int), none, none, none, none] [] (q_mk d b) (q_i (q_b2i (decide (0 < cnt ∧ (k = 0 ∨ cnt = size) ∧ s_dgt (s_bt sz V q) = false))), q_mk d' b)) ∧ d'.1 t_Re 0 4 = (q : Int) ∧ d'.1 t_sets 0 (k + 1) = (set : Int) ∧ d'.1 t_begins 0 (k + 1) = (p : Int) ∧ d'.1 t_Re 0 5 = ((if k = 0 then cnt else size : Nat) : Int) := by
  have hm : (if k = 0 then 8 else size) ≤ 8 := by split <;> omega
  obtain ⟨d', a, o4, oS, hmm⟩ := c_Re_setGo (i := k + 1) (V := V) hz (by omega) (by omega) hm (b := b) 9 0 0 0 p (q_sI (q_sI d t_begins 0 (k + 1) (p : Int)) t_sets 0 (k + 1) 0) rfl (by omega) (by decide) hp (by omega) ⟨by rw [q_sI_ne _ _ (by decide), q_sI_ne _ _ (by decide)]; exact e.1, fun k hk => by rw [q_sI_ne _ _ (by decide), q_sI_ne _ _ (by decide)]; exact e.2 k hk⟩ (by rw [q_sI_ne _ _ (by decide), q_sI_ne _ _ (by decide)]; exact e4) (by rw [q_sI_at, q_up_at]; rfl)
  have start : ∀ r, q_Ev m_Re_readSet 23 [q_r t_Re 0, q_i ((k + 1 : Nat) : Int), q_i ((if k = 0 then 8 else size : Nat) : Int), q_i 0, q_i 0, none] [] (q_mk (q_sI (q_sI d t_begins 0 (k + 1) (p : Int)) t_sets 0 (k + 1) 0) b) r → q_Ev m_Re_readSet 0 [q_r t_Re 0, q_i ((k + 1 : Nat) : Int), none, none, none, none] [] (q_mk d b) r := by
    intro r hr
    have e7 : q_Ev m_Re_readSet 7 [q_r t_Re 0, q_i ((k + 1 : Nat) : Int), none, none, none, none] [.inl ((if k = 0 then 8 else size : Nat) : Int)] (q_mk d b) r := by
      refine e_Re_readSet_7 ⟨by omega, by omega, by omega, by omega, ?_⟩
      rw [e4, Int.toNat_natCast]
      exact hr
    by_cases h0 : k = 0
    · rw [if_pos h0] at e7
      exact e_Re_readSet_0 ⟨fun hh => by omega, fun _ => e7⟩
    · rw [if_neg h0, ← e5] at e7
      exact e_Re_readSet_0 ⟨fun _ => e7, fun hh => by omega⟩
  have aS : q_ag s_TS d d' := q_ag_tr (q_ag_tr (q_ag_sI (by decide)) (q_ag_sI (by decide))) (q_ag_up a (by decide))
  have o7 : d'.1 t_Re 0 7 = d.1 t_Re 0 7 := by rw [o4 7 (by decide), q_sI_ne _ _ (by decide), q_sI_ne _ _ (by decide)]
  have o5 : d'.1 t_Re 0 5 = (size : Int) := by rw [o4 5 (by decide), q_sI_ne _ _ (by decide), q_sI_ne _ _ (by decide)]; exact e5
  have oB : d'.1 t_begins 0 = q_up (d.1 t_begins 0) (k + 1) (p : Int) := by rw [a.1 t_begins (by decide), q_sI_ne _ _ (by decide), q_sI_at]
  have oJ : ∀ j, j ≠ k + 1 → d'.1 t_sets 0 j = d.1 t_sets 0 j ∧ d'.1 t_begins 0 j = d.1 t_begins 0 j := fun j hj => ⟨by rw [oS j hj, q_sI_at, q_up_ne _ _ hj, q_sI_ne _ _ (by decide)], by rw [oB, q_up_ne _ _ hj]⟩
  cases hrs : s_rset sz V (if k = 0 then 8 else size) 9 0 0 0 p with
  | inl q =>
    rw [hrs] at hmm
    exact ⟨d', aS, o7, oJ, start _ hmm.1, hmm.2⟩
  | inr o =>
    obtain ⟨set, cnt, q⟩ := o
    rw [hrs] at hmm
    obtain ⟨m1, m2, m3⟩ := hmm
    have bd := (s_rset_bd (sz := sz) (V := V) hm 9 0 0 0 p rfl (by omega) (by decide) hp).2 _ hrs
    refine ⟨q_sI d' t_Re 0 5 ((if k = 0 then cnt else size : Nat) : Int), q_ag_tr aS (q_ag_sI (by decide)), by rw [q_sI_at, q_up_ne _ _ (by decide)]; exact o7, fun j hj => ⟨by rw [q_sI_ne _ _ (by decide)]; exact (oJ j hj).1, by rw [q_sI_ne _ _ (by decide)]; exact (oJ j hj).2⟩, start _ (m3 _ ?_), by rw [q_sI_at, q_up_ne _ _ (by decide)]; exact m1, by rw [q_sI_ne _ _ (by decide)]; exact m2, by rw [q_sI_ne _ _ (by decide), oB, q_up_at], by rw [q_sI_at, q_up_at]⟩
    have eT : s_Tp sz V (q_sI d' t_Re 0 5 ((if k = 0 then cnt else size : Nat) : Int)) := ⟨by rw [q_sI_ne _ _ (by decide), aS.1 t_Ta (by decide)]; exact e.1, fun k hk => by rw [q_sI_ne _ _ (by decide), aS.1 t_bytes (by decide)]; exact e.2 k hk⟩
    have eq4 : (q_sI d' t_Re 0 5 ((if k = 0 then cnt else size : Nat) : Int)).1 t_Re 0 4 = (q : Int) := by rw [q_sI_at, q_up_ne _ _ (by decide)]; exact m1
    have eq5 : (q_sI d' t_Re 0 5 ((if k = 0 then cnt else size : Nat) : Int)).1 t_Re 0 5 = ((if k = 0 then cnt else size : Nat) : Int) := by rw [q_sI_at, q_up_at]
    have kd := c_Ta_isDigit (p := q) hz (b := b) eT
    rw [← eq4] at kd
    have no : ¬ (0 < cnt ∧ (k = 0 ∨ cnt = size) ∧ s_dgt (s_bt sz V q) = false) → q_Ev m_Re_readSet 87 [none, none, none, none, none, none] [] (q_mk (q_sI d' t_Re 0 5 ((if k = 0 then cnt else size : Nat) : Int)) b) (q_i (q_b2i (decide (0 < cnt ∧ (k = 0 ∨ cnt = size) ∧ s_dgt (s_bt sz V q) = false))), q_mk (q_sI d' t_Re 0 5 ((if k = 0 then cnt else size : Nat) : Int)) b) := by
      intro h
      rw [decide_eq_false h]
      exact e_Re_readSet_87 (e_Re_readSet_88 ⟨by decide, by decide, rfl⟩)
    have k73 : q_Ev m_Re_readSet 73 [q_r t_Re 0, none, none, q_i (cnt : Int), none, none] [] (q_mk (q_sI d' t_Re 0 5 ((if k = 0 then cnt else size : Nat) : Int)) b) (q_i (q_b2i (decide (0 < cnt ∧ (k = 0 ∨ cnt = size) ∧ s_dgt (s_bt sz V q) = false))), q_mk (q_sI d' t_Re 0 5 ((if k = 0 then cnt else size : Nat) : Int)) b) := by
      refine e_Re_readSet_73 ⟨fun hh => no (fun hc => by omega), fun h0 => ⟨fun hh => no (fun hc => ?_), fun hh => ⟨_, _, kd, e_Re_readSet_84 ⟨fun hx => no (fun hc => ?_), fun hx => ?_⟩⟩⟩⟩
      · rw [eq5] at hh
        rcases hc.2.1 with hk0 | hcs
        · rw [if_pos hk0] at hh; exact hh rfl
        · by_cases hk0 : k = 0
          · rw [if_pos hk0] at hh; exact hh rfl
          · rw [if_neg hk0, hcs] at hh; exact hh rfl
      · rw [hc.2.2] at hx; exact hx rfl
      · rw [eq5] at hh
        rw [decide_eq_true ⟨by omega, by
          by_cases hk0 : k = 0
          · exact Or.inl hk0
          · rw [if_neg hk0] at hh; exact Or.inr (by omega), q_b2i_f hx⟩]
        exact e_Re_readSet_88 ⟨by decide, by decide, rfl⟩
    refine e_Re_readSet_67 ⟨fun hh => ?_, fun hh => ?_⟩
    · have hk0 : ¬ k = 0 := by omega
      rw [if_neg hk0] at k73 ⊢
      rw [s_sI_same o5] at k73 ⊢
      exact k73
    · have hk0 : k = 0 := by omega
      rw [if_pos hk0] at k73 ⊢
      exact k73
