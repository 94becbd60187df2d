/-! reading sets: the model's loops -/
theorem s_rset_ge {sz : Nat} {V : Nat → Int} {most : Nat} : ∀ (f cnt last set q : Nat) (o : Nat × Nat × Nat), s_rset sz V most f cnt last set q = .inr o → cnt ≤ o.2.1
  | 0, _, _, _, _, _, h => absurd h (by simp [s_rset])
  | f + 1, cnt, last, set, q, o, h => by
    unfold s_rset at h
    by_cases h1 : cnt < most ∧ s_dgt (s_bt sz V q) = true
    · rw [if_pos h1] at h
      by_cases h2 : (s_bt sz V q - 48).toNat ≤ last ∨ 8 < (s_bt sz V q - 48).toNat
      · rw [if_pos h2] at h; exact absurd h (by simp)
      · rw [if_neg h2] at h
        have := s_rset_ge f _ _ _ _ o h
        omega
    · rw [if_neg h1] at h
      injection h with h
      subst h
      exact Nat.le_refl _
theorem s_rset_pos {sz : Nat} {V : Nat → Int} {most p : Nat} (hm : 0 < most) (hd : s_dgt (s_bt sz V p) = true) (o : Nat × Nat × Nat) (h : s_rset sz V most 9 0 0 0 p = .inr o) : 0 < o.2.1 := by
  unfold s_rset at h
  rw [if_pos ⟨hm, hd⟩] at h
  by_cases h2 : (s_bt sz V p - 48).toNat ≤ 0 ∨ 8 < (s_bt sz V p - 48).toNat
  · rw [if_pos h2] at h; exact absurd h (by simp)
  · rw [if_neg h2] at h
    have := s_rset_ge 8 _ _ _ _ o h
    omega
theorem c_Md_setGo {sz k size : Nat} {V : Nat → Int} (hz : sz ≤ 160) (hk : k < 8) (hsz : size ≤ 8) {b : Nat} : ∀ (f cnt last set q : Nat) (d : qD), cnt + f = 9 → cnt ≤ (if k = 0 then 8 else size) → set < 256 → q ≤ sz → last ≤ 8 → cnt ≤ last → s_mT sz V d → d.1 t_Md 0 2 = (q : Int) → d.1 t_Md 0 5 = ((k + 1 : Nat) : Int) → d.1 t_mReadSet 0 (k + 1) = (set : Int) → ∃ d', s_mk d d' ∧ d'.1 t_Md 0 5 = ((k + 1 : Nat) : Int) ∧ d'.1 t_mPlaces 0 = d.1 t_mPlaces 0 ∧ (∀ j, j ≠ k + 1 → d'.1 t_mReadSet 0 j = d.1 t_mReadSet 0 j) ∧ match s_rset sz V (if k = 0 then 8 else size) f cnt last set q with
    | .inl q' => q_Ev m_Md_readsNeck 44 [q_r t_Md 0, q_i (size : Int), none, q_i (last : Int), q_i (cnt : Int), none] [] (q_mk d b) (q_i 0, q_mk d' b) ∧ d'.1 t_Md 0 3 = ((8 * q' + 1 : Nat) : Int)
    | .inr (set', cnt', q') => ((k = 0 ∨ cnt' = size) ∧ s_dgt (s_bt sz V q') = false → d'.1 t_Md 0 2 = (q' : Int) ∧ d'.1 t_mReadSet 0 (k + 1) = (set' : Int) ∧ ∀ r, q_Ev m_Md_readsNeck 114 [q_r t_Md 0, q_i ((if k = 0 then cnt' else size : Nat) : Int), none, none, none, none] [] (q_mk d' b) r → q_Ev m_Md_readsNeck 44 [q_r t_Md 0, q_i (size : Int), none, q_i (last : Int), q_i (cnt : Int), none] [] (q_mk d b) r) ∧ (¬ ((k = 0 ∨ cnt' = size) ∧ s_dgt (s_bt sz V q') = false) → q_Ev m_Md_readsNeck 44 [q_r t_Md 0, q_i (size : Int), none, q_i (last : Int), q_i (cnt : Int), none] [] (q_mk d b) (q_i 0, q_mk d' b) ∧ d'.1 t_Md 0 3 = ((8 * q' + 1 : Nat) : Int))
  | 0, cnt, last, set, q, d, hf, hc, _, _, _, _, _, _, _, _ => by
    exfalso
    split at hc <;> omega
  | f + 1, cnt, last, set, q, d, hf, hc, hs, hq, hl, hcl, e, e2, e5, eS => by
    unfold s_rset
    have kb := c_Md_byteAt (p := q) hz (b := b) e
    rw [← e2] at kb
    have kd := c_Md_isDigit (x := s_bt sz V q) (d := d) (b := b)
    have hkF : s_mk d (q_sI d t_Md 0 3 ((8 * q + 1 : Nat) : Int)) := s_mk_sI (by decide) (fun _ => Or.inr (Or.inl rfl))
    have hF3 : (q_sI d t_Md 0 3 ((8 * q + 1 : Nat) : Int)).1 t_Md 0 3 = ((8 * q + 1 : Nat) : Int) := by rw [q_sI_at, q_up_at]
    have hF5 : (q_sI d t_Md 0 3 ((8 * q + 1 : Nat) : Int)).1 t_Md 0 5 = ((k + 1 : Nat) : Int) := by rw [q_sI_at, q_up_ne _ _ (by decide)]; exact e5
    have hFP : (q_sI d t_Md 0 3 ((8 * q + 1 : Nat) : Int)).1 t_mPlaces 0 = d.1 t_mPlaces 0 := q_sI_ne _ _ (by decide)
    have hFS : ∀ j, j ≠ k + 1 → (q_sI d t_Md 0 3 ((8 * q + 1 : Nat) : Int)).1 t_mReadSet 0 j = d.1 t_mReadSet 0 j := fun j _ => by rw [q_sI_ne _ _ (by decide)]
    have fl : q_Ev m_Md_fails 0 [q_r t_Md 0, q_i 1, q_i (d.1 t_Md 0 2)] [] (q_mk d b) (q_i 0, q_mk (q_sI d t_Md 0 3 ((8 * q + 1 : Nat) : Int)) b) := by
      rw [e2]; exact c_Md_fails (k := 1) (by omega) (by omega)
    have f70 : q_Ev m_Md_readsNeck 70 [q_r t_Md 0, none, none, none, none, none] [] (q_mk d b) (q_i 0, q_mk (q_sI d t_Md 0 3 ((8 * q + 1 : Nat) : Int)) b) := e_Md_readsNeck_70 ⟨_, _, fl, e_Md_readsNeck_75 ⟨by decide, by decide, rfl⟩⟩
    by_cases h2 : s_dgt (s_bt sz V q) = true
    · have hd := s_dgt_of h2
      have hlt := s_dgt_lt h2
      rw [h2] at kd
      have ew : q_w (s_bt sz V q - 48) = (((s_bt sz V q - 48).toNat : Nat) : Int) := by rw [q_w_id (by omega) (by omega)]; omega
      have to54 : ∀ r, q_Ev m_Md_readsNeck 54 [q_r t_Md 0, q_i (size : Int), none, q_i (last : Int), q_i (cnt : Int), none] [.inl (s_bt sz V q)] (q_mk d b) r → q_Ev m_Md_readsNeck 44 [q_r t_Md 0, q_i (size : Int), none, q_i (last : Int), q_i (cnt : Int), none] [] (q_mk d b) r := fun r hr => e_Md_readsNeck_44 ⟨_, _, kb, e_Md_readsNeck_48 ⟨_, _, kd, e_Md_readsNeck_49 ⟨fun hh => absurd hh (by decide), fun _ => ⟨_, _, kb, hr⟩⟩⟩⟩
      generalize hlb : (s_bt sz V q - 48).toNat = lb at *
      by_cases h1 : cnt < (if k = 0 then 8 else size)
      · rw [if_pos ⟨h1, h2⟩]
        by_cases h3 : lb ≤ last ∨ 8 < lb
        · rw [if_pos h3]
          refine ⟨_, hkF, hF5, hFP, hFS, to54 _ (e_Md_readsNeck_54 ?_), hF3⟩
          rw [ew]
          exact ⟨fun _ => f70, fun hh => ⟨fun _ => f70, fun hh2 => by omega⟩⟩
        · rw [if_neg h3]
          have hsw := s_with_ltn (n := 8) hs (show 1 ≤ lb by omega) (show lb ≤ 8 by omega)
          have hk2 : s_mk d (q_sI (q_sI d t_mReadSet 0 (k + 1) (s_with set lb : Int)) t_Md 0 2 ((q + 1 : Nat) : Int)) := s_mk_tr (s_mk_sI (by decide) (fun hh => absurd hh (by decide))) (s_mk_sI (by decide) (fun _ => Or.inl rfl))
          obtain ⟨d', hk', o5, oP, oS, hmm⟩ := c_Md_setGo (V := V) hz hk hsz (b := b) f (cnt + 1) lb (s_with set lb) (q + 1) (q_sI (q_sI d t_mReadSet 0 (k + 1) (s_with set lb : Int)) t_Md 0 2 ((q + 1 : Nat) : Int)) (by omega) (by omega) hsw (by omega) (by omega) (by omega) (s_mT_mk e hk2) (by rw [q_sI_at, q_up_at]) (by rw [q_sI_at, q_up_ne _ _ (by decide), q_sI_ne _ _ (by decide)]; exact e5) (by rw [q_sI_ne _ _ (by decide), q_sI_at, q_up_at])
          have step : ∀ r, q_Ev m_Md_readsNeck 44 [q_r t_Md 0, q_i (size : Int), none, q_i (lb : Int), q_i ((cnt + 1 : Nat) : Int), none] [] (q_mk (q_sI (q_sI d t_mReadSet 0 (k + 1) (s_with set lb : Int)) t_Md 0 2 ((q + 1 : Nat) : Int)) b) r → q_Ev m_Md_readsNeck 44 [q_r t_Md 0, q_i (size : Int), none, q_i (last : Int), q_i (cnt : Int), none] [] (q_mk d b) r := by
            intro r hr
            have k76 : q_Ev m_Md_readsNeck 76 [q_r t_Md 0, q_i (size : Int), none, none, q_i (cnt : Int), q_i (lb : Int)] [] (q_mk d b) r := by
              refine e_Md_readsNeck_76 ?_
              rw [e5, Int.toNat_natCast, eS]
              refine ⟨by omega, by omega, _, _, c_Md_with hs (by omega) (by omega), e_Md_readsNeck_87 ⟨by omega, by omega, ?_⟩⟩
              rw [e2, q_wS (by omega), q_wS (by omega), Int.toNat_natCast]
              exact hr
            refine to54 r (e_Md_readsNeck_54 ?_)
            rw [ew]
            refine ⟨fun hh => by omega, fun _ => ⟨fun hh => by omega, fun _ => ⟨fun _ => k76, fun hh => ⟨fun _ => k76, fun hx => ?_⟩⟩⟩⟩
            rw [e5] at hh
            rw [if_neg (by omega)] at h1
            omega
          refine ⟨d', s_mk_tr hk2 hk', o5, by rw [oP, q_sI_ne _ _ (by decide), q_sI_ne _ _ (by decide)], fun j hj => by rw [oS j hj, q_sI_ne _ _ (by decide), q_sI_at, q_up_ne _ _ hj], ?_⟩
          cases hrs : s_rset sz V (if k = 0 then 8 else size) f (cnt + 1) lb (s_with set lb) (q + 1) with
          | inl q' => rw [hrs] at hmm; exact ⟨step _ hmm.1, hmm.2⟩
          | inr o =>
            obtain ⟨set', cnt', q'⟩ := o
            rw [hrs] at hmm
            exact ⟨fun hg => ⟨(hmm.1 hg).1, (hmm.1 hg).2.1, fun r hr => step r ((hmm.1 hg).2.2 r hr)⟩, fun hg => ⟨step _ (hmm.2 hg).1, (hmm.2 hg).2⟩⟩
      · rw [if_neg (fun hc => h1 hc.1)]
        refine ⟨_, hkF, hF5, hFP, hFS, fun hg => absurd hg.2 (by rw [h2]; decide), fun _ => ⟨to54 _ (e_Md_readsNeck_54 ?_), hF3⟩⟩
        rw [ew, e5]
        refine ⟨fun _ => f70, fun hh => ⟨fun _ => f70, fun hh2 => ⟨fun hh3 => ?_, fun hh3 => ⟨fun hh4 => ?_, fun _ => f70⟩⟩⟩⟩
        · exfalso
          have hk0 : k = 0 := by omega
          rw [if_pos hk0] at h1
          omega
        · exfalso
          rw [if_neg (by omega)] at h1 hc
          omega
    · have h0 := Bool.eq_false_iff.mpr h2
      rw [if_neg (fun hc => h2 hc.2)]
      rw [h0] at kd
      have to49 : ∀ r, q_Ev m_Md_readsNeck 49 [q_r t_Md 0, q_i (size : Int), none, q_i (last : Int), q_i (cnt : Int), none] [.inl 0] (q_mk d b) r → q_Ev m_Md_readsNeck 44 [q_r t_Md 0, q_i (size : Int), none, q_i (last : Int), q_i (cnt : Int), none] [] (q_mk d b) r := fun r hr => e_Md_readsNeck_44 ⟨_, _, kb, e_Md_readsNeck_48 ⟨_, _, kd, hr⟩⟩
      by_cases hg : k = 0 ∨ cnt = size
      · refine ⟨d, s_mk_refl d, e5, rfl, fun _ _ => rfl, fun _ => ⟨e2, eS, fun r hr => to49 r (e_Md_readsNeck_49 ⟨fun _ => ?_, fun hh => absurd rfl hh⟩)⟩, fun hn => absurd ⟨hg, h0⟩ hn⟩
        rw [e5]
        refine ⟨fun hh => ?_, fun hh => ?_⟩
        · rw [if_neg (by omega)] at hr
          exact ⟨fun _ => hr, fun hh2 => by omega⟩
        · rw [if_pos (by omega)] at hr
          exact hr
      · refine ⟨_, hkF, hF5, hFP, hFS, fun hn => absurd hn.1 hg, fun _ => ⟨to49 _ (e_Md_readsNeck_49 ⟨fun _ => ?_, fun hh => absurd rfl hh⟩), hF3⟩⟩
        rw [if_neg (by omega)] at hc
        rw [e5]
        exact ⟨fun _ => ⟨fun hh => by omega, fun _ => ⟨_, _, fl, e_Md_readsNeck_113 ⟨by decide, by decide, rfl⟩⟩⟩, fun hh => by omega⟩
