/-! reading sets: the model's loop over sets -/
theorem c_Md_setsGo {sz : Nat} {V : Nat → Int} (hz : sz ≤ 160) (hV : ∀ k, 0 ≤ V k) {b : Nat} : ∀ (f k p0 size : Nat) (S G : Nat → Nat) (d : qD), k + f = 9 → k ≤ 8 → p0 ≤ 1000 → size ≤ 8 → (k = 0 ∨ 1 ≤ size) → s_mT sz V d → d.1 t_Md 0 2 = (p0 : Int) → d.1 t_Md 0 5 = (k : Int) → s_row (d.1 t_mReadSet 0) k S → s_row (d.1 t_mPlaces 0) k G → (∀ j, 1 ≤ j → j ≤ k → S j < 256 ∧ G j ≤ sz) → ∃ d', s_mk d d' ∧ match s_rsets sz V f k (s_sk sz V p0) size S G with
    | .inl c => q_Ev m_Md_readsNeck 7 [q_r t_Md 0, q_i (size : Int), none, none, none, none] [] (q_mk d b) (q_i 0, q_mk d' b) ∧ d'.1 t_Md 0 3 = (c : Int)
    | .inr (n, S', G') => 2 ≤ n ∧ n ≤ 8 ∧ d'.1 t_Md 0 5 = (n : Int) ∧ s_row (d'.1 t_mReadSet 0) n S' ∧ s_row (d'.1 t_mPlaces 0) n G' ∧ (∀ j, 1 ≤ j → j ≤ n → S' j < 256 ∧ G' j ≤ sz) ∧ ∀ r v w2, q_Ev m_Md_isNeck 0 [q_r t_Md 0, none, none, none] [] (q_mk d' b) (v, w2) → q_Ev m_Md_readsNeck 131 [q_r t_Md 0, none, none, none, none, none] (v.toList ++ []) w2 r → q_Ev m_Md_readsNeck 7 [q_r t_Md 0, q_i (size : Int), none, none, none, none] [] (q_mk d b) r
  | 0, k, p0, size, S, G, d, hf, hk, _, _, _, _, _, _, _, _, _ => by omega
  | f + 1, k, p0, size, S, G, d, hf, hk, hp, hsz, hs1, e, e2, e5, eS, eG, hB => by
    have nx := c_Md_next hz (b := b) hp e e2
    have hk1 : s_mk d (q_sI d t_Md 0 2 (s_sk sz V p0 : Int)) := s_mk_sI (by decide) (fun _ => Or.inl rfl)
    have e' := s_mT_mk e hk1
    have hle : s_sk sz V p0 ≤ 1000 := by
      by_cases hq : p0 ≤ sz
      · have := s_sk_le (V := V) hq; omega
      · rw [s_sk_n (by rw [s_bt_no (by omega)]; decide)]; exact hp
    have nx2 := c_Md_next hz (b := b) hle e' (by rw [q_sI_at, q_up_at])
    rw [s_sk_sk, s_sI_twice] at nx2
    have kd := c_Md_isDigit (x := s_bt sz V (s_sk sz V p0)) (d := q_sI d t_Md 0 2 (s_sk sz V p0 : Int)) (b := b)
    have e2' : (q_sI d t_Md 0 2 (s_sk sz V p0 : Int)).1 t_Md 0 2 = (s_sk sz V p0 : Int) := by rw [q_sI_at, q_up_at]
    have e5' : (q_sI d t_Md 0 2 (s_sk sz V p0 : Int)).1 t_Md 0 5 = (k : Int) := by rw [q_sI_at, q_up_ne _ _ (by decide)]; exact e5
    generalize hpp : s_sk sz V p0 = p at *
    have fl := c_Md_fails (k := 1) (p := p) hle (by omega) (d := q_sI d t_Md 0 2 (p : Int)) (b := b)
    have fl' : q_Ev m_Md_fails 0 [q_r t_Md 0, q_i 1, q_i ((q_sI d t_Md 0 2 (p : Int)).1 t_Md 0 2)] [] (q_mk (q_sI d t_Md 0 2 (p : Int)) b) (q_i 0, q_mk (q_sI (q_sI d t_Md 0 2 (p : Int)) t_Md 0 3 ((8 * p + 1 : Nat) : Int)) b) := by
      rw [e2']; exact fl
    have hkF : s_mk d (q_sI (q_sI d t_Md 0 2 (p : Int)) t_Md 0 3 ((8 * p + 1 : Nat) : Int)) := s_mk_tr hk1 (s_mk_sI (by decide) (fun _ => Or.inr (Or.inl rfl)))
    have hF3 : (q_sI (q_sI d t_Md 0 2 (p : Int)) t_Md 0 3 ((8 * p + 1 : Nat) : Int)).1 t_Md 0 3 = ((8 * p + 1 : Nat) : Int) := by rw [q_sI_at, q_up_at]
    have f123 : q_Ev m_Md_readsNeck 123 [q_r t_Md 0, none, none, none, none, none] [] (q_mk (q_sI d t_Md 0 2 (p : Int)) b) (q_i 0, q_mk (q_sI (q_sI d t_Md 0 2 (p : Int)) t_Md 0 3 ((8 * p + 1 : Nat) : Int)) b) := e_Md_readsNeck_123 ⟨_, _, fl', e_Md_readsNeck_128 ⟨by decide, by decide, rfl⟩⟩
    unfold s_rsets
    by_cases hdg : s_dgt (s_bt sz V p) = true
    · have hps := s_dgt_lt hdg
      rw [if_neg (by omega)]
      rw [hdg] at kd
      have to10 : ∀ r, q_Ev m_Md_readsNeck 10 [q_r t_Md 0, q_i (size : Int), none, none, none, none] [.inl 1] (q_mk (q_sI d t_Md 0 2 (p : Int)) b) r → q_Ev m_Md_readsNeck 7 [q_r t_Md 0, q_i (size : Int), none, none, none, none] [] (q_mk d b) r := fun r hr => e_Md_readsNeck_7 ⟨_, _, nx, e_Md_readsNeck_9 ⟨_, _, kd, hr⟩⟩
      by_cases h8 : k = 8
      · rw [if_pos h8]
        refine ⟨_, hkF, to10 _ (e_Md_readsNeck_10 ⟨fun hh => absurd hh (by decide), fun _ => ⟨fun hh => ?_, fun _ => ⟨_, _, fl', e_Md_readsNeck_20 ⟨by decide, by decide, rfl⟩⟩⟩⟩), hF3⟩
        rw [e5'] at hh; omega
      · rw [if_neg h8]
        have hk3 : s_mk d (q_sI (q_sI (q_sI (q_sI d t_Md 0 2 (p : Int)) t_Md 0 5 ((k + 1 : Nat) : Int)) t_mPlaces 0 (k + 1) (p : Int)) t_mReadSet 0 (k + 1) 0) := s_mk_tr hk1 (s_mk_tr (s_mk_sI (by decide) (fun _ => Or.inr (Or.inr rfl))) (s_mk_tr (s_mk_sI (by decide) (fun hh => absurd hh (by decide))) (s_mk_sI (by decide) (fun hh => absurd hh (by decide)))))
        obtain ⟨d1, hk4, o5, oP, oS, hmm⟩ := c_Md_setGo (V := V) (k := k) (size := size) hz (by omega) hsz (b := b) 9 0 0 0 p (q_sI (q_sI (q_sI (q_sI d t_Md 0 2 (p : Int)) t_Md 0 5 ((k + 1 : Nat) : Int)) t_mPlaces 0 (k + 1) (p : Int)) t_mReadSet 0 (k + 1) 0) rfl (by omega) (by decide) (by omega) (by omega) (by omega) (s_mT_mk e hk3) (by rw [q_sI_ne _ _ (by decide), q_sI_ne _ _ (by decide), q_sI_at, q_up_ne _ _ (by decide)]; exact e2') (by rw [q_sI_ne _ _ (by decide), q_sI_ne _ _ (by decide), q_sI_at, q_up_at]) (by rw [q_sI_at, q_up_at]; rfl)
        have to44 : ∀ r, q_Ev m_Md_readsNeck 44 [q_r t_Md 0, q_i (size : Int), none, q_i 0, q_i 0, none] [] (q_mk (q_sI (q_sI (q_sI (q_sI d t_Md 0 2 (p : Int)) t_Md 0 5 ((k + 1 : Nat) : Int)) t_mPlaces 0 (k + 1) (p : Int)) t_mReadSet 0 (k + 1) 0) b) r → q_Ev m_Md_readsNeck 7 [q_r t_Md 0, q_i (size : Int), none, none, none, none] [] (q_mk d b) r := by
          intro r hr
          refine to10 r (e_Md_readsNeck_10 ⟨fun hh => absurd hh (by decide), fun _ => ⟨fun _ => ?_, fun hh => ?_⟩⟩)
          · rw [e5', e2', q_wS (by omega), Int.toNat_natCast]
            exact ⟨by omega, by omega, by omega, by omega, hr⟩
          · rw [e5'] at hh; omega
        have hk5 := s_mk_tr hk3 hk4
        have hm8 : (if k = 0 then 8 else size) ≤ 8 := by split <;> omega
        have hm0 : 0 < (if k = 0 then 8 else size) := by split <;> omega
        have bd := s_rset_bd (sz := sz) (V := V) hm8 9 0 0 0 p rfl (by omega) (by decide) (by omega)
        have ps := s_rset_pos (sz := sz) (V := V) hm0 hdg
        cases hrs : s_rset sz V (if k = 0 then 8 else size) 9 0 0 0 p with
        | inl q =>
          rw [hrs] at hmm
          exact ⟨d1, hk5, to44 _ hmm.1, hmm.2⟩
        | inr o =>
          obtain ⟨set, cnt, q⟩ := o
          rw [hrs] at hmm
          have hq := bd.2 _ hrs
          have hpos := ps _ hrs
          dsimp only at hq hpos ⊢
          by_cases hg : (k = 0 ∨ cnt = size) ∧ s_dgt (s_bt sz V q) = false
          · rw [if_pos ⟨hpos, hg⟩]
            obtain ⟨m1, m2, m3⟩ := hmm.1 hg
            have hsz2 : (if k = 0 then cnt else size) ≤ 8 := by split <;> omega
            have hs2 : 1 ≤ (if k = 0 then cnt else size) := by split <;> omega
            obtain ⟨d', hk', hm⟩ := c_Md_setsGo (V := V) hz hV (b := b) f (k + 1) q (if k = 0 then cnt else size) (s_put S (k + 1) set) (s_put G (k + 1) p) d1 (by omega) (by omega) (by omega) hsz2 (Or.inr hs2) (s_mT_mk e hk5) m1 o5 (fun j j1 j2 => by
              unfold s_put
              by_cases hj : j = k + 1
              · rw [if_pos hj, hj]; exact m2
              · rw [if_neg hj, oS j hj, q_sI_at, q_up_ne _ _ hj, q_sI_ne _ _ (by decide), q_sI_ne _ _ (by decide), q_sI_ne _ _ (by decide)]; exact eS j j1 (by omega)) (fun j j1 j2 => by
              rw [oP, q_sI_ne _ _ (by decide), q_sI_at]
              unfold s_put
              by_cases hj : j = k + 1
              · rw [if_pos hj, hj, q_up_at]
              · rw [if_neg hj, q_up_ne _ _ hj, q_sI_ne _ _ (by decide), q_sI_ne _ _ (by decide)]; exact eG j j1 (by omega)) (fun j j1 j2 => by
              unfold s_put
              by_cases hj : j = k + 1
              · rw [if_pos hj, if_pos hj]; exact ⟨hq.1, by omega⟩
              · rw [if_neg hj, if_neg hj]; exact hB j j1 (by omega))
            have step : ∀ r, q_Ev m_Md_readsNeck 7 [q_r t_Md 0, q_i ((if k = 0 then cnt else size : Nat) : Int), none, none, none, none] [] (q_mk d1 b) r → q_Ev m_Md_readsNeck 7 [q_r t_Md 0, q_i (size : Int), none, none, none, none] [] (q_mk d b) r := fun r hr => to44 r (m3 r (e_Md_readsNeck_114 hr))
            refine ⟨d', s_mk_tr hk5 hk', ?_⟩
            cases hrp : s_rsets sz V f (k + 1) (s_sk sz V q) (if k = 0 then cnt else size) (s_put S (k + 1) set) (s_put G (k + 1) p) with
            | inl c => rw [hrp] at hm; exact ⟨step _ hm.1, hm.2⟩
            | inr o =>
              obtain ⟨n, S', G'⟩ := o
              rw [hrp] at hm
              exact ⟨hm.1, hm.2.1, hm.2.2.1, hm.2.2.2.1, hm.2.2.2.2.1, hm.2.2.2.2.2.1, fun r v w2 v1 v2 => step r (hm.2.2.2.2.2.2 r v w2 v1 v2)⟩
          · rw [if_neg (fun hc => hg hc.2)]
            obtain ⟨m1, m2⟩ := hmm.2 hg
            exact ⟨d1, hk5, to44 _ m1, m2⟩
    · have hd0 := Bool.eq_false_iff.mpr hdg
      rw [hd0] at kd
      have to117 : ∀ r, q_Ev m_Md_readsNeck 117 [q_r t_Md 0, none, none, none, none, none] [.inl (s_bt sz V p)] (q_mk (q_sI d t_Md 0 2 (p : Int)) b) r → q_Ev m_Md_readsNeck 7 [q_r t_Md 0, q_i (size : Int), none, none, none, none] [] (q_mk d b) r := fun r hr => e_Md_readsNeck_7 ⟨_, _, nx, e_Md_readsNeck_9 ⟨_, _, kd, e_Md_readsNeck_10 ⟨fun _ => ⟨_, _, nx2, hr⟩, fun hh => absurd rfl hh⟩⟩⟩
      by_cases h1 : sz ≤ p
      · rw [if_pos h1]
        have hb : s_bt sz V p = -1 := s_bt_no h1
        by_cases h2 : k < 2
        · rw [if_pos h2]
          refine ⟨_, hkF, to117 _ (e_Md_readsNeck_117 ⟨fun hh => absurd hb hh, fun _ => ⟨fun hh => ?_, fun _ => f123⟩⟩), hF3⟩
          rw [e5'] at hh; omega
        · rw [if_neg h2]
          refine ⟨q_sI d t_Md 0 2 (p : Int), hk1, by omega, hk, e5', fun j j1 j2 => by rw [q_sI_ne _ _ (by decide)]; exact eS j j1 j2, fun j j1 j2 => by rw [q_sI_ne _ _ (by decide)]; exact eG j j1 j2, hB, fun r v w2 v1 v2 => to117 _ (e_Md_readsNeck_117 ⟨fun hh => absurd hb hh, fun _ => ⟨fun _ => ⟨_, _, v1, v2⟩, fun hh => ?_⟩⟩)⟩
          rw [e5'] at hh; omega
      · rw [if_neg h1]
        have hb : s_bt sz V p ≠ -1 := by
          unfold s_bt
          rw [if_pos (by omega)]
          have := hV p
          omega
        have fin : q_Ev m_Md_readsNeck 7 [q_r t_Md 0, q_i (size : Int), none, none, none, none] [] (q_mk d b) (q_i 0, q_mk (q_sI (q_sI d t_Md 0 2 (p : Int)) t_Md 0 3 ((8 * p + 1 : Nat) : Int)) b) := to117 _ (e_Md_readsNeck_117 ⟨fun _ => f123, fun hh => absurd hh hb⟩)
        by_cases h8 : k = 8
        · rw [if_pos h8]
          exact ⟨_, hkF, fin, hF3⟩
        · rw [if_neg h8]
          have hrs : s_rset sz V (if k = 0 then 8 else size) 9 0 0 0 p = .inr (0, 0, p) := by
            unfold s_rset
            rw [if_neg (fun hc => hdg hc.2)]
          rw [hrs]
          dsimp only
          rw [if_neg (fun hc => absurd hc.1 (by decide))]
          exact ⟨_, hkF, fin, hF3⟩
