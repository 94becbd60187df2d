/-! reading numbers: the model -/
abbrev s_TQ : List Nat := [t_Md, t_mReadF, t_mPlaces, t_mReadSet, t_mBoxes]
def s_mk (d d' : qD) : Prop := q_ag s_TQ d d' ∧ ∀ k, k ≠ 2 → k ≠ 3 → k ≠ 5 → d'.1 t_Md 0 k = d.1 t_Md 0 k
theorem s_mk_refl (d : qD) : s_mk d d := ⟨q_ag_refl _ _, fun _ _ _ _ => rfl⟩
theorem s_mk_tr {d d' d'' : qD} (h : s_mk d d') (h2 : s_mk d' d'') : s_mk d d'' := ⟨q_ag_tr h.1 h2.1, fun k a b c => (h2.2 k a b c).trans (h.2 k a b c)⟩
theorem s_mk_sI {d : qD} {t i k : Nat} {v : Int} (ht : t ∈ s_TQ) (hk : t = t_Md → k = 2 ∨ k = 3 ∨ k = 5) : s_mk d (q_sI d t i k v) := by
  refine ⟨q_ag_sI ht, fun k' a b c => ?_⟩
  by_cases hq : t = t_Md ∧ i = 0
  · obtain ⟨rfl, rfl⟩ := hq
    rw [q_sI_at, q_up_ne _ _ (by have := hk rfl; omega)]
  · show (if t_Md = t ∧ 0 = i ∧ k' = k then v else d.1 t_Md 0 k') = _
    rw [if_neg (fun hc => hq ⟨hc.1.symm, hc.2.1.symm⟩)]
theorem s_mT_mk {sz : Nat} {V : Nat → Int} {d d' : qD} (e : s_mT sz V d) (h : s_mk d d') : s_mT sz V d' := ⟨by rw [h.2 1 (by decide) (by decide) (by decide)]; exact e.1, fun k hk => by rw [h.1.1 t_mTape (by decide)]; exact e.2 k hk⟩
theorem c_Md_fails {k p : Nat} (hp : p ≤ 1000) (hk : k ≤ 8) {d : qD} {b : Nat} : q_Ev m_Md_fails 0 [q_r t_Md 0, q_i (k : Int), q_i (p : Int)] [] (q_mk d b) (q_i 0, q_mk (q_sI d t_Md 0 3 ((8 * p + k : Nat) : Int)) b) := by
  refine e_Md_fails_0 ⟨by decide, by decide, ?_⟩
  rw [q_w_id (x := 8 * (p : Int)) (by omega) (by omega), q_w_id (by omega) (by omega)]
  have : 8 * (p : Int) + (k : Int) = ((8 * p + k : Nat) : Int) := by omega
  rw [this]
def s_resM (o : s_O) (d' : qD) (v : Int) : Prop := match o with
  | .inl c => v = 0 ∧ d'.1 t_Md 0 3 = (c : Int)
  | .inr (n, F) => v = 1 ∧ d'.1 t_Md 0 5 = (n : Int) ∧ s_row (d'.1 t_mReadF 0) n F
theorem c_Md_digits {sz p : Nat} {V : Nat → Int} (hz : sz ≤ 160) (hp : p < sz) {b : Nat} : ∀ (f m : Nat) (d : qD), sz - (p + m) = f → p + m ≤ sz → s_mT sz V d → d.1 t_Md 0 2 = ((p + m : Nat) : Int) → (∀ j, j < m → s_dgt (s_bt sz V (p + j)) = true) → ∃ M, m ≤ M ∧ p + M ≤ sz ∧ (∀ j, j < M → s_dgt (s_bt sz V (p + j)) = true) ∧ s_dgt (s_bt sz V (p + M)) = false ∧ ∀ r, q_Ev m_Md_readsPerm 17 [q_r t_Md 0, q_i (p : Int), q_i (s_nv sz V p (min M 3) : Int)] [.inl 0] (q_mk (q_sI d t_Md 0 2 ((p + M : Nat) : Int)) b) r → q_Ev m_Md_readsPerm 12 [q_r t_Md 0, q_i (p : Int), q_i (s_nv sz V p (min m 3) : Int)] [] (q_mk d b) r := by
  intro f
  induction f with
  | zero =>
    intro m d hf hm e e2 hd
    have h0 : s_dgt (s_bt sz V (p + m)) = false := by rw [s_bt_no (by omega)]; rfl
    refine ⟨m, Nat.le_refl _, hm, hd, h0, fun r hr => ?_⟩
    have k := c_Md_byteAt (p := p + m) hz (b := b) e
    rw [s_sI_same e2] at hr
    rw [← e2] at k
    have kd := c_Md_isDigit (x := s_bt sz V (p + m)) (d := d) (b := b)
    rw [h0] at kd
    exact e_Md_readsPerm_12 ⟨_, _, k, e_Md_readsPerm_16 ⟨_, _, kd, hr⟩⟩
  | succ f ih =>
    intro m d hf hm e e2 hd
    have k := c_Md_byteAt (p := p + m) hz (b := b) e
    rw [← e2] at k
    have kd := c_Md_isDigit (x := s_bt sz V (p + m)) (d := d) (b := b)
    by_cases h : s_dgt (s_bt sz V (p + m)) = true
    · rw [h] at kd
      obtain ⟨M, m1, m2, m3, m4, m5⟩ := ih (m + 1) (q_sI d t_Md 0 2 ((p + m + 1 : Nat) : Int)) (by omega) (by have := s_dgt_lt h; omega) (s_mT_mk e (s_mk_sI (by decide) (fun _ => Or.inl rfl))) (by rw [q_sI_at, q_up_at]; rfl) (fun j hj => by
        by_cases hq : j = m
        · subst hq; exact h
        · exact hd j (by omega))
      refine ⟨M, by omega, m2, m3, m4, fun r hr => ?_⟩
      rw [s_sI_twice] at m5
      have m6 := m5 r hr
      have hx := s_dgt_of h
      have es : ((p + m : Nat) : Int) - (p : Int) = (m : Int) := by omega
      refine e_Md_readsPerm_12 ⟨_, _, k, e_Md_readsPerm_16 ⟨_, _, kd, e_Md_readsPerm_17 ⟨fun hh => absurd hh (by decide), fun _ => ?_⟩⟩⟩
      rw [e2, es, q_w_id (x := (m : Int)) (by omega) (by omega)]
      refine ⟨fun h3 => e_Md_readsPerm_36 ?_, fun h3 => ?_⟩
      · rw [e2, q_wS (by omega)]
        rw [show min (m + 1) 3 = min m 3 by omega] at m6
        exact m6
      · have hv := (s_nv_le (sz := sz) (V := V) (p := p) m (by omega) hd).2.1 (by omega)
        have k2 := c_Md_byteAt (p := p + m) hz (b := b) e
        refine ⟨_, _, k2, e_Md_readsPerm_31 (e_Md_readsPerm_36 ?_)⟩
        have e1 : q_w (q_w (q_w (10 * (s_nv sz V p (min m 3) : Int)) + s_bt sz V (p + m)) - 48) = (s_nv sz V p (min (m + 1) 3) : Int) := by
          rw [show min m 3 = m by omega, show min (m + 1) 3 = m + 1 by omega]
          have : (s_nv sz V p (m + 1) : Int) = 10 * (s_nv sz V p m : Int) + (s_bt sz V (p + m) - 48) := by
            show ((10 * s_nv sz V p m + (s_bt sz V (p + m) - 48).toNat : Nat) : Int) = _
            omega
          rw [q_w_id (x := 10 * (s_nv sz V p m : Int)) (by omega) (by omega), q_w_id (x := 10 * (s_nv sz V p m : Int) + s_bt sz V (p + m)) (by omega) (by omega), q_w_id (by omega) (by omega), this]
          omega
        rw [e1, e2, q_wS (by omega)]
        exact m6
    · have h0 := Bool.eq_false_iff.mpr h
      refine ⟨m, Nat.le_refl _, hm, hd, h0, fun r hr => ?_⟩
      rw [s_sI_same e2] at hr
      rw [h0] at kd
      exact e_Md_readsPerm_12 ⟨_, _, k, e_Md_readsPerm_16 ⟨_, _, kd, hr⟩⟩
theorem s_nd_M {sz p M : Nat} {V : Nat → Int} (h : ∀ j, j < M → s_dgt (s_bt sz V (p + j)) = true) (h0 : s_dgt (s_bt sz V (p + M)) = false) : s_nd sz V p = min M 3 := by
  unfold s_nd
  by_cases m0 : M = 0
  · subst m0
    rw [Nat.add_zero] at h0
    rw [h0]; rfl
  · have h1 := h 0 (by omega)
    rw [Nat.add_zero] at h1
    rw [if_pos h1]
    by_cases m1 : M = 1
    · subst m1; rw [h0]; rfl
    · rw [if_pos (h 1 (by omega))]
      by_cases m2 : M = 2
      · subst m2; rw [h0]; rfl
      · rw [if_pos (h 2 (by omega))]; omega
theorem c_Md_numsGo {sz : Nat} {V : Nat → Int} (hz : sz ≤ 160) (hV : ∀ k, 0 ≤ V k) {b : Nat} : ∀ (f k p0 : Nat) (F G : Nat → Nat) (d : qD), k + f = 9 → k ≤ 8 → p0 ≤ 1000 → s_mT sz V d → d.1 t_Md 0 2 = (p0 : Int) → d.1 t_Md 0 5 = (k : Int) → s_row (d.1 t_mReadF 0) k F → s_row (d.1 t_mPlaces 0) k G → (∀ j, 1 ≤ j → j ≤ k → F j ≤ 999 ∧ G j ≤ sz) → ∃ d', s_mk d d' ∧ match s_rp sz V f k (s_sk sz V p0) F G with
    | .inl c => q_Ev m_Md_readsPerm 3 [q_r t_Md 0, none, none] [] (q_mk d b) (q_i 0, q_mk d' b) ∧ d'.1 t_Md 0 3 = (c : Int)
    | .inr (n, F', G') => 2 ≤ n ∧ n ≤ 8 ∧ d'.1 t_Md 0 5 = (n : Int) ∧ s_row (d'.1 t_mReadF 0) n F' ∧ s_row (d'.1 t_mPlaces 0) n G' ∧ (∀ j, 1 ≤ j → j ≤ n → F' j ≤ 999 ∧ G' j ≤ sz) ∧ ∀ r, q_Ev m_Md_readsPerm 94 [q_r t_Md 0, q_i 1, none] [] (q_mk d' b) r → q_Ev m_Md_readsPerm 3 [q_r t_Md 0, none, none] [] (q_mk d b) r
  | 0, k, p0, F, G, d, hf, hk, _, _, _, _, _, _, _ => by omega
  | f + 1, k, p0, F, G, d, hf, hk, hp, e, e2, e5, eF, eG, hB => by
    have nx := c_Md_next hz (b := b) hp e e2
    have hk1 : s_mk d (q_sI d t_Md 0 2 (s_sk sz V p0 : Int)) := s_mk_sI (by decide) (fun _ => Or.inl rfl)
    have e' := s_mT_mk e hk1
    have hle : s_sk sz V p0 ≤ 1000 := by
      by_cases hq : p0 ≤ sz
      · have := s_sk_le (V := V) hq; omega
      · rw [s_sk_n (by rw [s_bt_no (by omega)]; decide)]; exact hp
    have nx2 := c_Md_next hz (b := b) hle e' (by rw [q_sI_at, q_up_at])
    rw [s_sk_sk, s_sI_twice] at nx2
    have kd := c_Md_isDigit (x := s_bt sz V (s_sk sz V p0)) (d := q_sI d t_Md 0 2 (s_sk sz V p0 : Int)) (b := b)
    have e2' : (q_sI d t_Md 0 2 (s_sk sz V p0 : Int)).1 t_Md 0 2 = (s_sk sz V p0 : Int) := by rw [q_sI_at, q_up_at]
    have e5' : (q_sI d t_Md 0 2 (s_sk sz V p0 : Int)).1 t_Md 0 5 = (k : Int) := by rw [q_sI_at, q_up_ne _ _ (by decide)]; exact e5
    generalize hpp : s_sk sz V p0 = p at *
    have fl := c_Md_fails (k := 1) (p := p) hle (by omega) (d := q_sI d t_Md 0 2 (p : Int)) (b := b)
    have f86 : q_Ev m_Md_readsPerm 86 [q_r t_Md 0, none, none] [] (q_mk (q_sI d t_Md 0 2 (p : Int)) b) (q_i 0, q_mk (q_sI (q_sI d t_Md 0 2 (p : Int)) t_Md 0 3 ((8 * p + 1 : Nat) : Int)) b) := by
      refine e_Md_readsPerm_86 ?_
      rw [e2']
      exact ⟨_, _, fl, e_Md_readsPerm_91 ⟨by decide, by decide, rfl⟩⟩
    have hkF : s_mk d (q_sI (q_sI d t_Md 0 2 (p : Int)) t_Md 0 3 ((8 * p + 1 : Nat) : Int)) := s_mk_tr hk1 (s_mk_sI (by decide) (fun _ => Or.inr (Or.inl rfl)))
    have hF3 : (q_sI (q_sI d t_Md 0 2 (p : Int)) t_Md 0 3 ((8 * p + 1 : Nat) : Int)).1 t_Md 0 3 = ((8 * p + 1 : Nat) : Int) := by rw [q_sI_at, q_up_at]
    unfold s_rp
    by_cases hdg : s_dgt (s_bt sz V p) = true
    · have hps := s_dgt_lt hdg
      rw [if_neg (by omega)]
      rw [hdg] at kd
      obtain ⟨M, m1, m2, m3, m4, m5⟩ := c_Md_digits (V := V) hz hps (b := b) _ 0 (q_sI d t_Md 0 2 (p : Int)) rfl (by omega) e' (by rw [Nat.add_zero]; exact e2') (fun j hj => by omega)
      have hnd := s_nd_M m3 m4
      have hM : 1 ≤ M := by
        by_cases hq : M = 0
        · rw [hq, Nat.add_zero, hdg] at m4; exact absurd m4 (by decide)
        · omega
      rw [s_sI_twice] at m5
      have to12 : ∀ r, q_Ev m_Md_readsPerm 17 [q_r t_Md 0, q_i (p : Int), q_i (s_nv sz V p (min M 3) : Int)] [.inl 0] (q_mk (q_sI d t_Md 0 2 ((p + M : Nat) : Int)) b) r → q_Ev m_Md_readsPerm 3 [q_r t_Md 0, none, none] [] (q_mk d b) r := by
        intro r hr
        refine e_Md_readsPerm_3 ⟨_, _, nx, e_Md_readsPerm_5 ⟨_, _, kd, e_Md_readsPerm_6 ⟨fun hh => absurd hh (by decide), fun _ => ?_⟩⟩⟩
        rw [e2']
        exact m5 r hr
      have hk2 : s_mk d (q_sI d t_Md 0 2 ((p + M : Nat) : Int)) := s_mk_sI (by decide) (fun _ => Or.inl rfl)
      have eA : (q_sI d t_Md 0 2 ((p + M : Nat) : Int)).1 t_Md 0 2 = ((p + M : Nat) : Int) := by rw [q_sI_at, q_up_at]
      have eB : (q_sI d t_Md 0 2 ((p + M : Nat) : Int)).1 t_Md 0 5 = (k : Int) := by rw [q_sI_at, q_up_ne _ _ (by decide)]; exact e5
      have es : q_w (((p + M : Nat) : Int) - (p : Int)) = (M : Int) := by rw [q_w_id (by omega) (by omega)]; omega
      have f54 : q_Ev m_Md_readsPerm 54 [q_r t_Md 0, q_i (p : Int), none] [] (q_mk (q_sI d t_Md 0 2 ((p + M : Nat) : Int)) b) (q_i 0, q_mk (q_sI (q_sI d t_Md 0 2 ((p + M : Nat) : Int)) t_Md 0 3 ((8 * p + 1 : Nat) : Int)) b) := e_Md_readsPerm_54 ⟨_, _, c_Md_fails (k := 1) (p := p) hle (by omega), e_Md_readsPerm_58 ⟨by decide, by decide, rfl⟩⟩
      by_cases hbad : k = 8 ∨ s_nd sz V p = 0 ∨ s_nd sz V p = 3
      · rw [if_pos hbad]
        refine ⟨q_sI (q_sI d t_Md 0 2 ((p + M : Nat) : Int)) t_Md 0 3 ((8 * p + 1 : Nat) : Int), s_mk_tr hk2 (s_mk_sI (by decide) (fun _ => Or.inr (Or.inl rfl))), to12 _ (e_Md_readsPerm_17 ⟨fun _ => ?_, fun hh => absurd rfl hh⟩), by rw [q_sI_at, q_up_at]⟩
        rw [eA, es, eB]
        refine ⟨fun _ => f54, fun hh => ⟨fun hh2 => ?_, fun _ => f54⟩⟩
        exfalso
        omega
      · rw [if_neg hbad]
        have hM2 : M ≤ 2 := by omega
        rw [show s_nd sz V p = M by omega]
        have hvl := (s_nv_le (sz := sz) (V := V) (p := p) M (by omega) m3).1
        obtain ⟨d', hk', hm⟩ := c_Md_numsGo hz hV (b := b) f (k + 1) (p + M) (s_put F (k + 1) (s_nv sz V p M)) (s_put G (k + 1) p) (q_sI (q_sI (q_sI (q_sI d t_Md 0 2 ((p + M : Nat) : Int)) t_Md 0 5 ((k + 1 : Nat) : Int)) t_mReadF 0 (k + 1) (s_nv sz V p M : Int)) t_mPlaces 0 (k + 1) (p : Int)) (by omega) (by omega) (by omega) (s_mT_mk e (s_mk_tr hk2 (s_mk_tr (s_mk_sI (by decide) (fun _ => Or.inr (Or.inr rfl))) (s_mk_tr (s_mk_sI (by decide) (fun hh => absurd hh (by decide))) (s_mk_sI (by decide) (fun hh => absurd hh (by decide))))))) (by rw [q_sI_ne _ _ (by decide), q_sI_ne _ _ (by decide), q_sI_at, q_up_ne _ _ (by decide)]; exact eA) (by rw [q_sI_ne _ _ (by decide), q_sI_ne _ _ (by decide), q_sI_at, q_up_at]) (fun j j1 j2 => by
          rw [q_sI_ne _ _ (by decide), q_sI_at]
          unfold s_put
          by_cases hj : j = k + 1
          · rw [hj, q_up_at, if_pos rfl]
          · rw [q_up_ne _ _ hj, if_neg hj, q_sI_ne _ _ (by decide), q_sI_ne _ _ (by decide)]; exact eF j j1 (by omega)) (fun j j1 j2 => by
          rw [q_sI_at]
          unfold s_put
          by_cases hj : j = k + 1
          · rw [hj, q_up_at, if_pos rfl]
          · rw [q_up_ne _ _ hj, if_neg hj, q_sI_ne _ _ (by decide), q_sI_ne _ _ (by decide), q_sI_ne _ _ (by decide)]; exact eG j j1 (by omega)) (fun j j1 j2 => by
          unfold s_put
          by_cases hj : j = k + 1
          · rw [if_pos hj, if_pos hj]; exact ⟨hvl, by omega⟩
          · rw [if_neg hj, if_neg hj]; exact hB j j1 (by omega))
        have step : ∀ r, q_Ev m_Md_readsPerm 3 [q_r t_Md 0, none, none] [] (q_mk (q_sI (q_sI (q_sI (q_sI d t_Md 0 2 ((p + M : Nat) : Int)) t_Md 0 5 ((k + 1 : Nat) : Int)) t_mReadF 0 (k + 1) (s_nv sz V p M : Int)) t_mPlaces 0 (k + 1) (p : Int)) b) r → q_Ev m_Md_readsPerm 3 [q_r t_Md 0, none, none] [] (q_mk d b) r := by
          intro r hr
          refine to12 r (e_Md_readsPerm_17 ⟨fun _ => ?_, fun hh => absurd rfl hh⟩)
          rw [eA, es, eB]
          refine ⟨fun hh => by omega, fun _ => ⟨fun _ => ?_, fun hh => by omega⟩⟩
          rw [q_wS (by omega), Int.toNat_natCast, show min M 3 = M by omega]
          exact ⟨by omega, by omega, by omega, by omega, hr⟩
        refine ⟨d', s_mk_tr (s_mk_tr hk2 (s_mk_tr (s_mk_sI (by decide) (fun _ => Or.inr (Or.inr rfl))) (s_mk_tr (s_mk_sI (by decide) (fun hh => absurd hh (by decide))) (s_mk_sI (by decide) (fun hh => absurd hh (by decide)))))) hk', ?_⟩
        cases hrp : s_rp sz V f (k + 1) (s_sk sz V (p + M)) (s_put F (k + 1) (s_nv sz V p M)) (s_put G (k + 1) p) with
        | inl c => rw [hrp] at hm; exact ⟨step _ hm.1, hm.2⟩
        | inr o =>
          obtain ⟨n, F', G'⟩ := o
          rw [hrp] at hm
          exact ⟨hm.1, hm.2.1, hm.2.2.1, hm.2.2.2.1, hm.2.2.2.2.1, hm.2.2.2.2.2.1, fun r hr => step r (hm.2.2.2.2.2.2 r hr)⟩
    · have hd0 := Bool.eq_false_iff.mpr hdg
      rw [hd0] at kd
      have to80 : ∀ r, q_Ev m_Md_readsPerm 80 [q_r t_Md 0, none, none] [.inl (s_bt sz V p)] (q_mk (q_sI d t_Md 0 2 (p : Int)) b) r → q_Ev m_Md_readsPerm 3 [q_r t_Md 0, none, none] [] (q_mk d b) r := fun r hr => e_Md_readsPerm_3 ⟨_, _, nx, e_Md_readsPerm_5 ⟨_, _, kd, e_Md_readsPerm_6 ⟨fun _ => ⟨_, _, nx2, hr⟩, fun hh => absurd rfl hh⟩⟩⟩
      have hnd0 : s_nd sz V p = 0 := by unfold s_nd; rw [hd0]; rfl
      by_cases h1 : sz ≤ p
      · rw [if_pos h1]
        have hb : s_bt sz V p = -1 := s_bt_no h1
        by_cases h2 : k < 2
        · rw [if_pos h2]
          refine ⟨_, hkF, to80 _ (e_Md_readsPerm_80 ⟨fun hh => absurd hb hh, fun _ => ⟨fun hh => ?_, fun _ => f86⟩⟩), hF3⟩
          rw [e5'] at hh; omega
        · rw [if_neg h2]
          refine ⟨q_sI d t_Md 0 2 (p : Int), hk1, by omega, hk, e5', fun j j1 j2 => by rw [q_sI_ne _ _ (by decide)]; exact eF j j1 j2, fun j j1 j2 => by rw [q_sI_ne _ _ (by decide)]; exact eG j j1 j2, hB, fun r hr => to80 _ (e_Md_readsPerm_80 ⟨fun hh => absurd hb hh, fun _ => ⟨fun _ => hr, fun hh => ?_⟩⟩)⟩
          rw [e5'] at hh; omega
      · rw [if_neg h1, if_pos (Or.inr (Or.inl hnd0))]
        have hb : s_bt sz V p ≠ -1 := by
          unfold s_bt
          rw [if_pos (by omega)]
          have := hV p
          omega
        exact ⟨_, hkF, to80 _ (e_Md_readsPerm_80 ⟨fun _ => f86, fun hh => absurd hh hb⟩), hF3⟩
