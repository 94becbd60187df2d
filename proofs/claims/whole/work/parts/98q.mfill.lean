/-! reading a fill: the model whole -/
theorem s_rowsO_ltr {sz n fi q : Nat} {V : Nat → Int} (h : s_ltr (s_bt sz V q) = true) : ∀ (f i : Nat) (P G : Nat → Nat), s_rowsO sz V n fi f i P G q = .inl q ∨ ∃ P' G', s_rowsO sz V n fi f i P G q = .inr (P', G', q)
  | 0, i, P, G => Or.inr ⟨P, G, rfl⟩
  | f + 1, i, P, G => by
    have hb : 97 ≤ s_bt sz V q ∧ s_bt sz V q ≤ 122 := of_decide_eq_true h
    unfold s_rowsO
    by_cases hl : q_hl fi i = true
    · rw [if_pos hl]
      refine Or.inl ?_
      unfold s_oneRow
      rw [s_sk_n (by omega), if_neg (by omega)]
    · rw [if_neg hl]
      exact s_rowsO_ltr h f (i + 1) P G
theorem s_fillO_ltr {sz q : Nat} {V : Nat → Int} (h : s_ltr (s_bt sz V (s_path sz V 8 0 0 q).2.2) = true) : s_fillO sz V q = .inl (8 * (s_path sz V 8 0 0 q).2.2 + 1) := by
  unfold s_fillO
  generalize s_path sz V 8 0 0 q = o at *
  obtain ⟨n, fi, q'⟩ := o
  dsimp only at *
  have hb : 97 ≤ s_bt sz V q' ∧ s_bt sz V q' ≤ 122 := of_decide_eq_true h
  have hlt := s_bt_lt (V := V) (sz := sz) (p := q') (by omega)
  by_cases hc : 2 ≤ n ∧ s_pl (s_bt sz V q') = false
  · rw [if_pos hc]
    rcases s_rowsO_ltr (n := n) (fi := fi) h n 1 (fun _ => 0) (fun _ => 0) with hr | ⟨P', G', hr⟩
    · rw [hr]
    · rw [hr]
      dsimp only
      rw [s_sk_n (by omega), if_pos hlt]
  · rw [if_neg hc]
theorem c_Md_outGo {n fi : Nat} {P : Nat → Nat} (hn : n ≤ 8) (hfi : fi < 256) (hF : ∀ l w, 1 ≤ l → l ≤ n → s_exit n fi (s_nR fi n (fun i j => q_hl (P i) j)) (s_nC fi n (fun i j => q_hl (P i) j)) l w → s_fF n fi P l = s_exF n fi w) {b : Nat} : ∀ (f i : Nat) (d : qD), i + f = n + 1 → 1 ≤ i → d.1 t_Md 0 5 = (n : Int) → s_Bx n fi P d → (∀ k, 1 ≤ k → k < i → d.1 t_mReadF 0 k = (s_fF n fi P k : Int)) → ∃ d', q_Ev m_Md_readsFill 196 [q_r t_Md 0, q_i (fi : Int), none, q_i (i : Int), none] [] (q_mk d b) (q_i 1, q_mk d' b) ∧ s_mk d d' ∧ d'.1 t_Md 0 5 = (n : Int) ∧ s_row (d'.1 t_mReadF 0) n (s_fF n fi P)
  | 0, i, d, hf, h1, e5, eB, eF => ⟨d, e_Md_readsFill_196 ⟨fun _ => ⟨by decide, by decide, rfl⟩, fun hh => by rw [e5] at hh; omega⟩, s_mk_refl _, e5, fun k k1 k2 => eF k k1 (by omega)⟩
  | f + 1, i, d, hf, h1, e5, eB, eF => by
    obtain ⟨w, hw, v⟩ := c_Md_goesFrom hn hfi h1 (show i ≤ n by omega) (s_net_any n fi (fun i j => q_hl (P i) j)) (b := b) eB
    have hFw := hF i w h1 (by omega) hw
    unfold s_exF at hFw
    rw [← hFw, ← e5] at v
    have m1 : s_mk d (q_sI d t_mReadF 0 i (s_fF n fi P i : Int)) := s_mk_sI (by decide) (fun hh => absurd hh (by decide))
    obtain ⟨d', vv, a, r5, r⟩ := c_Md_outGo hn hfi hF (b := b) f (i + 1) (q_sI d t_mReadF 0 i (s_fF n fi P i : Int)) (by omega) (by omega) (by rw [q_sI_ne _ _ (by decide)]; exact e5) (fun i' j' a1 a2 a3 a4 => by rw [q_sI_ne _ _ (by decide)]; exact eB i' j' a1 a2 a3 a4) (fun k k1 k2 => by
      rw [q_sI_at]
      by_cases hk : k = i
      · rw [hk, q_up_at]
      · rw [q_up_ne _ _ hk]; exact eF k k1 (by omega))
    refine ⟨d', e_Md_readsFill_196 ⟨fun hh => by rw [e5] at hh; omega, fun _ => ⟨_, _, v, e_Md_readsFill_209 ⟨by omega, by omega, ?_⟩⟩⟩, s_mk_tr m1 a, r5, r⟩
    rw [Int.toNat_natCast, q_wS (by omega)]
    exact vv
theorem c_Md_readsFill {sz p0 : Nat} {V : Nat → Int} (hz : sz ≤ 160) (hV : ∀ k, 0 ≤ V k) (hp : p0 ≤ sz) {d : qD} {b : Nat} (e : s_mT sz V d) (e2 : d.1 t_Md 0 2 = (p0 : Int)) : ∃ d' v, q_Ev m_Md_readsFill 0 [q_r t_Md 0, none, none, none, none] [] (q_mk d b) (q_i v, q_mk d' b) ∧ s_mk d d' ∧ s_resM (s_fillO sz V (s_sk sz V p0)) d' v := by
  have nx := c_Md_next hz (b := b) (show p0 ≤ 1000 by omega) e e2
  have hq := s_sk_le (V := V) hp
  generalize s_sk sz V p0 = q at *
  have m0 : s_mk d (q_sI (q_sI d t_Md 0 2 (q : Int)) t_Md 0 5 0) := s_mk_tr (s_mk_sI (by decide) (fun _ => by omega)) (s_mk_sI (by decide) (fun _ => by omega))
  obtain ⟨d1, a1, r2, r5, k⟩ := c_Md_pathGo (V := V) hz (b := b) 8 0 0 q (q_sI (q_sI d t_Md 0 2 (q : Int)) t_Md 0 5 0) rfl (by decide) hq (s_mT_mk e m0) (by rw [q_sI_at, q_up_ne _ _ (by decide), q_sI_at, q_up_at]) (by rw [q_sI_at, q_up_at]; rfl)
  have go : ∀ r, q_Ev m_Md_readsFill 8 [q_r t_Md 0, q_i ((0 : Nat) : Int), none, none, none] [] (q_mk (q_sI (q_sI d t_Md 0 2 (q : Int)) t_Md 0 5 0) b) r → q_Ev m_Md_readsFill 0 [q_r t_Md 0, none, none, none, none] [] (q_mk d b) r := fun r h => e_Md_readsFill_0 ⟨_, _, nx, e_Md_readsFill_2 h⟩
  have mm1 := s_mk_tr m0 a1
  have bd := s_path_bd (sz := sz) (V := V) 8 0 0 q rfl (by decide) hq
  cases hlt : s_ltr (s_bt sz V (s_path sz V 8 0 0 q).2.2) with
  | true =>
    rw [s_fillO_ltr hlt]
    rw [hlt] at k
    generalize s_path sz V 8 0 0 q = o at *
    obtain ⟨n, fi, q'⟩ := o
    dsimp only at *
    have kf := c_Md_fails (p := q') (k := 1) (by omega) (by omega) (d := d1) (b := b)
    rw [← r2] at kf
    refine ⟨q_sI d1 t_Md 0 3 ((8 * q' + 1 : Nat) : Int), 0, go _ (k _ (fun hh => absurd hh (by decide)) (fun _ => e_Md_readsFill_30 ⟨_, _, kf, e_Md_readsFill_35 ⟨by decide, by decide, ?_⟩⟩)), s_mk_tr mm1 (s_mk_sI (by decide) (fun _ => by omega)), rfl, by rw [q_sI_at, q_up_at]⟩
    rfl
  | false =>
    have hpl : s_pl (s_bt sz V (s_path sz V 8 0 0 q).2.2) = false := Bool.eq_false_iff.mpr (fun hc => by
      rw [s_pl_ltr hc] at hlt
      exact absurd hlt (by decide))
    rw [hlt] at k
    unfold s_fillO
    generalize s_path sz V 8 0 0 q = o at *
    obtain ⟨n, fi, q'⟩ := o
    dsimp only at *
    have hn : n ≤ 8 := bd.1
    have hfi : fi < 256 := Nat.lt_of_lt_of_le bd.2.1 (s_p8 hn)
    have hq' : q' ≤ sz := bd.2.2.2
    have go13 : ∀ r, q_Ev m_Md_readsFill 13 [q_r t_Md 0, q_i (fi : Int), none, none, none] [.inl 0] (q_mk d1 b) r → q_Ev m_Md_readsFill 0 [q_r t_Md 0, none, none, none, none] [] (q_mk d b) r := fun r h => go r (k r (fun _ => h) (fun hh => absurd hh (by decide)))
    by_cases h2 : 2 ≤ n
    · rw [if_pos ⟨h2, hpl⟩]
      obtain ⟨d2, v2, a2, eB⟩ := c_Md_laysShape (fs := fi) (n := n) hn hfi (d := d1) (b := b)
      have m2 : s_mk d1 d2 := ⟨q_ag_up a2 (by decide), fun k _ _ _ => by rw [a2.1 t_Md (by decide)]⟩
      have mm2 := s_mk_tr mm1 m2
      have e22 : d2.1 t_Md 0 2 = (q' : Int) := by rw [a2.1 t_Md (by decide)]; exact r2
      have e52 : d2.1 t_Md 0 5 = (n : Int) := by rw [a2.1 t_Md (by decide)]; exact r5
      obtain ⟨d3, a3, hm⟩ := c_Md_rowsGo (V := V) hz hn hfi (b := b) n 1 q' (fun _ => 0) (fun _ => 0) (-1) none d2 (by omega) (Nat.le_refl 1) hq' (s_mT_mk e mm2) e22 e52 eB (fun h _ m _ hm => by
        rw [show q_hl 0 m = false from Nat.zero_testBit _] at hm
        exact absurd hm (by decide)) (fun _ _ => rfl) (fun _ => by show (0 : Nat) < 256; decide) rfl
      rw [← r5] at v2
      have go81 : ∀ r, q_Ev m_Md_readsFill 81 [q_r t_Md 0, q_i (fi : Int), q_i (-1), q_i ((1 : Nat) : Int), none] [] (q_mk d2 b) r → q_Ev m_Md_readsFill 0 [q_r t_Md 0, none, none, none, none] [] (q_mk d b) r := fun r h => go13 r (e_Md_readsFill_13 ⟨fun _ => ⟨fun _ => ⟨_, _, v2, e_Md_readsFill_77 h⟩, fun hh => by rw [r5] at hh; omega⟩, fun hh => absurd rfl hh⟩)
      have mm3 := s_mk_tr mm2 a3
      cases hro : s_rowsO sz V n fi n 1 (fun _ => 0) (fun _ => 0) q' with
      | inl q2 =>
        rw [hro] at hm
        exact ⟨d3, 0, go81 _ hm.2.1, mm3, rfl, hm.2.2⟩
      | inr o2 =>
        obtain ⟨P, G, q2⟩ := o2
        rw [hro] at hm
        obtain ⟨hq2, e23, e53, eB3, hPB, x2, hx, cont⟩ := hm
        dsimp only
        have nx3 := c_Md_next hz (b := b) (show q2 ≤ 1000 by omega) (s_mT_mk e mm3) e23
        have hs := s_sk_le (V := V) hq2
        have m4 : s_mk d (q_sI d3 t_Md 0 2 (s_sk sz V q2 : Int)) := s_mk_tr mm3 (s_mk_sI (by decide) (fun _ => by omega))
        have e24 : (q_sI d3 t_Md 0 2 (s_sk sz V q2 : Int)).1 t_Md 0 2 = (s_sk sz V q2 : Int) := by rw [q_sI_at, q_up_at]
        have e54 : (q_sI d3 t_Md 0 2 (s_sk sz V q2 : Int)).1 t_Md 0 5 = (n : Int) := by rw [q_sI_at, q_up_ne _ _ (by decide)]; exact e53
        by_cases hlt2 : s_sk sz V q2 < sz
        · rw [if_pos hlt2]
          have kf := c_Md_fails (p := s_sk sz V q2) (k := 1) (by omega) (by omega) (d := q_sI d3 t_Md 0 2 (s_sk sz V q2 : Int)) (b := b)
          rw [← e24] at kf
          have hne : s_bt sz V (s_sk sz V q2) ≠ -1 := by
            unfold s_bt
            rw [if_pos hlt2]
            have := hV (s_sk sz V q2)
            omega
          refine ⟨q_sI (q_sI d3 t_Md 0 2 (s_sk sz V q2 : Int)) t_Md 0 3 ((8 * s_sk sz V q2 + 1 : Nat) : Int), 0, go81 _ (cont _ _ _ nx3 (e_Md_readsFill_179 ⟨fun hh => absurd hh hne, fun _ => ⟨_, _, kf, e_Md_readsFill_186 ⟨by decide, by decide, ?_⟩⟩⟩)), s_mk_tr m4 (s_mk_sI (by decide) (fun _ => by omega)), rfl, by rw [q_sI_at, q_up_at]⟩
          rw [e24]
        · rw [if_neg hlt2]
          have hbt : s_bt sz V (s_sk sz V q2) = -1 := s_bt_no (by omega)
          rw [hbt] at nx3
          cases hle : s_leO n fi P G n 1 with
          | some c =>
            rw [hle] at hx
            obtain ⟨pc, hx1, hx2, hx3⟩ := hx
            subst hx1
            have kf := c_Md_fails (p := pc) (k := 3) hx3 (by omega) (d := q_sI d3 t_Md 0 2 (s_sk sz V q2 : Int)) (b := b)
            exact ⟨q_sI (q_sI d3 t_Md 0 2 (s_sk sz V q2 : Int)) t_Md 0 3 ((8 * pc + 3 : Nat) : Int), 0, go81 _ (cont _ _ _ nx3 (e_Md_readsFill_179 ⟨fun _ => ⟨fun hh => by omega, fun _ => ⟨_, _, kf, e_Md_readsFill_193 ⟨by decide, by decide, rfl⟩⟩⟩, fun hh => absurd rfl hh⟩)), s_mk_tr m4 (s_mk_sI (by decide) (fun _ => by omega)), rfl, by rw [q_sI_at, q_up_at, hx2]⟩
          | none =>
            rw [hle] at hx
            have hx1 : x2 = -1 := hx
            subst hx1
            have eB4 : s_Bx n fi P (q_sI d3 t_Md 0 2 (s_sk sz V q2 : Int)) := s_Bx_ag eB3
            have hF := s_fF_ok (P := P) (fs := fi) h2 hn (fun l l1 l2 => by
              obtain ⟨w, hw, _⟩ := c_Md_goesFrom hn hfi l1 l2 (s_net_any n fi (fun i j => q_hl (P i) j)) (b := b) eB4
              exact ⟨w, hw⟩)
            obtain ⟨d5, v5, a5, r55, rF⟩ := c_Md_outGo hn hfi hF.2 (b := b) n 1 (q_sI d3 t_Md 0 2 (s_sk sz V q2 : Int)) (by omega) (Nat.le_refl 1) e54 eB4 (fun k k1 k2 => by omega)
            exact ⟨d5, 1, go81 _ (cont _ _ _ nx3 (e_Md_readsFill_179 ⟨fun _ => ⟨fun _ => v5, fun hh => by omega⟩, fun hh => absurd rfl hh⟩)), s_mk_tr m4 a5, rfl, r55, rF⟩
    · rw [if_neg (fun hc => h2 hc.1)]
      have kf := c_Md_fails (p := q') (k := 1) (by omega) (by omega) (d := d1) (b := b)
      rw [← r2] at kf
      refine ⟨q_sI d1 t_Md 0 3 ((8 * q' + 1 : Nat) : Int), 0, go13 _ (e_Md_readsFill_13 ⟨fun _ => ⟨fun hh => by rw [r5] at hh; omega, fun _ => ⟨_, _, kf, e_Md_readsFill_71 ⟨by decide, by decide, ?_⟩⟩⟩, fun hh => absurd rfl hh⟩), s_mk_tr mm1 (s_mk_sI (by decide) (fun _ => by omega)), rfl, by rw [q_sI_at, q_up_at]⟩
      rfl
