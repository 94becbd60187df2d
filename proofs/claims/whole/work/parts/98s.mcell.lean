/-! cell: the model's word, both sides whole -/
theorem c_Md_wordIn {sz q w : Nat} {V : Nat → Int} (hz : sz ≤ 160) (hq : q ≤ 160) (hw : w < 3) {d : qD} {b : Nat} (e : s_mT sz V d) (e2 : d.1 t_Md 0 2 = (q : Int)) (eW : ∀ k, k < 12 → d.1 t_mWords 0 k = s_wrd k) {r : Option qV × qW} (k1 : s_w4 sz V q w = true → r = (q_i (w : Int), q_mk d b)) (k2 : s_w4 sz V q w = false → q_Ev m_Md_wordHere 43 [q_r t_Md 0, q_i (w : Int), none] [] (q_mk d b) r) : ∀ (f m : Nat), m + f = 4 → (∀ j, j < m → s_bt sz V (q + j) = s_wrd (4 * w + j)) → q_Ev m_Md_wordHere 10 [q_r t_Md 0, q_i (w : Int), q_i (m : Int)] [] (q_mk d b) r
  | 0, m, hm, hj => by
    have hm4 : m = 4 := by omega
    subst hm4
    have kb := c_Md_byteAt (p := q + 4) hz (b := b) e
    have w4 : q_w ((d.1 t_Md 0 2) + 4) = ((q + 4 : Nat) : Int) := by rw [e2, q_w_id (by omega) (by omega)]; omega
    have hs : s_w4 sz V q w = !s_ltr (s_bt sz V (q + 4)) := by
      unfold s_w4
      rw [s_all4_t hj, Bool.true_and]
    refine e_Md_wordHere_10 ⟨fun _ => e_Md_wordHere_30 ⟨fun hh => absurd rfl hh, fun _ => ?_⟩, fun hh => by omega⟩
    rw [w4]
    refine ⟨_, _, kb, e_Md_wordHere_39 ⟨_, _, c_Md_isLetter, e_Md_wordHere_40 ⟨fun hh => k2 ?_, fun hh => k1 ?_⟩⟩⟩
    · rw [hs, q_b2i_t hh]; rfl
    · rw [hs, q_b2i_f hh]; rfl
  | f + 1, m, hm, hj => by
    have kb := c_Md_byteAt (p := q + m) hz (b := b) e
    have wm : q_w ((d.1 t_Md 0 2) + (m : Int)) = ((q + m : Nat) : Int) := by rw [e2, q_w_id (by omega) (by omega)]; omega
    have wi : q_w (q_w (4 * (w : Int)) + (m : Int)) = ((4 * w + m : Nat) : Int) := by
      rw [show 4 * (w : Int) = ((4 * w : Nat) : Int) by omega, q_nn _ (by omega), q_w_id (by omega) (by omega)]; omega
    refine e_Md_wordHere_10 ⟨fun hh => by omega, fun _ => ?_⟩
    rw [wm]
    refine ⟨_, _, kb, e_Md_wordHere_19 ?_⟩
    rw [wi, Int.toNat_natCast, eW _ (by omega)]
    refine ⟨by omega, by omega, fun hh => e_Md_wordHere_30 ⟨fun _ => k2 ?_, fun h4 => by omega⟩, fun hh => ?_⟩
    · unfold s_w4
      rw [show (List.range 4).all (fun j => decide (s_bt sz V (q + j) = s_wrd (4 * w + j))) = false from Bool.eq_false_iff.mpr (fun hc => hh (s_all4 hc m (by omega))), Bool.false_and]
    · rw [q_wS (by omega)]
      refine c_Md_wordIn hz hq hw e e2 eW k1 k2 f (m + 1) (by omega) (fun j hjm => ?_)
      by_cases hjq : j = m
      · rw [hjq]; exact hh
      · exact hj j (by omega)
def s_wd (sz : Nat) (V : Nat → Int) (q : Nat) : Nat → Nat → Int
  | 0, _ => -1
  | f + 1, w => if s_w4 sz V q w = true then (w : Int) else s_wd sz V q f (w + 1)
theorem c_Md_wordGo {sz q : Nat} {V : Nat → Int} (hz : sz ≤ 160) (hq : q ≤ 160) {d : qD} {b : Nat} (e : s_mT sz V d) (e2 : d.1 t_Md 0 2 = (q : Int)) (eW : ∀ k, k < 12 → d.1 t_mWords 0 k = s_wrd k) : ∀ (f w : Nat), w + f = 3 → q_Ev m_Md_wordHere 5 [q_r t_Md 0, q_i (w : Int), none] [] (q_mk d b) (q_i (s_wd sz V q f w), q_mk d b)
  | 0, w, hw => e_Md_wordHere_5 ⟨fun _ => rfl, fun hh => by omega⟩
  | f + 1, w, hw => by
    refine e_Md_wordHere_5 ⟨fun hh => by omega, fun _ => c_Md_wordIn (w := w) hz hq (by omega) e e2 eW (fun hc => ?_) (fun hc => e_Md_wordHere_43 ?_) 4 0 rfl (fun j hj => by omega)⟩
    · unfold s_wd
      rw [if_pos hc]
    · unfold s_wd
      rw [if_neg (by rw [hc]; decide), q_wS (by omega)]
      exact c_Md_wordGo hz hq e e2 eW f (w + 1) (by omega)
theorem c_Md_wordHere {sz : Nat} {V : Nat → Int} (hz : sz ≤ 160) {d : qD} {b : Nat} (e : s_mT sz V d) (e2 : d.1 t_Md 0 2 = 0) (eW : ∀ k, k < 12 → d.1 t_mWords 0 k = s_wrd k) : q_Ev m_Md_wordHere 0 [q_r t_Md 0, none, none] [] (q_mk d b) (q_i (s_wd sz V (s_sk sz V 0) 3 0), q_mk (q_sI d t_Md 0 2 (s_sk sz V 0 : Int)) b) := by
  have nx := c_Md_next (p := 0) hz (b := b) (by omega) e (by rw [e2]; rfl)
  have hq := s_sk_le (V := V) (show 0 ≤ sz by omega)
  refine e_Md_wordHere_0 ⟨_, _, nx, e_Md_wordHere_2 (c_Md_wordGo hz (by omega) (s_mT_mk e (s_mk_sI (by decide) (fun _ => by omega))) (by rw [q_sI_at, q_up_at]) (fun k hk => by rw [q_sI_ne _ _ (by decide)]; exact eW k hk) 3 0 rfl)⟩
theorem s_w4_sz {sz q w : Nat} {V : Nat → Int} (hw : w < 3) (h : s_w4 sz V q w = true) : q + 4 ≤ sz := by
  unfold s_w4 at h
  rw [Bool.and_eq_true] at h
  have h1 : ∀ j, j < 4 → s_bt sz V (q + j) = s_wrd (4 * w + j) := s_all4 h.1
  have := s_bt_lt (V := V) (sz := sz) (p := q + 3) (by
    rw [h1 3 (by decide)]
    have hl := s_wrd_ltr (4 * w + 3)
    intro hc
    rw [hc] at hl
    exact absurd hl (by decide))
  omega
/-- the model reads a text: what stands behind the word, too -/
theorem c_Md_reads {sz : Nat} {V : Nat → Int} (hz : sz ≤ 160) (hV : ∀ k, 0 ≤ V k) {d : qD} {b : Nat} (e : s_mT sz V d) (eW : ∀ k, k < 12 → d.1 t_mWords 0 k = s_wrd k) : ∃ d' v, (∀ r, q_Ev m_Md_cell 17 [q_r t_Md 0, none, none, none] [.inl v] (q_mk d' b) r → q_Ev m_Md_cell 0 [q_r t_Md 0, none, none, none] [] (q_mk d b) r) ∧ s_mk d d' ∧ s_resM (s_cellO sz V) d' v := by
  have m0 : s_mk d (q_sI d t_Md 0 2 0) := s_mk_sI (by decide) (fun _ => by omega)
  have kw := c_Md_wordHere hz (b := b) (s_mT_mk e m0) (by rw [q_sI_at, q_up_at]) (fun k hk => by rw [q_sI_ne _ _ (by decide)]; exact eW k hk)
  rw [s_sI_twice] at kw
  have hq := s_sk_le (V := V) (show 0 ≤ sz by omega)
  unfold s_cellO
  generalize s_sk sz V 0 = q at *
  have m1 : s_mk d (q_sI d t_Md 0 2 (q : Int)) := s_mk_sI (by decide) (fun _ => by omega)
  have e21 : (q_sI d t_Md 0 2 (q : Int)).1 t_Md 0 2 = (q : Int) := by rw [q_sI_at, q_up_at]
  have w4 : q_w (((q_sI d t_Md 0 2 (q : Int)).1 t_Md 0 2) + 4) = ((q + 4 : Nat) : Int) := by rw [e21, q_w_id (by omega) (by omega)]; omega
  have m2 : s_mk d (q_sI d t_Md 0 2 ((q + 4 : Nat) : Int)) := s_mk_sI (by decide) (fun _ => by omega)
  have e22 : (q_sI d t_Md 0 2 ((q + 4 : Nat) : Int)).1 t_Md 0 2 = ((q + 4 : Nat) : Int) := by rw [q_sI_at, q_up_at]
  unfold s_wd at kw
  by_cases c0 : s_w4 sz V q 0 = true
  · rw [if_pos c0] at kw ⊢
    have hs := s_w4_sz (by decide) c0
    obtain ⟨d', v, vv, a, rs⟩ := c_Md_readsPerm hz hV (show q + 4 ≤ 1000 by omega) (b := b) (s_mT_mk e m2) e22
    have hv : 0 ≤ v ∧ v < 2 := by
      cases ho : s_perm sz V (s_sk sz V (q + 4)) with
      | inl c => rw [ho] at rs; have := rs.1; omega
      | inr o => rw [ho] at rs; have := rs.1; omega
    refine ⟨d', v, fun r h => e_Md_cell_0 ⟨_, _, kw, e_Md_cell_5 ⟨fun _ => ⟨q_i v, q_mk d' b, e_Md_readsRest_0 ⟨fun hh => absurd rfl hh, fun _ => ?_⟩, h⟩, fun hh => by omega⟩⟩, s_mk_tr m2 a, rs⟩
    rw [w4, s_sI_twice]
    exact ⟨_, _, vv, e_Md_readsRest_10 (e_Md_readsRest_19 ⟨hv.1, hv.2, rfl⟩)⟩
  · rw [if_neg c0] at kw ⊢
    unfold s_wd at kw
    by_cases c1 : s_w4 sz V q 1 = true
    · rw [if_pos c1] at kw ⊢
      have hs := s_w4_sz (by decide) c1
      obtain ⟨d', v, vv, a, rs⟩ := c_Md_readsFill hz hV hs (b := b) (s_mT_mk e m2) e22
      have hv : 0 ≤ v ∧ v < 2 := by
        cases ho : s_fillO sz V (s_sk sz V (q + 4)) with
        | inl c => rw [ho] at rs; have := rs.1; omega
        | inr o => rw [ho] at rs; have := rs.1; omega
      refine ⟨d', v, fun r h => e_Md_cell_0 ⟨_, _, kw, e_Md_cell_5 ⟨fun _ => ⟨q_i v, q_mk d' b, e_Md_readsRest_0 ⟨fun _ => ⟨fun hh => absurd rfl hh, fun _ => ?_⟩, fun hh => absurd hh (by decide)⟩, h⟩, fun hh => absurd hh (by decide)⟩⟩, s_mk_tr m2 a, rs⟩
      rw [w4, s_sI_twice]
      exact ⟨_, _, vv, e_Md_readsRest_16 (e_Md_readsRest_19 ⟨hv.1, hv.2, rfl⟩)⟩
    · rw [if_neg c1] at kw ⊢
      unfold s_wd at kw
      by_cases c2 : s_w4 sz V q 2 = true
      · rw [if_pos c2] at kw ⊢
        have hs := s_w4_sz (by decide) c2
        obtain ⟨d', v, vv, a, rs⟩ := c_Md_readsNeck hz hV (show q + 4 ≤ 1000 by omega) (b := b) (s_mT_mk e m2) e22
        have hv : 0 ≤ v ∧ v < 2 := by
          cases ho : s_neckO sz V (s_sk sz V (q + 4)) with
          | inl c => rw [ho] at rs; have := rs.1; omega
          | inr o => rw [ho] at rs; have := rs.1; omega
        refine ⟨d', v, fun r h => e_Md_cell_0 ⟨_, _, kw, e_Md_cell_5 ⟨fun _ => ⟨q_i v, q_mk d' b, e_Md_readsRest_0 ⟨fun _ => ⟨fun _ => ?_, fun hh => absurd hh (by decide)⟩, fun hh => absurd hh (by decide)⟩, h⟩, fun hh => absurd hh (by decide)⟩⟩, s_mk_tr m2 a, rs⟩
        rw [w4, s_sI_twice]
        exact ⟨_, _, vv, e_Md_readsRest_19 ⟨hv.1, hv.2, rfl⟩⟩
      · rw [if_neg c2] at kw ⊢
        unfold s_wd at kw
        have kf := c_Md_fails (p := q) (k := 1) (by omega) (by omega) (d := q_sI d t_Md 0 2 (q : Int)) (b := b)
        rw [← e21] at kf
        refine ⟨q_sI (q_sI d t_Md 0 2 (q : Int)) t_Md 0 3 ((8 * q + 1 : Nat) : Int), 0, fun r h => e_Md_cell_0 ⟨_, _, kw, e_Md_cell_5 ⟨fun hh => absurd hh (by decide), fun _ => ⟨_, _, kf, e_Md_cell_13 ?_⟩⟩⟩, s_mk_tr m1 (s_mk_sI (by decide) (fun _ => by omega)), rfl, by rw [q_sI_at, q_up_at]⟩
        rw [e21]
        exact h
