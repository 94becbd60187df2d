/-! the class's past and shelves -/
abbrev s_H : Type := Nat × (Nat → Nat) × (Nat → Bool)
/-- one moment -/
def s_Mo (x : Nat) (h : s_H) (d : qD) : Prop := d.1 t_Mo x 2 = (h.1 : Int) ∧ s_row (d.1 t_moImg x) h.1 h.2.1 ∧ s_Co x h.2.2 d
theorem s_Mo_of {x : Nat} {h : s_H} {d d' : qD} (e : s_Mo x h d) (h1 : d'.1 t_Mo x = d.1 t_Mo x) (h2 : d'.1 t_moImg x = d.1 t_moImg x) (h3 : d'.1 t_Co x = d.1 t_Co x) (h4 : d'.1 t_coSets x = d.1 t_coSets x) : s_Mo x h d' := by
  unfold s_Mo at e ⊢
  rw [h1, h2]
  exact ⟨e.1, e.2.1, s_Co_of e.2.2 h3 h4⟩
/-- where the moment before so many lies -/
def s_ix (v k : Nat) : Nat := (v + 20 - k) % 20
def s_Pa (Hs : List s_H) (d : qD) : Prop := Hs.length ≤ 20 ∧ ∃ v : Nat, v < 20 ∧ d.1 t_Pa 0 1 = (v : Int) ∧ d.1 t_Pa 0 2 = (Hs.length : Int) ∧ ∀ (k : Nat) (h : s_H), Hs[k]? = some h → s_Mo (s_ix v k) h d
theorem s_Pa_of {Hs : List s_H} {d d' : qD} (e : s_Pa Hs d) (h1 : d'.1 t_Pa 0 = d.1 t_Pa 0) (h2 : ∀ x, x < 20 → d'.1 t_Mo x = d.1 t_Mo x ∧ d'.1 t_moImg x = d.1 t_moImg x ∧ d'.1 t_Co x = d.1 t_Co x ∧ d'.1 t_coSets x = d.1 t_coSets x) : s_Pa Hs d' := by
  obtain ⟨l, v, hv, e1, e2, e3⟩ := e
  refine ⟨l, v, hv, by rw [h1, e1], by rw [h1, e2], fun k h hk => ?_⟩
  have hx : s_ix v k < 20 := Nat.mod_lt _ (by decide)
  have := h2 _ hx
  exact s_Mo_of (e3 k h hk) this.1 this.2.1 this.2.2.1 this.2.2.2
theorem c_Pa_recCopy {n x w : Nat} {F : Nat → Nat} {c : Nat → Bool} (hn : n ≤ 8) (hwx : w ≠ x) (hL : (s_fl c).length ≤ 70) {b : Nat} : ∀ (f i : Nat) (d : qD), i + f = n → d.1 t_Ce 0 0 = (n : Int) → s_row (d.1 t_img 0) n F → s_Co w c d → (∀ k, 1 ≤ k → k ≤ i → d.1 t_moImg x k = (F k : Int)) → ∃ d', q_Ev m_Pa_record 34 [none, q_r t_Ce 0, q_r t_Co w, q_r t_Mo x, q_i ((i + 1 : Nat) : Int)] [] (q_mk d b) (none, q_mk d' b) ∧ q_ag [t_moImg, t_Co, t_coSets] d d' ∧ s_row (d'.1 t_moImg x) n F ∧ s_Co x c d' ∧ ∀ k', k' ≠ x → d'.1 t_moImg k' = d.1 t_moImg k' ∧ d'.1 t_Co k' = d.1 t_Co k' ∧ d'.1 t_coSets k' = d.1 t_coSets k'
  | 0, i, d, h, e0, eF, ec, eI => by
    have : i = n := by omega
    subst this
    obtain ⟨d', v, a, r, o⟩ := c_Co_copyFrom (k := x) (k2 := w) hwx hL (d := d) (b := b) ec
    refine ⟨d', e_Pa_record_34 ⟨fun _ => ⟨_, _, v, e_Pa_record_52 rfl⟩, fun h2 => ?_⟩, q_ag_up a (by decide), ?_, r, fun k' hk => ⟨?_, (o k' hk).2, (o k' hk).1⟩⟩
    · rw [e0] at h2; omega
    · rw [a.1 t_moImg (by decide)]; exact eI
    · rw [a.1 t_moImg (by decide)]
  | f + 1, i, d, h, e0, eF, ec, eI => by
    obtain ⟨d', v, a, r, rc, o⟩ := c_Pa_recCopy (x := x) hn hwx hL (b := b) f (i + 1) (q_sI d t_moImg x (i + 1) (F (i + 1) : Int)) (by omega) (by rw [q_sI_ne _ _ (by decide), e0]) (by rw [q_sI_ne _ _ (by decide)]; exact eF) (s_Co_of ec (q_sI_ne _ _ (by decide)) (q_sI_ne _ _ (by decide))) (by
      intro k h1 h2
      rw [q_sI_at]
      by_cases hq : k = i + 1
      · subst hq; rw [q_up_at]
      · rw [q_up_ne _ _ hq]; exact eI k h1 (by omega))
    refine ⟨d', e_Pa_record_34 ⟨fun h2 => ?_, fun _ => ⟨by omega, by omega, by omega, by omega, ?_⟩⟩, q_ag_tr (q_ag_sI (by decide)) a, r, rc, fun k' hk => ⟨?_, ?_, ?_⟩⟩
    · rw [e0] at h2; omega
    · rw [q_wS (by omega), Int.toNat_natCast, eF (i + 1) (by omega) (by omega)]; exact v
    · rw [(o k' hk).1, q_sI_ni _ _ hk]
    · rw [(o k' hk).2.1, q_sI_ne _ _ (by decide)]
    · rw [(o k' hk).2.2, q_sI_ne _ _ (by decide)]
theorem c_Pa_record {n w : Nat} {F : Nat → Nat} {c : Nat → Bool} {Hs : List s_H} (hn : n ≤ 8) (hw : 20 ≤ w) (hL : (s_fl c).length ≤ 70) {d : qD} {b : Nat} (e0 : d.1 t_Ce 0 0 = (n : Int)) (eF : s_row (d.1 t_img 0) n F) (ec : s_Co w c d) (eP : s_Pa Hs d) : ∃ d', q_Ev m_Pa_record 0 [q_r t_Pa 0, q_r t_Ce 0, q_r t_Co w, none, none] [] (q_mk d b) (none, q_mk d' b) ∧ q_ag [t_Pa, t_Mo, t_moImg, t_Co, t_coSets] d d' ∧ s_Pa ((n, F, c) :: Hs.take 19) d' ∧ ∀ k', 20 ≤ k' → d'.1 t_Co k' = d.1 t_Co k' ∧ d'.1 t_coSets k' = d.1 t_coSets k' := by
  obtain ⟨hl, v, hv, e1, e2, e3⟩ := eP
  have hv2 : (v + 1) % 20 < 20 := Nat.mod_lt _ (by decide)
  obtain ⟨d', vv, a, r, rc, o⟩ := c_Pa_recCopy (x := (v + 1) % 20) (w := w) hn (by omega) hL (b := b) n 0 (q_sI (q_sI (q_sI d t_Pa 0 1 (((v + 1) % 20 : Nat) : Int)) t_Pa 0 2 ((min (Hs.length + 1) 20 : Nat) : Int)) t_Mo ((v + 1) % 20) 2 (n : Int)) (by omega)
    (by rw [q_sI_ne _ _ (by decide), q_sI_ne _ _ (by decide), q_sI_ne _ _ (by decide), e0])
    (by rw [q_sI_ne _ _ (by decide), q_sI_ne _ _ (by decide), q_sI_ne _ _ (by decide)]; exact eF)
    (s_Co_of ec (by rw [q_sI_ne _ _ (by decide), q_sI_ne _ _ (by decide), q_sI_ne _ _ (by decide)]) (by rw [q_sI_ne _ _ (by decide), q_sI_ne _ _ (by decide), q_sI_ne _ _ (by decide)]))
    (fun k h1 h2 => by omega)
  have em : q_min (q_w ((Hs.length : Int) + 1)) 20 = ((min (Hs.length + 1) 20 : Nat) : Int) := by
    rw [q_wS (by omega)]
    unfold q_min
    by_cases hq : (20 : Int) < ((Hs.length + 1 : Nat) : Int)
    · rw [if_pos hq]; omega
    · rw [if_neg hq]; omega
  have k13 : q_Ev m_Pa_record 13 [q_r t_Pa 0, q_r t_Ce 0, q_r t_Co w, none, none] [.inl (((v + 1) % 20 : Nat) : Int), .inr (.inr (t_Pa, 0))] (q_mk d b) (none, q_mk d' b) := by
    refine e_Pa_record_13 ⟨by omega, by omega, ?_⟩
    rw [Int.toNat_natCast, e0, e2, em]
    exact vv
  refine ⟨d', e_Pa_record_0 ?_, ?_, ⟨?_, (v + 1) % 20, hv2, ?_, ?_, ?_⟩, fun k' hk => ⟨?_, ?_⟩⟩
  · rw [e1, q_wS (by omega)]
    refine ⟨fun h => ?_, fun h => ?_⟩
    · rw [show (v + 1) % 20 = 0 by omega] at k13; exact k13
    · rw [show (v + 1) % 20 = v + 1 by omega] at k13; exact k13
  · exact q_ag_tr (q_ag_sI (by decide)) (q_ag_tr (q_ag_sI (by decide)) (q_ag_tr (q_ag_sI (by decide)) (q_ag_up a (by decide))))
  · rw [List.length_cons, List.length_take]; omega
  · rw [a.1 t_Pa (by decide), q_sI_ne _ _ (by decide), q_sI_at, q_up_ne _ _ (by decide), q_sI_at, q_up_at]
  · rw [a.1 t_Pa (by decide), q_sI_ne _ _ (by decide), q_sI_at, q_up_at, List.length_cons, List.length_take]; omega
  · intro k h hk
    match k, hk with
    | 0, hk =>
      injection hk with hk
      subst hk
      have : s_ix ((v + 1) % 20) 0 = (v + 1) % 20 := by unfold s_ix; omega
      rw [this]
      refine ⟨?_, r, rc⟩
      rw [a.1 t_Mo (by decide), q_sI_at, q_up_at]
    | k + 1, hk =>
      rw [List.getElem?_cons_succ, List.getElem?_take] at hk
      by_cases hk19 : k < 19
      · rw [if_pos hk19] at hk
        have hix : s_ix ((v + 1) % 20) (k + 1) = s_ix v k := by unfold s_ix; omega
        have hne : s_ix v k ≠ (v + 1) % 20 := by unfold s_ix; omega
        rw [hix]
        refine s_Mo_of (e3 k h hk) ?_ ?_ ?_ ?_
        · rw [a.1 t_Mo (by decide), q_sI_ni _ _ hne, q_sI_ne _ _ (by decide), q_sI_ne _ _ (by decide)]
        · rw [(o _ hne).1, q_sI_ne _ _ (by decide), q_sI_ne _ _ (by decide), q_sI_ne _ _ (by decide)]
        · rw [(o _ hne).2.1, q_sI_ne _ _ (by decide), q_sI_ne _ _ (by decide), q_sI_ne _ _ (by decide)]
        · rw [(o _ hne).2.2, q_sI_ne _ _ (by decide), q_sI_ne _ _ (by decide), q_sI_ne _ _ (by decide)]
      · rw [if_neg hk19] at hk; cases hk
  · rw [(o k' (by omega)).2.1, q_sI_ne _ _ (by decide), q_sI_ne _ _ (by decide), q_sI_ne _ _ (by decide)]
  · rw [(o k' (by omega)).2.2, q_sI_ne _ _ (by decide), q_sI_ne _ _ (by decide), q_sI_ne _ _ (by decide)]
theorem c_Pa_takeLast {h : s_H} {Hs : List s_H} {d : qD} {b : Nat} (eP : s_Pa (h :: Hs) d) : ∃ (x : Nat) (d' : qD), x < 20 ∧ q_Ev m_Pa_takeLast 0 [q_r t_Pa 0, none] [] (q_mk d b) (q_r t_Mo x, q_mk d' b) ∧ q_ag [t_Pa] d d' ∧ s_Mo x h d' ∧ s_Pa Hs d' := by
  obtain ⟨hl, v, hv, e1, e2, e3⟩ := eP
  rw [List.length_cons] at hl
  have ec : q_w (((h :: Hs).length : Int) - 1) = (Hs.length : Int) := by rw [List.length_cons, q_w_id (by omega) (by omega)]; omega
  have hv0 : s_ix v 0 = v := by unfold s_ix; omega
  have e30 := e3 0 h rfl
  rw [hv0] at e30
  refine ⟨v, q_sI (q_sI d t_Pa 0 1 (((v + 19) % 20 : Nat) : Int)) t_Pa 0 2 (Hs.length : Int), hv, e_Pa_takeLast_0 ?_, q_ag_tr (q_ag_sI (by decide)) (q_ag_sI (by decide)), ?_, ⟨by omega, (v + 19) % 20, Nat.mod_lt _ (by decide), ?_, ?_, fun k g hk => ?_⟩⟩
  · rw [e1, Int.toNat_natCast]
    refine ⟨by omega, by omega, fun h2 => e_Pa_takeLast_16 ?_, fun h2 => e_Pa_takeLast_16 ?_⟩
    · rw [e2, ec, show (v + 19) % 20 = 19 by omega]; rfl
    · rw [e2, ec, show q_w ((v : Int) - 1) = (((v + 19) % 20 : Nat) : Int) by rw [q_w_id (by omega) (by omega)]; omega]
  · exact s_Mo_of e30 (by rw [q_sI_ne _ _ (by decide), q_sI_ne _ _ (by decide)]) (by rw [q_sI_ne _ _ (by decide), q_sI_ne _ _ (by decide)]) (by rw [q_sI_ne _ _ (by decide), q_sI_ne _ _ (by decide)]) (by rw [q_sI_ne _ _ (by decide), q_sI_ne _ _ (by decide)])
  · rw [q_sI_at, q_up_ne _ _ (by decide), q_sI_at, q_up_at]
  · rw [q_sI_at, q_up_at]
  · have hk2 : k < Hs.length := by
      by_cases hk2 : k < Hs.length
      · exact hk2
      · rw [List.getElem?_eq_none (by omega)] at hk; cases hk
    have := e3 (k + 1) g (by rw [List.getElem?_cons_succ]; exact hk)
    rw [show s_ix v (k + 1) = s_ix ((v + 19) % 20) k by unfold s_ix; omega] at this
    exact s_Mo_of this (by rw [q_sI_ne _ _ (by decide), q_sI_ne _ _ (by decide)]) (by rw [q_sI_ne _ _ (by decide), q_sI_ne _ _ (by decide)]) (by rw [q_sI_ne _ _ (by decide), q_sI_ne _ _ (by decide)]) (by rw [q_sI_ne _ _ (by decide), q_sI_ne _ _ (by decide)])
/-- one shelf: nothing at 0 -/
def s_Sh (x : Nat) (n : Nat) (F : Nat → Nat) (d : qD) : Prop := d.1 t_Sh x 0 = (n : Int) ∧ (0 < n → d.1 t_Sh x 1 = (q_pc (s_n1 n F n) : Int) ∧ d.1 t_Sh x 2 = ((s_basL n F 256).length : Int) ∧ s_lst (d.1 t_shBL x) (s_basL n F 256))
theorem s_Sh_of {x n : Nat} {F : Nat → Nat} {d d' : qD} (e : s_Sh x n F d) (h1 : d'.1 t_Sh x = d.1 t_Sh x) (h2 : d'.1 t_shBL x = d.1 t_shBL x) : s_Sh x n F d' := by
  unfold s_Sh at e ⊢
  rw [h1, h2]; exact e
theorem c_Sh_putGo {x : Nat} {L : List Nat} (hL : L.length ≤ 70) {b : Nat} : ∀ (f i : Nat) (d : qD), i + f = L.length → d.1 t_Sh x 2 = (L.length : Int) → s_lst (d.1 t_bl 0) L → (∀ j, j < i → d.1 t_shBL x j = ((L.getD j 0 : Nat) : Int)) → ∃ d', q_Ev m_Sh_put 14 [q_r t_Sh x, q_r t_Ce 0, q_i (i : Int)] [] (q_mk d b) (none, q_mk d' b) ∧ q_ag [t_shBL] d d' ∧ s_lst (d'.1 t_shBL x) L ∧ ∀ k', k' ≠ x → d'.1 t_shBL k' = d.1 t_shBL k'
  | 0, i, d, h, e2, eS, eL => ⟨d, e_Sh_put_14 ⟨fun _ => rfl, fun h2 => by omega⟩, q_ag_refl _ _, fun j hj => eL j (by omega), fun _ _ => rfl⟩
  | f + 1, i, d, h, e2, eS, eL => by
    obtain ⟨d', q1, q2, q3, q4⟩ := c_Sh_putGo hL (b := b) f (i + 1) (q_sI d t_shBL x i ((L.getD i 0 : Nat) : Int)) (by omega) (by rw [q_sI_ne _ _ (by decide), e2]) (by rw [q_sI_ne _ _ (by decide)]; exact eS) (by
      intro j hj
      rw [q_sI_at]
      by_cases hq : j = i
      · subst hq; rw [q_up_at]
      · rw [q_up_ne _ _ hq]; exact eL j (by omega))
    refine ⟨d', e_Sh_put_14 ⟨fun h2 => by omega, fun _ => ⟨by omega, by omega, by omega, by omega, ?_⟩⟩, q_ag_tr (q_ag_sI (by decide)) q2, q3, fun k' hk' => by rw [q4 k' hk', q_sI_ni _ _ hk']⟩
    rw [q_wS (by omega), Int.toNat_natCast, eS i (by omega)]
    exact q1
theorem c_Sh_put {x n : Nat} {F : Nat → Nat} {d : qD} {b : Nat} (e : s_Ce n F d) : ∃ d', q_Ev m_Sh_put 0 [q_r t_Sh x, q_r t_Ce 0, none] [] (q_mk d b) (none, q_mk d' b) ∧ q_ag [t_Sh, t_shBL] d d' ∧ s_Sh x n F d' ∧ ∀ k', k' ≠ x → d'.1 t_Sh k' = d.1 t_Sh k' ∧ d'.1 t_shBL k' = d.1 t_shBL k' := by
  obtain ⟨e0, e1, e2, e3, eF, eN, eL, eB, _⟩ := e
  have hl := s_basL_len n F 256 (Nat.le_refl _)
  obtain ⟨d', v, a, r, o⟩ := c_Sh_putGo (x := x) hl (b := b) (s_basL n F 256).length 0 (q_sI (q_sI (q_sI d t_Sh x 0 (n : Int)) t_Sh x 1 (q_pc (s_n1 n F n) : Int)) t_Sh x 2 ((s_basL n F 256).length : Int)) (by omega) (by rw [q_sI_at, q_up_at]) (by rw [q_sI_ne _ _ (by decide), q_sI_ne _ _ (by decide), q_sI_ne _ _ (by decide)]; exact eL) (fun j hj => by omega)
  have w : d'.1 t_Sh x = q_up (q_up (q_up (d.1 t_Sh x) 0 (n : Int)) 1 (q_pc (s_n1 n F n) : Int)) 2 ((s_basL n F 256).length : Int) := by rw [a.1 t_Sh (by decide), q_sI_at, q_sI_at, q_sI_at]
  refine ⟨d', e_Sh_put_0 ?_, q_ag_tr (q_ag_sI (by decide)) (q_ag_tr (q_ag_sI (by decide)) (q_ag_tr (q_ag_sI (by decide)) (q_ag_up a (by decide)))), ⟨?_, fun _ => ⟨?_, ?_, r⟩⟩, fun k' hk => ⟨?_, ?_⟩⟩
  · rw [e0, e1, e3]; exact v
  · rw [w, q_up_ne _ _ (by decide), q_up_ne _ _ (by decide), q_up_at]
  · rw [w, q_up_ne _ _ (by decide), q_up_at]
  · rw [w, q_up_at]
  · rw [a.1 t_Sh (by decide), q_sI_ni _ _ hk, q_sI_ni _ _ hk, q_sI_ni _ _ hk]
  · rw [o k' hk, q_sI_ne _ _ (by decide), q_sI_ne _ _ (by decide), q_sI_ne _ _ (by decide)]
theorem c_Sh_inGo {x n : Nat} {L : List Nat} {B : Nat → Bool} (hn : n ≤ 8) (h0 : 0 < n) (hL : L.length ≤ 70) (hB : ∀ s, B s = true → s < 2 ^ n) {d : qD} {b : Nat} (e0 : d.1 t_Ce 0 0 = (n : Int)) (eB : ∀ j, j < 256 → d.1 t_inB 0 j = q_b2i (B j)) (e2 : d.1 t_Sh x 2 = (L.length : Int)) (eL : s_lst (d.1 t_shBL x) L) : ∀ (R : List Nat) (i : Nat), L.drop i = R → i ≤ L.length → q_Ev m_Sh_isInClosureOf 14 [q_r t_Sh x, q_r t_Ce 0, q_i (i : Int)] [] (q_mk d b) (q_i (q_b2i (R.all B)), q_mk d b)
  | [], i, h, hi => by
    have := s_drop_nil h
    exact e_Sh_isInClosureOf_14 ⟨fun _ => ⟨by decide, by decide, rfl⟩, fun h2 => by omega⟩
  | s :: R, i, h, hi => by
    obtain ⟨h1, h2, h3⟩ := s_drop_cons h
    refine e_Sh_isInClosureOf_14 ⟨fun h2 => by omega, fun _ => ⟨by omega, by omega, ?_⟩⟩
    rw [Int.toNat_natCast, eL i h1, h2, List.all_cons]
    refine ⟨_, _, c_Ce_isBasis hn e0 eB, ?_⟩
    rw [s_isBx_nat h0 (hB s)]
    refine e_Sh_isInClosureOf_24 ⟨fun h4 => ?_, fun h4 => ?_⟩
    · rw [q_b2i_t h4, Bool.true_and, q_wS (by omega)]
      exact c_Sh_inGo hn h0 hL hB e0 eB e2 eL R (i + 1) h3 (by omega)
    · rw [q_b2i_f h4, Bool.false_and]; exact ⟨by decide, by decide, rfl⟩
theorem s_bas_lt {n : Nat} {F : Nat → Nat} : ∀ s, s_bas n F s = true → s < 2 ^ n := by
  intro s h
  unfold s_bas s_isSet at h
  rw [Bool.and_eq_true, Bool.and_eq_true, decide_eq_true_iff] at h
  omega
theorem s_bas_pc {n : Nat} {F : Nat → Nat} : ∀ s, s_bas n F s = true → q_pc s = q_pc (s_n1 n F n) := by
  intro s h
  unfold s_bas s_isSet at h
  simp only [Bool.and_eq_true, beq_iff_eq, Int.toNat_natCast] at h
  exact h.1.2
/-- what is kept lies in the closure of the cell -/
def s_clo (n : Nat) (F : Nat → Nat) (m : Nat) (G : Nat → Nat) : Bool := decide (m = n) && (decide (q_pc (s_n1 m G m) = q_pc (s_n1 n F n)) && (s_basL m G 256).all (s_bas n F))
theorem c_Sh_isIn {x n m : Nat} {F G : Nat → Nat} (hn : n ≤ 8) (hm : 0 < m) {d : qD} {b : Nat} (e : s_Ce n F d) (eS : s_Sh x m G d) : q_Ev m_Sh_isInClosureOf 0 [q_r t_Sh x, q_r t_Ce 0, none] [] (q_mk d b) (q_i (q_b2i (s_clo n F m G)), q_mk d b) := by
  obtain ⟨e0, e1, e2, e3, eF, eN, eL, eB, _⟩ := e
  obtain ⟨s0, s1⟩ := eS
  obtain ⟨s1, s2, sL⟩ := s1 hm
  have hl := s_basL_len m G 256 (Nat.le_refl _)
  unfold s_clo
  refine e_Sh_isInClosureOf_0 ?_
  rw [s0, e0, s1, e1]
  refine ⟨fun h => ?_, fun h => ⟨fun h2 => ?_, fun h2 => ?_⟩⟩
  · rw [decide_eq_false (by omega), Bool.false_and]; exact e_Sh_isInClosureOf_10 ⟨by decide, by decide, rfl⟩
  · have hmn : m = n := by omega
    subst hmn
    rw [decide_eq_true rfl, Bool.true_and, decide_eq_true (by omega), Bool.true_and]
    exact c_Sh_inGo hn hm hl s_bas_lt e0 eB s2 sL _ 0 rfl (by omega)
  · rw [decide_eq_true (show m = n by omega), Bool.true_and, decide_eq_false (by omega), Bool.false_and]; exact e_Sh_isInClosureOf_10 ⟨by decide, by decide, rfl⟩
