/-! the model's mirror and complement: new bases, the least from each label, the steps -/
theorem c_Md_leastIn {n i s : Nat} {G : Nat → Nat} (hn : n ≤ 8) (h1 : 1 ≤ i) (h2 : i ≤ n) (hs : s < 256) {d : qD} {b : Nat} (e0 : d.1 t_Md 0 10 = (n : Int)) (eN : ∀ j, j < 256 → d.1 t_mIsNew 0 j = q_b2i (s_bas n G j)) : ∀ (f o : Nat) (acc : Bool), o + f = 256 → ∃ bb : Bool, (bb = true ↔ (acc = true ∧ ∀ o', o ≤ o' → o' < 256 → s_bas n G o' = true → s_atLeast o' s i n = true)) ∧ ∀ r, q_Ev m_Md_leastFrom 37 [q_r t_Md 0, q_i (i : Int), q_i (s : Int), q_i (q_b2i bb), none] [] (q_mk d b) r → q_Ev m_Md_leastFrom 15 [q_r t_Md 0, q_i (i : Int), q_i (s : Int), q_i (q_b2i acc), q_i (o : Int)] [] (q_mk d b) r
  | 0, o, acc, h => by
    refine ⟨acc, ⟨fun hh => ⟨hh, fun o' p1 p2 => by omega⟩, fun hh => hh.1⟩, fun r hr => e_Md_leastFrom_15 ⟨fun _ => hr, fun hh => by omega⟩⟩
  | f + 1, o, acc, h => by
    cases acc with
    | false => exact ⟨false, ⟨fun hh => absurd hh (by decide), fun hh => absurd hh.1 (by decide)⟩, fun r hr => e_Md_leastFrom_15 ⟨fun _ => hr, fun _ => ⟨fun _ => hr, fun hh => absurd rfl hh⟩⟩⟩
    | true =>
      have ew : q_w ((o : Int) + 1) = ((o + 1 : Nat) : Int) := q_wS (by omega)
      by_cases hb : s_bas n G o = true
      · obtain ⟨bb, p, k⟩ := c_Md_leastIn hn h1 h2 hs (b := b) e0 eN f (o + 1) (s_atLeast o s i n) (by omega)
        refine ⟨bb, p.trans ⟨fun ⟨a1, a2⟩ => ⟨rfl, fun o' p1 p2 p3 => ?_⟩, fun ⟨_, a2⟩ => ⟨a2 o (Nat.le_refl _) (by omega) hb, fun o' p1 p2 p3 => a2 o' (by omega) p2 p3⟩⟩, fun r hr => ?_⟩
        · by_cases hq : o' = o
          · subst hq; exact a1
          · exact a2 o' (by omega) p2 p3
        · have go : ∀ z : Int, z = q_b2i (s_atLeast o s i n) → q_Ev m_Md_leastFrom 34 [q_r t_Md 0, q_i (i : Int), q_i (s : Int), none, q_i (o : Int)] [.inl z] (q_mk d b) r := by
            intro z hz
            subst hz
            refine e_Md_leastFrom_34 ?_
            rw [ew]
            exact k r hr
          refine e_Md_leastFrom_15 ⟨fun hh => by omega, fun _ => ⟨fun hh => absurd hh (by decide), fun _ => ⟨by omega, by omega, fun hh => ?_, fun _ => ⟨_, _, c_Md_isAtLeast (by omega) hs h1 h2 hn e0, e_Md_leastFrom_30 ⟨fun hh => ?_, fun hh => ?_⟩⟩⟩⟩⟩
          · rw [Int.toNat_natCast, eN o (by omega), hb] at hh
            exact absurd hh (by decide)
          · exact go 0 hh.symm
          · exact e_Md_leastFrom_31 (go 1 (by rw [q_b2i_t hh]; rfl))
      · obtain ⟨bb, p, k⟩ := c_Md_leastIn hn h1 h2 hs (b := b) e0 eN f (o + 1) true (by omega)
        refine ⟨bb, p.trans ⟨fun ⟨a1, a2⟩ => ⟨rfl, fun o' p1 p2 p3 => ?_⟩, fun ⟨_, a2⟩ => ⟨rfl, fun o' p1 p2 p3 => a2 o' (by omega) p2 p3⟩⟩, fun r hr => ?_⟩
        · by_cases hq : o' = o
          · subst hq; exact absurd p3 hb
          · exact a2 o' (by omega) p2 p3
        · refine e_Md_leastFrom_15 ⟨fun hh => by omega, fun _ => ⟨fun hh => absurd hh (by decide), fun _ => ⟨by omega, by omega, fun hh => e_Md_leastFrom_31 (e_Md_leastFrom_34 ?_), fun hh => ?_⟩⟩⟩
          · rw [ew]; exact k r hr
          · rw [Int.toNat_natCast, eN o (by omega), Bool.eq_false_iff.mpr hb] at hh
            exact absurd rfl hh
theorem s_nk_at {n i : Nat} {F : Nat → Nat} (hb : s_bd n F) (h1 : 1 ≤ i) (h2 : i ≤ n) : s_nk n F i < 2 ^ n := by
  have := s_nk_ltn hb (i - 1) (by omega)
  rwa [show i - 1 + 1 = i by omega] at this
theorem c_Md_leastFromGo {n i : Nat} {G : Nat → Nat} (h : s_ok n G) (h1 : 1 ≤ i) (h2 : i ≤ n) {d : qD} {b : Nat} (e0 : d.1 t_Md 0 10 = (n : Int)) (eN : ∀ j, j < 256 → d.1 t_mIsNew 0 j = q_b2i (s_bas n G j)) : ∀ (f s : Nat), s + f = s_nk n G i → q_Ev m_Md_leastFrom 2 [q_r t_Md 0, q_i (i : Int), q_i (s : Int), none, none] [] (q_mk d b) (q_i (s_nk n G i : Int), q_mk d b) := by
  have hn := h.2.1
  have hb := s_ok_bd h
  have hp := s_p8 hn
  have hlt := s_nk_at hb h1 h2
  intro f
  induction f with
  | zero =>
    intro s hs
    have hs' : s = s_nk n G i := by omega
    subst hs'
    obtain ⟨bb, p, k⟩ := c_Md_leastIn (s := s_nk n G i) hn h1 h2 (by omega) (b := b) e0 eN 256 0 true rfl
    have hbb : bb = true := p.mpr ⟨rfl, fun o' _ _ p3 => s_nk_least h h1 h2 p3⟩
    subst hbb
    refine e_Md_leastFrom_2 ⟨fun hh => by omega, fun _ => ⟨by omega, by omega, fun _ => k _ (e_Md_leastFrom_37 ⟨fun hh => absurd hh (by decide), fun _ => rfl⟩), fun hh => ?_⟩⟩
    rw [Int.toNat_natCast, eN _ (by omega), s_nk_bas h h1 h2] at hh
    exact absurd hh (by decide)
  | succ f ih =>
    intro s hs
    have nx : q_Ev m_Md_leastFrom 41 [q_r t_Md 0, q_i (i : Int), q_i (s : Int), none, none] [] (q_mk d b) (q_i (s_nk n G i : Int), q_mk d b) := by
      refine e_Md_leastFrom_41 ?_
      rw [q_wS (by omega)]
      exact ih (s + 1) (by omega)
    refine e_Md_leastFrom_2 ⟨fun hh => by omega, fun _ => ⟨by omega, by omega, fun hh => ?_, fun hh => nx⟩⟩
    rw [Int.toNat_natCast, eN _ (by omega)] at hh
    have hbs := q_b2i_t hh
    obtain ⟨bb, p, k⟩ := c_Md_leastIn (s := s) hn h1 h2 (by omega) (b := b) e0 eN 256 0 true rfl
    have hbb : bb = false := by
      refine Bool.eq_false_iff.mpr (fun hc => ?_)
      have := s_least_nk h h1 h2 hbs (fun o ho => (p.mp hc).2 o (by omega) (by have := s_bas_lt o ho; omega) ho)
      omega
    subst hbb
    exact k _ (e_Md_leastFrom_37 ⟨fun _ => nx, fun hh => absurd rfl hh⟩)
theorem c_Md_becomesNewA {n : Nat} {G : Nat → Nat} (h : s_ok n G) {b : Nat} : ∀ (f i : Nat) (d : qD), i + f = n + 1 → 1 ≤ i → d.1 t_Md 0 10 = (n : Int) → (∀ j, j < 256 → d.1 t_mIsNew 0 j = q_b2i (s_bas n G j)) → (∀ k, 1 ≤ k → k < i → d.1 t_mNewNeck 0 k = (s_nk n G k : Int)) → ∃ d', q_ag [t_mNewNeck] d d' ∧ s_row (d'.1 t_mNewNeck 0) n (s_nk n G) ∧ ∀ r, q_Ev m_Md_becomesNew 17 [q_r t_Md 0, q_i 1] [] (q_mk d' b) r → q_Ev m_Md_becomesNew 2 [q_r t_Md 0, q_i (i : Int)] [] (q_mk d b) r
  | 0, i, d, hf, h1, e0, eN, eK => by
    refine ⟨d, q_ag_refl _ _, fun k k1 k2 => eK k k1 (by omega), fun r hr => e_Md_becomesNew_2 ⟨fun _ => hr, fun hh => ?_⟩⟩
    rw [e0] at hh; omega
  | f + 1, i, d, hf, h1, e0, eN, eK => by
    have hn := h.2.1
    have v := c_Md_leastFromGo h h1 (by omega) (b := b) e0 eN (s_nk n G i) 0 (by omega)
    obtain ⟨d', a, r1, k⟩ := c_Md_becomesNewA h (b := b) f (i + 1) (q_sI d t_mNewNeck 0 i (s_nk n G i : Int)) (by omega) (by omega) (by rw [q_sI_ne _ _ (by decide)]; exact e0) (fun j hj => by rw [q_sI_ne _ _ (by decide)]; exact eN j hj) (fun k k1 k2 => by
      rw [q_sI_at]
      by_cases hq : k = i
      · subst hq; rw [q_up_at]
      · rw [q_up_ne _ _ hq]; exact eK k k1 (by omega))
    refine ⟨d', q_ag_tr (q_ag_sI (by decide)) a, r1, fun r hr => e_Md_becomesNew_2 ⟨fun hh => ?_, fun _ => ⟨_, _, e_Md_leastFrom_0 v, e_Md_becomesNew_12 ?_⟩⟩⟩
    · rw [e0] at hh; omega
    · rw [q_wS (by omega), Int.toNat_natCast]
      exact ⟨by omega, by omega, k r hr⟩
theorem c_Md_becomesNewB {n : Nat} {G : Nat → Nat} (h : s_ok n G) {b : Nat} : ∀ (f i : Nat) (d : qD), i + f = n + 1 → 1 ≤ i → d.1 t_Md 0 10 = (n : Int) → s_row (d.1 t_mNewNeck 0) n (s_nk n G) → (∀ k, 1 ≤ k → k < i → d.1 t_mF 0 k = (G k : Int)) → ∃ d', q_ag [t_mF] d d' ∧ s_row (d'.1 t_mF 0) n G ∧ ∀ r v w2, q_Ev m_Md_changes 0 [q_r t_Md 0] [] (q_mk d' b) (v, w2) → q_Ev m_Md_becomesNew 46 [none, none] (v.toList ++ []) w2 r → q_Ev m_Md_becomesNew 17 [q_r t_Md 0, q_i (i : Int)] [] (q_mk d b) r
  | 0, i, d, hf, h1, e0, eN, eK => by
    refine ⟨d, q_ag_refl _ _, fun k k1 k2 => eK k k1 (by omega), fun r v w2 v1 v2 => e_Md_becomesNew_17 ⟨fun _ => ⟨_, _, v1, v2⟩, fun hh => ?_⟩⟩
    rw [e0] at hh; omega
  | f + 1, i, d, hf, h1, e0, eN, eK => by
    have hn := h.2.1
    have h0 := h.1
    have hb := s_ok_bd h
    have hp := s_p8 hn
    obtain ⟨st1, st2⟩ := s_step_nk h h1 (by omega : i ≤ n)
    have hi := s_nk_at hb h1 (by omega : i ≤ n)
    have hm := Nat.mod_lt i (by omega : n > 0)
    have hi2 := s_nk_at (i := i % n + 1) hb (by omega) (by omega)
    obtain ⟨d', a, r1, k⟩ := c_Md_becomesNewB h (b := b) f (i + 1) (q_sI d t_mF 0 i (G i : Int)) (by omega) (by omega) (by rw [q_sI_ne _ _ (by decide)]; exact e0) (by rw [q_sI_ne _ _ (by decide)]; exact eN) (fun k k1 k2 => by
      rw [q_sI_at]
      by_cases hq : k = i
      · subst hq; rw [q_up_at]
      · rw [q_up_ne _ _ hq]; exact eK k k1 (by omega))
    refine ⟨d', q_ag_tr (q_ag_sI (by decide)) a, r1, fun r v w2 v1 v2 => e_Md_becomesNew_17 ⟨fun hh => ?_, fun _ => ?_⟩⟩
    · rw [e0] at hh; omega
    · have er : q_w (q_rem (i : Int) (n : Int) + 1) = ((i % n + 1 : Nat) : Int) := by
        rw [q_rem_s i (by omega) n (by omega) (by omega), q_wS (by omega)]
      rw [e0, er, Int.toNat_natCast, Int.toNat_natCast, eN i h1 (by omega), eN (i % n + 1) (by omega) (by omega)]
      refine ⟨by omega, by omega, by omega, by omega, by omega, _, _, c_Md_stepOf (by omega) (by omega) h1 (by omega) hn st2, e_Md_becomesNew_41 ?_⟩
      rw [st1, q_wS (by omega), Int.toNat_natCast]
      exact ⟨by omega, by omega, k r v w2 v1 v2⟩
theorem c_Md_becomesNew {A : s_A} {n : Nat} {G : Nat → Nat} (h : s_ok n G) {d : qD} {b : Nat} (eR : s_MR (A.1, A.2.1, A.2.1 :: A.2.2.1.take 19, A.2.2.2) d) (e0 : d.1 t_Md 0 10 = (n : Int)) (eN : ∀ j, j < 256 → d.1 t_mIsNew 0 j = q_b2i (s_bas n G j)) : ∃ d', q_Ev m_Md_becomesNew 0 [q_r t_Md 0, none] [] (q_mk d b) (none, q_mk d' b) ∧ q_ag [t_mNewNeck, t_mF, t_Md, t_mNeck, t_mIsB, t_mBoxes, t_mInC] d d' ∧ s_MD (s_bec A n G) d' := by
  obtain ⟨d1, a1, r1, k1⟩ := c_Md_becomesNewA h (b := b) n 1 d (by omega) (by omega) e0 eN (fun k _ _ => by omega)
  obtain ⟨d2, a2, r2, k2⟩ := c_Md_becomesNewB h (b := b) n 1 d1 (by omega) (by omega) (by rw [a1.1 t_Md (by decide)]; exact e0) r1 (fun k _ _ => by omega)
  obtain ⟨d3, v3, a3, r3⟩ := c_Md_becomes h (d := d2) (b := b) (s_MR_F (s_MR_F eR a1 (by decide)) a2 (by decide)) (by rw [a2.1 t_Md (by decide), a1.1 t_Md (by decide)]; exact e0) r2
  exact ⟨d3, e_Md_becomesNew_0 (k1 _ (k2 _ _ _ v3 (e_Md_becomesNew_46 rfl))), q_ag_tr (q_ag_up a1 (by decide)) (q_ag_tr (q_ag_up a2 (by decide)) (q_ag_up a3 (by decide))), r3⟩
theorem c_Md_mirrorGo {n s : Nat} (hn : n ≤ 8) (h0 : 0 < n) (hs : s < 256) {d : qD} {b : Nat} (e0 : d.1 t_Md 0 10 = (n : Int)) : ∀ (f i m : Nat), i + f = n + 1 → 1 ≤ i → m < 2 ^ n → (∀ l, 1 ≤ l → l ≤ n → q_hl m l = (decide (n + 1 - l < i) && q_hl s (n + 1 - l))) → ∃ M, M < 2 ^ n ∧ (∀ l, 1 ≤ l → l ≤ n → q_hl M l = q_hl s (n + 1 - l)) ∧ ∀ r, q_Ev m_Md_mirror 16 [q_r t_Md 0, q_i (s : Int), q_i (M : Int), q_i ((n + 1 : Nat) : Int)] [] (q_mk d b) r → q_Ev m_Md_mirror 16 [q_r t_Md 0, q_i (s : Int), q_i (m : Int), q_i (i : Int)] [] (q_mk d b) r
  | 0, i, m, hf, h1, hm, eM => by
    refine ⟨m, hm, fun l l1 l2 => ?_, fun r hr => ?_⟩
    · rw [eM l l1 l2, decide_eq_true (by omega), Bool.true_and]
    · rw [show i = n + 1 by omega]; exact hr
  | f + 1, i, m, hf, h1, hm, eM => by
    have hp := s_p8 hn
    have step : ∀ m2, m2 < 2 ^ n → (∀ l, 1 ≤ l → l ≤ n → q_hl m2 l = (decide (n + 1 - l < i + 1) && q_hl s (n + 1 - l))) → (∀ r, q_Ev m_Md_mirror 33 [q_r t_Md 0, q_i (s : Int), q_i (m2 : Int), q_i (i : Int)] [] (q_mk d b) r → q_Ev m_Md_mirror 16 [q_r t_Md 0, q_i (s : Int), q_i (m : Int), q_i (i : Int)] [] (q_mk d b) r) → ∃ M, M < 2 ^ n ∧ (∀ l, 1 ≤ l → l ≤ n → q_hl M l = q_hl s (n + 1 - l)) ∧ ∀ r, q_Ev m_Md_mirror 16 [q_r t_Md 0, q_i (s : Int), q_i (M : Int), q_i ((n + 1 : Nat) : Int)] [] (q_mk d b) r → q_Ev m_Md_mirror 16 [q_r t_Md 0, q_i (s : Int), q_i (m : Int), q_i (i : Int)] [] (q_mk d b) r := by
      intro m2 g1 g2 g3
      obtain ⟨M, q1, q2, q3⟩ := c_Md_mirrorGo hn h0 hs (b := b) e0 f (i + 1) m2 (by omega) (by omega) g1 g2
      refine ⟨M, q1, q2, fun r hr => g3 r (e_Md_mirror_33 ?_)⟩
      rw [q_wS (by omega)]
      exact q3 r hr
    by_cases hl : q_hl s i = true
    · refine step (s_with m (n + 1 - i)) (s_with_ltn hm (by omega) (by omega)) (fun l l1 l2 => ?_) (fun r hr => e_Md_mirror_16 ⟨fun hh => ?_, fun _ => ⟨_, _, c_Md_has (by omega) h1 (by omega), e_Md_mirror_23 ⟨fun hh => ?_, fun _ => ⟨q_i (s_with m (n + 1 - i) : Int), q_mk d b, ?_, e_Md_mirror_32 hr⟩⟩⟩⟩)
      · rw [s_with_hl (by omega) l1, eM l l1 l2]
        by_cases hq : l = n + 1 - i
        · subst hq
          rw [show n + 1 - (n + 1 - i) = i by omega, hl, decide_eq_true (by omega : i < i + 1)]
          simp
        · rw [decide_eq_false hq, Bool.or_false]
          by_cases hq2 : n + 1 - l < i
          · rw [decide_eq_true hq2, decide_eq_true (by omega)]
          · rw [decide_eq_false hq2, decide_eq_false (by omega)]
      · rw [e0] at hh; omega
      · rw [hl] at hh; exact absurd hh (by decide)
      · rw [e0, q_wS (by omega), q_wD (by omega) (by omega)]
        exact c_Md_with (by omega) (by omega) (by omega)
    · have hl' := Bool.eq_false_iff.mpr hl
      refine step m hm (fun l l1 l2 => ?_) (fun r hr => e_Md_mirror_16 ⟨fun hh => ?_, fun _ => ⟨_, _, c_Md_has (by omega) h1 (by omega), e_Md_mirror_23 ⟨fun hh => hr, fun hh => ?_⟩⟩⟩)
      · rw [eM l l1 l2]
        by_cases hq2 : n + 1 - l < i
        · rw [decide_eq_true hq2, decide_eq_true (by omega)]
        · rw [decide_eq_false hq2]
          by_cases hq3 : n + 1 - l = i
          · rw [hq3, hl', Bool.and_false, Bool.and_false]
          · rw [decide_eq_false (by omega)]
      · rw [e0] at hh; omega
      · rw [hl'] at hh; exact absurd rfl hh
theorem c_Md_mirrorAll {n : Nat} {F : Nat → Nat} (h : s_ok n F) {b : Nat} : ∀ (f s : Nat) (d : qD), s + f = 256 → d.1 t_Md 0 10 = (n : Int) → (∀ j, j < 256 → d.1 t_mIsB 0 j = q_b2i (s_bas n F j)) → (∀ j, j < s → d.1 t_mIsNew 0 j = q_b2i (s_bas n (s_mirF n F) j)) → ∃ d', q_ag [t_mIsNew] d d' ∧ (∀ j, j < 256 → d'.1 t_mIsNew 0 j = q_b2i (s_bas n (s_mirF n F) j)) ∧ ∀ r v w2, q_Ev m_Md_becomesNew 0 [q_r t_Md 0, none] [] (q_mk d' b) (v, w2) → q_Ev m_Md_mirror 57 [none, none, none, none] (v.toList ++ []) w2 r → q_Ev m_Md_mirror 9 [q_r t_Md 0, q_i (s : Int), none, none] [] (q_mk d b) r
  | 0, s, d, hf, e0, eB, eN => by
    refine ⟨d, q_ag_refl _ _, fun j hj => eN j (by omega), fun r v w2 v1 v2 => e_Md_mirror_9 ⟨fun _ => ⟨_, _, v1, v2⟩, fun hh => by omega⟩⟩
  | f + 1, s, d, hf, e0, eB, eN => by
    have hn := h.2.1
    have h0 := h.1
    have hp := s_p8 hn
    obtain ⟨M, m1, m2, m3⟩ := c_Md_mirrorGo (s := s) hn (by omega) (by omega) (b := b) e0 n 1 0 (by omega) (by omega) (Nat.two_pow_pos n) (fun l l1 l2 => by rw [decide_eq_false (by omega), Bool.false_and]; exact Nat.zero_testBit _)
    obtain ⟨d', a, r1, k⟩ := c_Md_mirrorAll h (b := b) f (s + 1) (q_sI d t_mIsNew 0 s (q_b2i (s_bas n (s_mirF n F) s))) (by omega) (by rw [q_sI_ne _ _ (by decide)]; exact e0) (fun j hj => by rw [q_sI_ne _ _ (by decide)]; exact eB j hj) (fun j hj => by
      rw [q_sI_at]
      by_cases hq : j = s
      · subst hq; rw [q_up_at]
      · rw [q_up_ne _ _ hq]; exact eN j (by omega))
    refine ⟨d', q_ag_tr (q_ag_sI (by decide)) a, r1, fun r v w2 v1 v2 => e_Md_mirror_9 ⟨fun hh => by omega, fun _ => m3 r ?_⟩⟩
    have fin : ∀ z : Int, z = q_b2i (s_bas n (s_mirF n F) s) → q_Ev m_Md_mirror 52 [q_r t_Md 0, q_i (s : Int), none, none] [.inl z, .inl (s : Int), .inr (.inr (t_mIsNew, 0))] (q_mk d b) r := by
      intro z hz
      subst hz
      refine e_Md_mirror_52 ⟨by omega, by omega, ?_⟩
      rw [q_nar3, Int.toNat_natCast, q_wS (by omega)]
      exact k r v w2 v1 v2
    have es : q_shl 1 (n : Int) = ((2 ^ n : Nat) : Int) := q_shl1 n (by omega)
    refine e_Md_mirror_16 ⟨fun _ => ?_, fun hh => by rw [e0] at hh; omega⟩
    rw [e0, es]
    refine ⟨fun hh => e_Md_mirror_51 (fin 0 ?_), fun hh => ⟨by omega, by omega, ?_⟩⟩
    · rw [show s_bas n (s_mirF n F) s = false from Bool.eq_false_iff.mpr (fun hc => by have := s_bas_lt s hc; omega)]; rfl
    · rw [Int.toNat_natCast, eB M (by omega), ← s_bas_mir h (by omega : s < 2 ^ n) m1 m2]
      refine ⟨fun hz => e_Md_mirror_51 (fin 0 hz.symm), fun hz => fin 1 ?_⟩
      rw [q_b2i_t hz]; rfl
theorem c_Md_mirror {A : s_A} (hv : s_val A) {d : qD} {b : Nat} (e : s_MD A d) : ∃ d', q_Ev m_Md_mirror 0 [q_r t_Md 0, none, none, none] [] (q_mk d b) (q_i (s_actA A s_mirF).1, q_mk d' b) ∧ q_ag (t_mIsNew :: t_mNewNeck :: s_TM) d d' ∧ s_MD (s_actA A s_mirF).2 d' := by
  have hb := (s_vC_bd hv.2.2.1.1).1
  have hn := hb.1
  have e0 := e.2.1
  unfold s_actA
  by_cases h0 : A.2.1.1 = 0
  · rw [if_pos h0]
    refine ⟨d, e_Md_mirror_0 ⟨_, _, c_Md_isCell e0, e_Md_mirror_2 ⟨fun h => ?_, fun _ => ⟨by decide, by decide, rfl⟩⟩⟩, q_ag_refl _ _, e⟩
    have := of_decide_eq_true (q_b2i_t h); omega
  rw [if_neg h0]
  have hok := s_vC_ok hv.2.2.1.1 h0
  obtain ⟨d2, v2, a2, g2, _, r2⟩ := c_Md_noted hv (d := d) (b := b) e
  have eB := (e.2.2.2.1 (by omega)).2.2.1
  obtain ⟨d3, a3, r3, k3⟩ := c_Md_mirrorAll hok (b := b) 256 0 d2 rfl (by rw [g2, e0]) (fun j hj => by rw [a2.1 t_mIsB (by decide)]; exact eB j hj) (fun j hj => by omega)
  obtain ⟨d4, v4, a4, r4⟩ := c_Md_becomesNew (s_mir_ok hok) (d := d3) (b := b) (s_MR_F r2 a3 (by decide)) (by rw [a3.1 t_Md (by decide), g2, e0]) r3
  refine ⟨d4, e_Md_mirror_0 ⟨_, _, c_Md_isCell e0, e_Md_mirror_2 ⟨fun _ => ⟨_, _, v2, e_Md_mirror_7 (k3 _ _ _ v4 (e_Md_mirror_57 ⟨by decide, by decide, rfl⟩))⟩, fun h => ?_⟩⟩, q_ag_tr (q_ag_up a2 (by decide)) (q_ag_tr (q_ag_up a3 (by decide)) (q_ag_up a4 (by decide))), r4⟩
  have := of_decide_eq_false (q_b2i_f h); omega
theorem s_comp : ∀ n : Nat, n < 9 → ∀ s : Nat, s < 2 ^ n → q_and (q_w (q_shl 1 (n : Int) - 1)) (q_xor (s : Int) (-1)) = ((2 ^ n - 1 - s : Nat) : Int) := by decide +kernel
theorem s_comp_hl : ∀ n : Nat, n < 9 → ∀ s : Nat, s < 2 ^ n → ∀ l : Nat, l < 9 → 1 ≤ l → l ≤ n → q_hl (2 ^ n - 1 - s) l = !q_hl s l := by decide +kernel
theorem c_Md_complementAll {n : Nat} {F : Nat → Nat} (h : s_ok n F) {b : Nat} : ∀ (f s : Nat) (d : qD), s + f = 256 → d.1 t_Md 0 10 = (n : Int) → (∀ j, j < 256 → d.1 t_mIsB 0 j = q_b2i (s_bas n F j)) → (∀ j, j < s → d.1 t_mIsNew 0 j = q_b2i (s_bas n (s_comF n F) j)) → ∃ d', q_ag [t_mIsNew] d d' ∧ (∀ j, j < 256 → d'.1 t_mIsNew 0 j = q_b2i (s_bas n (s_comF n F) j)) ∧ ∀ r v w2, q_Ev m_Md_becomesNew 0 [q_r t_Md 0, none] [] (q_mk d' b) (v, w2) → q_Ev m_Md_complement 43 [none, none] (v.toList ++ []) w2 r → q_Ev m_Md_complement 9 [q_r t_Md 0, q_i (s : Int)] [] (q_mk d b) r
  | 0, s, d, hf, e0, eB, eN => by
    refine ⟨d, q_ag_refl _ _, fun j hj => eN j (by omega), fun r v w2 v1 v2 => e_Md_complement_9 ⟨fun _ => ⟨_, _, v1, v2⟩, fun hh => by omega⟩⟩
  | f + 1, s, d, hf, e0, eB, eN => by
    have hn := h.2.1
    have h0 := h.1
    have hp := s_p8 hn
    obtain ⟨d', a, r1, k⟩ := c_Md_complementAll h (b := b) f (s + 1) (q_sI d t_mIsNew 0 s (q_b2i (s_bas n (s_comF n F) s))) (by omega) (by rw [q_sI_ne _ _ (by decide)]; exact e0) (fun j hj => by rw [q_sI_ne _ _ (by decide)]; exact eB j hj) (fun j hj => by
      rw [q_sI_at]
      by_cases hq : j = s
      · subst hq; rw [q_up_at]
      · rw [q_up_ne _ _ hq]; exact eN j (by omega))
    refine ⟨d', q_ag_tr (q_ag_sI (by decide)) a, r1, fun r v w2 v1 v2 => e_Md_complement_9 ⟨fun hh => by omega, fun _ => ?_⟩⟩
    have fin : ∀ z : Int, z = q_b2i (s_bas n (s_comF n F) s) → q_Ev m_Md_complement 38 [q_r t_Md 0, q_i (s : Int)] [.inl z, .inl (s : Int), .inr (.inr (t_mIsNew, 0))] (q_mk d b) r := by
      intro z hz
      subst hz
      refine e_Md_complement_38 ⟨by omega, by omega, ?_⟩
      rw [q_nar3, Int.toNat_natCast, q_wS (by omega)]
      exact k r v w2 v1 v2
    have es : q_shl 1 (n : Int) = ((2 ^ n : Nat) : Int) := q_shl1 n (by omega)
    refine ⟨fun hh => e_Md_complement_37 (fin 0 ?_), fun hh => ?_⟩
    · rw [e0, es] at hh
      rw [show s_bas n (s_comF n F) s = false from Bool.eq_false_iff.mpr (fun hc => by have := s_bas_lt s hc; omega)]; rfl
    · rw [e0, es] at hh
      rw [e0, s_comp n (by omega) s (by omega), Int.toNat_natCast, eB _ (by omega), ← s_bas_com h (S := s) (by omega : s < 2 ^ n) (by omega) (fun l l1 l2 => s_comp_hl n (by omega) s (by omega) l (by omega) l1 l2)]
      refine ⟨by omega, by omega, fun hz => e_Md_complement_37 (fin 0 hz.symm), fun hz => fin 1 ?_⟩
      rw [q_b2i_t hz]; rfl
theorem c_Md_complement {A : s_A} (hv : s_val A) {d : qD} {b : Nat} (e : s_MD A d) : ∃ d', q_Ev m_Md_complement 0 [q_r t_Md 0, none] [] (q_mk d b) (q_i (s_actA A s_comF).1, q_mk d' b) ∧ q_ag (t_mIsNew :: t_mNewNeck :: s_TM) d d' ∧ s_MD (s_actA A s_comF).2 d' := by
  have hb := (s_vC_bd hv.2.2.1.1).1
  have hn := hb.1
  have e0 := e.2.1
  unfold s_actA
  by_cases h0 : A.2.1.1 = 0
  · rw [if_pos h0]
    refine ⟨d, e_Md_complement_0 ⟨_, _, c_Md_isCell e0, e_Md_complement_2 ⟨fun h => ?_, fun _ => ⟨by decide, by decide, rfl⟩⟩⟩, q_ag_refl _ _, e⟩
    have := of_decide_eq_true (q_b2i_t h); omega
  rw [if_neg h0]
  have hok := s_vC_ok hv.2.2.1.1 h0
  obtain ⟨d2, v2, a2, g2, _, r2⟩ := c_Md_noted hv (d := d) (b := b) e
  have eB := (e.2.2.2.1 (by omega)).2.2.1
  obtain ⟨d3, a3, r3, k3⟩ := c_Md_complementAll hok (b := b) 256 0 d2 rfl (by rw [g2, e0]) (fun j hj => by rw [a2.1 t_mIsB (by decide)]; exact eB j hj) (fun j hj => by omega)
  obtain ⟨d4, v4, a4, r4⟩ := c_Md_becomesNew (s_com_ok hok) (d := d3) (b := b) (s_MR_F r2 a3 (by decide)) (by rw [a3.1 t_Md (by decide), g2, e0]) r3
  refine ⟨d4, e_Md_complement_0 ⟨_, _, c_Md_isCell e0, e_Md_complement_2 ⟨fun _ => ⟨_, _, v2, e_Md_complement_7 (k3 _ _ _ v4 (e_Md_complement_43 ⟨by decide, by decide, rfl⟩))⟩, fun h => ?_⟩⟩, q_ag_tr (q_ag_up a2 (by decide)) (q_ag_tr (q_ag_up a3 (by decide)) (q_ag_up a4 (by decide))), r4⟩
  have := of_decide_eq_false (q_b2i_f h); omega
