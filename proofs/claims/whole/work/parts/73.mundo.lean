/-! the model's undo, keep, has, count -/
theorem c_Md_undoF {x : Nat} {h : s_H} (hn : h.1 ≤ 8) (hx : x < 20) {b : Nat} : ∀ (f i : Nat) (d : qD), i + f = h.1 → d.1 t_Md 0 10 = (h.1 : Int) → s_wa x h (d.1 t_mWas 0) → (∀ k, 1 ≤ k → k ≤ i → d.1 t_mF 0 k = (h.2.1 k : Int)) → ∃ d', q_ag [t_mF] d d' ∧ s_row (d'.1 t_mF 0) h.1 h.2.1 ∧ ∀ r, q_Ev m_Md_undo 24 [q_r t_Md 0, q_i ((20 * x : Nat) : Int), q_i ((h.1 + 1 : Nat) : Int)] [] (q_mk d' b) r → q_Ev m_Md_undo 24 [q_r t_Md 0, q_i ((20 * x : Nat) : Int), q_i ((i + 1 : Nat) : Int)] [] (q_mk d b) r
  | 0, i, d, hi, e0, ew, eI => by
    have : i = h.1 := by omega
    subst this
    exact ⟨d, q_ag_refl _ _, eI, fun r hr => hr⟩
  | f + 1, i, d, hi, e0, ew, eI => by
    obtain ⟨d', a, r1, r2⟩ := c_Md_undoF hn hx (b := b) f (i + 1) (q_sI d t_mF 0 (i + 1) (h.2.1 (i + 1) : Int)) (by omega) (by rw [q_sI_ne _ _ (by decide), e0]) (by rw [q_sI_ne _ _ (by decide)]; exact ew) (by
      intro k h1 h2
      rw [q_sI_at]
      by_cases hq : k = i + 1
      · subst hq; rw [q_up_at]
      · rw [q_up_ne _ _ hq]; exact eI k h1 (by omega))
    refine ⟨d', q_ag_tr (q_ag_sI (by decide)) a, r1, fun r hr => e_Md_undo_24 ⟨fun h2 => ?_, fun _ => ?_⟩⟩
    · rw [e0] at h2; omega
    · have em : q_w (((20 * x : Nat) : Int) + ((i + 1 : Nat) : Int)) = ((20 * x + (i + 1) : Nat) : Int) := by rw [q_w_id (by omega) (by omega)]; omega
      rw [em, q_wS (by omega), Int.toNat_natCast, Int.toNat_natCast, ew.2.1 (i + 1) (by omega) (by omega)]
      exact ⟨by omega, by omega, by omega, by omega, r2 r hr⟩
theorem c_Md_undoC {x : Nat} {h : s_H} {u : Int} (hx : x < 20) {b : Nat} : ∀ (f m : Nat) (d : qD), m + f = 256 → d.1 t_Md 0 20 = u → s_wa x h (d.1 t_mWas 0) → (∀ j, j < m → d.1 t_mInC 0 j = q_b2i (h.2.2 j)) → ∃ d', q_Ev m_Md_undo 47 [q_r t_Md 0, q_i ((20 * x : Nat) : Int), q_i (m : Int)] [] (q_mk d b) (q_i u, q_mk d' b) ∧ q_ag [t_mInC] d d' ∧ ∀ j, j < 256 → d'.1 t_mInC 0 j = q_b2i (h.2.2 j)
  | 0, m, d, hm, e20, ew, eI => by
    refine ⟨d, e_Md_undo_47 ⟨fun _ => ?_, fun h2 => by omega⟩, q_ag_refl _ _, fun j hj => eI j (by omega)⟩
    rw [e20]
  | f + 1, m, d, hm, e20, ew, eI => by
    have hd := s_dr32 m (by omega)
    have em : q_w ((q_w (((20 * x : Nat) : Int) + 12)) + (q_div (m : Int) 32)) = ((20 * x + 12 + m / 32 : Nat) : Int) := by
      rw [hd.1, show q_w (((20 * x : Nat) : Int) + 12) = ((20 * x + 12 : Nat) : Int) by rw [q_w_id (by omega) (by omega)]; omega, q_w_id (by omega) (by omega)]; omega
    obtain ⟨d', v, a, r1⟩ := c_Md_undoC hx (b := b) f (m + 1) (q_sI d t_mInC 0 m (q_b2i (h.2.2 m))) (by omega) (by rw [q_sI_ne _ _ (by decide), e20]) (by rw [q_sI_ne _ _ (by decide)]; exact ew) (by
      intro j hj
      rw [q_sI_at]
      by_cases hq : j = m
      · subst hq; rw [q_up_at]
      · rw [q_up_ne _ _ hq]; exact eI j (by omega))
    have bit := ew.2.2 m (by omega)
    have sg := s_bit_get (x := d.1 t_mWas 0 (20 * x + 12 + m / 32)) (t := m % 32) (Nat.mod_lt _ (by decide))
    rw [bit] at sg
    refine ⟨d', e_Md_undo_47 ⟨fun h2 => by omega, fun _ => ?_⟩, q_ag_tr (q_ag_sI (by decide)) a, r1⟩
    rw [em, hd.2, Int.toNat_natCast, sg]
    refine ⟨by decide, by omega, by omega, by decide, fun h2 => e_Md_undo_74 ⟨by omega, by omega, ?_⟩, fun h2 => e_Md_undo_74 ⟨by omega, by omega, ?_⟩⟩
    · have hz : h.2.2 m = false := by
        cases hq : h.2.2 m
        · rfl
        · rw [hq] at h2; exact absurd rfl h2
      rw [hz] at v
      rw [q_wS (by omega), Int.toNat_natCast, show q_nar 3 0 = 0 from q_nar3 false]
      exact v
    · have hz : h.2.2 m = true := by
        cases hq : h.2.2 m
        · rw [hq] at h2; exact absurd h2 (by decide)
        · rfl
      rw [hz] at v
      rw [q_wS (by omega), Int.toNat_natCast, show q_nar 3 1 = 1 from q_nar3 true]
      exact v
theorem c_Md_undo {A : s_A} (hv : s_val A) {d : qD} {b : Nat} (e : s_MD A d) : ∃ d', q_Ev m_Md_undo 0 [q_r t_Md 0, none, none] [] (q_mk d b) (q_i (s_undoA A).1, q_mk d' b) ∧ q_ag s_TM d d' ∧ s_MD (s_undoA A).2 d' := by
  obtain ⟨tp, cur, Hs, Sh⟩ := A
  obtain ⟨eR, e0, eF, eM, eC⟩ := e
  match Hs, hv, eR with
  | [], hv, eR =>
    refine ⟨d, e_Md_undo_0 ⟨fun h => ?_, fun _ => rfl⟩, q_ag_refl _ _, eR, e0, eF, eM, eC⟩
    have := eR.2.1.2.1
    rw [this] at h; exact absurd rfl h
  | h :: T, hv, eR =>
    have hh := hv.2.2.2.2.1 h (List.mem_cons_self ..)
    have hb := (s_vC_bd hh.1).1
    obtain ⟨pl, p20, pw⟩ := eR.2.1
    rw [List.length_cons] at pl p20
    have w0 := pw 0 h rfl
    rw [List.length_cons, show T.length + 1 - 1 - 0 = T.length by omega] at w0
    have hx : T.length < 20 := by omega
    have ed : q_w (((T.length + 1 : Nat) : Int) - 1) = (T.length : Int) := by rw [q_w_id (by omega) (by omega)]; omega
    have ed2 : q_w (20 * (T.length : Int)) = ((20 * T.length : Nat) : Int) := by rw [q_w_id (by omega) (by omega)]; omega
    obtain ⟨d1, a1, r1, k1⟩ := c_Md_undoF (x := T.length) (h := h) hb.1 hx (b := b) h.1 0 (q_sI (q_sI d t_Md 0 20 (T.length : Int)) t_Md 0 10 (h.1 : Int)) (by omega) (by rw [q_sI_at, q_up_at]) (by rw [q_sI_ne _ _ (by decide), q_sI_ne _ _ (by decide)]; exact w0) (fun k h1 h2 => by omega)
    have g1 : d1.1 t_Md 0 = q_up (q_up (d.1 t_Md 0) 20 (T.length : Int)) 10 (h.1 : Int) := by rw [a1.1 t_Md (by decide), q_sI_at, q_sI_at]
    have w1 : d1.1 t_mWas 0 = d.1 t_mWas 0 := by rw [a1.1 t_mWas (by decide), q_sI_ne _ _ (by decide), q_sI_ne _ _ (by decide)]
    -- what follows, or nothing
    have mid : ∃ d2, q_ag [t_Md, t_mNeck, t_mIsB, t_mBoxes] d1 d2 ∧ d2.1 t_Md 0 10 = (h.1 : Int) ∧ d2.1 t_Md 0 20 = (T.length : Int) ∧ d2.1 t_Md 0 1 = d1.1 t_Md 0 1 ∧ (0 < h.1 → s_Mc h.1 h.2.1 d2) ∧ ∀ r, q_Ev m_Md_undo 45 [q_r t_Md 0, q_i ((20 * T.length : Nat) : Int), none] [] (q_mk d2 b) r → q_Ev m_Md_undo 24 [q_r t_Md 0, q_i ((20 * T.length : Nat) : Int), q_i ((h.1 + 1 : Nat) : Int)] [] (q_mk d1 b) r := by
      have e01 : d1.1 t_Md 0 10 = (h.1 : Int) := by rw [g1, q_up_at]
      have e201 : d1.1 t_Md 0 20 = (T.length : Int) := by rw [g1, q_up_ne _ _ (by decide), q_up_at]
      by_cases hz : h.1 = 0
      · refine ⟨d1, q_ag_refl _ _, e01, e201, rfl, fun hp => by omega, fun r hr => e_Md_undo_24 ⟨fun _ => ⟨fun _ => hr, fun h2 => ?_⟩, fun h2 => ?_⟩⟩
        · rw [e01] at h2; omega
        · rw [e01] at h2; omega
      · obtain ⟨d2, v2, a2, g2, r2⟩ := c_Md_follows (s_vC_ok hh.1 hz) (d := d1) (b := b) e01 r1
        refine ⟨d2, a2, by rw [g2, q_up_ne _ _ (by decide), e01], by rw [g2, q_up_ne _ _ (by decide), e201], by rw [g2, q_up_ne _ _ (by decide)], fun _ => r2, fun r hr => e_Md_undo_24 ⟨fun _ => ⟨fun h2 => ?_, fun _ => ⟨_, _, v2, hr⟩⟩, fun h2 => ?_⟩⟩
        · rw [e01] at h2; omega
        · rw [e01] at h2; omega
    obtain ⟨d2, a2, m10, m20, m1, mc, k2⟩ := mid
    have w2 : d2.1 t_mWas 0 = d.1 t_mWas 0 := by rw [a2.1 t_mWas (by decide), w1]
    obtain ⟨d3, v3, a3, r3⟩ := c_Md_undoC (x := T.length) (h := h) hx (b := b) 256 0 d2 rfl m20 (by rw [w2]; exact w0) (fun j hj => by omega)
    have tag : ∀ t, t ∉ s_TM → ∀ i, d3.1 t i = d.1 t i := by
      intro t ht i
      have n1 : t ∉ [t_mInC] := fun hh => ht (by revert hh; simp only [List.mem_singleton]; intro hh; subst hh; decide)
      have n2 : t ∉ [t_Md, t_mNeck, t_mIsB, t_mBoxes] := fun hh => ht ((by decide : ∀ t ∈ [t_Md, t_mNeck, t_mIsB, t_mBoxes], t ∈ s_TM) t hh)
      have n3 : t ∉ [t_mF] := fun hh => ht ((by decide : ∀ t ∈ [t_mF], t ∈ s_TM) t hh)
      have n4 : t ≠ t_Md := fun hh => ht (by rw [hh]; decide)
      rw [a3.1 t n1, a2.1 t n2, a1.1 t n3, q_sI_ne _ _ n4, q_sI_ne _ _ n4]
    refine ⟨d3, e_Md_undo_0 ⟨fun _ => ?_, fun h0 => ?_⟩, ?_, ?_, ?_, ?_, fun hp => ?_, r3⟩
    · rw [p20, ed, ed2, Int.toNat_natCast, w0.1]
      exact ⟨by omega, by omega, k1 _ (k2 _ (e_Md_undo_45 v3))⟩
    · rw [p20] at h0; omega
    · exact q_ag_tr (q_ag_sI (by decide)) (q_ag_tr (q_ag_sI (by decide)) (q_ag_tr (q_ag_up a1 (by decide)) (q_ag_tr (q_ag_up a2 (by decide)) (q_ag_up a3 (by decide)))))
    · refine s_MR_of eR ⟨rfl, rfl⟩ ⟨by show T.length ≤ 20; omega, by rw [a3.1 t_Md (by decide), m20]; rfl, fun k g hk => ?_⟩ ?_ (tag _ (by decide) _) (tag _ (by decide) _) (tag _ (by decide) _) (tag _ (by decide) _)
      · have hk : T[k]? = some g := hk
        have hkl : k < T.length := by
          by_cases hkl : k < T.length
          · exact hkl
          · rw [List.getElem?_eq_none (by omega)] at hk; cases hk
        have := pw (k + 1) g (by rw [List.getElem?_cons_succ]; exact hk)
        rw [List.length_cons, show T.length + 1 - 1 - (k + 1) = T.length - 1 - k by omega] at this
        show s_wa (T.length - 1 - k) g (d3.1 t_mWas 0)
        rw [a3.1 t_mWas (by decide), w2]; exact this
      · rw [a3.1 t_Md (by decide), m1, g1, q_up_ne _ _ (by decide), q_up_ne _ _ (by decide)]
    · rw [a3.1 t_Md (by decide)]; exact m10
    · show s_row (d3.1 t_mF 0) h.1 h.2.1
      rw [a3.1 t_mF (by decide), a2.1 t_mF (by decide)]; exact r1
    · exact s_Mc_of (mc hp) (by rw [a3.1 t_Md (by decide)]) (a3.1 _ (by decide) _) (a3.1 _ (by decide) _) (a3.1 _ (by decide) _)
theorem c_Md_keepF {n x : Nat} {F : Nat → Nat} (hn : n ≤ 8) (hx : x < 4) {b : Nat} : ∀ (f i : Nat) (d : qD), i + f = n → d.1 t_Md 0 10 = (n : Int) → s_row (d.1 t_mF 0) n F → (∀ k, 1 ≤ k → k ≤ i → d.1 t_mShF 0 (10 * x + k) = (F k : Int)) → ∃ d', q_ag [t_mShF] d d' ∧ (∀ k, 1 ≤ k → k ≤ n → d'.1 t_mShF 0 (10 * x + k) = (F k : Int)) ∧ (∀ k, (k ≤ 10 * x ∨ 10 * x + n < k) → d'.1 t_mShF 0 k = d.1 t_mShF 0 k) ∧ ∀ r v w2, q_Ev m_Md_dim 0 [q_r t_Md 0] [] (q_mk d' b) (v, w2) → q_Ev m_Md_keep 39 [none, none, none] (v.toList ++ []) w2 r → q_Ev m_Md_keep 19 [q_r t_Md 0, q_i (x : Int), q_i ((i + 1 : Nat) : Int)] [] (q_mk d b) r
  | 0, i, d, h, e0, eF, eI => by
    refine ⟨d, q_ag_refl _ _, fun k h1 h2 => eI k h1 (by omega), fun _ _ => rfl, fun r v w2 v1 v2 => e_Md_keep_19 ⟨fun _ => ⟨_, _, v1, v2⟩, fun h2 => ?_⟩⟩
    rw [e0] at h2; omega
  | f + 1, i, d, h, e0, eF, eI => by
    have em : q_w ((q_w (10 * (x : Int))) + ((i + 1 : Nat) : Int)) = ((10 * x + (i + 1) : Nat) : Int) := by
      rw [show q_w (10 * (x : Int)) = ((10 * x : Nat) : Int) by rw [q_w_id (by omega) (by omega)]; omega, q_w_id (by omega) (by omega)]; omega
    obtain ⟨d', a, r1, r2, r3⟩ := c_Md_keepF (F := F) hn hx (b := b) f (i + 1) (q_sI d t_mShF 0 (10 * x + (i + 1)) (F (i + 1) : Int)) (by omega) (by rw [q_sI_ne _ _ (by decide), e0]) (by rw [q_sI_ne _ _ (by decide)]; exact eF) (by
      intro k h1 h2
      rw [q_sI_at]
      by_cases hq : k = i + 1
      · subst hq; rw [q_up_at]
      · rw [q_up_ne _ _ (by omega)]; exact eI k h1 (by omega))
    refine ⟨d', q_ag_tr (q_ag_sI (by decide)) a, r1, fun k hk => ?_, fun r v w2 v1 v2 => e_Md_keep_19 ⟨fun h2 => ?_, fun _ => ⟨by omega, by omega, ?_⟩⟩⟩
    · rw [r2 k hk, q_sI_at, q_up_ne _ _ (by omega)]
    · rw [e0] at h2; omega
    · rw [em, q_wS (by omega), Int.toNat_natCast, Int.toNat_natCast, eF (i + 1) (by omega) (by omega)]
      exact ⟨by omega, by omega, r3 r v w2 v1 v2⟩
theorem c_Md_keep {A : s_A} {x : Int} (hv : s_val A) (hx : q_can x) {d : qD} {b : Nat} (e : s_MD A d) : ∃ d', q_Ev m_Md_keep 0 [q_r t_Md 0, q_i x, none] [] (q_mk d b) (q_i (s_keepA A x).1, q_mk d' b) ∧ q_ag [t_mShN, t_mShF] d d' ∧ s_MD (s_keepA A x).2 d' := by
  have hb := (s_vC_bd hv.2.2.1.1).1
  have hn := hb.1
  have ee := e
  obtain ⟨eR, e0, eF, eM, eC⟩ := ee
  unfold s_keepA
  by_cases h0 : A.2.1.1 = 0
  · rw [if_pos (Or.inl h0)]
    refine ⟨d, e_Md_keep_0 ⟨_, _, c_Md_isCell e0, e_Md_keep_2 ⟨fun _ => e_Md_keep_9 rfl, fun h => ?_⟩⟩, q_ag_refl _ _, e⟩
    have := of_decide_eq_true (q_b2i_t h); omega
  have ii := c_Md_isIn (x := x) (lo := 0) (hi := 3) hx (q_can_s (by decide) (by decide)) (q_can_s (by decide) (by decide)) (d := d) (b := b)
  have st : ∀ r, q_Ev m_Md_keep 8 [q_r t_Md 0, q_i x, none] [.inl (q_b2i (decide (0 ≤ x ∧ x ≤ 3)))] (q_mk d b) r → q_Ev m_Md_keep 0 [q_r t_Md 0, q_i x, none] [] (q_mk d b) r := by
    intro r hr
    refine e_Md_keep_0 ⟨_, _, c_Md_isCell e0, e_Md_keep_2 ⟨fun h => ?_, fun _ => ?_⟩⟩
    · have := of_decide_eq_false (q_b2i_f h); omega
    · rw [q_l0, q_l3]; exact ⟨_, _, ii, hr⟩
  by_cases h1 : 0 ≤ x ∧ x ≤ 3
  · rw [if_neg (by omega)]
    rw [decide_eq_true h1] at st
    obtain ⟨y, rfl⟩ : ∃ y : Nat, x = (y : Int) := ⟨x.toNat, by omega⟩
    rw [Int.toNat_natCast]
    obtain ⟨d1, a1, r1, o1, k1⟩ := c_Md_keepF (x := y) (F := A.2.1.2.1) hn (by omega) (b := b) A.2.1.1 0 (q_sI d t_mShN 0 y (A.2.1.1 : Int)) (by omega) (by rw [q_sI_ne _ _ (by decide), e0]) (by rw [q_sI_ne _ _ (by decide)]; exact eF) (fun k h1 h2 => by omega)
    have gN : d1.1 t_mShN 0 = q_up (d.1 t_mShN 0) y (A.2.1.1 : Int) := by rw [a1.1 t_mShN (by decide), q_sI_at]
    have tag : ∀ t, t ∉ [t_mShN, t_mShF] → ∀ i, d1.1 t i = d.1 t i := by
      intro t ht i
      have n1 : t ∉ [t_mShF] := fun hh => ht ((by decide : ∀ t ∈ [t_mShF], t ∈ [t_mShN, t_mShF]) t hh)
      have n4 : t ≠ t_mShN := fun hh => ht (by rw [hh]; decide)
      rw [a1.1 t n1, q_sI_ne _ _ n4]
    have f1 : s_MD (A.1, A.2.1, A.2.2.1, fun z => if z = y then (A.2.1.1, A.2.1.2.1) else A.2.2.2 z) d1 := by
      refine ⟨⟨?_, s_mP_of eR.2.1 (by rw [tag t_Md (by decide)]) (tag _ (by decide) _), fun z hz => ?_, fun k hk => by rw [tag t_mWords (by decide)]; exact eR.2.2.2 k hk⟩, ?_, ?_, fun hp => s_Mc_of (eM hp) (by rw [tag t_Md (by decide)]) (tag _ (by decide) _) (tag _ (by decide) _) (tag _ (by decide) _), fun j hj => by rw [tag t_mInC (by decide)]; exact eC j hj⟩
      · rw [tag t_Md (by decide), tag t_mTape (by decide)]; exact eR.1
      · dsimp only
        by_cases hq : z = y
        · rw [if_pos hq, hq, gN, q_up_at]
          exact ⟨rfl, r1⟩
        · rw [if_neg hq, gN, q_up_ne _ _ hq]
          have ez := eR.2.2.1 z hz
          refine ⟨ez.1, fun i i1 i2 => ?_⟩
          have hs8 := (s_vC_bd (hv.2.2.2.2.2 z)).1.1
          rw [o1 _ (by omega), q_sI_ne _ _ (by decide)]
          exact ez.2 i i1 i2
      · rw [tag t_Md (by decide)]; exact e0
      · rw [tag t_mF (by decide)]; exact eF
    have hv1 : s_val (A.1, A.2.1, A.2.2.1, fun z => if z = y then (A.2.1.1, A.2.1.2.1) else A.2.2.2 z) := by
      have := s_keep_val hv (y : Int)
      unfold s_keepA at this
      rw [if_neg (by omega), Int.toNat_natCast] at this
      exact this
    refine ⟨d1, st _ (e_Md_keep_8 ⟨fun _ => ⟨by omega, by omega, ?_⟩, fun h => absurd h (by decide)⟩), q_ag_tr (q_ag_sI (by decide)) (q_ag_up a1 (by decide)), f1⟩
    rw [Int.toNat_natCast, e0]
    exact k1 _ _ _ (c_Md_dimA hv1 h0 f1) (e_Md_keep_39 rfl)
  · rw [if_pos (by omega)]
    rw [decide_eq_false h1] at st
    exact ⟨d, st _ (e_Md_keep_8 ⟨fun h => absurd rfl h, fun _ => e_Md_keep_9 rfl⟩), q_ag_refl _ _, e⟩
theorem c_Md_itsN1 {m x : Nat} {G : Nat → Nat} (hb : s_bd m G) (hx : x < 4) {b : Nat} : ∀ (f i : Nat) (d : qD), i + f = m → (∀ k, 1 ≤ k → k ≤ m → d.1 t_mShF 0 (10 * x + k) = (G k : Int)) → d.1 t_mItsNeck 0 1 = (s_n1 m G i : Int) → ∃ d', q_ag [t_mItsNeck] d d' ∧ d'.1 t_mItsNeck 0 1 = (s_n1 m G m : Int) ∧ ∀ r, q_Ev m_Md_laysItsNeck 48 [q_r t_Md 0, q_i (x : Int), q_i (m : Int), q_i 1, none] [] (q_mk d' b) r → q_Ev m_Md_laysItsNeck 12 [q_r t_Md 0, q_i (x : Int), q_i (m : Int), q_i ((i + 1 : Nat) : Int), none] [] (q_mk d b) r
  | 0, i, d, h, eG, e1 => by
    have : i = m := by omega
    subst this
    exact ⟨d, q_ag_refl _ _, e1, fun r hr => e_Md_laysItsNeck_12 ⟨fun _ => hr, fun h2 => by omega⟩⟩
  | f + 1, i, d, h, eG, e1 => by
    have hm := hb.1
    have bi := hb.2 (i + 1) (by omega) (by omega)
    have em : q_w ((q_w (10 * (x : Int))) + ((i + 1 : Nat) : Int)) = ((10 * x + (i + 1) : Nat) : Int) := by
      rw [show q_w (10 * (x : Int)) = ((10 * x : Nat) : Int) by rw [q_w_id (by omega) (by omega)]; omega, q_w_id (by omega) (by omega)]; omega
    have n1 := s_n1_lt hb i (by omega)
    by_cases hq : m < G (i + 1)
    · have hs : s_n1 m G (i + 1) = s_with (s_n1 m G i) (G (i + 1) - m) := by rw [s_n1, if_pos hq]
      obtain ⟨d', a, r1, r2⟩ := c_Md_itsN1 hb hx (b := b) f (i + 1) (q_sI d t_mItsNeck 0 1 (s_n1 m G (i + 1) : Int)) (by omega) (by rw [q_sI_ne _ _ (by decide)]; exact eG) (by rw [q_sI_at, q_up_at])
      refine ⟨d', q_ag_tr (q_ag_sI (by decide)) a, r1, fun r hr => e_Md_laysItsNeck_12 ⟨fun h2 => by omega, fun _ => ?_⟩⟩
      rw [em, Int.toNat_natCast, eG (i + 1) (by omega) (by omega), show (1 : Int).toNat = 1 from rfl, e1, q_wD (by omega) (by omega)]
      refine ⟨by omega, by omega, fun h2 => by omega, fun _ => ⟨by decide, by decide, by omega, by omega, _, _, c_Md_with n1 (by omega) (by omega), e_Md_laysItsNeck_43 ⟨by decide, by decide, e_Md_laysItsNeck_44 ?_⟩⟩⟩
      rw [q_wS (by omega), show (1 : Int).toNat = 1 from rfl, ← hs]
      exact r2 r hr
    · have hs : s_n1 m G (i + 1) = s_n1 m G i := by rw [s_n1, if_neg hq]
      obtain ⟨d', a, r1, r2⟩ := c_Md_itsN1 hb hx (b := b) f (i + 1) d (by omega) eG (by rw [hs]; exact e1)
      refine ⟨d', a, r1, fun r hr => e_Md_laysItsNeck_12 ⟨fun h2 => by omega, fun _ => ?_⟩⟩
      rw [em, Int.toNat_natCast, eG (i + 1) (by omega) (by omega)]
      refine ⟨by omega, by omega, fun _ => e_Md_laysItsNeck_44 ?_, fun h2 => by omega⟩
      rw [q_wS (by omega)]
      exact r2 r hr
theorem c_Md_itsN2 {m x : Nat} {G : Nat → Nat} (hb : s_bd m G) (hx : x < 4) {b : Nat} : ∀ (f i : Nat) (d : qD), i + f = m → 1 ≤ i → (∀ k, 1 ≤ k → k ≤ m → d.1 t_mShF 0 (10 * x + k) = (G k : Int)) → (∀ k, 1 ≤ k → k ≤ i → d.1 t_mItsNeck 0 k = (s_nk m G k : Int)) → ∃ d', q_Ev m_Md_laysItsNeck 48 [q_r t_Md 0, q_i (x : Int), q_i (m : Int), q_i (i : Int), none] [] (q_mk d b) (none, q_mk d' b) ∧ q_ag [t_mItsNeck] d d' ∧ s_row (d'.1 t_mItsNeck 0) m (s_nk m G)
  | 0, i, d, h, hi, eG, eN => ⟨d, e_Md_laysItsNeck_48 ⟨fun _ => rfl, fun h2 => by omega⟩, q_ag_refl _ _, fun k h1 h2 => eN k h1 (by omega)⟩
  | f + 1, i, d, h, hi, eG, eN => by
    have hm := hb.1
    have bi := hb.2 i hi (by omega)
    have em : q_w ((q_w (10 * (x : Int))) + (i : Int)) = ((10 * x + i : Nat) : Int) := by
      rw [show q_w (10 * (x : Int)) = ((10 * x : Nat) : Int) by rw [q_w_id (by omega) (by omega)]; omega, q_w_id (by omega) (by omega)]; omega
    have nlt : s_nk m G i < 256 := by
      obtain ⟨z, rfl⟩ : ∃ z, i = z + 1 := ⟨i - 1, by omega⟩
      exact s_nk_lt hb z (by omega)
    have nlt2 := s_nk_lt hb i (by omega)
    obtain ⟨d', v, a, r⟩ := c_Md_itsN2 hb hx (b := b) f (i + 1) (q_sI d t_mItsNeck 0 (i + 1) (s_nk m G (i + 1) : Int)) (by omega) (by omega) (by rw [q_sI_ne _ _ (by decide)]; exact eG) (by
      intro k h1 h2
      rw [q_sI_at]
      by_cases hq : k = i + 1
      · subst hq; rw [q_up_at]
      · rw [q_up_ne _ _ hq]; exact eN k h1 (by omega))
    have k88 : q_Ev m_Md_laysItsNeck 88 [q_r t_Md 0, q_i (x : Int), q_i (m : Int), q_i (i : Int), none] [.inl (s_nk m G (i + 1) : Int), .inl ((i + 1 : Nat) : Int), .inr (.inr (t_mItsNeck, 0))] (q_mk d b) (none, q_mk d' b) := by
      refine e_Md_laysItsNeck_88 ⟨by omega, by omega, ?_⟩
      rw [q_wS (by omega), Int.toNat_natCast]
      exact v
    refine ⟨d', e_Md_laysItsNeck_48 ⟨fun h2 => by omega, fun _ => ?_⟩, q_ag_tr (q_ag_sI (by decide)) a, r⟩
    rw [em, Int.toNat_natCast, eG i hi (by omega), Int.toNat_natCast, eN i hi (Nat.le_refl i), q_wS (by omega)]
    refine ⟨by omega, by omega, fun h2 => ⟨by omega, by omega, _, _, c_Md_without nlt hi (by omega), e_Md_laysItsNeck_79 ⟨fun h3 => e_Md_laysItsNeck_87 ⟨_, _, c_Md_with (s_wo_lt nlt) (l := G i) (by omega) (by omega), ?_⟩, fun h3 => ?_⟩⟩, fun h2 => ⟨by omega, by omega, ?_⟩⟩
    · rw [s_nk_s hi, if_neg (by omega)] at k88
      unfold s_tg at k88
      rw [if_neg (by omega)] at k88
      exact k88
    · rw [q_wD (by omega) (by omega)]
      refine e_Md_laysItsNeck_87 ⟨_, _, c_Md_with (s_wo_lt nlt) (l := G i - m) (by omega) (by omega), ?_⟩
      rw [s_nk_s hi, if_neg (by omega)] at k88
      unfold s_tg at k88
      rw [if_pos (by omega)] at k88
      exact k88
    · rw [s_nk_s hi, if_pos (by omega)] at k88
      exact k88
theorem c_Md_hasAl {n : Nat} {G : Nat → Nat} (hn : n ≤ 8) (hK : ∀ i, 1 ≤ i → i ≤ n → s_nk n G i < 256) {s : Nat} (hs : s < 256) {d : qD} {b : Nat} (e0 : d.1 t_Md 0 10 = (n : Int)) (eN : s_row (d.1 t_mItsNeck 0) n (s_nk n G)) {r : Option qV × qW} : ∀ (f i : Nat) (z : Bool), i + f = n + 1 → 1 ≤ i → q_Ev m_Md_has2 76 [q_r t_Md 0, none, q_i (s : Int), q_i (q_b2i (z && s_alN n G s f)), none] [] (q_mk d b) r → q_Ev m_Md_has2 59 [q_r t_Md 0, none, q_i (s : Int), q_i (q_b2i z), q_i (i : Int)] [] (q_mk d b) r
  | 0, i, z, h, hi, hr => by
    refine e_Md_has2_59 ⟨fun _ => ?_, fun h2 => ?_⟩
    · rw [s_alN, Bool.and_true] at hr; exact hr
    · rw [e0] at h2; omega
  | f + 1, i, z, h, hi, hr => by
    refine e_Md_has2_59 ⟨fun h2 => ?_, fun _ => ⟨fun h2 => ?_, fun h2 => ⟨by omega, by omega, ?_⟩⟩⟩
    · rw [e0] at h2; omega
    · have hz := q_b2i_f h2
      rw [hz, Bool.false_and] at hr
      rw [hz]; exact hr
    · have hz := q_b2i_t h2
      rw [Int.toNat_natCast, eN i hi (by omega)]
      refine ⟨_, _, c_Md_isAtLeast hs (hK i hi (by omega)) hi (by omega) hn e0, e_Md_has2_73 ?_⟩
      rw [q_wS (by omega)]
      refine c_Md_hasAl hn hK hs e0 eN f (i + 1) _ (by omega) (by omega) ?_
      rw [hz, Bool.true_and, s_alN, show n - f = i by omega] at hr
      exact hr
theorem c_Md_hasGo {n k : Nat} {G : Nat → Nat} {B : Nat → Bool} (hn : n ≤ 8) (h0 : 0 < n) (hK : ∀ i, 1 ≤ i → i ≤ n → s_nk n G i < 256) (hk : q_pc (s_n1 n G n) = k) {d : qD} {b : Nat} (e0 : d.1 t_Md 0 10 = (n : Int)) (e1 : d.1 t_Md 0 12 = (k : Int)) (eB : ∀ j, j < 256 → d.1 t_mIsB 0 j = q_b2i (B j)) (eN : s_row (d.1 t_mItsNeck 0) n (s_nk n G)) : ∀ (f m : Nat), m + f = 2 ^ n → q_Ev m_Md_has2 42 [q_r t_Md 0, none, q_i (m : Int), none, none] [] (q_mk d b) (q_i (q_b2i (((List.range' m f).filter (s_bas n G)).all B)), q_mk d b)
  | 0, m, h => by
    refine e_Md_has2_42 ⟨fun _ => rfl, fun h2 => ?_⟩
    rw [e0, q_shl1 _ (by omega)] at h2; omega
  | f + 1, m, h => by
    have hp := s_p8 hn
    have nx : q_Ev m_Md_has2 85 [q_r t_Md 0, none, q_i (m : Int), none, none] [] (q_mk d b) (q_i (q_b2i (((List.range' (m + 1) f).filter (s_bas n G)).all B)), q_mk d b) := by
      refine e_Md_has2_85 ?_
      rw [q_wS (by omega)]
      exact c_Md_hasGo hn h0 hK hk e0 e1 eB eN f (m + 1) (by omega)
    have hbas : s_bas n G m = ((q_pc m == k) && s_alN n G m n) := by
      unfold s_bas s_isSet
      rw [decide_eq_true (show 0 < n ∧ 0 ≤ (m : Int) ∧ (m : Int) < ((2 ^ n : Nat) : Int) from ⟨h0, by omega, by omega⟩), Bool.true_and, Int.toNat_natCast, hk]
    have k56 : ∀ z : Bool, z = (q_pc m == k) → q_Ev m_Md_has2 56 [q_r t_Md 0, none, q_i (m : Int), none, none] [.inl (q_b2i z)] (q_mk d b) (q_i (q_b2i (((List.range' m (f + 1)).filter (s_bas n G)).all B)), q_mk d b) := by
      intro z hz
      refine e_Md_has2_56 (c_Md_hasAl hn hK (by omega) e0 eN n 1 z (by omega) (by omega) ?_)
      rw [hz, ← hbas, s_fl_range']
      refine e_Md_has2_76 ⟨fun h2 => ?_, fun h2 => ⟨by omega, by omega, ?_⟩⟩
      · rw [q_b2i_f h2, if_neg (by decide)]; exact nx
      · rw [q_b2i_t h2, if_pos rfl, List.all_cons, Int.toNat_natCast, eB m (by omega)]
        refine ⟨fun h3 => ?_, fun h3 => ?_⟩
        · rw [q_b2i_t h3, Bool.true_and]; exact nx
        · rw [q_b2i_f h3]; rfl
    refine e_Md_has2_42 ⟨fun h2 => ?_, fun _ => ⟨_, _, c_Md_sizeOf (by omega), e_Md_has2_50 ?_⟩⟩
    · rw [e0, q_shl1 _ (by omega)] at h2; omega
    · rw [e1]
      refine ⟨fun h2 => k56 false (beq_false_of_ne (by omega)).symm, fun h2 => k56 true ?_⟩
      rw [show q_pc m = k by omega, beq_self_eq_true]
theorem s_fl_2n {n : Nat} {c : Nat → Bool} (hn : n ≤ 8) (h : ∀ s, c s = true → s < 2 ^ n) : (List.range' 0 (2 ^ n)).filter c = s_fl c := by
  have hp := s_p8 hn
  unfold s_fl
  rw [List.range_eq_range']
  have := List.range'_append_1 (s := 0) (m := 2 ^ n) (n := 256 - 2 ^ n)
  rw [show 2 ^ n + (256 - 2 ^ n) = 256 by omega] at this
  rw [← this, List.filter_append]
  have e : (List.range' (0 + 2 ^ n) (256 - 2 ^ n)).filter c = [] := by
    rw [List.filter_eq_nil_iff]
    intro a ha hc
    have := List.mem_range'_1.mp ha
    have := h a hc
    omega
  rw [e, List.append_nil]
theorem c_Md_has2 {A : s_A} {x : Int} (hv : s_val A) (hx : q_can x) {d : qD} {b : Nat} (e : s_MD A d) : ∃ d', q_Ev m_Md_has2 0 [q_r t_Md 0, q_i x, none, none, none] [] (q_mk d b) (q_i (s_hasA A x), q_mk d' b) ∧ q_ag [t_mItsNeck] d d' := by
  have hb := (s_vC_bd hv.2.2.1.1).1
  have hn := hb.1
  obtain ⟨eR, e0, eF, eM, eC⟩ := e
  unfold s_hasA
  by_cases h0 : A.2.1.1 = 0
  · rw [if_pos (Or.inl h0)]
    refine ⟨d, e_Md_has2_0 ⟨_, _, c_Md_isCell e0, e_Md_has2_2 ⟨fun _ => e_Md_has2_9 rfl, fun h => ?_⟩⟩, q_ag_refl _ _⟩
    have := of_decide_eq_true (q_b2i_t h); omega
  have ii := c_Md_isIn (x := x) (lo := 0) (hi := 3) hx (q_can_s (by decide) (by decide)) (q_can_s (by decide) (by decide)) (d := d) (b := b)
  have st : ∀ r, q_Ev m_Md_has2 8 [q_r t_Md 0, q_i x, none, none, none] [.inl (q_b2i (decide (0 ≤ x ∧ x ≤ 3)))] (q_mk d b) r → q_Ev m_Md_has2 0 [q_r t_Md 0, q_i x, none, none, none] [] (q_mk d b) r := by
    intro r hr
    refine e_Md_has2_0 ⟨_, _, c_Md_isCell e0, e_Md_has2_2 ⟨fun h => ?_, fun _ => ?_⟩⟩
    · have := of_decide_eq_false (q_b2i_f h); omega
    · rw [q_l0, q_l3]; exact ⟨_, _, ii, hr⟩
  by_cases h1 : 0 ≤ x ∧ x ≤ 3
  · rw [if_neg (by omega)]
    rw [decide_eq_true h1] at st
    obtain ⟨y, rfl⟩ : ∃ y : Nat, x = (y : Int) := ⟨x.toNat, by omega⟩
    rw [Int.toNat_natCast]
    have ey := eR.2.2.1 y (by omega)
    by_cases h2 : (A.2.2.2 y).1 = 0
    · rw [if_pos h2]
      refine ⟨d, st _ (e_Md_has2_8 ⟨fun _ => ⟨by omega, by omega, ?_⟩, fun h => absurd h (by decide)⟩), q_ag_refl _ _⟩
      rw [Int.toNat_natCast, ey.1]
      exact ⟨fun h3 => by omega, fun _ => rfl⟩
    rw [if_neg h2]
    unfold s_clo
    by_cases h3 : (A.2.2.2 y).1 = A.2.1.1
    · rw [decide_eq_true h3, Bool.true_and]
      have hbG := (s_vC_bd (hv.2.2.2.2.2 y)).1
      rw [h3] at hbG ey ⊢
      obtain ⟨d1, a1, r1, k1⟩ := c_Md_itsN1 (G := (A.2.2.2 y).2) (x := y) hbG (by omega) (b := b) A.2.1.1 0 (q_sI d t_mItsNeck 0 1 0) (by omega) (by rw [q_sI_ne _ _ (by decide)]; exact ey.2) (by rw [q_sI_at, q_up_at]; rfl)
      obtain ⟨d2, v2, a2, r2⟩ := c_Md_itsN2 (G := (A.2.2.2 y).2) (x := y) hbG (by omega) (b := b) (A.2.1.1 - 1) 1 d1 (by omega) (by omega) (by rw [a1.1 t_mShF (by decide), q_sI_ne _ _ (by decide)]; exact ey.2) (fun k q1 q2 => by rw [show k = 1 by omega, r1, s_nk_1])
      have n1 := s_n1_lt hbG A.2.1.1 (Nat.le_refl _)
      have i1 : d2.1 t_mItsNeck 0 1 = (s_n1 A.2.1.1 (A.2.2.2 y).2 A.2.1.1 : Int) := by rw [r2 1 (by omega) (by omega), s_nk_1]
      have k12 : d2.1 t_Md 0 12 = (q_pc (s_n1 A.2.1.1 A.2.1.2.1 A.2.1.1) : Int) := by rw [a2.1 t_Md (by decide), a1.1 t_Md (by decide), q_sI_ne _ _ (by decide)]; exact (eM (by omega)).1
      have k10 : d2.1 t_Md 0 10 = (A.2.1.1 : Int) := by rw [a2.1 t_Md (by decide), a1.1 t_Md (by decide), q_sI_ne _ _ (by decide)]; exact e0
      have st2 : ∀ r, q_Ev m_Md_has2 30 [q_r t_Md 0, none, none, none, none] [] (q_mk d2 b) r → q_Ev m_Md_has2 0 [q_r t_Md 0, q_i (y : Int), none, none, none] [] (q_mk d b) r := by
        intro r hr
        refine st _ (e_Md_has2_8 ⟨fun _ => ⟨by omega, by omega, ?_⟩, fun h => absurd h (by decide)⟩)
        rw [Int.toNat_natCast, ey.1, e0]
        refine ⟨fun _ => ⟨by omega, by omega, fun _ => ⟨none, q_mk d2 b, e_Md_laysItsNeck_0 ⟨by omega, by omega, by decide, by decide, ?_⟩, hr⟩, fun hh => absurd rfl hh⟩, fun hh => by omega⟩
        rw [Int.toNat_natCast, ey.1, show (1 : Int).toNat = 1 from rfl]
        exact k1 _ v2
      refine ⟨d2, st2 _ (e_Md_has2_30 ⟨by decide, by decide, ?_⟩), q_ag_tr (q_ag_sI (by decide)) (q_ag_tr a1 a2)⟩
      rw [show (1 : Int).toNat = 1 from rfl, i1]
      refine ⟨_, _, c_Md_sizeOf n1, e_Md_has2_35 ?_⟩
      rw [k12]
      refine ⟨fun h4 => ?_, fun h4 => ?_⟩
      · have hk : q_pc (s_n1 A.2.1.1 (A.2.2.2 y).2 A.2.1.1) = q_pc (s_n1 A.2.1.1 A.2.1.2.1 A.2.1.1) := by omega
        rw [decide_eq_true hk, Bool.true_and]
        have := c_Md_hasGo (B := s_bas A.2.1.1 A.2.1.2.1) hn (by omega) (fun i i1 i2 => by
          obtain ⟨z, rfl⟩ : ∃ z, i = z + 1 := ⟨i - 1, by omega⟩
          exact s_nk_lt hbG z (by omega)) hk (b := b) k10 k12 (by rw [a2.1 t_mIsB (by decide), a1.1 t_mIsB (by decide), q_sI_ne _ _ (by decide)]; exact (eM (by omega)).2.2.1) r2 (2 ^ A.2.1.1) 0 (by omega)
        rw [s_fl_2n hn (fun s => s_bas_lt s)] at this
        exact this
      · rw [decide_eq_false (by omega), Bool.false_and]; rfl
    · rw [decide_eq_false h3, Bool.false_and]
      refine ⟨d, st _ (e_Md_has2_8 ⟨fun _ => ⟨by omega, by omega, ?_⟩, fun h => absurd h (by decide)⟩), q_ag_refl _ _⟩
      rw [Int.toNat_natCast, ey.1, e0]
      exact ⟨fun _ => ⟨by omega, by omega, fun h4 => by omega, fun _ => rfl⟩, fun h4 => by omega⟩
  · rw [if_pos (by omega)]
    rw [decide_eq_false h1] at st
    exact ⟨d, st _ (e_Md_has2_8 ⟨fun h => absurd rfl h, fun _ => e_Md_has2_9 rfl⟩), q_ag_refl _ _⟩
theorem c_Md_count {A : s_A} {x : Int} {q : Nat → Nat} (hv : s_val A) (hx : q_can x) (hq : s_lp A.2.1.1 (s_EL (s_basL A.2.1.1 A.2.1.2.1 256) (s_bas A.2.1.1 A.2.1.2.1)) q) {d : qD} {b : Nat} (e : s_MD A d) : ∃ d', q_Ev m_Md_count 0 [q_r t_Md 0, q_i x] [] (q_mk d b) (q_i (s_countA A q x), q_mk d' b) ∧ q_ag [t_mPartOf] d d' := by
  have hb := (s_vC_bd hv.2.2.1.1).1
  have hn := hb.1
  have ee := e
  obtain ⟨eR, e0, eF, eM, eC⟩ := ee
  have ii := c_Md_isIn (x := x) (lo := 0) (hi := 6) hx (q_can_s (by decide) (by decide)) (q_can_s (by decide) (by decide)) (d := d) (b := b)
  have st : ∀ r, q_Ev m_Md_count 5 [q_r t_Md 0, q_i x] [.inl (q_b2i (decide (0 ≤ x ∧ x ≤ 6)))] (q_mk d b) r → q_Ev m_Md_count 0 [q_r t_Md 0, q_i x] [] (q_mk d b) r := by
    intro r hr
    refine e_Md_count_0 ?_
    rw [q_l0, q_l6]; exact ⟨_, _, ii, hr⟩
  unfold s_countA
  by_cases h06 : 0 ≤ x ∧ x ≤ 6
  · rw [decide_eq_true h06] at st
    rw [if_neg (by omega), if_neg (by omega), if_neg (by omega)]
    by_cases h0 : A.2.1.1 = 0
    · rw [if_pos h0]
      refine ⟨d, st _ (e_Md_count_5 ⟨fun h => absurd h (by decide), fun _ => ⟨_, _, c_Md_isCell e0, e_Md_count_8 ⟨fun h => ?_, fun _ => rfl⟩⟩⟩), q_ag_refl _ _⟩
      have := of_decide_eq_true (q_b2i_t h); omega
    rw [if_neg h0]
    have st2 : ∀ r, q_Ev m_Md_count 11 [q_r t_Md 0, q_i x] [] (q_mk d b) r → q_Ev m_Md_count 0 [q_r t_Md 0, q_i x] [] (q_mk d b) r := by
      intro r hr
      refine st _ (e_Md_count_5 ⟨fun h => absurd h (by decide), fun _ => ⟨_, _, c_Md_isCell e0, e_Md_count_8 ⟨fun _ => hr, fun h => ?_⟩⟩⟩)
      have := of_decide_eq_false (q_b2i_f h); omega
    by_cases x0 : x = 0
    · rw [if_pos x0]
      exact ⟨d, st2 _ (e_Md_count_11 ⟨fun _ => by rw [e0], fun h => absurd x0 h⟩), q_ag_refl _ _⟩
    rw [if_neg x0]
    by_cases x1 : x = 1
    · rw [if_pos x1]
      exact ⟨d, st2 _ (e_Md_count_11 ⟨fun h => absurd h x0, fun _ => ⟨fun _ => by rw [(eM (by omega)).1], fun h => absurd x1 h⟩⟩), q_ag_refl _ _⟩
    rw [if_neg x1]
    by_cases x2 : x = 2
    · rw [if_pos x2]
      exact ⟨d, st2 _ (e_Md_count_11 ⟨fun h => absurd h x0, fun _ => ⟨fun h => absurd h x1, fun _ => ⟨fun _ => ⟨_, _, c_Md_dimA hv h0 e, e_Md_count_21 rfl⟩, fun h => absurd x2 h⟩⟩⟩), q_ag_refl _ _⟩
    rw [if_neg x2]
    by_cases x3 : x = 3
    · rw [if_pos x3]
      have iv := c_Md_inv_f hn (G := A.2.1.2.1) (fun i h1 h2 => by have := hb.2 i h1 h2; omega) (d := d) (b := b) eF
      exact ⟨d, st2 _ (e_Md_count_11 ⟨fun h => absurd h x0, fun _ => ⟨fun h => absurd h x1, fun _ => ⟨fun h => absurd h x2, fun _ => ⟨fun _ => by rw [e0]; exact ⟨_, _, iv, e_Md_count_27 rfl⟩, fun h => absurd x3 h⟩⟩⟩⟩), q_ag_refl _ _⟩
    rw [if_neg x3]
    by_cases x4 : x = 4
    · rw [if_pos x4]
      exact ⟨d, st2 _ (e_Md_count_11 ⟨fun h => absurd h x0, fun _ => ⟨fun h => absurd h x1, fun _ => ⟨fun h => absurd h x2, fun _ => ⟨fun h => absurd h x3, fun _ => ⟨fun _ => ⟨_, _, e_Md_loops_0 (c_Md_loopsGo hn (Or.inl ⟨rfl, rfl⟩) e0 eF A.2.1.1 0 (by omega)), e_Md_count_31 rfl⟩, fun h => absurd x4 h⟩⟩⟩⟩⟩), q_ag_refl _ _⟩
    rw [if_neg x4]
    by_cases x5 : x = 5
    · rw [if_pos x5]
      exact ⟨d, st2 _ (e_Md_count_11 ⟨fun h => absurd h x0, fun _ => ⟨fun h => absurd h x1, fun _ => ⟨fun h => absurd h x2, fun _ => ⟨fun h => absurd h x3, fun _ => ⟨fun h => absurd h x4, fun _ => ⟨fun _ => ⟨_, _, e_Md_loops_0 (c_Md_loopsGo hn (Or.inr ⟨rfl, rfl⟩) e0 eF A.2.1.1 0 (by omega)), e_Md_count_35 rfl⟩, fun h => absurd x5 h⟩⟩⟩⟩⟩⟩), q_ag_refl _ _⟩
    rw [if_neg x5]
    have x6 : x = 6 := by omega
    rw [if_pos x6]
    obtain ⟨d1, v1, a1⟩ := c_Md_parts hn hq (d := d) (b := b) e0 (eM (by omega)).2.2.1
    exact ⟨d1, st2 _ (e_Md_count_11 ⟨fun h => absurd h x0, fun _ => ⟨fun h => absurd h x1, fun _ => ⟨fun h => absurd h x2, fun _ => ⟨fun h => absurd h x3, fun _ => ⟨fun h => absurd h x4, fun _ => ⟨fun h => absurd h x5, fun _ => ⟨fun _ => ⟨_, _, v1, e_Md_count_38 rfl⟩, fun h => absurd x6 h⟩⟩⟩⟩⟩⟩⟩), a1⟩
  · rw [decide_eq_false h06] at st
    have st2 : ∀ r, q_Ev m_Md_count 11 [q_r t_Md 0, q_i x] [] (q_mk d b) r → q_Ev m_Md_count 0 [q_r t_Md 0, q_i x] [] (q_mk d b) r := fun r hr => st _ (e_Md_count_5 ⟨fun _ => hr, fun h => absurd rfl h⟩)
    refine ⟨d, st2 _ (e_Md_count_11 ⟨fun h => by omega, fun _ => ⟨fun h => by omega, fun _ => ⟨fun h => by omega, fun _ => ⟨fun h => by omega, fun _ => ⟨fun h => by omega, fun _ => ⟨fun h => by omega, fun _ => ⟨fun h => by omega, fun _ => ⟨fun h7 => ?_, fun h7 => ⟨fun h8 => ?_, fun h8 => ⟨fun h9 => ?_, fun h9 => ?_⟩⟩⟩⟩⟩⟩⟩⟩⟩⟩), q_ag_refl _ _⟩
    · rw [if_pos h7, eR.2.1.2.1]
    · rw [if_neg h7, if_pos h8]
      exact ⟨_, _, e_Md_kept_0 (c_Md_keptGo (fun y hy => (eR.2.2.1 y hy).1) 4 0 rfl), e_Md_count_44 rfl⟩
    · rw [if_neg h7, if_neg h8, if_pos h9, eR.1.1]
    · rw [if_neg h7, if_neg h8, if_neg h9]
      by_cases h0 : A.2.1.1 = 0
      · rw [if_pos h0]
      · rw [if_neg h0, if_neg (by omega), if_neg (by omega), if_neg (by omega), if_neg (by omega), if_neg (by omega), if_neg (by omega), if_neg (by omega)]
