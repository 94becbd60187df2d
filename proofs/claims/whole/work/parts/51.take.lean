/-! the class's cell laid anew, from four rows -/
theorem s_dp_lt {fs n i : Nat} (x : Nat → Nat) (hn : n ≤ 8) (h : i ≤ n) : s_dp fs n x i < 256 := s_dr_lt fs i (n - i) _ 0 (by decide) (by omega)
theorem s_plus_lt {n i : Nat} {F : Nat → Nat} (hn : n ≤ 8) (h : i ≤ n) : s_plus n F i < 256 := s_dp_lt _ hn h
/-- the class's cell, laid -/
def s_Ce (n : Nat) (F : Nat → Nat) (d : qD) : Prop := d.1 t_Ce 0 0 = (n : Int) ∧ d.1 t_Ce 0 1 = (q_pc (s_n1 n F n) : Int) ∧ d.1 t_Ce 0 2 = (s_inv F n : Int) ∧ d.1 t_Ce 0 3 = ((s_basL n F 256).length : Int) ∧ s_row (d.1 t_img 0) n F ∧ s_row (d.1 t_nl 0) n (s_nk n F) ∧ s_lst (d.1 t_bl 0) (s_basL n F 256) ∧ (∀ j, j < 256 → d.1 t_inB 0 j = q_b2i (s_bas n F j)) ∧ d.1 t_Di 1 0 = (n : Int) ∧ d.1 t_Di 1 1 = (s_n1 n F n : Int) ∧ s_row (d.1 t_plus 1) n (s_plus n F)
theorem s_Ce_of {n : Nat} {F : Nat → Nat} {d d' : qD} (h : s_Ce n F d) (h1 : d'.1 t_Ce 0 = d.1 t_Ce 0) (h2 : d'.1 t_img 0 = d.1 t_img 0) (h3 : d'.1 t_nl 0 = d.1 t_nl 0) (h4 : d'.1 t_bl 0 = d.1 t_bl 0) (h5 : d'.1 t_inB 0 = d.1 t_inB 0) (h6 : d'.1 t_Di 1 = d.1 t_Di 1) (h7 : d'.1 t_plus 1 = d.1 t_plus 1) : s_Ce n F d' := by
  unfold s_Ce at h ⊢
  rw [h1, h2, h3, h4, h5, h6, h7]
  exact h
theorem s_Ce_ag {n : Nat} {F : Nat → Nat} {S : List Nat} {d d' : qD} (h : s_Ce n F d) (a : q_ag S d d') (hs : t_Ce ∉ S ∧ t_img ∉ S ∧ t_nl ∉ S ∧ t_bl ∉ S ∧ t_inB ∉ S ∧ t_Di ∉ S ∧ t_plus ∉ S) : s_Ce n F d' :=
  s_Ce_of h (a.1 _ hs.1 0) (a.1 _ hs.2.1 0) (a.1 _ hs.2.2.1 0) (a.1 _ hs.2.2.2.1 0) (a.1 _ hs.2.2.2.2.1 0) (a.1 _ hs.2.2.2.2.2.1 1) (a.1 _ hs.2.2.2.2.2.2 1)
theorem c_Ce_take_re {n : Nat} {F : Nat → Nat} (hb : s_bd n F) (hs : s_sur n F) {d : qD} {b : Nat} (eF : s_row (d.1 t_reImg 0) n F) : ∃ d', q_Ev m_Ce_take 0 [q_r t_Ce 0, q_i (n : Int), q_r t_reImg 0, none] [] (q_mk d b) (none, q_mk d' b) ∧ q_ag [t_Ce, t_img, t_nl, t_bl, t_inB, t_Di, t_plus, t_atLeft, t_atTop] d d' ∧ s_Ce n F d' ∧ ∀ c', c' ≠ 1 → d'.1 t_plus c' = d.1 t_plus c' ∧ d'.1 t_Di c' = d.1 t_Di c' := by
  have hn := hb.1
  have cp : ∀ (f i : Nat) (d : qD), i + f = n → d.1 t_Ce 0 0 = (n : Int) → s_row (d.1 t_reImg 0) n F → (∀ k, 1 ≤ k → k ≤ i → d.1 t_img 0 k = (F k : Int)) → ∃ d', (∀ r, q_Ev m_Ce_take 5 [q_r t_Ce 0, none, q_r t_reImg 0, q_i ((n + 1 : Nat) : Int)] [] (q_mk d' b) r → q_Ev m_Ce_take 5 [q_r t_Ce 0, none, q_r t_reImg 0, q_i ((i + 1 : Nat) : Int)] [] (q_mk d b) r) ∧ q_ag [t_img] d d' ∧ s_row (d'.1 t_img 0) n F := by
    intro f
    induction f with
    | zero =>
      intro i d h e0 eS eI
      have : i = n := by omega
      subst this
      exact ⟨d, fun r hr => hr, q_ag_refl _ _, eI⟩
    | succ f ih =>
      intro i d h e0 eS eI
      obtain ⟨d', v, a, r⟩ := ih (i + 1) (q_sI d t_img 0 (i + 1) (F (i + 1) : Int)) (by omega) (by rw [q_sI_ne _ _ (by decide), e0]) (by rw [q_sI_ne _ _ (by decide)]; exact eS) (by
        intro k h1 h2
        rw [q_sI_at]
        by_cases hq : k = i + 1
        · subst hq; rw [q_up_at]
        · rw [q_up_ne _ _ hq]; exact eI k h1 (by omega))
      refine ⟨d', fun r hr => e_Ce_take_re_5 ⟨fun h2 => ?_, fun _ => ⟨by omega, by omega, by omega, by omega, ?_⟩⟩, q_ag_tr (q_ag_sI (by decide)) a, r⟩
      · rw [e0] at h2; omega
      · rw [q_wS (by omega), Int.toNat_natCast, eS (i + 1) (by omega) (by omega)]; exact v r hr
  obtain ⟨d1, v1, a1, r1⟩ := cp n 0 (q_sI d t_Ce 0 0 (n : Int)) (by omega) (by rw [q_sI_at, q_up_at]) (by rw [q_sI_ne _ _ (by decide)]; exact eF) (fun k h1 h2 => by omega)
  have e10 : d1.1 t_Ce 0 0 = (n : Int) := by rw [a1.1 t_Ce (by decide), q_sI_at, q_up_at]
  obtain ⟨d2, v2, a2, x2, y2, z2⟩ := c_Ce_layNecklace hb (d := d1) (b := b) e10 r1
  obtain ⟨d3, v3, a3, x3, y3, z3⟩ := c_Ce_layBases hb (b := b) 256 0 (q_sI d2 t_Ce 0 3 0) rfl (by rw [q_sI_at, q_up_ne _ _ (by decide), x2, q_up_ne _ _ (by decide), e10]) (by rw [q_sI_at, q_up_ne _ _ (by decide), x2, q_up_at]) (by rw [q_sI_ne _ _ (by decide)]; exact z2) (by rw [q_sI_at, q_up_at]; rfl) (fun k hk => absurd hk (Nat.not_lt_zero k)) (fun j hj => by omega)
  have e30 : d3.1 t_Ce 0 0 = (n : Int) := by rw [x3, q_up_ne _ _ (by decide), q_sI_at, q_up_ne _ _ (by decide), x2, q_up_ne _ _ (by decide), e10]
  have eI3 : s_row (d3.1 t_img 0) n F := by rw [a3.1 t_img (by decide), q_sI_ne _ _ (by decide), a2.1 t_img (by decide)]; exact r1
  have iv := c_Ce_inv_im hn (G := F) (fun i h1 h2 => by have := hb.2 i h1 h2; omega) (d := d3) (b := b) eI3
  obtain ⟨d5, v5, a5, p0, p1, pp, pc⟩ := c_Di_drawFor (c := 1) hb hs (d := q_sI d3 t_Ce 0 2 (s_inv F n : Int)) (b := b) (by rw [q_sI_at, q_up_ne _ _ (by decide), e30]) (by rw [q_sI_ne _ _ (by decide)]; exact eI3) (by rw [q_sI_ne _ _ (by decide), a3.1 t_nl (by decide), q_sI_ne _ _ (by decide), y2])
  have w : d5.1 t_Ce 0 = q_up (d3.1 t_Ce 0) 2 (s_inv F n : Int) := by rw [a5.1 t_Ce (by decide), q_sI_at]
  refine ⟨d5, e_Ce_take_re_0 (v1 _ (e_Ce_take_re_5 ⟨fun _ => ⟨_, _, v2, e_Ce_take_re_20 ⟨_, _, e_Ce_layBases_0 v3, e_Ce_take_re_22 ?_⟩⟩, fun h => ?_⟩)), ?_, ⟨?_, ?_, ?_, ?_, ?_, ?_, ?_, ?_, p0, p1, fun k h1 h2 => pp k h1 h2⟩, ?_⟩
  · rw [e30]
    exact ⟨_, _, iv, e_Ce_take_re_28 ⟨_, _, v5, e_Ce_take_re_33 rfl⟩⟩
  · rw [e10] at h; omega
  · exact q_ag_tr (q_ag_sI (by decide)) (q_ag_tr (q_ag_up a1 (by decide)) (q_ag_tr (q_ag_up a2 (by decide)) (q_ag_tr (q_ag_sI (by decide)) (q_ag_tr (q_ag_up a3 (by decide)) (q_ag_tr (q_ag_sI (by decide)) (q_ag_up a5 (by decide)))))))
  · rw [w, q_up_ne _ _ (by decide), e30]
  · rw [w, q_up_ne _ _ (by decide), x3, q_up_ne _ _ (by decide), q_sI_at, q_up_ne _ _ (by decide), x2, q_up_at]
  · rw [w, q_up_at]
  · rw [w, q_up_ne _ _ (by decide), x3, q_up_at]
  · rw [a5.1 t_img (by decide), q_sI_ne _ _ (by decide)]; exact eI3
  · rw [a5.1 t_nl (by decide), q_sI_ne _ _ (by decide), a3.1 t_nl (by decide), q_sI_ne _ _ (by decide)]; exact z2
  · rw [a5.1 t_bl (by decide), q_sI_ne _ _ (by decide)]; exact y3
  · rw [a5.1 t_inB (by decide), q_sI_ne _ _ (by decide)]; exact z3
  · intro c' hc
    rw [(pc c' hc).1, (pc c' hc).2, q_sI_ne _ _ (by decide), q_sI_ne _ _ (by decide), a3.1 t_plus (by decide), a3.1 t_Di (by decide), q_sI_ne _ _ (by decide), q_sI_ne _ _ (by decide), a2.1 t_plus (by decide), a2.1 t_Di (by decide), a1.1 t_plus (by decide), a1.1 t_Di (by decide), q_sI_ne _ _ (by decide), q_sI_ne _ _ (by decide)]
    exact ⟨rfl, rfl⟩
theorem c_Ce_take_sc {n : Nat} {F : Nat → Nat} (hb : s_bd n F) (hs : s_sur n F) {d : qD} {b : Nat} (eF : s_row (d.1 t_scratch 0) n F) : ∃ d', q_Ev m_Ce_take 0 [q_r t_Ce 0, q_i (n : Int), q_r t_scratch 0, none] [] (q_mk d b) (none, q_mk d' b) ∧ q_ag [t_Ce, t_img, t_nl, t_bl, t_inB, t_Di, t_plus, t_atLeft, t_atTop] d d' ∧ s_Ce n F d' ∧ ∀ c', c' ≠ 1 → d'.1 t_plus c' = d.1 t_plus c' ∧ d'.1 t_Di c' = d.1 t_Di c' := by
  have hn := hb.1
  have cp : ∀ (f i : Nat) (d : qD), i + f = n → d.1 t_Ce 0 0 = (n : Int) → s_row (d.1 t_scratch 0) n F → (∀ k, 1 ≤ k → k ≤ i → d.1 t_img 0 k = (F k : Int)) → ∃ d', (∀ r, q_Ev m_Ce_take 5 [q_r t_Ce 0, none, q_r t_scratch 0, q_i ((n + 1 : Nat) : Int)] [] (q_mk d' b) r → q_Ev m_Ce_take 5 [q_r t_Ce 0, none, q_r t_scratch 0, q_i ((i + 1 : Nat) : Int)] [] (q_mk d b) r) ∧ q_ag [t_img] d d' ∧ s_row (d'.1 t_img 0) n F := by
    intro f
    induction f with
    | zero =>
      intro i d h e0 eS eI
      have : i = n := by omega
      subst this
      exact ⟨d, fun r hr => hr, q_ag_refl _ _, eI⟩
    | succ f ih =>
      intro i d h e0 eS eI
      obtain ⟨d', v, a, r⟩ := ih (i + 1) (q_sI d t_img 0 (i + 1) (F (i + 1) : Int)) (by omega) (by rw [q_sI_ne _ _ (by decide), e0]) (by rw [q_sI_ne _ _ (by decide)]; exact eS) (by
        intro k h1 h2
        rw [q_sI_at]
        by_cases hq : k = i + 1
        · subst hq; rw [q_up_at]
        · rw [q_up_ne _ _ hq]; exact eI k h1 (by omega))
      refine ⟨d', fun r hr => e_Ce_take_sc_5 ⟨fun h2 => ?_, fun _ => ⟨by omega, by omega, by omega, by omega, ?_⟩⟩, q_ag_tr (q_ag_sI (by decide)) a, r⟩
      · rw [e0] at h2; omega
      · rw [q_wS (by omega), Int.toNat_natCast, eS (i + 1) (by omega) (by omega)]; exact v r hr
  obtain ⟨d1, v1, a1, r1⟩ := cp n 0 (q_sI d t_Ce 0 0 (n : Int)) (by omega) (by rw [q_sI_at, q_up_at]) (by rw [q_sI_ne _ _ (by decide)]; exact eF) (fun k h1 h2 => by omega)
  have e10 : d1.1 t_Ce 0 0 = (n : Int) := by rw [a1.1 t_Ce (by decide), q_sI_at, q_up_at]
  obtain ⟨d2, v2, a2, x2, y2, z2⟩ := c_Ce_layNecklace hb (d := d1) (b := b) e10 r1
  obtain ⟨d3, v3, a3, x3, y3, z3⟩ := c_Ce_layBases hb (b := b) 256 0 (q_sI d2 t_Ce 0 3 0) rfl (by rw [q_sI_at, q_up_ne _ _ (by decide), x2, q_up_ne _ _ (by decide), e10]) (by rw [q_sI_at, q_up_ne _ _ (by decide), x2, q_up_at]) (by rw [q_sI_ne _ _ (by decide)]; exact z2) (by rw [q_sI_at, q_up_at]; rfl) (fun k hk => absurd hk (Nat.not_lt_zero k)) (fun j hj => by omega)
  have e30 : d3.1 t_Ce 0 0 = (n : Int) := by rw [x3, q_up_ne _ _ (by decide), q_sI_at, q_up_ne _ _ (by decide), x2, q_up_ne _ _ (by decide), e10]
  have eI3 : s_row (d3.1 t_img 0) n F := by rw [a3.1 t_img (by decide), q_sI_ne _ _ (by decide), a2.1 t_img (by decide)]; exact r1
  have iv := c_Ce_inv_im hn (G := F) (fun i h1 h2 => by have := hb.2 i h1 h2; omega) (d := d3) (b := b) eI3
  obtain ⟨d5, v5, a5, p0, p1, pp, pc⟩ := c_Di_drawFor (c := 1) hb hs (d := q_sI d3 t_Ce 0 2 (s_inv F n : Int)) (b := b) (by rw [q_sI_at, q_up_ne _ _ (by decide), e30]) (by rw [q_sI_ne _ _ (by decide)]; exact eI3) (by rw [q_sI_ne _ _ (by decide), a3.1 t_nl (by decide), q_sI_ne _ _ (by decide), y2])
  have w : d5.1 t_Ce 0 = q_up (d3.1 t_Ce 0) 2 (s_inv F n : Int) := by rw [a5.1 t_Ce (by decide), q_sI_at]
  refine ⟨d5, e_Ce_take_sc_0 (v1 _ (e_Ce_take_sc_5 ⟨fun _ => ⟨_, _, v2, e_Ce_take_sc_20 ⟨_, _, e_Ce_layBases_0 v3, e_Ce_take_sc_22 ?_⟩⟩, fun h => ?_⟩)), ?_, ⟨?_, ?_, ?_, ?_, ?_, ?_, ?_, ?_, p0, p1, fun k h1 h2 => pp k h1 h2⟩, ?_⟩
  · rw [e30]
    exact ⟨_, _, iv, e_Ce_take_sc_28 ⟨_, _, v5, e_Ce_take_sc_33 rfl⟩⟩
  · rw [e10] at h; omega
  · exact q_ag_tr (q_ag_sI (by decide)) (q_ag_tr (q_ag_up a1 (by decide)) (q_ag_tr (q_ag_up a2 (by decide)) (q_ag_tr (q_ag_sI (by decide)) (q_ag_tr (q_ag_up a3 (by decide)) (q_ag_tr (q_ag_sI (by decide)) (q_ag_up a5 (by decide)))))))
  · rw [w, q_up_ne _ _ (by decide), e30]
  · rw [w, q_up_ne _ _ (by decide), x3, q_up_ne _ _ (by decide), q_sI_at, q_up_ne _ _ (by decide), x2, q_up_at]
  · rw [w, q_up_at]
  · rw [w, q_up_ne _ _ (by decide), x3, q_up_at]
  · rw [a5.1 t_img (by decide), q_sI_ne _ _ (by decide)]; exact eI3
  · rw [a5.1 t_nl (by decide), q_sI_ne _ _ (by decide), a3.1 t_nl (by decide), q_sI_ne _ _ (by decide)]; exact z2
  · rw [a5.1 t_bl (by decide), q_sI_ne _ _ (by decide)]; exact y3
  · rw [a5.1 t_inB (by decide), q_sI_ne _ _ (by decide)]; exact z3
  · intro c' hc
    rw [(pc c' hc).1, (pc c' hc).2, q_sI_ne _ _ (by decide), q_sI_ne _ _ (by decide), a3.1 t_plus (by decide), a3.1 t_Di (by decide), q_sI_ne _ _ (by decide), q_sI_ne _ _ (by decide), a2.1 t_plus (by decide), a2.1 t_Di (by decide), a1.1 t_plus (by decide), a1.1 t_Di (by decide), q_sI_ne _ _ (by decide), q_sI_ne _ _ (by decide)]
    exact ⟨rfl, rfl⟩
theorem c_Ce_take_ne {n : Nat} {F : Nat → Nat} (hb : s_bd n F) (hs : s_sur n F) {d : qD} {b : Nat} (eF : s_row (d.1 t_neImg 0) n F) : ∃ d', q_Ev m_Ce_take 0 [q_r t_Ce 0, q_i (n : Int), q_r t_neImg 0, none] [] (q_mk d b) (none, q_mk d' b) ∧ q_ag [t_Ce, t_img, t_nl, t_bl, t_inB, t_Di, t_plus, t_atLeft, t_atTop] d d' ∧ s_Ce n F d' ∧ ∀ c', c' ≠ 1 → d'.1 t_plus c' = d.1 t_plus c' ∧ d'.1 t_Di c' = d.1 t_Di c' := by
  have hn := hb.1
  have cp : ∀ (f i : Nat) (d : qD), i + f = n → d.1 t_Ce 0 0 = (n : Int) → s_row (d.1 t_neImg 0) n F → (∀ k, 1 ≤ k → k ≤ i → d.1 t_img 0 k = (F k : Int)) → ∃ d', (∀ r, q_Ev m_Ce_take 5 [q_r t_Ce 0, none, q_r t_neImg 0, q_i ((n + 1 : Nat) : Int)] [] (q_mk d' b) r → q_Ev m_Ce_take 5 [q_r t_Ce 0, none, q_r t_neImg 0, q_i ((i + 1 : Nat) : Int)] [] (q_mk d b) r) ∧ q_ag [t_img] d d' ∧ s_row (d'.1 t_img 0) n F := by
    intro f
    induction f with
    | zero =>
      intro i d h e0 eS eI
      have : i = n := by omega
      subst this
      exact ⟨d, fun r hr => hr, q_ag_refl _ _, eI⟩
    | succ f ih =>
      intro i d h e0 eS eI
      obtain ⟨d', v, a, r⟩ := ih (i + 1) (q_sI d t_img 0 (i + 1) (F (i + 1) : Int)) (by omega) (by rw [q_sI_ne _ _ (by decide), e0]) (by rw [q_sI_ne _ _ (by decide)]; exact eS) (by
        intro k h1 h2
        rw [q_sI_at]
        by_cases hq : k = i + 1
        · subst hq; rw [q_up_at]
        · rw [q_up_ne _ _ hq]; exact eI k h1 (by omega))
      refine ⟨d', fun r hr => e_Ce_take_ne_5 ⟨fun h2 => ?_, fun _ => ⟨by omega, by omega, by omega, by omega, ?_⟩⟩, q_ag_tr (q_ag_sI (by decide)) a, r⟩
      · rw [e0] at h2; omega
      · rw [q_wS (by omega), Int.toNat_natCast, eS (i + 1) (by omega) (by omega)]; exact v r hr
  obtain ⟨d1, v1, a1, r1⟩ := cp n 0 (q_sI d t_Ce 0 0 (n : Int)) (by omega) (by rw [q_sI_at, q_up_at]) (by rw [q_sI_ne _ _ (by decide)]; exact eF) (fun k h1 h2 => by omega)
  have e10 : d1.1 t_Ce 0 0 = (n : Int) := by rw [a1.1 t_Ce (by decide), q_sI_at, q_up_at]
  obtain ⟨d2, v2, a2, x2, y2, z2⟩ := c_Ce_layNecklace hb (d := d1) (b := b) e10 r1
  obtain ⟨d3, v3, a3, x3, y3, z3⟩ := c_Ce_layBases hb (b := b) 256 0 (q_sI d2 t_Ce 0 3 0) rfl (by rw [q_sI_at, q_up_ne _ _ (by decide), x2, q_up_ne _ _ (by decide), e10]) (by rw [q_sI_at, q_up_ne _ _ (by decide), x2, q_up_at]) (by rw [q_sI_ne _ _ (by decide)]; exact z2) (by rw [q_sI_at, q_up_at]; rfl) (fun k hk => absurd hk (Nat.not_lt_zero k)) (fun j hj => by omega)
  have e30 : d3.1 t_Ce 0 0 = (n : Int) := by rw [x3, q_up_ne _ _ (by decide), q_sI_at, q_up_ne _ _ (by decide), x2, q_up_ne _ _ (by decide), e10]
  have eI3 : s_row (d3.1 t_img 0) n F := by rw [a3.1 t_img (by decide), q_sI_ne _ _ (by decide), a2.1 t_img (by decide)]; exact r1
  have iv := c_Ce_inv_im hn (G := F) (fun i h1 h2 => by have := hb.2 i h1 h2; omega) (d := d3) (b := b) eI3
  obtain ⟨d5, v5, a5, p0, p1, pp, pc⟩ := c_Di_drawFor (c := 1) hb hs (d := q_sI d3 t_Ce 0 2 (s_inv F n : Int)) (b := b) (by rw [q_sI_at, q_up_ne _ _ (by decide), e30]) (by rw [q_sI_ne _ _ (by decide)]; exact eI3) (by rw [q_sI_ne _ _ (by decide), a3.1 t_nl (by decide), q_sI_ne _ _ (by decide), y2])
  have w : d5.1 t_Ce 0 = q_up (d3.1 t_Ce 0) 2 (s_inv F n : Int) := by rw [a5.1 t_Ce (by decide), q_sI_at]
  refine ⟨d5, e_Ce_take_ne_0 (v1 _ (e_Ce_take_ne_5 ⟨fun _ => ⟨_, _, v2, e_Ce_take_ne_20 ⟨_, _, e_Ce_layBases_0 v3, e_Ce_take_ne_22 ?_⟩⟩, fun h => ?_⟩)), ?_, ⟨?_, ?_, ?_, ?_, ?_, ?_, ?_, ?_, p0, p1, fun k h1 h2 => pp k h1 h2⟩, ?_⟩
  · rw [e30]
    exact ⟨_, _, iv, e_Ce_take_ne_28 ⟨_, _, v5, e_Ce_take_ne_33 rfl⟩⟩
  · rw [e10] at h; omega
  · exact q_ag_tr (q_ag_sI (by decide)) (q_ag_tr (q_ag_up a1 (by decide)) (q_ag_tr (q_ag_up a2 (by decide)) (q_ag_tr (q_ag_sI (by decide)) (q_ag_tr (q_ag_up a3 (by decide)) (q_ag_tr (q_ag_sI (by decide)) (q_ag_up a5 (by decide)))))))
  · rw [w, q_up_ne _ _ (by decide), e30]
  · rw [w, q_up_ne _ _ (by decide), x3, q_up_ne _ _ (by decide), q_sI_at, q_up_ne _ _ (by decide), x2, q_up_at]
  · rw [w, q_up_at]
  · rw [w, q_up_ne _ _ (by decide), x3, q_up_at]
  · rw [a5.1 t_img (by decide), q_sI_ne _ _ (by decide)]; exact eI3
  · rw [a5.1 t_nl (by decide), q_sI_ne _ _ (by decide), a3.1 t_nl (by decide), q_sI_ne _ _ (by decide)]; exact z2
  · rw [a5.1 t_bl (by decide), q_sI_ne _ _ (by decide)]; exact y3
  · rw [a5.1 t_inB (by decide), q_sI_ne _ _ (by decide)]; exact z3
  · intro c' hc
    rw [(pc c' hc).1, (pc c' hc).2, q_sI_ne _ _ (by decide), q_sI_ne _ _ (by decide), a3.1 t_plus (by decide), a3.1 t_Di (by decide), q_sI_ne _ _ (by decide), q_sI_ne _ _ (by decide), a2.1 t_plus (by decide), a2.1 t_Di (by decide), a1.1 t_plus (by decide), a1.1 t_Di (by decide), q_sI_ne _ _ (by decide), q_sI_ne _ _ (by decide)]
    exact ⟨rfl, rfl⟩
theorem c_Ce_take_mo {n c2 : Nat} {F : Nat → Nat} (hb : s_bd n F) (hs : s_sur n F) {d : qD} {b : Nat} (eF : s_row (d.1 t_moImg c2) n F) : ∃ d', q_Ev m_Ce_take 0 [q_r t_Ce 0, q_i (n : Int), q_r t_moImg c2, none] [] (q_mk d b) (none, q_mk d' b) ∧ q_ag [t_Ce, t_img, t_nl, t_bl, t_inB, t_Di, t_plus, t_atLeft, t_atTop] d d' ∧ s_Ce n F d' ∧ ∀ c', c' ≠ 1 → d'.1 t_plus c' = d.1 t_plus c' ∧ d'.1 t_Di c' = d.1 t_Di c' := by
  have hn := hb.1
  have cp : ∀ (f i : Nat) (d : qD), i + f = n → d.1 t_Ce 0 0 = (n : Int) → s_row (d.1 t_moImg c2) n F → (∀ k, 1 ≤ k → k ≤ i → d.1 t_img 0 k = (F k : Int)) → ∃ d', (∀ r, q_Ev m_Ce_take 5 [q_r t_Ce 0, none, q_r t_moImg c2, q_i ((n + 1 : Nat) : Int)] [] (q_mk d' b) r → q_Ev m_Ce_take 5 [q_r t_Ce 0, none, q_r t_moImg c2, q_i ((i + 1 : Nat) : Int)] [] (q_mk d b) r) ∧ q_ag [t_img] d d' ∧ s_row (d'.1 t_img 0) n F := by
    intro f
    induction f with
    | zero =>
      intro i d h e0 eS eI
      have : i = n := by omega
      subst this
      exact ⟨d, fun r hr => hr, q_ag_refl _ _, eI⟩
    | succ f ih =>
      intro i d h e0 eS eI
      obtain ⟨d', v, a, r⟩ := ih (i + 1) (q_sI d t_img 0 (i + 1) (F (i + 1) : Int)) (by omega) (by rw [q_sI_ne _ _ (by decide), e0]) (by rw [q_sI_ne _ _ (by decide)]; exact eS) (by
        intro k h1 h2
        rw [q_sI_at]
        by_cases hq : k = i + 1
        · subst hq; rw [q_up_at]
        · rw [q_up_ne _ _ hq]; exact eI k h1 (by omega))
      refine ⟨d', fun r hr => e_Ce_take_mo_5 ⟨fun h2 => ?_, fun _ => ⟨by omega, by omega, by omega, by omega, ?_⟩⟩, q_ag_tr (q_ag_sI (by decide)) a, r⟩
      · rw [e0] at h2; omega
      · rw [q_wS (by omega), Int.toNat_natCast, eS (i + 1) (by omega) (by omega)]; exact v r hr
  obtain ⟨d1, v1, a1, r1⟩ := cp n 0 (q_sI d t_Ce 0 0 (n : Int)) (by omega) (by rw [q_sI_at, q_up_at]) (by rw [q_sI_ne _ _ (by decide)]; exact eF) (fun k h1 h2 => by omega)
  have e10 : d1.1 t_Ce 0 0 = (n : Int) := by rw [a1.1 t_Ce (by decide), q_sI_at, q_up_at]
  obtain ⟨d2, v2, a2, x2, y2, z2⟩ := c_Ce_layNecklace hb (d := d1) (b := b) e10 r1
  obtain ⟨d3, v3, a3, x3, y3, z3⟩ := c_Ce_layBases hb (b := b) 256 0 (q_sI d2 t_Ce 0 3 0) rfl (by rw [q_sI_at, q_up_ne _ _ (by decide), x2, q_up_ne _ _ (by decide), e10]) (by rw [q_sI_at, q_up_ne _ _ (by decide), x2, q_up_at]) (by rw [q_sI_ne _ _ (by decide)]; exact z2) (by rw [q_sI_at, q_up_at]; rfl) (fun k hk => absurd hk (Nat.not_lt_zero k)) (fun j hj => by omega)
  have e30 : d3.1 t_Ce 0 0 = (n : Int) := by rw [x3, q_up_ne _ _ (by decide), q_sI_at, q_up_ne _ _ (by decide), x2, q_up_ne _ _ (by decide), e10]
  have eI3 : s_row (d3.1 t_img 0) n F := by rw [a3.1 t_img (by decide), q_sI_ne _ _ (by decide), a2.1 t_img (by decide)]; exact r1
  have iv := c_Ce_inv_im hn (G := F) (fun i h1 h2 => by have := hb.2 i h1 h2; omega) (d := d3) (b := b) eI3
  obtain ⟨d5, v5, a5, p0, p1, pp, pc⟩ := c_Di_drawFor (c := 1) hb hs (d := q_sI d3 t_Ce 0 2 (s_inv F n : Int)) (b := b) (by rw [q_sI_at, q_up_ne _ _ (by decide), e30]) (by rw [q_sI_ne _ _ (by decide)]; exact eI3) (by rw [q_sI_ne _ _ (by decide), a3.1 t_nl (by decide), q_sI_ne _ _ (by decide), y2])
  have w : d5.1 t_Ce 0 = q_up (d3.1 t_Ce 0) 2 (s_inv F n : Int) := by rw [a5.1 t_Ce (by decide), q_sI_at]
  refine ⟨d5, e_Ce_take_mo_0 (v1 _ (e_Ce_take_mo_5 ⟨fun _ => ⟨_, _, v2, e_Ce_take_mo_20 ⟨_, _, e_Ce_layBases_0 v3, e_Ce_take_mo_22 ?_⟩⟩, fun h => ?_⟩)), ?_, ⟨?_, ?_, ?_, ?_, ?_, ?_, ?_, ?_, p0, p1, fun k h1 h2 => pp k h1 h2⟩, ?_⟩
  · rw [e30]
    exact ⟨_, _, iv, e_Ce_take_mo_28 ⟨_, _, v5, e_Ce_take_mo_33 rfl⟩⟩
  · rw [e10] at h; omega
  · exact q_ag_tr (q_ag_sI (by decide)) (q_ag_tr (q_ag_up a1 (by decide)) (q_ag_tr (q_ag_up a2 (by decide)) (q_ag_tr (q_ag_sI (by decide)) (q_ag_tr (q_ag_up a3 (by decide)) (q_ag_tr (q_ag_sI (by decide)) (q_ag_up a5 (by decide)))))))
  · rw [w, q_up_ne _ _ (by decide), e30]
  · rw [w, q_up_ne _ _ (by decide), x3, q_up_ne _ _ (by decide), q_sI_at, q_up_ne _ _ (by decide), x2, q_up_at]
  · rw [w, q_up_at]
  · rw [w, q_up_ne _ _ (by decide), x3, q_up_at]
  · rw [a5.1 t_img (by decide), q_sI_ne _ _ (by decide)]; exact eI3
  · rw [a5.1 t_nl (by decide), q_sI_ne _ _ (by decide), a3.1 t_nl (by decide), q_sI_ne _ _ (by decide)]; exact z2
  · rw [a5.1 t_bl (by decide), q_sI_ne _ _ (by decide)]; exact y3
  · rw [a5.1 t_inB (by decide), q_sI_ne _ _ (by decide)]; exact z3
  · intro c' hc
    rw [(pc c' hc).1, (pc c' hc).2, q_sI_ne _ _ (by decide), q_sI_ne _ _ (by decide), a3.1 t_plus (by decide), a3.1 t_Di (by decide), q_sI_ne _ _ (by decide), q_sI_ne _ _ (by decide), a2.1 t_plus (by decide), a2.1 t_Di (by decide), a1.1 t_plus (by decide), a1.1 t_Di (by decide), q_sI_ne _ _ (by decide), q_sI_ne _ _ (by decide)]
    exact ⟨rfl, rfl⟩
