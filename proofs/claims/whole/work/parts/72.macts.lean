/-! the model's picture of the state; what follows from F; acts -/
def s_wrd : Nat → Int
  | 0 => 112
  | 1 => 101
  | 2 => 114
  | 3 => 109
  | 4 => 102
  | 5 => 105
  | 6 => 108
  | 7 => 108
  | 8 => 110
  | 9 => 101
  | 10 => 99
  | _ => 107
/-- all but the cell and its cluster -/
def s_MR (A : s_A) (d : qD) : Prop := (d.1 t_Md 0 1 = (A.1.1 : Int) ∧ ∀ k, k < A.1.1 → q_and (d.1 t_mTape 0 k) 255 = A.1.2 k) ∧ s_mP A.2.2.1 d ∧ (∀ x, x < 4 → d.1 t_mShN 0 x = ((A.2.2.2 x).1 : Int) ∧ ∀ i, 1 ≤ i → i ≤ (A.2.2.2 x).1 → d.1 t_mShF 0 (10 * x + i) = ((A.2.2.2 x).2 i : Int)) ∧ ∀ k, k < 12 → d.1 t_mWords 0 k = s_wrd k
def s_MD (A : s_A) (d : qD) : Prop := s_MR A d ∧ d.1 t_Md 0 10 = (A.2.1.1 : Int) ∧ s_row (d.1 t_mF 0) A.2.1.1 A.2.1.2.1 ∧ (0 < A.2.1.1 → s_Mc A.2.1.1 A.2.1.2.1 d) ∧ ∀ j, j < 256 → d.1 t_mInC 0 j = q_b2i (A.2.1.2.2 j)
theorem s_mP_of {Hs : List s_H} {d d' : qD} (e : s_mP Hs d) (h1 : d'.1 t_Md 0 20 = d.1 t_Md 0 20) (h2 : d'.1 t_mWas 0 = d.1 t_mWas 0) : s_mP Hs d' := by
  unfold s_mP at e ⊢
  rw [h1, h2]; exact e
theorem s_MR_of {A A' : s_A} {d d' : qD} (e : s_MR A d) (hA : A'.1 = A.1 ∧ A'.2.2.2 = A.2.2.2) (hP : s_mP A'.2.2.1 d') (h1 : d'.1 t_Md 0 1 = d.1 t_Md 0 1) (h2 : d'.1 t_mTape 0 = d.1 t_mTape 0) (h3 : d'.1 t_mShN 0 = d.1 t_mShN 0) (h4 : d'.1 t_mShF 0 = d.1 t_mShF 0) (h5 : d'.1 t_mWords 0 = d.1 t_mWords 0) : s_MR A' d' := by
  obtain ⟨e1, e2, e3, e4⟩ := e
  refine ⟨?_, hP, ?_, ?_⟩
  · rw [hA.1, h1, h2]; exact e1
  · rw [hA.2, h3, h4]; exact e3
  · rw [h5]; exact e4
theorem s_Mc_of {n : Nat} {F : Nat → Nat} {d d' : qD} (e : s_Mc n F d) (h1 : d'.1 t_Md 0 12 = d.1 t_Md 0 12) (h2 : d'.1 t_mNeck 0 = d.1 t_mNeck 0) (h3 : d'.1 t_mIsB 0 = d.1 t_mIsB 0) (h4 : d'.1 t_mBoxes 0 = d.1 t_mBoxes 0) : s_Mc n F d' := by
  unfold s_Mc s_Bx at e ⊢
  rw [h1, h2, h3, h4]; exact e
/-- nothing that the picture speaks of has changed -/
theorem s_MD_ag {A : s_A} {S : List Nat} {d d' : qD} (e : s_MD A d) (a : q_ag S d d') (hs : ∀ t ∈ S, t ∉ [t_Md, t_mTape, t_mWords, t_mF, t_mNeck, t_mIsB, t_mInC, t_mBoxes, t_mWas, t_mShN, t_mShF]) : s_MD A d' := by
  have g : ∀ t, t ∈ [t_Md, t_mTape, t_mWords, t_mF, t_mNeck, t_mIsB, t_mInC, t_mBoxes, t_mWas, t_mShN, t_mShF] → ∀ i, d'.1 t i = d.1 t i := fun t ht i => a.1 t (fun hh => hs t hh ht) i
  obtain ⟨e1, e2, e3, e4, e5⟩ := e
  refine ⟨s_MR_of e1 ⟨rfl, rfl⟩ (s_mP_of e1.2.1 (by rw [g t_Md (by decide)]) (g _ (by decide) _)) (by rw [g t_Md (by decide)]) (g _ (by decide) _) (g _ (by decide) _) (g _ (by decide) _) (g _ (by decide) _), ?_, ?_, fun h => s_Mc_of (e4 h) (by rw [g t_Md (by decide)]) (g _ (by decide) _) (g _ (by decide) _) (g _ (by decide) _), ?_⟩
  · rw [g t_Md (by decide)]; exact e2
  · rw [g t_mF (by decide)]; exact e3
  · rw [g t_mInC (by decide)]; exact e5
theorem c_Md_follows {n : Nat} {F : Nat → Nat} (h : s_ok n F) {d : qD} {b : Nat} (e0 : d.1 t_Md 0 10 = (n : Int)) (eF : s_row (d.1 t_mF 0) n F) : ∃ d', q_Ev m_Md_follows 0 [q_r t_Md 0] [] (q_mk d b) (none, q_mk d' b) ∧ q_ag [t_Md, t_mNeck, t_mIsB, t_mBoxes] d d' ∧ d'.1 t_Md 0 = q_up (d.1 t_Md 0) 12 (q_pc (s_n1 n F n) : Int) ∧ s_Mc n F d' := by
  have hb := s_ok_bd h
  have h0 := h.1
  obtain ⟨d1, v1, a1, g1, r1⟩ := c_Md_laysNeck hb (by omega) (d := d) (b := b) e0 eF
  have e01 : d1.1 t_Md 0 10 = (n : Int) := by rw [g1, q_up_ne _ _ (by decide), e0]
  obtain ⟨d2, v2, a2, r2⟩ := c_Md_laysBases hb (by omega) (b := b) 256 0 d1 rfl e01 (by rw [g1, q_up_at]) r1 (fun j hj => by omega)
  have r12 : s_row (d2.1 t_mNeck 0) n (s_nk n F) := by rw [a2.1 t_mNeck (by decide)]; exact r1
  obtain ⟨d3, v3, a3, r3⟩ := c_Md_laysDiagram h (d := d2) (b := b) (by rw [a2.1 t_Md (by decide), e01]) (by rw [a2.1 t_mF (by decide), a1.1 t_mF (by decide)]; exact eF) r12
  refine ⟨d3, e_Md_follows_0 ⟨_, _, v1, e_Md_follows_2 ⟨_, _, e_Md_laysBases_0 v2, e_Md_follows_4 ⟨_, _, v3, e_Md_follows_6 rfl⟩⟩⟩, q_ag_tr (q_ag_up a1 (by decide)) (q_ag_tr (q_ag_up a2 (by decide)) (q_ag_up a3 (by decide))), ?_, ?_, ?_, ?_, r3⟩
  · rw [a3.1 t_Md (by decide), a2.1 t_Md (by decide), g1]
  · rw [a3.1 t_Md (by decide), a2.1 t_Md (by decide), g1, q_up_at]
  · rw [a3.1 t_mNeck (by decide)]; exact r12
  · rw [a3.1 t_mIsB (by decide)]; exact r2
theorem c_Md_changes {A : s_A} {n : Nat} {F : Nat → Nat} (h : s_ok n F) {d : qD} {b : Nat} (eR : s_MR A d) (e0 : d.1 t_Md 0 10 = (n : Int)) (eF : s_row (d.1 t_mF 0) n F) : ∃ d', q_Ev m_Md_changes 0 [q_r t_Md 0] [] (q_mk d b) (none, q_mk d' b) ∧ q_ag [t_Md, t_mNeck, t_mIsB, t_mBoxes, t_mInC] d d' ∧ s_MD (A.1, (n, F, s_clus n F), A.2.2) d' := by
  have hb := s_ok_bd h
  obtain ⟨d1, v1, a1, g1, r1⟩ := c_Md_follows h (d := d) (b := b) e0 eF
  have e01 : d1.1 t_Md 0 10 = (n : Int) := by rw [g1, q_up_ne _ _ (by decide), e0]
  obtain ⟨d2, v2, a2, r2⟩ := c_Md_laysCluster hb (d := d1) (b := b) e01 r1.2.1 r1.2.2.1
  refine ⟨d2, e_Md_changes_0 ⟨_, _, v1, e_Md_changes_2 ⟨_, _, v2, e_Md_changes_4 rfl⟩⟩, q_ag_tr (q_ag_up a1 (by decide)) (q_ag_up a2 (by decide)), ?_, ?_, ?_, fun _ => ?_, r2⟩
  · refine s_MR_of eR ⟨rfl, rfl⟩ (s_mP_of eR.2.1 ?_ ?_) ?_ ?_ ?_ ?_ ?_
    · rw [a2.1 t_Md (by decide), g1, q_up_ne _ _ (by decide)]
    · rw [a2.1 t_mWas (by decide), a1.1 t_mWas (by decide)]
    · rw [a2.1 t_Md (by decide), g1, q_up_ne _ _ (by decide)]
    · rw [a2.1 t_mTape (by decide), a1.1 t_mTape (by decide)]
    · rw [a2.1 t_mShN (by decide), a1.1 t_mShN (by decide)]
    · rw [a2.1 t_mShF (by decide), a1.1 t_mShF (by decide)]
    · rw [a2.1 t_mWords (by decide), a1.1 t_mWords (by decide)]
  · rw [a2.1 t_Md (by decide)]; exact e01
  · rw [a2.1 t_mF (by decide), a1.1 t_mF (by decide)]; exact eF
  · exact s_Mc_of r1 (by rw [a2.1 t_Md (by decide)]) (a2.1 _ (by decide) _) (a2.1 _ (by decide) _) (a2.1 _ (by decide) _)
/-- the act is noted; F may be changed then -/
theorem c_Md_noted {A : s_A} (hv : s_val A) {d : qD} {b : Nat} (e : s_MD A d) : ∃ d', q_Ev m_Md_keepsAct 0 [q_r t_Md 0, none, none] [] (q_mk d b) (none, q_mk d' b) ∧ q_ag [t_Md, t_mWas] d d' ∧ d'.1 t_Md 0 10 = d.1 t_Md 0 10 ∧ d'.1 t_Md 0 12 = d.1 t_Md 0 12 ∧ s_MR (A.1, A.2.1, A.2.1 :: A.2.2.1.take 19, A.2.2.2) d' := by
  obtain ⟨e1, e2, e3, e4, e5⟩ := e
  have hn := (s_vC_bd hv.2.2.1.1).1.1
  obtain ⟨d1, u, v1, a1, g1, p1⟩ := c_Md_keepsAct (n := A.2.1.1) (F := A.2.1.2.1) (c := A.2.1.2.2) hn (fun h hh => (s_vC_bd (hv.2.2.2.2.1 h hh).1).1.1) (d := d) (b := b) e2 e3 e5 e1.2.1
  refine ⟨d1, v1, a1, by rw [g1, q_up_ne _ _ (by decide)], by rw [g1, q_up_ne _ _ (by decide)], s_MR_of e1 ⟨rfl, rfl⟩ p1 ?_ (a1.1 _ (by decide) _) (a1.1 _ (by decide) _) (a1.1 _ (by decide) _) (a1.1 _ (by decide) _)⟩
  rw [g1, q_up_ne _ _ (by decide)]
/-- a noted act with a new F -/
theorem c_Md_becomes {A : s_A} {n : Nat} {F : Nat → Nat} (h : s_ok n F) {d : qD} {b : Nat} (eR : s_MR (A.1, A.2.1, A.2.1 :: A.2.2.1.take 19, A.2.2.2) d) (e0 : d.1 t_Md 0 10 = (n : Int)) (eF : s_row (d.1 t_mF 0) n F) : ∃ d', q_Ev m_Md_changes 0 [q_r t_Md 0] [] (q_mk d b) (none, q_mk d' b) ∧ q_ag [t_Md, t_mNeck, t_mIsB, t_mBoxes, t_mInC] d d' ∧ s_MD (s_bec A n F) d' := c_Md_changes h eR e0 eF
theorem s_MR_F {A : s_A} {S : List Nat} {d d' : qD} (e : s_MR A d) (a : q_ag S d d') (hs : ∀ t ∈ S, t ∉ [t_Md, t_mTape, t_mWords, t_mWas, t_mShN, t_mShF]) : s_MR A d' := by
  have g : ∀ t, t ∈ [t_Md, t_mTape, t_mWords, t_mWas, t_mShN, t_mShF] → ∀ i, d'.1 t i = d.1 t i := fun t ht i => a.1 t (fun hh => hs t hh ht) i
  exact s_MR_of e ⟨rfl, rfl⟩ (s_mP_of e.2.1 (by rw [g t_Md (by decide)]) (g _ (by decide) _)) (by rw [g t_Md (by decide)]) (g _ (by decide) _) (g _ (by decide) _) (g _ (by decide) _) (g _ (by decide) _)
theorem c_Md_dimA {A : s_A} (hv : s_val A) (h0 : ¬ A.2.1.1 = 0) {d : qD} {b : Nat} (e : s_MD A d) : q_Ev m_Md_dim 0 [q_r t_Md 0] [] (q_mk d b) (q_i (s_dim A.2.1.1 A.2.1.2.1), q_mk d b) := by
  have hok := s_vC_ok hv.2.2.1.1 h0
  have hd := s_dim_eq hok
  rw [hd.1]
  exact c_Md_dim (s_ok_bd hok) hd.2 e.2.1 (e.2.2.2.1 (by omega)).1 e.2.2.1
/-- the tags that a new cell's laying touches -/
abbrev s_TM : List Nat := [t_Md, t_mWas, t_mF, t_mNeck, t_mIsB, t_mBoxes, t_mInC]
theorem c_Md_goesCopy {n : Nat} {F : Nat → Nat} (hn : n ≤ 8) {b : Nat} : ∀ (f i : Nat) (d : qD), i + f = n → d.1 t_Md 0 10 = (n : Int) → s_row (d.1 t_mOther 0) n F → (∀ k, 1 ≤ k → k ≤ i → d.1 t_mF 0 k = (F k : Int)) → ∃ d', q_ag [t_mF] d d' ∧ s_row (d'.1 t_mF 0) n F ∧ ∀ r v w2, q_Ev m_Md_changes 0 [q_r t_Md 0] [] (q_mk d' b) (v, w2) → q_Ev m_Md_goes 34 [q_r t_Md 0, none, none, none] (v.toList ++ []) w2 r → q_Ev m_Md_goes 18 [q_r t_Md 0, none, none, q_i ((i + 1 : Nat) : Int)] [] (q_mk d b) r
  | 0, i, d, h, e0, eO, eI => by
    refine ⟨d, q_ag_refl _ _, fun k h1 h2 => eI k h1 (by omega), fun r v w2 v1 v2 => e_Md_goes_18 ⟨fun _ => ⟨_, _, v1, v2⟩, fun h2 => ?_⟩⟩
    rw [e0] at h2; omega
  | f + 1, i, d, h, e0, eO, eI => by
    obtain ⟨d', a, r1, r2⟩ := c_Md_goesCopy hn (b := b) f (i + 1) (q_sI d t_mF 0 (i + 1) (F (i + 1) : Int)) (by omega) (by rw [q_sI_ne _ _ (by decide), e0]) (by rw [q_sI_ne _ _ (by decide)]; exact eO) (by
      intro k h1 h2
      rw [q_sI_at]
      by_cases hq : k = i + 1
      · subst hq; rw [q_up_at]
      · rw [q_up_ne _ _ hq]; exact eI k h1 (by omega))
    refine ⟨d', q_ag_tr (q_ag_sI (by decide)) a, r1, fun r v w2 v1 v2 => e_Md_goes_18 ⟨fun h2 => ?_, fun _ => ⟨by omega, by omega, by omega, by omega, ?_⟩⟩⟩
    · rw [e0] at h2; omega
    · rw [q_wS (by omega), Int.toNat_natCast, eO (i + 1) (by omega) (by omega)]; exact r2 r v w2 v1 v2
theorem c_Md_goes {A : s_A} {more by' k : Int} (hv : s_val A) (hm : more = 1 ∨ more = -1) (hby : by' = -more) {d : qD} {b : Nat} (e : s_MD A d) : ∃ d', q_Ev m_Md_goes 0 [q_r t_Md 0, q_i k, q_i by', none] [] (q_mk d b) (q_i (s_stepA A more k).1, q_mk d' b) ∧ q_ag (t_mOther :: s_TM) d d' ∧ s_MD (s_stepA A more k).2 d' := by
  have hb := (s_vC_bd hv.2.2.1.1).1
  have hn := hb.1
  have e0 := e.2.1
  unfold s_stepA
  by_cases h0 : A.2.1.1 = 0
  · rw [if_pos (Or.inl h0)]
    refine ⟨d, e_Md_goes_0 ⟨_, _, c_Md_isCell e0, e_Md_goes_2 ⟨fun _ => e_Md_goes_5 rfl, fun h => ?_⟩⟩, q_ag_refl _ _, e⟩
    have := of_decide_eq_true (q_b2i_t h); omega
  have st0 : ∀ r, ((0 : Int) ≤ k → ∃ v w2, q_Ev m_Md_isNext 0 [q_r t_Md 0, q_i k, q_i by'] [] (q_mk d b) (v, w2) ∧ q_Ev m_Md_goes 11 [q_r t_Md 0, none, none, none] (v.toList ++ []) w2 r) → (k < 0 → r = (q_i (-1), q_mk d b)) → q_Ev m_Md_goes 0 [q_r t_Md 0, q_i k, q_i by', none] [] (q_mk d b) r := by
    intro r k1 k2
    refine e_Md_goes_0 ⟨_, _, c_Md_isCell e0, e_Md_goes_2 ⟨fun h => ?_, fun _ => ⟨fun h => ?_, fun h => e_Md_goes_5 (k2 h)⟩⟩⟩
    · have := of_decide_eq_false (q_b2i_f h); omega
    · obtain ⟨v, w2, y1, y2⟩ := k1 h
      exact ⟨v, w2, y1, by simpa using y2⟩
  by_cases h1 : k < 0
  · rw [if_pos (Or.inr h1)]
    exact ⟨d, st0 _ (fun h => by omega) (fun _ => rfl), q_ag_refl _ _, e⟩
  rw [if_neg (by omega)]
  obtain ⟨d1, v1, a1, r1⟩ := c_Md_isNext (w := k) hb (by omega) hm hby (d := d) (b := b) e0 e.2.2.1
  have e1 : s_MD A d1 := s_MD_ag e a1 (by decide)
  by_cases h2 : k < ((s_nx A.2.1.1 A.2.1.2.1 more).length : Int)
  · rw [if_pos h2]
    rw [decide_eq_true h2] at v1
    have hok := s_vC_ok hv.2.2.1.1 h0
    have hnok := s_nxF_ok (more := more) (k := k.toNat) hok (by omega)
    obtain ⟨d2, v2, a2, g2, _, r2⟩ := c_Md_noted hv (d := d1) (b := b) e1
    obtain ⟨d3, a3, r3, k3⟩ := c_Md_goesCopy hn (b := b) A.2.1.1 0 d2 (by omega) (by rw [g2, e1.2.1]) (by rw [a2.1 t_mOther (by decide)]; exact r1 h2) (fun k h1 h2 => by omega)
    obtain ⟨d4, v4, a4, r4⟩ := c_Md_becomes hnok (d := d3) (b := b) (s_MR_F r2 a3 (by decide)) (by rw [a3.1 t_Md (by decide), g2, e1.2.1]) r3
    have hv4 := s_bec_val hv (Or.inr hnok)
    refine ⟨d4, st0 _ (fun _ => ⟨_, _, v1, e_Md_goes_11 ⟨fun _ => ⟨_, _, v2, e_Md_goes_16 (k3 _ _ _ v4 (e_Md_goes_34 ⟨_, _, c_Md_dimA hv4 h0 r4, e_Md_goes_36 rfl⟩))⟩, fun h => absurd h (by decide)⟩⟩) (fun h => by omega), q_ag_tr (q_ag_up a1 (by decide)) (q_ag_tr (q_ag_up a2 (by decide)) (q_ag_tr (q_ag_up a3 (by decide)) (q_ag_up a4 (by decide)))), r4⟩
  · rw [if_neg h2]
    rw [decide_eq_false h2] at v1
    exact ⟨d1, st0 _ (fun _ => ⟨_, _, v1, e_Md_goes_11 ⟨fun h => absurd rfl h, fun _ => rfl⟩⟩) (fun h => by omega), q_ag_up a1 (by decide), e1⟩
theorem c_Md_down {A : s_A} {k : Int} (hv : s_val A) {d : qD} {b : Nat} (e : s_MD A d) : ∃ d', q_Ev m_Md_down 0 [q_r t_Md 0, q_i k] [] (q_mk d b) (q_i (s_stepA A 1 k).1, q_mk d' b) ∧ q_ag (t_mOther :: s_TM) d d' ∧ s_MD (s_stepA A 1 k).2 d' := by
  obtain ⟨d', v, a, r⟩ := c_Md_goes (more := 1) (by' := -1) (k := k) hv (Or.inl rfl) rfl (b := b) e
  exact ⟨d', e_Md_down_0 ⟨_, _, v, e_Md_down_4 rfl⟩, a, r⟩
theorem c_Md_up {A : s_A} {k : Int} (hv : s_val A) {d : qD} {b : Nat} (e : s_MD A d) : ∃ d', q_Ev m_Md_up 0 [q_r t_Md 0, q_i k] [] (q_mk d b) (q_i (s_stepA A (-1) k).1, q_mk d' b) ∧ q_ag (t_mOther :: s_TM) d d' ∧ s_MD (s_stepA A (-1) k).2 d' := by
  obtain ⟨d', v, a, r⟩ := c_Md_goes (more := -1) (by' := 1) (k := k) hv (Or.inr rfl) rfl (b := b) e
  exact ⟨d', e_Md_up_0 ⟨_, _, v, e_Md_up_4 rfl⟩, a, r⟩
theorem c_Md_turnGo {n : Nat} {F : Nat → Nat} (hok : s_ok n F) {b : Nat} : ∀ (i : Nat) (d : qD), 1 ≤ i → i ≤ n → (∀ k, 1 ≤ k → k ≤ n → d.1 t_mF 0 k = ((if i < k then s_turnF n F k else F k : Nat) : Int)) → ∃ d', q_ag [t_mF] d d' ∧ s_row (d'.1 t_mF 0) n (s_turnF n F) ∧ ∀ r v w2, q_Ev m_Md_changes 0 [q_r t_Md 0] [] (q_mk d' b) (v, w2) → q_Ev m_Md_turn 45 [none, none, none] (v.toList ++ []) w2 r → q_Ev m_Md_turn 21 [q_r t_Md 0, q_i (s_turnF n F 1 : Int), q_i (i : Int)] [] (q_mk d b) r
  | 0, d, h1, _, _ => by omega
  | i + 1, d, h1, h2, e => by
    have hn := hok.2.1
    by_cases h0 : i = 0
    · subst h0
      refine ⟨q_sI d t_mF 0 1 (s_turnF n F 1 : Int), q_ag_sI (by decide), fun k k1 k2 => ?_, fun r v w2 v1 v2 => e_Md_turn_21 ⟨fun _ => ⟨by decide, by decide, _, _, v1, v2⟩, fun hh => by omega⟩⟩
      rw [q_sI_at]
      by_cases hq : k = 1
      · subst hq; rw [q_up_at]
      · rw [q_up_ne _ _ hq, e k k1 k2, if_pos (by omega)]
    · have bi := hok.2.2.1 i (by omega) (by omega)
      have ei := e i (by omega) (by omega)
      rw [if_neg (by omega)] at ei
      obtain ⟨d', a, r1, r2⟩ := c_Md_turnGo hok (b := b) i (q_sI d t_mF 0 (i + 1) (s_turnF n F (i + 1) : Int)) (by omega) (by omega) (by
        intro k k1 k2
        rw [q_sI_at]
        by_cases hq : k = i + 1
        · subst hq; rw [q_up_at, if_pos (by omega)]
        · rw [q_up_ne _ _ hq, e k k1 k2]
          by_cases hk : i < k
          · rw [if_pos hk, if_pos (by omega)]
          · rw [if_neg hk, if_neg (by omega)])
      refine ⟨d', q_ag_tr (q_ag_sI (by decide)) a, r1, fun r v w2 v1 v2 => e_Md_turn_21 ⟨fun hh => by omega, fun _ => ?_⟩⟩
      have ew : q_w (((i + 1 : Nat) : Int) - 1) = (i : Int) := by rw [q_w_id (by omega) (by omega)]; omega
      have ew2 : q_w (((i + 1 : Nat) : Int) + (-1)) = (i : Int) := by rw [q_w_id (by omega) (by omega)]; omega
      have et : q_w ((F i : Int) + 1) = (s_turnF n F (i + 1) : Int) := by
        unfold s_turnF
        rw [if_neg (by omega), show i + 1 - 1 = i by omega, q_wS (by omega)]
      rw [ew, ew2, Int.toNat_natCast, Int.toNat_natCast, ei, et]
      exact ⟨by omega, by omega, by omega, by omega, r2 r v w2 v1 v2⟩
theorem c_Md_turn {A : s_A} (hv : s_val A) {d : qD} {b : Nat} (e : s_MD A d) : ∃ d', q_Ev m_Md_turn 0 [q_r t_Md 0, none, none] [] (q_mk d b) (q_i (s_actA A s_turnF).1, q_mk d' b) ∧ q_ag s_TM d d' ∧ s_MD (s_actA A s_turnF).2 d' := by
  have hb := (s_vC_bd hv.2.2.1.1).1
  have hn := hb.1
  have e0 := e.2.1
  unfold s_actA
  by_cases h0 : A.2.1.1 = 0
  · rw [if_pos h0]
    refine ⟨d, e_Md_turn_0 ⟨_, _, c_Md_isCell e0, e_Md_turn_2 ⟨fun h => ?_, fun _ => ⟨by decide, by decide, rfl⟩⟩⟩, q_ag_refl _ _, e⟩
    have := of_decide_eq_true (q_b2i_t h); omega
  rw [if_neg h0]
  have hok := s_vC_ok hv.2.2.1.1 h0
  have hbn := hb.2 A.2.1.1 (by omega) (Nat.le_refl _)
  obtain ⟨d2, v2, a2, g2, _, r2⟩ := c_Md_noted hv (d := d) (b := b) e
  have eF2 : s_row (d2.1 t_mF 0) A.2.1.1 A.2.1.2.1 := by rw [a2.1 t_mF (by decide)]; exact e.2.2.1
  obtain ⟨d3, a3, r3, k3⟩ := c_Md_turnGo hok (b := b) A.2.1.1 d2 (by omega) (Nat.le_refl _) (fun k h1 h2 => by rw [if_neg (by omega)]; exact eF2 k h1 h2)
  obtain ⟨d4, v4, a4, r4⟩ := c_Md_becomes (s_turn_ok hok) (d := d3) (b := b) (s_MR_F r2 a3 (by decide)) (by rw [a3.1 t_Md (by decide), g2, e0]) r3
  refine ⟨d4, e_Md_turn_0 ⟨_, _, c_Md_isCell e0, e_Md_turn_2 ⟨fun _ => ⟨_, _, v2, e_Md_turn_7 ?_⟩, fun h => ?_⟩⟩, q_ag_tr (q_ag_up a2 (by decide)) (q_ag_tr (q_ag_up a3 (by decide)) (q_ag_up a4 (by decide))), r4⟩
  · rw [g2, e0, Int.toNat_natCast, eF2 A.2.1.1 (by omega) (Nat.le_refl _)]
    have et : q_w ((q_w ((A.2.1.2.1 A.2.1.1 : Int) + 1)) - (A.2.1.1 : Int)) = (s_turnF A.2.1.1 A.2.1.2.1 1 : Int) := by
      unfold s_turnF
      rw [if_pos rfl, q_wS (by omega), q_wD (by omega) (by omega)]
    rw [et]
    exact ⟨by omega, by omega, k3 _ _ _ v4 (e_Md_turn_45 ⟨by decide, by decide, rfl⟩)⟩
  · have := of_decide_eq_false (q_b2i_f h); omega
theorem s_inC_del {g : Nat → Int} {c : Nat → Bool} {s : Nat} (h : ∀ j, j < 256 → g j = q_b2i (c j)) : ∀ j, j < 256 → q_up g s 0 j = q_b2i (s_del c s j) := by
  intro j hj
  unfold s_del
  by_cases hq : j = s
  · subst hq; rw [q_up_at, beq_self_eq_true, Bool.not_true, Bool.and_false]; rfl
  · rw [q_up_ne _ _ hq, beq_false_of_ne hq, Bool.not_false, Bool.and_true]; exact h j hj
theorem c_Md_move {A : s_A} {x : Int} (hv : s_val A) (hx : q_can x) {d : qD} {b : Nat} (e : s_MD A d) : ∃ d', q_Ev m_Md_move 0 [q_r t_Md 0, q_i x, none] [] (q_mk d b) (q_i (s_moveA A x).1, q_mk d' b) ∧ q_ag s_TM d d' ∧ s_MD (s_moveA A x).2 d' := by
  have hb := (s_vC_bd hv.2.2.1.1).1
  have hn := hb.1
  have hp := s_p8 hn
  have e0 := e.2.1
  unfold s_moveA
  by_cases h0 : A.2.1.1 = 0
  · rw [if_pos h0]
    refine ⟨d, e_Md_move_0 ⟨_, _, c_Md_isCell e0, e_Md_move_2 ⟨fun h => ?_, fun _ => rfl⟩⟩, q_ag_refl _ _, e⟩
    have := of_decide_eq_true (q_b2i_t h); omega
  rw [if_neg h0]
  have sq := c_Md_squareAt (x := x) hn hx (b := b) e0 (e.2.2.2.1 (by omega)).2.1 e.2.2.2.2
  have st : ∀ r, q_Ev m_Md_move 8 [q_r t_Md 0, q_i x, none] [.inl (s_o1 (s_mvx A.2.1.1 (s_nk A.2.1.1 A.2.1.2.1) A.2.1.2.2 x))] (q_mk d b) r → q_Ev m_Md_move 0 [q_r t_Md 0, q_i x, none] [] (q_mk d b) r := by
    intro r hr
    refine e_Md_move_0 ⟨_, _, c_Md_isCell e0, e_Md_move_2 ⟨fun _ => ⟨_, _, sq, hr⟩, fun h => ?_⟩⟩
    have := of_decide_eq_false (q_b2i_f h); omega
  cases hm : s_mvx A.2.1.1 (s_nk A.2.1.1 A.2.1.2.1) A.2.1.2.2 x with
  | none =>
    rw [hm] at st
    exact ⟨d, st _ (e_Md_move_8 ⟨fun h => absurd h (by decide), fun _ => rfl⟩), q_ag_refl _ _, e⟩
  | some v =>
    rw [hm] at st
    obtain ⟨s, rfl, hs, hc, h⟩ := s_mvx_of hm
    have hm2 := s_mv_ok hn (hv.2.2.1.2 s hc).1 h
    dsimp only
    rw [Int.toNat_natCast]
    obtain ⟨d2, v2, a2, g2, g12, r2⟩ := c_Md_noted hv (d := d) (b := b) e
    refine ⟨q_sI (q_sI d2 t_mInC 0 s 0) t_mInC 0 v 1, st _ (e_Md_move_8 ⟨fun _ => ⟨_, _, v2, e_Md_move_15 ?_⟩, fun hh => absurd hh (by unfold s_o1; dsimp only; omega)⟩), q_ag_tr (q_ag_up a2 (by decide)) (q_ag_tr (q_ag_sI (by decide)) (q_ag_sI (by decide))), ?_, ?_, ?_, fun h3 => ?_, ?_⟩
    · refine ⟨by omega, by omega, ?_⟩
      show 0 ≤ (v : Int) ∧ (v : Int) < 256 ∧ _
      refine ⟨by omega, by omega, ?_⟩
      rw [Int.toNat_natCast, show q_nar 3 0 = 0 from q_nar3 false, show q_nar 3 1 = 1 from q_nar3 true]
      rfl
    · exact s_MR_F r2 (q_ag_tr (q_ag_sI (S := [t_mInC]) (by decide)) (q_ag_sI (by decide))) (by decide)
    · rw [q_sI_ne _ _ (by decide), q_sI_ne _ _ (by decide), g2]; exact e0
    · rw [q_sI_ne _ _ (by decide), q_sI_ne _ _ (by decide), a2.1 t_mF (by decide)]; exact e.2.2.1
    · refine s_Mc_of (e.2.2.2.1 h3) ?_ ?_ ?_ ?_
      · rw [q_sI_ne _ _ (by decide), q_sI_ne _ _ (by decide), g12]
      · rw [q_sI_ne _ _ (by decide), q_sI_ne _ _ (by decide), a2.1 t_mNeck (by decide)]
      · rw [q_sI_ne _ _ (by decide), q_sI_ne _ _ (by decide), a2.1 t_mIsB (by decide)]
      · rw [q_sI_ne _ _ (by decide), q_sI_ne _ _ (by decide), a2.1 t_mBoxes (by decide)]
    · rw [q_sI_at, q_sI_at, a2.1 t_mInC (by decide)]
      exact s_inC_ins (s_inC_del e.2.2.2.2)
