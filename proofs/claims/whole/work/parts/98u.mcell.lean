/-! cell: the model -/
theorem c_Md_cellCopy {n : Nat} {F : Nat → Nat} (hn : n ≤ 8) {b : Nat} : ∀ (f i : Nat) (d : qD), i + f = n → d.1 t_Md 0 10 = (n : Int) → s_row (d.1 t_mReadF 0) n F → (∀ k, 1 ≤ k → k ≤ i → d.1 t_mF 0 k = (F k : Int)) → ∃ d', q_ag [t_mF] d d' ∧ s_row (d'.1 t_mF 0) n F ∧ ∀ r v w2, q_Ev m_Md_changes 0 [q_r t_Md 0] [] (q_mk d' b) (v, w2) → q_Ev m_Md_cell 57 [q_r t_Md 0, none, none, none] (v.toList ++ []) w2 r → q_Ev m_Md_cell 41 [q_r t_Md 0, none, none, q_i ((i + 1 : Nat) : Int)] [] (q_mk d b) r
  | 0, i, d, h, e0, eO, eI => by
    refine ⟨d, q_ag_refl _ _, fun k h1 h2 => eI k h1 (by omega), fun r v w2 v1 v2 => e_Md_cell_41 ⟨fun _ => ⟨_, _, v1, v2⟩, fun h2 => ?_⟩⟩
    rw [e0] at h2; omega
  | f + 1, i, d, h, e0, eO, eI => by
    obtain ⟨d', a, r1, r2⟩ := c_Md_cellCopy hn (b := b) f (i + 1) (q_sI d t_mF 0 (i + 1) (F (i + 1) : Int)) (by omega) (by rw [q_sI_ne _ _ (by decide), e0]) (by rw [q_sI_ne _ _ (by decide)]; exact eO) (by
      intro k h1 h2
      rw [q_sI_at]
      by_cases hq : k = i + 1
      · subst hq; rw [q_up_at]
      · rw [q_up_ne _ _ hq]; exact eI k h1 (by omega))
    refine ⟨d', q_ag_tr (q_ag_sI (by decide)) a, r1, fun r v w2 v1 v2 => e_Md_cell_41 ⟨fun h2 => ?_, fun _ => ⟨by omega, by omega, by omega, by omega, ?_⟩⟩⟩
    · rw [e0] at h2; omega
    · rw [q_wS (by omega), Int.toNat_natCast, eO (i + 1) (by omega) (by omega)]; exact r2 r v w2 v1 v2
abbrev s_TMC : List Nat := [t_Md, t_mReadF, t_mPlaces, t_mReadSet, t_mBoxes, t_mWas, t_mF, t_mNeck, t_mIsB, t_mInC]
theorem c_Md_cell {A : s_A} (hv : s_val A) {d : qD} {b : Nat} (e : s_MD A d) : ∃ d', q_Ev m_Md_cell 0 [q_r t_Md 0, none, none, none] [] (q_mk d b) (q_i (s_cellA A).1, q_mk d' b) ∧ q_ag s_TMC d d' ∧ s_MD (s_cellA A).2 d' := by
  obtain ⟨eR, e0, eF, eM, eC⟩ := e
  obtain ⟨eT, eP, eS, eW⟩ := eR
  have hn := (s_vC_bd hv.2.2.1.1).1.1
  obtain ⟨d1, v, k, m, rs⟩ := c_Md_reads (V := A.1.2) hv.1 (fun k => (hv.2.1 k).1) (b := b) eT eW
  have a2 : q_ag s_TQ d (q_sI d1 t_Md 0 1 0) := q_ag_tr m.1 (q_ag_sI (by decide))
  have g1 : ∀ x, x ≠ 1 → x ≠ 2 → x ≠ 3 → x ≠ 5 → (q_sI d1 t_Md 0 1 0).1 t_Md 0 x = d.1 t_Md 0 x := fun x h1 h2 h3 h5 => by
    rw [q_sI_at, q_up_ne _ _ h1]; exact m.2 x h2 h3 h5
  have R2 : s_MR (s_emp A) (q_sI d1 t_Md 0 1 0) := ⟨⟨by rw [q_sI_at, q_up_at]; rfl, fun k hk => absurd hk (Nat.not_lt_zero k)⟩, s_mP_of eP (g1 20 (by decide) (by decide) (by decide) (by decide)) (a2.1 _ (by decide) _), by rw [a2.1 t_mShN (by decide), a2.1 t_mShF (by decide)]; exact eS, by rw [a2.1 t_mWords (by decide)]; exact eW⟩
  have e02 : (q_sI d1 t_Md 0 1 0).1 t_Md 0 10 = (A.2.1.1 : Int) := by rw [g1 10 (by decide) (by decide) (by decide) (by decide)]; exact e0
  have e01 : d1.1 t_Md 0 10 = (A.2.1.1 : Int) := by rw [m.2 10 (by decide) (by decide) (by decide)]; exact e0
  have eF2 : s_row ((q_sI d1 t_Md 0 1 0).1 t_mF 0) A.2.1.1 A.2.1.2.1 := by rw [a2.1 t_mF (by decide)]; exact eF
  have eC2 : ∀ j, j < 256 → (q_sI d1 t_Md 0 1 0).1 t_mInC 0 j = q_b2i (A.2.1.2.2 j) := by rw [a2.1 t_mInC (by decide)]; exact eC
  unfold s_cellA
  cases ho : s_cellO A.1.1 A.1.2 with
  | inl c =>
    have hc := s_cellO_res (V := A.1.2) hv.1
    rw [ho] at hc rs
    obtain ⟨r1, r3⟩ := rs
    subst r1
    have hc2 : c < 2000 := hc.2
    have r32 : (q_sI d1 t_Md 0 1 0).1 t_Md 0 3 = (c : Int) := by rw [q_sI_at, q_up_ne _ _ (by decide)]; exact r3
    by_cases h0 : A.2.1.1 = 0
    · refine ⟨q_sI d1 t_Md 0 1 0, k _ (e_Md_cell_17 ⟨fun hh => absurd rfl hh, fun _ => ⟨fun _ => e_Md_cell_28 ?_, fun hh => by rw [e01] at hh; omega⟩⟩), q_ag_up a2 (by decide), R2, e02, eF2, fun hh => ?_, eC2⟩
      · rw [r32, q_w_id (by omega) (by omega)]
      · have hh2 : 0 < A.2.1.1 := hh
        omega
    · have hok := s_vC_ok hv.2.2.1.1 h0
      have eMc := eM (by omega)
      obtain ⟨d3, v3, a3, r3b⟩ := c_Md_laysDiagram hok (d := q_sI d1 t_Md 0 1 0) (b := b) e02 eF2 (by rw [a2.1 t_mNeck (by decide)]; exact eMc.2.1)
      refine ⟨d3, k _ (e_Md_cell_17 ⟨fun hh => absurd rfl hh, fun _ => ⟨fun hh => by rw [e01] at hh; omega, fun _ => ⟨_, _, v3, e_Md_cell_28 ?_⟩⟩⟩), q_ag_tr (q_ag_up a2 (by decide)) (q_ag_up a3 (by decide)), s_MR_F R2 a3 (by decide), ?_, ?_, fun _ => ⟨?_, ?_, ?_, r3b⟩, ?_⟩
      · rw [a3.1 t_Md (by decide), r32, q_w_id (by omega) (by omega)]
      · rw [a3.1 t_Md (by decide)]; exact e02
      · rw [a3.1 t_mF (by decide)]; exact eF2
      · rw [a3.1 t_Md (by decide), g1 12 (by decide) (by decide) (by decide) (by decide)]; exact eMc.1
      · rw [a3.1 t_mNeck (by decide), a2.1 t_mNeck (by decide)]; exact eMc.2.1
      · rw [a3.1 t_mIsB (by decide), a2.1 t_mIsB (by decide)]; exact eMc.2.2.1
      · rw [a3.1 t_mInC (by decide)]; exact eC2
  | inr o =>
    obtain ⟨n, F⟩ := o
    have hok := s_cellO_res (V := A.1.2) hv.1
    rw [ho] at hok rs
    obtain ⟨r1, r5, rF⟩ := rs
    subst r1
    have hok' : s_ok n F := hok
    obtain ⟨d3, u, v3, a3, g3, p3⟩ := c_Md_keepsAct (n := A.2.1.1) (F := A.2.1.2.1) (c := A.2.1.2.2) hn (fun h hh => (s_vC_bd (hv.2.2.2.2.1 h hh).1).1.1) (d := q_sI d1 t_Md 0 1 0) (b := b) e02 eF2 eC2 R2.2.1
    have e53 : d3.1 t_Md 0 5 = (n : Int) := by rw [g3, q_up_ne _ _ (by decide), q_sI_at, q_up_ne _ _ (by decide)]; exact r5
    have a4 : q_ag [t_Md] d3 (q_sI d3 t_Md 0 10 (n : Int)) := q_ag_sI (by decide)
    have R4 : s_MR ((s_emp A).1, (s_emp A).2.1, (s_emp A).2.1 :: (s_emp A).2.2.1.take 19, (s_emp A).2.2.2) (q_sI d3 t_Md 0 10 (n : Int)) := by
      refine s_MR_of R2 ⟨rfl, rfl⟩ (s_mP_of p3 ?_ (a4.1 _ (by decide) _)) ?_ ?_ ?_ ?_ ?_
      · rw [q_sI_at, q_up_ne _ _ (by decide)]
      · rw [q_sI_at, q_up_ne _ _ (by decide), g3, q_up_ne _ _ (by decide)]
      · rw [a4.1 t_mTape (by decide), a3.1 t_mTape (by decide)]
      · rw [a4.1 t_mShN (by decide), a3.1 t_mShN (by decide)]
      · rw [a4.1 t_mShF (by decide), a3.1 t_mShF (by decide)]
      · rw [a4.1 t_mWords (by decide), a3.1 t_mWords (by decide)]
    have e04 : (q_sI d3 t_Md 0 10 (n : Int)).1 t_Md 0 10 = (n : Int) := by rw [q_sI_at, q_up_at]
    obtain ⟨d5, a5, r5', k5⟩ := c_Md_cellCopy hok'.2.1 (b := b) n 0 (q_sI d3 t_Md 0 10 (n : Int)) (by omega) e04 (by rw [a4.1 t_mReadF (by decide), a3.1 t_mReadF (by decide), q_sI_ne _ _ (by decide)]; exact rF) (fun k h1 h2 => by omega)
    obtain ⟨d6, v6, a6, r6⟩ := c_Md_becomes (A := s_emp A) hok' (d := d5) (b := b) (s_MR_F R4 a5 (by decide)) (by rw [a5.1 t_Md (by decide)]; exact e04) r5'
    refine ⟨d6, k _ (e_Md_cell_17 ⟨fun _ => ⟨_, _, v3, e_Md_cell_35 ?_⟩, fun hh => absurd hh (by decide)⟩), q_ag_tr (q_ag_up a2 (by decide)) (q_ag_tr (q_ag_up a3 (by decide)) (q_ag_tr (q_ag_up a4 (by decide)) (q_ag_tr (q_ag_up a5 (by decide)) (q_ag_up a6 (by decide))))), r6⟩
    rw [e53]
    refine k5 _ _ _ v6 (e_Md_cell_57 ?_)
    rw [r6.2.1]
    rfl
