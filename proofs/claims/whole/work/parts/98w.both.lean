/-! each call on both sides: one answer, one state -/
def s_both (mc : Nat) (lc : qLo) (mm : Nat) (lm : qLo) : Prop := ∀ (A : s_A) (d : qD) (b : Nat), s_val A → s_CL A d → s_MD A d → b < 2 → ∃ (x : Int) (d1 : qD) (b1 : Nat) (d2 : qD) (A' : s_A), q_Ev mc 0 lc [] (q_mk d b) (q_i x, q_mk d1 b1) ∧ q_Ev mm 0 lm [] (q_mk d1 b1) (q_i x, q_mk d2 b1) ∧ b1 < 2 ∧ s_val A' ∧ s_CL A' d2 ∧ s_MD A' d2 ∧ d1.1 1 = d.1 1 ∧ d2.1 1 = d.1 1
def s_bothL (mc : Nat) (lc : qLo) (mm : Nat) (lm : qLo) : Prop := ∀ (A : s_A) (d : qD) (b : Nat), s_val A → s_CL A d → s_MD A d → b < 2 → ∃ (x : Int64) (d1 : qD) (b1 : Nat) (d2 : qD) (A' : s_A), q_Ev mc 0 lc [] (q_mk d b) (some (.inr (.inl x)), q_mk d1 b1) ∧ q_Ev mm 0 lm [] (q_mk d1 b1) (some (.inr (.inl x)), q_mk d2 b1) ∧ b1 < 2 ∧ s_val A' ∧ s_CL A' d2 ∧ s_MD A' d2 ∧ d1.1 1 = d.1 1 ∧ d2.1 1 = d.1 1
theorem s_1_of {S : List Nat} {d d' : qD} (a : q_ag S d d') (h : ∀ t ∈ S, 2 ≤ t) : d'.1 1 = d.1 1 := funext fun i => a.1 1 (fun hh => absurd (h 1 hh) (by decide)) i
theorem s_lo_M {S : List Nat} (h : ∀ t ∈ S, t < 37) : ∀ t ∈ S, t ∉ [t_Md, t_mTape, t_mWords, t_mF, t_mNeck, t_mIsB, t_mInC, t_mBoxes, t_mWas, t_mShN, t_mShF] := fun t ht hm => by
  have : ∀ u ∈ [t_Md, t_mTape, t_mWords, t_mF, t_mNeck, t_mIsB, t_mInC, t_mBoxes, t_mWas, t_mShN, t_mShF], 37 ≤ u := by decide
  have h1 := this t hm
  have h2 := h t ht
  omega
theorem s_hi_C {S : List Nat} (h : ∀ t ∈ S, 37 ≤ t) : ∀ t ∈ S, t ∉ [t_Ta, t_bytes, t_Ce, t_img, t_nl, t_bl, t_inB, t_Di, t_plus, t_Co, t_coSets, t_Pa, t_Mo, t_moImg, t_Sh, t_shBL] := fun t ht hm => by
  have : ∀ u ∈ [t_Ta, t_bytes, t_Ce, t_img, t_nl, t_bl, t_inB, t_Di, t_plus, t_Co, t_coSets, t_Pa, t_Mo, t_moImg, t_Sh, t_shBL], u < 37 := by decide
  have h1 := this t hm
  have h2 := h t ht
  omega
theorem s_bAct {mc mm : Nat} {lc lm : qLo} {S1 S2 : List Nat} (f : s_A → Int × s_A) (hf : ∀ A, s_val A → s_val (f A).2) (h1 : ∀ A d b, s_val A → s_CL A d → ∃ d', q_Ev mc 0 lc [] (q_mk d b) (q_i (f A).1, q_mk d' b) ∧ q_ag S1 d d' ∧ s_CL (f A).2 d') (h2 : ∀ A d b, s_val A → s_MD A d → ∃ d', q_Ev mm 0 lm [] (q_mk d b) (q_i (f A).1, q_mk d' b) ∧ q_ag S2 d d' ∧ s_MD (f A).2 d') (k1 : ∀ t ∈ S1, 2 ≤ t ∧ t < 37) (k2 : ∀ t ∈ S2, 37 ≤ t) : s_both mc lc mm lm := by
  intro A d b hv eC eM hb
  obtain ⟨d1, v1, a1, eC1⟩ := h1 A d b hv eC
  obtain ⟨d2, v2, a2, eM2⟩ := h2 A d1 b hv (s_MD_ag eM a1 (s_lo_M (fun t ht => (k1 t ht).2)))
  have i1 := s_1_of a1 (fun t ht => (k1 t ht).1)
  have i2 := s_1_of a2 (fun t ht => by have := k2 t ht; omega)
  exact ⟨_, d1, b, d2, (f A).2, v1, v2, hb, hf A hv, s_CL_ag eC1 a2 (s_hi_C k2), eM2, i1, i2.trans i1⟩
theorem s_bQue {mc mm : Nat} {lc lm : qLo} {S1 S2 : List Nat} (f : s_A → Int) (h1 : ∀ A d b, s_val A → s_CL A d → ∃ d', q_Ev mc 0 lc [] (q_mk d b) (q_i (f A), q_mk d' b) ∧ q_ag S1 d d') (h2 : ∀ A d b, s_val A → s_MD A d → ∃ d', q_Ev mm 0 lm [] (q_mk d b) (q_i (f A), q_mk d' b) ∧ q_ag S2 d d') (k1 : ∀ t ∈ S1, 2 ≤ t ∧ t < 37) (k1b : ∀ t ∈ S1, t ∉ [t_Ta, t_bytes, t_Ce, t_img, t_nl, t_bl, t_inB, t_Di, t_plus, t_Co, t_coSets, t_Pa, t_Mo, t_moImg, t_Sh, t_shBL]) (k2 : ∀ t ∈ S2, 37 ≤ t) (k2b : ∀ t ∈ S2, t ∉ [t_Md, t_mTape, t_mWords, t_mF, t_mNeck, t_mIsB, t_mInC, t_mBoxes, t_mWas, t_mShN, t_mShF]) : s_both mc lc mm lm :=
  s_bAct (S1 := S1) (S2 := S2) (fun A => (f A, A)) (fun A hv => hv) (fun A d b hv e => by
    obtain ⟨d', v, a⟩ := h1 A d b hv e
    exact ⟨d', v, a, s_CL_ag e a k1b⟩) (fun A d b hv e => by
    obtain ⟨d', v, a⟩ := h2 A d b hv e
    exact ⟨d', v, a, s_MD_ag e a k2b⟩) k1 k2
theorem s_hn {A : s_A} (hv : s_val A) : A.2.1.1 ≤ 8 := (s_vC_bd hv.2.2.1.1).1.1
theorem b_feed (x1 x2 x3 x4 x5 : Int) : s_both m_GC_feed [q_r t_GC 0, q_i x1, q_i x2, q_i x3, q_i x4, q_i x5] m_Md_feed [q_r t_Md 0, q_i x1, q_i x2, q_i x3, q_i x4, q_i x5, none, none] :=
  s_bAct (fun A => s_feedA A x1 x2 x3 x4 x5) (fun _ hv => s_feed_val hv x1 x2 x3 x4 x5) (fun _ _ _ hv e => c_GC_feedA hv e) (fun _ _ _ hv e => c_Md_feedA hv e) (by decide) (by decide)
theorem b_end (x : Int) (hx : q_can x) : s_both m_GC_end [q_r t_GC 0, q_i x] m_Md_end [q_r t_Md 0, q_i x] :=
  s_bAct (fun A => s_endA A x) (fun _ hv => s_end_val hv x) (fun _ _ _ _ e => c_GC_endA e) (fun _ _ _ hv e => c_Md_endA hv hx e) (by decide) (by decide)
theorem b_cell : s_both m_GC_cell [q_r t_GC 0, none] m_Md_cell [q_r t_Md 0, none, none, none] :=
  s_bAct s_cellA (fun _ hv => s_cellA_val hv) (fun _ _ _ hv e => c_GC_cell hv e) (fun _ _ _ hv e => c_Md_cell hv e) (by decide) (by decide)
theorem b_f (x : Int) : s_both m_GC_f [q_r t_GC 0, q_i x] m_Md_f [q_r t_Md 0, q_i x] :=
  s_bQue (S1 := []) (S2 := []) (fun A => s_f A.2.1.1 A.2.1.2.1 x) (fun _ d _ hv e => ⟨d, c_GC_f (s_hn hv) e.2.1.1 e.2.1.2.2.2.2.1, q_ag_refl _ _⟩) (fun _ d _ hv e => ⟨d, c_Md_f (s_hn hv) e.2.1 e.2.2.1, q_ag_refl _ _⟩) (by decide) (by decide) (by decide) (by decide)
theorem b_neck (x : Int) : s_both m_GC_neck [q_r t_GC 0, q_i x] m_Md_neck [q_r t_Md 0, q_i x] :=
  s_bQue (S1 := []) (S2 := []) (fun A => s_f A.2.1.1 (s_nk A.2.1.1 A.2.1.2.1) x) (fun _ d _ hv e => ⟨d, c_GC_neck (s_hn hv) e.2.1.1 e.2.1.2.2.2.2.2.1, q_ag_refl _ _⟩) (fun _ d _ hv e => ⟨d, c_Md_neck (s_hn hv) e.2.1 (fun i h1 h2 => (e.2.2.2.1 (by omega)).2.1 i h1 h2), q_ag_refl _ _⟩) (by decide) (by decide) (by decide) (by decide)
theorem b_box (x y : Int) : s_both m_GC_box [q_r t_GC 0, q_i x, q_i y] m_Md_box [q_r t_Md 0, q_i x, q_i y] :=
  s_bQue (S1 := []) (S2 := []) (fun A => s_boxA A.2.1.1 A.2.1.2.1 x y) (fun _ d _ hv e => ⟨d, c_GC_box hv.2.2.1.1 e.2.1, q_ag_refl _ _⟩) (fun _ d _ hv e => ⟨d, c_Md_box (s_hn hv) e.2.1 e.2.2.2.1, q_ag_refl _ _⟩) (by decide) (by decide) (by decide) (by decide)
theorem b_bases : s_both m_GC_bases [q_r t_GC 0] m_Md_bases [q_r t_Md 0, none, none] :=
  s_bQue (S1 := []) (S2 := []) (fun A => s_bases A.2.1.1 (s_basL A.2.1.1 A.2.1.2.1 256)) (fun _ d _ _ e => ⟨d, c_GC_bases e.2.1.1 e.2.1.2.2.2.1, q_ag_refl _ _⟩) (fun _ d _ _ e => ⟨d, c_Md_bases e.2.1 e.2.2.2.1, q_ag_refl _ _⟩) (by decide) (by decide) (by decide) (by decide)
theorem b_basis (x : Int) : s_both m_GC_basis [q_r t_GC 0, q_i x] m_Md_basis [q_r t_Md 0, q_i x] :=
  s_bQue (S1 := []) (S2 := []) (fun A => s_basis A.2.1.1 (s_basL A.2.1.1 A.2.1.2.1 256) x) (fun _ d _ _ e => ⟨d, c_GC_basis (s_basL_len _ _ 256 (Nat.le_refl _)) e.2.1.1 e.2.1.2.2.2.1 e.2.1.2.2.2.2.2.2.1, q_ag_refl _ _⟩) (fun _ d _ _ e => ⟨d, c_Md_basis e.2.1 e.2.2.2.1, q_ag_refl _ _⟩) (by decide) (by decide) (by decide) (by decide)
theorem b_rank (x : Int) (hx : q_can x) : s_both m_GC_rank [q_r t_GC 0, q_i x] m_Md_rank [q_r t_Md 0, q_i x, none, none] :=
  s_bQue (S1 := []) (S2 := []) (fun A => s_rankA A.2.1.1 (s_basL A.2.1.1 A.2.1.2.1 256) x) (fun _ d _ hv e => ⟨d, c_GC_rank hv.2.2.1.1 e.2.1, q_ag_refl _ _⟩) (fun _ d _ hv e => ⟨d, c_Md_rank (s_hn hv) hx e.2.1 e.2.2.2.1, q_ag_refl _ _⟩) (by decide) (by decide) (by decide) (by decide)
theorem b_exchange (x y z : Int) (hx : q_can x) (hy : q_can y) : s_both m_GC_exchange [q_r t_GC 0, q_i x, q_i y, q_i z] m_Md_exchange [q_r t_Md 0, q_i x, q_i y, q_i z, none] :=
  s_bQue (S1 := []) (S2 := []) (fun A => s_exA A.2.1.1 (s_bas A.2.1.1 A.2.1.2.1) x y z) (fun _ d _ hv e => ⟨d, c_GC_exchange hv.2.2.1.1 e.2.1, q_ag_refl _ _⟩) (fun _ d _ hv e => ⟨d, c_Md_exchange (s_hn hv) hx hy e.2.1 e.2.2.2.1, q_ag_refl _ _⟩) (by decide) (by decide) (by decide) (by decide)
theorem b_part (x : Int) : s_both m_GC_part [q_r t_GC 0, q_i x] m_Md_part [q_r t_Md 0, q_i x] := by
  intro A d b hv eC eM hb
  obtain ⟨q, hq⟩ := s_lp_ex hv eM
  obtain ⟨d2, v2, a2⟩ := c_Md_part (x := x) (s_hn hv) hq (d := d) (b := b) eM.2.1 eM.2.2.2.1
  exact ⟨_, d, b, d2, A, c_GC_part hv.2.2.1.1 hq eC.2.1, v2, hb, hv, s_CL_ag eC a2 (by decide), s_MD_ag eM a2 (by decide), rfl, s_1_of a2 (by decide)⟩
theorem b_ways (x : Int) (hx : q_can x) : s_bothL m_GC_ways [q_r t_GC 0, q_i x] m_Md_ways [q_r t_Md 0, q_i x, none, none, none, none, none, none, none] := by
  intro A d b hv eC eM hb
  obtain ⟨d1, v1, a1, g1⟩ := c_GC_ways (x := x) hv.2.2.1.1 (d := d) (b := b) eC.2.1
  have eM1 : s_MD A d1 := s_MD_ag eM a1 (by decide)
  obtain ⟨d2, v2, a2, g2⟩ := c_Md_ways (x := x) hv.2.2.1.1 hx (d := d1) (b := b) eM1.2.1 eM1.2.2.2.1
  exact ⟨_, d1, b, d2, A, v1, v2, hb, hv, s_CL_ag (s_CL_ag eC a1 (by decide)) a2 (by decide), s_MD_ag eM1 a2 (by decide), by rw [g1], by rw [g2, g1]⟩
theorem b_cross (x y : Int) (hx : q_can x) (hy : q_can y) : s_both m_GC_cross [q_r t_GC 0, q_i x, q_i y] m_Md_cross [q_r t_Md 0, q_i x, q_i y] :=
  s_bQue (S1 := []) (S2 := []) (fun A => s_crossA A.2.1.1 (q_pc (s_n1 A.2.1.1 A.2.1.2.1 A.2.1.1)) x y) (fun _ d _ hv e => ⟨d, c_GC_cross hv.2.2.1.1 e.2.1, q_ag_refl _ _⟩) (fun _ d _ hv e => ⟨d, c_Md_cross (s_hn hv) hx hy e.2.1 e.2.2.2.1, q_ag_refl _ _⟩) (by decide) (by decide) (by decide) (by decide)
theorem b_cluster (x : Int) : s_both m_GC_cluster [q_r t_GC 0, q_i x] m_Md_cluster [q_r t_Md 0, q_i x] :=
  s_bQue (S1 := []) (S2 := []) (fun A => s_clA A.2.1.1 (s_fl A.2.1.2.2) x) (fun _ d _ hv e => ⟨d, c_GC_cluster (s_vH_len hv.2.2.1) e.2.1.1 e.2.2.1, q_ag_refl _ _⟩) (fun _ d _ _ e => ⟨d, c_Md_cluster e.2.1 e.2.2.2.2, q_ag_refl _ _⟩) (by decide) (by decide) (by decide) (by decide)
theorem b_square (x : Int) : s_both m_GC_square [q_r t_GC 0, q_i x, none, none, none] m_Md_square [q_r t_Md 0, q_i x, none, none] :=
  s_bQue (S1 := []) (S2 := []) (fun A => s_sqAll A.2.1.1 (s_nk A.2.1.1 A.2.1.2.1) A.2.1.2.2 x) (fun _ d _ hv e => ⟨d, c_GC_square (s_hn hv) (s_vH_len hv.2.2.1) e.2.1.1 e.2.1.2.2.2.2.2.1 e.2.2.1, q_ag_refl _ _⟩) (fun _ d _ hv e => ⟨d, c_Md_square (s_hn hv) e.2.1 (fun h => (e.2.2.2.1 h).2.1) e.2.2.2.2, q_ag_refl _ _⟩) (by decide) (by decide) (by decide) (by decide)
theorem b_move (x : Int) (hx : q_can x) : s_both m_GC_move [q_r t_GC 0, q_i x, none] m_Md_move [q_r t_Md 0, q_i x, none] :=
  s_bAct (fun A => s_moveA A x) (fun _ hv => s_move_val hv x) (fun _ _ _ hv e => c_GC_move hv e) (fun _ _ _ hv e => c_Md_move hv hx e) (by decide) (by decide)
theorem b_lower (k i : Int) (hi : q_can i) : s_both m_GC_lower [q_r t_GC 0, q_i k, q_i i] m_Md_lower [q_r t_Md 0, q_i k, q_i i] :=
  s_bQue (fun A => s_nextA A.2.1.1 A.2.1.2.1 1 k i) (fun _ _ _ hv e => c_GC_lower hv.2.2.1.1 e.2.1) (fun _ _ _ hv e => c_Md_lower (s_vC_bd hv.2.2.1.1).1 hi e.2.1 e.2.2.1) (by decide) (by decide) (by decide) (by decide)
theorem b_upper (k i : Int) (hi : q_can i) : s_both m_GC_upper [q_r t_GC 0, q_i k, q_i i] m_Md_upper [q_r t_Md 0, q_i k, q_i i] :=
  s_bQue (fun A => s_nextA A.2.1.1 A.2.1.2.1 (-1) k i) (fun _ _ _ hv e => c_GC_upper hv.2.2.1.1 e.2.1) (fun _ _ _ hv e => c_Md_upper (s_vC_bd hv.2.2.1.1).1 hi e.2.1 e.2.2.1) (by decide) (by decide) (by decide) (by decide)
theorem b_down (k : Int) : s_both m_GC_down [q_r t_GC 0, q_i k] m_Md_down [q_r t_Md 0, q_i k] :=
  s_bAct (fun A => s_stepA A 1 k) (fun _ hv => s_step_val hv 1 k) (fun _ _ _ hv e => c_GC_down hv e) (fun _ _ _ hv e => c_Md_down hv e) (by decide) (by decide)
theorem b_up (k : Int) : s_both m_GC_up [q_r t_GC 0, q_i k] m_Md_up [q_r t_Md 0, q_i k] :=
  s_bAct (fun A => s_stepA A (-1) k) (fun _ hv => s_step_val hv (-1) k) (fun _ _ _ hv e => c_GC_up hv e) (fun _ _ _ hv e => c_Md_up hv e) (by decide) (by decide)
theorem b_turn : s_both m_GC_turn [q_r t_GC 0, none] m_Md_turn [q_r t_Md 0, none, none] :=
  s_bAct (fun A => s_actA A s_turnF) (fun _ hv => s_act_val hv (fun _ _ h => s_turn_ok h)) (fun _ _ _ hv e => c_GC_turn hv e) (fun _ _ _ hv e => c_Md_turn hv e) (by decide) (by decide)
theorem b_mirror : s_both m_GC_mirror [q_r t_GC 0, none] m_Md_mirror [q_r t_Md 0, none, none, none] :=
  s_bAct (fun A => s_actA A s_mirF) (fun _ hv => s_act_val hv (fun _ _ h => s_mir_ok h)) (fun _ _ _ hv e => c_GC_mirror hv e) (fun _ _ _ hv e => c_Md_mirror hv e) (by decide) (by decide)
theorem b_complement : s_both m_GC_complement [q_r t_GC 0, none] m_Md_complement [q_r t_Md 0, none] :=
  s_bAct (fun A => s_actA A s_comF) (fun _ hv => s_act_val hv (fun _ _ h => s_com_ok h)) (fun _ _ _ hv e => c_GC_complement hv e) (fun _ _ _ hv e => c_Md_complement hv e) (by decide) (by decide)
theorem b_undo : s_both m_GC_undo [q_r t_GC 0, none] m_Md_undo [q_r t_Md 0, none, none] :=
  s_bAct s_undoA (fun _ hv => s_undo_val hv) (fun _ _ _ hv e => c_GC_undo hv e) (fun _ _ _ hv e => c_Md_undo hv e) (by decide) (by decide)
theorem b_howMany (x y z : Int) (hx : q_can x) (hy : q_can y) (hz : q_can z) : s_both m_GC_howMany [q_r t_GC 0, q_i x, q_i y, q_i z] m_Md_howMany [q_r t_Md 0, q_i x, q_i y, q_i z, none, none] := by
  intro A d b hv eC eM hb
  obtain ⟨d1, b1, hb1, a1, v1⟩ := c_GC_howMany c_Cs_flip (x := x) (y := y) (z := z) (d := d) hb
  obtain ⟨d2, v2, a2⟩ := c_Md_howMany hx hy hz (d := d1) (b := b1)
  rw [← s_how_eq] at v2
  have i1 := s_1_of a1 (by decide)
  exact ⟨_, d1, b1, d2, A, v1, v2, hb1, hv, s_CL_ag (s_CL_ag eC a1 (by decide)) a2 (by decide), s_MD_ag (s_MD_ag eM a1 (by decide)) a2 (by decide), i1, (s_1_of a2 (by decide)).trans i1⟩
theorem b_keep (x : Int) (hx : q_can x) : s_both m_GC_keep [q_r t_GC 0, q_i x] m_Md_keep [q_r t_Md 0, q_i x, none] :=
  s_bAct (fun A => s_keepA A x) (fun _ hv => s_keep_val hv x) (fun _ _ _ hv e => c_GC_keep hv e) (fun _ _ _ hv e => c_Md_keep hv hx e) (by decide) (by decide)
theorem b_has (x : Int) (hx : q_can x) : s_both m_GC_has [q_r t_GC 0, q_i x] m_Md_has2 [q_r t_Md 0, q_i x, none, none, none] :=
  s_bQue (S1 := []) (fun A => s_hasA A x) (fun _ d _ hv e => ⟨d, c_GC_has hv e, q_ag_refl _ _⟩) (fun _ _ _ hv e => c_Md_has2 hv hx e) (by decide) (by decide) (by decide) (by decide)
theorem b_count (x : Int) (hx : q_can x) : s_both m_GC_count [q_r t_GC 0, q_i x] m_Md_count [q_r t_Md 0, q_i x] := by
  intro A d b hv eC eM hb
  obtain ⟨q, hq⟩ := s_lp_ex hv eM
  obtain ⟨d2, v2, a2⟩ := c_Md_count (x := x) hv hx hq (d := d) (b := b) eM
  exact ⟨_, d, b, d2, A, c_GC_count hv hq eC, v2, hb, hv, s_CL_ag eC a2 (by decide), s_MD_ag eM a2 (by decide), rfl, s_1_of a2 (by decide)⟩
