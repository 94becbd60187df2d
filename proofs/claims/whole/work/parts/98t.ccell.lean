/-! cell: the class -/
theorem s_cellO_res {sz : Nat} {V : Nat → Int} (hz : sz ≤ 160) : match s_cellO sz V with
    | .inl c => 1 ≤ c ∧ c < 2000
    | .inr (n, F) => s_ok n F := by
  have e : s_Tp sz V (fun t _ k => if t = t_Ta then (sz : Int) else V k, fun _ _ _ => 0) := by
    refine ⟨?_, fun k _ => ?_⟩
    · show (if t_Ta = t_Ta then (sz : Int) else V 1) = (sz : Int)
      rw [if_pos rfl]
    · show (if t_bytes = t_Ta then (sz : Int) else V k) = V k
      rw [if_neg (by decide)]
  obtain ⟨d', code, _, _, _, rs⟩ := c_Re_read (V := V) hz (b := 0) e
  cases ho : s_cellO sz V with
  | inl c => rw [ho] at rs; exact rs.2
  | inr o =>
    obtain ⟨n, F⟩ := o
    rw [ho] at rs
    exact rs.2.2.2
def s_emp (A : s_A) : s_A := ((0, A.1.2), A.2)
def s_cellA (A : s_A) : Int × s_A := match s_cellO A.1.1 A.1.2 with
  | .inl c => (-2 - (c : Int), s_emp A)
  | .inr (n, F) => ((n : Int), s_bec (s_emp A) n F)
theorem s_emp_val {A : s_A} (hv : s_val A) : s_val (s_emp A) := ⟨Nat.zero_le _, hv.2⟩
theorem s_cellA_val {A : s_A} (hv : s_val A) : s_val (s_cellA A).2 := by
  have h := s_cellO_res (V := A.1.2) hv.1
  unfold s_cellA
  cases ho : s_cellO A.1.1 A.1.2 with
  | inl c => exact s_emp_val hv
  | inr o =>
    obtain ⟨n, F⟩ := o
    rw [ho] at h
    exact s_bec_val (s_emp_val hv) (Or.inr h)
theorem s_CL_emp {A : s_A} {S : List Nat} {d d' : qD} (e : s_CL A d) (a : q_ag S d d') (h0 : d'.1 t_Ta 0 1 = 0) (hD : d'.1 t_Di 1 = d.1 t_Di 1) (hp : d'.1 t_plus 1 = d.1 t_plus 1) (hs : ∀ t ∈ S, t ∉ [t_Ce, t_img, t_nl, t_bl, t_inB, t_Co, t_coSets, t_Pa, t_Mo, t_moImg, t_Sh, t_shBL]) : s_CL (s_emp A) d' := by
  have g : ∀ t, t ∈ [t_Ce, t_img, t_nl, t_bl, t_inB, t_Co, t_coSets, t_Pa, t_Mo, t_moImg, t_Sh, t_shBL] → ∀ i, d'.1 t i = d.1 t i := fun t ht i => a.1 t (fun hh => hs t hh ht) i
  obtain ⟨e1, e2, e3, e4, e5⟩ := e
  exact ⟨⟨h0, fun k hk => absurd hk (Nat.not_lt_zero k)⟩, s_Ce_of e2 (g _ (by decide) _) (g _ (by decide) _) (g _ (by decide) _) (g _ (by decide) _) (g _ (by decide) _) hD hp, s_Co_of e3 (g _ (by decide) _) (g _ (by decide) _), s_Pa_of e4 (g _ (by decide) _) (fun x _ => ⟨g _ (by decide) _, g _ (by decide) _, g _ (by decide) _, g _ (by decide) _⟩), fun x hx => s_Sh_of (e5 x hx) (g _ (by decide) _) (g _ (by decide) _)⟩
abbrev s_TCC : List Nat := [t_Ta, t_Re, t_Di, t_plus, t_begins, t_reImg, t_sets, t_Pa, t_Mo, t_moImg, t_Co, t_coSets, t_Ce, t_img, t_nl, t_bl, t_inB, t_atLeft, t_atTop]
theorem c_GC_cell {A : s_A} (hv : s_val A) {d : qD} {b : Nat} (e : s_CL A d) : ∃ d', q_Ev m_GC_cell 0 [q_r t_GC 0, none] [] (q_mk d b) (q_i (s_cellA A).1, q_mk d' b) ∧ q_ag s_TCC d d' ∧ s_CL (s_cellA A).2 d' := by
  obtain ⟨d1, code, v, a, co, rs⟩ := c_Re_read (V := A.1.2) hv.1 (b := b) e.1
  have a2 : q_ag (t_Ta :: s_TRR) d (q_sI d1 t_Ta 0 1 0) := q_ag_tr (q_ag_up a (by decide)) (q_ag_sI (by decide))
  have e2 : s_CL (s_emp A) (q_sI d1 t_Ta 0 1 0) := s_CL_emp e a2 (by rw [q_sI_at, q_up_at]) (by rw [q_sI_ne _ _ (by decide)]; exact (co 1 (by decide)).2) (by rw [q_sI_ne _ _ (by decide)]; exact funext (co 1 (by decide)).1) (by decide)
  unfold s_cellA
  cases ho : s_cellO A.1.1 A.1.2 with
  | inl c =>
    rw [ho] at rs
    obtain ⟨r1, r2, r3⟩ := rs
    subst r1
    refine ⟨q_sI d1 t_Ta 0 1 0, e_GC_cell_0 ⟨_, _, v, e_GC_cell_3 ⟨fun hh => by omega, fun _ => ?_⟩⟩, q_ag_up a2 (by decide), e2⟩
    rw [q_w_id (by omega) (by omega)]
  | inr o =>
    obtain ⟨n, F⟩ := o
    rw [ho] at rs
    obtain ⟨r1, r2, r3, r4⟩ := rs
    subst r1
    obtain ⟨d3, v3, a3, e3⟩ := c_GC_become_re (s_emp_val hv) (Or.inr r4) (b := b) e2 (by rw [q_sI_ne _ _ (by decide)]; exact r3)
    rw [← r2] at v3
    refine ⟨d3, e_GC_cell_0 ⟨_, _, v, e_GC_cell_3 ⟨fun _ => ⟨_, _, v3, e_GC_cell_23 ?_⟩, fun hh => absurd rfl hh⟩⟩, q_ag_tr (q_ag_up a2 (by decide)) (q_ag_up a3 (by decide)), e3⟩
    rw [e3.2.1.1]
    rfl
