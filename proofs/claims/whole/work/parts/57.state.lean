/-! the state of both sides; the class's picture; become -/
abbrev s_A : Type := (Nat × (Nat → Int)) × s_H × List s_H × (Nat → Nat × (Nat → Nat))
def s_vC (n : Nat) (F : Nat → Nat) : Prop := n = 0 ∨ s_ok n F
def s_vH (h : s_H) : Prop := s_vC h.1 h.2.1 ∧ ∀ t, h.2.2 t = true → t < 2 ^ h.1 ∧ q_pc t = q_pc (s_n1 h.1 h.2.1 h.1)
def s_val (A : s_A) : Prop := A.1.1 ≤ 160 ∧ (∀ k, 0 ≤ A.1.2 k ∧ A.1.2 k ≤ 255) ∧ s_vH A.2.1 ∧ A.2.2.1.length ≤ 20 ∧ (∀ h ∈ A.2.2.1, s_vH h) ∧ ∀ x, s_vC (A.2.2.2 x).1 (A.2.2.2 x).2
theorem s_vC_bd {n : Nat} {F : Nat → Nat} (h : s_vC n F) : s_bd n F ∧ s_sur n F := by
  rcases h with h | h
  · subst h
    exact ⟨⟨by omega, fun i h1 h2 => by omega⟩, fun w h1 h2 => by omega⟩
  · exact ⟨s_ok_bd h, s_ok_sur h⟩
theorem s_vH_len {h : s_H} (hv : s_vH h) : (s_fl h.2.2).length ≤ 70 := s_fl_len (q_pc_le _) (fun s hs => (hv.2 s hs).2)
theorem s_vH_lt {h : s_H} (hv : s_vH h) {t : Nat} (ht : h.2.2 t = true) : t < 256 := by
  have := (hv.2 t ht).1
  have h8 := s_p8 (s_vC_bd hv.1).1.1
  omega
def s_clus (n : Nat) (F : Nat → Nat) : Nat → Bool := s_cB n (s_basL n F 256) (s_cN (s_nk n F) n)
theorem s_cN_of {K : Nat → Nat} {Q : Nat → Prop} : ∀ i, (∀ k, 1 ≤ k → k ≤ i → Q (K k)) → ∀ t, s_cN K i t = true → Q t
  | 0, _, t, h => absurd (show false = true from h) (by decide)
  | i + 1, hK, t, h => by
    rw [s_cN, s_ins, Bool.or_eq_true] at h
    rcases h with h | h
    · rw [beq_iff_eq] at h; subst h; exact hK (i + 1) (by omega) (Nat.le_refl _)
    · exact s_cN_of i (fun k h1 h2 => hK k h1 (by omega)) t h
theorem s_cB_of {n : Nat} {Q : Nat → Prop} : ∀ (L : List Nat) (c : Nat → Bool), (∀ s ∈ L, Q s) → (∀ t, c t = true → Q t) → ∀ t, s_cB n L c t = true → Q t
  | [], c, _, h, t, ht => h t ht
  | s :: R, c, hL, h, t, ht => by
    rw [s_cB] at ht
    refine s_cB_of R _ (fun u hu => hL u (List.mem_cons_of_mem _ hu)) ?_ t ht
    split
    · intro u hu
      rw [s_ins, Bool.or_eq_true] at hu
      rcases hu with hu | hu
      · rw [beq_iff_eq] at hu; subst hu; exact hL u (List.mem_cons_self ..)
      · exact h u hu
    · exact h
theorem s_clus_vH {n : Nat} {F : Nat → Nat} (h : s_vC n F) : s_vH (n, F, s_clus n F) := by
  refine ⟨h, fun t ht => ?_⟩
  refine s_cB_of (Q := fun t => t < 2 ^ n ∧ q_pc t = q_pc (s_n1 n F n)) _ _ (fun s hs => ?_) (fun t ht => ?_) t ht
  · have := (s_basL_mem.mp hs).2
    exact ⟨s_bas_lt s this, s_bas_pc s this⟩
  · refine s_cN_of (Q := fun t => t < 2 ^ n ∧ q_pc t = q_pc (s_n1 n F n)) n (fun k h1 h2 => ⟨?_, (s_nk_all h k h1 h2).2⟩) t ht
    obtain ⟨m, rfl⟩ : ∃ m, k = m + 1 := ⟨k - 1, by omega⟩
    exact s_nk_ltn (s_vC_bd h).1 m (by omega)
/-- the class's picture of the state -/
def s_CL (A : s_A) (d : qD) : Prop := (d.1 t_Ta 0 1 = (A.1.1 : Int) ∧ ∀ k, k < A.1.1 → d.1 t_bytes 0 k = A.1.2 k) ∧ s_Ce A.2.1.1 A.2.1.2.1 d ∧ s_Co 20 A.2.1.2.2 d ∧ s_Pa A.2.2.1 d ∧ ∀ x, x < 4 → s_Sh x (A.2.2.2 x).1 (A.2.2.2 x).2 d
/-- nothing that the picture speaks of has changed -/
theorem s_CL_ag {A : s_A} {S : List Nat} {d d' : qD} (e : s_CL A d) (a : q_ag S d d') (hs : ∀ t ∈ S, t ∉ [t_Ta, t_bytes, t_Ce, t_img, t_nl, t_bl, t_inB, t_Di, t_plus, t_Co, t_coSets, t_Pa, t_Mo, t_moImg, t_Sh, t_shBL]) : s_CL A d' := by
  have g : ∀ t, t ∈ [t_Ta, t_bytes, t_Ce, t_img, t_nl, t_bl, t_inB, t_Di, t_plus, t_Co, t_coSets, t_Pa, t_Mo, t_moImg, t_Sh, t_shBL] → ∀ i, d'.1 t i = d.1 t i := fun t ht i => a.1 t (fun hh => hs t hh ht) i
  obtain ⟨e1, e2, e3, e4, e5⟩ := e
  refine ⟨?_, s_Ce_of e2 (g _ (by decide) _) (g _ (by decide) _) (g _ (by decide) _) (g _ (by decide) _) (g _ (by decide) _) (g _ (by decide) _) (g _ (by decide) _), s_Co_of e3 (g _ (by decide) _) (g _ (by decide) _), s_Pa_of e4 (g _ (by decide) _) (fun x _ => ⟨g _ (by decide) _, g _ (by decide) _, g _ (by decide) _, g _ (by decide) _⟩), fun x hx => s_Sh_of (e5 x hx) (g _ (by decide) _) (g _ (by decide) _)⟩
  rw [g t_Ta (by decide), g t_bytes (by decide)]
  exact e1
def s_bec (A : s_A) (n : Nat) (F : Nat → Nat) : s_A := (A.1, (n, F, s_clus n F), A.2.1 :: A.2.2.1.take 19, A.2.2.2)
theorem s_bec_val {A : s_A} {n : Nat} {F : Nat → Nat} (hv : s_val A) (h : s_vC n F) : s_val (s_bec A n F) := by
  refine ⟨hv.1, hv.2.1, s_clus_vH h, ?_, ?_, hv.2.2.2.2.2⟩
  · show (A.2.1 :: A.2.2.1.take 19).length ≤ 20
    rw [List.length_cons, List.length_take]; omega
  · intro g hg
    have hg : g ∈ A.2.1 :: A.2.2.1.take 19 := hg
    rcases List.mem_cons.mp hg with hg | hg
    · subst hg; exact hv.2.2.1
    · exact hv.2.2.2.2.1 g (List.mem_of_mem_take hg)
theorem c_GC_become_re {A : s_A} {n : Nat} {F : Nat → Nat} (hv : s_val A) (ho : s_vC n F) {d : qD} {b : Nat} (e : s_CL A d) (eF : s_row (d.1 t_reImg 0) n F) : ∃ d', q_Ev m_GC_become 0 [q_r t_GC 0, q_i (n : Int), q_r t_reImg 0] [] (q_mk d b) (none, q_mk d' b) ∧ q_ag [t_Pa, t_Mo, t_moImg, t_Co, t_coSets, t_Ce, t_img, t_nl, t_bl, t_inB, t_Di, t_plus, t_atLeft, t_atTop] d d' ∧ s_CL (s_bec A n F) d' := by
  obtain ⟨⟨eT, eT2⟩, eC, eK, eP, eS⟩ := e
  have hb := s_vC_bd ho
  have hb0 := (s_vC_bd hv.2.2.1.1).1
  obtain ⟨d1, v1, a1, p1, o1⟩ := c_Pa_record hb0.1 (w := 20) (by decide) (s_vH_len hv.2.2.1) (d := d) (b := b) eC.1 eC.2.2.2.2.1 eK eP
  obtain ⟨d2, v2, a2, r2, o2⟩ := c_Ce_take_re hb.1 hb.2 (d := d1) (b := b) (by rw [a1.1 t_reImg (by decide)]; exact eF)
  have r2c := r2
  obtain ⟨f0, f1, f2, f3, fF, fN, fL, fB, _⟩ := r2c
  obtain ⟨d3, v3, a3, r3, o3⟩ := c_Co_layFor (w := 20) hb.1.1 (q_pc_le (s_n1 n F n)) (s_nk_all ho) (s_basL_len n F 256 (Nat.le_refl _)) (fun s hs => ⟨(s_basL_mem.mp hs).1, s_bas_pc s (s_basL_mem.mp hs).2⟩) (d := d2) (b := b) f0 f3 fN fL
  refine ⟨d3, e_GC_become_re_0 ⟨_, _, v1, e_GC_become_re_7 ⟨_, _, v2, e_GC_become_re_12 ⟨_, _, v3, e_GC_become_re_17 rfl⟩⟩⟩, q_ag_tr (q_ag_up a1 (by decide)) (q_ag_tr (q_ag_up a2 (by decide)) (q_ag_up a3 (by decide))), ⟨?_, s_Ce_ag r2 a3 (by decide), r3, ?_, fun x hx => ?_⟩⟩
  · rw [a3.1 t_Ta (by decide), a2.1 t_Ta (by decide), a1.1 t_Ta (by decide), a3.1 t_bytes (by decide), a2.1 t_bytes (by decide), a1.1 t_bytes (by decide)]
    exact ⟨eT, eT2⟩
  · refine s_Pa_of p1 ?_ (fun x hx => ⟨?_, ?_, ?_, ?_⟩)
    · rw [a3.1 t_Pa (by decide), a2.1 t_Pa (by decide)]
    · rw [a3.1 t_Mo (by decide), a2.1 t_Mo (by decide)]
    · rw [a3.1 t_moImg (by decide), a2.1 t_moImg (by decide)]
    · rw [(o3 x (by omega)).2, a2.1 t_Co (by decide)]
    · rw [(o3 x (by omega)).1, a2.1 t_coSets (by decide)]
  · refine s_Sh_of (eS x hx) ?_ ?_
    · rw [a3.1 t_Sh (by decide), a2.1 t_Sh (by decide), a1.1 t_Sh (by decide)]
    · rw [a3.1 t_shBL (by decide), a2.1 t_shBL (by decide), a1.1 t_shBL (by decide)]
theorem c_GC_become_sc {A : s_A} {n : Nat} {F : Nat → Nat} (hv : s_val A) (ho : s_vC n F) {d : qD} {b : Nat} (e : s_CL A d) (eF : s_row (d.1 t_scratch 0) n F) : ∃ d', q_Ev m_GC_become 0 [q_r t_GC 0, q_i (n : Int), q_r t_scratch 0] [] (q_mk d b) (none, q_mk d' b) ∧ q_ag [t_Pa, t_Mo, t_moImg, t_Co, t_coSets, t_Ce, t_img, t_nl, t_bl, t_inB, t_Di, t_plus, t_atLeft, t_atTop] d d' ∧ s_CL (s_bec A n F) d' := by
  obtain ⟨⟨eT, eT2⟩, eC, eK, eP, eS⟩ := e
  have hb := s_vC_bd ho
  have hb0 := (s_vC_bd hv.2.2.1.1).1
  obtain ⟨d1, v1, a1, p1, o1⟩ := c_Pa_record hb0.1 (w := 20) (by decide) (s_vH_len hv.2.2.1) (d := d) (b := b) eC.1 eC.2.2.2.2.1 eK eP
  obtain ⟨d2, v2, a2, r2, o2⟩ := c_Ce_take_sc hb.1 hb.2 (d := d1) (b := b) (by rw [a1.1 t_scratch (by decide)]; exact eF)
  have r2c := r2
  obtain ⟨f0, f1, f2, f3, fF, fN, fL, fB, _⟩ := r2c
  obtain ⟨d3, v3, a3, r3, o3⟩ := c_Co_layFor (w := 20) hb.1.1 (q_pc_le (s_n1 n F n)) (s_nk_all ho) (s_basL_len n F 256 (Nat.le_refl _)) (fun s hs => ⟨(s_basL_mem.mp hs).1, s_bas_pc s (s_basL_mem.mp hs).2⟩) (d := d2) (b := b) f0 f3 fN fL
  refine ⟨d3, e_GC_become_sc_0 ⟨_, _, v1, e_GC_become_sc_7 ⟨_, _, v2, e_GC_become_sc_12 ⟨_, _, v3, e_GC_become_sc_17 rfl⟩⟩⟩, q_ag_tr (q_ag_up a1 (by decide)) (q_ag_tr (q_ag_up a2 (by decide)) (q_ag_up a3 (by decide))), ⟨?_, s_Ce_ag r2 a3 (by decide), r3, ?_, fun x hx => ?_⟩⟩
  · rw [a3.1 t_Ta (by decide), a2.1 t_Ta (by decide), a1.1 t_Ta (by decide), a3.1 t_bytes (by decide), a2.1 t_bytes (by decide), a1.1 t_bytes (by decide)]
    exact ⟨eT, eT2⟩
  · refine s_Pa_of p1 ?_ (fun x hx => ⟨?_, ?_, ?_, ?_⟩)
    · rw [a3.1 t_Pa (by decide), a2.1 t_Pa (by decide)]
    · rw [a3.1 t_Mo (by decide), a2.1 t_Mo (by decide)]
    · rw [a3.1 t_moImg (by decide), a2.1 t_moImg (by decide)]
    · rw [(o3 x (by omega)).2, a2.1 t_Co (by decide)]
    · rw [(o3 x (by omega)).1, a2.1 t_coSets (by decide)]
  · refine s_Sh_of (eS x hx) ?_ ?_
    · rw [a3.1 t_Sh (by decide), a2.1 t_Sh (by decide), a1.1 t_Sh (by decide)]
    · rw [a3.1 t_shBL (by decide), a2.1 t_shBL (by decide), a1.1 t_shBL (by decide)]
theorem c_GC_become_ne {A : s_A} {n : Nat} {F : Nat → Nat} (hv : s_val A) (ho : s_vC n F) {d : qD} {b : Nat} (e : s_CL A d) (eF : s_row (d.1 t_neImg 0) n F) : ∃ d', q_Ev m_GC_become 0 [q_r t_GC 0, q_i (n : Int), q_r t_neImg 0] [] (q_mk d b) (none, q_mk d' b) ∧ q_ag [t_Pa, t_Mo, t_moImg, t_Co, t_coSets, t_Ce, t_img, t_nl, t_bl, t_inB, t_Di, t_plus, t_atLeft, t_atTop] d d' ∧ s_CL (s_bec A n F) d' := by
  obtain ⟨⟨eT, eT2⟩, eC, eK, eP, eS⟩ := e
  have hb := s_vC_bd ho
  have hb0 := (s_vC_bd hv.2.2.1.1).1
  obtain ⟨d1, v1, a1, p1, o1⟩ := c_Pa_record hb0.1 (w := 20) (by decide) (s_vH_len hv.2.2.1) (d := d) (b := b) eC.1 eC.2.2.2.2.1 eK eP
  obtain ⟨d2, v2, a2, r2, o2⟩ := c_Ce_take_ne hb.1 hb.2 (d := d1) (b := b) (by rw [a1.1 t_neImg (by decide)]; exact eF)
  have r2c := r2
  obtain ⟨f0, f1, f2, f3, fF, fN, fL, fB, _⟩ := r2c
  obtain ⟨d3, v3, a3, r3, o3⟩ := c_Co_layFor (w := 20) hb.1.1 (q_pc_le (s_n1 n F n)) (s_nk_all ho) (s_basL_len n F 256 (Nat.le_refl _)) (fun s hs => ⟨(s_basL_mem.mp hs).1, s_bas_pc s (s_basL_mem.mp hs).2⟩) (d := d2) (b := b) f0 f3 fN fL
  refine ⟨d3, e_GC_become_ne_0 ⟨_, _, v1, e_GC_become_ne_7 ⟨_, _, v2, e_GC_become_ne_12 ⟨_, _, v3, e_GC_become_ne_17 rfl⟩⟩⟩, q_ag_tr (q_ag_up a1 (by decide)) (q_ag_tr (q_ag_up a2 (by decide)) (q_ag_up a3 (by decide))), ⟨?_, s_Ce_ag r2 a3 (by decide), r3, ?_, fun x hx => ?_⟩⟩
  · rw [a3.1 t_Ta (by decide), a2.1 t_Ta (by decide), a1.1 t_Ta (by decide), a3.1 t_bytes (by decide), a2.1 t_bytes (by decide), a1.1 t_bytes (by decide)]
    exact ⟨eT, eT2⟩
  · refine s_Pa_of p1 ?_ (fun x hx => ⟨?_, ?_, ?_, ?_⟩)
    · rw [a3.1 t_Pa (by decide), a2.1 t_Pa (by decide)]
    · rw [a3.1 t_Mo (by decide), a2.1 t_Mo (by decide)]
    · rw [a3.1 t_moImg (by decide), a2.1 t_moImg (by decide)]
    · rw [(o3 x (by omega)).2, a2.1 t_Co (by decide)]
    · rw [(o3 x (by omega)).1, a2.1 t_coSets (by decide)]
  · refine s_Sh_of (eS x hx) ?_ ?_
    · rw [a3.1 t_Sh (by decide), a2.1 t_Sh (by decide), a1.1 t_Sh (by decide)]
    · rw [a3.1 t_shBL (by decide), a2.1 t_shBL (by decide), a1.1 t_shBL (by decide)]
