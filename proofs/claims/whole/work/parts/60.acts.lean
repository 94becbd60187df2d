/-! the class's acts -/
/-- the tags that a new cell's laying touches -/
abbrev s_TB : List Nat := [t_Pa, t_Mo, t_moImg, t_Co, t_coSets, t_Ce, t_img, t_nl, t_bl, t_inB, t_Di, t_plus, t_atLeft, t_atTop]
def s_moveA (A : s_A) (x : Int) : Int × s_A := if A.2.1.1 = 0 then (-1, A) else match s_mvx A.2.1.1 (s_nk A.2.1.1 A.2.1.2.1) A.2.1.2.2 x with
  | none => (-2, A)
  | some v => ((v : Int), (A.1, (A.2.1.1, A.2.1.2.1, s_ins (s_del A.2.1.2.2 x.toNat) v), A.2.1 :: A.2.2.1.take 19, A.2.2.2))
theorem s_move_vH {n s v : Nat} {F : Nat → Nat} {c : Nat → Bool} (hv : s_vH (n, F, c)) (hc : c s = true) (hm : s_mv n c s = some v) : s_vH (n, F, s_ins (s_del c s) v) := by
  have hn := (s_vC_bd hv.1).1.1
  have h1 := hv.2 s hc
  have h2 := s_mv_ok hn h1.1 hm
  refine ⟨hv.1, fun t ht => ?_⟩
  rw [show (n, F, s_ins (s_del c s) v).2.2 t = (t == v || (c t && !(t == s))) from rfl, Bool.or_eq_true, Bool.and_eq_true] at ht
  rcases ht with ht | ht
  · rw [beq_iff_eq] at ht; subst ht; exact ⟨h2.1, by rw [h2.2]; exact h1.2⟩
  · exact hv.2 t ht.1
theorem s_past_val {A : s_A} (hv : s_val A) {h : s_H} (hh : s_vH h) : s_val (A.1, h, A.2.1 :: A.2.2.1.take 19, A.2.2.2) := by
  refine ⟨hv.1, hv.2.1, hh, ?_, ?_, hv.2.2.2.2.2⟩
  · show (A.2.1 :: A.2.2.1.take 19).length ≤ 20
    rw [List.length_cons, List.length_take]; omega
  · intro g hg
    have hg : g ∈ A.2.1 :: A.2.2.1.take 19 := hg
    rcases List.mem_cons.mp hg with hg | hg
    · subst hg; exact hv.2.2.1
    · exact hv.2.2.2.2.1 g (List.mem_of_mem_take hg)
theorem s_move_val {A : s_A} (hv : s_val A) (x : Int) : s_val (s_moveA A x).2 := by
  unfold s_moveA
  split
  · exact hv
  · split
    · exact hv
    · rename_i v hm
      obtain ⟨s, rfl, hs, hc, h⟩ := s_mvx_of hm
      rw [Int.toNat_natCast]
      exact s_past_val hv (s_move_vH hv.2.2.1 hc h)
theorem c_GC_move {A : s_A} {x : Int} (hv : s_val A) {d : qD} {b : Nat} (e : s_CL A d) : ∃ d', q_Ev m_GC_move 0 [q_r t_GC 0, q_i x, none] [] (q_mk d b) (q_i (s_moveA A x).1, q_mk d' b) ∧ q_ag s_TB d d' ∧ s_CL (s_moveA A x).2 d' := by
  have ee := e
  obtain ⟨⟨eT, eT2⟩, eC, eK, eP, eS⟩ := ee
  obtain ⟨tp, ⟨n, F, c⟩, Hs, Sh⟩ := A
  have hb := (s_vC_bd hv.2.2.1.1).1
  have hL := s_vH_len hv.2.2.1
  unfold s_moveA
  dsimp only at *
  by_cases h0 : n = 0
  · rw [if_pos h0]
    exact ⟨d, e_GC_move_0 ⟨fun h => by rw [eC.1] at h; omega, fun _ => rfl⟩, q_ag_refl _ _, e⟩
  rw [if_neg h0]
  have mf := c_Co_movedFrom (w := 20) (x := x) hb.1 hL (b := b) eC.1 eC.2.2.2.2.2.1 eK
  cases hm : s_mvx n (s_nk n F) c x with
  | none =>
    rw [hm] at mf
    refine ⟨d, e_GC_move_0 ⟨fun h => ⟨_, _, mf, e_GC_move_12 ⟨fun h2 => absurd rfl h2, fun _ => rfl⟩⟩, fun h => ?_⟩, q_ag_refl _ _, e⟩
    rw [eC.1] at h; omega
  | some v =>
    rw [hm] at mf
    obtain ⟨s, rfl, hs, hc, h⟩ := s_mvx_of hm
    have hvn := s_move_vH hv.2.2.1 hc h
    have hm2 := s_mv_ok hb.1 (hv.2.2.1.2 s hc).1 h
    have hp := s_p8 hb.1
    dsimp only
    rw [Int.toNat_natCast]
    obtain ⟨d1, v1, a1, p1, o1⟩ := c_Pa_record hb.1 (w := 20) (by decide) hL (d := d) (b := b) eC.1 eC.2.2.2.2.1 eK eP
    have o20 := o1 20 (by decide)
    obtain ⟨d2, v2, a2, r2, o2⟩ := c_Co_remove (k := 20) (s := s) hL (d := d1) (b := b) (s_Co_of eK o20.1 o20.2)
    obtain ⟨d3, v3, a3, r3, o3⟩ := c_Co_add (k := 20) (s := v) (by omega) (s_vH_len hvn) (d := d2) (b := b) r2
    refine ⟨d3, e_GC_move_0 ⟨fun h => ⟨_, _, mf, e_GC_move_12 ⟨fun _ => ⟨_, _, v1, e_GC_move_25 ⟨_, _, v2, e_GC_move_29 ⟨_, _, v3, e_GC_move_33 rfl⟩⟩⟩, fun h2 => absurd h2 (by unfold s_oi; dsimp only; omega)⟩⟩, fun h => ?_⟩, q_ag_tr (q_ag_up a1 (by decide)) (q_ag_tr (q_ag_up a2 (by decide)) (q_ag_up a3 (by decide))), ⟨?_, ?_, r3, ?_, fun x hx => ?_⟩⟩
    · rw [eC.1] at h; omega
    · show d3.1 t_Ta 0 1 = (tp.1 : Int) ∧ ∀ k, k < tp.1 → d3.1 t_bytes 0 k = tp.2 k
      rw [a3.1 t_Ta (by decide), a2.1 t_Ta (by decide), a1.1 t_Ta (by decide), a3.1 t_bytes (by decide), a2.1 t_bytes (by decide), a1.1 t_bytes (by decide)]
      exact ⟨eT, eT2⟩
    · exact s_Ce_ag (s_Ce_ag (s_Ce_ag eC a1 (by decide)) a2 (by decide)) a3 (by decide)
    · refine s_Pa_of p1 ?_ (fun x hx => ⟨?_, ?_, ?_, ?_⟩)
      · rw [a3.1 t_Pa (by decide), a2.1 t_Pa (by decide)]
      · rw [a3.1 t_Mo (by decide), a2.1 t_Mo (by decide)]
      · rw [a3.1 t_moImg (by decide), a2.1 t_moImg (by decide)]
      · rw [(o3 x (by omega)).2, (o2 x (by omega)).2]
      · rw [(o3 x (by omega)).1, (o2 x (by omega)).1]
    · refine s_Sh_of (eS x hx) ?_ ?_
      · rw [a3.1 t_Sh (by decide), a2.1 t_Sh (by decide), a1.1 t_Sh (by decide)]
      · rw [a3.1 t_shBL (by decide), a2.1 t_shBL (by decide), a1.1 t_shBL (by decide)]
def s_nextA (n : Nat) (F : Nat → Nat) (more k i : Int) : Int := if n = 0 ∨ i < 0 ∨ (n : Int) < i then -1 else if i = 0 then ((s_nx n F more).length : Int) else if k < 0 then -1 else if k < ((s_nx n F more).length : Int) then (s_nxF n F (s_nx n F more) k.toNat i.toNat : Int) else -2
theorem c_GC_valueOfNext {n : Nat} {F : Nat → Nat} {more k i : Int} (hv : s_vC n F) (hm : more = 1 ∨ more = -1) {d : qD} {b : Nat} (e : s_Ce n F d) : ∃ d', q_Ev m_GC_valueOfNext 0 [q_r t_GC 0, q_i more, q_i k, q_i i] [] (q_mk d b) (q_i (s_nextA n F more k i), q_mk d' b) ∧ q_ag [t_Ne, t_neImg] d d' := by
  obtain ⟨e0, e1, e2, e3, eF, eN, eL, eB, p0, p1, pp⟩ := e
  have hb := (s_vC_bd hv).1
  have hn := hb.1
  unfold s_nextA
  by_cases h1 : n = 0 ∨ i < 0 ∨ (n : Int) < i
  · rw [if_pos h1]
    refine ⟨d, e_GC_valueOfNext_0 ?_, q_ag_refl _ _⟩
    rw [e0]
    exact ⟨fun _ => e_GC_valueOfNext_11 rfl, fun h2 => ⟨fun _ => e_GC_valueOfNext_11 rfl, fun h3 => ⟨fun h4 => by omega, fun _ => e_GC_valueOfNext_11 rfl⟩⟩⟩
  rw [if_neg h1]
  by_cases h2 : i = 0
  · rw [if_pos h2]
    obtain ⟨d', v, a⟩ := c_Ne_howManyFrom hb hm (b := b) e0 e2 eF
    refine ⟨d', e_GC_valueOfNext_0 ?_, a⟩
    rw [e0]
    exact ⟨fun h3 => by omega, fun _ => ⟨fun h3 => by omega, fun _ => ⟨fun _ => ⟨fun h3 => absurd h2 h3, fun _ => ⟨_, _, v, e_GC_valueOfNext_21 rfl⟩⟩, fun h3 => by omega⟩⟩⟩
  rw [if_neg h2]
  by_cases h3 : k < 0
  · rw [if_pos h3]
    refine ⟨d, e_GC_valueOfNext_0 ?_, q_ag_refl _ _⟩
    rw [e0]
    exact ⟨fun h4 => by omega, fun _ => ⟨fun h4 => by omega, fun _ => ⟨fun _ => ⟨fun _ => ⟨fun h4 => by omega, fun _ => rfl⟩, fun h4 => absurd h4 h2⟩, fun h4 => by omega⟩⟩⟩
  rw [if_neg h3]
  obtain ⟨d', a, hh⟩ := c_Ne_seek (w := k) hb hm (b := b) e0 e2 eF
  have st : ∀ z, (∃ y : Int, q_Ev m_Ne_seek 0 [q_r t_Ne 0, q_r t_Ce 0, q_i more, q_i k, none, none] [] (q_mk d b) (q_i y, q_mk d' b) ∧ q_Ev m_GC_valueOfNext 33 [q_r t_GC 0, none, none, q_i i] [.inl y] (q_mk d' b) (q_i z, q_mk d' b)) → q_Ev m_GC_valueOfNext 0 [q_r t_GC 0, q_i more, q_i k, q_i i] [] (q_mk d b) (q_i z, q_mk d' b) := by
    intro z ⟨y, y1, y2⟩
    refine e_GC_valueOfNext_0 ?_
    rw [e0]
    exact ⟨fun h4 => by omega, fun _ => ⟨fun h4 => by omega, fun _ => ⟨fun _ => ⟨fun _ => ⟨fun _ => ⟨_, _, y1, y2⟩, fun h4 => by omega⟩, fun h4 => absurd h4 h2⟩, fun h4 => by omega⟩⟩⟩
  rcases hh with ⟨q1, q2, q3⟩ | ⟨q1, q2, q3⟩
  · unfold s_hit at q1
    rw [if_pos (by omega)]
    refine ⟨d', st _ ⟨1, q2, e_GC_valueOfNext_33 ⟨fun h4 => absurd h4 (by decide), fun _ => ⟨by omega, by omega, e_GC_valueOfNext_41 ?_⟩⟩⟩, a⟩
    rw [q3 i.toNat (by omega) (by omega)]
  · unfold s_hit at q1
    rw [if_neg (by omega)]
    exact ⟨d', st _ ⟨0, q3, e_GC_valueOfNext_33 ⟨fun _ => e_GC_valueOfNext_41 rfl, fun h4 => absurd rfl h4⟩⟩, a⟩
theorem c_GC_lower {n : Nat} {F : Nat → Nat} {k i : Int} (hv : s_vC n F) {d : qD} {b : Nat} (e : s_Ce n F d) : ∃ d', q_Ev m_GC_lower 0 [q_r t_GC 0, q_i k, q_i i] [] (q_mk d b) (q_i (s_nextA n F 1 k i), q_mk d' b) ∧ q_ag [t_Ne, t_neImg] d d' := by
  obtain ⟨d', v, a⟩ := c_GC_valueOfNext (more := 1) (k := k) (i := i) hv (Or.inl rfl) (b := b) e
  exact ⟨d', e_GC_lower_0 ⟨_, _, v, e_GC_lower_5 rfl⟩, a⟩
theorem c_GC_upper {n : Nat} {F : Nat → Nat} {k i : Int} (hv : s_vC n F) {d : qD} {b : Nat} (e : s_Ce n F d) : ∃ d', q_Ev m_GC_upper 0 [q_r t_GC 0, q_i k, q_i i] [] (q_mk d b) (q_i (s_nextA n F (-1) k i), q_mk d' b) ∧ q_ag [t_Ne, t_neImg] d d' := by
  obtain ⟨d', v, a⟩ := c_GC_valueOfNext (more := -1) (k := k) (i := i) hv (Or.inr rfl) (b := b) e
  exact ⟨d', e_GC_upper_0 ⟨_, _, v, e_GC_upper_5 rfl⟩, a⟩
/-- the dimension -/
def s_dim (n : Nat) (F : Nat → Nat) : Int := (s_pls (s_plus n F) n : Int)
def s_stepA (A : s_A) (more k : Int) : Int × s_A := if A.2.1.1 = 0 ∨ k < 0 then (-1, A) else if k < ((s_nx A.2.1.1 A.2.1.2.1 more).length : Int) then (s_dim A.2.1.1 (s_nxF A.2.1.1 A.2.1.2.1 (s_nx A.2.1.1 A.2.1.2.1 more) k.toNat), s_bec A A.2.1.1 (s_nxF A.2.1.1 A.2.1.2.1 (s_nx A.2.1.1 A.2.1.2.1 more) k.toNat)) else (-2, A)
theorem s_step_val {A : s_A} (hv : s_val A) (more k : Int) : s_val (s_stepA A more k).2 := by
  unfold s_stepA
  split
  · exact hv
  · rename_i h1
    split
    · rename_i h2
      refine s_bec_val hv (Or.inr (s_nxF_ok ?_ (by omega)))
      rcases hv.2.2.1.1 with h3 | h3
      · exact absurd (Or.inl h3) h1
      · exact h3
    · exact hv
theorem c_Ce_dim {n : Nat} {F : Nat → Nat} (hn : n ≤ 8) {d : qD} {b : Nat} (e : s_Ce n F d) : q_Ev m_Ce_dimension 0 [q_r t_Ce 0] [] (q_mk d b) (q_i (s_dim n F), q_mk d b) :=
  c_Ce_dimension hn (fun i h1 h2 => s_plus_lt hn h2) e.2.2.2.2.2.2.2.2.1 e.2.2.2.2.2.2.2.2.2.2
theorem c_GC_stepToNext {A : s_A} {more k : Int} (hv : s_val A) (hm : more = 1 ∨ more = -1) {d : qD} {b : Nat} (e : s_CL A d) : ∃ d', q_Ev m_GC_stepToNext 0 [q_r t_GC 0, q_i more, q_i k] [] (q_mk d b) (q_i (s_stepA A more k).1, q_mk d' b) ∧ q_ag (t_Ne :: t_neImg :: s_TB) d d' ∧ s_CL (s_stepA A more k).2 d' := by
  have eC := e.2.1
  have hb := (s_vC_bd hv.2.2.1.1).1
  unfold s_stepA
  by_cases h1 : A.2.1.1 = 0 ∨ k < 0
  · rw [if_pos h1]
    refine ⟨d, e_GC_stepToNext_0 ?_, q_ag_refl _ _, e⟩
    rw [eC.1]
    exact ⟨fun _ => e_GC_stepToNext_6 rfl, fun h2 => ⟨fun h3 => by omega, fun _ => e_GC_stepToNext_6 rfl⟩⟩
  rw [if_neg h1]
  obtain ⟨d1, a1, hh⟩ := c_Ne_seek (w := k) hb hm (b := b) eC.1 eC.2.2.1 eC.2.2.2.2.1
  have e1 : s_CL A d1 := s_CL_ag e a1 (by decide)
  have st : ∀ d' z, (∃ y : Int, q_Ev m_Ne_seek 0 [q_r t_Ne 0, q_r t_Ce 0, q_i more, q_i k, none, none] [] (q_mk d b) (q_i y, q_mk d1 b) ∧ q_Ev m_GC_stepToNext 15 [q_r t_GC 0, none, none] [.inl y] (q_mk d1 b) (q_i z, q_mk d' b)) → q_Ev m_GC_stepToNext 0 [q_r t_GC 0, q_i more, q_i k] [] (q_mk d b) (q_i z, q_mk d' b) := by
    intro d' z ⟨y, y1, y2⟩
    refine e_GC_stepToNext_0 ?_
    rw [eC.1]
    exact ⟨fun h4 => by omega, fun _ => ⟨fun _ => ⟨_, _, y1, y2⟩, fun h4 => by omega⟩⟩
  rcases hh with ⟨q1, q2, q3⟩ | ⟨q1, q2, q3⟩
  · unfold s_hit at q1
    rw [if_pos (by omega)]
    have hok : s_ok A.2.1.1 A.2.1.2.1 := by
      rcases hv.2.2.1.1 with h3 | h3
      · exact absurd (Or.inl h3) h1
      · exact h3
    have hnok := s_nxF_ok (more := more) (k := k.toNat) hok (by omega)
    obtain ⟨d2, v2, a2, r2⟩ := c_GC_become_ne hv (Or.inr hnok) (d := d1) (b := b) e1 q3
    refine ⟨d2, st _ _ ⟨1, q2, e_GC_stepToNext_15 ⟨fun _ => ?_, fun h4 => absurd h4 (by decide)⟩⟩, q_ag_tr (q_ag_up a1 (by decide)) (q_ag_up a2 (by decide)), r2⟩
    rw [e1.2.1.1]
    exact ⟨_, _, v2, e_GC_stepToNext_26 ⟨_, _, c_Ce_dim hb.1 r2.2.1, e_GC_stepToNext_29 rfl⟩⟩
  · unfold s_hit at q1
    rw [if_neg (by omega)]
    exact ⟨d1, st _ _ ⟨0, q3, e_GC_stepToNext_15 ⟨fun h4 => absurd rfl h4, fun _ => rfl⟩⟩, q_ag_up a1 (by decide), e1⟩
theorem c_GC_down {A : s_A} {k : Int} (hv : s_val A) {d : qD} {b : Nat} (e : s_CL A d) : ∃ d', q_Ev m_GC_down 0 [q_r t_GC 0, q_i k] [] (q_mk d b) (q_i (s_stepA A 1 k).1, q_mk d' b) ∧ q_ag (t_Ne :: t_neImg :: s_TB) d d' ∧ s_CL (s_stepA A 1 k).2 d' := by
  obtain ⟨d', v, a, r⟩ := c_GC_stepToNext (more := 1) (k := k) hv (Or.inl rfl) (b := b) e
  exact ⟨d', e_GC_down_0 ⟨_, _, v, e_GC_down_4 rfl⟩, a, r⟩
theorem c_GC_up {A : s_A} {k : Int} (hv : s_val A) {d : qD} {b : Nat} (e : s_CL A d) : ∃ d', q_Ev m_GC_up 0 [q_r t_GC 0, q_i k] [] (q_mk d b) (q_i (s_stepA A (-1) k).1, q_mk d' b) ∧ q_ag (t_Ne :: t_neImg :: s_TB) d d' ∧ s_CL (s_stepA A (-1) k).2 d' := by
  obtain ⟨d', v, a, r⟩ := c_GC_stepToNext (more := -1) (k := k) hv (Or.inr rfl) (b := b) e
  exact ⟨d', e_GC_up_0 ⟨_, _, v, e_GC_up_4 rfl⟩, a, r⟩
/-- turn, mirror, complement: by the new F -/
def s_actA (A : s_A) (G : Nat → (Nat → Nat) → Nat → Nat) : Int × s_A := if A.2.1.1 = 0 then (0, A) else (1, s_bec A A.2.1.1 (G A.2.1.1 A.2.1.2.1))
theorem s_act_val {A : s_A} (hv : s_val A) {G : Nat → (Nat → Nat) → Nat → Nat} (hG : ∀ n F, s_ok n F → s_ok n (G n F)) : s_val (s_actA A G).2 := by
  unfold s_actA
  split
  · exact hv
  · rename_i h1
    refine s_bec_val hv (Or.inr (hG _ _ ?_))
    rcases hv.2.2.1.1 with h3 | h3
    · exact absurd h3 h1
    · exact h3
theorem c_GC_turnGo {n : Nat} {F : Nat → Nat} (hok : s_ok n F) {b : Nat} : ∀ (f i : Nat) (d : qD), i + f = n → 1 ≤ i → d.1 t_Ce 0 0 = (n : Int) → s_row (d.1 t_img 0) n F → (∀ k, 2 ≤ k → k ≤ i → d.1 t_scratch 0 k = (s_turnF n F k : Int)) → ∃ d', q_ag [t_scratch] d d' ∧ s_row (d'.1 t_scratch 0) n (s_turnF n F) ∧ ∀ r v w2, q_Ev m_GC_become 0 [q_r t_GC 0, q_i (n : Int), q_r t_scratch 0] [] (q_mk d' b) (v, w2) → q_Ev m_GC_turn 52 [none, none] (v.toList ++ []) w2 r → q_Ev m_GC_turn 8 [q_r t_GC 0, q_i (i : Int)] [] (q_mk d b) r
  | 0, i, d, h, hi, e0, eF, eS => by
    have : i = n := by omega
    subst this
    have b1 := hok.2.2.1 i hi (Nat.le_refl i)
    have hn := hok.2.1
    have ev : q_w ((q_w ((F i : Int) + 1)) - (i : Int)) = (s_turnF i F 1 : Int) := by
      unfold s_turnF
      rw [if_pos rfl, q_wS (by omega), q_wD (by omega) (by omega)]
    refine ⟨q_sI d t_scratch 0 1 (s_turnF i F 1 : Int), q_ag_sI (by decide), fun k h1 h2 => ?_, fun r v w2 v1 v2 => e_GC_turn_8 ⟨fun _ => ?_, fun h2 => ?_⟩⟩
    · rw [q_sI_at]
      by_cases hq : k = 1
      · subst hq; rw [q_up_at]
      · rw [q_up_ne _ _ hq]; exact eS k (by omega) h2
    · rw [e0, Int.toNat_natCast, eF i hi (Nat.le_refl i)]
      refine ⟨by omega, by omega, by decide, by decide, ?_⟩
      rw [ev]
      exact ⟨_, _, v1, v2⟩
    · rw [e0] at h2; omega
  | f + 1, i, d, h, hi, e0, eF, eS => by
    have b1 := hok.2.2.1 i hi (by omega)
    have hn := hok.2.1
    obtain ⟨d', a, r1, r2⟩ := c_GC_turnGo hok (b := b) f (i + 1) (q_sI d t_scratch 0 (i + 1) ((F i + 1 : Nat) : Int)) (by omega) (by omega) (by rw [q_sI_ne _ _ (by decide), e0]) (by rw [q_sI_ne _ _ (by decide)]; exact eF) (by
      intro k h1 h2
      rw [q_sI_at]
      by_cases hq : k = i + 1
      · subst hq
        rw [q_up_at]
        unfold s_turnF
        rw [if_neg (by omega), show i + 1 - 1 = i by omega]
      · rw [q_up_ne _ _ hq]; exact eS k h1 (by omega))
    refine ⟨d', q_ag_tr (q_ag_sI (by decide)) a, r1, fun r v w2 v1 v2 => e_GC_turn_8 ⟨fun h2 => ?_, fun _ => ⟨by omega, by omega, ?_⟩⟩⟩
    · rw [e0] at h2; omega
    · rw [q_wS (by omega), Int.toNat_natCast, Int.toNat_natCast, eF i hi (by omega), q_wS (by omega)]
      exact ⟨by omega, by omega, r2 r v w2 v1 v2⟩
theorem s_vC_ok {n : Nat} {F : Nat → Nat} (h : s_vC n F) (h0 : ¬ n = 0) : s_ok n F := by
  rcases h with h | h
  · exact absurd h h0
  · exact h
theorem c_GC_turn {A : s_A} (hv : s_val A) {d : qD} {b : Nat} (e : s_CL A d) : ∃ d', q_Ev m_GC_turn 0 [q_r t_GC 0, none] [] (q_mk d b) (q_i (s_actA A s_turnF).1, q_mk d' b) ∧ q_ag (t_scratch :: s_TB) d d' ∧ s_CL (s_actA A s_turnF).2 d' := by
  have eC := e.2.1
  unfold s_actA
  by_cases h1 : A.2.1.1 = 0
  · rw [if_pos h1]
    refine ⟨d, e_GC_turn_0 ⟨fun h2 => ?_, fun _ => ⟨by decide, by decide, rfl⟩⟩, q_ag_refl _ _, e⟩
    rw [eC.1] at h2; omega
  rw [if_neg h1]
  have hok := s_vC_ok hv.2.2.1.1 h1
  have h2 := hok.1
  obtain ⟨d1, a1, r1, k1⟩ := c_GC_turnGo hok (b := b) (A.2.1.1 - 1) 1 d (by omega) (by omega) eC.1 eC.2.2.2.2.1 (fun k h1 h2 => by omega)
  obtain ⟨d2, v2, a2, r2⟩ := c_GC_become_sc hv (Or.inr (s_turn_ok hok)) (d := d1) (b := b) (s_CL_ag e a1 (by decide)) r1
  refine ⟨d2, e_GC_turn_0 ⟨fun _ => k1 _ _ _ v2 (e_GC_turn_52 ⟨by decide, by decide, rfl⟩), fun h3 => ?_⟩, q_ag_tr (q_ag_up a1 (by decide)) (q_ag_up a2 (by decide)), r2⟩
  rw [eC.1] at h3; omega
theorem c_GC_mirrorGo {n : Nat} {F : Nat → Nat} (hok : s_ok n F) {b : Nat} : ∀ (f i : Nat) (d : qD), i + f = n + 1 → 1 ≤ i → d.1 t_Ce 0 0 = (n : Int) → s_row (d.1 t_img 0) n F → (∀ k, n + 1 - i < k → k ≤ n → d.1 t_scratch 0 k = (s_mirF n F k : Int)) → ∃ d', q_ag [t_scratch] d d' ∧ s_row (d'.1 t_scratch 0) n (s_mirF n F) ∧ ∀ r v w2, q_Ev m_GC_become 0 [q_r t_GC 0, q_i (n : Int), q_r t_scratch 0] [] (q_mk d' b) (v, w2) → q_Ev m_GC_mirror 42 [none, none] (v.toList ++ []) w2 r → q_Ev m_GC_mirror 8 [q_r t_GC 0, q_i (i : Int)] [] (q_mk d b) r
  | 0, i, d, h, hi, e0, eF, eS => by
    refine ⟨d, q_ag_refl _ _, fun k h1 h2 => eS k (by omega) h2, fun r v w2 v1 v2 => e_GC_mirror_8 ⟨fun _ => ?_, fun h2 => ?_⟩⟩
    · rw [e0]; exact ⟨_, _, v1, v2⟩
    · rw [e0] at h2; omega
  | f + 1, i, d, h, hi, e0, eF, eS => by
    have hn := hok.2.1
    have xi := s_src_of hok hi (show i ≤ n by omega)
    obtain ⟨d', a, r1, r2⟩ := c_GC_mirrorGo hok (b := b) f (i + 1) (q_sI d t_scratch 0 (n + 1 - i) (s_mirF n F (n + 1 - i) : Int)) (by omega) (by omega) (by rw [q_sI_ne _ _ (by decide), e0]) (by rw [q_sI_ne _ _ (by decide)]; exact eF) (by
      intro k h1 h2
      rw [q_sI_at]
      by_cases hq : k = n + 1 - i
      · subst hq; rw [q_up_at]
      · rw [q_up_ne _ _ hq]; exact eS k (by omega) h2)
    have og := s_org_src hok hi (show i ≤ n by omega) n 1 (by omega) (by omega) xi.1
    refine ⟨d', q_ag_tr (q_ag_sI (by decide)) a, r1, fun r v w2 v1 v2 => e_GC_mirror_8 ⟨fun h2 => ?_, fun _ => ⟨_, _, c_Ce_origin hn (by omega) e0 eF, e_GC_mirror_31 ?_⟩⟩⟩
    · rw [e0] at h2; omega
    · rw [e0, q_wS (by omega), q_wS (by omega), show q_w (((n + 1 : Nat) : Int) - (i : Int)) = ((n + 1 - i : Nat) : Int) from q_wD (by omega) (by omega), Int.toNat_natCast, og]
      have ev : q_w (((n + 1 : Nat) : Int) - (if n < F (s_src n F n i) then (s_src n F n i : Int) - (n : Int) else (s_src n F n i : Int))) = (s_mirF n F (n + 1 - i) : Int) := by
        unfold s_mirF
        rw [show n + 1 - (n + 1 - i) = i by omega]
        split
        · rw [q_w_id (by omega) (by omega)]; omega
        · rw [q_w_id (by omega) (by omega)]; omega
      rw [ev]
      exact ⟨by omega, by omega, r2 r v w2 v1 v2⟩
theorem c_GC_mirror {A : s_A} (hv : s_val A) {d : qD} {b : Nat} (e : s_CL A d) : ∃ d', q_Ev m_GC_mirror 0 [q_r t_GC 0, none] [] (q_mk d b) (q_i (s_actA A s_mirF).1, q_mk d' b) ∧ q_ag (t_scratch :: s_TB) d d' ∧ s_CL (s_actA A s_mirF).2 d' := by
  have eC := e.2.1
  unfold s_actA
  by_cases h1 : A.2.1.1 = 0
  · rw [if_pos h1]
    refine ⟨d, e_GC_mirror_0 ⟨fun h2 => ?_, fun _ => ⟨by decide, by decide, rfl⟩⟩, q_ag_refl _ _, e⟩
    rw [eC.1] at h2; omega
  rw [if_neg h1]
  have hok := s_vC_ok hv.2.2.1.1 h1
  obtain ⟨d1, a1, r1, k1⟩ := c_GC_mirrorGo hok (b := b) A.2.1.1 1 d (by omega) (by omega) eC.1 eC.2.2.2.2.1 (fun k h1 h2 => by omega)
  obtain ⟨d2, v2, a2, r2⟩ := c_GC_become_sc hv (Or.inr (s_mir_ok hok)) (d := d1) (b := b) (s_CL_ag e a1 (by decide)) r1
  refine ⟨d2, e_GC_mirror_0 ⟨fun _ => k1 _ _ _ v2 (e_GC_mirror_42 ⟨by decide, by decide, rfl⟩), fun h3 => ?_⟩, q_ag_tr (q_ag_up a1 (by decide)) (q_ag_up a2 (by decide)), r2⟩
  rw [eC.1] at h3; omega
theorem c_GC_complementGo {n : Nat} {F : Nat → Nat} (hok : s_ok n F) {b : Nat} : ∀ (f i : Nat) (d : qD), i + f = n + 1 → 1 ≤ i → d.1 t_Ce 0 0 = (n : Int) → s_row (d.1 t_img 0) n F → (∀ k, 1 ≤ k → k < i → d.1 t_scratch 0 k = (s_comF n F k : Int)) → ∃ d', q_ag [t_scratch] d d' ∧ s_row (d'.1 t_scratch 0) n (s_comF n F) ∧ ∀ r v w2, q_Ev m_GC_become 0 [q_r t_GC 0, q_i (n : Int), q_r t_scratch 0] [] (q_mk d' b) (v, w2) → q_Ev m_GC_complement 34 [none, none] (v.toList ++ []) w2 r → q_Ev m_GC_complement 8 [q_r t_GC 0, q_i (i : Int)] [] (q_mk d b) r
  | 0, i, d, h, hi, e0, eF, eS => by
    refine ⟨d, q_ag_refl _ _, fun k h1 h2 => eS k h1 (by omega), fun r v w2 v1 v2 => e_GC_complement_8 ⟨fun _ => ?_, fun h2 => ?_⟩⟩
    · rw [e0]; exact ⟨_, _, v1, v2⟩
    · rw [e0] at h2; omega
  | f + 1, i, d, h, hi, e0, eF, eS => by
    have hn := hok.2.1
    have xi := s_src_of hok hi (show i ≤ n by omega)
    obtain ⟨d', a, r1, r2⟩ := c_GC_complementGo hok (b := b) f (i + 1) (q_sI d t_scratch 0 i (s_comF n F i : Int)) (by omega) (by omega) (by rw [q_sI_ne _ _ (by decide), e0]) (by rw [q_sI_ne _ _ (by decide)]; exact eF) (by
      intro k h1 h2
      rw [q_sI_at]
      by_cases hq : k = i
      · subst hq; rw [q_up_at]
      · rw [q_up_ne _ _ hq]; exact eS k h1 (by omega))
    have og := s_org_src hok hi (show i ≤ n by omega) n 1 (by omega) (by omega) xi.1
    refine ⟨d', q_ag_tr (q_ag_sI (by decide)) a, r1, fun r v w2 v1 v2 => e_GC_complement_8 ⟨fun h2 => ?_, fun _ => ⟨_, _, c_Ce_origin hn (by omega) e0 eF, e_GC_complement_20 ?_⟩⟩⟩
    · rw [e0] at h2; omega
    · rw [e0, q_wS (by omega), Int.toNat_natCast, og]
      have ev : q_w ((if n < F (s_src n F n i) then (s_src n F n i : Int) - (n : Int) else (s_src n F n i : Int)) + (n : Int)) = (s_comF n F i : Int) := by
        unfold s_comF
        split
        · rw [q_w_id (by omega) (by omega)]; omega
        · rw [q_w_id (by omega) (by omega)]; omega
      rw [ev]
      exact ⟨by omega, by omega, r2 r v w2 v1 v2⟩
theorem c_GC_complement {A : s_A} (hv : s_val A) {d : qD} {b : Nat} (e : s_CL A d) : ∃ d', q_Ev m_GC_complement 0 [q_r t_GC 0, none] [] (q_mk d b) (q_i (s_actA A s_comF).1, q_mk d' b) ∧ q_ag (t_scratch :: s_TB) d d' ∧ s_CL (s_actA A s_comF).2 d' := by
  have eC := e.2.1
  unfold s_actA
  by_cases h1 : A.2.1.1 = 0
  · rw [if_pos h1]
    refine ⟨d, e_GC_complement_0 ⟨fun h2 => ?_, fun _ => ⟨by decide, by decide, rfl⟩⟩, q_ag_refl _ _, e⟩
    rw [eC.1] at h2; omega
  rw [if_neg h1]
  have hok := s_vC_ok hv.2.2.1.1 h1
  obtain ⟨d1, a1, r1, k1⟩ := c_GC_complementGo hok (b := b) A.2.1.1 1 d (by omega) (by omega) eC.1 eC.2.2.2.2.1 (fun k h1 h2 => by omega)
  obtain ⟨d2, v2, a2, r2⟩ := c_GC_become_sc hv (Or.inr (s_com_ok hok)) (d := d1) (b := b) (s_CL_ag e a1 (by decide)) r1
  refine ⟨d2, e_GC_complement_0 ⟨fun _ => k1 _ _ _ v2 (e_GC_complement_34 ⟨by decide, by decide, rfl⟩), fun h3 => ?_⟩, q_ag_tr (q_ag_up a1 (by decide)) (q_ag_up a2 (by decide)), r2⟩
  rw [eC.1] at h3; omega
def s_undoA (A : s_A) : Int × s_A := match A.2.2.1 with
  | [] => (-1, A)
  | h :: T => ((T.length : Int), (A.1, h, T, A.2.2.2))
theorem s_undo_val {A : s_A} (hv : s_val A) : s_val (s_undoA A).2 := by
  obtain ⟨tp, cur, Hs, Sh⟩ := A
  obtain ⟨h1, h2, h3, h4, h5, h6⟩ := hv
  match Hs, h4, h5 with
  | [], h4, h5 => exact ⟨h1, h2, h3, h4, h5, h6⟩
  | h :: T, h4, h5 => exact ⟨h1, h2, h5 h (List.mem_cons_self ..), Nat.le_of_succ_le h4, fun g hg => h5 g (List.mem_cons_of_mem _ hg), h6⟩
theorem c_GC_undo {A : s_A} (hv : s_val A) {d : qD} {b : Nat} (e : s_CL A d) : ∃ d', q_Ev m_GC_undo 0 [q_r t_GC 0, none] [] (q_mk d b) (q_i (s_undoA A).1, q_mk d' b) ∧ q_ag s_TB d d' ∧ s_CL (s_undoA A).2 d' := by
  obtain ⟨tp, cur, Hs, Sh⟩ := A
  have ee := e
  obtain ⟨⟨eT, eT2⟩, eC, eK, eP, eS⟩ := ee
  match Hs, hv, e, eP with
  | [], hv, e, eP =>
    obtain ⟨l, v, hv1, p1, p2, p3⟩ := eP
    refine ⟨d, e_GC_undo_0 ⟨fun h => ?_, fun _ => rfl⟩, q_ag_refl _ _, e⟩
    rw [p2] at h; exact absurd rfl h
  | h :: T, hv, e, eP =>
    have hh := hv.2.2.2.2.1 h (List.mem_cons_self ..)
    have hb := s_vC_bd hh.1
    have eP2 := eP
    obtain ⟨l, v, hv1, p1, p2, p3⟩ := eP2
    obtain ⟨x, d1, hx, v1, a1, m1, q1⟩ := c_Pa_takeLast (b := b) eP
    obtain ⟨d2, v2, a2, r2, o2⟩ := c_Ce_take_mo (c2 := x) hb.1 hb.2 (d := d1) (b := b) m1.2.1
    obtain ⟨d3, v3, a3, r3, o3⟩ := c_Co_copyFrom (k := 20) (k2 := x) (by omega) (s_vH_len hh) (d := d2) (b := b) (s_Co_of m1.2.2 (a2.1 t_Co (by decide) x) (a2.1 t_coSets (by decide) x))
    have q3 : s_Pa T d3 := by
      refine s_Pa_of q1 ?_ (fun y hy => ⟨?_, ?_, ?_, ?_⟩)
      · rw [a3.1 t_Pa (by decide), a2.1 t_Pa (by decide)]
      · rw [a3.1 t_Mo (by decide), a2.1 t_Mo (by decide)]
      · rw [a3.1 t_moImg (by decide), a2.1 t_moImg (by decide)]
      · rw [(o3 y (by omega)).2, a2.1 t_Co (by decide)]
      · rw [(o3 y (by omega)).1, a2.1 t_coSets (by decide)]
    have q3c := q3
    obtain ⟨_, v', _, _, p2', _⟩ := q3c
    refine ⟨d3, e_GC_undo_0 ⟨fun _ => ⟨_, _, v1, e_GC_undo_9 ?_⟩, fun h0 => ?_⟩, q_ag_tr (q_ag_up a1 (by decide)) (q_ag_tr (q_ag_up a2 (by decide)) (q_ag_up a3 (by decide))), ⟨?_, s_Ce_ag r2 a3 (by decide), r3, q3, fun y hy => ?_⟩⟩
    · rw [m1.1]
      refine ⟨_, _, v2, e_GC_undo_17 ⟨_, _, v3, e_GC_undo_22 ?_⟩⟩
      rw [p2']; rfl
    · rw [p2, List.length_cons] at h0; omega
    · show d3.1 t_Ta 0 1 = (tp.1 : Int) ∧ ∀ k, k < tp.1 → d3.1 t_bytes 0 k = tp.2 k
      rw [a3.1 t_Ta (by decide), a2.1 t_Ta (by decide), a1.1 t_Ta (by decide), a3.1 t_bytes (by decide), a2.1 t_bytes (by decide), a1.1 t_bytes (by decide)]
      exact ⟨eT, eT2⟩
    · refine s_Sh_of (eS y hy) ?_ ?_
      · rw [a3.1 t_Sh (by decide), a2.1 t_Sh (by decide), a1.1 t_Sh (by decide)]
      · rw [a3.1 t_shBL (by decide), a2.1 t_shBL (by decide), a1.1 t_shBL (by decide)]
def s_keepA (A : s_A) (x : Int) : Int × s_A := if A.2.1.1 = 0 ∨ x < 0 ∨ 4 ≤ x then (-1, A) else (s_dim A.2.1.1 A.2.1.2.1, (A.1, A.2.1, A.2.2.1, fun y => if y = x.toNat then (A.2.1.1, A.2.1.2.1) else A.2.2.2 y))
theorem s_keep_val {A : s_A} (hv : s_val A) (x : Int) : s_val (s_keepA A x).2 := by
  unfold s_keepA
  split
  · exact hv
  · refine ⟨hv.1, hv.2.1, hv.2.2.1, hv.2.2.2.1, hv.2.2.2.2.1, fun y => ?_⟩
    dsimp only
    split
    · exact hv.2.2.1.1
    · exact hv.2.2.2.2.2 y
theorem c_GC_keep {A : s_A} {x : Int} (hv : s_val A) {d : qD} {b : Nat} (e : s_CL A d) : ∃ d', q_Ev m_GC_keep 0 [q_r t_GC 0, q_i x] [] (q_mk d b) (q_i (s_keepA A x).1, q_mk d' b) ∧ q_ag [t_Sh, t_shBL] d d' ∧ s_CL (s_keepA A x).2 d' := by
  have ee := e
  obtain ⟨eT, eC, eK, eP, eS⟩ := ee
  have hb := (s_vC_bd hv.2.2.1.1).1
  unfold s_keepA
  by_cases h1 : A.2.1.1 = 0 ∨ x < 0 ∨ 4 ≤ x
  · rw [if_pos h1]
    refine ⟨d, e_GC_keep_0 ?_, q_ag_refl _ _, e⟩
    rw [eC.1]
    exact ⟨fun _ => e_GC_keep_9 rfl, fun h2 => ⟨fun _ => e_GC_keep_9 rfl, fun h3 => ⟨fun h4 => by omega, fun _ => e_GC_keep_9 rfl⟩⟩⟩
  rw [if_neg h1]
  obtain ⟨d1, v1, a1, r1, o1⟩ := c_Sh_put (x := x.toNat) (d := d) (b := b) eC
  have eC1 := s_Ce_ag eC a1 (by decide)
  refine ⟨d1, e_GC_keep_0 ?_, a1, ⟨?_, eC1, s_Co_of eK (a1.1 _ (by decide) _) (a1.1 _ (by decide) _), s_Pa_of eP (a1.1 _ (by decide) _) (fun y _ => ⟨a1.1 _ (by decide) _, a1.1 _ (by decide) _, a1.1 _ (by decide) _, a1.1 _ (by decide) _⟩), fun y hy => ?_⟩⟩
  · rw [eC.1]
    exact ⟨fun h2 => by omega, fun _ => ⟨fun h3 => by omega, fun _ => ⟨fun _ => ⟨by omega, by omega, _, _, v1, e_GC_keep_18 ⟨_, _, c_Ce_dim hb.1 eC1, e_GC_keep_21 rfl⟩⟩, fun h3 => by omega⟩⟩⟩
  · rw [a1.1 t_Ta (by decide), a1.1 t_bytes (by decide)]; exact eT
  · dsimp only
    by_cases hq : y = x.toNat
    · rw [if_pos hq, hq]; exact r1
    · rw [if_neg hq]; exact s_Sh_of (eS y hy) (o1 y hq).1 (o1 y hq).2
def s_hasA (A : s_A) (x : Int) : Int := if A.2.1.1 = 0 ∨ x < 0 ∨ 4 ≤ x then -1 else if (A.2.2.2 x.toNat).1 = 0 then -2 else q_b2i (s_clo A.2.1.1 A.2.1.2.1 (A.2.2.2 x.toNat).1 (A.2.2.2 x.toNat).2)
theorem c_GC_has {A : s_A} {x : Int} (hv : s_val A) {d : qD} {b : Nat} (e : s_CL A d) : q_Ev m_GC_has 0 [q_r t_GC 0, q_i x] [] (q_mk d b) (q_i (s_hasA A x), q_mk d b) := by
  obtain ⟨eT, eC, eK, eP, eS⟩ := e
  have hb := (s_vC_bd hv.2.2.1.1).1
  unfold s_hasA
  by_cases h1 : A.2.1.1 = 0 ∨ x < 0 ∨ 4 ≤ x
  · rw [if_pos h1]
    refine e_GC_has_0 ?_
    rw [eC.1]
    exact ⟨fun _ => e_GC_has_9 rfl, fun h2 => ⟨fun _ => e_GC_has_9 rfl, fun h3 => ⟨fun h4 => by omega, fun _ => e_GC_has_9 rfl⟩⟩⟩
  rw [if_neg h1]
  have es := eS x.toNat (by omega)
  have st : ∀ z, ((A.2.2.2 x.toNat).1 ≠ 0 → ∃ v w2, q_Ev m_Sh_isInClosureOf 0 [q_r t_Sh x.toNat, q_r t_Ce 0, none] [] (q_mk d b) (v, w2) ∧ q_Ev m_GC_has 26 [none, none] v.toList w2 (q_i z, q_mk d b)) → ((A.2.2.2 x.toNat).1 = 0 → z = -2) → q_Ev m_GC_has 0 [q_r t_GC 0, q_i x] [] (q_mk d b) (q_i z, q_mk d b) := by
    intro z k1 k2
    refine e_GC_has_0 ?_
    rw [eC.1, es.1]
    exact ⟨fun h2 => by omega, fun _ => ⟨fun h3 => by omega, fun _ => ⟨fun _ => ⟨by omega, by omega, fun h2 => ⟨by omega, by omega, by
      obtain ⟨v, w2, y1, y2⟩ := k1 (by omega)
      exact ⟨v, w2, y1, by simpa using y2⟩⟩, fun h2 => by rw [k2 (by omega)]⟩, fun h3 => by omega⟩⟩⟩
  by_cases h2 : (A.2.2.2 x.toNat).1 = 0
  · rw [if_pos h2]
    exact st _ (fun h3 => absurd h2 h3) (fun _ => rfl)
  rw [if_neg h2]
  refine st _ (fun _ => ⟨_, _, c_Sh_isIn hb.1 (by omega) eC es, e_GC_has_26 ⟨fun h3 => ?_, fun h3 => ?_⟩⟩) (fun h3 => absurd h3 h2)
  · rw [q_b2i_f h3]; exact e_GC_has_30 rfl
  · rw [q_b2i_t h3]; exact e_GC_has_30 rfl
/-- the shelves with something on them -/
def s_kep (S : Nat → Nat × (Nat → Nat)) : Nat → Nat
  | 0 => 0
  | i + 1 => if 0 < (S i).1 then s_kep S i ||| 2 ^ i else s_kep S i
theorem s_kep_lt (S : Nat → Nat × (Nat → Nat)) : ∀ i, i ≤ 8 → s_kep S i < 256
  | 0, _ => (show (0 : Nat) < 256 from Nat.zero_lt_succ _)
  | i + 1, h => by
    have := s_kep_lt S i (by omega)
    rw [s_kep]; split
    · exact Nat.or_lt_two_pow (n := 8) this (Nat.pow_lt_pow_right (by decide) (by omega))
    · exact this
theorem c_GC_filledGo {S : Nat → Nat × (Nat → Nat)} {d : qD} {b : Nat} (e : ∀ x, x < 4 → d.1 t_Sh x 0 = ((S x).1 : Int)) : ∀ (f i : Nat), i + f = 4 → q_Ev m_GC_filledShelves 4 [q_r t_GC 0, q_i (s_kep S i : Int), q_i (i : Int)] [] (q_mk d b) (q_i (s_kep S 4 : Int), q_mk d b)
  | 0, i, h => by
    refine e_GC_filledShelves_4 ⟨fun _ => ?_, fun h2 => by omega⟩
    rw [show i = 4 by omega]
  | f + 1, i, h => by
    have ih := c_GC_filledGo (b := b) e f (i + 1) (by omega)
    have hlt := s_kep_lt S i (by omega)
    have hp2 : 2 ^ i < 2 ^ 8 := Nat.pow_lt_pow_right (by decide) (by omega)
    rw [s_kep] at ih
    refine e_GC_filledShelves_4 ⟨fun h2 => by omega, fun _ => ⟨by omega, by omega, ?_⟩⟩
    rw [Int.toNat_natCast, e i (by omega)]
    refine ⟨fun h2 => e_GC_filledShelves_19 ?_, fun h2 => e_GC_filledShelves_19 ?_⟩
    · rw [if_neg (by omega)] at ih
      rw [q_wS (by omega)]; exact ih
    · rw [if_pos (by omega)] at ih
      rw [q_wS (by omega), q_shl1 _ (by omega), q_or_nat (by omega) (by omega)]; exact ih
def s_countA (A : s_A) (q : Nat → Nat) (x : Int) : Int := if x = 7 then (A.2.2.1.length : Int) else if x = 8 then (s_kep A.2.2.2 4 : Int) else if x = 9 then (A.1.1 : Int) else if A.2.1.1 = 0 then -1 else if x = 0 then (A.2.1.1 : Int) else if x = 1 then (q_pc (s_n1 A.2.1.1 A.2.1.2.1 A.2.1.1) : Int) else if x = 2 then s_dim A.2.1.1 A.2.1.2.1 else if x = 3 then (s_inv A.2.1.2.1 A.2.1.1 : Int) else if x = 4 then (s_fix A.2.1.2.1 0 A.2.1.1 : Int) else if x = 5 then (s_fix A.2.1.2.1 A.2.1.1 A.2.1.1 : Int) else if x = 6 then (s_cnt q A.2.1.1 : Int) else -1
theorem c_GC_count {A : s_A} {x : Int} {q : Nat → Nat} (hv : s_val A) (hq : s_lp A.2.1.1 (s_EL (s_basL A.2.1.1 A.2.1.2.1 256) (s_bas A.2.1.1 A.2.1.2.1)) q) {d : qD} {b : Nat} (e : s_CL A d) : q_Ev m_GC_count 0 [q_r t_GC 0, q_i x] [] (q_mk d b) (q_i (s_countA A q x), q_mk d b) := by
  obtain ⟨eT, eC, eK, ⟨_, v, hv1, p1, p2, p3⟩, eS⟩ := e
  have hb := (s_vC_bd hv.2.2.1.1).1
  have hn := hb.1
  unfold s_countA
  refine e_GC_count_0 ⟨fun h7 => ?_, fun h7 => ⟨fun h8 => ?_, fun h8 => ⟨fun h9 => ?_, fun h9 => ?_⟩⟩⟩
  · rw [if_pos h7, p2]
  · rw [if_neg h7, if_pos h8]
    exact ⟨_, _, e_GC_filledShelves_0 (c_GC_filledGo (fun y hy => (eS y hy).1) 4 0 rfl), e_GC_count_8 rfl⟩
  · rw [if_neg h7, if_neg h8, if_pos h9, eT.1]
  · rw [if_neg h7, if_neg h8, if_neg h9, eC.1]
    refine ⟨fun h0 => ?_, fun h0 => ?_⟩
    · rw [if_pos (by omega)]; exact e_GC_count_23 rfl
    · rw [if_neg (by omega)]
      have fin : ∀ z, q_Ev m_GC_countOfLive 0 [q_r t_GC 0, q_i x] [] (q_mk d b) (q_i z, q_mk d b) → ∃ v w2, q_Ev m_GC_countOfLive 0 [q_r t_GC 0, q_i x] [] (q_mk d b) (v, w2) ∧ q_Ev m_GC_count 21 [none, none] (v.toList ++ []) w2 (q_i z, q_mk d b) := fun z h => ⟨_, _, h, e_GC_count_21 (e_GC_count_23 rfl)⟩
      refine fin _ (e_GC_countOfLive_0 ⟨fun h => ?_, fun g0 => ⟨fun h => ?_, fun g1 => ⟨fun h => ?_, fun g2 => ⟨fun h => ?_, fun g3 => ⟨fun h => ?_, fun g4 => ⟨fun h => ?_, fun g5 => ⟨fun h => ?_, fun g6 => ?_⟩⟩⟩⟩⟩⟩⟩)
      · rw [if_pos h, eC.1]
      · rw [if_neg g0, if_pos h, eC.2.1]
      · rw [if_neg g0, if_neg g1, if_pos h]
        exact ⟨_, _, c_Ce_dim hn eC, e_GC_countOfLive_13 rfl⟩
      · rw [if_neg g0, if_neg g1, if_neg g2, if_pos h, eC.2.2.1]
      · rw [if_neg g0, if_neg g1, if_neg g2, if_neg g3, if_pos h]
        exact ⟨_, _, c_Ce_fixedLabels (m := 0) hn (by omega) eC.1 eC.2.2.2.2.1, e_GC_countOfLive_22 rfl⟩
      · rw [if_neg g0, if_neg g1, if_neg g2, if_neg g3, if_neg g4, if_pos h, eC.1]
        exact ⟨_, _, c_Ce_fixedLabels hn hn eC.1 eC.2.2.2.2.1, e_GC_countOfLive_29 rfl⟩
      · rw [if_neg g0, if_neg g1, if_neg g2, if_neg g3, if_neg g4, if_neg g5, if_pos h]
        exact ⟨_, _, c_Ce_partCount hn (s_basL_len _ _ 256 (Nat.le_refl _)) s_basL_2n (fun s => s_bas_lt s) (s_EL_sy hn) hq eC.1 eC.2.2.2.1 eC.2.2.2.2.2.2.2.1 eC.2.2.2.2.2.2.1, e_GC_countOfLive_33 rfl⟩
      · rw [if_neg g0, if_neg g1, if_neg g2, if_neg g3, if_neg g4, if_neg g5, if_neg g6]
