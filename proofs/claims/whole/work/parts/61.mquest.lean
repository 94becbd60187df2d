/-! the model's questions -/
theorem s_9 {i j : Nat} (hi : i ≤ 8) (hj : j ≤ 8) : q_w ((q_w (9 * (i : Int))) + (j : Int)) = ((9 * i + j : Nat) : Int) := by
  rw [show (9 : Int) * (i : Int) = ((9 * i : Nat) : Int) by omega, show q_w ((9 * i : Nat) : Int) = ((9 * i : Nat) : Int) from q_w_id (by omega) (by omega), q_w_id (by omega) (by omega)]; omega
def s_bxv (fs : Nat) (P : Nat → Nat) (i j : Nat) : Int := if s_box fs i j then (if q_hl (P i) j then 2 else 1) else 0
def s_Bx (n fs : Nat) (P : Nat → Nat) (d : qD) : Prop := ∀ i j, 1 ≤ i → i ≤ n → 1 ≤ j → j ≤ n → d.1 t_mBoxes 0 (9 * i + j) = s_bxv fs P i j
def s_pb (fs : Nat) (P : Nat → Nat) (i j : Nat) : Bool := s_box fs i j && q_hl (P i) j
theorem c_Md_isBox {n fs i j : Nat} {P : Nat → Nat} (hn : n ≤ 8) (hi : 1 ≤ i) (hin : i ≤ n) (hj : 1 ≤ j) (hjn : j ≤ n) {d : qD} {b : Nat} (e : s_Bx n fs P d) : q_Ev m_Md_isBox 0 [q_r t_Md 0, q_i (i : Int), q_i (j : Int)] [] (q_mk d b) (q_i (q_b2i (s_box fs i j)), q_mk d b) := by
  refine e_Md_isBox_0 ?_
  rw [s_9 (by omega) (by omega), Int.toNat_natCast, e i j hi hin hj hjn]
  unfold s_bxv
  refine ⟨by omega, by omega, fun h => ?_, fun h => ?_⟩
  · cases hb : s_box fs i j
    · exact e_Md_isBox_12 ⟨by decide, by decide, rfl⟩
    · rw [hb, if_pos rfl] at h
      split at h <;> omega
  · cases hb : s_box fs i j
    · rw [hb, if_neg (by decide)] at h; omega
    · exact e_Md_isBox_12 ⟨by decide, by decide, rfl⟩
theorem c_Md_isPlus {n fs i j : Nat} {P : Nat → Nat} (hn : n ≤ 8) (hi : 1 ≤ i) (hin : i ≤ n) (hj : 1 ≤ j) (hjn : j ≤ n) {d : qD} {b : Nat} (e : s_Bx n fs P d) : q_Ev m_Md_isPlus 0 [q_r t_Md 0, q_i (i : Int), q_i (j : Int)] [] (q_mk d b) (q_i (q_b2i (s_pb fs P i j)), q_mk d b) := by
  refine e_Md_isPlus_0 ?_
  rw [s_9 (by omega) (by omega), Int.toNat_natCast, e i j hi hin hj hjn]
  unfold s_bxv s_pb
  refine ⟨by omega, by omega, fun h => ?_, fun h => ?_⟩
  · have : (s_box fs i j && q_hl (P i) j) = false := by
      cases hb : s_box fs i j
      · rfl
      · cases hc : q_hl (P i) j
        · rfl
        · rw [hb, hc] at h; exact absurd rfl h
    rw [this]
    exact e_Md_isPlus_13 ⟨by decide, by decide, rfl⟩
  · cases hb : s_box fs i j
    · rw [hb] at h; exact absurd (show (0 : Int) = 2 from h) (by decide)
    · cases hc : q_hl (P i) j
      · rw [hb, hc] at h; exact absurd (show (1 : Int) = 2 from h) (by decide)
      · exact e_Md_isPlus_13 ⟨by decide, by decide, rfl⟩
/-- the model's cell, laid -/
def s_Mc (n : Nat) (F : Nat → Nat) (d : qD) : Prop := d.1 t_Md 0 12 = (q_pc (s_n1 n F n) : Int) ∧ s_row (d.1 t_mNeck 0) n (s_nk n F) ∧ (∀ j, j < 256 → d.1 t_mIsB 0 j = q_b2i (s_bas n F j)) ∧ s_Bx n (s_n1 n F n) (s_plus n F) d
theorem c_Md_box {n : Nat} {F : Nat → Nat} {x y : Int} (hn : n ≤ 8) {d : qD} {b : Nat} (e0 : d.1 t_Md 0 10 = (n : Int)) (e : 0 < n → s_Mc n F d) : q_Ev m_Md_box 0 [q_r t_Md 0, q_i x, q_i y] [] (q_mk d b) (q_i (s_boxA n F x y), q_mk d b) := by
  unfold s_boxA
  refine e_Md_box_0 ⟨_, _, c_Md_isLabel e0, e_Md_box_3 ⟨fun h => ?_, fun h => ⟨_, _, c_Md_isLabel e0, e_Md_box_7 ⟨fun h2 => ?_, fun h2 => ?_⟩⟩⟩⟩
  · rw [q_b2i_f h]; exact e_Md_box_8 rfl
  · have l1 := of_decide_eq_true (q_b2i_t h)
    have l2 := of_decide_eq_true (q_b2i_t h2)
    rw [q_b2i_t h, q_b2i_t h2]
    obtain ⟨i, rfl⟩ : ∃ i : Nat, x = (i : Int) := ⟨x.toNat, by omega⟩
    obtain ⟨j, rfl⟩ : ∃ j : Nat, y = (j : Int) := ⟨y.toNat, by omega⟩
    rw [Int.toNat_natCast, Int.toNat_natCast]
    have eb := (e (by omega)).2.2.2
    refine ⟨_, _, c_Md_isBox hn (by omega) (by omega) (by omega) (by omega) eb, e_Md_box_14 ⟨fun h3 => ?_, fun h3 => ?_⟩⟩
    · rw [q_b2i_f h3]; exact e_Md_box_27 rfl
    · rw [s_9 (by omega) (by omega), Int.toNat_natCast, eb i j (by omega) (by omega) (by omega) (by omega)]
      refine ⟨by omega, by omega, e_Md_box_27 ?_⟩
      unfold s_bxv
      rw [q_b2i_t h3, if_pos rfl]
      cases q_hl (s_plus n F i) j <;> rfl
  · rw [q_b2i_t h, q_b2i_f h2]; exact e_Md_box_8 rfl
theorem s_fl_range' {c : Nat → Bool} {m f : Nat} : (List.range' m (f + 1)).filter c = if c m then m :: (List.range' (m + 1) f).filter c else (List.range' (m + 1) f).filter c := by
  rw [List.range'_succ]
  by_cases h : c m = true
  · rw [List.filter_cons_of_pos h, if_pos h]
  · rw [List.filter_cons_of_neg h, if_neg h]
theorem s_fl_0 {c : Nat → Bool} : (List.range' 0 256).filter c = s_fl c := by
  unfold s_fl
  rw [List.range_eq_range']
theorem s_flen {c : Nat → Bool} (m f : Nat) : ((List.range' m f).filter c).length ≤ f := by
  have := List.length_filter_le c (List.range' m f)
  rw [List.length_range'] at this
  exact this
theorem c_Md_basesGo {c : Nat → Bool} {d : qD} {b : Nat} (eB : ∀ j, j < 256 → d.1 t_mIsB 0 j = q_b2i (c j)) : ∀ (f m a : Nat), m + f = 256 → a ≤ m → q_Ev m_Md_bases 9 [q_r t_Md 0, q_i (a : Int), q_i (m : Int)] [] (q_mk d b) (q_i ((a + ((List.range' m f).filter c).length : Nat) : Int), q_mk d b)
  | 0, m, a, h, ha => e_Md_bases_9 ⟨fun _ => rfl, fun h2 => by omega⟩
  | f + 1, m, a, h, ha => by
    refine e_Md_bases_9 ⟨fun h2 => by omega, fun _ => ⟨by omega, by omega, ?_⟩⟩
    rw [Int.toNat_natCast, eB m (by omega), s_fl_range']
    refine ⟨fun h2 => e_Md_bases_21 ?_, fun h2 => e_Md_bases_21 ?_⟩
    · rw [q_b2i_f h2, if_neg (by decide), q_wS (by omega), show q_w ((a : Int) + 0) = (a : Int) by rw [q_w_id (by omega) (by omega)]; omega]
      exact c_Md_basesGo eB f (m + 1) a (by omega) (by omega)
    · rw [q_b2i_t h2, if_pos rfl, q_wS (by omega), q_wS (by omega), List.length_cons, show a + (((List.range' (m + 1) f).filter c).length + 1) = (a + 1) + ((List.range' (m + 1) f).filter c).length by omega]
      exact c_Md_basesGo eB f (m + 1) (a + 1) (by omega) (by omega)
theorem c_Md_bases {n : Nat} {F : Nat → Nat} {d : qD} {b : Nat} (e0 : d.1 t_Md 0 10 = (n : Int)) (e : 0 < n → s_Mc n F d) : q_Ev m_Md_bases 0 [q_r t_Md 0, none, none] [] (q_mk d b) (q_i (s_bases n (s_basL n F 256)), q_mk d b) := by
  unfold s_bases
  refine e_Md_bases_0 ⟨_, _, c_Md_isCell e0, e_Md_bases_2 ⟨fun h => ?_, fun h => ?_⟩⟩
  · have h2 := of_decide_eq_true (q_b2i_t h)
    rw [if_pos h2]
    have := c_Md_basesGo (b := b) (e h2).2.2.1 256 0 0 rfl (Nat.le_refl 0)
    rw [s_fl_0, Nat.zero_add] at this
    exact this
  · rw [if_neg (of_decide_eq_false (q_b2i_f h))]
/-- counted from m on, nothing left out -/
def s_kth (L : List Nat) (x : Int) (m : Nat) : Int := s_sqA (fun _ => true) L x m
theorem s_kth_eq {x : Int} (hx : -1 ≤ x) : ∀ (L : List Nat) (m : Nat), (x = -1 → s_kth L x m = ((m + L.length : Nat) : Int)) ∧ ((m : Int) ≤ x → x < ((m + L.length : Nat) : Int) → s_kth L x m = ((L.getD (x - (m : Int)).toNat 0 : Nat) : Int)) ∧ (((m + L.length : Nat) : Int) ≤ x → s_kth L x m = -2)
  | [], m => by
    unfold s_kth s_sqA
    refine ⟨fun h => by rw [if_pos h]; rfl, fun h1 h2 => ?_, fun h => ?_⟩
    · rw [List.length_nil] at h2; omega
    · rw [List.length_nil] at h; rw [if_neg (by omega)]
  | s :: R, m => by
    obtain ⟨i1, i2, i3⟩ := s_kth_eq hx R (m + 1)
    unfold s_kth at i1 i2 i3 ⊢
    rw [s_sqA, if_pos rfl, List.length_cons]
    refine ⟨fun h => ?_, fun h1 h2 => ?_, fun h => ?_⟩
    · rw [if_neg (by omega), i1 h]; omega
    · by_cases hq : (m : Int) = x
      · rw [if_pos hq, show (x - (m : Int)).toNat = 0 by omega]; rfl
      · rw [if_neg hq, i2 (by omega) (by omega), show (x - (m : Int)).toNat = (x - ((m + 1 : Nat) : Int)).toNat + 1 by omega, List.getD_cons_succ]
    · rw [if_neg (by omega), i3 (by omega)]
theorem s_kth_cl {n : Nat} {L : List Nat} {x : Int} : s_clA n L x = if n = 0 ∨ x < -1 then -1 else s_kth L x 0 := by
  unfold s_clA
  by_cases h : n = 0 ∨ x < -1
  · rw [if_pos h, if_pos h]
  · rw [if_neg h, if_neg h]
    obtain ⟨i1, i2, i3⟩ := s_kth_eq (x := x) (by omega) L 0
    by_cases h1 : x = -1
    · rw [if_pos h1, i1 h1, Nat.zero_add]
    · rw [if_neg h1]
      by_cases h2 : x < (L.length : Int)
      · rw [if_pos h2, i2 (by omega) (by omega), show (x - ((0 : Nat) : Int)).toNat = x.toNat by omega]
      · rw [if_neg h2, i3 (by omega)]
theorem s_kth_ba {n : Nat} {L : List Nat} {x : Int} : s_basis n L x = if n = 0 ∨ x < 0 then -1 else s_kth L x 0 := by
  unfold s_basis
  by_cases h : n = 0 ∨ x < 0
  · rw [if_pos h, if_pos h]
  · rw [if_neg h, if_neg h]
    obtain ⟨i1, i2, i3⟩ := s_kth_eq (x := x) (by omega) L 0
    by_cases h2 : x < (L.length : Int)
    · rw [if_pos h2, i2 (by omega) (by omega), show (x - ((0 : Nat) : Int)).toNat = x.toNat by omega]
    · rw [if_neg h2, i3 (by omega)]
theorem c_Md_kthGo_b {c : Nat → Bool} {x : Int} {d : qD} {b : Nat} (eB : ∀ j, j < 256 → d.1 t_mIsB 0 j = q_b2i (c j)) : ∀ (f m a : Nat), m + f = 256 → a ≤ m → q_Ev m_Md_kthOf 4 [q_r t_mIsB 0, q_i x, q_i (a : Int), q_i (m : Int)] [] (q_mk d b) (q_i (s_kth ((List.range' m f).filter c) x a), q_mk d b)
  | 0, m, a, h, ha => by
    refine e_Md_kthOf_b_4 ⟨fun _ => ⟨fun h2 => ?_, fun h2 => ?_⟩, fun h2 => by omega⟩
    · rw [List.range'_zero, List.filter_nil, s_kth, s_sqA, if_neg h2]; exact e_Md_kthOf_b_26 rfl
    · rw [List.range'_zero, List.filter_nil, s_kth, s_sqA, if_pos h2]; exact e_Md_kthOf_b_26 rfl
  | f + 1, m, a, h, ha => by
    refine e_Md_kthOf_b_4 ⟨fun h2 => by omega, fun _ => ⟨by omega, by omega, ?_⟩⟩
    rw [Int.toNat_natCast, eB m (by omega), s_fl_range']
    refine ⟨fun h2 => ?_, fun h2 => e_Md_kthOf_b_18 ?_⟩
    · rw [q_b2i_t h2, if_pos rfl]
      unfold s_kth
      rw [s_sqA, if_pos rfl]
      refine ⟨fun h3 => e_Md_kthOf_b_18 ?_, fun h3 => ?_⟩
      · rw [if_neg h3, q_wS (by omega), q_wS (by omega)]
        exact c_Md_kthGo_b eB f (m + 1) (a + 1) (by omega) (by omega)
      · rw [if_pos h3]
    · rw [q_b2i_f h2, if_neg (by decide), q_wS (by omega)]
      exact c_Md_kthGo_b eB f (m + 1) a (by omega) (by omega)
theorem c_Md_kthGo_c {c : Nat → Bool} {x : Int} {d : qD} {b : Nat} (eB : ∀ j, j < 256 → d.1 t_mInC 0 j = q_b2i (c j)) : ∀ (f m a : Nat), m + f = 256 → a ≤ m → q_Ev m_Md_kthOf 4 [q_r t_mInC 0, q_i x, q_i (a : Int), q_i (m : Int)] [] (q_mk d b) (q_i (s_kth ((List.range' m f).filter c) x a), q_mk d b)
  | 0, m, a, h, ha => by
    refine e_Md_kthOf_c_4 ⟨fun _ => ⟨fun h2 => ?_, fun h2 => ?_⟩, fun h2 => by omega⟩
    · rw [List.range'_zero, List.filter_nil, s_kth, s_sqA, if_neg h2]; exact e_Md_kthOf_c_26 rfl
    · rw [List.range'_zero, List.filter_nil, s_kth, s_sqA, if_pos h2]; exact e_Md_kthOf_c_26 rfl
  | f + 1, m, a, h, ha => by
    refine e_Md_kthOf_c_4 ⟨fun h2 => by omega, fun _ => ⟨by omega, by omega, ?_⟩⟩
    rw [Int.toNat_natCast, eB m (by omega), s_fl_range']
    refine ⟨fun h2 => ?_, fun h2 => e_Md_kthOf_c_18 ?_⟩
    · rw [q_b2i_t h2, if_pos rfl]
      unfold s_kth
      rw [s_sqA, if_pos rfl]
      refine ⟨fun h3 => e_Md_kthOf_c_18 ?_, fun h3 => ?_⟩
      · rw [if_neg h3, q_wS (by omega), q_wS (by omega)]
        exact c_Md_kthGo_c eB f (m + 1) (a + 1) (by omega) (by omega)
      · rw [if_pos h3]
    · rw [q_b2i_f h2, if_neg (by decide), q_wS (by omega)]
      exact c_Md_kthGo_c eB f (m + 1) a (by omega) (by omega)
theorem c_Md_basis {n : Nat} {F : Nat → Nat} {x : Int} {d : qD} {b : Nat} (e0 : d.1 t_Md 0 10 = (n : Int)) (e : 0 < n → s_Mc n F d) : q_Ev m_Md_basis 0 [q_r t_Md 0, q_i x] [] (q_mk d b) (q_i (s_basis n (s_basL n F 256) x), q_mk d b) := by
  rw [s_kth_ba]
  refine e_Md_basis_0 ⟨_, _, c_Md_isCell e0, e_Md_basis_2 ⟨fun h => ?_, fun h => ⟨fun h2 => ?_, fun h2 => ?_⟩⟩⟩
  · have := of_decide_eq_false (q_b2i_f h)
    rw [if_pos (by omega)]
    exact e_Md_basis_10 (e_Md_basis_11 rfl)
  · rw [if_pos (by omega)]
    exact e_Md_basis_10 (e_Md_basis_11 rfl)
  · have h3 := of_decide_eq_true (q_b2i_t h)
    rw [if_neg (by omega)]
    have := c_Md_kthGo_b (x := x) (b := b) (e h3).2.2.1 256 0 0 rfl (Nat.le_refl 0)
    rw [s_fl_0] at this
    exact ⟨_, _, e_Md_kthOf_b_0 this, e_Md_basis_9 (e_Md_basis_11 rfl)⟩
theorem c_Md_cluster {n : Nat} {c : Nat → Bool} {x : Int} {d : qD} {b : Nat} (e0 : d.1 t_Md 0 10 = (n : Int)) (ec : ∀ j, j < 256 → d.1 t_mInC 0 j = q_b2i (c j)) : q_Ev m_Md_cluster 0 [q_r t_Md 0, q_i x] [] (q_mk d b) (q_i (s_clA n (s_fl c) x), q_mk d b) := by
  rw [s_kth_cl]
  refine e_Md_cluster_0 ⟨_, _, c_Md_isCell e0, e_Md_cluster_2 ⟨fun h => ?_, fun h => ⟨fun h2 => ?_, fun h2 => ?_⟩⟩⟩
  · have := of_decide_eq_false (q_b2i_f h)
    rw [if_pos (by omega)]
    exact e_Md_cluster_11 (e_Md_cluster_12 rfl)
  · rw [if_pos (by omega)]
    exact e_Md_cluster_11 (e_Md_cluster_12 rfl)
  · have h3 := of_decide_eq_true (q_b2i_t h)
    rw [if_neg (by omega)]
    have := c_Md_kthGo_c (x := x) (b := b) ec 256 0 0 rfl (Nat.le_refl 0)
    rw [s_fl_0] at this
    exact ⟨_, _, e_Md_kthOf_c_0 this, e_Md_cluster_10 (e_Md_cluster_12 rfl)⟩
theorem c_Md_rankGo {c : Nat → Bool} {x : Nat} (hx : x < 256) {d : qD} {b : Nat} (eB : ∀ j, j < 256 → d.1 t_mIsB 0 j = q_b2i (c j)) : ∀ (f m a : Nat), m + f = 256 → q_Ev m_Md_rank 21 [q_r t_Md 0, q_i (x : Int), q_i (a : Int), q_i (m : Int)] [] (q_mk d b) (q_i (s_rank ((List.range' m f).filter c) x a : Int), q_mk d b)
  | 0, m, a, h => e_Md_rank_21 ⟨fun _ => rfl, fun h2 => by omega⟩
  | f + 1, m, a, h => by
    have hlt : m &&& x < 256 := Nat.lt_of_le_of_lt Nat.and_le_left (by omega)
    refine e_Md_rank_21 ⟨fun h2 => by omega, fun _ => ⟨by omega, by omega, ?_⟩⟩
    rw [Int.toNat_natCast, eB m (by omega), s_fl_range']
    refine ⟨fun h2 => e_Md_rank_40 ?_, fun h2 => ?_⟩
    · rw [q_b2i_f h2, if_neg (by decide), q_wS (by omega)]
      exact c_Md_rankGo hx eB f (m + 1) a (by omega)
    · rw [q_b2i_t h2, if_pos rfl, s_rank, q_and_nat (by omega) (by omega)]
      refine ⟨_, _, c_Md_sizeOf hlt, e_Md_rank_33 ⟨fun h3 => e_Md_rank_40 ?_, fun h3 => ?_⟩⟩
      · rw [if_neg (by omega), q_wS (by omega)]
        exact c_Md_rankGo hx eB f (m + 1) a (by omega)
      · rw [if_pos (by omega), q_and_nat (by omega) (by omega)]
        refine ⟨_, _, c_Md_sizeOf hlt, e_Md_rank_39 (e_Md_rank_40 ?_)⟩
        rw [q_wS (by omega)]
        exact c_Md_rankGo hx eB f (m + 1) _ (by omega)
theorem s_top {n : Nat} (hn : n ≤ 8) : q_w ((q_shl 1 (n : Int)) - 1) = ((2 ^ n - 1 : Nat) : Int) := by
  have := s_p8 hn
  have h0 : 0 < 2 ^ n := Nat.pow_pos (by decide)
  rw [q_shl1 _ (by omega), q_w_id (by omega) (by omega)]; omega
theorem c_Md_rank {n : Nat} {F : Nat → Nat} {x : Int} (hn : n ≤ 8) (hx : q_can x) {d : qD} {b : Nat} (e0 : d.1 t_Md 0 10 = (n : Int)) (e : 0 < n → s_Mc n F d) : q_Ev m_Md_rank 0 [q_r t_Md 0, q_i x, none, none] [] (q_mk d b) (q_i (s_rankA n (s_basL n F 256) x), q_mk d b) := by
  have hp := s_p8 hn
  have h0 : 0 < 2 ^ n := Nat.pow_pos (by decide)
  unfold s_rankA s_isSub
  refine e_Md_rank_0 ⟨_, _, c_Md_isCell e0, e_Md_rank_2 ⟨fun h => ?_, fun h => ?_⟩⟩
  · have := of_decide_eq_false (q_b2i_f h)
    rw [decide_eq_false (by omega)]
    exact e_Md_rank_15 rfl
  · have h3 := of_decide_eq_true (q_b2i_t h)
    rw [e0, s_top hn, q_l0]
    refine ⟨_, _, c_Md_isIn hx (q_can_s (by decide) (by decide)) (q_can_s (by omega) (by omega)), e_Md_rank_14 ⟨fun h4 => ?_, fun h4 => ?_⟩⟩
    · have h5 := of_decide_eq_true (q_b2i_t h4)
      rw [decide_eq_true (by omega)]
      obtain ⟨s, rfl⟩ : ∃ s : Nat, x = (s : Int) := ⟨x.toNat, by omega⟩
      rw [Int.toNat_natCast]
      have := c_Md_rankGo (x := s) (by omega) (b := b) (e h3).2.2.1 256 0 0 rfl
      rw [s_fl_0] at this
      exact this
    · have h5 := of_decide_eq_false (q_b2i_f h4)
      rw [decide_eq_false (by omega)]
      exact e_Md_rank_15 rfl
theorem c_Md_isBasisHere {n : Nat} {F : Nat → Nat} {x : Int} (hn : n ≤ 8) (hx : q_can x) {d : qD} {b : Nat} (e0 : d.1 t_Md 0 10 = (n : Int)) (e : 0 < n → s_Mc n F d) : q_Ev m_Md_isBasisHere 0 [q_r t_Md 0, q_i x] [] (q_mk d b) (q_i (q_b2i (s_isBx n (s_bas n F) x)), q_mk d b) := by
  have hp := s_p8 hn
  refine e_Md_isBasisHere_0 ⟨_, _, c_Md_isCell e0, e_Md_isBasisHere_2 ⟨fun h => ?_, fun h => ?_⟩⟩
  · have := of_decide_eq_false (q_b2i_f h)
    unfold s_isBx
    rw [decide_eq_false (by omega), Bool.false_and]
    exact e_Md_isBasisHere_16 (e_Md_isBasisHere_17 ⟨by decide, by decide, rfl⟩)
  · have h3 := of_decide_eq_true (q_b2i_t h)
    rw [q_l0, q_l255]
    refine ⟨_, _, c_Md_isIn hx (q_can_s (by decide) (by decide)) (q_can_s (by decide) (by decide)), e_Md_isBasisHere_8 ⟨fun h4 => ?_, fun h4 => ?_⟩⟩
    · have h5 := of_decide_eq_false (q_b2i_f h4)
      unfold s_isBx
      rw [decide_eq_false (by omega), Bool.false_and]
      exact e_Md_isBasisHere_16 (e_Md_isBasisHere_17 ⟨by decide, by decide, rfl⟩)
    · have h5 := of_decide_eq_true (q_b2i_t h4)
      obtain ⟨s, rfl⟩ : ∃ s : Nat, x = (s : Int) := ⟨x.toNat, by omega⟩
      rw [s_isBx_nat h3 (s_bas_lt s), Int.toNat_natCast, (e h3).2.2.1 s (by omega)]
      refine ⟨by omega, by omega, fun h6 => ?_, fun h6 => ?_⟩
      · rw [q_b2i_f h6]
        exact e_Md_isBasisHere_16 (e_Md_isBasisHere_17 ⟨by decide, by decide, rfl⟩)
      · rw [q_b2i_t h6]
        exact e_Md_isBasisHere_17 ⟨by decide, by decide, rfl⟩
theorem c_Md_exchangeGo {n one o l : Nat} {B : Nat → Bool} (hn : n ≤ 8) (h1 : one < 2 ^ n) (ho : o < 2 ^ n) (hl1 : 1 ≤ l) (hl : l ≤ n) {d : qD} {b : Nat} (e0 : d.1 t_Md 0 10 = (n : Int)) (eB : ∀ j, j < 256 → d.1 t_mIsB 0 j = q_b2i (B j)) : ∀ (f c : Nat), c + f = n + 1 → 1 ≤ c → q_Ev m_Md_exchange 24 [q_r t_Md 0, q_i (one : Int), q_i (o : Int), q_i (l : Int), q_i (c : Int)] [] (q_mk d b) (q_i (s_exch B one o l f c), q_mk d b)
  | 0, c, h, hc => by
    refine e_Md_exchange_24 ⟨fun _ => rfl, fun h2 => ?_⟩
    rw [e0] at h2; omega
  | f + 1, c, h, hc => by
    have hp := s_p8 hn
    have nx : q_Ev m_Md_exchange 47 [q_r t_Md 0, q_i (one : Int), q_i (o : Int), q_i (l : Int), q_i (c : Int)] [] (q_mk d b) (q_i (s_exch B one o l f (c + 1)), q_mk d b) := by
      refine e_Md_exchange_47 ?_
      rw [q_wS (by omega)]
      exact c_Md_exchangeGo hn h1 ho hl1 hl e0 eB f (c + 1) (by omega) (by omega)
    have hwl := s_wo_lt (s := one) (l := l) (by omega)
    have hwc := s_with_lt (s := s_wo one l) (l := c) hwl (by omega)
    rw [s_exch]
    refine e_Md_exchange_24 ⟨fun h2 => ?_, fun _ => ⟨_, _, c_Md_has (by omega) hc (by omega), e_Md_exchange_31 ⟨fun h2 => ?_, fun h2 => ⟨_, _, c_Md_has (by omega) hc (by omega), e_Md_exchange_35 ⟨fun h3 => ?_, fun h3 => ⟨_, _, c_Md_without (by omega) hl1 (by omega), e_Md_exchange_41 ⟨_, _, c_Md_with hwl hc (by omega), e_Md_exchange_43 ?_⟩⟩⟩⟩⟩⟩⟩
    · rw [e0] at h2; omega
    · rw [q_b2i_f h2, Bool.false_and, Bool.false_and]; exact nx
    · rw [q_b2i_t h3, Bool.not_true, Bool.and_false, Bool.false_and]; exact nx
    · rw [q_b2i_t h2, q_b2i_f h3, Int.toNat_natCast, eB _ hwc]
      refine ⟨by omega, by omega, fun h4 => ?_, fun h4 => ?_⟩
      · rw [q_b2i_f h4]; exact nx
      · rw [q_b2i_t h4]; rfl
theorem c_Md_exchange {n : Nat} {F : Nat → Nat} {x y z : Int} (hn : n ≤ 8) (hx : q_can x) (hy : q_can y) {d : qD} {b : Nat} (e0 : d.1 t_Md 0 10 = (n : Int)) (e : 0 < n → s_Mc n F d) : q_Ev m_Md_exchange 0 [q_r t_Md 0, q_i x, q_i y, q_i z, none] [] (q_mk d b) (q_i (s_exA n (s_bas n F) x y z), q_mk d b) := by
  have hp := s_p8 hn
  unfold s_exA
  refine e_Md_exchange_0 ⟨_, _, c_Md_isBasisHere hn hx e0 e, e_Md_exchange_3 ⟨fun h => ?_, fun h => ⟨_, _, c_Md_isBasisHere hn hy e0 e, e_Md_exchange_7 ⟨fun h2 => ?_, fun h2 => ⟨_, _, c_Md_isLabel e0, e_Md_exchange_11 ⟨fun h3 => ?_, fun h3 => ?_⟩⟩⟩⟩⟩⟩
  · rw [q_b2i_f h]; exact e_Md_exchange_20 rfl
  · rw [q_b2i_t h, q_b2i_f h2]; exact e_Md_exchange_20 rfl
  · rw [q_b2i_t h, q_b2i_t h2, q_b2i_f h3]; exact e_Md_exchange_20 rfl
  · rw [q_b2i_t h, q_b2i_t h2, q_b2i_t h3]
    obtain ⟨h0, s, rfl, hs, _⟩ := s_isBx_of (q_b2i_t h)
    obtain ⟨_, t, rfl, ht, _⟩ := s_isBx_of (q_b2i_t h2)
    have l3 := of_decide_eq_true (q_b2i_t h3)
    obtain ⟨l, rfl⟩ : ∃ l : Nat, z = (l : Int) := ⟨z.toNat, by omega⟩
    rw [Int.toNat_natCast, Int.toNat_natCast, Int.toNat_natCast]
    refine ⟨_, _, c_Md_has (by omega) (by omega) (by omega), e_Md_exchange_15 ⟨fun h4 => ?_, fun h4 => ⟨_, _, c_Md_has (by omega) (by omega) (by omega), e_Md_exchange_19 ⟨fun h5 => ?_, fun h5 => ?_⟩⟩⟩⟩
    · rw [q_b2i_f h4]; exact e_Md_exchange_20 rfl
    · rw [q_b2i_t h4, q_b2i_f h5]
      exact c_Md_exchangeGo hn hs ht (by omega) (by omega) e0 (e h0).2.2.1 n 1 (by omega) (by omega)
    · rw [q_b2i_t h4, q_b2i_t h5]; exact e_Md_exchange_20 rfl
theorem c_Md_isSet {n k : Nat} {x : Int} (hn : n ≤ 8) (hx : q_can x) {d : qD} {b : Nat} (e0 : d.1 t_Md 0 10 = (n : Int)) (e1 : 0 < n → d.1 t_Md 0 12 = (k : Int)) : q_Ev m_Md_isSet 0 [q_r t_Md 0, q_i x] [] (q_mk d b) (q_i (q_b2i (s_isSet n k x)), q_mk d b) := by
  have hp := s_p8 hn
  have h0 : 0 < 2 ^ n := Nat.pow_pos (by decide)
  have no : s_isSet n k x = false → q_Ev m_Md_isSet 22 [none, none] [] (q_mk d b) (q_i (q_b2i (s_isSet n k x)), q_mk d b) := by
    intro h; rw [h]; exact e_Md_isSet_22 (e_Md_isSet_23 ⟨by decide, by decide, rfl⟩)
  unfold s_isSet at no ⊢
  refine e_Md_isSet_0 ⟨_, _, c_Md_isCell e0, e_Md_isSet_2 ⟨fun h => no ?_, fun h => ?_⟩⟩
  · have := of_decide_eq_false (q_b2i_f h)
    rw [decide_eq_false (by omega), Bool.false_and]
  · have h3 := of_decide_eq_true (q_b2i_t h)
    rw [e0, s_top hn, q_l0]
    refine ⟨_, _, c_Md_isIn hx (q_can_s (by decide) (by decide)) (q_can_s (by omega) (by omega)), e_Md_isSet_14 ⟨fun h4 => no ?_, fun h4 => ?_⟩⟩
    · have h5 := of_decide_eq_false (q_b2i_f h4)
      rw [decide_eq_false (by omega), Bool.false_and]
    · have h5 := of_decide_eq_true (q_b2i_t h4)
      rw [decide_eq_true (by omega), Bool.true_and] at no ⊢
      obtain ⟨s, rfl⟩ : ∃ s : Nat, x = (s : Int) := ⟨x.toNat, by omega⟩
      rw [Int.toNat_natCast] at no ⊢
      refine ⟨_, _, c_Md_sizeOf (by omega), e_Md_isSet_17 ?_⟩
      rw [e1 h3]
      refine ⟨fun h6 => no (beq_false_of_ne (by omega)), fun h6 => ?_⟩
      rw [show (q_pc s == k) = true by rw [beq_iff_eq]; omega]
      exact e_Md_isSet_23 ⟨by decide, by decide, rfl⟩
