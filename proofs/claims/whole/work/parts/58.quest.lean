/-! the class's questions -/
/-- what box answers -/
def s_boxA (n : Nat) (F : Nat → Nat) (x y : Int) : Int := if s_isLab n x && s_isLab n y then (if s_box (s_n1 n F n) x.toNat y.toNat then q_b2i (q_hl (s_plus n F x.toNat) y.toNat) else -2) else -1
theorem c_GC_box {n : Nat} {F : Nat → Nat} {x y : Int} (hv : s_vC n F) {d : qD} {b : Nat} (e : s_Ce n F d) : q_Ev m_GC_box 0 [q_r t_GC 0, q_i x, q_i y] [] (q_mk d b) (q_i (s_boxA n F x y), q_mk d b) := by
  obtain ⟨e0, e1, e2, e3, eF, eN, eL, eB, p0, p1, pp⟩ := e
  have hb := (s_vC_bd hv).1
  have hn := hb.1
  unfold s_boxA
  refine e_GC_box_0 ⟨_, _, c_Ce_isLabel e0, e_GC_box_4 ⟨fun h => ?_, fun h => ⟨_, _, c_Ce_isLabel e0, e_GC_box_9 ⟨fun h2 => ?_, fun h2 => ?_⟩⟩⟩⟩
  · rw [q_b2i_f h]; exact e_GC_box_10 rfl
  · rw [q_b2i_t h, q_b2i_t h2]
    have l1 := of_decide_eq_true (q_b2i_t h)
    have l2 := of_decide_eq_true (q_b2i_t h2)
    obtain ⟨i, rfl⟩ : ∃ i : Nat, x = (i : Int) := ⟨x.toNat, by omega⟩
    obtain ⟨j, rfl⟩ : ∃ j : Nat, y = (j : Int) := ⟨y.toNat, by omega⟩
    rw [Int.toNat_natCast, Int.toNat_natCast]
    refine ⟨_, _, c_Di_isBox (s_n1_lt hb n (Nat.le_refl n)) (by omega) (by omega) (by omega) (by omega) p1, e_GC_box_18 ⟨fun h3 => ⟨_, _, c_Di_isPlus (s_plus_lt hn (i := i) (F := F) (by omega)) (by omega) (by omega) (by omega) (pp i (by omega) (by omega)), e_GC_box_27 ⟨fun h4 => ?_, fun h4 => ?_⟩⟩, fun h3 => ?_⟩⟩
    · rw [q_b2i_t h3, h4]; exact e_GC_box_31 rfl
    · rw [q_b2i_t h3, q_b2i_t h4]; exact e_GC_box_31 rfl
    · rw [q_b2i_f h3]; rfl
  · rw [q_b2i_t h, q_b2i_f h2]; exact e_GC_box_10 rfl
def s_isSub (n : Nat) (x : Int) : Bool := decide (0 < n ∧ 0 ≤ x ∧ x < ((2 ^ n : Nat) : Int))
def s_rankA (n : Nat) (L : List Nat) (x : Int) : Int := if s_isSub n x then (s_rank L x.toNat 0 : Int) else -1
theorem s_basL_256 {n : Nat} {F : Nat → Nat} : ∀ s ∈ s_basL n F 256, s < 256 := fun _ h => (s_basL_mem.mp h).1
theorem s_basL_2n {n : Nat} {F : Nat → Nat} : ∀ s ∈ s_basL n F 256, s < 2 ^ n := fun s h => s_bas_lt s (s_basL_mem.mp h).2
theorem c_GC_rank {n : Nat} {F : Nat → Nat} {x : Int} (hv : s_vC n F) {d : qD} {b : Nat} (e : s_Ce n F d) : q_Ev m_GC_rank 0 [q_r t_GC 0, q_i x] [] (q_mk d b) (q_i (s_rankA n (s_basL n F 256) x), q_mk d b) := by
  obtain ⟨e0, e1, e2, e3, eF, eN, eL, eB, p0, p1, pp⟩ := e
  have hn := (s_vC_bd hv).1.1
  have hp := s_p8 hn
  unfold s_rankA s_isSub
  refine e_GC_rank_0 ⟨_, _, c_Ce_areLabels hn e0, e_GC_rank_4 ⟨fun h => ?_, fun h => ?_⟩⟩
  · rw [q_b2i_f h]; exact e_GC_rank_11 rfl
  · have h2 := of_decide_eq_true (q_b2i_t h)
    rw [q_b2i_t h]
    obtain ⟨s, rfl⟩ : ∃ s : Nat, x = (s : Int) := ⟨x.toNat, by omega⟩
    rw [Int.toNat_natCast]
    exact ⟨_, _, c_Ce_rankOf (by omega) (s_basL_len n F 256 (Nat.le_refl _)) s_basL_256 e3 eL, e_GC_rank_9 (e_GC_rank_11 rfl)⟩
def s_exA (n : Nat) (B : Nat → Bool) (x y z : Int) : Int := if s_isBx n B x && (s_isBx n B y && (s_isLab n z && (q_hl x.toNat z.toNat && !q_hl y.toNat z.toNat))) then s_exch B x.toNat y.toNat z.toNat n 1 else -1
theorem s_isBx_of {n : Nat} {B : Nat → Bool} {x : Int} (h : s_isBx n B x = true) : 0 < n ∧ (∃ s : Nat, x = (s : Int) ∧ s < 2 ^ n ∧ B s = true) := by
  unfold s_isBx at h
  rw [Bool.and_eq_true, decide_eq_true_iff] at h
  exact ⟨h.1.1, x.toNat, by omega, by omega, h.2⟩
theorem c_GC_exchange {n : Nat} {F : Nat → Nat} {x y z : Int} (hv : s_vC n F) {d : qD} {b : Nat} (e : s_Ce n F d) : q_Ev m_GC_exchange 0 [q_r t_GC 0, q_i x, q_i y, q_i z] [] (q_mk d b) (q_i (s_exA n (s_bas n F) x y z), q_mk d b) := by
  obtain ⟨e0, e1, e2, e3, eF, eN, eL, eB, p0, p1, pp⟩ := e
  have hn := (s_vC_bd hv).1.1
  have hp := s_p8 hn
  unfold s_exA
  refine e_GC_exchange_0 ⟨_, _, c_Ce_isBasis hn e0 eB, e_GC_exchange_4 ⟨fun h => ?_, fun h => ⟨_, _, c_Ce_isBasis hn e0 eB, e_GC_exchange_9 ⟨fun h2 => ?_, fun h2 => ⟨_, _, c_Ce_isLabel e0, e_GC_exchange_14 ⟨fun h3 => ?_, fun h3 => ?_⟩⟩⟩⟩⟩⟩
  · rw [q_b2i_f h]; exact e_GC_exchange_15 rfl
  · rw [q_b2i_t h, q_b2i_f h2]; exact e_GC_exchange_15 rfl
  · rw [q_b2i_t h, q_b2i_t h2, q_b2i_t h3]
    obtain ⟨h0, s, rfl, hs, _⟩ := s_isBx_of (q_b2i_t h)
    obtain ⟨_, t, rfl, ht, _⟩ := s_isBx_of (q_b2i_t h2)
    have l3 := of_decide_eq_true (q_b2i_t h3)
    obtain ⟨l, rfl⟩ : ∃ l : Nat, z = (l : Int) := ⟨z.toNat, by omega⟩
    rw [Int.toNat_natCast, Int.toNat_natCast, Int.toNat_natCast]
    refine ⟨_, _, c_Se_holds (by omega) (by omega) (by omega), e_GC_exchange_20 ⟨fun h4 => ?_, fun h4 => ⟨_, _, c_Se_holds (by omega) (by omega) (by omega), e_GC_exchange_24 ⟨fun h5 => ?_, fun h5 => ?_⟩⟩⟩⟩
    · rw [q_b2i_f h4]; exact e_GC_exchange_25 rfl
    · rw [q_b2i_t h4, q_b2i_f h5]
      exact ⟨_, _, c_Ce_leastExchange hn hs ht (by omega) (by omega) (fun s => s_bas_lt s) e0 eB, e_GC_exchange_33 rfl⟩
    · rw [q_b2i_t h4, q_b2i_t h5]; exact e_GC_exchange_25 rfl
  · rw [q_b2i_t h, q_b2i_t h2, q_b2i_f h3]; exact e_GC_exchange_15 rfl
theorem s_EL_sy {n : Nat} {F : Nat → Nat} (hn : n ≤ 8) : ∀ x y, 1 ≤ x → x ≤ n → 1 ≤ y → y ≤ n → s_EL (s_basL n F 256) (s_bas n F) x y = true → s_EL (s_basL n F 256) (s_bas n F) y x = true := by
  intro x y hx hx2 hy hy2 h
  unfold s_EL at h ⊢
  rw [List.any_eq_true] at h ⊢
  obtain ⟨s, h1, h2⟩ := h
  simp only [Bool.and_eq_true, Bool.not_eq_true'] at h2
  obtain ⟨h3, h4, h5⟩ := h2
  have hs := s_basL_mem.mp h1
  have hxy : x ≠ y := fun hh => by rw [hh, h4] at h3; exact absurd h3 (by decide)
  have hlt : s_with (s_wo s x) y < 256 := s_with_lt (s_wo_lt hs.1) (by omega)
  have hback : s_with (s_wo (s_with (s_wo s x) y) y) x = s := by
    refine s_ext (s_with_lt (s_wo_lt hlt) (by omega)) hs.1 fun l hl hl2 => ?_
    rw [s_with_hl hx hl, s_wo_hl hy hl, s_with_hl hy hl, s_wo_hl hx hl]
    by_cases q1 : l = x
    · subst q1; rw [h3]; simp
    · by_cases q2 : l = y
      · subst q2; rw [h4]; simp [q1]
      · rw [decide_eq_false q1, decide_eq_false q2]; simp
  refine ⟨s_with (s_wo s x) y, s_basL_mem.mpr ⟨hlt, h5⟩, ?_⟩
  rw [hback, hs.2, s_with_hl hy hy, s_with_hl hy hx, s_wo_hl hx hx, decide_eq_true rfl, decide_eq_true rfl, decide_eq_false hxy]
  simp
def s_partA (n : Nat) (q : Nat → Nat) (x : Int) : Int := if s_isLab n x then (q x.toNat : Int) else -1
theorem c_GC_part {n : Nat} {F q : Nat → Nat} {x : Int} (hv : s_vC n F) (hq : s_lp n (s_EL (s_basL n F 256) (s_bas n F)) q) {d : qD} {b : Nat} (e : s_Ce n F d) : q_Ev m_GC_part 0 [q_r t_GC 0, q_i x] [] (q_mk d b) (q_i (s_partA n q x), q_mk d b) := by
  obtain ⟨e0, e1, e2, e3, eF, eN, eL, eB, p0, p1, pp⟩ := e
  have hn := (s_vC_bd hv).1.1
  have hp := s_p8 hn
  unfold s_partA
  refine e_GC_part_0 ⟨_, _, c_Ce_isLabel e0, e_GC_part_4 ⟨fun h => ?_, fun h => ?_⟩⟩
  · rw [q_b2i_f h]; exact e_GC_part_12 rfl
  · have l3 := of_decide_eq_true (q_b2i_t h)
    rw [q_b2i_t h]
    obtain ⟨l, rfl⟩ : ∃ l : Nat, x = (l : Int) := ⟨x.toNat, by omega⟩
    rw [Int.toNat_natCast]
    obtain ⟨r, r1, r2, r3⟩ := c_Ce_hang hn (a := l) (by omega) (by omega) (s_basL_len n F 256 (Nat.le_refl _)) s_basL_2n (fun s => s_bas_lt s) (b := b) e0 e3 eB eL
    have := s_lp_least hn hq (by omega) (by omega) r1 r3
    rw [← this]
    exact ⟨_, _, r2, e_GC_part_9 ⟨_, _, c_Se_least (by omega), e_GC_part_10 (e_GC_part_12 rfl)⟩⟩
def s_crossA (n k : Nat) (x y : Int) : Int := if s_isSet n k x && s_isSet n k y then q_b2i (s_cross x.toNat y.toNat n) else -1
theorem s_isSet_of {n k : Nat} {x : Int} (h : s_isSet n k x = true) : 0 < n ∧ ∃ s : Nat, x = (s : Int) ∧ s < 2 ^ n ∧ q_pc s = k := by
  unfold s_isSet at h
  rw [Bool.and_eq_true, decide_eq_true_iff, beq_iff_eq] at h
  exact ⟨h.1.1, x.toNat, by omega, by omega, h.2⟩
theorem c_GC_cross {n : Nat} {F : Nat → Nat} {x y : Int} (hv : s_vC n F) {d : qD} {b : Nat} (e : s_Ce n F d) : q_Ev m_GC_cross 0 [q_r t_GC 0, q_i x, q_i y] [] (q_mk d b) (q_i (s_crossA n (q_pc (s_n1 n F n)) x y), q_mk d b) := by
  obtain ⟨e0, e1, e2, e3, eF, eN, eL, eB, p0, p1, pp⟩ := e
  have hn := (s_vC_bd hv).1.1
  have hp := s_p8 hn
  unfold s_crossA
  refine e_GC_cross_0 ⟨_, _, c_Ce_isSet hn e0 e1, e_GC_cross_4 ⟨fun h => ?_, fun h => ⟨_, _, c_Ce_isSet hn e0 e1, e_GC_cross_9 ⟨fun h2 => ?_, fun h2 => ?_⟩⟩⟩⟩
  · rw [q_b2i_f h]; exact e_GC_cross_10 rfl
  · rw [q_b2i_t h, q_b2i_t h2]
    obtain ⟨h0, s, rfl, hs, _⟩ := s_isSet_of (q_b2i_t h)
    obtain ⟨_, t, rfl, ht, _⟩ := s_isSet_of (q_b2i_t h2)
    rw [Int.toNat_natCast, Int.toNat_natCast, e0]
    refine ⟨_, _, c_Se_crossing (by omega) (by omega) hn, e_GC_cross_18 ⟨fun h3 => ?_, fun h3 => ?_⟩⟩
    · rw [q_b2i_f h3]; exact e_GC_cross_22 rfl
    · rw [q_b2i_t h3]; exact e_GC_cross_22 rfl
  · rw [q_b2i_t h, q_b2i_f h2]; exact e_GC_cross_10 rfl
def s_clA (n : Nat) (L : List Nat) (x : Int) : Int := if n = 0 ∨ x < -1 then -1 else if x = -1 then (L.length : Int) else if x < (L.length : Int) then ((L.getD x.toNat 0 : Nat) : Int) else -2
theorem c_GC_cluster {n : Nat} {c : Nat → Bool} {x : Int} (hL : (s_fl c).length ≤ 70) {d : qD} {b : Nat} (e0 : d.1 t_Ce 0 0 = (n : Int)) (ec : s_Co 20 c d) : q_Ev m_GC_cluster 0 [q_r t_GC 0, q_i x] [] (q_mk d b) (q_i (s_clA n (s_fl c) x), q_mk d b) := by
  unfold s_clA
  refine e_GC_cluster_0 ?_
  rw [e0, ec.1]
  refine ⟨fun h => ?_, fun h => ⟨fun h2 => ⟨fun h3 => ⟨fun h4 => ?_, fun h4 => ⟨by omega, by omega, ?_⟩⟩, fun h3 => ?_⟩, fun h2 => ?_⟩⟩
  · rw [if_pos (by omega)]; exact e_GC_cluster_7 rfl
  · rw [if_neg (by omega), if_neg h3, if_neg (by omega)]; exact e_GC_cluster_28 rfl
  · rw [if_neg (by omega), if_neg h3, if_pos h4, ec.2 x.toNat (by omega)]; exact e_GC_cluster_28 rfl
  · rw [if_neg (by omega), if_pos h3]
  · rw [if_pos (by omega)]; exact e_GC_cluster_7 rfl
/-- the sets of a list with a property, counted from m on: the wanted one, or how many -/
def s_sqA (P : Nat → Bool) (L : List Nat) (x : Int) (m : Nat) : Int := match L with
  | [] => if x = -1 then (m : Int) else -2
  | s :: R => if P s then (if (m : Int) = x then (s : Int) else s_sqA P R x (m + 1)) else s_sqA P R x m
theorem c_GC_squareGo {n : Nat} {K : Nat → Nat} {c : Nat → Bool} {x : Int} (hn : n ≤ 8) (hL : (s_fl c).length ≤ 70) {d : qD} {b : Nat} (e0 : d.1 t_Ce 0 0 = (n : Int)) (eN : s_row (d.1 t_nl 0) n K) (ec : s_Co 20 c d) : ∀ (R : List Nat) (i m : Nat), (s_fl c).drop i = R → i ≤ (s_fl c).length → m ≤ i → q_Ev m_GC_square 13 [q_r t_GC 0, q_i x, q_i (m : Int), q_i (i : Int), none] [] (q_mk d b) (q_i (s_sqA (fun s => (s_mvx n K c (s : Int)).isSome) R x m), q_mk d b)
  | [], i, m, h, hi, hm => by
    have := s_drop_nil h
    rw [s_sqA]
    refine e_GC_square_13 ⟨fun _ => ⟨fun h2 => ?_, fun h2 => ?_⟩, fun h2 => ?_⟩
    · rw [if_neg h2]; exact e_GC_square_46 rfl
    · rw [if_pos h2]; exact e_GC_square_46 rfl
    · rw [ec.1] at h2; omega
  | s :: R, i, m, h, hi, hm => by
    obtain ⟨h1, h2, h3⟩ := s_drop_cons h
    rw [s_sqA]
    refine e_GC_square_13 ⟨fun h2 => ?_, fun _ => ⟨by omega, by omega, ?_⟩⟩
    · rw [ec.1] at h2; omega
    rw [Int.toNat_natCast, ec.2 i h1, h2]
    refine ⟨_, _, c_Co_movedFrom hn hL e0 eN ec, e_GC_square_30 ?_⟩
    cases hv : s_mvx n K c (s : Int) with
    | none =>
      refine ⟨fun _ => e_GC_square_38 ?_, fun h4 => absurd rfl h4⟩
      rw [q_wS (by omega)]
      exact c_GC_squareGo hn hL e0 eN ec R (i + 1) m h3 (by omega) (by omega)
    | some v =>
      refine ⟨fun h4 => absurd h4 (by unfold s_oi; dsimp only; omega), fun _ => ⟨fun h5 => e_GC_square_38 ?_, fun h5 => ?_⟩⟩
      · rw [q_wS (by omega), q_wS (by omega)]
        simp only [Option.isSome_some, if_true]
        rw [if_neg h5]
        exact c_GC_squareGo hn hL e0 eN ec R (i + 1) (m + 1) h3 (by omega) (by omega)
      · simp only [Option.isSome_some, if_true]
        rw [if_pos h5]
def s_sqAll (n : Nat) (K : Nat → Nat) (c : Nat → Bool) (x : Int) : Int := if n = 0 ∨ x < -1 then -1 else s_sqA (fun s => (s_mvx n K c (s : Int)).isSome) (s_fl c) x 0
theorem c_GC_square {n : Nat} {K : Nat → Nat} {c : Nat → Bool} {x : Int} (hn : n ≤ 8) (hL : (s_fl c).length ≤ 70) {d : qD} {b : Nat} (e0 : d.1 t_Ce 0 0 = (n : Int)) (eN : s_row (d.1 t_nl 0) n K) (ec : s_Co 20 c d) : q_Ev m_GC_square 0 [q_r t_GC 0, q_i x, none, none, none] [] (q_mk d b) (q_i (s_sqAll n K c x), q_mk d b) := by
  unfold s_sqAll
  refine e_GC_square_0 ?_
  rw [e0]
  refine ⟨fun h => ?_, fun h => ⟨fun h2 => ?_, fun h2 => ?_⟩⟩
  · rw [if_pos (by omega)]; exact e_GC_square_7 rfl
  · rw [if_neg (by omega)]
    exact c_GC_squareGo hn hL e0 eN ec _ 0 0 rfl (by omega) (by omega)
  · rw [if_pos (by omega)]; exact e_GC_square_7 rfl
