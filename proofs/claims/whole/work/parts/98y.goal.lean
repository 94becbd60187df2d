/-! the law's loop, and its start -/
theorem l_other {A : s_A} {L i : Nat} {xs : Nat → Int32} {d : qD} {b : Nat} (hi : i + 6 ≤ L) (hL : L ≤ 3072) (I : s_I A L xs d b) (K : ∀ A2 d2 b2, s_I A2 L xs d2 b2 → ∃ w2, q_Ev m_Law_law 559 (s_lwl (i : Int)) [] (q_mk d2 b2) (q_i 1, w2)) (h0 : ¬ q_and (d.1 1 0 (i : Int).toNat) 31 = 0) (h1 : ¬ q_and (d.1 1 0 (i : Int).toNat) 31 = 1) (h2 : ¬ q_and (d.1 1 0 (i : Int).toNat) 31 = 2) (h3 : ¬ q_and (d.1 1 0 (i : Int).toNat) 31 = 3) (h4 : ¬ q_and (d.1 1 0 (i : Int).toNat) 31 = 4) (h5 : ¬ q_and (d.1 1 0 (i : Int).toNat) 31 = 5) (h6 : ¬ q_and (d.1 1 0 (i : Int).toNat) 31 = 6) (h7 : ¬ q_and (d.1 1 0 (i : Int).toNat) 31 = 7) (h8 : ¬ q_and (d.1 1 0 (i : Int).toNat) 31 = 8) (h9 : ¬ q_and (d.1 1 0 (i : Int).toNat) 31 = 9) (h10 : ¬ q_and (d.1 1 0 (i : Int).toNat) 31 = 10) (h11 : ¬ q_and (d.1 1 0 (i : Int).toNat) 31 = 11) (h12 : ¬ q_and (d.1 1 0 (i : Int).toNat) 31 = 12) (h13 : ¬ q_and (d.1 1 0 (i : Int).toNat) 31 = 13) (h14 : ¬ q_and (d.1 1 0 (i : Int).toNat) 31 = 14) (h15 : ¬ q_and (d.1 1 0 (i : Int).toNat) 31 = 15) (h16 : ¬ q_and (d.1 1 0 (i : Int).toNat) 31 = 16) (h17 : ¬ q_and (d.1 1 0 (i : Int).toNat) 31 = 17) (h18 : ¬ q_and (d.1 1 0 (i : Int).toNat) 31 = 18) (h19 : ¬ q_and (d.1 1 0 (i : Int).toNat) 31 = 19) (h20 : ¬ q_and (d.1 1 0 (i : Int).toNat) 31 = 20) (h21 : ¬ q_and (d.1 1 0 (i : Int).toNat) 31 = 21) (h22 : ¬ q_and (d.1 1 0 (i : Int).toNat) 31 = 22) (h23 : ¬ q_and (d.1 1 0 (i : Int).toNat) 31 = 23) (h24 : ¬ q_and (d.1 1 0 (i : Int).toNat) 31 = 24) (h25 : ¬ q_and (d.1 1 0 (i : Int).toNat) 31 = 25) (h26 : ¬ q_and (d.1 1 0 (i : Int).toNat) 31 = 26) (h27 : ¬ q_and (d.1 1 0 (i : Int).toNat) 31 = 27) : ∃ w2, q_Ev m_Law_law 10 (s_lwl (i : Int)) [] (q_mk d b) (q_i 1, w2) := by
  obtain ⟨hv, eC, eM, hb, sL, sX⟩ := id I
  obtain ⟨wz, hw⟩ := K A d b I
  exact ⟨wz, e_Law_law_10 ⟨fun hh => by rw [sL, q_w_id (by omega) (by omega)] at hh; omega, fun _ => ⟨by omega, by rw [sL]; omega, fun hh => absurd hh h0, fun _ => ⟨fun hh => absurd hh h1, fun _ => ⟨fun hh => absurd hh h2, fun _ => ⟨fun hh => absurd hh h3, fun _ => ⟨fun hh => absurd hh h4, fun _ => ⟨fun hh => absurd hh h5, fun _ => ⟨fun hh => absurd hh h6, fun _ => ⟨fun hh => absurd hh h7, fun _ => ⟨fun hh => absurd hh h8, fun _ => ⟨fun hh => absurd hh h9, fun _ => ⟨fun hh => absurd hh h10, fun _ => ⟨fun hh => absurd hh h11, fun _ => ⟨fun hh => absurd hh h12, fun _ => ⟨fun hh => absurd hh h13, fun _ => ⟨fun hh => absurd hh h14, fun _ => ⟨fun hh => absurd hh h15, fun _ => ⟨fun hh => absurd hh h16, fun _ => ⟨fun hh => absurd hh h17, fun _ => ⟨fun hh => absurd hh h18, fun _ => ⟨fun hh => absurd hh h19, fun _ => ⟨fun hh => absurd hh h20, fun _ => ⟨fun hh => absurd hh h21, fun _ => ⟨fun hh => absurd hh h22, fun _ => ⟨fun hh => absurd hh h23, fun _ => ⟨fun hh => absurd hh h24, fun _ => ⟨fun hh => absurd hh h25, fun _ => ⟨fun hh => absurd hh h26, fun _ => ⟨fun hh => absurd hh h27, fun _ => hw⟩⟩⟩⟩⟩⟩⟩⟩⟩⟩⟩⟩⟩⟩⟩⟩⟩⟩⟩⟩⟩⟩⟩⟩⟩⟩⟩⟩⟩⟩
theorem c_law {L : Nat} {xs : Nat → Int32} (hL : L ≤ 3072) : ∀ (f i : Nat) (A : s_A) (d : qD) (b : Nat), L ≤ i + 6 * f → i ≤ 3078 → s_I A L xs d b → ∃ w2, q_Ev m_Law_law 10 (s_lwl (i : Int)) [] (q_mk d b) (q_i 1, w2)
  | 0, i, A, d, b, hf, _, I => ⟨_, e_Law_law_10 ⟨fun _ => ⟨by decide, by decide, rfl⟩, fun hh => by rw [I.2.2.2.2.1, q_w_id (by omega) (by omega)] at hh; omega⟩⟩
  | f + 1, i, A, d, b, hf, h3, I => by
    by_cases hi : i + 6 ≤ L
    · have K : ∀ A2 d2 b2, s_I A2 L xs d2 b2 → ∃ w2, q_Ev m_Law_law 559 (s_lwl (i : Int)) [] (q_mk d2 b2) (q_i 1, w2) := by
        intro A2 d2 b2 I2
        obtain ⟨w2, hw⟩ := c_law hL f (i + 6) A2 d2 b2 (by omega) (by omega) I2
        refine ⟨w2, e_Law_law_559 ?_⟩
        have e6 : q_w ((i : Int) + 6) = ((i + 6 : Nat) : Int) := q_wJ 6 hi hL (by omega)
        rw [e6]
        exact hw
      by_cases h0 : q_and (d.1 1 0 (i : Int).toNat) 31 = 0
      · exact l_feed hi hL I K h0
      by_cases h1 : q_and (d.1 1 0 (i : Int).toNat) 31 = 1
      · exact l_end hi hL I K h1
      by_cases h2 : q_and (d.1 1 0 (i : Int).toNat) 31 = 2
      · exact l_cell hi hL I K h2
      by_cases h3 : q_and (d.1 1 0 (i : Int).toNat) 31 = 3
      · exact l_f hi hL I K h3
      by_cases h4 : q_and (d.1 1 0 (i : Int).toNat) 31 = 4
      · exact l_neck hi hL I K h4
      by_cases h5 : q_and (d.1 1 0 (i : Int).toNat) 31 = 5
      · exact l_box hi hL I K h5
      by_cases h6 : q_and (d.1 1 0 (i : Int).toNat) 31 = 6
      · exact l_bases hi hL I K h6
      by_cases h7 : q_and (d.1 1 0 (i : Int).toNat) 31 = 7
      · exact l_basis hi hL I K h7
      by_cases h8 : q_and (d.1 1 0 (i : Int).toNat) 31 = 8
      · exact l_rank hi hL I K h8
      by_cases h9 : q_and (d.1 1 0 (i : Int).toNat) 31 = 9
      · exact l_exchange hi hL I K h9
      by_cases h10 : q_and (d.1 1 0 (i : Int).toNat) 31 = 10
      · exact l_part hi hL I K h10
      by_cases h11 : q_and (d.1 1 0 (i : Int).toNat) 31 = 11
      · exact l_ways hi hL I K h11
      by_cases h12 : q_and (d.1 1 0 (i : Int).toNat) 31 = 12
      · exact l_cross hi hL I K h12
      by_cases h13 : q_and (d.1 1 0 (i : Int).toNat) 31 = 13
      · exact l_cluster hi hL I K h13
      by_cases h14 : q_and (d.1 1 0 (i : Int).toNat) 31 = 14
      · exact l_square hi hL I K h14
      by_cases h15 : q_and (d.1 1 0 (i : Int).toNat) 31 = 15
      · exact l_move hi hL I K h15
      by_cases h16 : q_and (d.1 1 0 (i : Int).toNat) 31 = 16
      · exact l_lower hi hL I K h16
      by_cases h17 : q_and (d.1 1 0 (i : Int).toNat) 31 = 17
      · exact l_upper hi hL I K h17
      by_cases h18 : q_and (d.1 1 0 (i : Int).toNat) 31 = 18
      · exact l_down hi hL I K h18
      by_cases h19 : q_and (d.1 1 0 (i : Int).toNat) 31 = 19
      · exact l_up hi hL I K h19
      by_cases h20 : q_and (d.1 1 0 (i : Int).toNat) 31 = 20
      · exact l_turn hi hL I K h20
      by_cases h21 : q_and (d.1 1 0 (i : Int).toNat) 31 = 21
      · exact l_mirror hi hL I K h21
      by_cases h22 : q_and (d.1 1 0 (i : Int).toNat) 31 = 22
      · exact l_complement hi hL I K h22
      by_cases h23 : q_and (d.1 1 0 (i : Int).toNat) 31 = 23
      · exact l_undo hi hL I K h23
      by_cases h24 : q_and (d.1 1 0 (i : Int).toNat) 31 = 24
      · exact l_howMany hi hL I K h24
      by_cases h25 : q_and (d.1 1 0 (i : Int).toNat) 31 = 25
      · exact l_keep hi hL I K h25
      by_cases h26 : q_and (d.1 1 0 (i : Int).toNat) 31 = 26
      · exact l_has hi hL I K h26
      by_cases h27 : q_and (d.1 1 0 (i : Int).toNat) 31 = 27
      · exact l_count hi hL I K h27
      exact l_other hi hL I K h0 h1 h2 h3 h4 h5 h6 h7 h8 h9 h10 h11 h12 h13 h14 h15 h16 h17 h18 h19 h20 h21 h22 h23 h24 h25 h26 h27
    · exact ⟨_, e_Law_law_10 ⟨fun _ => ⟨by decide, by decide, rfl⟩, fun hh => by rw [I.2.2.2.2.1, q_w_id (by omega) (by omega)] at hh; omega⟩⟩
theorem s_z_obj {xs : Nat → Int32} {L t i k c : Nat} (hr : (t, i) ∈ q_refs) (ht : 2 ≤ t) (he : q_env (t, i) = some (0, c)) (hk : (q_ft c)[k]? = some 0) : (q_ws0 xs L).1 t i k = 0 := by
  have h := (q_p1_facts.2.2.2 (t, i) hr).2
  unfold q_p1r at h
  rw [he] at h
  have hlt : k < (q_ft c).length := (List.getElem?_eq_some_iff.mp hk).1
  have h2 := List.all_eq_true.mp h k (List.mem_range.mpr hlt)
  rw [Bool.and_eq_true, decide_eq_true_eq, decide_eq_true_eq] at h2
  have h3 := h2.2 hk
  unfold q_ws0
  dsimp only
  rw [if_neg (by omega), if_neg (by omega)]
  exact h3
theorem s_z_row {xs : Nat → Int32} {L t i k n c : Nat} (hr : (t, i) ∈ q_refs) (ht : 2 ≤ t) (he : q_env (t, i) = some (c + 1, n)) (hc : c < 3) (hk : k < n) : (q_ws0 xs L).1 t i k = if t = t_mWords then q_words.getD k 0 else 0 := by
  have h := (q_p1_facts.2.2.2 (t, i) hr).2
  unfold q_p1r at h
  rw [he] at h
  have h1 : (if 5 ≤ c + 1 then (List.range n).all (fun b => decide (q_p1w.2.2 0 (q_perm (t, i)) b = (q_R 0 t i b).map (fun x => (0, q_perm x)))) else if c + 1 = 4 then true else (List.range n).all (fun b => decide (q_p1w.1 0 (q_perm (t, i)) b = if t = t_mWords then q_words.getD b 0 else 0))) = true := h
  rw [if_neg (by omega), if_neg (by omega)] at h1
  have h2 := List.all_eq_true.mp h1 k (List.mem_range.mpr hk)
  rw [decide_eq_true_eq] at h2
  unfold q_ws0
  dsimp only
  rw [if_neg (by omega), if_neg (by omega)]
  exact h2
def s_zO (d : qD) : Prop := ∀ t i k c, (t, i) ∈ q_refs → 2 ≤ t → q_env (t, i) = some (0, c) → (q_ft c)[k]? = some 0 → d.1 t i k = 0
def s_zR (d : qD) : Prop := ∀ t i k c n, (t, i) ∈ q_refs → 2 ≤ t → q_env (t, i) = some (c + 1, n) → c < 3 → k < n → d.1 t i k = if t = t_mWords then q_words.getD k 0 else 0
theorem s_bas0 (F : Nat → Nat) (s : Nat) : s_bas 0 F s = false := by
  unfold s_bas s_isSet
  rw [decide_eq_false (fun h => absurd h.1 (by decide))]
  rfl
theorem s_basL0 (F : Nat → Nat) : s_basL 0 F 256 = [] := by
  unfold s_basL
  rw [List.filter_eq_nil_iff]
  intro s _ h
  rw [s_bas0] at h
  exact absurd h (by decide)
theorem s_fl0 : s_fl (fun _ => false) = [] := by
  unfold s_fl
  rw [List.filter_eq_nil_iff]
  intro s _ h
  exact absurd h (by decide)
def s_A0 : s_A := ((0, fun _ => 0), (0, fun _ => 0, fun _ => false), [], fun _ => (0, fun _ => 0))
theorem s_val0 : s_val s_A0 := ⟨Nat.zero_le _, fun _ => ⟨by show (0 : Int) ≤ 0; decide, by show (0 : Int) ≤ 255; decide⟩, ⟨Or.inl rfl, fun t h => absurd (show false = true from h) (by decide)⟩, Nat.zero_le _, fun h hh => absurd hh (by show ¬ h ∈ ([] : List s_H); simp), fun _ => Or.inl rfl⟩
theorem s_CL0 {d : qD} (hO : s_zO d) (hR : s_zR d) : s_CL s_A0 d := by
  refine ⟨⟨?_, fun k hk => absurd hk (Nat.not_lt_zero k)⟩, ⟨?_, ?_, ?_, ?_, fun i h1 h2 => absurd h2 (by show ¬ i ≤ 0; omega), fun i h1 h2 => absurd h2 (by show ¬ i ≤ 0; omega), ?_, fun j hj => ?_, ?_, ?_, fun i h1 h2 => absurd h2 (by show ¬ i ≤ 0; omega)⟩, ⟨?_, ?_⟩, ⟨Nat.zero_le _, 0, by decide, ?_, ?_, fun k h hk => ?_⟩, fun x hx => ⟨?_, fun h => absurd h (by show ¬ 0 < 0; omega)⟩⟩
  · exact hO t_Ta 0 1 _ (by decide +kernel) (by decide) rfl rfl
  · exact hO t_Ce 0 0 _ (by decide +kernel) (by decide) rfl rfl
  · exact hO t_Ce 0 1 _ (by decide +kernel) (by decide) rfl rfl
  · exact hO t_Ce 0 2 _ (by decide +kernel) (by decide) rfl rfl
  · show d.1 t_Ce 0 3 = ((s_basL 0 _ 256).length : Int)
    rw [s_basL0]
    exact hO t_Ce 0 3 _ (by decide +kernel) (by decide) rfl rfl
  · show s_lst _ (s_basL 0 _ 256)
    rw [s_basL0]
    exact fun k hk => absurd hk (Nat.not_lt_zero k)
  · show d.1 t_inB 0 j = q_b2i (s_bas 0 _ j)
    rw [s_bas0]
    exact hR t_inB 0 j 2 256 (by decide +kernel) (by decide) rfl (by decide) hj
  · exact hO t_Di 1 0 _ (by decide +kernel) (by decide) rfl rfl
  · exact hO t_Di 1 1 _ (by decide +kernel) (by decide) rfl rfl
  · show d.1 t_Co 20 1 = ((s_fl (fun _ => false)).length : Int)
    rw [s_fl0]
    exact hO t_Co 20 1 _ (by decide +kernel) (by decide) rfl rfl
  · show s_lst _ (s_fl (fun _ => false))
    rw [s_fl0]
    exact fun k hk => absurd hk (Nat.not_lt_zero k)
  · exact hO t_Pa 0 1 _ (by decide +kernel) (by decide) rfl rfl
  · exact hO t_Pa 0 2 _ (by decide +kernel) (by decide) rfl rfl
  · have hk2 : ([] : List s_H)[k]? = some h := hk
    rw [List.getElem?_nil] at hk2
    cases hk2
  · match x, hx with
    | 0, _ => exact hO t_Sh 0 0 _ (by decide +kernel) (by decide) rfl rfl
    | 1, _ => exact hO t_Sh 1 0 _ (by decide +kernel) (by decide) rfl rfl
    | 2, _ => exact hO t_Sh 2 0 _ (by decide +kernel) (by decide) rfl rfl
    | 3, _ => exact hO t_Sh 3 0 _ (by decide +kernel) (by decide) rfl rfl
theorem s_words_eq : ∀ k, k < 12 → q_words.getD k 0 = s_wrd k := by decide +kernel
theorem s_MD0 {d : qD} (hO : s_zO d) (hR : s_zR d) : s_MD s_A0 d := by
  refine ⟨⟨⟨?_, fun k hk => absurd hk (Nat.not_lt_zero k)⟩, ⟨Nat.zero_le _, ?_, fun k h hk => ?_⟩, fun x hx => ⟨?_, fun i h1 h2 => absurd h2 (by show ¬ i ≤ 0; omega)⟩, fun k hk => ?_⟩, ?_, fun i h1 h2 => absurd h2 (by show ¬ i ≤ 0; omega), fun h => absurd h (by show ¬ 0 < 0; omega), fun j hj => ?_⟩
  · exact hO t_Md 0 1 _ (by decide +kernel) (by decide) rfl rfl
  · exact hO t_Md 0 20 _ (by decide +kernel) (by decide) rfl rfl
  · have hk2 : ([] : List s_H)[k]? = some h := hk
    rw [List.getElem?_nil] at hk2
    cases hk2
  · exact hR t_mShN 0 x 0 4 (by decide +kernel) (by decide) rfl (by decide) hx
  · rw [← s_words_eq k hk]
    exact hR t_mWords 0 k 1 12 (by decide +kernel) (by decide) rfl (by decide) hk
  · exact hO t_Md 0 10 _ (by decide +kernel) (by decide) rfl rfl
  · exact hR t_mInC 0 j 2 256 (by decide +kernel) (by decide) rfl (by decide) hj
theorem s_ws_mk (xs : Nat → Int32) (L : Nat) : ∃ d : qD, q_ws0 xs L = q_mk d 0 ∧ s_zO d ∧ s_zR d ∧ d.1 1 1 0 = (L : Int) ∧ ∀ k, k < L → d.1 1 0 k = (xs k).toInt := by
  refine ⟨((q_ws0 xs L).1, (q_ws0 xs L).2.1), rfl, fun t i k c hr ht he hk => s_z_obj hr ht he hk, fun t i k c n hr ht he hc hk => s_z_row hr ht he hc hk, ?_, fun k hk => ?_⟩
  · show (q_ws0 xs L).1 1 1 0 = (L : Int)
    unfold q_ws0
    dsimp only
    rw [if_neg (by decide), if_pos rfl, if_neg (by decide), if_pos ⟨rfl, rfl⟩]
  · show (q_ws0 xs L).1 1 0 k = (xs k).toInt
    unfold q_ws0
    dsimp only
    rw [if_neg (by decide), if_pos rfl, if_pos rfl, if_pos hk]
theorem q_goal_all : q_Goal := by
  intro xs L hL
  obtain ⟨d, hd, hO, hR, h1, h2⟩ := s_ws_mk xs L
  have I : s_I s_A0 L xs d 0 := ⟨s_val0, s_CL0 hO hR, s_MD0 hO hR, by decide, h1, h2⟩
  obtain ⟨w2, hw⟩ := c_law hL 512 0 s_A0 d 0 (by omega) (by omega) I
  rw [hd]
  exact ⟨w2, hw⟩
