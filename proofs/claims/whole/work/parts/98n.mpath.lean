/-! reading a fill: the model's path; whether a box with 0 may be -/
theorem s_pl_ltr {x : Int} (h : s_pl x = true) : s_ltr x = true := by
  have h2 : x = 100 ∨ x = 108 := of_decide_eq_true h
  exact decide_eq_true (by omega)
theorem c_Md_pathGo {sz : Nat} {V : Nat → Int} (hz : sz ≤ 160) {b : Nat} : ∀ (f n fi q : Nat) (d : qD), n + f = 8 → fi < 2 ^ n → q ≤ sz → s_mT sz V d → d.1 t_Md 0 2 = (q : Int) → d.1 t_Md 0 5 = (n : Int) → ∃ d', s_mk d d' ∧ d'.1 t_Md 0 2 = ((s_path sz V f n fi q).2.2 : Int) ∧ d'.1 t_Md 0 5 = ((s_path sz V f n fi q).1 : Int) ∧ ∀ r, (s_ltr (s_bt sz V (s_path sz V f n fi q).2.2) = false → q_Ev m_Md_readsFill 13 [q_r t_Md 0, q_i ((s_path sz V f n fi q).2.1 : Int), none, none, none] [.inl 0] (q_mk d' b) r) → (s_ltr (s_bt sz V (s_path sz V f n fi q).2.2) = true → q_Ev m_Md_readsFill 30 [q_r t_Md 0, none, none, none, none] [] (q_mk d' b) r) → q_Ev m_Md_readsFill 8 [q_r t_Md 0, q_i (fi : Int), none, none, none] [] (q_mk d b) r
  | 0, n, fi, q, d, hf, hfi, hq, e, e2, e5 => by
    have kb := c_Md_byteAt (p := q) hz (b := b) e
    rw [← e2] at kb
    refine ⟨d, s_mk_refl _, e2, e5, fun r c1 c2 => e_Md_readsFill_8 ⟨_, _, kb, e_Md_readsFill_12 ⟨_, _, c_Md_isLetter, ?_⟩⟩⟩
    change (s_ltr (s_bt sz V q) = false → _) at c1
    change (s_ltr (s_bt sz V q) = true → _) at c2
    cases hl : s_ltr (s_bt sz V q) with
    | false => exact c1 hl
    | true =>
      have k30 := c2 hl
      have k26 : q_Ev m_Md_readsFill 26 [q_r t_Md 0, q_i (fi : Int), none, none, none] [] (q_mk d b) r := e_Md_readsFill_26 ⟨fun hh => by rw [e5] at hh; omega, fun _ => k30⟩
      exact e_Md_readsFill_13 ⟨fun hh => absurd hh (by decide), fun _ => ⟨_, _, kb, e_Md_readsFill_18 ⟨fun _ => k26, fun _ => ⟨_, _, kb, e_Md_readsFill_24 ⟨fun _ => k30, fun _ => k26⟩⟩⟩⟩⟩
  | f + 1, n, fi, q, d, hf, hfi, hq, e, e2, e5 => by
    have kb := c_Md_byteAt (p := q) hz (b := b) e
    rw [← e2] at kb
    unfold s_path
    by_cases h : s_pl (s_bt sz V q) = true
    · rw [if_pos h]
      have hlt := s_pl_lt h
      have h8 : fi < 256 := Nat.lt_of_lt_of_le hfi (s_p8 (by omega))
      have hfi2 : (if s_bt sz V q = 100 then s_with fi (n + 1) else fi) < 2 ^ (n + 1) := by
        have : fi < 2 ^ (n + 1) := Nat.lt_of_lt_of_le hfi (Nat.pow_le_pow_right (by decide) (by omega))
        split
        · exact s_with_ltn this (by omega) (Nat.le_refl _)
        · exact this
      have m1 : s_mk d (q_sI d t_Md 0 5 ((n + 1 : Nat) : Int)) := s_mk_sI (by decide) (fun _ => by omega)
      have m2 : s_mk d (q_sI (q_sI d t_Md 0 5 ((n + 1 : Nat) : Int)) t_Md 0 2 ((q + 1 : Nat) : Int)) := s_mk_tr m1 (s_mk_sI (by decide) (fun _ => by omega))
      obtain ⟨d', a, r2, r5, k⟩ := c_Md_pathGo (V := V) hz (b := b) f (n + 1) (if s_bt sz V q = 100 then s_with fi (n + 1) else fi) (q + 1) (q_sI (q_sI d t_Md 0 5 ((n + 1 : Nat) : Int)) t_Md 0 2 ((q + 1 : Nat) : Int)) (by omega) hfi2 (by omega) (s_mT_mk e m2) (by rw [q_sI_at, q_up_at]) (by rw [q_sI_at, q_up_ne _ _ (by decide), q_sI_at, q_up_at])
      refine ⟨d', s_mk_tr m2 a, r2, r5, fun r c1 c2 => ?_⟩
      have kk := k r c1 c2
      have e2n : (q_sI d t_Md 0 5 ((n + 1 : Nat) : Int)).1 t_Md 0 2 = (q : Int) := by rw [q_sI_at, q_up_ne _ _ (by decide)]; exact e2
      have e5n : (q_sI d t_Md 0 5 ((n + 1 : Nat) : Int)).1 t_Md 0 5 = ((n + 1 : Nat) : Int) := by rw [q_sI_at, q_up_at]
      have k54 : ∀ w : Nat, w = (if s_bt sz V q = 100 then s_with fi (n + 1) else fi) → q_Ev m_Md_readsFill 54 [q_r t_Md 0, none, none, none, none] [.inl (w : Int)] (q_mk (q_sI d t_Md 0 5 ((n + 1 : Nat) : Int)) b) r := by
        intro w hw
        subst hw
        refine e_Md_readsFill_54 ?_
        rw [e2n, q_wS (by omega)]
        exact kk
      have k46 : q_Ev m_Md_readsFill 46 [q_r t_Md 0, q_i (fi : Int), none, none, none] [.inl (s_bt sz V q)] (q_mk (q_sI d t_Md 0 5 ((n + 1 : Nat) : Int)) b) r := by
        refine e_Md_readsFill_46 ⟨fun h1 => k54 fi (by rw [if_neg h1]), fun h1 => ?_⟩
        rw [e5n]
        exact ⟨_, _, c_Md_with h8 (by omega) (by omega), e_Md_readsFill_52 (k54 _ (by rw [if_pos h1]))⟩
      have kb1 := c_Md_byteAt (p := q) hz (b := b) (s_mT_mk e m1)
      rw [← e2] at kb1
      have k26 : q_Ev m_Md_readsFill 26 [q_r t_Md 0, q_i (fi : Int), none, none, none] [] (q_mk d b) r := by
        refine e_Md_readsFill_26 ⟨fun _ => ?_, fun hh => by rw [e5] at hh; omega⟩
        rw [show q_w (d.1 t_Md 0 5 + 1) = ((n + 1 : Nat) : Int) by rw [e5, q_wS (by omega)]]
        exact ⟨_, _, kb1, k46⟩
      refine e_Md_readsFill_8 ⟨_, _, kb, e_Md_readsFill_12 ⟨_, _, c_Md_isLetter, ?_⟩⟩
      rw [s_pl_ltr h]
      refine e_Md_readsFill_13 ⟨fun hh => absurd hh (by decide), fun _ => ⟨_, _, kb, e_Md_readsFill_18 ⟨fun _ => k26, fun h1 => ⟨_, _, kb, e_Md_readsFill_24 ⟨fun h2 => ?_, fun _ => k26⟩⟩⟩⟩⟩
      have h3 : s_bt sz V q = 100 ∨ s_bt sz V q = 108 := of_decide_eq_true h
      rcases h3 with h3 | h3
      · exact absurd h3 h1
      · exact absurd h3 h2
    · rw [if_neg h]
      refine ⟨d, s_mk_refl _, e2, e5, fun r c1 c2 => e_Md_readsFill_8 ⟨_, _, kb, e_Md_readsFill_12 ⟨_, _, c_Md_isLetter, ?_⟩⟩⟩
      change (s_ltr (s_bt sz V q) = false → _) at c1
      change (s_ltr (s_bt sz V q) = true → _) at c2
      cases hl : s_ltr (s_bt sz V q) with
      | false => exact c1 hl
      | true =>
        have k30 := c2 hl
        refine e_Md_readsFill_13 ⟨fun hh => absurd hh (by decide), fun _ => ⟨_, _, kb, e_Md_readsFill_18 ⟨fun h1 => ?_, fun _ => ⟨_, _, kb, e_Md_readsFill_24 ⟨fun _ => k30, fun h1 => ?_⟩⟩⟩⟩⟩
        · exact absurd (decide_eq_true (Or.inl h1)) h
        · exact absurd (decide_eq_true (Or.inr h1)) h
theorem c_Md_leLeft {n fs i : Nat} {P : Nat → Nat} (hn : n ≤ 8) (h1 : 1 ≤ i) (hi : i ≤ n) {d : qD} {b : Nat} (e : s_Bx n fs P d) (u : Bool) : ∀ (f m : Nat) (l : Bool), m + f = n + 1 → 1 ≤ m → q_Ev m_Md_isLe 26 [q_r t_Md 0, q_i (i : Int), none, q_i (n : Int), q_i (q_b2i u), q_i (q_b2i l), q_i (m : Int)] [] (q_mk d b) (q_i (q_b2i (!(u && (l || (List.range' m f).any (fun m => s_pb fs P i m))))), q_mk d b)
  | 0, m, l, hf, hm => by
    have yes : ∀ z : Bool, z = true → q_Ev m_Md_isLe 46 [none, none, none, none, none, none, none] [] (q_mk d b) (q_i (q_b2i z), q_mk d b) := fun z hz => by
      subst hz
      exact e_Md_isLe_46 (e_Md_isLe_49 ⟨by decide, by decide, rfl⟩)
    have no : ∀ z : Bool, z = false → q_Ev m_Md_isLe 49 [none, none, none, none, none, none, none] [.inl 0] (q_mk d b) (q_i (q_b2i z), q_mk d b) := fun z hz => by
      subst hz
      exact e_Md_isLe_49 ⟨by decide, by decide, rfl⟩
    refine e_Md_isLe_26 ⟨fun _ => ⟨fun hh => yes _ ?_, fun hh => ⟨fun h2 => no _ ?_, fun h2 => yes _ ?_⟩⟩, fun hh => by omega⟩
    · rw [q_b2i_f hh]; rfl
    · rw [q_b2i_t hh, q_b2i_t h2]; rfl
    · rw [q_b2i_f h2]; cases u <;> rfl
  | f + 1, m, l, hf, hm => by
    have k39 : ∀ z : Bool, z = (l || s_pb fs P i m) → q_Ev m_Md_isLe 39 [q_r t_Md 0, q_i (i : Int), none, q_i (n : Int), q_i (q_b2i u), none, q_i (m : Int)] [.inl (q_b2i z)] (q_mk d b) (q_i (q_b2i (!(u && (l || (List.range' m (f + 1)).any (fun m => s_pb fs P i m))))), q_mk d b) := by
      intro z hz
      refine e_Md_isLe_39 ?_
      rw [q_wS (by omega), List.range'_succ, List.any_cons, ← Bool.or_assoc, ← hz]
      exact c_Md_leLeft hn h1 hi e u f (m + 1) z (by omega) (by omega)
    refine e_Md_isLe_26 ⟨fun hh => by omega, fun _ => ⟨fun hh => e_Md_isLe_36 (k39 true (by rw [q_b2i_t hh]; rfl)), fun hh => ⟨_, _, c_Md_isPlus hn h1 hi hm (by omega) e, e_Md_isLe_35 ⟨fun h2 => k39 false (by rw [q_b2i_f hh, q_b2i_f h2]; rfl), fun h2 => e_Md_isLe_36 (k39 true (by rw [q_b2i_f hh, q_b2i_t h2]; rfl))⟩⟩⟩⟩
theorem c_Md_leUp {n fs i j : Nat} {P : Nat → Nat} (hn : n ≤ 8) (hi : i ≤ n) (hj : 1 ≤ j) (hjn : j ≤ n) {d : qD} {b : Nat} (e : s_Bx n fs P d) {r : Option qV × qW} : ∀ (f h : Nat) (u : Bool), h + f = i → 1 ≤ h → q_Ev m_Md_isLe 26 [q_r t_Md 0, q_i (i : Int), none, q_i (n : Int), q_i (q_b2i (u || (List.range' h f).any (fun h => s_pb fs P h j))), q_i (q_b2i false), q_i ((j + 1 : Nat) : Int)] [] (q_mk d b) r → q_Ev m_Md_isLe 6 [q_r t_Md 0, q_i (i : Int), q_i (j : Int), q_i (n : Int), q_i (q_b2i u), q_i (q_b2i false), q_i (h : Int)] [] (q_mk d b) r
  | 0, h, u, hf, hh, k => by
    refine e_Md_isLe_6 ⟨fun _ => ?_, fun h2 => by omega⟩
    rw [q_wS (by omega)]
    rw [show (u || (List.range' h 0).any (fun h => s_pb fs P h j)) = u by cases u <;> rfl] at k
    exact k
  | f + 1, h, u, hf, hh, k => by
    have k19 : ∀ z : Bool, z = (u || s_pb fs P h j) → q_Ev m_Md_isLe 19 [q_r t_Md 0, q_i (i : Int), q_i (j : Int), q_i (n : Int), none, q_i (q_b2i false), q_i (h : Int)] [.inl (q_b2i z)] (q_mk d b) r := by
      intro z hz
      refine e_Md_isLe_19 ?_
      rw [q_wS (by omega)]
      rw [List.range'_succ, List.any_cons, ← Bool.or_assoc, ← hz] at k
      exact c_Md_leUp hn hi hj hjn e f (h + 1) z (by omega) (by omega) k
    refine e_Md_isLe_6 ⟨fun h2 => by omega, fun _ => ⟨fun h2 => e_Md_isLe_16 (k19 true (by rw [q_b2i_t h2]; rfl)), fun h2 => ⟨_, _, c_Md_isPlus hn hh (by omega) hj hjn e, e_Md_isLe_15 ⟨fun h3 => k19 false (by rw [q_b2i_f h2, q_b2i_f h3]; rfl), fun h3 => e_Md_isLe_16 (k19 true (by rw [q_b2i_f h2, q_b2i_t h3]; rfl))⟩⟩⟩⟩
theorem c_Md_isLe {n fs i j : Nat} {P : Nat → Nat} (hn : n ≤ 8) (h1 : 1 ≤ i) (hi : i ≤ n) (hj : 1 ≤ j) (hjn : j ≤ n) {d : qD} {b : Nat} (e : s_Bx n fs P d) : q_Ev m_Md_isLe 0 [q_r t_Md 0, q_i (i : Int), q_i (j : Int), q_i (n : Int), none, none, none] [] (q_mk d b) (q_i (q_b2i (!((List.range' 1 (i - 1)).any (fun h => s_pb fs P h j) && (List.range' (j + 1) (n - j)).any (fun m => s_pb fs P i m)))), q_mk d b) := by
  refine e_Md_isLe_0 (c_Md_leUp hn hi hj hjn e (i - 1) 1 false (by omega) (Nat.le_refl 1) ?_)
  have k := c_Md_leLeft hn h1 hi e (b := b) (false || (List.range' 1 (i - 1)).any (fun h => s_pb fs P h j)) (n - j) (j + 1) false (by omega) (by omega)
  rw [Bool.false_or, Bool.false_or] at k
  rw [Bool.false_or]
  exact k
/-- bits above a place -/
theorem s_shr_any {n P j : Nat} (hb : ∀ m, n < m → q_hl P m = false) (hj : 1 ≤ j) (_hjn : j ≤ n) : decide (P >>> j ≠ 0) = (List.range' (j + 1) (n - j)).any (fun m => q_hl P m) := by
  cases ha : (List.range' (j + 1) (n - j)).any (fun m => q_hl P m) with
  | true =>
    obtain ⟨m, hm, hp⟩ := List.any_eq_true.mp ha
    rw [List.mem_range'_1] at hm
    refine decide_eq_true (fun h0 => ?_)
    have hz : (P >>> j).testBit (m - 1 - j) = true := by
      rw [Nat.testBit_shiftRight, show j + (m - 1 - j) = m - 1 by omega]
      exact hp
    rw [h0, Nat.zero_testBit] at hz
    exact absurd hz (by decide)
  | false =>
    refine decide_eq_false (fun h0 => h0 (Nat.eq_of_testBit_eq fun k => ?_))
    rw [Nat.zero_testBit, Nat.testBit_shiftRight]
    have hq : q_hl P (j + k + 1) = false := by
      by_cases hm : j + k + 1 ≤ n
      · refine Bool.eq_false_iff.mpr (fun hc => ?_)
        have : (List.range' (j + 1) (n - j)).any (fun m => q_hl P m) = true := List.any_eq_true.mpr ⟨j + k + 1, by rw [List.mem_range'_1]; omega, hc⟩
        rw [ha] at this
        exact absurd this (by decide)
      · exact hb _ (by omega)
    unfold q_hl at hq
    rw [show j + k + 1 - 1 = j + k by omega] at hq
    exact hq
