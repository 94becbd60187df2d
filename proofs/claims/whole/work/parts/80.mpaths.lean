/-! ways: the model -/
def s_ptr (p : Nat → Bool) : Nat → Nat
  | 0 => 0
  | m + 1 => if p (m + 1) then m + 1 else s_ptr p m
theorem s_ptr_le (p : Nat → Bool) : ∀ m, s_ptr p m ≤ m
  | 0 => Nat.le_refl _
  | m + 1 => by
    unfold s_ptr
    split
    · exact Nat.le_refl _
    · exact Nat.le_trans (s_ptr_le p m) (by omega)
theorem s_ptr_p (p : Nat → Bool) : ∀ m, s_ptr p m ≠ 0 → p (s_ptr p m) = true
  | 0, h => absurd rfl h
  | m + 1, h => by
    unfold s_ptr at h ⊢
    by_cases hp : p (m + 1) = true
    · rw [if_pos hp]; exact hp
    · rw [if_neg hp] at h ⊢; exact s_ptr_p p m h
theorem s_ptr_U (p : Nat → Bool) (v : Nat → Int64) : ∀ m, s_U (s_cut p v) m = s_U (s_cut p v) (s_ptr p m)
  | 0 => rfl
  | m + 1 => by
    unfold s_ptr
    by_cases hp : p (m + 1) = true
    · rw [if_pos hp]
    · rw [if_neg hp, ← s_ptr_U p v m]
      show s_U (s_cut p v) m + s_cut p v (m + 1) = _
      rw [show s_cut p v (m + 1) = 0 from if_neg hp, Int64.add_zero]
theorem s_ptr_fw (P : Nat → Nat → Bool) (a j : Nat) : ∀ i, s_fw P a i j = s_fw P a (s_ptr (fun h => P h j) i) j
  | 0 => rfl
  | i + 1 => by
    unfold s_ptr
    by_cases hp : P (i + 1) j = true
    · rw [if_pos hp]
    · rw [if_neg hp, ← s_ptr_fw P a j i]
      exact if_neg hp
theorem c_Md_plusToRight {n fs i : Nat} {PP : Nat → Nat} {P : Nat → Nat → Bool} (hn : n ≤ 8) (hpb : ∀ i j, 1 ≤ i → i ≤ n → 1 ≤ j → j ≤ n → s_pb fs PP i j = P i j) (hi : 1 ≤ i) (hin : i ≤ n) {d : qD} {b : Nat} (e : s_Bx n fs PP d) : ∀ m, m ≤ n → q_Ev m_Md_plusToRight 4 [q_r t_Md 0, q_i (i : Int), none, q_i (m : Int)] [] (q_mk d b) (q_i (s_ptr (P i) m : Int), q_mk d b)
  | 0, _ => e_Md_plusToRight_4 ⟨fun _ => e_Md_plusToRight_13 rfl, fun hh => by omega⟩
  | m + 1, hm => by
    refine e_Md_plusToRight_4 ⟨fun hh => by omega, fun _ => ⟨_, _, c_Md_isPlus hn hi hin (by omega) hm e, ?_⟩⟩
    rw [hpb i (m + 1) hi hin (by omega) hm]
    unfold s_ptr
    by_cases hp : P i (m + 1) = true
    · rw [if_pos hp]
      refine e_Md_plusToRight_10 ⟨fun _ => e_Md_plusToRight_13 rfl, fun hh => ?_⟩
      rw [hp] at hh; exact absurd hh (by decide)
    · rw [if_neg hp]
      refine e_Md_plusToRight_10 ⟨fun hh => ?_, fun _ => ?_⟩
      · rw [Bool.eq_false_iff.mpr hp] at hh; exact absurd rfl hh
      · rw [show ((m + 1 : Nat) : Int) + (-1) = ((m + 1 : Nat) : Int) - ((1 : Nat) : Int) by omega, q_wD (by omega) (by omega), show m + 1 - 1 = m by omega]
        exact c_Md_plusToRight hn hpb hi hin e m (by omega)
theorem c_Md_plusAbove {n fs j : Nat} {PP : Nat → Nat} {P : Nat → Nat → Bool} (hn : n ≤ 8) (hpb : ∀ i j, 1 ≤ i → i ≤ n → 1 ≤ j → j ≤ n → s_pb fs PP i j = P i j) (hj : 1 ≤ j) (hjn : j ≤ n) {d : qD} {b : Nat} (e : s_Bx n fs PP d) : ∀ m, m ≤ n → q_Ev m_Md_plusAbove 4 [q_r t_Md 0, none, q_i (j : Int), q_i (m : Int)] [] (q_mk d b) (q_i (s_ptr (fun h => P h j) m : Int), q_mk d b)
  | 0, _ => e_Md_plusAbove_4 ⟨fun _ => e_Md_plusAbove_13 rfl, fun hh => by omega⟩
  | m + 1, hm => by
    refine e_Md_plusAbove_4 ⟨fun hh => by omega, fun _ => ⟨_, _, c_Md_isPlus hn (by omega) hm hj hjn e, ?_⟩⟩
    rw [hpb (m + 1) j (by omega) hm hj hjn]
    unfold s_ptr
    by_cases hp : P (m + 1) j = true
    · rw [if_pos hp]
      refine e_Md_plusAbove_10 ⟨fun _ => e_Md_plusAbove_13 rfl, fun hh => ?_⟩
      rw [hp] at hh; exact absurd hh (by decide)
    · rw [if_neg hp]
      refine e_Md_plusAbove_10 ⟨fun hh => ?_, fun _ => ?_⟩
      · rw [Bool.eq_false_iff.mpr hp] at hh; exact absurd rfl hh
      · rw [show ((m + 1 : Nat) : Int) + (-1) = ((m + 1 : Nat) : Int) - ((1 : Nat) : Int) by omega, q_wD (by omega) (by omega), show m + 1 - 1 = m by omega]
        exact c_Md_plusAbove hn hpb hj hjn e m (by omega)
theorem c_Md_endsAtGo {n fs j : Nat} {PP : Nat → Nat} {P : Nat → Nat → Bool} (hn : n ≤ 8) (hpb : ∀ i j, 1 ≤ i → i ≤ n → 1 ≤ j → j ≤ n → s_pb fs PP i j = P i j) (hj : 1 ≤ j) (hjn : j ≤ n) {d : qD} {b : Nat} (e : s_Bx n fs PP d) {r : Option qV × qW} : ∀ m, m ≤ n → q_Ev m_Md_endsAt 12 [q_r t_Md 0, q_i (j : Int), q_i (s_ptr (fun h => P h j) m : Int)] [] (q_mk d b) r → q_Ev m_Md_endsAt 3 [q_r t_Md 0, q_i (j : Int), q_i (m : Int)] [] (q_mk d b) r
  | 0, _, hr => e_Md_endsAt_3 ⟨fun _ => hr, fun hh => by omega⟩
  | m + 1, hm, hr => by
    refine e_Md_endsAt_3 ⟨fun hh => by omega, fun _ => ⟨_, _, c_Md_isPlus hn (by omega) hm hj hjn e, ?_⟩⟩
    rw [hpb (m + 1) j (by omega) hm hj hjn]
    unfold s_ptr at hr
    by_cases hp : P (m + 1) j = true
    · rw [if_pos hp] at hr
      refine e_Md_endsAt_9 ⟨fun _ => hr, fun hh => ?_⟩
      rw [hp] at hh; exact absurd hh (by decide)
    · rw [if_neg hp] at hr
      refine e_Md_endsAt_9 ⟨fun hh => ?_, fun _ => ?_⟩
      · rw [Bool.eq_false_iff.mpr hp] at hh; exact absurd rfl hh
      · rw [show ((m + 1 : Nat) : Int) + (-1) = ((m + 1 : Nat) : Int) - ((1 : Nat) : Int) by omega, q_wD (by omega) (by omega), show m + 1 - 1 = m by omega]
        exact c_Md_endsAtGo hn hpb hj hjn e m (by omega) hr
theorem c_Md_endsAt {n fs a j : Nat} {PP : Nat → Nat} {P : Nat → Nat → Bool} (hn : n ≤ 8) (hpb : ∀ i j, 1 ≤ i → i ≤ n → 1 ≤ j → j ≤ n → s_pb fs PP i j = P i j) (hj : 1 ≤ j) (hjn : j ≤ n) {d : qD} {b : Nat} (e0 : d.1 t_Md 0 10 = (n : Int)) (e : s_Bx n fs PP d) (eC : ∀ i j, 1 ≤ i → i ≤ n → 1 ≤ j → j ≤ n → P i j = true → d.2 t_mCome 0 (9 * i + j) = s_fw P a i j) : q_Ev m_Md_endsAt 0 [q_r t_Md 0, q_i (j : Int), none] [] (q_mk d b) (some (.inr (.inl (s_fw P a n j))), q_mk d b) := by
  refine e_Md_endsAt_0 ?_
  rw [e0]
  refine c_Md_endsAtGo hn hpb hj hjn e n (Nat.le_refl _) (e_Md_endsAt_12 ⟨fun hh => ?_, fun hh => ?_⟩)
  · have h0 : s_ptr (fun h => P h j) n ≠ 0 := by omega
    have hle := s_ptr_le (fun h => P h j) n
    have hp := s_ptr_p (fun h => P h j) n h0
    rw [s_9 (by omega) (by omega), Int.toNat_natCast, eC _ j (by omega) hle hj hjn hp, ← s_ptr_fw]
    exact ⟨by omega, by omega, e_Md_endsAt_24 rfl⟩
  · have h0 : s_ptr (fun h => P h j) n = 0 := by omega
    rw [s_ptr_fw P a j n, h0]
    exact e_Md_endsAt_24 rfl
theorem c_Md_zeroCome {b : Nat} {a : Int} : ∀ (f k : Nat) (d : qD), k + f = 81 → ∃ d', q_ag [t_mCome] d d' ∧ d'.1 = d.1 ∧ ∀ r, q_Ev m_Md_laysPaths 14 [q_r t_Md 0, q_i a, q_i 1, none, none, none, none, none] [] (q_mk d' b) r → q_Ev m_Md_laysPaths 2 [q_r t_Md 0, q_i a, q_i (k : Int), none, none, none, none, none] [] (q_mk d b) r
  | 0, k, d, h => ⟨d, q_ag_refl _ _, rfl, fun r hr => e_Md_laysPaths_2 ⟨fun _ => hr, fun hh => by omega⟩⟩
  | f + 1, k, d, h => by
    obtain ⟨d', a', g, k'⟩ := c_Md_zeroCome (b := b) (a := a) f (k + 1) (q_sL d t_mCome 0 k 0) (by omega)
    refine ⟨d', q_ag_tr (q_ag_sL (by decide)) a', g, fun r hr => e_Md_laysPaths_2 ⟨fun hh => by omega, fun _ => ⟨by omega, by omega, ?_⟩⟩⟩
    rw [q_wS (by omega), Int.toNat_natCast]
    exact k' r hr
theorem s_fw_at {P : Nat → Nat → Bool} {a i j : Nat} (h : P (i + 1) j = true) : s_fw P a (i + 1) j = (if i + 1 = a then 1 else 0) + s_U (s_cut (P (i + 1)) (s_fw P a i)) j := if_pos h
theorem c_Md_pathsRow {n fs a i : Nat} {PP : Nat → Nat} {P : Nat → Nat → Bool} (hn : n ≤ 8) (hpb : ∀ i j, 1 ≤ i → i ≤ n → 1 ≤ j → j ≤ n → s_pb fs PP i j = P i j) (hi : 1 ≤ i) (hin : i ≤ n) {b : Nat} : ∀ (f j : Nat) (d : qD), j + f = n + 1 → 1 ≤ j → d.1 t_Md 0 10 = (n : Int) → s_Bx n fs PP d → (∀ i' j', 1 ≤ i' → i' ≤ n → 1 ≤ j' → j' ≤ n → (i' < i ∨ (i' = i ∧ j' < j)) → P i' j' = true → d.2 t_mCome 0 (9 * i' + j') = s_fw P a i' j') → ∃ d', q_ag [t_mCome] d d' ∧ d'.1 = d.1 ∧ (∀ i' j', 1 ≤ i' → i' ≤ n → 1 ≤ j' → j' ≤ n → i' < i + 1 → P i' j' = true → d'.2 t_mCome 0 (9 * i' + j') = s_fw P a i' j') ∧ ∀ r, q_Ev m_Md_laysPaths 14 [q_r t_Md 0, q_i (a : Int), q_i ((i + 1 : Nat) : Int), none, none, none, none, none] [] (q_mk d' b) r → q_Ev m_Md_laysPaths 20 [q_r t_Md 0, q_i (a : Int), q_i (i : Int), q_i (j : Int), none, none, none, none] [] (q_mk d b) r
  | 0, j, d, hf, h1, e0, e, eC => by
    refine ⟨d, q_ag_refl _ _, rfl, fun i' j' a1 a2 a3 a4 a5 => eC i' j' a1 a2 a3 a4 (by omega), fun r hr => e_Md_laysPaths_20 ⟨fun _ => ?_, fun hh => ?_⟩⟩
    · rw [q_wS (by omega)]; exact hr
    · rw [e0] at hh; omega
  | f + 1, j, d, hf, h1, e0, e, eC => by
    have ew : q_w ((j : Int) + 1) = ((j + 1 : Nat) : Int) := q_wS (by omega)
    by_cases hp : P i j = true
    · obtain ⟨i1, rfl⟩ : ∃ k, i = k + 1 := ⟨i - 1, by omega⟩
      have hx := s_fw_at (a := a) hp
      obtain ⟨j1, rfl⟩ : ∃ k, j = k + 1 := ⟨j - 1, by omega⟩
      have hs : s_U (s_cut (P (i1 + 1)) (s_fw P a i1)) (j1 + 1) = s_U (s_cut (P (i1 + 1)) (s_fw P a i1)) j1 + s_fw P a i1 (j1 + 1) := by
        show _ + s_cut _ _ (j1 + 1) = _
        rw [show s_cut (P (i1 + 1)) (s_fw P a i1) (j1 + 1) = s_fw P a i1 (j1 + 1) from if_pos hp]
      rw [hs] at hx
      obtain ⟨d', a', g1, r1, k⟩ := c_Md_pathsRow (a := a) hn hpb hi hin (b := b) f (j1 + 1 + 1) (q_sL d t_mCome 0 (9 * (i1 + 1) + (j1 + 1)) (s_fw P a (i1 + 1) (j1 + 1))) (by omega) (by omega) e0 e (fun i' j' a1 a2 a3 a4 a5 a6 => by
        rw [q_sL_at]
        by_cases hq : 9 * i' + j' = 9 * (i1 + 1) + (j1 + 1)
        · have : i' = i1 + 1 ∧ j' = j1 + 1 := by omega
          rw [if_pos hq, this.1, this.2]
        · rw [if_neg hq]; exact eC i' j' a1 a2 a3 a4 (by omega) a6)
      have right := c_Md_plusToRight hn hpb hi hin (b := b) e j1 (by omega)
      have above := c_Md_plusAbove hn hpb h1 (by omega) (b := b) e i1 (by omega)
      have fin : q_Ev m_Md_laysPaths 14 [q_r t_Md 0, q_i (a : Int), q_i ((i1 + 1 + 1 : Nat) : Int), none, none, none, none, none] [] (q_mk d' b) = q_Ev m_Md_laysPaths 14 [q_r t_Md 0, q_i (a : Int), q_i ((i1 + 1 + 1 : Nat) : Int), none, none, none, none, none] [] (q_mk d' b) := rfl
      refine ⟨d', q_ag_tr (q_ag_sL (by decide)) a', g1, r1, fun r hr => ?_⟩
      have e78 : ∀ u v : Int64, u + v = s_fw P a (i1 + 1) (j1 + 1) → q_Ev m_Md_laysPaths 78 [q_r t_Md 0, q_i (a : Int), q_i ((i1 + 1 : Nat) : Int), q_i ((j1 + 1 : Nat) : Int), none, none, none, none] [.inr (.inl v), .inr (.inl u), .inl (q_w ((q_w (9 * ((i1 + 1 : Nat) : Int))) + ((j1 + 1 : Nat) : Int))), .inr (.inr (t_mCome, 0))] (q_mk d b) r := by
        intro u v huv
        rw [s_9 (by omega) (by omega)]
        refine e_Md_laysPaths_78 ⟨by omega, by omega, e_Md_laysPaths_80 ?_⟩
        rw [ew, Int.toNat_natCast, huv]
        exact k r hr
      have e57 : ∀ u : Int64, u = (if i1 + 1 = a then 1 else 0) + s_U (s_cut (P (i1 + 1)) (s_fw P a i1)) j1 → q_Ev m_Md_laysPaths 57 [q_r t_Md 0, q_i (a : Int), q_i ((i1 + 1 : Nat) : Int), q_i ((j1 + 1 : Nat) : Int), none, q_i (s_ptr (fun h => P h (j1 + 1)) i1 : Int), none, none] [.inr (.inl u)] (q_mk d b) r := by
        intro u hu
        have hle := s_ptr_le (fun h => P h (j1 + 1)) i1
        refine e_Md_laysPaths_57 ⟨fun hh => ?_, fun hh => ?_⟩
        · refine e78 u 0 ?_
          have h0 : s_ptr (fun h => P h (j1 + 1)) i1 = 0 := by omega
          have hz : s_fw P a i1 (j1 + 1) = 0 := by rw [s_ptr_fw P a (j1 + 1) i1, h0]; rfl
          rw [hx, hu, hz]; grind
        · have h0 : s_ptr (fun h => P h (j1 + 1)) i1 ≠ 0 := by omega
          have hpp := s_ptr_p _ _ h0
          rw [s_9 (by omega) (by omega), Int.toNat_natCast, eC _ (j1 + 1) (by omega) (by omega) h1 (by omega) (by omega) hpp, ← s_ptr_fw]
          refine ⟨by omega, by omega, e78 u _ ?_⟩
          rw [hx, hu]; grind
      refine e_Md_laysPaths_20 ⟨fun hh => by rw [e0] at hh; omega, fun _ => ⟨_, _, c_Md_isPlus hn hi hin h1 (by omega) e, ?_⟩⟩
      rw [hpb _ _ hi hin h1 (by omega), hp]
      refine e_Md_laysPaths_28 ⟨fun _ => ⟨_, _, e_Md_plusToRight_0 (by rw [show ((j1 + 1 : Nat) : Int) - 1 = ((j1 + 1 : Nat) : Int) - ((1 : Nat) : Int) by omega, q_wD (by omega) (by omega), show j1 + 1 - 1 = j1 by omega]; exact right), e_Md_laysPaths_34 ⟨q_i (s_ptr (fun h => P h (j1 + 1)) i1 : Int), q_mk d b, e_Md_plusAbove_0 (by rw [show ((i1 + 1 : Nat) : Int) - 1 = ((i1 + 1 : Nat) : Int) - ((1 : Nat) : Int) by omega, q_wD (by omega) (by omega), show i1 + 1 - 1 = i1 by omega]; exact above), ?_⟩⟩, fun hh => absurd hh (by decide)⟩
      have hU := s_ptr_U (P (i1 + 1)) (s_fw P a i1) j1
      have hle := s_ptr_le (P (i1 + 1)) j1
      refine e_Md_laysPaths_39 ⟨fun hh => ?_, fun hh => ?_⟩
      · have h0 : s_ptr (P (i1 + 1)) j1 = 0 := by omega
        rw [h0] at hU
        have hz : s_U (s_cut (P (i1 + 1)) (s_fw P a i1)) 0 = 0 := rfl
        rw [hz] at hU
        refine ⟨fun hh2 => e57 0 ?_, fun hh2 => e57 1 ?_⟩
        · rw [if_neg (by omega), hU]; rfl
        · rw [if_pos (by omega), hU]; rfl
      · have h0 : s_ptr (P (i1 + 1)) j1 ≠ 0 := by omega
        have hpp := s_ptr_p _ _ h0
        rw [s_9 (by omega) (by omega), Int.toNat_natCast, eC (i1 + 1) _ (by omega) (by omega) (by omega) (by omega) (by omega) hpp]
        refine ⟨by omega, by omega, e57 _ ?_⟩
        rw [s_fw_at hpp, ← hU]
    · obtain ⟨d', a', g1, r1, k⟩ := c_Md_pathsRow (a := a) hn hpb hi hin (b := b) f (j + 1) d (by omega) (by omega) e0 e (fun i' j' a1 a2 a3 a4 a5 a6 => by
        by_cases hq : i' = i ∧ j' = j
        · rw [hq.1, hq.2] at a6; exact absurd a6 hp
        · exact eC i' j' a1 a2 a3 a4 (by omega) a6)
      refine ⟨d', a', g1, r1, fun r hr => e_Md_laysPaths_20 ⟨fun hh => by rw [e0] at hh; omega, fun _ => ⟨_, _, c_Md_isPlus hn hi hin h1 (by omega) e, ?_⟩⟩⟩
      rw [hpb _ _ hi hin h1 (by omega), Bool.eq_false_iff.mpr hp]
      refine e_Md_laysPaths_28 ⟨fun hh => absurd rfl hh, fun _ => e_Md_laysPaths_80 ?_⟩
      rw [ew]; exact k r hr
theorem c_Md_pathsRows {n fs a : Nat} {PP : Nat → Nat} {P : Nat → Nat → Bool} (hn : n ≤ 8) (hpb : ∀ i j, 1 ≤ i → i ≤ n → 1 ≤ j → j ≤ n → s_pb fs PP i j = P i j) {b : Nat} : ∀ (f i : Nat) (d : qD), i + f = n + 1 → 1 ≤ i → d.1 t_Md 0 10 = (n : Int) → s_Bx n fs PP d → (∀ i' j', 1 ≤ i' → i' ≤ n → 1 ≤ j' → j' ≤ n → i' < i → P i' j' = true → d.2 t_mCome 0 (9 * i' + j') = s_fw P a i' j') → ∃ d', q_Ev m_Md_laysPaths 14 [q_r t_Md 0, q_i (a : Int), q_i (i : Int), none, none, none, none, none] [] (q_mk d b) (none, q_mk d' b) ∧ q_ag [t_mCome] d d' ∧ d'.1 = d.1 ∧ (∀ i' j', 1 ≤ i' → i' ≤ n → 1 ≤ j' → j' ≤ n → P i' j' = true → d'.2 t_mCome 0 (9 * i' + j') = s_fw P a i' j')
  | 0, i, d, hf, h1, e0, e, eC => by
    refine ⟨d, e_Md_laysPaths_14 ⟨fun _ => rfl, fun hh => ?_⟩, q_ag_refl _ _, rfl, fun i' j' a1 a2 a3 a4 => eC i' j' a1 a2 a3 a4 (by omega)⟩
    rw [e0] at hh; omega
  | f + 1, i, d, hf, h1, e0, e, eC => by
    obtain ⟨d1, a1, g1, r1, k1⟩ := c_Md_pathsRow (a := a) hn hpb h1 (by omega) (b := b) n 1 d (by omega) (by omega) e0 e (fun i' j' x1 x2 x3 x4 x5 => eC i' j' x1 x2 x3 x4 (by omega))
    obtain ⟨d2, v2, a2, g2, r2⟩ := c_Md_pathsRows (a := a) hn hpb (b := b) f (i + 1) d1 (by omega) (by omega) (by rw [g1]; exact e0) (by unfold s_Bx; rw [g1]; exact e) r1
    refine ⟨d2, e_Md_laysPaths_14 ⟨fun hh => ?_, fun _ => k1 _ v2⟩, q_ag_tr a1 a2, by rw [g2, g1], r2⟩
    rw [e0] at hh; omega
theorem c_Md_laysPaths {n fs a : Nat} {PP : Nat → Nat} {P : Nat → Nat → Bool} (hn : n ≤ 8) (hpb : ∀ i j, 1 ≤ i → i ≤ n → 1 ≤ j → j ≤ n → s_pb fs PP i j = P i j) {d : qD} {b : Nat} (e0 : d.1 t_Md 0 10 = (n : Int)) (e : s_Bx n fs PP d) : ∃ d', q_Ev m_Md_laysPaths 0 [q_r t_Md 0, q_i (a : Int), none, none, none, none, none, none] [] (q_mk d b) (none, q_mk d' b) ∧ q_ag [t_mCome] d d' ∧ d'.1 = d.1 ∧ (∀ i' j', 1 ≤ i' → i' ≤ n → 1 ≤ j' → j' ≤ n → P i' j' = true → d'.2 t_mCome 0 (9 * i' + j') = s_fw P a i' j') := by
  obtain ⟨d1, a1, g1, k1⟩ := c_Md_zeroCome (b := b) (a := (a : Int)) 81 0 d rfl
  obtain ⟨d2, v2, a2, g2, r2⟩ := c_Md_pathsRows (a := a) hn hpb (b := b) n 1 d1 (by omega) (by omega) (by rw [g1]; exact e0) (by unfold s_Bx; rw [g1]; exact e) (fun i' j' x1 x2 x3 x4 x5 => by omega)
  exact ⟨d2, e_Md_laysPaths_0 (k1 _ v2), q_ag_tr a1 a2, by rw [g2, g1], r2⟩
