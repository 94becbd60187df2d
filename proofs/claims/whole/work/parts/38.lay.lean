/-! the bases of a cell: class -/
def s_bas (n : Nat) (F : Nat → Nat) (s : Nat) : Bool := s_isSet n (q_pc (s_n1 n F n)) (s : Int) && s_alN n F s n
def s_basL (n : Nat) (F : Nat → Nat) (m : Nat) : List Nat := (List.range m).filter (s_bas n F)
/-- a row that holds a list from 0 on -/
def s_lst (g : Nat → Int) (L : List Nat) : Prop := ∀ k, k < L.length → g k = ((L.getD k 0 : Nat) : Int)
theorem s_lst_snoc {g : Nat → Int} {L : List Nat} {m : Nat} (h : s_lst g L) : s_lst (q_up g L.length (m : Int)) (L ++ [m]) := by
  intro k hk
  rw [List.length_append] at hk
  by_cases hq : k = L.length
  · subst hq
    rw [q_up_at, List.getD_eq_getElem?_getD, List.getElem?_append_right (Nat.le_refl _)]
    simp
  · have hk2 : k < L.length := by simp at hk; omega
    rw [q_up_ne _ _ hq, h k hk2, List.getD_eq_getElem?_getD, List.getD_eq_getElem?_getD, List.getElem?_append_left hk2]
theorem s_basL_succ (n : Nat) (F : Nat → Nat) (m : Nat) : s_basL n F (m + 1) = if s_bas n F m then s_basL n F m ++ [m] else s_basL n F m := by
  unfold s_basL
  rw [List.range_succ, List.filter_append]
  by_cases h : s_bas n F m = true
  · rw [if_pos h, List.filter_cons_of_pos h]; rfl
  · rw [if_neg h, List.filter_cons_of_neg h]; simp
theorem s_70 : ∀ k : Nat, k ≤ 8 → ((List.range 256).filter (fun s => q_pc s == k)).length ≤ 70 := by decide +kernel
theorem q_pc_le (s : Nat) : q_pc s ≤ 8 := by
  rw [← s_pcTo_8]; exact s_pcTo_le s 8
theorem s_filter_len {p q : Nat → Bool} (h : ∀ x, p x = true → q x = true) : ∀ L : List Nat, (L.filter p).length ≤ (L.filter q).length
  | [] => Nat.le_refl 0
  | a :: L => by
    have ih := s_filter_len h L
    by_cases hp : p a = true
    · rw [List.filter_cons_of_pos hp, List.filter_cons_of_pos (h a hp)]; simp; exact ih
    · rw [List.filter_cons_of_neg hp]
      by_cases hq : q a = true
      · rw [List.filter_cons_of_pos hq]; simp; omega
      · rw [List.filter_cons_of_neg hq]; exact ih
theorem s_filter_range (p : Nat → Bool) : ∀ (f m : Nat), ((List.range m).filter p).length ≤ ((List.range (m + f)).filter p).length
  | 0, m => Nat.le_refl _
  | f + 1, m => by
    have ih := s_filter_range p f m
    rw [show m + (f + 1) = (m + f) + 1 by omega, List.range_succ, List.filter_append, List.length_append]
    omega
theorem s_basL_len (n : Nat) (F : Nat → Nat) (m : Nat) (h : m ≤ 256) : (s_basL n F m).length ≤ 70 := by
  have h1 := s_filter_range (s_bas n F) (256 - m) m
  rw [show m + (256 - m) = 256 by omega] at h1
  have h2 := s_filter_len (p := s_bas n F) (q := fun s => q_pc s == q_pc (s_n1 n F n)) (by
    intro x hx
    unfold s_bas s_isSet at hx
    simp only [Bool.and_eq_true, Int.toNat_natCast] at hx
    exact hx.1.2) (List.range 256)
  have h3 := s_70 (q_pc (s_n1 n F n)) (q_pc_le _)
  unfold s_basL
  omega
theorem q_nar3 (x : Bool) : q_nar 3 (q_b2i x) = q_b2i x := by cases x <;> decide
theorem c_Ce_layBases {n : Nat} {F : Nat → Nat} (hb : s_bd n F) {b : Nat} : ∀ (f m : Nat) (d : qD), m + f = 256 → d.1 t_Ce 0 0 = (n : Int) → d.1 t_Ce 0 1 = (q_pc (s_n1 n F n) : Int) → s_row (d.1 t_nl 0) n (s_nk n F) → d.1 t_Ce 0 3 = ((s_basL n F m).length : Int) → s_lst (d.1 t_bl 0) (s_basL n F m) → (∀ j, j < m → d.1 t_inB 0 j = q_b2i (s_bas n F j)) → ∃ d', q_Ev m_Ce_layBases 5 [some (.inr (.inr (t_Ce, 0))), some (.inl (m : Int))] [] (q_mk d b) (none, q_mk d' b) ∧ q_ag [t_Ce, t_bl, t_inB] d d' ∧ d'.1 t_Ce 0 = q_up (d.1 t_Ce 0) 3 ((s_basL n F 256).length : Int) ∧ s_lst (d'.1 t_bl 0) (s_basL n F 256) ∧ (∀ j, j < 256 → d'.1 t_inB 0 j = q_b2i (s_bas n F j)) := by
  intro f
  induction f with
  | zero =>
    intro m d hm e0 e1 eN e3 eL eB
    have : m = 256 := by omega
    subst this
    refine ⟨d, e_Ce_layBases_5 ⟨fun _ => rfl, fun h => absurd h (by decide)⟩, q_ag_refl _ _, ?_, eL, eB⟩
    funext k
    by_cases hk : k = 3
    · subst hk; rw [q_up_at, e3]
    · rw [q_up_ne _ _ hk]
  | succ f ih =>
    intro m d hm e0 e1 eN e3 eL eB
    have hn := hb.1
    have h70 := s_basL_len n F m (by omega)
    have k22 : ∃ d', q_Ev m_Ce_layBases 22 [some (.inr (.inr (t_Ce, 0))), some (.inl (m : Int))] [.inl (q_b2i (s_bas n F m)), .inl (m : Int), .inr (.inr (t_inB, 0))] (q_mk d b) (none, q_mk d' b) ∧ q_ag [t_Ce, t_bl, t_inB] d d' ∧ d'.1 t_Ce 0 = q_up (d.1 t_Ce 0) 3 ((s_basL n F 256).length : Int) ∧ s_lst (d'.1 t_bl 0) (s_basL n F 256) ∧ (∀ j, j < 256 → d'.1 t_inB 0 j = q_b2i (s_bas n F j)) := by
      have eB2 : ∀ j, j < m + 1 → q_up (d.1 t_inB 0) m (q_b2i (s_bas n F m)) j = q_b2i (s_bas n F j) := by
        intro j hj
        by_cases hq : j = m
        · subst hq; rw [q_up_at]
        · rw [q_up_ne _ _ hq]; exact eB j (by omega)
      by_cases hc : s_bas n F m = true
      · have hs : s_basL n F (m + 1) = s_basL n F m ++ [m] := by rw [s_basL_succ, if_pos hc]
        have hl := s_basL_len n F (m + 1) (by omega)
        rw [hs, List.length_append] at hl
        have hl2 : (s_basL n F m).length < 70 := by simp at hl; omega
        obtain ⟨d', v, a, r1, r2, r3⟩ := ih (m + 1) (q_sI (q_sI (q_sI d t_inB 0 m (q_b2i (s_bas n F m))) t_bl 0 (s_basL n F m).length (m : Int)) t_Ce 0 3 (((s_basL n F m).length + 1 : Nat) : Int)) (by omega)
          (by rw [q_sI_row, q_sR_row, q_up_ne _ _ (by decide), q_sI_row, q_sR_ne _ _ (by decide), q_sI_row, q_sR_ne _ _ (by decide), e0])
          (by rw [q_sI_row, q_sR_row, q_up_ne _ _ (by decide), q_sI_row, q_sR_ne _ _ (by decide), q_sI_row, q_sR_ne _ _ (by decide), e1])
          (by rw [q_sI_row, q_sR_ne _ _ (by decide), q_sI_row, q_sR_ne _ _ (by decide), q_sI_row, q_sR_ne _ _ (by decide)]; exact eN)
          (by rw [q_sI_row, q_sR_row, q_up_at, hs, List.length_append]; rfl)
          (by rw [q_sI_row, q_sR_ne _ _ (by decide), q_sI_row, q_sR_row, q_sI_row, q_sR_ne _ _ (by decide), hs]; exact s_lst_snoc eL)
          (by rw [q_sI_row, q_sR_ne _ _ (by decide), q_sI_row, q_sR_ne _ _ (by decide), q_sI_row, q_sR_row]; exact eB2)
        refine ⟨d', ?_, q_ag_tr (q_ag_tr (q_ag_tr (q_ag_sI (by decide)) (q_ag_sI (by decide))) (q_ag_sI (by decide))) a, ?_, r2, r3⟩
        · refine e_Ce_layBases_22 ⟨by omega, by omega, by omega, by omega, ?_⟩
          rw [Int.toNat_natCast, q_nar3, q_sI_row, q_sR_row, q_up_at]
          refine ⟨fun h => ?_, fun _ => ⟨fun h => ?_, fun _ => ⟨by omega, by omega, e_Ce_layBases_44 ?_⟩⟩⟩
          · rw [hc] at h; exact absurd h (by decide)
          · omega
          · rw [e3, Int.toNat_natCast, q_wS (by omega), q_wS (by omega), ← q_sI_row]
            exact v
        · rw [r1, q_sI_row, q_sR_row, q_sI_row, q_sR_ne _ _ (by decide), q_sI_row, q_sR_ne _ _ (by decide)]
          funext k
          by_cases hk : k = 3
          · subst hk; rw [q_up_at, q_up_at]
          · rw [q_up_ne _ _ hk, q_up_ne _ _ hk, q_up_ne _ _ hk]
      · have hs : s_basL n F (m + 1) = s_basL n F m := by rw [s_basL_succ, if_neg hc]
        obtain ⟨d', v, a, r1, r2, r3⟩ := ih (m + 1) (q_sI d t_inB 0 m (q_b2i (s_bas n F m))) (by omega)
          (by rw [q_sI_row, q_sR_ne _ _ (by decide), e0])
          (by rw [q_sI_row, q_sR_ne _ _ (by decide), e1])
          (by rw [q_sI_row, q_sR_ne _ _ (by decide)]; exact eN)
          (by rw [q_sI_row, q_sR_ne _ _ (by decide), hs, e3])
          (by rw [q_sI_row, q_sR_ne _ _ (by decide), hs]; exact eL)
          (by rw [q_sI_row, q_sR_row]; exact eB2)
        refine ⟨d', ?_, q_ag_tr (q_ag_sI (by decide)) a, ?_, r2, r3⟩
        · refine e_Ce_layBases_22 ⟨by omega, by omega, by omega, by omega, ?_⟩
          rw [Int.toNat_natCast, q_nar3, q_sI_row, q_sR_row, q_up_at]
          refine ⟨fun _ => e_Ce_layBases_44 ?_, fun h => ?_⟩
          · rw [q_wS (by omega), ← q_sI_row]; exact v
          · exact absurd (q_b2i_t h) hc
        · rw [r1, q_sI_row, q_sR_ne _ _ (by decide)]
    obtain ⟨d', v, a, r⟩ := k22
    refine ⟨d', ?_, a, r⟩
    refine e_Ce_layBases_5 ⟨fun h => by omega, fun _ => ⟨_, _, c_Ce_isSet hn e0 e1, ?_⟩⟩
    refine e_Ce_layBases_14 ⟨fun h => ?_, fun h => ⟨_, _, c_Ce_isAtLeastNecklace hb (by omega) e0 eN, ?_⟩⟩
    · have : s_bas n F m = false := by unfold s_bas; rw [q_b2i_f h, Bool.false_and]
      rw [this] at v
      exact e_Ce_layBases_21 v
    · have ht := q_b2i_t h
      refine e_Ce_layBases_18 ⟨fun h2 => ?_, fun h2 => ?_⟩
      · have : s_bas n F m = false := by unfold s_bas; rw [ht, Bool.true_and, q_b2i_f h2]
        rw [this] at v
        exact e_Ce_layBases_21 v
      · have : s_bas n F m = true := by unfold s_bas; rw [ht, Bool.true_and, q_b2i_t h2]
        rw [this] at v
        exact v
