/-! ways: the class whole -/
theorem s_pp_from {M : Nat → Nat → Int64} {rs : List Nat} {i done S : Nat} (hM : ∀ j, j ≤ i → M i j = 0) : s_pp M rs i done (i + 1) S = s_pp M rs i done 1 S := by
  refine s_SL_congr _ (fun j hj => ?_)
  have := (s_lab_mem.mp hj).1
  by_cases h1 : s_wo S j < done ∨ (s_wo S j = done ∧ j < 1)
  · rw [if_pos h1, if_pos (by omega)]
  · rw [if_neg h1]
    by_cases h2 : s_wo S j < done ∨ (s_wo S j = done ∧ j < i + 1)
    · rw [if_pos h2]
      unfold s_cc s_sg
      rw [hM j (by omega), Int64.mul_zero]
      split <;> rfl
    · rw [if_neg h2]
theorem c_Di_expandGo {c n i to : Nat} {M : Nat → Nat → Int64} {rs : List Nat} (hn : n ≤ 8) (hto : to < 2 ^ n) (hi1 : 1 ≤ i) (hi : i ≤ n) (hM : ∀ j, j ≤ i → M i j = 0) {b : Nat} : ∀ (f done : Nat) (d : qD), done + f = to + 1 → d.1 t_Di c 0 = (n : Int) → (∀ l, i < l → l ≤ n → q_hl to l = true → d.2 t_pathRow (9 * c + i) l = M i l) → s_mi M rs i done 1 to (d.2 t_minors c) → ∃ d', q_Ev m_Di_expandRow 2 [q_r t_Di c, q_i (i : Int), q_i (to : Int), q_i (rs.length : Int), q_i (done : Int), none, none, none, none] [] (q_mk d b) (none, q_mk d' b) ∧ q_ag [t_minors] d d' ∧ d'.1 = d.1 ∧ s_mi M rs i (to + 1) 1 to (d'.2 t_minors c)
  | 0, done, d, hf, e0, eP, em => ⟨d, e_Di_expandRow_2 ⟨fun _ => rfl, fun hh => by omega⟩, q_ag_refl _ _, rfl, by rw [← show done = to + 1 by omega]; exact em⟩
  | f + 1, done, d, hf, e0, eP, em => by
    have hp8 := s_p8 hn
    have hto8 : to < 256 := by omega
    have hdl : done < 256 := by omega
    have ed : q_and (done : Int) (q_xor (to : Int) (-1)) = ((q_dif done to : Nat) : Int) := q_andn_nat (by omega) (by omega)
    have ew : q_w ((done : Int) + 1) = ((done + 1 : Nat) : Int) := q_wS (by omega)
    have sub : ∀ S j, q_dif S to = 0 → j ∈ s_lab S → q_dif (s_wo S j) to = 0 := by
      intro S j hS hj
      have hSl : S < 256 := Nat.lt_of_le_of_lt (s_sub_lt hto8 hS) hto8
      have m := s_lab_mem.mp hj
      refine s_sub_of (s_wo_lt hSl) (fun l l1 l2 hl => ?_)
      rw [s_wo_hl m.1 l1, Bool.and_eq_true] at hl
      exact s_sub_hl hS hl.1
    have siz : ∀ S j, q_dif S to = 0 → j ∈ s_lab S → q_pc (s_wo S j) + 1 = q_pc S := by
      intro S j hS hj
      have m := s_lab_mem.mp hj
      exact s_pc_wo (Nat.lt_of_le_of_lt (s_sub_lt hto8 hS) hto8) m.1 m.2.1 m.2.2
    have skip : (q_dif done to = 0 → q_pc done ≠ rs.length) → ∃ d', q_Ev m_Di_expandRow 72 [q_r t_Di c, q_i (i : Int), q_i (to : Int), q_i (rs.length : Int), q_i (done : Int), none, none, none, none] [] (q_mk d b) (none, q_mk d' b) ∧ q_ag [t_minors] d d' ∧ d'.1 = d.1 ∧ s_mi M rs i (to + 1) 1 to (d'.2 t_minors c) := by
      intro hx
      obtain ⟨d', v, a, g1, r1⟩ := c_Di_expandGo (M := M) (rs := rs) hn hto hi1 hi hM (b := b) f (done + 1) d (by omega) e0 eP (s_mi_of em (fun S hS hpS => s_pp_next (fun j hj hw _ => by
        exfalso
        have h1 := sub S j hS hj
        have h2 := siz S j hS hj
        rw [hw] at h1 h2
        exact hx h1 (by omega)) (by omega)))
      exact ⟨d', e_Di_expandRow_72 (by rw [ew]; exact v), a, g1, r1⟩
    by_cases h1 : q_dif done to = 0
    · by_cases h2 : q_pc done = rs.length
      · obtain ⟨d1, a1, g1, r1, k1⟩ := c_Di_expandIn (M := M) (rs := rs) hn hto hi h1 h2 (b := b) (n - i) (i + 1) d (by omega) (by omega) (by omega) e0 eP (s_mi_of em (fun S hS hpS => s_pp_from hM))
        obtain ⟨d2, v2, a2, g2, r2⟩ := c_Di_expandGo (M := M) (rs := rs) hn hto hi1 hi hM (b := b) f (done + 1) d1 (by omega) (by rw [g1]; exact e0) (fun l l1 l2 l3 => by rw [a1.2 t_pathRow (by decide)]; exact eP l l1 l2 l3) (s_mi_of r1 (fun S hS hpS => s_pp_next (fun j hj hw hjn => by
          exfalso
          have m := s_lab_mem.mp hj
          have := s_sub_hl hS m.2.2
          rw [s_hln hto (by omega)] at this
          exact absurd this (by decide)) (by omega)))
        refine ⟨d2, e_Di_expandRow_2 ⟨fun hh => by omega, fun _ => ⟨fun hh => ?_, fun _ => ⟨_, _, c_J_bitCount hdl, e_Di_expandRow_13 ⟨fun hh => ?_, fun _ => ?_⟩⟩⟩⟩, q_ag_tr a1 a2, by rw [g2, g1], r2⟩
        · rw [ed, h1] at hh; exact absurd rfl hh
        · rw [h2] at hh; exact absurd rfl hh
        · rw [q_wS (by omega)]
          exact k1 _ (e_Di_expandRow_72 (by rw [ew]; exact v2))
      · obtain ⟨d', v, a, g1, r1⟩ := skip (fun _ => h2)
        refine ⟨d', e_Di_expandRow_2 ⟨fun hh => by omega, fun _ => ⟨fun hh => v, fun _ => ⟨_, _, c_J_bitCount hdl, e_Di_expandRow_13 ⟨fun hh => v, fun hh => ?_⟩⟩⟩⟩, a, g1, r1⟩
        exact absurd (Int.ofNat_inj.mp hh) h2
    · obtain ⟨d', v, a, g1, r1⟩ := skip (fun hh => absurd hh h1)
      refine ⟨d', e_Di_expandRow_2 ⟨fun hh => by omega, fun _ => ⟨fun hh => v, fun hh => ?_⟩⟩, a, g1, r1⟩
      rw [ed] at hh
      exact absurd (Int.ofNat_inj.mp hh) h1
theorem c_Di_expandRow {c n i to : Nat} {M : Nat → Nat → Int64} {rs : List Nat} (hn : n ≤ 8) (hto : to < 2 ^ n) (hi1 : 1 ≤ i) (hi : i ≤ n) (hM : ∀ j, j ≤ i → M i j = 0) {b : Nat} {d : qD} (e0 : d.1 t_Di c 0 = (n : Int)) (eP : ∀ l, i < l → l ≤ n → q_hl to l = true → d.2 t_pathRow (9 * c + i) l = M i l) (em : s_mi M rs i 0 1 to (d.2 t_minors c)) : ∃ d', q_Ev m_Di_expandRow 0 [q_r t_Di c, q_i (i : Int), q_i (to : Int), q_i (rs.length : Int), none, none, none, none, none] [] (q_mk d b) (none, q_mk d' b) ∧ q_ag [t_minors] d d' ∧ d'.1 = d.1 ∧ ∀ i', s_mi M (i :: rs) i' 0 1 to (d'.2 t_minors c) := by
  have hp8 := s_p8 hn
  obtain ⟨d', v, a, g1, r1⟩ := c_Di_expandGo (M := M) (rs := rs) hn hto hi1 hi hM (b := b) (to + 1) 0 d (by omega) e0 eP em
  exact ⟨d', e_Di_expandRow_0 v, a, g1, fun i' => s_mi_rs (by omega) (by omega) (by omega) r1⟩
def s_labn (n S : Nat) : List Nat := (List.range' 1 n).filter (q_hl S)
theorem s_labn_s (n S : Nat) : s_labn (n + 1) S = if q_hl S (n + 1) then s_labn n S ++ [n + 1] else s_labn n S := by
  unfold s_labn
  rw [List.range'_concat, List.filter_append, show 1 + 1 * n = n + 1 by omega]
  by_cases h : q_hl S (n + 1) = true
  · rw [if_pos h]; simp [h]
  · rw [if_neg h]; simp [h]
theorem s_lab_n {n S : Nat} (hn : n ≤ 8) (hS : S < 2 ^ n) : s_lab S = s_labn n S := by
  have : ∀ g, n + g = 8 → s_labn (n + g) S = s_labn n S := by
    intro g
    have gen : ∀ g, n + g ≤ 8 → s_labn (n + g) S = s_labn n S := by
      intro g
      induction g with
      | zero => intro _; rfl
      | succ g ih =>
        intro hg
        show s_labn (n + g + 1) S = _
        rw [s_labn_s, s_hln hS (by omega), if_neg (by decide), ih (by omega)]
    exact fun h => gen g (by omega)
  have h2 := this (8 - n) (by omega)
  rw [show n + (8 - n) = 8 by omega] at h2
  exact h2
theorem c_Di_waysRows {c n fr to : Nat} {M : Nat → Nat → Int64} (hn : n ≤ 8) (hf : fr < 2 ^ n) (hto : to < 2 ^ n) (hM : ∀ i j, i ≤ n → j ≤ i → M i j = 0) (hpc : q_pc to = (s_labn n fr).length) {b : Nat} : ∀ (f i : Nat) (d : qD), i + f = n → d.1 t_Di c 0 = (n : Int) → (∀ k l, 1 ≤ k → k ≤ n → 1 ≤ l → l ≤ n → q_hl to l = true → d.2 t_pathRow (9 * c + k) l = M k l) → s_mi M (s_labn i fr).reverse (i + 1) 0 1 to (d.2 t_minors c) → ∃ d', q_Ev m_Di_waysTo 42 [q_r t_Di c, none, q_i (fr : Int), q_i (to : Int), q_i ((s_labn i fr).length : Int), q_i ((i + 1 : Nat) : Int)] [] (q_mk d b) (some (.inr (.inl (q_labs (s_DL M (s_labn n fr).reverse (s_lab to))))), q_mk d' b) ∧ q_ag [t_minors] d d' ∧ d'.1 = d.1
  | 0, i, d, hfi, e0, eP, em => by
    have hp8 := s_p8 hn
    have hi : i = n := by omega
    subst hi
    have hv := (em to (by unfold q_dif; rw [Nat.and_self, Nat.xor_self])).1 (by rw [List.length_reverse]; exact hpc)
    refine ⟨d, e_Di_waysTo_42 ⟨fun _ => ⟨by omega, by omega, ?_⟩, fun hh => ?_⟩, q_ag_refl _ _, rfl⟩
    · rw [Int.toNat_natCast, hv]
    · rw [e0] at hh; omega
  | f + 1, i, d, hfi, e0, eP, em => by
    have hp8 := s_p8 hn
    by_cases hl : q_hl fr (i + 1) = true
    · obtain ⟨d1, v1, a1, g1, r1⟩ := c_Di_expandRow (c := c) (M := M) (rs := (s_labn i fr).reverse) hn hto (by omega : 1 ≤ i + 1) (by omega) (fun j hj => hM (i + 1) j (by omega) hj) (b := b) (d := d) e0 (fun l l1 l2 l3 => eP (i + 1) l (by omega) (by omega) (by omega) l2 l3) em
      have el : s_labn (i + 1) fr = s_labn i fr ++ [i + 1] := by rw [s_labn_s, if_pos hl]
      obtain ⟨d2, v2, a2, g2⟩ := c_Di_waysRows (M := M) hn hf hto hM hpc (b := b) f (i + 1) d1 (by omega) (by rw [g1]; exact e0) (fun k l k1 k2 l1 l2 l3 => by rw [a1.2 t_pathRow (by decide)]; exact eP k l k1 k2 l1 l2 l3) (by
        rw [el, List.reverse_append]
        exact r1 (i + 1 + 1))
      rw [List.length_reverse] at v1
      have hlen : (s_labn i fr).length ≤ i := by
        unfold s_labn
        refine Nat.le_trans (List.length_filter_le _ _) ?_
        rw [List.length_range']
        exact Nat.le_refl _
      refine ⟨d2, e_Di_waysTo_42 ⟨fun hh => ?_, fun _ => ⟨_, _, c_Se_holds (by omega) (by omega) (by omega), e_Di_waysTo_49 ⟨fun hh => ?_, fun _ => ⟨_, _, v1, e_Di_waysTo_55 (e_Di_waysTo_56 ?_)⟩⟩⟩⟩, q_ag_tr a1 a2, by rw [g2, g1]⟩
      · rw [e0] at hh; omega
      · rw [hl] at hh; exact absurd hh (by decide)
      · rw [q_wS (by omega), q_wS (by omega)]
        rw [el, List.length_append] at v2
        exact v2
    · have el : s_labn (i + 1) fr = s_labn i fr := by rw [s_labn_s, if_neg hl]
      obtain ⟨d2, v2, a2, g2⟩ := c_Di_waysRows (M := M) hn hf hto hM hpc (b := b) f (i + 1) d (by omega) e0 eP (by
        rw [el]
        refine s_mi_of (fun S hS => ?_) (fun S hS hp => rfl)
        have h := em S hS
        refine ⟨h.1, fun hp => ?_, h.2.2⟩
        rw [h.2.1 hp, s_pp_zero (by omega), s_pp_zero (by omega)])
      rw [el] at v2
      refine ⟨d2, e_Di_waysTo_42 ⟨fun hh => ?_, fun _ => ⟨_, _, c_Se_holds (by omega) (by omega) (by omega), e_Di_waysTo_49 ⟨fun hh => e_Di_waysTo_56 ?_, fun hh => ?_⟩⟩⟩, a2, g2⟩
      · rw [e0] at hh; omega
      · rw [q_wS (by omega)]; exact v2
      · rw [Bool.eq_false_iff.mpr hl] at hh; exact absurd rfl hh
theorem c_Di_waysCols {c n fr to : Nat} {R : Nat → Nat} (hn : n ≤ 8) (hto : to < 2 ^ n) (hR : ∀ i, 1 ≤ i → i ≤ n → R i < 256) (hP : ∀ i j, q_hl (R i) j = true → i < j) {b : Nat} : ∀ (f j : Nat) (d : qD), j + f = n + 1 → 1 ≤ j → s_Dg c n R d → (∀ k l, 1 ≤ k → k ≤ n → 1 ≤ l → l < j → q_hl to l = true → d.2 t_pathRow (9 * c + k) l = s_pt (fun a l => q_hl (R a) l) n k l) → ∃ d', q_ag [t_below, t_pathRow] d d' ∧ d'.1 = d.1 ∧ (∀ k l, 1 ≤ k → k ≤ n → 1 ≤ l → l ≤ n → q_hl to l = true → d'.2 t_pathRow (9 * c + k) l = s_pt (fun a l => q_hl (R a) l) n k l) ∧ ∀ r v w2, q_Ev m_J_fill2 0 [q_r t_minors c, some (.inr (.inl 0)), none, none, none] [] (q_mk d' b) (v, w2) → q_Ev m_Di_waysTo 33 [q_r t_Di c, none, q_i (fr : Int), q_i (to : Int), none, none] (v.toList ++ []) w2 r → q_Ev m_Di_waysTo 16 [q_r t_Di c, none, q_i (fr : Int), q_i (to : Int), q_i (j : Int), none] [] (q_mk d b) r
  | 0, j, d, hf, h1, eD, eP => by
    refine ⟨d, q_ag_refl _ _, rfl, fun k l k1 k2 l1 l2 l3 => eP k l k1 k2 l1 (by omega) l3, fun r v w2 v1 v2 => e_Di_waysTo_16 ⟨fun _ => ⟨_, _, v1, v2⟩, fun hh => ?_⟩⟩
    rw [eD.1] at hh; omega
  | f + 1, j, d, hf, h1, eD, eP => by
    have hp8 := s_p8 hn
    by_cases hl : q_hl to j = true
    · obtain ⟨d1, v1, a1, g1, r1, o1⟩ := c_Di_countPathsTo (e := j) hn hR hP (by omega) (b := b) eD
      obtain ⟨d2, a2, g2, r2, k2⟩ := c_Di_waysCols (fr := fr) hn hto hR hP (b := b) f (j + 1) d1 (by omega) (by omega) (by unfold s_Dg; rw [g1]; exact eD) (fun k l k1 k2 l1 l2 l3 => by
        by_cases hq : l = j
        · subst hq; exact r1 k k1 k2
        · rw [o1 _ l hq]; exact eP k l k1 k2 l1 (by omega) l3)
      refine ⟨d2, q_ag_tr a1 a2, by rw [g2, g1], r2, fun r v w2 y1 y2 => e_Di_waysTo_16 ⟨fun hh => ?_, fun _ => ⟨_, _, c_Se_holds (by omega) h1 (by omega), e_Di_waysTo_23 ⟨fun hh => ?_, fun _ => ⟨_, _, v1, e_Di_waysTo_27 ?_⟩⟩⟩⟩⟩
      · rw [eD.1] at hh; omega
      · rw [hl] at hh; exact absurd hh (by decide)
      · rw [q_wS (by omega)]; exact k2 r v w2 y1 y2
    · obtain ⟨d2, a2, g2, r2, k2⟩ := c_Di_waysCols (fr := fr) hn hto hR hP (b := b) f (j + 1) d (by omega) (by omega) eD (fun k l k1 k2 l1 l2 l3 => by
        by_cases hq : l = j
        · subst hq; exact absurd l3 hl
        · exact eP k l k1 k2 l1 (by omega) l3)
      refine ⟨d2, a2, g2, r2, fun r v w2 y1 y2 => e_Di_waysTo_16 ⟨fun hh => ?_, fun _ => ⟨_, _, c_Se_holds (by omega) h1 (by omega), e_Di_waysTo_23 ⟨fun hh => e_Di_waysTo_27 ?_, fun hh => ?_⟩⟩⟩⟩
      · rw [eD.1] at hh; omega
      · rw [q_wS (by omega)]; exact k2 r v w2 y1 y2
      · rw [Bool.eq_false_iff.mpr hl] at hh; exact absurd rfl hh
theorem s_dif_pc {a s : Nat} (h : q_pc a = q_pc s) : q_pc (q_dif a s) = q_pc (q_dif s a) := by
  have one : ∀ x y : Bool, (x && !y).toNat + y.toNat = (y && !x).toNat + x.toNat := by decide
  unfold q_pc at *
  simp only [q_dif_bit]
  have h0 := one (a.testBit 0) (s.testBit 0)
  have h1 := one (a.testBit 1) (s.testBit 1)
  have h2 := one (a.testBit 2) (s.testBit 2)
  have h3 := one (a.testBit 3) (s.testBit 3)
  have h4 := one (a.testBit 4) (s.testBit 4)
  have h5 := one (a.testBit 5) (s.testBit 5)
  have h6 := one (a.testBit 6) (s.testBit 6)
  have h7 := one (a.testBit 7) (s.testBit 7)
  omega
theorem c_Di_waysTo {c n fi x : Nat} {R : Nat → Nat} (hn : n ≤ 8) (hfi : fi < 2 ^ n) (hx : x < 2 ^ n) (hpc : q_pc fi = q_pc x) (hR : ∀ i, 1 ≤ i → i ≤ n → R i < 256) (hP : ∀ i j, q_hl (R i) j = true → i < j) {d : qD} {b : Nat} (eD : s_Dg c n R d) (e1 : d.1 t_Di c 1 = (fi : Int)) : ∃ d', q_Ev m_Di_waysTo 0 [q_r t_Di c, q_i (x : Int), none, none, none, none] [] (q_mk d b) (some (.inr (.inl (q_labs (s_DL (s_pt (fun a l => q_hl (R a) l) n) (s_lab (q_dif fi x)).reverse (s_lab (q_dif x fi)))))), q_mk d' b) ∧ q_ag [t_below, t_pathRow, t_minors] d d' ∧ d'.1 = d.1 := by
  have hp8 := s_p8 hn
  have h1 : q_dif fi x < 2 ^ n := q_dif_lt hfi
  have h2 : q_dif x fi < 2 ^ n := q_dif_lt hx
  have ea : q_and (fi : Int) (q_xor (x : Int) (-1)) = ((q_dif fi x : Nat) : Int) := q_andn_nat (by omega) (by omega)
  have eb : q_and (x : Int) (q_xor (fi : Int) (-1)) = ((q_dif x fi : Nat) : Int) := q_andn_nat (by omega) (by omega)
  obtain ⟨d1, a1, g1, r1, k1⟩ := c_Di_waysCols (c := c) (fr := q_dif fi x) (to := q_dif x fi) hn h2 hR hP (b := b) n 1 d (by omega) (by omega) eD (fun k l k1 k2 l1 l2 _ => by omega)
  obtain ⟨d2, v2, a2, g2, r2⟩ := c_J_fill2_mi (c := c) (b := b) 256 0 d1 rfl (fun j hj => by omega)
  have hlen : q_pc (q_dif x fi) = (s_labn n (q_dif fi x)).length := by
    rw [← s_lab_n hn h1, s_lab_len _ (by omega)]
    exact (s_dif_pc hpc).symm
  have pt0 : ∀ i j, i ≤ n → j ≤ i → s_pt (fun a l => q_hl (R a) l) n i j = 0 := fun i j hi hj => s_pt_zero hP hi hj
  obtain ⟨d3, v3, a3, g3⟩ := c_Di_waysRows (c := c) (fr := q_dif fi x) (to := q_dif x fi) (M := s_pt (fun a l => q_hl (R a) l) n) hn h1 h2 pt0 hlen (b := b) n 0 (q_sL d2 t_minors c 0 1) (by omega) (by
    show d2.1 t_Di c 0 = (n : Int)
    rw [g2, g1]; exact eD.1) (fun k l k1 k2 l1 l2 l3 => by
    rw [q_sL_ne (fun hc => absurd hc.1 (by decide)), a2.2 t_pathRow (by decide)]
    exact r1 k l k1 k2 l1 l2 l3) (by
    intro S hS
    have hS8 : S < 256 := Nat.lt_of_le_of_lt (s_sub_lt (by omega) hS) (by omega)
    have z : ∀ s : Nat, s < 256 → q_pc s = 0 → s = 0 := by decide +kernel
    have z2 : q_pc 0 = 0 := rfl
    rw [q_sL_at]
    refine ⟨fun hp => ?_, fun hp => ?_, fun hp => ?_⟩
    · rw [if_pos (z S hS8 hp)]; rfl
    · rw [s_pp_zero (by omega), if_neg (fun hc => by rw [hc, z2] at hp; simp at hp), r2 S hS8]
    · rw [if_neg (fun hc => by rw [hc, z2] at hp; omega), r2 S hS8])
  rw [← s_lab_n hn h1] at v3
  refine ⟨d3, e_Di_waysTo_0 ?_, q_ag_tr (q_ag_up a1 (by decide)) (q_ag_tr (q_ag_up a2 (by decide)) (q_ag_tr (q_ag_sL (by decide)) (q_ag_up a3 (by decide)))), by rw [g3]; show d2.1 = d.1; rw [g2, g1]⟩
  rw [e1, ea, eb]
  exact k1 _ _ _ (e_J_fill2_mi_0 v2) (e_Di_waysTo_33 ⟨by decide, by decide, v3⟩)
def s_R (n : Nat) (F : Nat → Nat) (i : Nat) : Nat := if 1 ≤ i ∧ i ≤ n then s_plus n F i else 0
theorem s_R_lt {n i : Nat} {F : Nat → Nat} (hn : n ≤ 8) (h1 : 1 ≤ i) (h2 : i ≤ n) : s_R n F i < 256 := by
  unfold s_R; rw [if_pos ⟨h1, h2⟩]; exact s_plus_lt hn h2
theorem s_R_P {n : Nat} {F : Nat → Nat} (hn : n ≤ 8) (i j : Nat) (h : q_hl (s_R n F i) j = true) : i < j := by
  unfold s_R at h
  by_cases hi : 1 ≤ i ∧ i ≤ n
  · rw [if_pos hi] at h
    obtain ⟨i', rfl⟩ : ∃ k, i = k + 1 := ⟨i - 1, by omega⟩
    by_cases hj : 1 ≤ j
    · exact ((s_plus_hl hn (by omega) hj).mp h).1
    · have hj0 : j = 0 := by omega
      subst hj0
      have h' : q_hl (s_plus n F (i' + 1)) 1 = true := h
      have := ((s_plus_hl hn (by omega) (by omega)).mp h').1
      omega
  · rw [if_neg hi, show q_hl 0 j = false from Nat.zero_testBit _] at h
    exact absurd h (by decide)
def s_waysA (n : Nat) (F : Nat → Nat) (x : Int) : Int64 := if s_isSet n (q_pc (s_n1 n F n)) x then q_labs (s_DL (s_pt (fun a l => q_hl (s_R n F a) l) n) (s_lab (q_dif (s_n1 n F n) x.toNat)).reverse (s_lab (q_dif x.toNat (s_n1 n F n)))) else -1
theorem c_GC_ways {n : Nat} {F : Nat → Nat} {x : Int} (hv : s_vC n F) {d : qD} {b : Nat} (e : s_Ce n F d) : ∃ d', q_Ev m_GC_ways 0 [q_r t_GC 0, q_i x] [] (q_mk d b) (some (.inr (.inl (s_waysA n F x))), q_mk d' b) ∧ q_ag [t_below, t_pathRow, t_minors] d d' ∧ d'.1 = d.1 := by
  have hb := (s_vC_bd hv).1
  have hn := hb.1
  unfold s_waysA
  by_cases hs : s_isSet n (q_pc (s_n1 n F n)) x = true
  · rw [if_pos hs]
    have hs' := hs
    unfold s_isSet at hs'
    rw [Bool.and_eq_true, decide_eq_true_eq, beq_iff_eq] at hs'
    obtain ⟨⟨h0, hx0, hxl⟩, hpc⟩ := hs'
    obtain ⟨x', rfl⟩ : ∃ k : Nat, x = (k : Int) := ⟨x.toNat, by omega⟩
    rw [Int.toNat_natCast] at hpc ⊢
    have hfi : s_n1 n F n < 2 ^ n := by rw [← s_nk_1]; exact s_nk_ltn hb 0 (by omega)
    obtain ⟨d', v, a, g⟩ := c_Di_waysTo (c := 1) (R := s_R n F) (x := x') hn hfi (by omega) hpc.symm (fun i h1 h2 => s_R_lt hn h1 h2) (s_R_P hn) (d := d) (b := b) ⟨e.2.2.2.2.2.2.2.2.1, fun i h1 h2 => by unfold s_R; rw [if_pos ⟨h1, h2⟩]; exact e.2.2.2.2.2.2.2.2.2.2 i h1 h2⟩ e.2.2.2.2.2.2.2.2.2.1
    refine ⟨d', e_GC_ways_0 ⟨_, _, c_Ce_isSet hn e.1 e.2.1, e_GC_ways_4 ⟨fun hh => ?_, fun _ => ⟨_, _, v, e_GC_ways_10 (e_GC_ways_12 rfl)⟩⟩⟩, a, g⟩
    rw [hs] at hh; exact absurd hh (by decide)
  · rw [if_neg hs]
    refine ⟨d, e_GC_ways_0 ⟨_, _, c_Ce_isSet hn e.1 e.2.1, e_GC_ways_4 ⟨fun _ => e_GC_ways_12 rfl, fun hh => ?_⟩⟩, q_ag_refl _ _, rfl⟩
    rw [Bool.eq_false_iff.mpr hs] at hh; exact absurd rfl hh
