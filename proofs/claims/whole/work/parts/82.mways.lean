/-! ways: the model's matrix, its answer -/
theorem s_labn_mono (S : Nat) {j : Nat} : ∀ g, (s_labn j S).length ≤ (s_labn (j + g) S).length
  | 0 => Nat.le_refl _
  | g + 1 => by
    refine Nat.le_trans (s_labn_mono S g) ?_
    show _ ≤ (s_labn (j + g + 1) S).length
    rw [s_labn_s]
    split
    · rw [List.length_append]; omega
    · exact Nat.le_refl _
theorem s_labn_le {S j n : Nat} (h : j ≤ n) : (s_labn j S).length ≤ (s_labn n S).length := by
  have := s_labn_mono S (j := j) (n - j)
  rwa [show j + (n - j) = n by omega] at this
theorem s_labn_pw (n S : Nat) : (s_labn n S).Pairwise (· < ·) := List.Pairwise.filter _ (List.pairwise_lt_range' (s := 1) (n := n))
theorem s_getD_snoc (L : List Nat) (x q : Nat) (h : q < L.length + 1) : (L ++ [x]).getD q 0 = if q < L.length then L.getD q 0 else x := by
  by_cases hq : q < L.length
  · rw [if_pos hq]
    simp [List.getD, List.getElem?_append_left hq]
  · have : q = L.length := by omega
    rw [if_neg hq, this]
    simp [List.getD]
theorem c_Md_waysCol {n i r0 g c : Nat} {P : Nat → Nat → Bool} {x4 : Int} {fs : Nat} {PP : Nat → Nat} (hn : n ≤ 8) (hpb : ∀ i j, 1 ≤ i → i ≤ n → 1 ≤ j → j ≤ n → s_pb fs PP i j = P i j) (hr : r0 < 4) (hc : c < 256) (h4 : (s_labn n c).length ≤ 4) {b : Nat} : ∀ (f j : Nat) (d : qD), j + f = n → d.1 t_Md 0 10 = (n : Int) → s_Bx n fs PP d → (∀ i' j', 1 ≤ i' → i' ≤ n → 1 ≤ j' → j' ≤ n → P i' j' = true → d.2 t_mCome 0 (9 * i' + j') = s_fw P i i' j') → (∀ q, q < (s_labn j c).length → d.2 t_mMatrix 0 (4 * r0 + q) = s_fw P i n ((s_labn j c).getD q 0)) → ∃ d', q_ag [t_mMatrix] d d' ∧ d'.1 = d.1 ∧ (∀ q, q < (s_labn n c).length → d'.2 t_mMatrix 0 (4 * r0 + q) = s_fw P i n ((s_labn n c).getD q 0)) ∧ (∀ k, k < 4 * r0 → d'.2 t_mMatrix 0 k = d.2 t_mMatrix 0 k) ∧ ∀ r, q_Ev m_Md_ways 71 [q_r t_Md 0, none, q_i (g : Int), q_i (c : Int), q_i x4, q_i ((r0 + 1 : Nat) : Int), q_i (i : Int), none, none] [] (q_mk d' b) r → q_Ev m_Md_ways 47 [q_r t_Md 0, none, q_i (g : Int), q_i (c : Int), q_i x4, q_i (r0 : Int), q_i (i : Int), q_i ((s_labn j c).length : Int), q_i ((j + 1 : Nat) : Int)] [] (q_mk d b) r
  | 0, j, d, hf, e0, e, eC, eM => by
    have hj : j = n := by omega
    subst hj
    refine ⟨d, q_ag_refl _ _, rfl, eM, fun _ _ => rfl, fun r hh => e_Md_ways_47 ⟨fun _ => ?_, fun hx => ?_⟩⟩
    · rw [q_wS (by omega)]; exact hh
    · rw [e0] at hx; omega
  | f + 1, j, d, hf, e0, e, eC, eM => by
    have ew : q_w (((j + 1 : Nat) : Int) + 1) = ((j + 1 + 1 : Nat) : Int) := q_wS (by omega)
    by_cases hl : q_hl c (j + 1) = true
    · have el : s_labn (j + 1) c = s_labn j c ++ [j + 1] := by rw [s_labn_s, if_pos hl]
      have hlen : (s_labn j c).length < 4 := by
        have := s_labn_le (S := c) (show j + 1 ≤ n by omega)
        rw [el, List.length_append] at this
        simp only [List.length_cons, List.length_nil] at this
        omega
      obtain ⟨d', a, g1, r1, o1, k⟩ := c_Md_waysCol (g := g) (x4 := x4) hn hpb hr hc h4 (b := b) f (j + 1) (q_sL d t_mMatrix 0 (4 * r0 + (s_labn j c).length) (s_fw P i n (j + 1))) (by omega) e0 e (fun i' j' a1 a2 a3 a4 a5 => by
        rw [q_sL_ne (fun hx => absurd hx.1 (by decide))]; exact eC i' j' a1 a2 a3 a4 a5) (fun q hq => by
        rw [el] at hq ⊢
        rw [List.length_append] at hq
        rw [s_getD_snoc _ _ _ hq, q_sL_at]
        by_cases hq2 : q < (s_labn j c).length
        · rw [if_neg (by omega), if_pos hq2]; exact eM q hq2
        · have : q = (s_labn j c).length := by simp only [List.length_cons, List.length_nil] at hq; omega
          rw [if_pos (by omega), if_neg hq2])
      refine ⟨d', q_ag_tr (q_ag_sL (by decide)) a, g1, r1, fun k' hk => by rw [o1 k' hk, q_sL_at, if_neg (by omega)], fun r hh => e_Md_ways_47 ⟨fun hx => ?_, fun _ => ⟨_, _, c_Md_has (by omega) (by omega) (by omega), e_Md_ways_54 ⟨fun _ => ⟨_, _, c_Md_endsAt hn hpb (by omega) (by omega) e0 e eC, ?_⟩, fun hx => ?_⟩⟩⟩⟩
      · rw [e0] at hx; omega
      · rw [s_4 r0 hr _ hlen]
        refine e_Md_ways_66 ⟨by omega, by omega, e_Md_ways_68 ?_⟩
        rw [ew, q_wS (by omega), Int.toNat_natCast]
        have := k r hh
        rw [el, List.length_append] at this
        exact this
      · rw [hl] at hx; exact absurd hx (by decide)
    · have el : s_labn (j + 1) c = s_labn j c := by rw [s_labn_s, if_neg hl]
      obtain ⟨d', a, g1, r1, o1, k⟩ := c_Md_waysCol (g := g) (x4 := x4) hn hpb hr hc h4 (b := b) f (j + 1) d (by omega) e0 e eC (by rw [el]; exact eM)
      rw [el] at k
      refine ⟨d', a, g1, r1, o1, fun r hh => e_Md_ways_47 ⟨fun hx => ?_, fun _ => ⟨_, _, c_Md_has (by omega) (by omega) (by omega), e_Md_ways_54 ⟨fun hx => ?_, fun _ => e_Md_ways_68 ?_⟩⟩⟩⟩
      · rw [e0] at hx; omega
      · rw [Bool.eq_false_iff.mpr hl] at hx; exact absurd rfl hx
      · rw [ew]; exact k r hh
theorem c_Md_waysRow {n g c : Nat} {P : Nat → Nat → Bool} {fs : Nat} {PP : Nat → Nat} (hn : n ≤ 8) (hpb : ∀ i j, 1 ≤ i → i ≤ n → 1 ≤ j → j ≤ n → s_pb fs PP i j = P i j) (hg : g < 256) (hc : c < 256) (h4 : (s_labn n c).length ≤ 4) (h5 : (s_labn n g).length ≤ 4) {b : Nat} : ∀ (f i : Nat) (d : qD), i + f = n → d.1 t_Md 0 10 = (n : Int) → s_Bx n fs PP d → s_mx (fun a e => s_fw P a n e) (s_labn i g) (s_labn n c) (d.2 t_mMatrix 0) → ∃ d', q_Ev m_Md_ways 31 [q_r t_Md 0, none, q_i (g : Int), q_i (c : Int), q_i (q_pc g : Int), q_i ((s_labn i g).length : Int), q_i ((i + 1 : Nat) : Int), none, none] [] (q_mk d b) (some (.inr (.inl (q_labs (s_det (d'.2 t_mMatrix 0) (q_pc g))))), q_mk d' b) ∧ q_ag [t_mCome, t_mMatrix] d d' ∧ d'.1 = d.1 ∧ s_mx (fun a e => s_fw P a n e) (s_labn n g) (s_labn n c) (d'.2 t_mMatrix 0)
  | 0, i, d, hf, e0, e, eM => by
    have hi : i = n := by omega
    subst hi
    refine ⟨d, e_Md_ways_31 ⟨fun _ => ⟨_, _, c_Md_determinant, e_Md_ways_76 ⟨fun hh => e_Md_ways_85 ?_, fun hh => e_Md_ways_85 ?_⟩⟩, fun hx => ?_⟩, q_ag_refl _ _, rfl, eM⟩
    · rw [← (s_abs _).1 hh]
    · rw [← (s_abs _).2 hh]
    · rw [e0] at hx; omega
  | f + 1, i, d, hf, e0, e, eM => by
    have ew : q_w (((i + 1 : Nat) : Int) + 1) = ((i + 1 + 1 : Nat) : Int) := q_wS (by omega)
    by_cases hl : q_hl g (i + 1) = true
    · have el : s_labn (i + 1) g = s_labn i g ++ [i + 1] := by rw [s_labn_s, if_pos hl]
      have hlen : (s_labn i g).length < 4 := by
        have := s_labn_le (S := g) (show i + 1 ≤ n by omega)
        rw [el, List.length_append] at this
        simp only [List.length_cons, List.length_nil] at this
        omega
      obtain ⟨d1, v1, a1, g1, r1⟩ := c_Md_laysPaths (a := i + 1) hn hpb (b := b) e0 e
      obtain ⟨d2, a2, g2, r2, o2, k2⟩ := c_Md_waysCol (i := i + 1) (g := g) (c := c) (x4 := (q_pc g : Int)) hn hpb hlen hc h4 (b := b) n 0 d1 (by omega) (by rw [g1]; exact e0) (by unfold s_Bx; rw [g1]; exact e) r1 (fun q hq => absurd hq (by simp [s_labn]))
      obtain ⟨d3, v3, a3, g3, r3⟩ := c_Md_waysRow hn hpb hg hc h4 h5 (b := b) f (i + 1) d2 (by omega) (by rw [g2, g1]; exact e0) (by unfold s_Bx; rw [g2, g1]; exact e) (by
        intro r q hr hq
        rw [el] at hr ⊢
        rw [List.length_append] at hr
        rw [s_getD_snoc _ _ _ hr]
        by_cases hr2 : r < (s_labn i g).length
        · rw [if_pos hr2, o2 _ (by omega), a1.2 t_mMatrix (by decide)]
          exact eM r q hr2 hq
        · have : r = (s_labn i g).length := by simp only [List.length_cons, List.length_nil] at hr; omega
          rw [if_neg hr2, this]
          exact r2 q hq)
      rw [el, List.length_append] at v3
      refine ⟨d3, e_Md_ways_31 ⟨fun hx => ?_, fun _ => ⟨_, _, c_Md_has (by omega) (by omega) (by omega), e_Md_ways_38 ⟨fun _ => ⟨_, _, v1, e_Md_ways_43 (k2 _ (e_Md_ways_71 ?_))⟩, fun hx => ?_⟩⟩⟩, q_ag_tr (q_ag_up a1 (by decide)) (q_ag_tr (q_ag_up a2 (by decide)) a3), by rw [g3, g2, g1], r3⟩
      · rw [e0] at hx; omega
      · rw [ew]; exact v3
      · rw [hl] at hx; exact absurd hx (by decide)
    · have el : s_labn (i + 1) g = s_labn i g := by rw [s_labn_s, if_neg hl]
      obtain ⟨d3, v3, a3, g3, r3⟩ := c_Md_waysRow hn hpb hg hc h4 h5 (b := b) f (i + 1) d (by omega) e0 e (by rw [el]; exact eM)
      rw [el] at v3
      refine ⟨d3, e_Md_ways_31 ⟨fun hx => ?_, fun _ => ⟨_, _, c_Md_has (by omega) (by omega) (by omega), e_Md_ways_38 ⟨fun hx => ?_, fun _ => e_Md_ways_71 ?_⟩⟩⟩, a3, g3, r3⟩
      · rw [e0] at hx; omega
      · rw [Bool.eq_false_iff.mpr hl] at hx; exact absurd rfl hx
      · rw [ew]; exact v3
theorem s_dif_4 {a s : Nat} (h : q_pc a = q_pc s) : q_pc (q_dif a s) ≤ 4 := by
  have e := s_dif_pc h
  have one : ∀ x y : Bool, (x && !y).toNat + (y && !x).toNat ≤ 1 := by decide
  unfold q_pc at *
  simp only [q_dif_bit] at *
  have h0 := one (a.testBit 0) (s.testBit 0)
  have h1 := one (a.testBit 1) (s.testBit 1)
  have h2 := one (a.testBit 2) (s.testBit 2)
  have h3 := one (a.testBit 3) (s.testBit 3)
  have h4 := one (a.testBit 4) (s.testBit 4)
  have h5 := one (a.testBit 5) (s.testBit 5)
  have h6 := one (a.testBit 6) (s.testBit 6)
  have h7 := one (a.testBit 7) (s.testBit 7)
  omega
theorem s_R_pb {n : Nat} {F : Nat → Nat} (hn : n ≤ 8) (i j : Nat) (h1 : 1 ≤ i) (h2 : i ≤ n) (h3 : 1 ≤ j) (_h4 : j ≤ n) : s_pb (s_n1 n F n) (s_plus n F) i j = q_hl (s_R n F i) j := by
  unfold s_R s_pb
  rw [if_pos ⟨h1, h2⟩]
  obtain ⟨i', rfl⟩ : ∃ k, i = k + 1 := ⟨i - 1, by omega⟩
  cases hp : q_hl (s_plus n F (i' + 1)) j with
  | false => rw [Bool.and_false]
  | true => rw [((s_plus_hl hn (by omega) h3).mp hp).2.2.1]; rfl
theorem s_DL_congr {M N : Nat → Nat → Int64} : ∀ rs L : List Nat, (∀ i ∈ rs, ∀ j ∈ L, M i j = N i j) → s_DL M rs L = s_DL N rs L
  | [], L, _ => rfl
  | i :: rs, L, h => by
    refine s_SL_congr L (fun j hj => ?_)
    rw [s_DL_congr rs (L.filter (fun k => !decide (k = j))) (fun a ha e he => h a (List.mem_cons_of_mem _ ha) e (List.mem_filter.mp he).1), h i (List.mem_cons_self ..) j hj]
theorem c_Md_ways {n : Nat} {F : Nat → Nat} {x : Int} (hv : s_vC n F) (hx : q_can x) {d : qD} {b : Nat} (e0 : d.1 t_Md 0 10 = (n : Int)) (e : 0 < n → s_Mc n F d) : ∃ d', q_Ev m_Md_ways 0 [q_r t_Md 0, q_i x, none, none, none, none, none, none, none] [] (q_mk d b) (some (.inr (.inl (s_waysA n F x))), q_mk d' b) ∧ q_ag [t_mCome, t_mMatrix] d d' ∧ d'.1 = d.1 := by
  have hb := (s_vC_bd hv).1
  have hn := hb.1
  have hp8 := s_p8 hn
  unfold s_waysA
  by_cases hs : s_isSet n (q_pc (s_n1 n F n)) x = true
  · rw [if_pos hs]
    have hs' := hs
    unfold s_isSet at hs'
    rw [Bool.and_eq_true, decide_eq_true_eq, beq_iff_eq] at hs'
    obtain ⟨⟨h0, hx0, hxl⟩, hpc⟩ := hs'
    obtain ⟨x', rfl⟩ : ∃ k : Nat, x = (k : Int) := ⟨x.toNat, by omega⟩
    rw [Int.toNat_natCast] at hpc ⊢
    have hfi : s_n1 n F n < 2 ^ n := by rw [← s_nk_1]; exact s_nk_ltn hb 0 (by omega)
    have hx2 : x' < 2 ^ n := by omega
    have q1 : q_dif (s_n1 n F n) x' < 2 ^ n := q_dif_lt hfi
    have q2 : q_dif x' (s_n1 n F n) < 2 ^ n := q_dif_lt hx2
    have ea : q_and (s_n1 n F n : Int) (q_xor (x' : Int) (-1)) = ((q_dif (s_n1 n F n) x' : Nat) : Int) := q_andn_nat (by omega) (by omega)
    have eb : q_and (x' : Int) (q_xor (s_n1 n F n : Int) (-1)) = ((q_dif x' (s_n1 n F n) : Nat) : Int) := q_andn_nat (by omega) (by omega)
    have eN : d.1 t_mNeck 0 1 = (s_n1 n F n : Int) := by rw [(e h0).2.1 1 (by omega) (by omega), s_nk_1]
    have l1 : (s_labn n (q_dif (s_n1 n F n) x')).length = q_pc (q_dif (s_n1 n F n) x') := by rw [← s_lab_n hn q1, s_lab_len _ (by omega)]
    have l2 : (s_labn n (q_dif x' (s_n1 n F n))).length = q_pc (q_dif x' (s_n1 n F n)) := by rw [← s_lab_n hn q2, s_lab_len _ (by omega)]
    have p4 := s_dif_4 hpc
    have p5 := s_dif_4 hpc.symm
    obtain ⟨d', v, a, g, r⟩ := c_Md_waysRow (g := q_dif (s_n1 n F n) x') (c := q_dif x' (s_n1 n F n)) (P := fun a l => q_hl (s_R n F a) l) hn (s_R_pb hn) (by omega) (by omega) (by omega) (by omega) (b := b) n 0 d (by omega) e0 (e h0).2.2.2 (fun r q hr hq => absurd hr (by simp [s_labn]))
    have hdet := s_det_DL (by rw [l1, l2]; exact s_dif_pc hpc.symm) (by omega) (s_labn_pw _ _) r
    rw [l2, ← s_dif_pc hpc.symm] at hdet
    rw [hdet, s_DL_congr (N := s_pt (fun a l => q_hl (s_R n F a) l) n) _ _ (fun i hi j hj => by
      have m1 := List.mem_range'_1.mp ((List.mem_filter.mp (List.mem_reverse.mp hi)).1)
      have m2 := List.mem_range'_1.mp ((List.mem_filter.mp hj).1)
      exact s_fw_pt (by omega) (by omega) (by omega) (by omega)), ← s_lab_n hn q1, ← s_lab_n hn q2] at v
    refine ⟨d', e_Md_ways_0 ⟨_, _, c_Md_isSet hn hx e0 (fun h => (e h).1), e_Md_ways_3 ⟨fun _ => ⟨by decide, by decide, by decide, by decide, q_i (q_pc (q_dif (s_n1 n F n) x') : Int), q_mk d b, ?_, ?_⟩, fun hh => ?_⟩⟩, a, g⟩
    · rw [show ((1 : Int).toNat) = 1 from rfl, eN, ea]
      exact c_Md_sizeOf (by omega)
    · rw [show ((1 : Int).toNat) = 1 from rfl, eN, ea, eb]
      exact e_Md_ways_26 v
    · rw [hs] at hh; exact absurd hh (by decide)
  · rw [if_neg hs]
    refine ⟨d, e_Md_ways_0 ⟨_, _, c_Md_isSet hn hx e0 (fun h => (e h).1), e_Md_ways_3 ⟨fun hh => ?_, fun _ => rfl⟩⟩, q_ag_refl _ _, rfl⟩
    rw [Bool.eq_false_iff.mpr hs] at hh; exact absurd rfl hh
