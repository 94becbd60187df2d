/-! the law's loop: each call -/
abbrev s_lwl (i : Int) : qLo := [q_r 1 0, q_r t_GC 0, q_r t_Md 0, q_i i]
def s_I (A : s_A) (L : Nat) (xs : Nat → Int32) (d : qD) (b : Nat) : Prop := s_val A ∧ s_CL A d ∧ s_MD A d ∧ b < 2 ∧ d.1 1 1 0 = (L : Int) ∧ ∀ k, k < L → d.1 1 0 k = (xs k).toInt
theorem s_I_of {A A' : s_A} {L : Nat} {xs : Nat → Int32} {d d' : qD} {b b' : Nat} (h : s_I A L xs d b) (hv : s_val A') (eC : s_CL A' d') (eM : s_MD A' d') (hb : b' < 2) (h1 : d'.1 1 = d.1 1) : s_I A' L xs d' b' := ⟨hv, eC, eM, hb, by rw [h1]; exact h.2.2.2.2.1, fun k hk => by rw [h1]; exact h.2.2.2.2.2 k hk⟩
theorem q_wJ {i L : Nat} (j : Nat) (hi : i + 6 ≤ L) (hL : L ≤ 3072) (hj : j ≤ 6) : q_w ((i : Int) + (j : Int)) = ((i + j : Nat) : Int) := by rw [q_w_id (by omega) (by omega)]; omega
theorem q_lcmp_same (x : Int64) : q_lcmp x x = 0 := by
  unfold q_lcmp
  rw [(lg_cmp_eq x x).mpr rfl]
  rfl
theorem l_feed {A : s_A} {L i : Nat} {xs : Nat → Int32} {d : qD} {b : Nat} (hi : i + 6 ≤ L) (hL : L ≤ 3072) (I : s_I A L xs d b) (K : ∀ A2 d2 b2, s_I A2 L xs d2 b2 → ∃ w2, q_Ev m_Law_law 559 (s_lwl (i : Int)) [] (q_mk d2 b2) (q_i 1, w2)) (hop : q_and (d.1 1 0 (i : Int).toNat) 31 = 0) : ∃ w2, q_Ev m_Law_law 10 (s_lwl (i : Int)) [] (q_mk d b) (q_i 1, w2) := by
  obtain ⟨hv, eC, eM, hb, sL, sX⟩ := id I
  have w1 : q_w ((i : Int) + 1) = ((i + 1 : Nat) : Int) := q_wJ 1 hi hL (by omega)
  have t1 : (q_w ((i : Int) + 1)).toNat = i + 1 := by rw [w1, Int.toNat_natCast]
  have n1 : d.1 1 0 (i + 1) = (xs (i + 1)).toInt := sX _ (by omega)
  have w2 : q_w ((i : Int) + 2) = ((i + 2 : Nat) : Int) := q_wJ 2 hi hL (by omega)
  have t2 : (q_w ((i : Int) + 2)).toNat = i + 2 := by rw [w2, Int.toNat_natCast]
  have n2 : d.1 1 0 (i + 2) = (xs (i + 2)).toInt := sX _ (by omega)
  have w3 : q_w ((i : Int) + 3) = ((i + 3 : Nat) : Int) := q_wJ 3 hi hL (by omega)
  have t3 : (q_w ((i : Int) + 3)).toNat = i + 3 := by rw [w3, Int.toNat_natCast]
  have n3 : d.1 1 0 (i + 3) = (xs (i + 3)).toInt := sX _ (by omega)
  have w4 : q_w ((i : Int) + 4) = ((i + 4 : Nat) : Int) := q_wJ 4 hi hL (by omega)
  have t4 : (q_w ((i : Int) + 4)).toNat = i + 4 := by rw [w4, Int.toNat_natCast]
  have n4 : d.1 1 0 (i + 4) = (xs (i + 4)).toInt := sX _ (by omega)
  have w5 : q_w ((i : Int) + 5) = ((i + 5 : Nat) : Int) := q_wJ 5 hi hL (by omega)
  have t5 : (q_w ((i : Int) + 5)).toNat = i + 5 := by rw [w5, Int.toNat_natCast]
  have n5 : d.1 1 0 (i + 5) = (xs (i + 5)).toInt := sX _ (by omega)
  obtain ⟨x, d1, b1, d2, A2, v1, v2, hb2, hv2, eC2, eM2, i1, i2⟩ := b_feed ((xs (i + 1)).toInt) ((xs (i + 2)).toInt) ((xs (i + 3)).toInt) ((xs (i + 4)).toInt) ((xs (i + 5)).toInt)  A d b hv eC eM hb
  obtain ⟨wz, hw⟩ := K A2 d2 b1 (s_I_of I hv2 eC2 eM2 hb2 i2)
  refine ⟨wz, e_Law_law_10 ⟨fun hh => by rw [sL, q_w_id (by omega) (by omega)] at hh; omega, fun _ => ⟨by omega, by rw [sL]; omega, fun _ => ?_, fun hh => absurd hop hh⟩⟩⟩
  rw [t1, t2, t3, t4, t5, n1, n2, n3, n4, n5, w1, w2, w3, w4, w5, sL]
  refine ⟨by omega, by omega, by omega, by omega, by omega, by omega, by omega, by omega, by omega, by omega, _, _, v1, e_Law_law_49 ?_⟩
  rw [i1, t1, t2, t3, t4, t5, n1, n2, n3, n4, n5, w1, w2, w3, w4, w5, sL]
  exact ⟨by omega, by omega, by omega, by omega, by omega, by omega, by omega, by omega, by omega, by omega, _, _, v2, e_Law_law_76 ⟨fun _ => hw, fun hh => absurd rfl hh⟩⟩
theorem l_end {A : s_A} {L i : Nat} {xs : Nat → Int32} {d : qD} {b : Nat} (hi : i + 6 ≤ L) (hL : L ≤ 3072) (I : s_I A L xs d b) (K : ∀ A2 d2 b2, s_I A2 L xs d2 b2 → ∃ w2, q_Ev m_Law_law 559 (s_lwl (i : Int)) [] (q_mk d2 b2) (q_i 1, w2)) (hop : q_and (d.1 1 0 (i : Int).toNat) 31 = 1) : ∃ w2, q_Ev m_Law_law 10 (s_lwl (i : Int)) [] (q_mk d b) (q_i 1, w2) := by
  obtain ⟨hv, eC, eM, hb, sL, sX⟩ := id I
  have w1 : q_w ((i : Int) + 1) = ((i + 1 : Nat) : Int) := q_wJ 1 hi hL (by omega)
  have t1 : (q_w ((i : Int) + 1)).toNat = i + 1 := by rw [w1, Int.toNat_natCast]
  have n1 : d.1 1 0 (i + 1) = (xs (i + 1)).toInt := sX _ (by omega)
  obtain ⟨x, d1, b1, d2, A2, v1, v2, hb2, hv2, eC2, eM2, i1, i2⟩ := b_end ((xs (i + 1)).toInt) (q_can_i _) A d b hv eC eM hb
  obtain ⟨wz, hw⟩ := K A2 d2 b1 (s_I_of I hv2 eC2 eM2 hb2 i2)
  refine ⟨wz, e_Law_law_10 ⟨fun hh => by rw [sL, q_w_id (by omega) (by omega)] at hh; omega, fun _ => ⟨by omega, by rw [sL]; omega, fun hh => absurd (hh.symm.trans hop) (by decide), fun _ => ⟨fun _ => ?_, fun hh => absurd hop hh⟩⟩⟩⟩
  rw [t1, n1, w1, sL]
  refine ⟨by omega, by omega, _, _, v1, e_Law_law_86 ?_⟩
  rw [i1, t1, n1, w1, sL]
  exact ⟨by omega, by omega, _, _, v2, e_Law_law_93 ⟨fun _ => hw, fun hh => absurd rfl hh⟩⟩
theorem l_cell {A : s_A} {L i : Nat} {xs : Nat → Int32} {d : qD} {b : Nat} (hi : i + 6 ≤ L) (hL : L ≤ 3072) (I : s_I A L xs d b) (K : ∀ A2 d2 b2, s_I A2 L xs d2 b2 → ∃ w2, q_Ev m_Law_law 559 (s_lwl (i : Int)) [] (q_mk d2 b2) (q_i 1, w2)) (hop : q_and (d.1 1 0 (i : Int).toNat) 31 = 2) : ∃ w2, q_Ev m_Law_law 10 (s_lwl (i : Int)) [] (q_mk d b) (q_i 1, w2) := by
  obtain ⟨hv, eC, eM, hb, sL, sX⟩ := id I
  obtain ⟨x, d1, b1, d2, A2, v1, v2, hb2, hv2, eC2, eM2, i1, i2⟩ := b_cell   A d b hv eC eM hb
  obtain ⟨wz, hw⟩ := K A2 d2 b1 (s_I_of I hv2 eC2 eM2 hb2 i2)
  refine ⟨wz, e_Law_law_10 ⟨fun hh => by rw [sL, q_w_id (by omega) (by omega)] at hh; omega, fun _ => ⟨by omega, by rw [sL]; omega, fun hh => absurd (hh.symm.trans hop) (by decide), fun _ => ⟨fun hh => absurd (hh.symm.trans hop) (by decide), fun _ => ⟨fun _ => ?_, fun hh => absurd hop hh⟩⟩⟩⟩⟩
  refine ⟨_, _, v1, e_Law_law_98 ?_⟩
  exact ⟨_, _, v2, e_Law_law_100 ⟨fun _ => hw, fun hh => absurd rfl hh⟩⟩
theorem l_f {A : s_A} {L i : Nat} {xs : Nat → Int32} {d : qD} {b : Nat} (hi : i + 6 ≤ L) (hL : L ≤ 3072) (I : s_I A L xs d b) (K : ∀ A2 d2 b2, s_I A2 L xs d2 b2 → ∃ w2, q_Ev m_Law_law 559 (s_lwl (i : Int)) [] (q_mk d2 b2) (q_i 1, w2)) (hop : q_and (d.1 1 0 (i : Int).toNat) 31 = 3) : ∃ w2, q_Ev m_Law_law 10 (s_lwl (i : Int)) [] (q_mk d b) (q_i 1, w2) := by
  obtain ⟨hv, eC, eM, hb, sL, sX⟩ := id I
  have w1 : q_w ((i : Int) + 1) = ((i + 1 : Nat) : Int) := q_wJ 1 hi hL (by omega)
  have t1 : (q_w ((i : Int) + 1)).toNat = i + 1 := by rw [w1, Int.toNat_natCast]
  have n1 : d.1 1 0 (i + 1) = (xs (i + 1)).toInt := sX _ (by omega)
  obtain ⟨x, d1, b1, d2, A2, v1, v2, hb2, hv2, eC2, eM2, i1, i2⟩ := b_f ((xs (i + 1)).toInt)  A d b hv eC eM hb
  obtain ⟨wz, hw⟩ := K A2 d2 b1 (s_I_of I hv2 eC2 eM2 hb2 i2)
  refine ⟨wz, e_Law_law_10 ⟨fun hh => by rw [sL, q_w_id (by omega) (by omega)] at hh; omega, fun _ => ⟨by omega, by rw [sL]; omega, fun hh => absurd (hh.symm.trans hop) (by decide), fun _ => ⟨fun hh => absurd (hh.symm.trans hop) (by decide), fun _ => ⟨fun hh => absurd (hh.symm.trans hop) (by decide), fun _ => ⟨fun _ => ?_, fun hh => absurd hop hh⟩⟩⟩⟩⟩⟩
  rw [t1, n1, w1, sL]
  refine ⟨by omega, by omega, _, _, v1, e_Law_law_110 ?_⟩
  rw [i1, t1, n1, w1, sL]
  exact ⟨by omega, by omega, _, _, v2, e_Law_law_117 ⟨fun _ => hw, fun hh => absurd rfl hh⟩⟩
theorem l_neck {A : s_A} {L i : Nat} {xs : Nat → Int32} {d : qD} {b : Nat} (hi : i + 6 ≤ L) (hL : L ≤ 3072) (I : s_I A L xs d b) (K : ∀ A2 d2 b2, s_I A2 L xs d2 b2 → ∃ w2, q_Ev m_Law_law 559 (s_lwl (i : Int)) [] (q_mk d2 b2) (q_i 1, w2)) (hop : q_and (d.1 1 0 (i : Int).toNat) 31 = 4) : ∃ w2, q_Ev m_Law_law 10 (s_lwl (i : Int)) [] (q_mk d b) (q_i 1, w2) := by
  obtain ⟨hv, eC, eM, hb, sL, sX⟩ := id I
  have w1 : q_w ((i : Int) + 1) = ((i + 1 : Nat) : Int) := q_wJ 1 hi hL (by omega)
  have t1 : (q_w ((i : Int) + 1)).toNat = i + 1 := by rw [w1, Int.toNat_natCast]
  have n1 : d.1 1 0 (i + 1) = (xs (i + 1)).toInt := sX _ (by omega)
  obtain ⟨x, d1, b1, d2, A2, v1, v2, hb2, hv2, eC2, eM2, i1, i2⟩ := b_neck ((xs (i + 1)).toInt)  A d b hv eC eM hb
  obtain ⟨wz, hw⟩ := K A2 d2 b1 (s_I_of I hv2 eC2 eM2 hb2 i2)
  refine ⟨wz, e_Law_law_10 ⟨fun hh => by rw [sL, q_w_id (by omega) (by omega)] at hh; omega, fun _ => ⟨by omega, by rw [sL]; omega, fun hh => absurd (hh.symm.trans hop) (by decide), fun _ => ⟨fun hh => absurd (hh.symm.trans hop) (by decide), fun _ => ⟨fun hh => absurd (hh.symm.trans hop) (by decide), fun _ => ⟨fun hh => absurd (hh.symm.trans hop) (by decide), fun _ => ⟨fun _ => ?_, fun hh => absurd hop hh⟩⟩⟩⟩⟩⟩⟩
  rw [t1, n1, w1, sL]
  refine ⟨by omega, by omega, _, _, v1, e_Law_law_127 ?_⟩
  rw [i1, t1, n1, w1, sL]
  exact ⟨by omega, by omega, _, _, v2, e_Law_law_134 ⟨fun _ => hw, fun hh => absurd rfl hh⟩⟩
theorem l_box {A : s_A} {L i : Nat} {xs : Nat → Int32} {d : qD} {b : Nat} (hi : i + 6 ≤ L) (hL : L ≤ 3072) (I : s_I A L xs d b) (K : ∀ A2 d2 b2, s_I A2 L xs d2 b2 → ∃ w2, q_Ev m_Law_law 559 (s_lwl (i : Int)) [] (q_mk d2 b2) (q_i 1, w2)) (hop : q_and (d.1 1 0 (i : Int).toNat) 31 = 5) : ∃ w2, q_Ev m_Law_law 10 (s_lwl (i : Int)) [] (q_mk d b) (q_i 1, w2) := by
  obtain ⟨hv, eC, eM, hb, sL, sX⟩ := id I
  have w1 : q_w ((i : Int) + 1) = ((i + 1 : Nat) : Int) := q_wJ 1 hi hL (by omega)
  have t1 : (q_w ((i : Int) + 1)).toNat = i + 1 := by rw [w1, Int.toNat_natCast]
  have n1 : d.1 1 0 (i + 1) = (xs (i + 1)).toInt := sX _ (by omega)
  have w2 : q_w ((i : Int) + 2) = ((i + 2 : Nat) : Int) := q_wJ 2 hi hL (by omega)
  have t2 : (q_w ((i : Int) + 2)).toNat = i + 2 := by rw [w2, Int.toNat_natCast]
  have n2 : d.1 1 0 (i + 2) = (xs (i + 2)).toInt := sX _ (by omega)
  obtain ⟨x, d1, b1, d2, A2, v1, v2, hb2, hv2, eC2, eM2, i1, i2⟩ := b_box ((xs (i + 1)).toInt) ((xs (i + 2)).toInt)  A d b hv eC eM hb
  obtain ⟨wz, hw⟩ := K A2 d2 b1 (s_I_of I hv2 eC2 eM2 hb2 i2)
  refine ⟨wz, e_Law_law_10 ⟨fun hh => by rw [sL, q_w_id (by omega) (by omega)] at hh; omega, fun _ => ⟨by omega, by rw [sL]; omega, fun hh => absurd (hh.symm.trans hop) (by decide), fun _ => ⟨fun hh => absurd (hh.symm.trans hop) (by decide), fun _ => ⟨fun hh => absurd (hh.symm.trans hop) (by decide), fun _ => ⟨fun hh => absurd (hh.symm.trans hop) (by decide), fun _ => ⟨fun hh => absurd (hh.symm.trans hop) (by decide), fun _ => ⟨fun _ => ?_, fun hh => absurd hop hh⟩⟩⟩⟩⟩⟩⟩⟩
  rw [t1, t2, n1, n2, w1, w2, sL]
  refine ⟨by omega, by omega, by omega, by omega, _, _, v1, e_Law_law_149 ?_⟩
  rw [i1, t1, t2, n1, n2, w1, w2, sL]
  exact ⟨by omega, by omega, by omega, by omega, _, _, v2, e_Law_law_161 ⟨fun _ => hw, fun hh => absurd rfl hh⟩⟩
theorem l_bases {A : s_A} {L i : Nat} {xs : Nat → Int32} {d : qD} {b : Nat} (hi : i + 6 ≤ L) (hL : L ≤ 3072) (I : s_I A L xs d b) (K : ∀ A2 d2 b2, s_I A2 L xs d2 b2 → ∃ w2, q_Ev m_Law_law 559 (s_lwl (i : Int)) [] (q_mk d2 b2) (q_i 1, w2)) (hop : q_and (d.1 1 0 (i : Int).toNat) 31 = 6) : ∃ w2, q_Ev m_Law_law 10 (s_lwl (i : Int)) [] (q_mk d b) (q_i 1, w2) := by
  obtain ⟨hv, eC, eM, hb, sL, sX⟩ := id I
  obtain ⟨x, d1, b1, d2, A2, v1, v2, hb2, hv2, eC2, eM2, i1, i2⟩ := b_bases   A d b hv eC eM hb
  obtain ⟨wz, hw⟩ := K A2 d2 b1 (s_I_of I hv2 eC2 eM2 hb2 i2)
  refine ⟨wz, e_Law_law_10 ⟨fun hh => by rw [sL, q_w_id (by omega) (by omega)] at hh; omega, fun _ => ⟨by omega, by rw [sL]; omega, fun hh => absurd (hh.symm.trans hop) (by decide), fun _ => ⟨fun hh => absurd (hh.symm.trans hop) (by decide), fun _ => ⟨fun hh => absurd (hh.symm.trans hop) (by decide), fun _ => ⟨fun hh => absurd (hh.symm.trans hop) (by decide), fun _ => ⟨fun hh => absurd (hh.symm.trans hop) (by decide), fun _ => ⟨fun hh => absurd (hh.symm.trans hop) (by decide), fun _ => ⟨fun _ => ?_, fun hh => absurd hop hh⟩⟩⟩⟩⟩⟩⟩⟩⟩
  refine ⟨_, _, v1, e_Law_law_166 ?_⟩
  exact ⟨_, _, v2, e_Law_law_168 ⟨fun _ => hw, fun hh => absurd rfl hh⟩⟩
theorem l_basis {A : s_A} {L i : Nat} {xs : Nat → Int32} {d : qD} {b : Nat} (hi : i + 6 ≤ L) (hL : L ≤ 3072) (I : s_I A L xs d b) (K : ∀ A2 d2 b2, s_I A2 L xs d2 b2 → ∃ w2, q_Ev m_Law_law 559 (s_lwl (i : Int)) [] (q_mk d2 b2) (q_i 1, w2)) (hop : q_and (d.1 1 0 (i : Int).toNat) 31 = 7) : ∃ w2, q_Ev m_Law_law 10 (s_lwl (i : Int)) [] (q_mk d b) (q_i 1, w2) := by
  obtain ⟨hv, eC, eM, hb, sL, sX⟩ := id I
  have w1 : q_w ((i : Int) + 1) = ((i + 1 : Nat) : Int) := q_wJ 1 hi hL (by omega)
  have t1 : (q_w ((i : Int) + 1)).toNat = i + 1 := by rw [w1, Int.toNat_natCast]
  have n1 : d.1 1 0 (i + 1) = (xs (i + 1)).toInt := sX _ (by omega)
  obtain ⟨x, d1, b1, d2, A2, v1, v2, hb2, hv2, eC2, eM2, i1, i2⟩ := b_basis ((xs (i + 1)).toInt)  A d b hv eC eM hb
  obtain ⟨wz, hw⟩ := K A2 d2 b1 (s_I_of I hv2 eC2 eM2 hb2 i2)
  refine ⟨wz, e_Law_law_10 ⟨fun hh => by rw [sL, q_w_id (by omega) (by omega)] at hh; omega, fun _ => ⟨by omega, by rw [sL]; omega, fun hh => absurd (hh.symm.trans hop) (by decide), fun _ => ⟨fun hh => absurd (hh.symm.trans hop) (by decide), fun _ => ⟨fun hh => absurd (hh.symm.trans hop) (by decide), fun _ => ⟨fun hh => absurd (hh.symm.trans hop) (by decide), fun _ => ⟨fun hh => absurd (hh.symm.trans hop) (by decide), fun _ => ⟨fun hh => absurd (hh.symm.trans hop) (by decide), fun _ => ⟨fun hh => absurd (hh.symm.trans hop) (by decide), fun _ => ⟨fun _ => ?_, fun hh => absurd hop hh⟩⟩⟩⟩⟩⟩⟩⟩⟩⟩
  rw [t1, n1, w1, sL]
  refine ⟨by omega, by omega, _, _, v1, e_Law_law_178 ?_⟩
  rw [i1, t1, n1, w1, sL]
  exact ⟨by omega, by omega, _, _, v2, e_Law_law_185 ⟨fun _ => hw, fun hh => absurd rfl hh⟩⟩
theorem l_rank {A : s_A} {L i : Nat} {xs : Nat → Int32} {d : qD} {b : Nat} (hi : i + 6 ≤ L) (hL : L ≤ 3072) (I : s_I A L xs d b) (K : ∀ A2 d2 b2, s_I A2 L xs d2 b2 → ∃ w2, q_Ev m_Law_law 559 (s_lwl (i : Int)) [] (q_mk d2 b2) (q_i 1, w2)) (hop : q_and (d.1 1 0 (i : Int).toNat) 31 = 8) : ∃ w2, q_Ev m_Law_law 10 (s_lwl (i : Int)) [] (q_mk d b) (q_i 1, w2) := by
  obtain ⟨hv, eC, eM, hb, sL, sX⟩ := id I
  have w1 : q_w ((i : Int) + 1) = ((i + 1 : Nat) : Int) := q_wJ 1 hi hL (by omega)
  have t1 : (q_w ((i : Int) + 1)).toNat = i + 1 := by rw [w1, Int.toNat_natCast]
  have n1 : d.1 1 0 (i + 1) = (xs (i + 1)).toInt := sX _ (by omega)
  obtain ⟨x, d1, b1, d2, A2, v1, v2, hb2, hv2, eC2, eM2, i1, i2⟩ := b_rank ((xs (i + 1)).toInt) (q_can_i _) A d b hv eC eM hb
  obtain ⟨wz, hw⟩ := K A2 d2 b1 (s_I_of I hv2 eC2 eM2 hb2 i2)
  refine ⟨wz, e_Law_law_10 ⟨fun hh => by rw [sL, q_w_id (by omega) (by omega)] at hh; omega, fun _ => ⟨by omega, by rw [sL]; omega, fun hh => absurd (hh.symm.trans hop) (by decide), fun _ => ⟨fun hh => absurd (hh.symm.trans hop) (by decide), fun _ => ⟨fun hh => absurd (hh.symm.trans hop) (by decide), fun _ => ⟨fun hh => absurd (hh.symm.trans hop) (by decide), fun _ => ⟨fun hh => absurd (hh.symm.trans hop) (by decide), fun _ => ⟨fun hh => absurd (hh.symm.trans hop) (by decide), fun _ => ⟨fun hh => absurd (hh.symm.trans hop) (by decide), fun _ => ⟨fun hh => absurd (hh.symm.trans hop) (by decide), fun _ => ⟨fun _ => ?_, fun hh => absurd hop hh⟩⟩⟩⟩⟩⟩⟩⟩⟩⟩⟩
  rw [t1, n1, w1, sL]
  refine ⟨by omega, by omega, _, _, v1, e_Law_law_195 ?_⟩
  rw [i1, t1, n1, w1, sL]
  exact ⟨by omega, by omega, _, _, v2, e_Law_law_202 ⟨fun _ => hw, fun hh => absurd rfl hh⟩⟩
theorem l_exchange {A : s_A} {L i : Nat} {xs : Nat → Int32} {d : qD} {b : Nat} (hi : i + 6 ≤ L) (hL : L ≤ 3072) (I : s_I A L xs d b) (K : ∀ A2 d2 b2, s_I A2 L xs d2 b2 → ∃ w2, q_Ev m_Law_law 559 (s_lwl (i : Int)) [] (q_mk d2 b2) (q_i 1, w2)) (hop : q_and (d.1 1 0 (i : Int).toNat) 31 = 9) : ∃ w2, q_Ev m_Law_law 10 (s_lwl (i : Int)) [] (q_mk d b) (q_i 1, w2) := by
  obtain ⟨hv, eC, eM, hb, sL, sX⟩ := id I
  have w1 : q_w ((i : Int) + 1) = ((i + 1 : Nat) : Int) := q_wJ 1 hi hL (by omega)
  have t1 : (q_w ((i : Int) + 1)).toNat = i + 1 := by rw [w1, Int.toNat_natCast]
  have n1 : d.1 1 0 (i + 1) = (xs (i + 1)).toInt := sX _ (by omega)
  have w2 : q_w ((i : Int) + 2) = ((i + 2 : Nat) : Int) := q_wJ 2 hi hL (by omega)
  have t2 : (q_w ((i : Int) + 2)).toNat = i + 2 := by rw [w2, Int.toNat_natCast]
  have n2 : d.1 1 0 (i + 2) = (xs (i + 2)).toInt := sX _ (by omega)
  have w3 : q_w ((i : Int) + 3) = ((i + 3 : Nat) : Int) := q_wJ 3 hi hL (by omega)
  have t3 : (q_w ((i : Int) + 3)).toNat = i + 3 := by rw [w3, Int.toNat_natCast]
  have n3 : d.1 1 0 (i + 3) = (xs (i + 3)).toInt := sX _ (by omega)
  obtain ⟨x, d1, b1, d2, A2, v1, v2, hb2, hv2, eC2, eM2, i1, i2⟩ := b_exchange ((xs (i + 1)).toInt) ((xs (i + 2)).toInt) ((xs (i + 3)).toInt) (q_can_i _) (q_can_i _) A d b hv eC eM hb
  obtain ⟨wz, hw⟩ := K A2 d2 b1 (s_I_of I hv2 eC2 eM2 hb2 i2)
  refine ⟨wz, e_Law_law_10 ⟨fun hh => by rw [sL, q_w_id (by omega) (by omega)] at hh; omega, fun _ => ⟨by omega, by rw [sL]; omega, fun hh => absurd (hh.symm.trans hop) (by decide), fun _ => ⟨fun hh => absurd (hh.symm.trans hop) (by decide), fun _ => ⟨fun hh => absurd (hh.symm.trans hop) (by decide), fun _ => ⟨fun hh => absurd (hh.symm.trans hop) (by decide), fun _ => ⟨fun hh => absurd (hh.symm.trans hop) (by decide), fun _ => ⟨fun hh => absurd (hh.symm.trans hop) (by decide), fun _ => ⟨fun hh => absurd (hh.symm.trans hop) (by decide), fun _ => ⟨fun hh => absurd (hh.symm.trans hop) (by decide), fun _ => ⟨fun hh => absurd (hh.symm.trans hop) (by decide), fun _ => ⟨fun _ => ?_, fun hh => absurd hop hh⟩⟩⟩⟩⟩⟩⟩⟩⟩⟩⟩⟩
  rw [t1, t2, t3, n1, n2, n3, w1, w2, w3, sL]
  refine ⟨by omega, by omega, by omega, by omega, by omega, by omega, _, _, v1, e_Law_law_222 ?_⟩
  rw [i1, t1, t2, t3, n1, n2, n3, w1, w2, w3, sL]
  exact ⟨by omega, by omega, by omega, by omega, by omega, by omega, _, _, v2, e_Law_law_239 ⟨fun _ => hw, fun hh => absurd rfl hh⟩⟩
theorem l_part {A : s_A} {L i : Nat} {xs : Nat → Int32} {d : qD} {b : Nat} (hi : i + 6 ≤ L) (hL : L ≤ 3072) (I : s_I A L xs d b) (K : ∀ A2 d2 b2, s_I A2 L xs d2 b2 → ∃ w2, q_Ev m_Law_law 559 (s_lwl (i : Int)) [] (q_mk d2 b2) (q_i 1, w2)) (hop : q_and (d.1 1 0 (i : Int).toNat) 31 = 10) : ∃ w2, q_Ev m_Law_law 10 (s_lwl (i : Int)) [] (q_mk d b) (q_i 1, w2) := by
  obtain ⟨hv, eC, eM, hb, sL, sX⟩ := id I
  have w1 : q_w ((i : Int) + 1) = ((i + 1 : Nat) : Int) := q_wJ 1 hi hL (by omega)
  have t1 : (q_w ((i : Int) + 1)).toNat = i + 1 := by rw [w1, Int.toNat_natCast]
  have n1 : d.1 1 0 (i + 1) = (xs (i + 1)).toInt := sX _ (by omega)
  obtain ⟨x, d1, b1, d2, A2, v1, v2, hb2, hv2, eC2, eM2, i1, i2⟩ := b_part ((xs (i + 1)).toInt)  A d b hv eC eM hb
  obtain ⟨wz, hw⟩ := K A2 d2 b1 (s_I_of I hv2 eC2 eM2 hb2 i2)
  refine ⟨wz, e_Law_law_10 ⟨fun hh => by rw [sL, q_w_id (by omega) (by omega)] at hh; omega, fun _ => ⟨by omega, by rw [sL]; omega, fun hh => absurd (hh.symm.trans hop) (by decide), fun _ => ⟨fun hh => absurd (hh.symm.trans hop) (by decide), fun _ => ⟨fun hh => absurd (hh.symm.trans hop) (by decide), fun _ => ⟨fun hh => absurd (hh.symm.trans hop) (by decide), fun _ => ⟨fun hh => absurd (hh.symm.trans hop) (by decide), fun _ => ⟨fun hh => absurd (hh.symm.trans hop) (by decide), fun _ => ⟨fun hh => absurd (hh.symm.trans hop) (by decide), fun _ => ⟨fun hh => absurd (hh.symm.trans hop) (by decide), fun _ => ⟨fun hh => absurd (hh.symm.trans hop) (by decide), fun _ => ⟨fun hh => absurd (hh.symm.trans hop) (by decide), fun _ => ⟨fun _ => ?_, fun hh => absurd hop hh⟩⟩⟩⟩⟩⟩⟩⟩⟩⟩⟩⟩⟩
  rw [t1, n1, w1, sL]
  refine ⟨by omega, by omega, _, _, v1, e_Law_law_249 ?_⟩
  rw [i1, t1, n1, w1, sL]
  exact ⟨by omega, by omega, _, _, v2, e_Law_law_256 ⟨fun _ => hw, fun hh => absurd rfl hh⟩⟩
theorem l_ways {A : s_A} {L i : Nat} {xs : Nat → Int32} {d : qD} {b : Nat} (hi : i + 6 ≤ L) (hL : L ≤ 3072) (I : s_I A L xs d b) (K : ∀ A2 d2 b2, s_I A2 L xs d2 b2 → ∃ w2, q_Ev m_Law_law 559 (s_lwl (i : Int)) [] (q_mk d2 b2) (q_i 1, w2)) (hop : q_and (d.1 1 0 (i : Int).toNat) 31 = 11) : ∃ w2, q_Ev m_Law_law 10 (s_lwl (i : Int)) [] (q_mk d b) (q_i 1, w2) := by
  obtain ⟨hv, eC, eM, hb, sL, sX⟩ := id I
  have w1 : q_w ((i : Int) + 1) = ((i + 1 : Nat) : Int) := q_wJ 1 hi hL (by omega)
  have t1 : (q_w ((i : Int) + 1)).toNat = i + 1 := by rw [w1, Int.toNat_natCast]
  have n1 : d.1 1 0 (i + 1) = (xs (i + 1)).toInt := sX _ (by omega)
  obtain ⟨x, d1, b1, d2, A2, v1, v2, hb2, hv2, eC2, eM2, i1, i2⟩ := b_ways ((xs (i + 1)).toInt) (q_can_i _) A d b hv eC eM hb
  obtain ⟨wz, hw⟩ := K A2 d2 b1 (s_I_of I hv2 eC2 eM2 hb2 i2)
  refine ⟨wz, e_Law_law_10 ⟨fun hh => by rw [sL, q_w_id (by omega) (by omega)] at hh; omega, fun _ => ⟨by omega, by rw [sL]; omega, fun hh => absurd (hh.symm.trans hop) (by decide), fun _ => ⟨fun hh => absurd (hh.symm.trans hop) (by decide), fun _ => ⟨fun hh => absurd (hh.symm.trans hop) (by decide), fun _ => ⟨fun hh => absurd (hh.symm.trans hop) (by decide), fun _ => ⟨fun hh => absurd (hh.symm.trans hop) (by decide), fun _ => ⟨fun hh => absurd (hh.symm.trans hop) (by decide), fun _ => ⟨fun hh => absurd (hh.symm.trans hop) (by decide), fun _ => ⟨fun hh => absurd (hh.symm.trans hop) (by decide), fun _ => ⟨fun hh => absurd (hh.symm.trans hop) (by decide), fun _ => ⟨fun hh => absurd (hh.symm.trans hop) (by decide), fun _ => ⟨fun hh => absurd (hh.symm.trans hop) (by decide), fun _ => ⟨fun _ => ?_, fun hh => absurd hop hh⟩⟩⟩⟩⟩⟩⟩⟩⟩⟩⟩⟩⟩⟩
  rw [t1, n1, w1, sL]
  refine ⟨by omega, by omega, _, _, v1, e_Law_law_266 ?_⟩
  rw [i1, t1, n1, w1, sL]
  exact ⟨by omega, by omega, _, _, v2, e_Law_law_273 ⟨fun _ => hw, fun hh => absurd (q_lcmp_same x) hh⟩⟩
theorem l_cross {A : s_A} {L i : Nat} {xs : Nat → Int32} {d : qD} {b : Nat} (hi : i + 6 ≤ L) (hL : L ≤ 3072) (I : s_I A L xs d b) (K : ∀ A2 d2 b2, s_I A2 L xs d2 b2 → ∃ w2, q_Ev m_Law_law 559 (s_lwl (i : Int)) [] (q_mk d2 b2) (q_i 1, w2)) (hop : q_and (d.1 1 0 (i : Int).toNat) 31 = 12) : ∃ w2, q_Ev m_Law_law 10 (s_lwl (i : Int)) [] (q_mk d b) (q_i 1, w2) := by
  obtain ⟨hv, eC, eM, hb, sL, sX⟩ := id I
  have w1 : q_w ((i : Int) + 1) = ((i + 1 : Nat) : Int) := q_wJ 1 hi hL (by omega)
  have t1 : (q_w ((i : Int) + 1)).toNat = i + 1 := by rw [w1, Int.toNat_natCast]
  have n1 : d.1 1 0 (i + 1) = (xs (i + 1)).toInt := sX _ (by omega)
  have w2 : q_w ((i : Int) + 2) = ((i + 2 : Nat) : Int) := q_wJ 2 hi hL (by omega)
  have t2 : (q_w ((i : Int) + 2)).toNat = i + 2 := by rw [w2, Int.toNat_natCast]
  have n2 : d.1 1 0 (i + 2) = (xs (i + 2)).toInt := sX _ (by omega)
  obtain ⟨x, d1, b1, d2, A2, v1, v2, hb2, hv2, eC2, eM2, i1, i2⟩ := b_cross ((xs (i + 1)).toInt) ((xs (i + 2)).toInt) (q_can_i _) (q_can_i _) A d b hv eC eM hb
  obtain ⟨wz, hw⟩ := K A2 d2 b1 (s_I_of I hv2 eC2 eM2 hb2 i2)
  refine ⟨wz, e_Law_law_10 ⟨fun hh => by rw [sL, q_w_id (by omega) (by omega)] at hh; omega, fun _ => ⟨by omega, by rw [sL]; omega, fun hh => absurd (hh.symm.trans hop) (by decide), fun _ => ⟨fun hh => absurd (hh.symm.trans hop) (by decide), fun _ => ⟨fun hh => absurd (hh.symm.trans hop) (by decide), fun _ => ⟨fun hh => absurd (hh.symm.trans hop) (by decide), fun _ => ⟨fun hh => absurd (hh.symm.trans hop) (by decide), fun _ => ⟨fun hh => absurd (hh.symm.trans hop) (by decide), fun _ => ⟨fun hh => absurd (hh.symm.trans hop) (by decide), fun _ => ⟨fun hh => absurd (hh.symm.trans hop) (by decide), fun _ => ⟨fun hh => absurd (hh.symm.trans hop) (by decide), fun _ => ⟨fun hh => absurd (hh.symm.trans hop) (by decide), fun _ => ⟨fun hh => absurd (hh.symm.trans hop) (by decide), fun _ => ⟨fun hh => absurd (hh.symm.trans hop) (by decide), fun _ => ⟨fun _ => ?_, fun hh => absurd hop hh⟩⟩⟩⟩⟩⟩⟩⟩⟩⟩⟩⟩⟩⟩⟩
  rw [t1, t2, n1, n2, w1, w2, sL]
  refine ⟨by omega, by omega, by omega, by omega, _, _, v1, e_Law_law_289 ?_⟩
  rw [i1, t1, t2, n1, n2, w1, w2, sL]
  exact ⟨by omega, by omega, by omega, by omega, _, _, v2, e_Law_law_301 ⟨fun _ => hw, fun hh => absurd rfl hh⟩⟩
theorem l_cluster {A : s_A} {L i : Nat} {xs : Nat → Int32} {d : qD} {b : Nat} (hi : i + 6 ≤ L) (hL : L ≤ 3072) (I : s_I A L xs d b) (K : ∀ A2 d2 b2, s_I A2 L xs d2 b2 → ∃ w2, q_Ev m_Law_law 559 (s_lwl (i : Int)) [] (q_mk d2 b2) (q_i 1, w2)) (hop : q_and (d.1 1 0 (i : Int).toNat) 31 = 13) : ∃ w2, q_Ev m_Law_law 10 (s_lwl (i : Int)) [] (q_mk d b) (q_i 1, w2) := by
  obtain ⟨hv, eC, eM, hb, sL, sX⟩ := id I
  have w1 : q_w ((i : Int) + 1) = ((i + 1 : Nat) : Int) := q_wJ 1 hi hL (by omega)
  have t1 : (q_w ((i : Int) + 1)).toNat = i + 1 := by rw [w1, Int.toNat_natCast]
  have n1 : d.1 1 0 (i + 1) = (xs (i + 1)).toInt := sX _ (by omega)
  obtain ⟨x, d1, b1, d2, A2, v1, v2, hb2, hv2, eC2, eM2, i1, i2⟩ := b_cluster ((xs (i + 1)).toInt)  A d b hv eC eM hb
  obtain ⟨wz, hw⟩ := K A2 d2 b1 (s_I_of I hv2 eC2 eM2 hb2 i2)
  refine ⟨wz, e_Law_law_10 ⟨fun hh => by rw [sL, q_w_id (by omega) (by omega)] at hh; omega, fun _ => ⟨by omega, by rw [sL]; omega, fun hh => absurd (hh.symm.trans hop) (by decide), fun _ => ⟨fun hh => absurd (hh.symm.trans hop) (by decide), fun _ => ⟨fun hh => absurd (hh.symm.trans hop) (by decide), fun _ => ⟨fun hh => absurd (hh.symm.trans hop) (by decide), fun _ => ⟨fun hh => absurd (hh.symm.trans hop) (by decide), fun _ => ⟨fun hh => absurd (hh.symm.trans hop) (by decide), fun _ => ⟨fun hh => absurd (hh.symm.trans hop) (by decide), fun _ => ⟨fun hh => absurd (hh.symm.trans hop) (by decide), fun _ => ⟨fun hh => absurd (hh.symm.trans hop) (by decide), fun _ => ⟨fun hh => absurd (hh.symm.trans hop) (by decide), fun _ => ⟨fun hh => absurd (hh.symm.trans hop) (by decide), fun _ => ⟨fun hh => absurd (hh.symm.trans hop) (by decide), fun _ => ⟨fun hh => absurd (hh.symm.trans hop) (by decide), fun _ => ⟨fun _ => ?_, fun hh => absurd hop hh⟩⟩⟩⟩⟩⟩⟩⟩⟩⟩⟩⟩⟩⟩⟩⟩
  rw [t1, n1, w1, sL]
  refine ⟨by omega, by omega, _, _, v1, e_Law_law_311 ?_⟩
  rw [i1, t1, n1, w1, sL]
  exact ⟨by omega, by omega, _, _, v2, e_Law_law_318 ⟨fun _ => hw, fun hh => absurd rfl hh⟩⟩
theorem l_square {A : s_A} {L i : Nat} {xs : Nat → Int32} {d : qD} {b : Nat} (hi : i + 6 ≤ L) (hL : L ≤ 3072) (I : s_I A L xs d b) (K : ∀ A2 d2 b2, s_I A2 L xs d2 b2 → ∃ w2, q_Ev m_Law_law 559 (s_lwl (i : Int)) [] (q_mk d2 b2) (q_i 1, w2)) (hop : q_and (d.1 1 0 (i : Int).toNat) 31 = 14) : ∃ w2, q_Ev m_Law_law 10 (s_lwl (i : Int)) [] (q_mk d b) (q_i 1, w2) := by
  obtain ⟨hv, eC, eM, hb, sL, sX⟩ := id I
  have w1 : q_w ((i : Int) + 1) = ((i + 1 : Nat) : Int) := q_wJ 1 hi hL (by omega)
  have t1 : (q_w ((i : Int) + 1)).toNat = i + 1 := by rw [w1, Int.toNat_natCast]
  have n1 : d.1 1 0 (i + 1) = (xs (i + 1)).toInt := sX _ (by omega)
  obtain ⟨x, d1, b1, d2, A2, v1, v2, hb2, hv2, eC2, eM2, i1, i2⟩ := b_square ((xs (i + 1)).toInt)  A d b hv eC eM hb
  obtain ⟨wz, hw⟩ := K A2 d2 b1 (s_I_of I hv2 eC2 eM2 hb2 i2)
  refine ⟨wz, e_Law_law_10 ⟨fun hh => by rw [sL, q_w_id (by omega) (by omega)] at hh; omega, fun _ => ⟨by omega, by rw [sL]; omega, fun hh => absurd (hh.symm.trans hop) (by decide), fun _ => ⟨fun hh => absurd (hh.symm.trans hop) (by decide), fun _ => ⟨fun hh => absurd (hh.symm.trans hop) (by decide), fun _ => ⟨fun hh => absurd (hh.symm.trans hop) (by decide), fun _ => ⟨fun hh => absurd (hh.symm.trans hop) (by decide), fun _ => ⟨fun hh => absurd (hh.symm.trans hop) (by decide), fun _ => ⟨fun hh => absurd (hh.symm.trans hop) (by decide), fun _ => ⟨fun hh => absurd (hh.symm.trans hop) (by decide), fun _ => ⟨fun hh => absurd (hh.symm.trans hop) (by decide), fun _ => ⟨fun hh => absurd (hh.symm.trans hop) (by decide), fun _ => ⟨fun hh => absurd (hh.symm.trans hop) (by decide), fun _ => ⟨fun hh => absurd (hh.symm.trans hop) (by decide), fun _ => ⟨fun hh => absurd (hh.symm.trans hop) (by decide), fun _ => ⟨fun hh => absurd (hh.symm.trans hop) (by decide), fun _ => ⟨fun _ => ?_, fun hh => absurd hop hh⟩⟩⟩⟩⟩⟩⟩⟩⟩⟩⟩⟩⟩⟩⟩⟩⟩
  rw [t1, n1, w1, sL]
  refine ⟨by omega, by omega, _, _, v1, e_Law_law_328 ?_⟩
  rw [i1, t1, n1, w1, sL]
  exact ⟨by omega, by omega, _, _, v2, e_Law_law_335 ⟨fun _ => hw, fun hh => absurd rfl hh⟩⟩
theorem l_move {A : s_A} {L i : Nat} {xs : Nat → Int32} {d : qD} {b : Nat} (hi : i + 6 ≤ L) (hL : L ≤ 3072) (I : s_I A L xs d b) (K : ∀ A2 d2 b2, s_I A2 L xs d2 b2 → ∃ w2, q_Ev m_Law_law 559 (s_lwl (i : Int)) [] (q_mk d2 b2) (q_i 1, w2)) (hop : q_and (d.1 1 0 (i : Int).toNat) 31 = 15) : ∃ w2, q_Ev m_Law_law 10 (s_lwl (i : Int)) [] (q_mk d b) (q_i 1, w2) := by
  obtain ⟨hv, eC, eM, hb, sL, sX⟩ := id I
  have w1 : q_w ((i : Int) + 1) = ((i + 1 : Nat) : Int) := q_wJ 1 hi hL (by omega)
  have t1 : (q_w ((i : Int) + 1)).toNat = i + 1 := by rw [w1, Int.toNat_natCast]
  have n1 : d.1 1 0 (i + 1) = (xs (i + 1)).toInt := sX _ (by omega)
  obtain ⟨x, d1, b1, d2, A2, v1, v2, hb2, hv2, eC2, eM2, i1, i2⟩ := b_move ((xs (i + 1)).toInt) (q_can_i _) A d b hv eC eM hb
  obtain ⟨wz, hw⟩ := K A2 d2 b1 (s_I_of I hv2 eC2 eM2 hb2 i2)
  refine ⟨wz, e_Law_law_10 ⟨fun hh => by rw [sL, q_w_id (by omega) (by omega)] at hh; omega, fun _ => ⟨by omega, by rw [sL]; omega, fun hh => absurd (hh.symm.trans hop) (by decide), fun _ => ⟨fun hh => absurd (hh.symm.trans hop) (by decide), fun _ => ⟨fun hh => absurd (hh.symm.trans hop) (by decide), fun _ => ⟨fun hh => absurd (hh.symm.trans hop) (by decide), fun _ => ⟨fun hh => absurd (hh.symm.trans hop) (by decide), fun _ => ⟨fun hh => absurd (hh.symm.trans hop) (by decide), fun _ => ⟨fun hh => absurd (hh.symm.trans hop) (by decide), fun _ => ⟨fun hh => absurd (hh.symm.trans hop) (by decide), fun _ => ⟨fun hh => absurd (hh.symm.trans hop) (by decide), fun _ => ⟨fun hh => absurd (hh.symm.trans hop) (by decide), fun _ => ⟨fun hh => absurd (hh.symm.trans hop) (by decide), fun _ => ⟨fun hh => absurd (hh.symm.trans hop) (by decide), fun _ => ⟨fun hh => absurd (hh.symm.trans hop) (by decide), fun _ => ⟨fun hh => absurd (hh.symm.trans hop) (by decide), fun _ => ⟨fun hh => absurd (hh.symm.trans hop) (by decide), fun _ => ⟨fun _ => ?_, fun hh => absurd hop hh⟩⟩⟩⟩⟩⟩⟩⟩⟩⟩⟩⟩⟩⟩⟩⟩⟩⟩
  rw [t1, n1, w1, sL]
  refine ⟨by omega, by omega, _, _, v1, e_Law_law_345 ?_⟩
  rw [i1, t1, n1, w1, sL]
  exact ⟨by omega, by omega, _, _, v2, e_Law_law_352 ⟨fun _ => hw, fun hh => absurd rfl hh⟩⟩
theorem l_lower {A : s_A} {L i : Nat} {xs : Nat → Int32} {d : qD} {b : Nat} (hi : i + 6 ≤ L) (hL : L ≤ 3072) (I : s_I A L xs d b) (K : ∀ A2 d2 b2, s_I A2 L xs d2 b2 → ∃ w2, q_Ev m_Law_law 559 (s_lwl (i : Int)) [] (q_mk d2 b2) (q_i 1, w2)) (hop : q_and (d.1 1 0 (i : Int).toNat) 31 = 16) : ∃ w2, q_Ev m_Law_law 10 (s_lwl (i : Int)) [] (q_mk d b) (q_i 1, w2) := by
  obtain ⟨hv, eC, eM, hb, sL, sX⟩ := id I
  have w1 : q_w ((i : Int) + 1) = ((i + 1 : Nat) : Int) := q_wJ 1 hi hL (by omega)
  have t1 : (q_w ((i : Int) + 1)).toNat = i + 1 := by rw [w1, Int.toNat_natCast]
  have n1 : d.1 1 0 (i + 1) = (xs (i + 1)).toInt := sX _ (by omega)
  have w2 : q_w ((i : Int) + 2) = ((i + 2 : Nat) : Int) := q_wJ 2 hi hL (by omega)
  have t2 : (q_w ((i : Int) + 2)).toNat = i + 2 := by rw [w2, Int.toNat_natCast]
  have n2 : d.1 1 0 (i + 2) = (xs (i + 2)).toInt := sX _ (by omega)
  obtain ⟨x, d1, b1, d2, A2, v1, v2, hb2, hv2, eC2, eM2, i1, i2⟩ := b_lower ((xs (i + 1)).toInt) ((xs (i + 2)).toInt) (q_can_i _) A d b hv eC eM hb
  obtain ⟨wz, hw⟩ := K A2 d2 b1 (s_I_of I hv2 eC2 eM2 hb2 i2)
  refine ⟨wz, e_Law_law_10 ⟨fun hh => by rw [sL, q_w_id (by omega) (by omega)] at hh; omega, fun _ => ⟨by omega, by rw [sL]; omega, fun hh => absurd (hh.symm.trans hop) (by decide), fun _ => ⟨fun hh => absurd (hh.symm.trans hop) (by decide), fun _ => ⟨fun hh => absurd (hh.symm.trans hop) (by decide), fun _ => ⟨fun hh => absurd (hh.symm.trans hop) (by decide), fun _ => ⟨fun hh => absurd (hh.symm.trans hop) (by decide), fun _ => ⟨fun hh => absurd (hh.symm.trans hop) (by decide), fun _ => ⟨fun hh => absurd (hh.symm.trans hop) (by decide), fun _ => ⟨fun hh => absurd (hh.symm.trans hop) (by decide), fun _ => ⟨fun hh => absurd (hh.symm.trans hop) (by decide), fun _ => ⟨fun hh => absurd (hh.symm.trans hop) (by decide), fun _ => ⟨fun hh => absurd (hh.symm.trans hop) (by decide), fun _ => ⟨fun hh => absurd (hh.symm.trans hop) (by decide), fun _ => ⟨fun hh => absurd (hh.symm.trans hop) (by decide), fun _ => ⟨fun hh => absurd (hh.symm.trans hop) (by decide), fun _ => ⟨fun hh => absurd (hh.symm.trans hop) (by decide), fun _ => ⟨fun hh => absurd (hh.symm.trans hop) (by decide), fun _ => ⟨fun _ => ?_, fun hh => absurd hop hh⟩⟩⟩⟩⟩⟩⟩⟩⟩⟩⟩⟩⟩⟩⟩⟩⟩⟩⟩
  rw [t1, t2, n1, n2, w1, w2, sL]
  refine ⟨by omega, by omega, by omega, by omega, _, _, v1, e_Law_law_367 ?_⟩
  rw [i1, t1, t2, n1, n2, w1, w2, sL]
  exact ⟨by omega, by omega, by omega, by omega, _, _, v2, e_Law_law_379 ⟨fun _ => hw, fun hh => absurd rfl hh⟩⟩
theorem l_upper {A : s_A} {L i : Nat} {xs : Nat → Int32} {d : qD} {b : Nat} (hi : i + 6 ≤ L) (hL : L ≤ 3072) (I : s_I A L xs d b) (K : ∀ A2 d2 b2, s_I A2 L xs d2 b2 → ∃ w2, q_Ev m_Law_law 559 (s_lwl (i : Int)) [] (q_mk d2 b2) (q_i 1, w2)) (hop : q_and (d.1 1 0 (i : Int).toNat) 31 = 17) : ∃ w2, q_Ev m_Law_law 10 (s_lwl (i : Int)) [] (q_mk d b) (q_i 1, w2) := by
  obtain ⟨hv, eC, eM, hb, sL, sX⟩ := id I
  have w1 : q_w ((i : Int) + 1) = ((i + 1 : Nat) : Int) := q_wJ 1 hi hL (by omega)
  have t1 : (q_w ((i : Int) + 1)).toNat = i + 1 := by rw [w1, Int.toNat_natCast]
  have n1 : d.1 1 0 (i + 1) = (xs (i + 1)).toInt := sX _ (by omega)
  have w2 : q_w ((i : Int) + 2) = ((i + 2 : Nat) : Int) := q_wJ 2 hi hL (by omega)
  have t2 : (q_w ((i : Int) + 2)).toNat = i + 2 := by rw [w2, Int.toNat_natCast]
  have n2 : d.1 1 0 (i + 2) = (xs (i + 2)).toInt := sX _ (by omega)
  obtain ⟨x, d1, b1, d2, A2, v1, v2, hb2, hv2, eC2, eM2, i1, i2⟩ := b_upper ((xs (i + 1)).toInt) ((xs (i + 2)).toInt) (q_can_i _) A d b hv eC eM hb
  obtain ⟨wz, hw⟩ := K A2 d2 b1 (s_I_of I hv2 eC2 eM2 hb2 i2)
  refine ⟨wz, e_Law_law_10 ⟨fun hh => by rw [sL, q_w_id (by omega) (by omega)] at hh; omega, fun _ => ⟨by omega, by rw [sL]; omega, fun hh => absurd (hh.symm.trans hop) (by decide), fun _ => ⟨fun hh => absurd (hh.symm.trans hop) (by decide), fun _ => ⟨fun hh => absurd (hh.symm.trans hop) (by decide), fun _ => ⟨fun hh => absurd (hh.symm.trans hop) (by decide), fun _ => ⟨fun hh => absurd (hh.symm.trans hop) (by decide), fun _ => ⟨fun hh => absurd (hh.symm.trans hop) (by decide), fun _ => ⟨fun hh => absurd (hh.symm.trans hop) (by decide), fun _ => ⟨fun hh => absurd (hh.symm.trans hop) (by decide), fun _ => ⟨fun hh => absurd (hh.symm.trans hop) (by decide), fun _ => ⟨fun hh => absurd (hh.symm.trans hop) (by decide), fun _ => ⟨fun hh => absurd (hh.symm.trans hop) (by decide), fun _ => ⟨fun hh => absurd (hh.symm.trans hop) (by decide), fun _ => ⟨fun hh => absurd (hh.symm.trans hop) (by decide), fun _ => ⟨fun hh => absurd (hh.symm.trans hop) (by decide), fun _ => ⟨fun hh => absurd (hh.symm.trans hop) (by decide), fun _ => ⟨fun hh => absurd (hh.symm.trans hop) (by decide), fun _ => ⟨fun hh => absurd (hh.symm.trans hop) (by decide), fun _ => ⟨fun _ => ?_, fun hh => absurd hop hh⟩⟩⟩⟩⟩⟩⟩⟩⟩⟩⟩⟩⟩⟩⟩⟩⟩⟩⟩⟩
  rw [t1, t2, n1, n2, w1, w2, sL]
  refine ⟨by omega, by omega, by omega, by omega, _, _, v1, e_Law_law_394 ?_⟩
  rw [i1, t1, t2, n1, n2, w1, w2, sL]
  exact ⟨by omega, by omega, by omega, by omega, _, _, v2, e_Law_law_406 ⟨fun _ => hw, fun hh => absurd rfl hh⟩⟩
theorem l_down {A : s_A} {L i : Nat} {xs : Nat → Int32} {d : qD} {b : Nat} (hi : i + 6 ≤ L) (hL : L ≤ 3072) (I : s_I A L xs d b) (K : ∀ A2 d2 b2, s_I A2 L xs d2 b2 → ∃ w2, q_Ev m_Law_law 559 (s_lwl (i : Int)) [] (q_mk d2 b2) (q_i 1, w2)) (hop : q_and (d.1 1 0 (i : Int).toNat) 31 = 18) : ∃ w2, q_Ev m_Law_law 10 (s_lwl (i : Int)) [] (q_mk d b) (q_i 1, w2) := by
  obtain ⟨hv, eC, eM, hb, sL, sX⟩ := id I
  have w1 : q_w ((i : Int) + 1) = ((i + 1 : Nat) : Int) := q_wJ 1 hi hL (by omega)
  have t1 : (q_w ((i : Int) + 1)).toNat = i + 1 := by rw [w1, Int.toNat_natCast]
  have n1 : d.1 1 0 (i + 1) = (xs (i + 1)).toInt := sX _ (by omega)
  obtain ⟨x, d1, b1, d2, A2, v1, v2, hb2, hv2, eC2, eM2, i1, i2⟩ := b_down ((xs (i + 1)).toInt)  A d b hv eC eM hb
  obtain ⟨wz, hw⟩ := K A2 d2 b1 (s_I_of I hv2 eC2 eM2 hb2 i2)
  refine ⟨wz, e_Law_law_10 ⟨fun hh => by rw [sL, q_w_id (by omega) (by omega)] at hh; omega, fun _ => ⟨by omega, by rw [sL]; omega, fun hh => absurd (hh.symm.trans hop) (by decide), fun _ => ⟨fun hh => absurd (hh.symm.trans hop) (by decide), fun _ => ⟨fun hh => absurd (hh.symm.trans hop) (by decide), fun _ => ⟨fun hh => absurd (hh.symm.trans hop) (by decide), fun _ => ⟨fun hh => absurd (hh.symm.trans hop) (by decide), fun _ => ⟨fun hh => absurd (hh.symm.trans hop) (by decide), fun _ => ⟨fun hh => absurd (hh.symm.trans hop) (by decide), fun _ => ⟨fun hh => absurd (hh.symm.trans hop) (by decide), fun _ => ⟨fun hh => absurd (hh.symm.trans hop) (by decide), fun _ => ⟨fun hh => absurd (hh.symm.trans hop) (by decide), fun _ => ⟨fun hh => absurd (hh.symm.trans hop) (by decide), fun _ => ⟨fun hh => absurd (hh.symm.trans hop) (by decide), fun _ => ⟨fun hh => absurd (hh.symm.trans hop) (by decide), fun _ => ⟨fun hh => absurd (hh.symm.trans hop) (by decide), fun _ => ⟨fun hh => absurd (hh.symm.trans hop) (by decide), fun _ => ⟨fun hh => absurd (hh.symm.trans hop) (by decide), fun _ => ⟨fun hh => absurd (hh.symm.trans hop) (by decide), fun _ => ⟨fun hh => absurd (hh.symm.trans hop) (by decide), fun _ => ⟨fun _ => ?_, fun hh => absurd hop hh⟩⟩⟩⟩⟩⟩⟩⟩⟩⟩⟩⟩⟩⟩⟩⟩⟩⟩⟩⟩⟩
  rw [t1, n1, w1, sL]
  refine ⟨by omega, by omega, _, _, v1, e_Law_law_416 ?_⟩
  rw [i1, t1, n1, w1, sL]
  exact ⟨by omega, by omega, _, _, v2, e_Law_law_423 ⟨fun _ => hw, fun hh => absurd rfl hh⟩⟩
theorem l_up {A : s_A} {L i : Nat} {xs : Nat → Int32} {d : qD} {b : Nat} (hi : i + 6 ≤ L) (hL : L ≤ 3072) (I : s_I A L xs d b) (K : ∀ A2 d2 b2, s_I A2 L xs d2 b2 → ∃ w2, q_Ev m_Law_law 559 (s_lwl (i : Int)) [] (q_mk d2 b2) (q_i 1, w2)) (hop : q_and (d.1 1 0 (i : Int).toNat) 31 = 19) : ∃ w2, q_Ev m_Law_law 10 (s_lwl (i : Int)) [] (q_mk d b) (q_i 1, w2) := by
  obtain ⟨hv, eC, eM, hb, sL, sX⟩ := id I
  have w1 : q_w ((i : Int) + 1) = ((i + 1 : Nat) : Int) := q_wJ 1 hi hL (by omega)
  have t1 : (q_w ((i : Int) + 1)).toNat = i + 1 := by rw [w1, Int.toNat_natCast]
  have n1 : d.1 1 0 (i + 1) = (xs (i + 1)).toInt := sX _ (by omega)
  obtain ⟨x, d1, b1, d2, A2, v1, v2, hb2, hv2, eC2, eM2, i1, i2⟩ := b_up ((xs (i + 1)).toInt)  A d b hv eC eM hb
  obtain ⟨wz, hw⟩ := K A2 d2 b1 (s_I_of I hv2 eC2 eM2 hb2 i2)
  refine ⟨wz, e_Law_law_10 ⟨fun hh => by rw [sL, q_w_id (by omega) (by omega)] at hh; omega, fun _ => ⟨by omega, by rw [sL]; omega, fun hh => absurd (hh.symm.trans hop) (by decide), fun _ => ⟨fun hh => absurd (hh.symm.trans hop) (by decide), fun _ => ⟨fun hh => absurd (hh.symm.trans hop) (by decide), fun _ => ⟨fun hh => absurd (hh.symm.trans hop) (by decide), fun _ => ⟨fun hh => absurd (hh.symm.trans hop) (by decide), fun _ => ⟨fun hh => absurd (hh.symm.trans hop) (by decide), fun _ => ⟨fun hh => absurd (hh.symm.trans hop) (by decide), fun _ => ⟨fun hh => absurd (hh.symm.trans hop) (by decide), fun _ => ⟨fun hh => absurd (hh.symm.trans hop) (by decide), fun _ => ⟨fun hh => absurd (hh.symm.trans hop) (by decide), fun _ => ⟨fun hh => absurd (hh.symm.trans hop) (by decide), fun _ => ⟨fun hh => absurd (hh.symm.trans hop) (by decide), fun _ => ⟨fun hh => absurd (hh.symm.trans hop) (by decide), fun _ => ⟨fun hh => absurd (hh.symm.trans hop) (by decide), fun _ => ⟨fun hh => absurd (hh.symm.trans hop) (by decide), fun _ => ⟨fun hh => absurd (hh.symm.trans hop) (by decide), fun _ => ⟨fun hh => absurd (hh.symm.trans hop) (by decide), fun _ => ⟨fun hh => absurd (hh.symm.trans hop) (by decide), fun _ => ⟨fun hh => absurd (hh.symm.trans hop) (by decide), fun _ => ⟨fun _ => ?_, fun hh => absurd hop hh⟩⟩⟩⟩⟩⟩⟩⟩⟩⟩⟩⟩⟩⟩⟩⟩⟩⟩⟩⟩⟩⟩
  rw [t1, n1, w1, sL]
  refine ⟨by omega, by omega, _, _, v1, e_Law_law_433 ?_⟩
  rw [i1, t1, n1, w1, sL]
  exact ⟨by omega, by omega, _, _, v2, e_Law_law_440 ⟨fun _ => hw, fun hh => absurd rfl hh⟩⟩
theorem l_turn {A : s_A} {L i : Nat} {xs : Nat → Int32} {d : qD} {b : Nat} (hi : i + 6 ≤ L) (hL : L ≤ 3072) (I : s_I A L xs d b) (K : ∀ A2 d2 b2, s_I A2 L xs d2 b2 → ∃ w2, q_Ev m_Law_law 559 (s_lwl (i : Int)) [] (q_mk d2 b2) (q_i 1, w2)) (hop : q_and (d.1 1 0 (i : Int).toNat) 31 = 20) : ∃ w2, q_Ev m_Law_law 10 (s_lwl (i : Int)) [] (q_mk d b) (q_i 1, w2) := by
  obtain ⟨hv, eC, eM, hb, sL, sX⟩ := id I
  obtain ⟨x, d1, b1, d2, A2, v1, v2, hb2, hv2, eC2, eM2, i1, i2⟩ := b_turn   A d b hv eC eM hb
  obtain ⟨wz, hw⟩ := K A2 d2 b1 (s_I_of I hv2 eC2 eM2 hb2 i2)
  refine ⟨wz, e_Law_law_10 ⟨fun hh => by rw [sL, q_w_id (by omega) (by omega)] at hh; omega, fun _ => ⟨by omega, by rw [sL]; omega, fun hh => absurd (hh.symm.trans hop) (by decide), fun _ => ⟨fun hh => absurd (hh.symm.trans hop) (by decide), fun _ => ⟨fun hh => absurd (hh.symm.trans hop) (by decide), fun _ => ⟨fun hh => absurd (hh.symm.trans hop) (by decide), fun _ => ⟨fun hh => absurd (hh.symm.trans hop) (by decide), fun _ => ⟨fun hh => absurd (hh.symm.trans hop) (by decide), fun _ => ⟨fun hh => absurd (hh.symm.trans hop) (by decide), fun _ => ⟨fun hh => absurd (hh.symm.trans hop) (by decide), fun _ => ⟨fun hh => absurd (hh.symm.trans hop) (by decide), fun _ => ⟨fun hh => absurd (hh.symm.trans hop) (by decide), fun _ => ⟨fun hh => absurd (hh.symm.trans hop) (by decide), fun _ => ⟨fun hh => absurd (hh.symm.trans hop) (by decide), fun _ => ⟨fun hh => absurd (hh.symm.trans hop) (by decide), fun _ => ⟨fun hh => absurd (hh.symm.trans hop) (by decide), fun _ => ⟨fun hh => absurd (hh.symm.trans hop) (by decide), fun _ => ⟨fun hh => absurd (hh.symm.trans hop) (by decide), fun _ => ⟨fun hh => absurd (hh.symm.trans hop) (by decide), fun _ => ⟨fun hh => absurd (hh.symm.trans hop) (by decide), fun _ => ⟨fun hh => absurd (hh.symm.trans hop) (by decide), fun _ => ⟨fun hh => absurd (hh.symm.trans hop) (by decide), fun _ => ⟨fun _ => ?_, fun hh => absurd hop hh⟩⟩⟩⟩⟩⟩⟩⟩⟩⟩⟩⟩⟩⟩⟩⟩⟩⟩⟩⟩⟩⟩⟩
  refine ⟨_, _, v1, e_Law_law_445 ?_⟩
  exact ⟨_, _, v2, e_Law_law_447 ⟨fun _ => hw, fun hh => absurd rfl hh⟩⟩
theorem l_mirror {A : s_A} {L i : Nat} {xs : Nat → Int32} {d : qD} {b : Nat} (hi : i + 6 ≤ L) (hL : L ≤ 3072) (I : s_I A L xs d b) (K : ∀ A2 d2 b2, s_I A2 L xs d2 b2 → ∃ w2, q_Ev m_Law_law 559 (s_lwl (i : Int)) [] (q_mk d2 b2) (q_i 1, w2)) (hop : q_and (d.1 1 0 (i : Int).toNat) 31 = 21) : ∃ w2, q_Ev m_Law_law 10 (s_lwl (i : Int)) [] (q_mk d b) (q_i 1, w2) := by
  obtain ⟨hv, eC, eM, hb, sL, sX⟩ := id I
  obtain ⟨x, d1, b1, d2, A2, v1, v2, hb2, hv2, eC2, eM2, i1, i2⟩ := b_mirror   A d b hv eC eM hb
  obtain ⟨wz, hw⟩ := K A2 d2 b1 (s_I_of I hv2 eC2 eM2 hb2 i2)
  refine ⟨wz, e_Law_law_10 ⟨fun hh => by rw [sL, q_w_id (by omega) (by omega)] at hh; omega, fun _ => ⟨by omega, by rw [sL]; omega, fun hh => absurd (hh.symm.trans hop) (by decide), fun _ => ⟨fun hh => absurd (hh.symm.trans hop) (by decide), fun _ => ⟨fun hh => absurd (hh.symm.trans hop) (by decide), fun _ => ⟨fun hh => absurd (hh.symm.trans hop) (by decide), fun _ => ⟨fun hh => absurd (hh.symm.trans hop) (by decide), fun _ => ⟨fun hh => absurd (hh.symm.trans hop) (by decide), fun _ => ⟨fun hh => absurd (hh.symm.trans hop) (by decide), fun _ => ⟨fun hh => absurd (hh.symm.trans hop) (by decide), fun _ => ⟨fun hh => absurd (hh.symm.trans hop) (by decide), fun _ => ⟨fun hh => absurd (hh.symm.trans hop) (by decide), fun _ => ⟨fun hh => absurd (hh.symm.trans hop) (by decide), fun _ => ⟨fun hh => absurd (hh.symm.trans hop) (by decide), fun _ => ⟨fun hh => absurd (hh.symm.trans hop) (by decide), fun _ => ⟨fun hh => absurd (hh.symm.trans hop) (by decide), fun _ => ⟨fun hh => absurd (hh.symm.trans hop) (by decide), fun _ => ⟨fun hh => absurd (hh.symm.trans hop) (by decide), fun _ => ⟨fun hh => absurd (hh.symm.trans hop) (by decide), fun _ => ⟨fun hh => absurd (hh.symm.trans hop) (by decide), fun _ => ⟨fun hh => absurd (hh.symm.trans hop) (by decide), fun _ => ⟨fun hh => absurd (hh.symm.trans hop) (by decide), fun _ => ⟨fun hh => absurd (hh.symm.trans hop) (by decide), fun _ => ⟨fun _ => ?_, fun hh => absurd hop hh⟩⟩⟩⟩⟩⟩⟩⟩⟩⟩⟩⟩⟩⟩⟩⟩⟩⟩⟩⟩⟩⟩⟩⟩
  refine ⟨_, _, v1, e_Law_law_452 ?_⟩
  exact ⟨_, _, v2, e_Law_law_454 ⟨fun _ => hw, fun hh => absurd rfl hh⟩⟩
theorem l_complement {A : s_A} {L i : Nat} {xs : Nat → Int32} {d : qD} {b : Nat} (hi : i + 6 ≤ L) (hL : L ≤ 3072) (I : s_I A L xs d b) (K : ∀ A2 d2 b2, s_I A2 L xs d2 b2 → ∃ w2, q_Ev m_Law_law 559 (s_lwl (i : Int)) [] (q_mk d2 b2) (q_i 1, w2)) (hop : q_and (d.1 1 0 (i : Int).toNat) 31 = 22) : ∃ w2, q_Ev m_Law_law 10 (s_lwl (i : Int)) [] (q_mk d b) (q_i 1, w2) := by
  obtain ⟨hv, eC, eM, hb, sL, sX⟩ := id I
  obtain ⟨x, d1, b1, d2, A2, v1, v2, hb2, hv2, eC2, eM2, i1, i2⟩ := b_complement   A d b hv eC eM hb
  obtain ⟨wz, hw⟩ := K A2 d2 b1 (s_I_of I hv2 eC2 eM2 hb2 i2)
  refine ⟨wz, e_Law_law_10 ⟨fun hh => by rw [sL, q_w_id (by omega) (by omega)] at hh; omega, fun _ => ⟨by omega, by rw [sL]; omega, fun hh => absurd (hh.symm.trans hop) (by decide), fun _ => ⟨fun hh => absurd (hh.symm.trans hop) (by decide), fun _ => ⟨fun hh => absurd (hh.symm.trans hop) (by decide), fun _ => ⟨fun hh => absurd (hh.symm.trans hop) (by decide), fun _ => ⟨fun hh => absurd (hh.symm.trans hop) (by decide), fun _ => ⟨fun hh => absurd (hh.symm.trans hop) (by decide), fun _ => ⟨fun hh => absurd (hh.symm.trans hop) (by decide), fun _ => ⟨fun hh => absurd (hh.symm.trans hop) (by decide), fun _ => ⟨fun hh => absurd (hh.symm.trans hop) (by decide), fun _ => ⟨fun hh => absurd (hh.symm.trans hop) (by decide), fun _ => ⟨fun hh => absurd (hh.symm.trans hop) (by decide), fun _ => ⟨fun hh => absurd (hh.symm.trans hop) (by decide), fun _ => ⟨fun hh => absurd (hh.symm.trans hop) (by decide), fun _ => ⟨fun hh => absurd (hh.symm.trans hop) (by decide), fun _ => ⟨fun hh => absurd (hh.symm.trans hop) (by decide), fun _ => ⟨fun hh => absurd (hh.symm.trans hop) (by decide), fun _ => ⟨fun hh => absurd (hh.symm.trans hop) (by decide), fun _ => ⟨fun hh => absurd (hh.symm.trans hop) (by decide), fun _ => ⟨fun hh => absurd (hh.symm.trans hop) (by decide), fun _ => ⟨fun hh => absurd (hh.symm.trans hop) (by decide), fun _ => ⟨fun hh => absurd (hh.symm.trans hop) (by decide), fun _ => ⟨fun hh => absurd (hh.symm.trans hop) (by decide), fun _ => ⟨fun _ => ?_, fun hh => absurd hop hh⟩⟩⟩⟩⟩⟩⟩⟩⟩⟩⟩⟩⟩⟩⟩⟩⟩⟩⟩⟩⟩⟩⟩⟩⟩
  refine ⟨_, _, v1, e_Law_law_459 ?_⟩
  exact ⟨_, _, v2, e_Law_law_461 ⟨fun _ => hw, fun hh => absurd rfl hh⟩⟩
theorem l_undo {A : s_A} {L i : Nat} {xs : Nat → Int32} {d : qD} {b : Nat} (hi : i + 6 ≤ L) (hL : L ≤ 3072) (I : s_I A L xs d b) (K : ∀ A2 d2 b2, s_I A2 L xs d2 b2 → ∃ w2, q_Ev m_Law_law 559 (s_lwl (i : Int)) [] (q_mk d2 b2) (q_i 1, w2)) (hop : q_and (d.1 1 0 (i : Int).toNat) 31 = 23) : ∃ w2, q_Ev m_Law_law 10 (s_lwl (i : Int)) [] (q_mk d b) (q_i 1, w2) := by
  obtain ⟨hv, eC, eM, hb, sL, sX⟩ := id I
  obtain ⟨x, d1, b1, d2, A2, v1, v2, hb2, hv2, eC2, eM2, i1, i2⟩ := b_undo   A d b hv eC eM hb
  obtain ⟨wz, hw⟩ := K A2 d2 b1 (s_I_of I hv2 eC2 eM2 hb2 i2)
  refine ⟨wz, e_Law_law_10 ⟨fun hh => by rw [sL, q_w_id (by omega) (by omega)] at hh; omega, fun _ => ⟨by omega, by rw [sL]; omega, fun hh => absurd (hh.symm.trans hop) (by decide), fun _ => ⟨fun hh => absurd (hh.symm.trans hop) (by decide), fun _ => ⟨fun hh => absurd (hh.symm.trans hop) (by decide), fun _ => ⟨fun hh => absurd (hh.symm.trans hop) (by decide), fun _ => ⟨fun hh => absurd (hh.symm.trans hop) (by decide), fun _ => ⟨fun hh => absurd (hh.symm.trans hop) (by decide), fun _ => ⟨fun hh => absurd (hh.symm.trans hop) (by decide), fun _ => ⟨fun hh => absurd (hh.symm.trans hop) (by decide), fun _ => ⟨fun hh => absurd (hh.symm.trans hop) (by decide), fun _ => ⟨fun hh => absurd (hh.symm.trans hop) (by decide), fun _ => ⟨fun hh => absurd (hh.symm.trans hop) (by decide), fun _ => ⟨fun hh => absurd (hh.symm.trans hop) (by decide), fun _ => ⟨fun hh => absurd (hh.symm.trans hop) (by decide), fun _ => ⟨fun hh => absurd (hh.symm.trans hop) (by decide), fun _ => ⟨fun hh => absurd (hh.symm.trans hop) (by decide), fun _ => ⟨fun hh => absurd (hh.symm.trans hop) (by decide), fun _ => ⟨fun hh => absurd (hh.symm.trans hop) (by decide), fun _ => ⟨fun hh => absurd (hh.symm.trans hop) (by decide), fun _ => ⟨fun hh => absurd (hh.symm.trans hop) (by decide), fun _ => ⟨fun hh => absurd (hh.symm.trans hop) (by decide), fun _ => ⟨fun hh => absurd (hh.symm.trans hop) (by decide), fun _ => ⟨fun hh => absurd (hh.symm.trans hop) (by decide), fun _ => ⟨fun hh => absurd (hh.symm.trans hop) (by decide), fun _ => ⟨fun _ => ?_, fun hh => absurd hop hh⟩⟩⟩⟩⟩⟩⟩⟩⟩⟩⟩⟩⟩⟩⟩⟩⟩⟩⟩⟩⟩⟩⟩⟩⟩⟩
  refine ⟨_, _, v1, e_Law_law_466 ?_⟩
  exact ⟨_, _, v2, e_Law_law_468 ⟨fun _ => hw, fun hh => absurd rfl hh⟩⟩
theorem l_howMany {A : s_A} {L i : Nat} {xs : Nat → Int32} {d : qD} {b : Nat} (hi : i + 6 ≤ L) (hL : L ≤ 3072) (I : s_I A L xs d b) (K : ∀ A2 d2 b2, s_I A2 L xs d2 b2 → ∃ w2, q_Ev m_Law_law 559 (s_lwl (i : Int)) [] (q_mk d2 b2) (q_i 1, w2)) (hop : q_and (d.1 1 0 (i : Int).toNat) 31 = 24) : ∃ w2, q_Ev m_Law_law 10 (s_lwl (i : Int)) [] (q_mk d b) (q_i 1, w2) := by
  obtain ⟨hv, eC, eM, hb, sL, sX⟩ := id I
  have w1 : q_w ((i : Int) + 1) = ((i + 1 : Nat) : Int) := q_wJ 1 hi hL (by omega)
  have t1 : (q_w ((i : Int) + 1)).toNat = i + 1 := by rw [w1, Int.toNat_natCast]
  have n1 : d.1 1 0 (i + 1) = (xs (i + 1)).toInt := sX _ (by omega)
  have w2 : q_w ((i : Int) + 2) = ((i + 2 : Nat) : Int) := q_wJ 2 hi hL (by omega)
  have t2 : (q_w ((i : Int) + 2)).toNat = i + 2 := by rw [w2, Int.toNat_natCast]
  have n2 : d.1 1 0 (i + 2) = (xs (i + 2)).toInt := sX _ (by omega)
  have w3 : q_w ((i : Int) + 3) = ((i + 3 : Nat) : Int) := q_wJ 3 hi hL (by omega)
  have t3 : (q_w ((i : Int) + 3)).toNat = i + 3 := by rw [w3, Int.toNat_natCast]
  have n3 : d.1 1 0 (i + 3) = (xs (i + 3)).toInt := sX _ (by omega)
  obtain ⟨x, d1, b1, d2, A2, v1, v2, hb2, hv2, eC2, eM2, i1, i2⟩ := b_howMany ((xs (i + 1)).toInt) ((xs (i + 2)).toInt) ((xs (i + 3)).toInt) (q_can_i _) (q_can_i _) (q_can_i _) A d b hv eC eM hb
  obtain ⟨wz, hw⟩ := K A2 d2 b1 (s_I_of I hv2 eC2 eM2 hb2 i2)
  refine ⟨wz, e_Law_law_10 ⟨fun hh => by rw [sL, q_w_id (by omega) (by omega)] at hh; omega, fun _ => ⟨by omega, by rw [sL]; omega, fun hh => absurd (hh.symm.trans hop) (by decide), fun _ => ⟨fun hh => absurd (hh.symm.trans hop) (by decide), fun _ => ⟨fun hh => absurd (hh.symm.trans hop) (by decide), fun _ => ⟨fun hh => absurd (hh.symm.trans hop) (by decide), fun _ => ⟨fun hh => absurd (hh.symm.trans hop) (by decide), fun _ => ⟨fun hh => absurd (hh.symm.trans hop) (by decide), fun _ => ⟨fun hh => absurd (hh.symm.trans hop) (by decide), fun _ => ⟨fun hh => absurd (hh.symm.trans hop) (by decide), fun _ => ⟨fun hh => absurd (hh.symm.trans hop) (by decide), fun _ => ⟨fun hh => absurd (hh.symm.trans hop) (by decide), fun _ => ⟨fun hh => absurd (hh.symm.trans hop) (by decide), fun _ => ⟨fun hh => absurd (hh.symm.trans hop) (by decide), fun _ => ⟨fun hh => absurd (hh.symm.trans hop) (by decide), fun _ => ⟨fun hh => absurd (hh.symm.trans hop) (by decide), fun _ => ⟨fun hh => absurd (hh.symm.trans hop) (by decide), fun _ => ⟨fun hh => absurd (hh.symm.trans hop) (by decide), fun _ => ⟨fun hh => absurd (hh.symm.trans hop) (by decide), fun _ => ⟨fun hh => absurd (hh.symm.trans hop) (by decide), fun _ => ⟨fun hh => absurd (hh.symm.trans hop) (by decide), fun _ => ⟨fun hh => absurd (hh.symm.trans hop) (by decide), fun _ => ⟨fun hh => absurd (hh.symm.trans hop) (by decide), fun _ => ⟨fun hh => absurd (hh.symm.trans hop) (by decide), fun _ => ⟨fun hh => absurd (hh.symm.trans hop) (by decide), fun _ => ⟨fun hh => absurd (hh.symm.trans hop) (by decide), fun _ => ⟨fun _ => ?_, fun hh => absurd hop hh⟩⟩⟩⟩⟩⟩⟩⟩⟩⟩⟩⟩⟩⟩⟩⟩⟩⟩⟩⟩⟩⟩⟩⟩⟩⟩⟩
  rw [t1, t2, t3, n1, n2, n3, w1, w2, w3, sL]
  refine ⟨by omega, by omega, by omega, by omega, by omega, by omega, _, _, v1, e_Law_law_488 ?_⟩
  rw [i1, t1, t2, t3, n1, n2, n3, w1, w2, w3, sL]
  exact ⟨by omega, by omega, by omega, by omega, by omega, by omega, _, _, v2, e_Law_law_505 ⟨fun _ => hw, fun hh => absurd rfl hh⟩⟩
theorem l_keep {A : s_A} {L i : Nat} {xs : Nat → Int32} {d : qD} {b : Nat} (hi : i + 6 ≤ L) (hL : L ≤ 3072) (I : s_I A L xs d b) (K : ∀ A2 d2 b2, s_I A2 L xs d2 b2 → ∃ w2, q_Ev m_Law_law 559 (s_lwl (i : Int)) [] (q_mk d2 b2) (q_i 1, w2)) (hop : q_and (d.1 1 0 (i : Int).toNat) 31 = 25) : ∃ w2, q_Ev m_Law_law 10 (s_lwl (i : Int)) [] (q_mk d b) (q_i 1, w2) := by
  obtain ⟨hv, eC, eM, hb, sL, sX⟩ := id I
  have w1 : q_w ((i : Int) + 1) = ((i + 1 : Nat) : Int) := q_wJ 1 hi hL (by omega)
  have t1 : (q_w ((i : Int) + 1)).toNat = i + 1 := by rw [w1, Int.toNat_natCast]
  have n1 : d.1 1 0 (i + 1) = (xs (i + 1)).toInt := sX _ (by omega)
  obtain ⟨x, d1, b1, d2, A2, v1, v2, hb2, hv2, eC2, eM2, i1, i2⟩ := b_keep ((xs (i + 1)).toInt) (q_can_i _) A d b hv eC eM hb
  obtain ⟨wz, hw⟩ := K A2 d2 b1 (s_I_of I hv2 eC2 eM2 hb2 i2)
  refine ⟨wz, e_Law_law_10 ⟨fun hh => by rw [sL, q_w_id (by omega) (by omega)] at hh; omega, fun _ => ⟨by omega, by rw [sL]; omega, fun hh => absurd (hh.symm.trans hop) (by decide), fun _ => ⟨fun hh => absurd (hh.symm.trans hop) (by decide), fun _ => ⟨fun hh => absurd (hh.symm.trans hop) (by decide), fun _ => ⟨fun hh => absurd (hh.symm.trans hop) (by decide), fun _ => ⟨fun hh => absurd (hh.symm.trans hop) (by decide), fun _ => ⟨fun hh => absurd (hh.symm.trans hop) (by decide), fun _ => ⟨fun hh => absurd (hh.symm.trans hop) (by decide), fun _ => ⟨fun hh => absurd (hh.symm.trans hop) (by decide), fun _ => ⟨fun hh => absurd (hh.symm.trans hop) (by decide), fun _ => ⟨fun hh => absurd (hh.symm.trans hop) (by decide), fun _ => ⟨fun hh => absurd (hh.symm.trans hop) (by decide), fun _ => ⟨fun hh => absurd (hh.symm.trans hop) (by decide), fun _ => ⟨fun hh => absurd (hh.symm.trans hop) (by decide), fun _ => ⟨fun hh => absurd (hh.symm.trans hop) (by decide), fun _ => ⟨fun hh => absurd (hh.symm.trans hop) (by decide), fun _ => ⟨fun hh => absurd (hh.symm.trans hop) (by decide), fun _ => ⟨fun hh => absurd (hh.symm.trans hop) (by decide), fun _ => ⟨fun hh => absurd (hh.symm.trans hop) (by decide), fun _ => ⟨fun hh => absurd (hh.symm.trans hop) (by decide), fun _ => ⟨fun hh => absurd (hh.symm.trans hop) (by decide), fun _ => ⟨fun hh => absurd (hh.symm.trans hop) (by decide), fun _ => ⟨fun hh => absurd (hh.symm.trans hop) (by decide), fun _ => ⟨fun hh => absurd (hh.symm.trans hop) (by decide), fun _ => ⟨fun hh => absurd (hh.symm.trans hop) (by decide), fun _ => ⟨fun hh => absurd (hh.symm.trans hop) (by decide), fun _ => ⟨fun _ => ?_, fun hh => absurd hop hh⟩⟩⟩⟩⟩⟩⟩⟩⟩⟩⟩⟩⟩⟩⟩⟩⟩⟩⟩⟩⟩⟩⟩⟩⟩⟩⟩⟩
  rw [t1, n1, w1, sL]
  refine ⟨by omega, by omega, _, _, v1, e_Law_law_515 ?_⟩
  rw [i1, t1, n1, w1, sL]
  exact ⟨by omega, by omega, _, _, v2, e_Law_law_522 ⟨fun _ => hw, fun hh => absurd rfl hh⟩⟩
theorem l_has {A : s_A} {L i : Nat} {xs : Nat → Int32} {d : qD} {b : Nat} (hi : i + 6 ≤ L) (hL : L ≤ 3072) (I : s_I A L xs d b) (K : ∀ A2 d2 b2, s_I A2 L xs d2 b2 → ∃ w2, q_Ev m_Law_law 559 (s_lwl (i : Int)) [] (q_mk d2 b2) (q_i 1, w2)) (hop : q_and (d.1 1 0 (i : Int).toNat) 31 = 26) : ∃ w2, q_Ev m_Law_law 10 (s_lwl (i : Int)) [] (q_mk d b) (q_i 1, w2) := by
  obtain ⟨hv, eC, eM, hb, sL, sX⟩ := id I
  have w1 : q_w ((i : Int) + 1) = ((i + 1 : Nat) : Int) := q_wJ 1 hi hL (by omega)
  have t1 : (q_w ((i : Int) + 1)).toNat = i + 1 := by rw [w1, Int.toNat_natCast]
  have n1 : d.1 1 0 (i + 1) = (xs (i + 1)).toInt := sX _ (by omega)
  obtain ⟨x, d1, b1, d2, A2, v1, v2, hb2, hv2, eC2, eM2, i1, i2⟩ := b_has ((xs (i + 1)).toInt) (q_can_i _) A d b hv eC eM hb
  obtain ⟨wz, hw⟩ := K A2 d2 b1 (s_I_of I hv2 eC2 eM2 hb2 i2)
  refine ⟨wz, e_Law_law_10 ⟨fun hh => by rw [sL, q_w_id (by omega) (by omega)] at hh; omega, fun _ => ⟨by omega, by rw [sL]; omega, fun hh => absurd (hh.symm.trans hop) (by decide), fun _ => ⟨fun hh => absurd (hh.symm.trans hop) (by decide), fun _ => ⟨fun hh => absurd (hh.symm.trans hop) (by decide), fun _ => ⟨fun hh => absurd (hh.symm.trans hop) (by decide), fun _ => ⟨fun hh => absurd (hh.symm.trans hop) (by decide), fun _ => ⟨fun hh => absurd (hh.symm.trans hop) (by decide), fun _ => ⟨fun hh => absurd (hh.symm.trans hop) (by decide), fun _ => ⟨fun hh => absurd (hh.symm.trans hop) (by decide), fun _ => ⟨fun hh => absurd (hh.symm.trans hop) (by decide), fun _ => ⟨fun hh => absurd (hh.symm.trans hop) (by decide), fun _ => ⟨fun hh => absurd (hh.symm.trans hop) (by decide), fun _ => ⟨fun hh => absurd (hh.symm.trans hop) (by decide), fun _ => ⟨fun hh => absurd (hh.symm.trans hop) (by decide), fun _ => ⟨fun hh => absurd (hh.symm.trans hop) (by decide), fun _ => ⟨fun hh => absurd (hh.symm.trans hop) (by decide), fun _ => ⟨fun hh => absurd (hh.symm.trans hop) (by decide), fun _ => ⟨fun hh => absurd (hh.symm.trans hop) (by decide), fun _ => ⟨fun hh => absurd (hh.symm.trans hop) (by decide), fun _ => ⟨fun hh => absurd (hh.symm.trans hop) (by decide), fun _ => ⟨fun hh => absurd (hh.symm.trans hop) (by decide), fun _ => ⟨fun hh => absurd (hh.symm.trans hop) (by decide), fun _ => ⟨fun hh => absurd (hh.symm.trans hop) (by decide), fun _ => ⟨fun hh => absurd (hh.symm.trans hop) (by decide), fun _ => ⟨fun hh => absurd (hh.symm.trans hop) (by decide), fun _ => ⟨fun hh => absurd (hh.symm.trans hop) (by decide), fun _ => ⟨fun hh => absurd (hh.symm.trans hop) (by decide), fun _ => ⟨fun _ => ?_, fun hh => absurd hop hh⟩⟩⟩⟩⟩⟩⟩⟩⟩⟩⟩⟩⟩⟩⟩⟩⟩⟩⟩⟩⟩⟩⟩⟩⟩⟩⟩⟩⟩
  rw [t1, n1, w1, sL]
  refine ⟨by omega, by omega, _, _, v1, e_Law_law_532 ?_⟩
  rw [i1, t1, n1, w1, sL]
  exact ⟨by omega, by omega, _, _, v2, e_Law_law_539 ⟨fun _ => hw, fun hh => absurd rfl hh⟩⟩
theorem l_count {A : s_A} {L i : Nat} {xs : Nat → Int32} {d : qD} {b : Nat} (hi : i + 6 ≤ L) (hL : L ≤ 3072) (I : s_I A L xs d b) (K : ∀ A2 d2 b2, s_I A2 L xs d2 b2 → ∃ w2, q_Ev m_Law_law 559 (s_lwl (i : Int)) [] (q_mk d2 b2) (q_i 1, w2)) (hop : q_and (d.1 1 0 (i : Int).toNat) 31 = 27) : ∃ w2, q_Ev m_Law_law 10 (s_lwl (i : Int)) [] (q_mk d b) (q_i 1, w2) := by
  obtain ⟨hv, eC, eM, hb, sL, sX⟩ := id I
  have w1 : q_w ((i : Int) + 1) = ((i + 1 : Nat) : Int) := q_wJ 1 hi hL (by omega)
  have t1 : (q_w ((i : Int) + 1)).toNat = i + 1 := by rw [w1, Int.toNat_natCast]
  have n1 : d.1 1 0 (i + 1) = (xs (i + 1)).toInt := sX _ (by omega)
  obtain ⟨x, d1, b1, d2, A2, v1, v2, hb2, hv2, eC2, eM2, i1, i2⟩ := b_count ((xs (i + 1)).toInt) (q_can_i _) A d b hv eC eM hb
  obtain ⟨wz, hw⟩ := K A2 d2 b1 (s_I_of I hv2 eC2 eM2 hb2 i2)
  refine ⟨wz, e_Law_law_10 ⟨fun hh => by rw [sL, q_w_id (by omega) (by omega)] at hh; omega, fun _ => ⟨by omega, by rw [sL]; omega, fun hh => absurd (hh.symm.trans hop) (by decide), fun _ => ⟨fun hh => absurd (hh.symm.trans hop) (by decide), fun _ => ⟨fun hh => absurd (hh.symm.trans hop) (by decide), fun _ => ⟨fun hh => absurd (hh.symm.trans hop) (by decide), fun _ => ⟨fun hh => absurd (hh.symm.trans hop) (by decide), fun _ => ⟨fun hh => absurd (hh.symm.trans hop) (by decide), fun _ => ⟨fun hh => absurd (hh.symm.trans hop) (by decide), fun _ => ⟨fun hh => absurd (hh.symm.trans hop) (by decide), fun _ => ⟨fun hh => absurd (hh.symm.trans hop) (by decide), fun _ => ⟨fun hh => absurd (hh.symm.trans hop) (by decide), fun _ => ⟨fun hh => absurd (hh.symm.trans hop) (by decide), fun _ => ⟨fun hh => absurd (hh.symm.trans hop) (by decide), fun _ => ⟨fun hh => absurd (hh.symm.trans hop) (by decide), fun _ => ⟨fun hh => absurd (hh.symm.trans hop) (by decide), fun _ => ⟨fun hh => absurd (hh.symm.trans hop) (by decide), fun _ => ⟨fun hh => absurd (hh.symm.trans hop) (by decide), fun _ => ⟨fun hh => absurd (hh.symm.trans hop) (by decide), fun _ => ⟨fun hh => absurd (hh.symm.trans hop) (by decide), fun _ => ⟨fun hh => absurd (hh.symm.trans hop) (by decide), fun _ => ⟨fun hh => absurd (hh.symm.trans hop) (by decide), fun _ => ⟨fun hh => absurd (hh.symm.trans hop) (by decide), fun _ => ⟨fun hh => absurd (hh.symm.trans hop) (by decide), fun _ => ⟨fun hh => absurd (hh.symm.trans hop) (by decide), fun _ => ⟨fun hh => absurd (hh.symm.trans hop) (by decide), fun _ => ⟨fun hh => absurd (hh.symm.trans hop) (by decide), fun _ => ⟨fun hh => absurd (hh.symm.trans hop) (by decide), fun _ => ⟨fun hh => absurd (hh.symm.trans hop) (by decide), fun _ => ⟨fun _ => ?_, fun hh => absurd hop hh⟩⟩⟩⟩⟩⟩⟩⟩⟩⟩⟩⟩⟩⟩⟩⟩⟩⟩⟩⟩⟩⟩⟩⟩⟩⟩⟩⟩⟩⟩
  rw [t1, n1, w1, sL]
  refine ⟨by omega, by omega, _, _, v1, e_Law_law_549 ?_⟩
  rw [i1, t1, n1, w1, sL]
  exact ⟨by omega, by omega, _, _, v2, e_Law_law_556 ⟨fun _ => hw, fun hh => absurd rfl hh⟩⟩
