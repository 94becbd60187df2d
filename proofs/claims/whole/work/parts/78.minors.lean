/-! ways: minors along the rows -/
def s_lab (S : Nat) : List Nat := (List.range' 1 8).filter (q_hl S)
def s_SL (g : Nat → Int64) : List Nat → Int64
  | [] => 0
  | a :: t => g a + s_SL g t
def s_sg (L : List Nat) (j : Nat) (x : Int64) : Int64 := if (L.filter (fun k => decide (j < k))).length % 2 = 1 then -x else x
def s_DL (M : Nat → Nat → Int64) : List Nat → List Nat → Int64
  | [], _ => 1
  | i :: rs, L => s_SL (fun j => s_sg L j (s_DL M rs (L.filter (fun k => !decide (k = j))) * M i j)) L
theorem s_lab_mem {S j : Nat} : j ∈ s_lab S ↔ 1 ≤ j ∧ j ≤ 8 ∧ q_hl S j = true := by
  unfold s_lab
  rw [List.mem_filter, List.mem_range'_1]
  exact ⟨fun h => ⟨by omega, by omega, h.2⟩, fun h => ⟨by omega, h.2.2⟩⟩
theorem s_lab_nd (S : Nat) : (s_lab S).Nodup := List.Nodup.sublist List.filter_sublist (List.nodup_range' (s := 1) (n := 8))
theorem s_lab_wo {S j : Nat} (hj : 1 ≤ j) : s_lab (s_wo S j) = (s_lab S).filter (fun k => !decide (k = j)) := by
  unfold s_lab
  rw [List.filter_filter]
  refine List.filter_congr (fun k hk => ?_)
  have := (List.mem_range'_1.mp hk).1
  rw [s_wo_hl hj this, Bool.and_comm]
theorem s_lab_len : ∀ S, S < 256 → (s_lab S).length = q_pc S := by decide +kernel
theorem s_shr_nat : ∀ a : Nat, a < 256 → ∀ j : Nat, j < 9 → q_shr (a : Int) (j : Int) = ((a >>> j : Nat) : Int) := by decide +kernel
theorem s_par : ∀ a : Nat, a < 256 → ∀ j : Nat, j < 9 → 1 ≤ j → q_and (q_pc (a >>> j) : Int) 1 = if ((s_lab a).filter (fun k => decide (j < k))).length % 2 = 1 then 1 else 0 := by decide +kernel
theorem s_SL_congr {f g : Nat → Int64} : ∀ L : List Nat, (∀ j ∈ L, f j = g j) → s_SL f L = s_SL g L
  | [], _ => rfl
  | a :: t, h => by unfold s_SL; rw [h a (List.mem_cons_self ..), s_SL_congr t (fun j hj => h j (List.mem_cons_of_mem _ hj))]
theorem s_SL_zero {f : Nat → Int64} : ∀ L : List Nat, (∀ j ∈ L, f j = 0) → s_SL f L = 0
  | [], _ => rfl
  | a :: t, h => by unfold s_SL; rw [h a (List.mem_cons_self ..), s_SL_zero t (fun j hj => h j (List.mem_cons_of_mem _ hj))]; rfl
theorem s_SL_one {f g : Nat → Int64} {j0 : Nat} : ∀ L : List Nat, L.Nodup → j0 ∈ L → (∀ j ∈ L, j ≠ j0 → f j = g j) → g j0 = 0 → s_SL f L = s_SL g L + f j0
  | [], _, hm, _, _ => absurd hm (List.not_mem_nil)
  | a :: t, hn, hm, h, h0 => by
    unfold s_SL
    have hn' := List.nodup_cons.mp hn
    by_cases ha : a = j0
    · subst ha
      rw [h0, s_SL_congr t (fun j hj => h j (List.mem_cons_of_mem _ hj) (fun hc => hn'.1 (hc ▸ hj)))]
      grind
    · rw [h a (List.mem_cons_self ..) ha, s_SL_one t hn'.2 (by
        rcases List.mem_cons.mp hm with hc | hc
        · exact absurd hc.symm ha
        · exact hc) (fun j hj => h j (List.mem_cons_of_mem _ hj)) h0]
      grind
def s_cc (M : Nat → Nat → Int64) (rs : List Nat) (i S j : Nat) : Int64 := s_sg (s_lab S) j (s_DL M rs (s_lab (s_wo S j)) * M i j)
theorem s_cc_DL {M : Nat → Nat → Int64} {rs : List Nat} {i S : Nat} : s_SL (s_cc M rs i S) (s_lab S) = s_DL M (i :: rs) (s_lab S) := by
  refine s_SL_congr _ (fun j hj => ?_)
  unfold s_cc
  rw [s_lab_wo (s_lab_mem.mp hj).1]
/-- what has come to S when all (done', j') before (done, j0) are through -/
def s_pp (M : Nat → Nat → Int64) (rs : List Nat) (i done j0 S : Nat) : Int64 := s_SL (fun j => if s_wo S j < done ∨ (s_wo S j = done ∧ j < j0) then s_cc M rs i S j else 0) (s_lab S)
def s_mi (M : Nat → Nat → Int64) (rs : List Nat) (i done j0 to : Nat) (g : Nat → Int64) : Prop := ∀ S, q_dif S to = 0 → (q_pc S = rs.length → g S = s_DL M rs (s_lab S)) ∧ (q_pc S = rs.length + 1 → g S = s_pp M rs i done j0 S) ∧ (rs.length + 1 < q_pc S → g S = 0)
theorem s_sub_lt {S to : Nat} (ht : to < 256) (h : q_dif S to = 0) : S ≤ to := by
  unfold q_dif at h
  have : S = S &&& to := by
    have e := congrArg (fun x => x ^^^ (S &&& to)) h
    simpa [Nat.xor_assoc] using e
  rw [this]
  exact Nat.and_le_right
theorem s_sub_hl {S to l : Nat} (h : q_dif S to = 0) (hl : q_hl S l = true) : q_hl to l = true := by
  have := q_hl_dif S to l
  rw [h, hl, show q_hl 0 l = false from Nat.zero_testBit _, Bool.true_and] at this
  cases hq : q_hl to l with
  | true => rfl
  | false => rw [hq] at this; exact absurd this (by decide)
theorem s_sub_of {S to : Nat} (hS : S < 256) (h : ∀ l, 1 ≤ l → l ≤ 8 → q_hl S l = true → q_hl to l = true) : q_dif S to = 0 := by
  refine s_ext (q_dif_lt (k := 8) hS) (by decide) (fun l h1 h2 => ?_)
  rw [q_hl_dif, show q_hl 0 l = false from Nat.zero_testBit _]
  cases hq : q_hl S l with
  | false => rfl
  | true => rw [h l h1 h2 hq]; rfl
theorem s_wo_wi {S j done : Nat} (hS : S < 256) (hd : done < 256) (h1 : 1 ≤ j) (h2 : j ≤ 8) (hj : q_hl S j = true) (h : s_wo S j = done) : S = s_with done j := by
  refine s_ext hS (s_with_ltn (n := 8) hd h1 h2) (fun l l1 l2 => ?_)
  rw [s_with_hl h1 l1, ← h, s_wo_hl h1 l1]
  by_cases hq : l = j
  · subst hq; rw [hj]; simp
  · rw [decide_eq_false hq]; simp
theorem s_wi_wo {j done : Nat} (hd : done < 256) (h1 : 1 ≤ j) (h2 : j ≤ 8) (hj : q_hl done j = false) : s_wo (s_with done j) j = done := by
  refine s_ext (s_wo_lt (s_with_ltn (n := 8) hd h1 h2)) hd (fun l l1 l2 => ?_)
  rw [s_wo_hl h1 l1, s_with_hl h1 l1]
  by_cases hq : l = j
  · subst hq; rw [hj]; simp
  · rw [decide_eq_false hq]; simp
theorem s_pp_skip {M : Nat → Nat → Int64} {rs : List Nat} {i done j0 S : Nat} (h : ∀ j ∈ s_lab S, s_wo S j = done → j = j0 → s_cc M rs i S j = 0) : s_pp M rs i done (j0 + 1) S = s_pp M rs i done j0 S := by
  refine s_SL_congr _ (fun j hj => ?_)
  by_cases h1 : s_wo S j < done ∨ (s_wo S j = done ∧ j < j0)
  · rw [if_pos h1, if_pos (by omega)]
  · rw [if_neg h1]
    by_cases h2 : s_wo S j < done ∨ (s_wo S j = done ∧ j < j0 + 1)
    · rw [if_pos h2]; exact h j hj (by omega) (by omega)
    · rw [if_neg h2]
theorem s_pp_next {M : Nat → Nat → Int64} {rs : List Nat} {i done j0 j1 S : Nat} (h : ∀ j ∈ s_lab S, s_wo S j = done → ¬ j < j0 → s_cc M rs i S j = 0) (hj : j1 ≤ 1) : s_pp M rs i (done + 1) j1 S = s_pp M rs i done j0 S := by
  refine s_SL_congr _ (fun j hj => ?_)
  have := (s_lab_mem.mp hj).1
  by_cases h1 : s_wo S j < done ∨ (s_wo S j = done ∧ j < j0)
  · rw [if_pos h1, if_pos (by omega)]
  · rw [if_neg h1]
    by_cases h2 : s_wo S j < done + 1 ∨ (s_wo S j = done + 1 ∧ j < j1)
    · rw [if_pos h2]; exact h j hj (by omega) (by omega)
    · rw [if_neg h2]
theorem s_pp_zero {M : Nat → Nat → Int64} {rs : List Nat} {i S j1 : Nat} (hj1 : j1 ≤ 1) : s_pp M rs i 0 j1 S = 0 := by
  refine s_SL_zero _ (fun j hj => ?_)
  have := (s_lab_mem.mp hj).1
  exact if_neg (by omega)
theorem s_pp_all {M : Nat → Nat → Int64} {rs : List Nat} {i S done j1 : Nat} (h : ∀ j ∈ s_lab S, s_wo S j < done) : s_pp M rs i done j1 S = s_DL M (i :: rs) (s_lab S) := by
  rw [← s_cc_DL]
  refine s_SL_congr _ (fun j hj => ?_)
  exact if_pos (Or.inl (h j hj))
/-- one term added -/
theorem s_mi_add {M : Nat → Nat → Int64} {rs : List Nat} {i done j0 to : Nat} {g : Nat → Int64} (hto : to < 256) (h : s_mi M rs i done j0 to g) (hd : q_dif done to = 0) (hp : q_pc done = rs.length) (h1 : 1 ≤ j0) (h2 : j0 ≤ 8) (hj : q_hl to j0 = true) (hn : q_hl done j0 = false) : s_mi M rs i done (j0 + 1) to (fun S => if S = s_with done j0 then g (s_with done j0) + s_sg (s_lab done) j0 (g done * M i j0) else g S) := by
  have hdl : done < 256 := Nat.lt_of_le_of_lt (s_sub_lt hto hd) hto
  have hwl := s_with_ltn (n := 8) hdl h1 h2
  have hpw := s_pc_with hdl h1 h2 hn
  intro S hS
  have hSl : S < 256 := Nat.lt_of_le_of_lt (s_sub_lt hto hS) hto
  have hh := h S hS
  dsimp only
  by_cases hq : S = s_with done j0
  · rw [if_pos hq]
    refine ⟨fun hp2 => ?_, fun _ => ?_, fun hp2 => ?_⟩
    · rw [hq] at hp2; omega
    · rw [← hq, hh.2.1 (by rw [hq]; omega), (h done hd).1 hp]
      have hm : j0 ∈ s_lab S := s_lab_mem.mpr ⟨h1, h2, by rw [hq, s_with_hl h1 h1]; simp⟩
      have hw : s_wo S j0 = done := by rw [hq]; exact s_wi_wo hdl h1 h2 hn
      have e1 := s_SL_one (f := fun j => if s_wo S j < done ∨ (s_wo S j = done ∧ j < j0 + 1) then s_cc M rs i S j else 0) (g := fun j => if s_wo S j < done ∨ (s_wo S j = done ∧ j < j0) then s_cc M rs i S j else 0) (j0 := j0) (s_lab S) (s_lab_nd S) hm (fun j hj hne => by
        by_cases hc : s_wo S j < done ∨ (s_wo S j = done ∧ j < j0)
        · rw [if_pos hc, if_pos (by omega)]
        · rw [if_neg hc, if_neg (by omega)]) (by rw [if_neg (by omega)])
      unfold s_pp
      rw [e1]
      rw [if_pos (Or.inr ⟨hw, by omega⟩)]
      have e2 : s_cc M rs i S j0 = s_sg (s_lab done) j0 (s_DL M rs (s_lab done) * M i j0) := by
        unfold s_cc s_sg
        rw [hw, ← hw, s_lab_wo h1, List.filter_filter]
        have e3 : (s_lab S).filter (fun k => decide (j0 < k) && !decide (k = j0)) = (s_lab S).filter (fun k => decide (j0 < k)) := List.filter_congr (fun k _ => by
          by_cases hk : j0 < k
          · rw [decide_eq_true hk, decide_eq_false (by omega)]; rfl
          · rw [decide_eq_false hk]; rfl)
        rw [e3]
      rw [e2]
    · rw [hq] at hp2; omega
  · rw [if_neg hq]
    refine ⟨hh.1, fun hp2 => ?_, hh.2.2⟩
    rw [hh.2.1 hp2]
    exact (s_pp_skip (fun j hjm hw hjj => absurd (s_wo_wi hSl hdl (s_lab_mem.mp hjm).1 (s_lab_mem.mp hjm).2.1 (s_lab_mem.mp hjm).2.2 hw) (by rw [hjj]; exact hq))).symm
theorem s_mi_of {M : Nat → Nat → Int64} {rs : List Nat} {i done j0 done' j0' to : Nat} {g : Nat → Int64} (h : s_mi M rs i done j0 to g) (hs : ∀ S, q_dif S to = 0 → q_pc S = rs.length + 1 → s_pp M rs i done' j0' S = s_pp M rs i done j0 S) : s_mi M rs i done' j0' to g := fun S hS => ⟨(h S hS).1, fun hp => by rw [hs S hS hp]; exact (h S hS).2.1 hp, (h S hS).2.2⟩
theorem s_mi_rs {M : Nat → Nat → Int64} {rs : List Nat} {i i' done j1 to : Nat} {g : Nat → Int64} (hto : to < done) (ht : to < 256) (hj1 : j1 ≤ 1) (h : s_mi M rs i done 1 to g) : s_mi M (i :: rs) i' 0 j1 to g := by
  intro S hS
  have hh := h S hS
  refine ⟨fun hp => ?_, fun hp => ?_, fun hp => hh.2.2 (by simp only [List.length_cons] at hp; omega)⟩
  · rw [hh.2.1 hp]
    exact s_pp_all (fun j hj => Nat.lt_of_le_of_lt (Nat.le_trans (Nat.le_of_lt (Nat.lt_of_le_of_ne (by
      have : s_wo S j ≤ S := by
        unfold s_wo q_dif
        have e : S ^^^ (S &&& 2 ^ (j - 1)) = S - (S &&& 2 ^ (j - 1)) := by
          have hs8 : S < 256 := Nat.lt_of_le_of_lt (s_sub_lt ht hS) ht
          have hj8 := (s_lab_mem.mp hj).2.1
          have : ∀ s : Nat, s < 256 → ∀ k : Nat, k < 8 → s ^^^ (s &&& 2 ^ k) = s - (s &&& 2 ^ k) := by decide +kernel
          exact this S hs8 (j - 1) (by have := (s_lab_mem.mp hj).1; omega)
        rw [e]; omega
      exact this) (fun hc => by
        have := s_wo_hl (s := S) (s_lab_mem.mp hj).1 (s_lab_mem.mp hj).1
        rw [hc, (s_lab_mem.mp hj).2.2] at this
        simp at this))) (s_sub_lt ht hS)) hto)
  · rw [s_pp_zero hj1]
    exact hh.2.2 (by simp only [List.length_cons] at hp; omega)
/-- the inner loop of one row: all labels behind one set that is done -/
theorem c_Di_expandIn {c n i to done : Nat} {M : Nat → Nat → Int64} {rs : List Nat} (hn : n ≤ 8) (hto : to < 2 ^ n) (hi : i ≤ n) (hd : q_dif done to = 0) (hp : q_pc done = rs.length) {b : Nat} : ∀ (f j : Nat) (d : qD), j + f = n + 1 → 1 ≤ j → i < j → d.1 t_Di c 0 = (n : Int) → (∀ l, i < l → l ≤ n → q_hl to l = true → d.2 t_pathRow (9 * c + i) l = M i l) → s_mi M rs i done j to (d.2 t_minors c) → ∃ d', q_ag [t_minors] d d' ∧ d'.1 = d.1 ∧ s_mi M rs i done (n + 1) to (d'.2 t_minors c) ∧ ∀ r, q_Ev m_Di_expandRow 72 [q_r t_Di c, q_i (i : Int), q_i (to : Int), q_i (rs.length : Int), q_i (done : Int), none, none, none, none] [] (q_mk d' b) r → q_Ev m_Di_expandRow 19 [q_r t_Di c, q_i (i : Int), q_i (to : Int), q_i (rs.length : Int), q_i (done : Int), q_i (j : Int), none, none, none] [] (q_mk d b) r
  | 0, j, d, hf, h1, hij, e0, eP, em => by
    refine ⟨d, q_ag_refl _ _, rfl, by rw [show n + 1 = j by omega]; exact em, fun r hr => e_Di_expandRow_19 ⟨fun _ => hr, fun hh => ?_⟩⟩
    rw [e0] at hh; omega
  | f + 1, j, d, hf, h1, hij, e0, eP, em => by
    have hp8 := s_p8 hn
    have hto8 : to < 256 := by omega
    have hdl : done < 256 := Nat.lt_of_le_of_lt (s_sub_lt hto8 hd) hto8
    have ed : q_and (to : Int) (q_xor (done : Int) (-1)) = ((q_dif to done : Nat) : Int) := q_andn_nat (by omega) (by omega)
    have hq8 : q_dif to done < 256 := q_dif_lt (k := 8) hto8
    have ev := c_Se_holds (s := q_dif to done) (l := j) (by omega) h1 (by omega) (d := d) (b := b)
    rw [q_hl_dif] at ev
    by_cases hh : q_hl to j = true ∧ q_hl done j = false
    · have hadd := s_mi_add hto8 em hd hp h1 (by omega) hh.1 hh.2
      have hwl := s_with_ltn (n := 8) hdl h1 (by omega)
      have ej := eP j hij (by omega) hh.1
      obtain ⟨d', a, g1, r1, k⟩ := c_Di_expandIn (M := M) hn hto hi hd hp (b := b) f (j + 1) (q_sL d t_minors c (s_with done j) (d.2 t_minors c (s_with done j) + s_sg (s_lab done) j (d.2 t_minors c done * M i j))) (by omega) (by omega) (by omega) e0 (fun l l1 l2 l3 => by rw [q_sL_ne (fun hc => absurd hc.1 (by decide))]; exact eP l l1 l2 l3) (by
        have ex : (q_sL d t_minors c (s_with done j) (d.2 t_minors c (s_with done j) + s_sg (s_lab done) j (d.2 t_minors c done * M i j))).2 t_minors c = fun S => if S = s_with done j then d.2 t_minors c (s_with done j) + s_sg (s_lab done) j (d.2 t_minors c done * M i j) else d.2 t_minors c S := by
          funext S
          rw [q_sL_at]
        rw [ex]; exact hadd)
      refine ⟨d', q_ag_tr (q_ag_sL (by decide)) a, g1, r1, fun r hr => e_Di_expandRow_19 ⟨fun hc => ?_, fun _ => ⟨q_i (q_b2i (q_hl to j && !q_hl done j)), q_mk d b, by rw [ed]; exact ev, e_Di_expandRow_30 ⟨fun hc => ?_, fun _ => ⟨by omega, by omega, by omega, by omega, by omega, by omega, ?_⟩⟩⟩⟩⟩
      · rw [e0] at hc; omega
      · rw [hh.1, hh.2] at hc; exact absurd hc (by decide)
      · have es := s_shr_nat done hdl j (by omega)
        have hshl : done >>> j < 256 := Nat.lt_of_le_of_lt (Nat.shiftRight_le _ _) hdl
        have ep := s_par done hdl j (by omega) h1
        have eo : q_or (done : Int) ((2 ^ (j - 1) : Nat) : Int) = ((s_with done j : Nat) : Int) := by
          have : 2 ^ (j - 1) ≤ 2 ^ 7 := Nat.pow_le_pow_right (by decide) (by omega)
          exact q_or_nat (by omega) (by omega)
        refine ⟨q_i (q_pc (done >>> j) : Int), q_mk d b, by rw [es]; exact c_J_bitCount hshl, ?_⟩
        have fin : ∀ z : Int64, z = s_sg (s_lab done) j (d.2 t_minors c done * M i j) → q_Ev m_Di_expandRow 68 [q_r t_Di c, q_i (i : Int), q_i (to : Int), q_i (rs.length : Int), q_i (done : Int), q_i (j : Int), none, none, none] [.inr (.inl z), .inr (.inl (d.2 t_minors c ((q_or (done : Int) ((2 ^ (j - 1) : Nat) : Int)).toNat))), .inl (q_or (done : Int) ((2 ^ (j - 1) : Nat) : Int)), .inr (.inr (t_minors, c))] (q_mk d b) r := by
          intro z hz
          subst hz
          rw [eo, Int.toNat_natCast]
          refine e_Di_expandRow_68 ⟨by omega, by omega, e_Di_expandRow_70 ?_⟩
          rw [Int.toNat_natCast, q_wS (by omega)]
          exact k r hr
        rw [Int.toNat_natCast, Int.toNat_natCast, Int.toNat_natCast, ej]
        by_cases hodd : ((s_lab done).filter (fun k => decide (j < k))).length % 2 = 1
        · rw [if_pos hodd] at ep
          refine e_Di_expandRow_47 ⟨fun hc => ?_, fun _ => e_Di_expandRow_53 ⟨_, _, c_Se_only h1 (by omega), e_Di_expandRow_59 ⟨by rw [eo]; omega, by rw [eo]; omega, fun hc => absurd hc (by decide), fun _ => fin _ ?_⟩⟩⟩
          · rw [ep] at hc; exact absurd hc (by decide)
          · unfold s_sg; rw [if_pos hodd]
        · rw [if_neg hodd] at ep
          refine e_Di_expandRow_47 ⟨fun _ => e_Di_expandRow_53 ⟨_, _, c_Se_only h1 (by omega), e_Di_expandRow_59 ⟨by rw [eo]; omega, by rw [eo]; omega, fun _ => fin _ ?_, fun hc => absurd rfl hc⟩⟩, fun hc => absurd ep hc⟩
          unfold s_sg; rw [if_neg hodd]
    · have hf2 : (q_hl to j && !q_hl done j) = false := by
        cases h3 : q_hl to j with
        | false => rfl
        | true =>
          cases h4 : q_hl done j with
          | true => rfl
          | false => exact absurd ⟨h3, h4⟩ hh
      obtain ⟨d', a, g1, r1, k⟩ := c_Di_expandIn (M := M) hn hto hi hd hp (b := b) f (j + 1) d (by omega) (by omega) (by omega) e0 eP (s_mi_of em (fun S hS hpS => s_pp_skip (fun j' hj' hw hjj => by
        subst hjj
        exfalso
        have m := s_lab_mem.mp hj'
        refine hh ⟨s_sub_hl hS m.2.2, ?_⟩
        rw [← hw, s_wo_hl m.1 m.1]
        simp)))
      refine ⟨d', a, g1, r1, fun r hr => e_Di_expandRow_19 ⟨fun hc => ?_, fun _ => ⟨q_i (q_b2i (q_hl to j && !q_hl done j)), q_mk d b, by rw [ed]; exact ev, e_Di_expandRow_30 ⟨fun _ => e_Di_expandRow_70 ?_, fun hc => ?_⟩⟩⟩⟩
      · rw [e0] at hc; omega
      · rw [q_wS (by omega)]; exact k r hr
      · rw [hf2] at hc; exact absurd rfl hc
