/-! the dimension: the network's crossings -/
/-- zeros of a row beyond a column; of all rows so far -/
def s_zb (n : Nat) (F : Nat → Nat) (i w : Nat) : Bool := s_box (s_n1 n F n) i w && !q_hl (s_plus n F i) w
def s_zc (n : Nat) (F : Nat → Nat) (i j : Nat) : Nat := s_sum (fun w => (decide (j < w) && s_zb n F i w).toNat) n
def s_zz (n : Nat) (F : Nat → Nat) (i j : Nat) : Nat := s_sum (fun u => if u < i then s_zc n F u 0 else if u = i then s_zc n F i j else 0) n
theorem s_zc_step {n i j : Nat} {F : Nat → Nat} (h1 : 1 ≤ j) (h2 : j ≤ n) : s_zc n F i (j - 1) = s_zc n F i j + (s_zb n F i j).toNat := by
  unfold s_zc
  have e : s_sum (fun w => (decide (j - 1 < w) && s_zb n F i w).toNat) n = s_sum (fun w => (decide (j < w) && s_zb n F i w).toNat + (if w = j then (s_zb n F i j).toNat else 0)) n := by
    refine s_sum_congr n fun w w1 w2 => ?_
    by_cases hq : w = j
    · rw [if_pos hq, hq, decide_eq_true (show j - 1 < j by omega), decide_eq_false (Nat.lt_irrefl j)]
      simp
    · rw [if_neg hq, Nat.add_zero, decide_eq_decide.mpr (show j - 1 < w ↔ j < w by omega)]
  rw [e, s_sum_add, s_sum_one h1, if_pos h2]
theorem s_zz_step {n i j : Nat} {F : Nat → Nat} (hi : 1 ≤ i) (hin : i ≤ n) (h1 : 1 ≤ j) (h2 : j ≤ n) : s_zz n F i (j - 1) = s_zz n F i j + (s_zb n F i j).toNat := by
  unfold s_zz
  have e : s_sum (fun u => if u < i then s_zc n F u 0 else if u = i then s_zc n F i (j - 1) else 0) n = s_sum (fun u => (if u < i then s_zc n F u 0 else if u = i then s_zc n F i j else 0) + (if u = i then (s_zb n F i j).toNat else 0)) n := by
    refine s_sum_congr n fun u u1 u2 => ?_
    by_cases q1 : u < i
    · rw [if_pos q1, if_pos q1, if_neg (by omega), Nat.add_zero]
    · rw [if_neg q1, if_neg q1]
      by_cases q2 : u = i
      · rw [if_pos q2, if_pos q2, if_pos q2, s_zc_step h1 h2]
      · rw [if_neg q2, if_neg q2, if_neg q2]
  rw [e, s_sum_add, s_sum_one hi, if_pos hin]
theorem s_zc_lo {n i j : Nat} {F : Nat → Nat} (hj : j ≤ i) : s_zc n F i j = s_zc n F i 0 := by
  unfold s_zc
  refine s_sum_congr n fun w w1 w2 => ?_
  by_cases hq : j < w
  · rw [decide_eq_true hq, decide_eq_true (show 0 < w by omega)]
  · have : s_zb n F i w = false := by
      unfold s_zb s_box
      rw [decide_eq_false (show ¬ i < w by omega)]; rfl
    rw [this, Bool.and_false, Bool.and_false]
theorem s_zc_n {n i : Nat} {F : Nat → Nat} : s_zc n F i n = 0 := by
  unfold s_zc
  rw [s_sum_congr (g := fun _ => 0) n (fun w w1 w2 => by rw [decide_eq_false (by omega)]; rfl), s_sum_0]
theorem s_zz_next {n i : Nat} {F : Nat → Nat} : s_zz n F (i + 1) n = s_zz n F i i := by
  unfold s_zz
  refine s_sum_congr n fun u u1 u2 => ?_
  by_cases q1 : u < i
  · rw [if_pos (by omega), if_pos q1]
  · rw [if_neg q1]
    by_cases q2 : u = i
    · rw [if_pos (by omega), if_pos q2, q2, s_zc_lo (Nat.le_refl i)]
    · rw [if_neg (by omega), if_neg q2]
      by_cases q3 : u = i + 1
      · rw [if_pos q3, s_zc_n]
      · rw [if_neg q3]
theorem s_zz_0 {n : Nat} {F : Nat → Nat} : s_zz n F 1 n = 0 := by
  unfold s_zz
  rw [s_sum_congr (g := fun _ => 0) n (fun u u1 u2 => by
    rw [if_neg (by omega)]
    by_cases q : u = 1
    · rw [if_pos q, s_zc_n]
    · rw [if_neg q]), s_sum_0]
/-- the state, the keys of its wires, and where each label stands -/
def s_ks (n : Nat) (F : Nat → Nat) (i j : Nat) (x : Nat → Nat) : Prop := ∃ p : Nat → Nat, (∀ w, 1 ≤ w → w ≤ n → p (x w) = s_key n (s_n1 n F n) i j w) ∧ (∀ u, 1 ≤ u → u ≤ n → ∃ w, 1 ≤ w ∧ w ≤ n ∧ x w = u) ∧ s_asc n p + s_zz n F i j = s_I1 n F
theorem s_ks_step {n i j : Nat} {F x y : Nat → Nat} (h : s_ok n F) (hi : 1 ≤ i) (hij : i < j) (hj : j ≤ n) (hy : y = s_bs (s_n1 n F n) i j x) (hpl : q_hl (s_plus n F i) j = true ↔ s_box (s_n1 n F n) i j = true ∧ x j < x i) (r1 : ∀ w, 1 ≤ w → w ≤ n → 1 ≤ x w ∧ x w ≤ n) (e : s_ks n F i j x) : s_ks n F i (j - 1) y := by
  obtain ⟨p, e1, e2, e3⟩ := e
  have zs := s_zz_step (n := n) (i := i) (j := j) (F := F) hi (by omega) (by omega) hj
  have bi := r1 i hi (by omega)
  have bj := r1 j (by omega) hj
  by_cases hbox : s_box (s_n1 n F n) i j = true
  · obtain ⟨_, hr, hc⟩ := s_box_rc hbox
    obtain ⟨k1, k2, k3, k4⟩ := s_key_box hi hij hj hr hc
    by_cases hlt : x j < x i
    · have he : y = s_sw x i j := by rw [hy, s_bs, hbox, decide_eq_true hlt]; rfl
      have hz : s_zb n F i j = false := by unfold s_zb; rw [hpl.mpr ⟨hbox, hlt⟩, Bool.not_true, Bool.and_false]
      rw [hz] at zs
      refine ⟨p, fun w w1 w2 => ?_, fun u u1 u2 => ?_, by rw [zs]; exact e3⟩
      · rw [he]
        unfold s_sw
        by_cases q1 : w = i
        · rw [if_pos q1, q1, e1 j (by omega) hj, k1]
        · rw [if_neg q1]
          by_cases q2 : w = j
          · rw [if_pos q2, q2, e1 i hi (by omega), k2]
          · rw [if_neg q2, e1 w w1 w2, (k4 w w1 w2 q1 q2).1]
      · obtain ⟨w, w1, w2, w3⟩ := e2 u u1 u2
        rw [he]
        unfold s_sw
        by_cases q1 : w = i
        · refine ⟨j, by omega, hj, ?_⟩
          rw [if_neg (by omega), if_pos rfl, ← q1]; exact w3
        · by_cases q2 : w = j
          · refine ⟨i, hi, by omega, ?_⟩
            rw [if_pos rfl, ← q2]; exact w3
          · exact ⟨w, w1, w2, by rw [if_neg q1, if_neg q2]; exact w3⟩
    · have he : y = x := by rw [hy, s_bs, hbox, decide_eq_false hlt]; rfl
      have hnp : q_hl (s_plus n F i) j = false := by
        cases hq : q_hl (s_plus n F i) j
        · rfl
        · exact absurd (hpl.mp hq).2 hlt
      have hz : s_zb n F i j = true := by unfold s_zb; rw [hbox, hnp]; rfl
      rw [hz, Bool.toNat_true] at zs
      have ei := e1 i hi (by omega)
      have ej := e1 j (by omega) hj
      have hne : x i ≠ x j := fun hh => by rw [hh] at ei; omega
      have hsw := s_asc_sw (n := n) (a := x i) (c := x j) (p := p) (q := fun v => if v = x i then p (x j) else if v = x j then p (x i) else p v) bi.1 (by omega) bj.2 (by omega) (if_pos rfl) (by rw [if_neg (fun hh => hne hh.symm), if_pos rfl]) (by
        intro u u1 u2 u3 u4
        rw [if_neg u3, if_neg u4]
        obtain ⟨w, w1, w2, w3⟩ := e2 u u1 u2
        have wi : w ≠ i := fun hh => by rw [hh] at w3; exact u3 w3.symm
        have wj : w ≠ j := fun hh => by rw [hh] at w3; exact u4 w3.symm
        have := k4 w w1 w2 wi wj
        rw [ei, ej, ← w3, e1 w w1 w2]
        exact ⟨rfl, this.2.1, this.2.2⟩)
      refine ⟨fun v => if v = x i then p (x j) else if v = x j then p (x i) else p v, fun w w1 w2 => ?_, by rw [he]; exact e2, by omega⟩
      rw [he]
      show (if x w = x i then p (x j) else if x w = x j then p (x i) else p (x w)) = _
      by_cases q1 : w = i
      · rw [q1, if_pos rfl, ej, k1]
      · by_cases q2 : w = j
        · rw [q2, if_neg (fun hh => hne hh.symm), if_pos rfl, ei, k2]
        · have kw := k4 w w1 w2 q1 q2
          have ew := e1 w w1 w2
          have n1 : x w ≠ x i := fun hh => by rw [hh, ei] at ew; omega
          have n2 : x w ≠ x j := fun hh => by rw [hh, ej] at ew; omega
          rw [if_neg n1, if_neg n2, ew, kw.1]
  · have he : y = x := by
      rw [hy, s_bs, if_neg (fun hh => hbox (by rw [Bool.and_eq_true] at hh; exact hh.1))]
    have hz : s_zb n F i j = false := by
      unfold s_zb
      rw [show s_box (s_n1 n F n) i j = false by simpa using hbox]; rfl
    rw [hz] at zs
    refine ⟨p, fun w w1 w2 => ?_, by rw [he]; exact e2, by rw [zs]; exact e3⟩
    rw [he, e1 w w1 w2, s_key_no hi hij hj]
    intro hh
    apply hbox
    unfold s_box
    rw [decide_eq_true hij, hh.1, hh.2]; rfl
theorem s_ks_all {n : Nat} {F : Nat → Nat} (h : s_ok n F) : ∀ i, i < n → ∀ t, t ≤ n - (i + 1) → s_ks n F (i + 1) (n - t) (s_S n F i t) := by
  have hb := s_ok_bd h
  have hn := hb.1
  have inner : ∀ i, i < n → s_ks n F (i + 1) (n - 0) (s_S n F i 0) → ∀ t, t ≤ n - (i + 1) → s_ks n F (i + 1) (n - t) (s_S n F i t) := by
    intro i hi h0 t
    induction t with
    | zero => intro _; exact h0
    | succ t ih =>
      intro ht
      have hpl := s_plus_hl (n := n) (i := i) (l := n - t) (F := F) hn hi (by omega)
      rw [show n - (n - t) = t by omega] at hpl
      rw [show n - (t + 1) = n - t - 1 by omega]
      exact s_ks_step h (by omega) (show i + 1 < n - t by omega) (by omega) rfl ⟨fun hh => ⟨(hpl.mp hh).2.2.1, (hpl.mp hh).2.2.2⟩, fun hh => hpl.mpr ⟨by omega, by omega, hh.1, hh.2⟩⟩ (s_S_Z h i hi t (by omega)).1 (ih (by omega))
  intro i
  induction i with
  | zero =>
    intro hi
    refine inner 0 hi ?_
    refine ⟨fun v => s_key n (s_n1 n F n) 1 n (s_tg n (F v)), fun w w1 w2 => ?_, fun u u1 u2 => ?_, ?_⟩
    · show s_key n (s_n1 n F n) 1 n (s_tg n (F (s_src n F n w))) = _
      rw [(s_src_of h w1 w2).2.2]
      rfl
    · exact ⟨s_tg n (F u), (s_tg_le hb u1 u2).1, (s_tg_le hb u1 u2).2, s_src_at h n u u1 u2 (Nat.le_refl n)⟩
    · rw [show n - 0 = n from rfl, s_zz_0, Nat.add_zero]
      unfold s_asc s_I1
      refine s_sum_congr n fun u u1 u2 => s_sum_congr n fun v v1 v2 => ?_
      by_cases huv : u < v
      · rw [decide_eq_true huv, Bool.true_and, Bool.true_and]
        congr 1
        refine decide_eq_decide.mpr ?_
        have tu := s_tg_le hb u1 u2
        have tv := s_tg_le hb v1 v2
        have bu := hb.2 u u1 u2
        have bv := hb.2 v v1 v2
        have hne := h.2.2.2 u v u1 huv v2
        show s_key n (s_n1 n F n) 1 n (s_tg n (F u)) < s_key n (s_n1 n F n) 1 n (s_tg n (F v)) ↔ F v < F u
        rw [s_key_0 tu.1 tu.2, s_key_0 tv.1 tv.2]
        have fu := s_fsr h tu.1 tu.2
        have fv := s_fsr h tv.1 tv.2
        rw [s_src_at h n u u1 u2 (Nat.le_refl n)] at fu
        rw [s_src_at h n v v1 v2 (Nat.le_refl n)] at fv
        have g0 : s_ro n (s_n1 n F n) (s_tg n (F u)) ≤ s_ro n (s_n1 n F n) 0 := by
          have := s_rg_mono (n := n) (fs := s_n1 n F n) (s_tg n (F u)) 0 (by omega)
          rw [Nat.zero_add] at this; exact this.1
        have g1 : s_ro n (s_n1 n F n) (s_tg n (F v)) ≤ s_ro n (s_n1 n F n) 0 := by
          have := s_rg_mono (n := n) (fs := s_n1 n F n) (s_tg n (F v)) 0 (by omega)
          rw [Nat.zero_add] at this; exact this.1
        by_cases ru : n < F u
        · by_cases rv : n < F v
          · rw [if_pos (fu.mpr ru), if_pos (fv.mpr rv)]
            have eu : s_tg n (F u) = F u - n := if_pos ru
            have ev : s_tg n (F v) = F v - n := if_pos rv
            by_cases hlt : s_tg n (F u) < s_tg n (F v)
            · have := (s_rg_lt (fs := s_n1 n F n) hlt tv.2).1 (fv.mpr rv)
              omega
            · have := (s_rg_lt (fs := s_n1 n F n) (show s_tg n (F v) < s_tg n (F u) by omega) tu.2).1 (fu.mpr ru)
              omega
          · rw [if_pos (fu.mpr ru), if_neg (fun hh => rv (fv.mp hh))]
            have := (s_rg_lt (fs := s_n1 n F n) (show 0 < s_tg n (F u) by omega) tu.2).1 (fu.mpr ru)
            omega
        · by_cases rv : n < F v
          · rw [if_neg (fun hh => ru (fu.mp hh)), if_pos (fv.mpr rv)]
            omega
          · rw [if_neg (fun hh => ru (fu.mp hh)), if_neg (fun hh => rv (fv.mp hh))]
            have cu : q_hl (s_n1 n F n) (s_tg n (F u)) = false := by
              cases hq : q_hl (s_n1 n F n) (s_tg n (F u))
              · rfl
              · exact absurd (fu.mp hq) ru
            have cv : q_hl (s_n1 n F n) (s_tg n (F v)) = false := by
              cases hq : q_hl (s_n1 n F n) (s_tg n (F v))
              · rfl
              · exact absurd (fv.mp hq) rv
            have eu : s_tg n (F u) = F u := if_neg ru
            have ev : s_tg n (F v) = F v := if_neg rv
            by_cases hlt : s_tg n (F u) < s_tg n (F v)
            · have := (s_rg_lt (fs := s_n1 n F n) hlt tv.2).2 cv
              omega
            · have := (s_rg_lt (fs := s_n1 n F n) (show s_tg n (F v) < s_tg n (F u) by omega) tu.2).2 cu
              omega
      · rw [decide_eq_false huv, Bool.false_and, Bool.false_and]
  | succ i ih =>
    intro hi
    refine inner (i + 1) hi ?_
    obtain ⟨p, e1, e2, e3⟩ := ih (by omega) (n - (i + 1)) (Nat.le_refl _)
    rw [show n - (n - (i + 1)) = i + 1 by omega] at e1 e3
    have hst : s_S n F (i + 1) 0 = s_S n F i (n - (i + 1)) := s_S_row hn (by omega)
    rw [hst]
    refine ⟨p, fun w w1 w2 => ?_, e2, ?_⟩
    · rw [e1 w w1 w2, show n - 0 = n from rfl, s_key_next (by omega) (by omega) w2]
    · rw [show n - 0 = n from rfl, s_zz_next]; exact e3
theorem s_sorted {n w : Nat} {F : Nat → Nat} (h : s_ok n F) (h1 : 1 ≤ w) (h2 : w ≤ n) : s_S n F (n - 1) 0 w = w := by
  have hn := h.2.1
  have h0 := h.1
  obtain ⟨r1, r2⟩ := s_S_Z h (n - 1) (by omega) 0 (by omega)
  have b1 := r1 w h1 h2
  have key : ∀ m, m < n → (m < s_S n F (n - 1) 0 w ↔ m < w) := by
    intro m hm
    have z := r2 m hm w h1 h2
    rw [show n - 1 + 1 = n by omega, show n - 0 = n from rfl] at z
    rw [z]
    obtain ⟨g3, g4, k3, k4, k5⟩ := s_cnts h hm
    have cj := s_come_hl h hm h1 h2
    have ks : s_pcTo (s_come n F m) w = s_pcTo (s_come n F m) (w - 1) + (q_hl (s_come n F m) w).toNat := by
      have := s_pcTo_s (s_come n F m) (w - 1)
      rw [show w - 1 + 1 = w by omega] at this; exact this
    have g1 := g4 (n - 1) (by omega) (by omega)
    unfold s_Z
    by_cases hr : n < F (s_src n F n w)
    · rw [if_pos hr]
      by_cases q : w < n
      · rw [if_pos q]
      · rw [if_neg q, if_pos (by omega)]
        exact ⟨fun _ => by omega, fun _ => Or.inl hm⟩
    · rw [if_neg hr]
      by_cases hc : q_hl (s_come n F m) w = true
      · have hcc := cj.mp hc
        rw [hc] at ks
        simp only [hc, not_true, false_or, Bool.toNat_true] at ks ⊢
        omega
      · simp only [hc, not_false_eq_true, true_or, and_true, Bool.false_eq_true]
  have k1 := key (w - 1) (by omega)
  by_cases hq : s_S n F (n - 1) 0 w ≤ w
  · omega
  · have := key w (by omega); omega
theorem s_zeros {n : Nat} {F : Nat → Nat} (h : s_ok n F) : s_sum (fun u => s_zc n F u 0) n = s_I1 n F := by
  have h0 := h.1
  obtain ⟨p, e1, e2, e3⟩ := s_ks_all h (n - 1) (by omega) 0 (by omega)
  rw [show n - 1 + 1 = n by omega, show n - 0 = n from rfl] at e1 e3
  have hp : ∀ w, 1 ≤ w → w ≤ n → p w = n - w + 1 := by
    intro w w1 w2
    have := e1 w w1 w2
    rw [s_sorted h w1 w2, s_key_end w1 w2] at this
    exact this
  have ha : s_asc n p = 0 := by
    unfold s_asc
    rw [s_sum_congr (g := fun _ => 0) n (fun u u1 u2 => by
      rw [s_sum_congr (g := fun _ => 0) n (fun v v1 v2 => by
        rw [hp u u1 u2, hp v v1 v2]
        by_cases huv : u < v
        · rw [decide_eq_true huv, decide_eq_false (by omega)]; rfl
        · rw [decide_eq_false huv]; rfl), s_sum_0]), s_sum_0]
  have hz : s_zz n F n n = s_sum (fun u => s_zc n F u 0) n := by
    unfold s_zz
    refine s_sum_congr n fun u u1 u2 => ?_
    by_cases q : u < n
    · rw [if_pos q]
    · have : u = n := by omega
      rw [if_neg q, if_pos this, this, s_zc_lo (Nat.le_refl n)]
  omega
theorem s_pls_sum (P : Nat → Nat) : ∀ i, s_pls P i = s_sum (fun u => q_pc (P u)) i
  | 0 => rfl
  | i + 1 => by rw [s_pls, s_sum, s_pls_sum P i]
/-- the number of + is what the inversions leave -/
theorem s_dim_eq {n : Nat} {F : Nat → Nat} (h : s_ok n F) : s_dim n F = s_dimM n F ∧ q_pc (s_n1 n F n) ≤ n := by
  have hb := s_ok_bd h
  have hn := hb.1
  have h0 := h.1
  have hfs := s_nk_ltn hb 0 (by omega)
  -- + and zeros make the boxes of a row
  have row : ∀ u, 1 ≤ u → u ≤ n → q_pc (s_plus n F u) + s_zc n F u 0 = s_sum (fun w => (s_box (s_n1 n F n) u w).toNat) n := by
    intro u u1 u2
    have e1 : q_pc (s_plus n F u) = s_sum (fun w => (q_hl (s_plus n F u) w).toNat) n := by
      rw [s_sum_pc, ← s_pcTo_8]
      have := s_pcTo_top (s := s_plus n F u) (i := n) (fun w w1 w2 => by
        cases hq : q_hl (s_plus n F u) w
        · rfl
        · have := (s_plus_mt h u1 u2 (by omega)).mp hq
          omega) (8 - n) (by omega)
      rw [show n + (8 - n) = 8 by omega] at this
      exact this
    rw [e1]
    unfold s_zc
    rw [← s_sum_add]
    refine s_sum_congr n fun w w1 w2 => ?_
    rw [decide_eq_true (show 0 < w by omega), Bool.true_and]
    unfold s_zb
    cases hq : q_hl (s_plus n F u) w
    · cases s_box (s_n1 n F n) u w <;> rfl
    · rw [((s_plus_mt h u1 u2 w1).mp hq).2.2.1]; rfl
  have tot : s_pls (s_plus n F) n + s_I1 n F = s_sum (fun u => s_sum (fun w => (s_box (s_n1 n F n) u w).toNat) n) n := by
    rw [s_pls_sum, ← s_zeros h, ← s_sum_add]
    exact s_sum_congr n row
  -- the second kind of inversions
  have i2 : s_I2 n F = s_sum (fun u => s_sum (fun v => (q_hl (s_n1 n F n) u && (!q_hl (s_n1 n F n) v && decide (v < u))).toNat) n) n := by
    unfold s_I2
    rw [← s_sum_src h (fun u => s_sum (fun v => (decide (F v + n < F u)).toNat) n)]
    refine s_sum_congr n fun u u1 u2 => ?_
    rw [← s_sum_src h (fun v => (decide (F v + n < F (s_src n F n u))).toNat)]
    refine s_sum_congr n fun v v1 v2 => ?_
    have au := s_src_bd h u1 u2
    have av := s_src_bd h v1 v2
    congr 1
    rw [s_fs_hl h u1 u2, s_fs_hl h v1 v2]
    by_cases ru : n < F (s_src n F n u)
    · rw [decide_eq_true ru, Bool.true_and]
      by_cases rv : n < F (s_src n F n v)
      · rw [decide_eq_true rv, decide_eq_false (by omega)]; rfl
      · rw [decide_eq_false rv, Bool.not_false, Bool.true_and]
        exact decide_eq_decide.mpr (by omega)
    · rw [decide_eq_false ru, Bool.false_and, decide_eq_false (by omega)]
  have kk : q_pc (s_n1 n F n) = s_pcTo (s_n1 n F n) n := by
    rw [← s_pcTo_8]
    have := s_pcTo_top (s := s_n1 n F n) (i := n) (fun w w1 w2 => s_hln hfs w1) (8 - n) (by omega)
    rw [show n + (8 - n) = 8 by omega] at this; exact this
  have kn := s_pcTo_le (s_n1 n F n) n
  have cols : s_sum (fun v => (!q_hl (s_n1 n F n) v).toNat) n = n - s_pcTo (s_n1 n F n) n := by
    have e : s_sum (fun v => (!q_hl (s_n1 n F n) v).toNat) n + s_sum (fun v => (q_hl (s_n1 n F n) v).toNat) n = s_sum (fun _ => 1) n := by
      rw [← s_sum_add]
      refine s_sum_congr n fun v _ _ => ?_
      cases q_hl (s_n1 n F n) v <;> rfl
    have e1 : ∀ m, s_sum (fun _ => 1) m = m := by
      intro m
      induction m with
      | zero => rfl
      | succ m ih => rw [s_sum, ih]
    rw [s_sum_pc, e1] at e
    omega
  have prod : s_pcTo (s_n1 n F n) n * (n - s_pcTo (s_n1 n F n) n) = s_sum (fun u => s_sum (fun w => (s_box (s_n1 n F n) u w).toNat) n) n + s_I2 n F := by
    rw [i2, ← cols, ← s_sum_pc, s_sum_mulr, ← s_sum_add]
    refine s_sum_congr n fun u u1 u2 => ?_
    rw [s_sum_mull, ← s_sum_add]
    refine s_sum_congr n fun v v1 v2 => ?_
    unfold s_box
    cases hu : q_hl (s_n1 n F n) u
    · simp
    · cases hv : q_hl (s_n1 n F n) v
      · have hne : u ≠ v := fun hh => by rw [hh, hv] at hu; exact absurd hu (by decide)
        by_cases q : u < v
        · rw [decide_eq_true q, decide_eq_false (show ¬ v < u by omega)]; rfl
        · rw [decide_eq_false q, decide_eq_true (show v < u by omega)]; rfl
      · simp
  have inv := s_inv_sum hb (by omega)
  refine ⟨?_, by omega⟩
  unfold s_dim s_dimM
  rw [kk]
  omega
