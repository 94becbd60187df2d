/-! the word of a text; the class reads a text -/
theorem s_all4 {f g : Nat → Int} (h : (List.range 4).all (fun j => decide (f j = g j)) = true) : ∀ j, j < 4 → f j = g j := fun j hj => of_decide_eq_true (List.all_eq_true.mp h j (List.mem_range.mpr hj))
theorem s_all4_t {f g : Nat → Int} (h : ∀ j, j < 4 → f j = g j) : (List.range 4).all (fun j => decide (f j = g j)) = true := List.all_eq_true.mpr (fun j hj => decide_eq_true (h j (List.mem_range.mp hj)))
def s_w4 (sz : Nat) (V : Nat → Int) (q w : Nat) : Bool := (List.range 4).all (fun j => decide (s_bt sz V (q + j) = s_wrd (4 * w + j))) && !s_ltr (s_bt sz V (q + 4))
def s_cellO (sz : Nat) (V : Nat → Int) : s_O := if s_w4 sz V (s_sk sz V 0) 0 = true then s_perm sz V (s_sk sz V (s_sk sz V 0 + 4)) else if s_w4 sz V (s_sk sz V 0) 1 = true then s_fillO sz V (s_sk sz V (s_sk sz V 0 + 4)) else if s_w4 sz V (s_sk sz V 0) 2 = true then s_neckO sz V (s_sk sz V (s_sk sz V 0 + 4)) else .inl (8 * s_sk sz V 0 + 1)
theorem s_wrd_ltr (k : Nat) : s_ltr (s_wrd k) = true := by
  unfold s_wrd
  split <;> decide
theorem s_w4_T {sz q w T : Nat} {V : Nat → Int} (hT : ∀ j, j < T → s_ltr (s_bt sz V (q + j)) = true) (hT2 : s_ltr (s_bt sz V (q + T)) = false) (h : s_w4 sz V q w = true) : T = 4 := by
  unfold s_w4 at h
  rw [Bool.and_eq_true] at h
  have h1 : ∀ j, j < 4 → s_bt sz V (q + j) = s_wrd (4 * w + j) := s_all4 h.1
  by_cases hlt : T < 4
  · rw [h1 T hlt, s_wrd_ltr] at hT2
    exact absurd hT2 (by decide)
  · by_cases hgt : 4 < T
    · have := hT 4 hgt
      rw [this] at h
      exact absurd h.2 (by decide)
    · omega
theorem c_Re_lettersGo {sz q : Nat} {V : Nat → Int} (hz : sz ≤ 160) {b : Nat} : ∀ (f t : Nat) (d : qD), sz - (q + t) = f → q + t ≤ sz → (∀ j, j < t → s_ltr (s_bt sz V (q + j)) = true) → s_Tp sz V d → d.1 t_Re 0 4 = ((q + t : Nat) : Int) → ∃ T, (∀ j, j < T → s_ltr (s_bt sz V (q + j)) = true) ∧ s_ltr (s_bt sz V (q + T)) = false ∧ q + T ≤ sz ∧ ∀ r, q_Ev m_Re_read 33 [q_r t_Re 0, q_i (q : Int), none] [] (q_mk (q_sI d t_Re 0 4 ((q + T : Nat) : Int)) b) r → q_Ev m_Re_read 14 [q_r t_Re 0, q_i (q : Int), none] [] (q_mk d b) r
  | 0, t, d, hf, hq, hT, e, e4 => by
    refine ⟨t, hT, ?_, hq, fun r h => e_Re_read_14 ⟨fun _ => ?_, fun hh => by rw [e4, e.1] at hh; omega⟩⟩
    · rw [s_bt_no (by omega)]; decide
    · rw [s_sI_same e4] at h; exact h
  | f + 1, t, d, hf, hq, hT, e, e4 => by
    have kl := c_Ta_isSmallLetter (p := q + t) hz (b := b) e
    rw [← e4] at kl
    cases hl : s_ltr (s_bt sz V (q + t)) with
    | true =>
      rw [hl] at kl
      obtain ⟨T, h1, h2, h3, k⟩ := c_Re_lettersGo (V := V) (q := q) hz (b := b) f (t + 1) (q_sI d t_Re 0 4 ((q + (t + 1) : Nat) : Int)) (by omega) (by omega) (fun j hj => by
        by_cases hjt : j = t
        · rw [hjt]; exact hl
        · exact hT j (by omega)) ⟨by rw [q_sI_ne _ _ (by decide)]; exact e.1, fun j hj => by rw [q_sI_ne _ _ (by decide)]; exact e.2 j hj⟩ (by rw [q_sI_at, q_up_at])
      refine ⟨T, h1, h2, h3, fun r h => e_Re_read_14 ⟨fun hh => by rw [e4, e.1] at hh; omega, fun _ => ⟨_, _, kl, e_Re_read_25 ⟨fun hh => absurd hh (by decide), fun _ => ?_⟩⟩⟩⟩
      rw [e4, q_wS (by omega)]
      have k' := k r (by rw [s_sI_twice]; exact h)
      exact k'
    | false =>
      rw [hl] at kl
      refine ⟨t, hT, hl, hq, fun r h => e_Re_read_14 ⟨fun hh => by rw [e4, e.1] at hh; omega, fun _ => ⟨_, _, kl, e_Re_read_25 ⟨fun _ => ?_, fun hh => absurd rfl hh⟩⟩⟩⟩
      rw [s_sI_same e4] at h; exact h
theorem q_shl24 : ∀ x : Nat, x < 128 → q_shl (x : Int) 24 = ((x * 16777216 : Nat) : Int) := by decide +kernel
theorem q_shl16 : ∀ x : Nat, x < 128 → q_shl (x : Int) 16 = ((x * 65536 : Nat) : Int) := by decide +kernel
theorem q_shl8 : ∀ x : Nat, x < 128 → q_shl (x : Int) 8 = ((x * 256 : Nat) : Int) := by decide +kernel
theorem s_or_sum {a c i : Nat} (h : c < 2 ^ i) : a * 2 ^ i ||| c = a * 2 ^ i + c := by
  rw [Nat.mul_comm, Nat.two_pow_add_eq_or_of_lt h]
theorem c_Ta_fourBytes {sz q b0 b1 b2 b3 : Nat} {V : Nat → Int} (hz : sz ≤ 160) (hq : q ≤ 1000) (h0 : s_bt sz V q = (b0 : Int)) (h1 : s_bt sz V (q + 1) = (b1 : Int)) (h2 : s_bt sz V (q + 2) = (b2 : Int)) (h3 : s_bt sz V (q + 3) = (b3 : Int)) (l0 : b0 < 128) (l1 : b1 < 128) (l2 : b2 < 128) (l3 : b3 < 128) {d : qD} {b : Nat} (e : s_Tp sz V d) : q_Ev m_Ta_fourBytes 0 [q_r t_Ta 0, q_i (q : Int)] [] (q_mk d b) (q_i ((b0 * 16777216 + b1 * 65536 + b2 * 256 + b3 : Nat) : Int), q_mk d b) := by
  have k0 := c_Ta_at (p := q) hz (b := b) e
  have k1 := c_Ta_at (p := q + 1) hz (b := b) e
  have k2 := c_Ta_at (p := q + 2) hz (b := b) e
  have k3 := c_Ta_at (p := q + 3) hz (b := b) e
  rw [h0] at k0
  rw [h1] at k1
  rw [h2] at k2
  rw [h3] at k3
  have w1 : q_w ((q : Int) + 1) = ((q + 1 : Nat) : Int) := by rw [q_w_id (by omega) (by omega)]; omega
  have w2 : q_w ((q : Int) + 2) = ((q + 2 : Nat) : Int) := by rw [q_w_id (by omega) (by omega)]; omega
  have w3 : q_w ((q : Int) + 3) = ((q + 3 : Nat) : Int) := by rw [q_w_id (by omega) (by omega)]; omega
  have s1 : b0 * 16777216 ||| b1 * 65536 = b0 * 16777216 + b1 * 65536 := s_or_sum (i := 24) (by omega)
  have s2 : b0 * 16777216 + b1 * 65536 ||| b2 * 256 = b0 * 16777216 + b1 * 65536 + b2 * 256 := by
    have := s_or_sum (a := b0 * 256 + b1) (c := b2 * 256) (i := 16) (by omega)
    rw [show (b0 * 256 + b1) * 2 ^ 16 = b0 * 16777216 + b1 * 65536 by omega] at this
    exact this
  have s3 : b0 * 16777216 + b1 * 65536 + b2 * 256 ||| b3 = b0 * 16777216 + b1 * 65536 + b2 * 256 + b3 := by
    have := s_or_sum (a := b0 * 65536 + b1 * 256 + b2) (c := b3) (i := 8) (by omega)
    rw [show (b0 * 65536 + b1 * 256 + b2) * 2 ^ 8 = b0 * 16777216 + b1 * 65536 + b2 * 256 by omega] at this
    exact this
  refine e_Ta_fourBytes_0 ⟨_, _, k0, e_Ta_fourBytes_3 ?_⟩
  rw [w1, q_shl24 _ l0]
  refine ⟨_, _, k1, e_Ta_fourBytes_10 ?_⟩
  rw [w2, q_shl16 _ l1, q_or_nat (by omega) (by omega), s1]
  refine ⟨_, _, k2, e_Ta_fourBytes_18 ?_⟩
  rw [w3, q_shl8 _ l2, q_or_nat (by omega) (by omega), s2]
  refine ⟨_, _, k3, e_Ta_fourBytes_26 ?_⟩
  rw [q_or_nat (by omega) (by omega), s3]
theorem s_ltr_nat {x : Int} (h : s_ltr x = true) : ∃ a : Nat, x = (a : Int) ∧ 97 ≤ a ∧ a ≤ 122 := by
  have h2 : 97 ≤ x ∧ x ≤ 122 := of_decide_eq_true h
  exact ⟨x.toNat, by omega, by omega, by omega⟩
abbrev s_TRR : List Nat := [t_Re, t_Di, t_plus, t_begins, t_reImg, t_sets]
theorem s_w4_iff {sz q w b0 b1 b2 b3 : Nat} {V : Nat → Int} (h0 : s_bt sz V q = (b0 : Int)) (h1 : s_bt sz V (q + 1) = (b1 : Int)) (h2 : s_bt sz V (q + 2) = (b2 : Int)) (h3 : s_bt sz V (q + 3) = (b3 : Int)) (h4 : s_ltr (s_bt sz V (q + 4)) = false) : s_w4 sz V q w = true ↔ (b0 : Int) = s_wrd (4 * w) ∧ (b1 : Int) = s_wrd (4 * w + 1) ∧ (b2 : Int) = s_wrd (4 * w + 2) ∧ (b3 : Int) = s_wrd (4 * w + 3) := by
  unfold s_w4
  rw [h4, Bool.not_false, Bool.and_true]
  refine ⟨fun hh => ?_, fun h => s_all4_t (fun j hj => ?_)⟩
  · have h : ∀ j, j < 4 → s_bt sz V (q + j) = s_wrd (4 * w + j) := s_all4 hh
    exact ⟨h0.symm.trans (h 0 (by decide)), h1.symm.trans (h 1 (by decide)), h2.symm.trans (h 2 (by decide)), h3.symm.trans (h 3 (by decide))⟩
  match j, hj with
  | 0, _ => exact h0.trans h.1
  | 1, _ => exact h1.trans h.2.1
  | 2, _ => exact h2.trans h.2.2.1
  | 3, _ => exact h3.trans h.2.2.2
theorem c_Re_read {sz : Nat} {V : Nat → Int} (hz : sz ≤ 160) {d : qD} {b : Nat} (e : s_Tp sz V d) : ∃ d' code, q_Ev m_Re_read 0 [q_r t_Re 0, none, none] [] (q_mk d b) (q_i code, q_mk d' b) ∧ q_ag s_TRR d d' ∧ (∀ c', c' ≠ 0 → (∀ k, d'.1 t_plus c' k = d.1 t_plus c' k) ∧ d'.1 t_Di c' = d.1 t_Di c') ∧ s_res (s_cellO sz V) d' code := by
  have eT : ∀ (d : qD) (k : Nat) (v : Int), s_Tp sz V d → s_Tp sz V (q_sI d t_Re 0 k v) := fun d k v e => ⟨by rw [q_sI_ne _ _ (by decide)]; exact e.1, fun j hj => by rw [q_sI_ne _ _ (by decide)]; exact e.2 j hj⟩
  have hq := s_sk_le (V := V) (show 0 ≤ sz by omega)
  have sk0 := c_Re_skip (p := 0) hz (b := b) (by omega) (eT _ 5 0 (eT _ 7 0 (eT _ 4 0 e))) (by rw [q_sI_at, q_up_ne _ _ (by decide), q_sI_at, q_up_ne _ _ (by decide), q_sI_at, q_up_at]; rfl)
  unfold s_cellO
  generalize s_sk sz V 0 = q at *
  generalize hd1 : q_sI (q_sI (q_sI (q_sI d t_Re 0 4 0) t_Re 0 7 0) t_Re 0 5 0) t_Re 0 4 (q : Int) = d1 at sk0
  have eT1 : s_Tp sz V d1 := by rw [← hd1]; exact eT _ _ _ (eT _ _ _ (eT _ _ _ (eT _ _ _ e)))
  have e41 : d1.1 t_Re 0 4 = ((q + 0 : Nat) : Int) := by rw [← hd1, q_sI_at, q_up_at]; rfl
  have e51 : d1.1 t_Re 0 5 = 0 := by rw [← hd1, q_sI_at, q_up_ne _ _ (by decide), q_sI_at, q_up_at]
  have a1 : q_ag [t_Re] d d1 := by
    rw [← hd1]
    exact q_ag_tr (q_ag_sI (by decide)) (q_ag_tr (q_ag_sI (by decide)) (q_ag_tr (q_ag_sI (by decide)) (q_ag_sI (by decide))))
  obtain ⟨T, hT, hT2, hTs, go⟩ := c_Re_lettersGo (V := V) (q := q) hz (b := b) (sz - (q + 0)) 0 d1 rfl (by omega) (fun j hj => by omega) eT1 e41
  have e42 : ∀ v, (q_sI d1 t_Re 0 4 v).1 t_Re 0 4 = v := fun v => by rw [q_sI_at, q_up_at]
  have sk2 := c_Re_skip (p := q + T) hz (b := b) (by omega) (eT _ 4 ((q + T : Nat) : Int) eT1) (e42 _)
  rw [s_sI_twice] at sk2
  have hq2 := s_sk_le (V := V) hTs
  have start : ∀ r, q_Ev m_Re_read 33 [q_r t_Re 0, q_i (q : Int), none] [] (q_mk (q_sI d1 t_Re 0 4 ((q + T : Nat) : Int)) b) r → q_Ev m_Re_read 0 [q_r t_Re 0, none, none] [] (q_mk d b) r := by
    intro r h
    refine e_Re_read_0 ⟨_, _, sk0, e_Re_read_11 ?_⟩
    rw [e41]
    exact go r h
  have a2 : q_ag [t_Re] d (q_sI d1 t_Re 0 4 (s_sk sz V (q + T) : Int)) := q_ag_tr a1 (q_ag_sI (by decide))
  have eT2 := eT d1 4 (s_sk sz V (q + T) : Int) eT1
  have co2 : ∀ c', c' ≠ 0 → (∀ k, (q_sI d1 t_Re 0 4 (s_sk sz V (q + T) : Int)).1 t_plus c' k = d.1 t_plus c' k) ∧ (q_sI d1 t_Re 0 4 (s_sk sz V (q + T) : Int)).1 t_Di c' = d.1 t_Di c' := fun c' _ => ⟨fun k => by rw [a2.1 t_plus (by decide)], by rw [a2.1 t_Di (by decide)]⟩
  have bad : ∀ x2 : Int, x2 ≠ 1718185068 → x2 ≠ 1852138347 → x2 ≠ 1885696621 → q_Ev m_Re_read 45 [q_r t_Re 0, q_i (q : Int), none] [.inl x2] (q_mk (q_sI d1 t_Re 0 4 ((q + T : Nat) : Int)) b) (q_i ((8 * q + 1 : Nat) : Int), q_mk (q_sI d1 t_Re 0 4 (s_sk sz V (q + T) : Int)) b) := fun x2 h1 h2 h3 => e_Re_read_45 ⟨_, _, sk2, e_Re_read_48 ⟨fun hh => absurd hh h1, fun _ => ⟨fun hh => absurd hh h2, fun _ => ⟨fun hh => absurd hh h3, fun _ => ⟨_, _, c_Re_fault (k := 1) (by omega) (by omega), e_Re_read_63 rfl⟩⟩⟩⟩⟩
  by_cases h4 : T = 4
  · subst h4
    obtain ⟨b0, g0, l0, u0⟩ := s_ltr_nat (hT 0 (by decide))
    obtain ⟨b1, g1, l1, u1⟩ := s_ltr_nat (hT 1 (by decide))
    obtain ⟨b2, g2, l2, u2⟩ := s_ltr_nat (hT 2 (by decide))
    obtain ⟨b3, g3, l3, u3⟩ := s_ltr_nat (hT 3 (by decide))
    have kf := c_Ta_fourBytes hz (show q ≤ 1000 by omega) g0 g1 g2 g3 (by omega) (by omega) (by omega) (by omega) (b := b) (eT d1 4 ((q + 4 : Nat) : Int) eT1)
    have to45 : ∀ r, q_Ev m_Re_read 45 [q_r t_Re 0, q_i (q : Int), none] [.inl ((b0 * 16777216 + b1 * 65536 + b2 * 256 + b3 : Nat) : Int)] (q_mk (q_sI d1 t_Re 0 4 ((q + 4 : Nat) : Int)) b) r → q_Ev m_Re_read 0 [q_r t_Re 0, none, none] [] (q_mk d b) r := by
      intro r h
      refine start r (e_Re_read_33 ⟨fun hh => ?_, fun _ => ⟨_, _, kf, e_Re_read_43 h⟩⟩)
      rw [e42, q_wD (by omega) (by omega)] at hh
      exact absurd (show ((q + 4 - q : Nat) : Int) = 4 by omega) hh
    have i0 := s_w4_iff (w := 0) g0 g1 g2 g3 hT2
    have i1 := s_w4_iff (w := 1) g0 g1 g2 g3 hT2
    have i2 := s_w4_iff (w := 2) g0 g1 g2 g3 hT2
    have j0 : s_w4 sz V q 0 = true ↔ (b0 : Int) = 112 ∧ (b1 : Int) = 101 ∧ (b2 : Int) = 114 ∧ (b3 : Int) = 109 := i0
    have j1 : s_w4 sz V q 1 = true ↔ (b0 : Int) = 102 ∧ (b1 : Int) = 105 ∧ (b2 : Int) = 108 ∧ (b3 : Int) = 108 := i1
    have j2 : s_w4 sz V q 2 = true ↔ (b0 : Int) = 110 ∧ (b1 : Int) = 101 ∧ (b2 : Int) = 99 ∧ (b3 : Int) = 107 := i2
    have e43 : (q_sI d1 t_Re 0 4 (s_sk sz V (q + 4) : Int)).1 t_Re 0 4 = (s_sk sz V (q + 4) : Int) := e42 _
    by_cases c0 : s_w4 sz V q 0 = true
    · rw [if_pos c0]
      obtain ⟨y0, y1, y2, y3⟩ := j0.mp c0
      obtain ⟨d', code, v, a, rs⟩ := c_Re_readNumbers hz hq2 (b := b) eT2 e43
      refine ⟨d', code, to45 _ (e_Re_read_45 ⟨_, _, sk2, e_Re_read_48 ⟨fun hh => by omega, fun _ => ⟨fun hh => by omega, fun _ => ⟨fun _ => ⟨_, _, v, e_Re_read_52 rfl⟩, fun hh => absurd (by omega) hh⟩⟩⟩⟩), q_ag_tr (q_ag_up a2 (by decide)) (q_ag_up a (by decide)), fun c' hc => ?_, rs⟩
      rw [a.1 t_plus (by decide), a.1 t_Di (by decide)]
      exact co2 c' hc
    · rw [if_neg c0]
      by_cases c1 : s_w4 sz V q 1 = true
      · rw [if_pos c1]
        obtain ⟨y0, y1, y2, y3⟩ := j1.mp c1
        obtain ⟨d', code, v, a, co, rs⟩ := c_Re_readFilling hz hq2 (b := b) eT2 e43
        refine ⟨d', code, to45 _ (e_Re_read_45 ⟨_, _, sk2, e_Re_read_48 ⟨fun _ => ⟨_, _, v, e_Re_read_55 rfl⟩, fun hh => absurd (by omega) hh⟩⟩), q_ag_tr (q_ag_up a2 (by decide)) (q_ag_up a (by decide)), fun c' hc => ⟨fun k => by rw [(co c' hc).1 k, (co2 c' hc).1 k], by rw [(co c' hc).2, (co2 c' hc).2]⟩, rs⟩
      · rw [if_neg c1]
        by_cases c2 : s_w4 sz V q 2 = true
        · rw [if_pos c2]
          obtain ⟨y0, y1, y2, y3⟩ := j2.mp c2
          obtain ⟨d', code, v, a, rs⟩ := c_Re_readSets hz hq2 (b := b) eT2 e43 (by rw [q_sI_at, q_up_ne _ _ (by decide)]; exact e51)
          refine ⟨d', code, to45 _ (e_Re_read_45 ⟨_, _, sk2, e_Re_read_48 ⟨fun hh => by omega, fun _ => ⟨fun _ => ⟨_, _, v, e_Re_read_58 rfl⟩, fun hh => absurd (by omega) hh⟩⟩⟩), q_ag_tr (q_ag_up a2 (by decide)) (q_ag_up a (by decide)), fun c' hc => ?_, rs⟩
          rw [a.1 t_plus (by decide), a.1 t_Di (by decide)]
          exact co2 c' hc
        · rw [if_neg c2]
          refine ⟨_, _, to45 _ (bad _ (fun hh => c1 (j1.mpr ?_)) (fun hh => c2 (j2.mpr ?_)) (fun hh => c0 (j0.mpr ?_))), q_ag_up a2 (by decide), co2, rfl, by omega, by omega⟩
          · have y0 : b0 = 102 := by omega
            have y1 : b1 = 105 := by omega
            have y2 : b2 = 108 := by omega
            have y3 : b3 = 108 := by omega
            subst y0 y1 y2 y3
            exact ⟨rfl, rfl, rfl, rfl⟩
          · have y0 : b0 = 110 := by omega
            have y1 : b1 = 101 := by omega
            have y2 : b2 = 99 := by omega
            have y3 : b3 = 107 := by omega
            subst y0 y1 y2 y3
            exact ⟨rfl, rfl, rfl, rfl⟩
          · have y0 : b0 = 112 := by omega
            have y1 : b1 = 101 := by omega
            have y2 : b2 = 114 := by omega
            have y3 : b3 = 109 := by omega
            subst y0 y1 y2 y3
            exact ⟨rfl, rfl, rfl, rfl⟩
  · have n0 : ∀ w, ¬ s_w4 sz V q w = true := fun w hc => h4 (s_w4_T hT hT2 hc)
    rw [if_neg (n0 0), if_neg (n0 1), if_neg (n0 2)]
    refine ⟨_, _, start _ (e_Re_read_33 ⟨fun _ => bad 0 (by decide) (by decide) (by decide), fun hh => ?_⟩), q_ag_up a2 (by decide), co2, rfl, by omega, by omega⟩
    rw [e42, q_wD (by omega) (by omega)] at hh
    exact absurd (by omega) h4
