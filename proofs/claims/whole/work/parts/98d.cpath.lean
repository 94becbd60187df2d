/-! reading a fill: the path, the class -/
def s_pl (x : Int) : Bool := decide (x = 100 ∨ x = 108)
def s_path (sz : Nat) (V : Nat → Int) : Nat → Nat → Nat → Nat → Nat × Nat × Nat
  | 0, n, fi, q => (n, fi, q)
  | f + 1, n, fi, q => if s_pl (s_bt sz V q) = true then s_path sz V f (n + 1) (if s_bt sz V q = 100 then s_with fi (n + 1) else fi) (q + 1) else (n, fi, q)
theorem s_pl_lt {sz q : Nat} {V : Nat → Int} (h : s_pl (s_bt sz V q) = true) : q < sz := by
  refine s_bt_lt (V := V) (fun hc => ?_)
  rw [hc] at h
  exact absurd h (by decide)
theorem s_path_bd {sz : Nat} {V : Nat → Int} : ∀ (f n fi q : Nat), n + f = 8 → fi < 2 ^ n → q ≤ sz → (s_path sz V f n fi q).1 ≤ 8 ∧ (s_path sz V f n fi q).2.1 < 2 ^ (s_path sz V f n fi q).1 ∧ q ≤ (s_path sz V f n fi q).2.2 ∧ (s_path sz V f n fi q).2.2 ≤ sz
  | 0, n, fi, q, hf, hfi, hq => ⟨by show n ≤ 8; omega, hfi, Nat.le_refl _, hq⟩
  | f + 1, n, fi, q, hf, hfi, hq => by
    unfold s_path
    by_cases h : s_pl (s_bt sz V q) = true
    · rw [if_pos h]
      have hlt := s_pl_lt h
      have hfi2 : (if s_bt sz V q = 100 then s_with fi (n + 1) else fi) < 2 ^ (n + 1) := by
        have : fi < 2 ^ (n + 1) := Nat.lt_of_lt_of_le hfi (Nat.pow_le_pow_right (by decide) (by omega))
        split
        · exact s_with_ltn this (by omega) (Nat.le_refl _)
        · exact this
      have ih := s_path_bd (sz := sz) (V := V) f (n + 1) (if s_bt sz V q = 100 then s_with fi (n + 1) else fi) (q + 1) (by omega) hfi2 (by omega)
      exact ⟨ih.1, ih.2.1, by omega, ih.2.2.2⟩
    · rw [if_neg h]
      exact ⟨by show n ≤ 8; omega, hfi, Nat.le_refl _, hq⟩
theorem c_Re_isLetterOfPath {sz q : Nat} {V : Nat → Int} (hz : sz ≤ 160) {d : qD} {b : Nat} (e : s_Tp sz V d) (e4 : d.1 t_Re 0 4 = (q : Int)) : q_Ev m_Re_isLetterOfPath 0 [q_r t_Re 0] [] (q_mk d b) (q_i (q_b2i (s_pl (s_bt sz V q))), q_mk d b) := by
  have k := c_Ta_at (p := q) hz (b := b) e
  rw [← e4] at k
  have yes : (s_bt sz V q = 100 ∨ s_bt sz V q = 108) → q_Ev m_Re_isLetterOfPath 14 [none] [] (q_mk d b) (q_i (q_b2i (s_pl (s_bt sz V q))), q_mk d b) := by
    intro h
    unfold s_pl
    rw [decide_eq_true h]
    exact e_Re_isLetterOfPath_14 (e_Re_isLetterOfPath_17 ⟨by decide, by decide, rfl⟩)
  refine e_Re_isLetterOfPath_0 ⟨_, _, k, e_Re_isLetterOfPath_5 ⟨fun h => yes (Or.inl h), fun h1 => ⟨_, _, k, e_Re_isLetterOfPath_12 ⟨fun h2 => ?_, fun h2 => yes (Or.inr h2)⟩⟩⟩⟩
  unfold s_pl
  rw [decide_eq_false (by rintro (h | h); exact h1 h; exact h2 h)]
  exact e_Re_isLetterOfPath_17 ⟨by decide, by decide, rfl⟩
theorem c_Re_pathGo {sz : Nat} {V : Nat → Int} (hz : sz ≤ 160) {b : Nat} : ∀ (f n fi q : Nat) (d : qD), n + f = 8 → fi < 2 ^ n → q ≤ sz → s_Tp sz V d → d.1 t_Re 0 4 = (q : Int) → d.1 t_Re 0 7 = (n : Int) → ∃ d', q_ag [t_Re] d d' ∧ d'.1 t_Re 0 4 = ((s_path sz V f n fi q).2.2 : Int) ∧ d'.1 t_Re 0 7 = ((s_path sz V f n fi q).1 : Int) ∧ ∀ r, q_Ev m_Re_readPath 40 [q_r t_Re 0, q_i ((s_path sz V f n fi q).2.1 : Int)] [] (q_mk d' b) r → q_Ev m_Re_readPath 5 [q_r t_Re 0, q_i (fi : Int)] [] (q_mk d b) r
  | 0, n, fi, q, d, hf, hfi, hq, e, e4, e7 => ⟨d, q_ag_refl _ _, e4, e7, fun r hr => e_Re_readPath_5 ⟨fun _ => hr, fun hh => by rw [e7] at hh; omega⟩⟩
  | f + 1, n, fi, q, d, hf, hfi, hq, e, e4, e7 => by
    unfold s_path
    have kl := c_Re_isLetterOfPath hz (b := b) e e4
    have ka := c_Ta_at (p := q) hz (b := b) e
    rw [← e4] at ka
    by_cases h : s_pl (s_bt sz V q) = true
    · rw [if_pos h]
      rw [h] at kl
      have hlt := s_pl_lt h
      have h8 : fi < 256 := Nat.lt_of_lt_of_le hfi (s_p8 (by omega))
      have hfi2 : (if s_bt sz V q = 100 then s_with fi (n + 1) else fi) < 2 ^ (n + 1) := by
        have : fi < 2 ^ (n + 1) := Nat.lt_of_lt_of_le hfi (Nat.pow_le_pow_right (by decide) (by omega))
        split
        · exact s_with_ltn this (by omega) (Nat.le_refl _)
        · exact this
      obtain ⟨d', a, r4, r7, k⟩ := c_Re_pathGo (V := V) hz (b := b) f (n + 1) (if s_bt sz V q = 100 then s_with fi (n + 1) else fi) (q + 1) (q_sI (q_sI d t_Re 0 4 ((q + 1 : Nat) : Int)) t_Re 0 7 ((n + 1 : Nat) : Int)) (by omega) hfi2 (by omega) ⟨by rw [q_sI_ne _ _ (by decide), q_sI_ne _ _ (by decide)]; exact e.1, fun j hj => by rw [q_sI_ne _ _ (by decide), q_sI_ne _ _ (by decide)]; exact e.2 j hj⟩ (by rw [q_sI_at, q_up_ne _ _ (by decide), q_sI_at, q_up_at]) (by rw [q_sI_at, q_up_at])
      refine ⟨d', q_ag_tr (q_ag_tr (q_ag_sI (by decide)) (q_ag_sI (by decide))) a, r4, r7, fun r hr => ?_⟩
      have k27 : ∀ w : Nat, w = (if s_bt sz V q = 100 then s_with fi (n + 1) else fi) → q_Ev m_Re_readPath 27 [q_r t_Re 0, q_i (w : Int)] [] (q_mk d b) r := by
        intro w hw
        subst hw
        refine e_Re_readPath_27 ?_
        rw [e4, e7, q_wS (by omega), q_wS (by omega)]
        exact k r hr
      refine e_Re_readPath_5 ⟨fun hh => by rw [e7] at hh; omega, fun _ => ⟨_, _, kl, e_Re_readPath_11 ⟨fun hh => absurd hh (by decide), fun _ => ⟨_, _, ka, e_Re_readPath_17 ⟨fun h1 => k27 fi (by rw [if_neg h1]), fun h1 => ?_⟩⟩⟩⟩⟩
      have hp : 2 ^ n ≤ 2 ^ 7 := Nat.pow_le_pow_right (by decide) (by omega)
      have k27' := k27 (s_with fi (n + 1)) (by rw [if_pos h1])
      rw [e7, q_wS (by omega)]
      refine ⟨_, _, c_Se_only (by omega) (by omega), e_Re_readPath_25 ?_⟩
      rw [show n + 1 - 1 = n by omega, q_or_nat (by omega) (by omega)]
      exact k27'
    · rw [if_neg h]
      rw [Bool.eq_false_iff.mpr h] at kl
      exact ⟨d, q_ag_refl _ _, e4, e7, fun r hr => e_Re_readPath_5 ⟨fun hh => by rw [e7] at hh; omega, fun _ => ⟨_, _, kl, e_Re_readPath_11 ⟨fun _ => hr, fun hh => absurd rfl hh⟩⟩⟩⟩
theorem c_Re_readPath {sz q : Nat} {V : Nat → Int} (hz : sz ≤ 160) (hq : q ≤ sz) {d : qD} {b : Nat} (e : s_Tp sz V d) (e4 : d.1 t_Re 0 4 = (q : Int)) : ∃ d', q_Ev m_Re_readPath 0 [q_r t_Re 0, none] [] (q_mk d b) (q_i (q_b2i (decide (2 ≤ (s_path sz V 8 0 0 q).1 ∧ s_pl (s_bt sz V (s_path sz V 8 0 0 q).2.2) = false))), q_mk d' b) ∧ q_ag [t_Re, t_Di, t_plus] d d' ∧ d'.1 t_Re 0 4 = ((s_path sz V 8 0 0 q).2.2 : Int) ∧ d'.1 t_Re 0 7 = ((s_path sz V 8 0 0 q).1 : Int) ∧ d'.1 t_Di 0 0 = ((s_path sz V 8 0 0 q).1 : Int) ∧ d'.1 t_Di 0 1 = ((s_path sz V 8 0 0 q).2.1 : Int) ∧ (∀ k, k < 9 → d'.1 t_plus 0 k = 0) ∧ (∀ c', c' ≠ 0 → d'.1 t_plus c' = d.1 t_plus c' ∧ d'.1 t_Di c' = d.1 t_Di c') := by
  have bd := s_path_bd (sz := sz) (V := V) 8 0 0 q rfl (by decide) hq
  obtain ⟨d1, a1, r4, r7, k1⟩ := c_Re_pathGo (V := V) hz (b := b) 8 0 0 q (q_sI d t_Re 0 7 0) rfl (by decide) hq ⟨by rw [q_sI_ne _ _ (by decide)]; exact e.1, fun j hj => by rw [q_sI_ne _ _ (by decide)]; exact e.2 j hj⟩ (by rw [q_sI_at, q_up_ne _ _ (by decide)]; exact e4) (by rw [q_sI_at, q_up_at]; rfl)
  generalize s_path sz V 8 0 0 q = o at *
  obtain ⟨n, fi, q'⟩ := o
  dsimp only at *
  obtain ⟨d2, v2, a2, c0, c1, cp, co⟩ := c_Di_clear (c := 0) (x := (n : Int)) (y := (fi : Int)) (d := d1) (b := b)
  have a0 := q_ag_tr (q_ag_sI (S := [t_Re]) (d := d) (t := t_Re) (i := 0) (k := 7) (v := 0) (by decide)) a1
  have e2T : s_Tp sz V d2 := ⟨by rw [a2.1 t_Ta (by decide), a0.1 t_Ta (by decide)]; exact e.1, fun j hj => by rw [a2.1 t_bytes (by decide), a0.1 t_bytes (by decide)]; exact e.2 j hj⟩
  have e24 : d2.1 t_Re 0 4 = (q' : Int) := by rw [a2.1 t_Re (by decide)]; exact r4
  have e27 : d2.1 t_Re 0 7 = (n : Int) := by rw [a2.1 t_Re (by decide)]; exact r7
  have kl := c_Re_isLetterOfPath hz (b := b) e2T e24
  rw [← r7] at v2
  have no : ¬ (2 ≤ n ∧ s_pl (s_bt sz V q') = false) → q_Ev m_Re_readPath 55 [none, none] [] (q_mk d2 b) (q_i (q_b2i (decide (2 ≤ n ∧ s_pl (s_bt sz V q') = false))), q_mk d2 b) := by
    intro h
    rw [decide_eq_false h]
    exact e_Re_readPath_55 (e_Re_readPath_56 ⟨by decide, by decide, rfl⟩)
  refine ⟨d2, e_Re_readPath_0 (k1 _ (e_Re_readPath_40 ⟨_, _, v2, e_Re_readPath_46 ⟨fun hh => no (fun hc => by rw [e27] at hh; omega), fun hh => ⟨_, _, kl, e_Re_readPath_52 ⟨fun hx => no (fun hc => by rw [hc.2] at hx; exact hx rfl), fun hx => ?_⟩⟩⟩⟩)), q_ag_tr (q_ag_up a0 (by decide)) (q_ag_up a2 (by decide)), e24, e27, c0, c1, cp, fun c' hc => by rw [(co c' hc).1, (co c' hc).2, a0.1 t_plus (by decide), a0.1 t_Di (by decide)]; exact ⟨rfl, rfl⟩⟩
  rw [e27] at hh
  rw [decide_eq_true ⟨by omega, q_b2i_f hx⟩]
  exact e_Re_readPath_56 ⟨by decide, by decide, rfl⟩
