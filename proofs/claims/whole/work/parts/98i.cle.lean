/-! reading a fill: the first box that breaks LE, the class -/
def s_leR (fi : Nat) (P : Nat → Nat) (i : Nat) : Nat → Nat → Option Nat
  | 0, _ => none
  | f + 1, p => if s_box fi i (i + f + 1) = true then (if s_brk P i (i + f + 1) = true then some (8 * p + 3) else s_leR fi P i f (p + 1)) else s_leR fi P i f p
def s_leO (n fi : Nat) (P G : Nat → Nat) : Nat → Nat → Option Nat
  | 0, _ => none
  | f + 1, i => match s_leR fi P i (n - i) (G i) with
    | some c => some c
    | none => s_leO n fi P G f (i + 1)
theorem s_leR_no {fi i : Nat} {P : Nat → Nat} (h : q_hl fi i = false) : ∀ f p, s_leR fi P i f p = none
  | 0, _ => rfl
  | f + 1, p => by
    unfold s_leR
    rw [if_neg (fun hc => by have := (s_box_rc hc).2.1; rw [h] at this; exact absurd this (by decide))]
    exact s_leR_no h f p
theorem c_Re_leRow {n fi i : Nat} {P : Nat → Nat} (hn : n ≤ 8) (hfi : fi < 256) (h1 : 1 ≤ i) (hi : i ≤ n) (hP : ∀ k, P k < 256) {d : qD} {b : Nat} (eD : d.1 t_Di 0 1 = (fi : Int)) (eP : ∀ k, 1 ≤ k → k ≤ n → d.1 t_plus 0 k = (P k : Int)) {r : Option qV × qW} : ∀ (f p : Nat), i + f ≤ n → p + f ≤ 300 → (∀ c, s_leR fi P i f p = some c → r = (q_i (c : Int), q_mk d b)) → (s_leR fi P i f p = none → q_Ev m_Re_faultOfBoxes 2 [q_r t_Re 0, q_i ((i + 1 : Nat) : Int), none, none] [] (q_mk d b) r) → q_Ev m_Re_faultOfBoxes 14 [q_r t_Re 0, q_i (i : Int), q_i (p : Int), q_i ((i + f : Nat) : Int)] [] (q_mk d b) r
  | 0, p, hf, hp, _, k2 => e_Re_faultOfBoxes_14 ⟨fun _ => by rw [q_wS (by omega)]; exact k2 rfl, fun hh => by omega⟩
  | f + 1, p, hf, hp, k1, k2 => by
    unfold s_leR at k1 k2
    have kb := c_Di_isBox (c := 0) (i := i) (j := i + f + 1) hfi h1 (by omega) (by omega) (by omega) (b := b) eD
    have ew : q_w (((i + (f + 1) : Nat) : Int) + (-1)) = ((i + f : Nat) : Int) := by
      rw [show ((i + (f + 1) : Nat) : Int) + (-1) = ((i + (f + 1) : Nat) : Int) - ((1 : Nat) : Int) by omega, q_wD (by omega) (by omega)]
      congr 1
    by_cases hb : s_box fi i (i + f + 1) = true
    · rw [if_pos hb] at k1 k2
      rw [hb] at kb
      have kk := c_Di_breaksLe (c := 0) (i := i) (j := i + f + 1) h1 (by omega) (by omega) (by omega) hP (b := b) (fun k k1 k2 => eP k k1 (by omega))
      refine e_Re_faultOfBoxes_14 ⟨fun hh => by omega, fun _ => ⟨_, _, kb, e_Re_faultOfBoxes_22 ⟨fun hh => absurd hh (by decide), fun _ => ⟨_, _, kk, e_Re_faultOfBoxes_28 ⟨fun hh => e_Re_faultOfBoxes_35 ?_, fun hh => ?_⟩⟩⟩⟩⟩
      · rw [if_neg (by rw [q_b2i_f hh]; decide)] at k1 k2
        rw [ew, q_wS (by omega)]
        exact c_Re_leRow hn hfi h1 hi hP eD eP f (p + 1) (by omega) (by omega) k1 k2
      · rw [if_pos (q_b2i_t hh)] at k1
        rw [k1 _ rfl]
        exact ⟨_, _, c_Re_fault (k := 3) (by omega) (by omega), e_Re_faultOfBoxes_33 rfl⟩
    · rw [if_neg hb] at k1 k2
      rw [Bool.eq_false_iff.mpr hb] at kb
      refine e_Re_faultOfBoxes_14 ⟨fun hh => by omega, fun _ => ⟨_, _, kb, e_Re_faultOfBoxes_22 ⟨fun _ => e_Re_faultOfBoxes_35 ?_, fun hh => absurd rfl hh⟩⟩⟩
      rw [ew]
      exact c_Re_leRow hn hfi h1 hi hP eD eP f p (by omega) (by omega) k1 k2
theorem c_Re_leNo {n fi i : Nat} {x : Int} (hn : n ≤ 8) (hfi : fi < 256) (h1 : 1 ≤ i) (hi : i ≤ n) (hl : q_hl fi i = false) {d : qD} {b : Nat} (eD : d.1 t_Di 0 1 = (fi : Int)) {r : Option qV × qW} (k2 : q_Ev m_Re_faultOfBoxes 2 [q_r t_Re 0, q_i ((i + 1 : Nat) : Int), none, none] [] (q_mk d b) r) : ∀ (f : Nat), i + f ≤ n → q_Ev m_Re_faultOfBoxes 14 [q_r t_Re 0, q_i (i : Int), q_i x, q_i ((i + f : Nat) : Int)] [] (q_mk d b) r
  | 0, hf => e_Re_faultOfBoxes_14 ⟨fun _ => by rw [q_wS (by omega)]; exact k2, fun hh => by omega⟩
  | f + 1, hf => by
    have kb := c_Di_isBox (c := 0) (i := i) (j := i + f + 1) hfi h1 (by omega) (by omega) (by omega) (b := b) eD
    rw [show s_box fi i (i + f + 1) = false from Bool.eq_false_iff.mpr (fun hc => by have := (s_box_rc hc).2.1; rw [hl] at this; exact absurd this (by decide))] at kb
    have ew : q_w (((i + (f + 1) : Nat) : Int) + (-1)) = ((i + f : Nat) : Int) := by
      rw [show ((i + (f + 1) : Nat) : Int) + (-1) = ((i + (f + 1) : Nat) : Int) - ((1 : Nat) : Int) by omega, q_wD (by omega) (by omega)]
      congr 1
    refine e_Re_faultOfBoxes_14 ⟨fun hh => by omega, fun _ => ⟨_, _, kb, e_Re_faultOfBoxes_22 ⟨fun _ => e_Re_faultOfBoxes_35 ?_, fun hh => absurd rfl hh⟩⟩⟩
    rw [ew]
    exact c_Re_leNo hn hfi h1 hi hl eD k2 f (by omega)
