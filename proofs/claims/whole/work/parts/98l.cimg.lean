/-! the class's ways through a filling: imageOf -/
theorem c_Di_imgTog {c : Nat} {l i j s : Int} {fr p : Bool} {d : qD} {b : Nat} {r : Option qV × qW} (h : q_Ev m_Di_imageOf 11 [q_r t_Di c, q_i l, q_i (q_b2i (fr != p)), q_i i, q_i j, q_i (q_w (s + 1))] [] (q_mk d b) r) : q_Ev m_Di_imageOf 58 [q_r t_Di c, q_i l, q_i (q_b2i fr), q_i i, q_i j, q_i s] [.inl (q_b2i p)] (q_mk d b) r := by
  cases p with
  | false =>
    rw [Bool.bne_false] at h
    exact e_Di_imageOf_58 ⟨fun _ => e_Di_imageOf_65 h, fun hh => absurd rfl hh⟩
  | true =>
    cases fr with
    | false => exact e_Di_imageOf_58 ⟨fun hh => absurd hh (by decide), fun _ => ⟨fun hh => absurd rfl hh, fun _ => e_Di_imageOf_64 (e_Di_imageOf_65 h)⟩⟩
    | true => exact e_Di_imageOf_58 ⟨fun hh => absurd hh (by decide), fun _ => ⟨fun _ => e_Di_imageOf_64 (e_Di_imageOf_65 h), fun hh => absurd hh (by decide)⟩⟩
theorem c_Di_imgGo {c n fs l : Nat} {P : Nat → Nat} {R C : Nat → Nat → Nat} (hn : n ≤ 8) (hf : fs < 256) (hl : 1 ≤ l) (hln : l ≤ n) (hP : ∀ k, P k < 256) (N : s_net n fs (fun i j => q_hl (P i) j) R C) {d : qD} {b : Nat} (e0 : d.1 t_Di c 0 = (n : Int)) (e1 : d.1 t_Di c 1 = (fs : Int)) (eP : ∀ k, 1 ≤ k → k ≤ n → d.1 t_plus c k = (P k : Int)) : ∀ (μ i j s : Nat) (fr : Bool), i + (n - j) ≤ μ → s + i + (n - j) ≤ n → 1 ≤ i → i ≤ l → l ≤ j → j ≤ n → (fr = true → q_hl fs i = true ∧ R i j = l) → (fr = false → q_hl fs j = false ∧ C (i - 1) j = l) → ∃ w, s_exit n fs R C l w ∧ q_Ev m_Di_imageOf 11 [q_r t_Di c, q_i (l : Int), q_i (q_b2i fr), q_i (i : Int), q_i (j : Int), q_i (s : Int)] [] (q_mk d b) (q_i (s_exF n fs w : Int), q_mk d b) := by
  intro μ
  induction μ with
  | zero => intro i j s fr hμ _ hi; omega
  | succ μ ih =>
    intro i j s fr hμ hs hi hil hlj hjn hR hC
    have e2n : q_w (2 * (d.1 t_Di c 0)) = ((2 * n : Nat) : Int) := by
      rw [e0, show (2 : Int) * (n : Int) = ((2 * n : Nat) : Int) by omega, q_nn _ (by omega)]
    cases fr with
    | true =>
      obtain ⟨hri, hRl⟩ := hR rfl
      obtain ⟨m, a1, a2, a3, a4, v⟩ := c_Di_nextColumn (c := c) (j := j) hn hf (b := b) e0 e1 (n - j) (j + 1) (by omega) (by omega) (fun k k1 k2 => by omega)
      have v0 : q_Ev m_Di_nextColumn 0 [q_r t_Di c, q_i (j : Int), none] [] (q_mk d b) (q_i (m : Int), q_mk d b) := by
        refine e_Di_nextColumn_0 ?_
        rw [q_wS (by omega)]
        exact v
      have st : ∀ r, q_Ev m_Di_imageOf 22 [q_r t_Di c, q_i (l : Int), q_i (q_b2i true), q_i (i : Int), none, q_i (s : Int)] [.inl (m : Int)] (q_mk d b) r → q_Ev m_Di_imageOf 11 [q_r t_Di c, q_i (l : Int), q_i (q_b2i true), q_i (i : Int), q_i (j : Int), q_i (s : Int)] [] (q_mk d b) r := fun r hr => e_Di_imageOf_11 ⟨fun hh => by rw [e2n] at hh; omega, fun _ => ⟨fun hh => absurd hh (by decide), fun _ => ⟨_, _, v0, hr⟩⟩⟩
      have nb : ∀ k, j < k → k < m → s_box fs i k = false := fun k k1 k2 => Bool.eq_false_iff.mpr (fun hc => by
        have := (s_box_rc hc).2.2
        rw [a3 k k1 k2] at this
        exact absurd this (by decide))
      by_cases hm : m ≤ n
      · have tr := s_net_R N hi hri (m - 1 - j) j (by omega) (by omega) (fun k q1 q2 => nb k q1 (by omega))
        rw [show j + (m - 1 - j) = m - 1 by omega, hRl] at tr
        have hbx : s_box fs i m = true := by
          unfold s_box
          rw [hri, a4 hm, decide_eq_true (by omega)]
          rfl
        have nn := N.1 i m hi (by omega) hm hbx
        have pl := c_Di_isPlus (c := c) (hP i) (show i < 9 by omega) (show 1 ≤ m by omega) (by omega) (b := b) (eP i hi (by omega))
        have st2 : ∀ r, q_Ev m_Di_imageOf 11 [q_r t_Di c, q_i (l : Int), q_i (q_b2i (!q_hl (P i) m)), q_i (i : Int), q_i (m : Int), q_i ((s + 1 : Nat) : Int)] [] (q_mk d b) r → q_Ev m_Di_imageOf 11 [q_r t_Di c, q_i (l : Int), q_i (q_b2i true), q_i (i : Int), q_i (j : Int), q_i (s : Int)] [] (q_mk d b) r := by
          intro r hr
          refine st r (e_Di_imageOf_22 ⟨fun _ => e_Di_imageOf_54 ⟨_, _, pl, c_Di_imgTog ?_⟩, fun hh => by rw [e0] at hh; omega⟩)
          rw [q_wS (by omega), Bool.true_bne]
          exact hr
        cases hpl : q_hl (P i) m with
        | true =>
          have n2 := nn.1 hpl
          obtain ⟨w, hw, vv⟩ := ih i m (s + 1) false (by omega) (by omega) hi hil (by omega) hm (fun hh => by cases hh) (fun _ => ⟨a4 hm, by rw [← n2.1]; exact tr⟩)
          rw [hpl] at st2
          exact ⟨w, hw, st2 _ vv⟩
        | false =>
          have n2 := nn.2 hpl
          obtain ⟨w, hw, vv⟩ := ih i m (s + 1) true (by omega) (by omega) hi hil (by omega) hm (fun _ => ⟨hri, by rw [← n2.1]; exact tr⟩) (fun hh => by cases hh)
          rw [hpl] at st2
          exact ⟨w, hw, st2 _ vv⟩
      · have tr := s_net_R N hi hri (n - j) j (by omega) (by omega) (fun k q1 q2 => nb k q1 (by omega))
        rw [show j + (n - j) = n by omega, hRl] at tr
        refine ⟨i, ⟨hi, by omega, fun _ => ⟨tr, hil⟩, fun hh => by rw [hri] at hh; exact absurd hh (by decide)⟩, st _ (e_Di_imageOf_22 ⟨fun hh => by rw [e0] at hh; omega, fun _ => ⟨fun hh => by omega, fun _ => e_Di_imageOf_36 ?_⟩⟩)⟩
        unfold s_exF
        rw [if_pos hri, e0, show (i : Int) + (n : Int) = ((i + n : Nat) : Int) by omega, q_nn _ (by omega)]
    | false =>
      obtain ⟨hcj, hCl⟩ := hC rfl
      obtain ⟨h, a1, a2, a3, v⟩ := c_Di_rowAbove (c := c) (i := i) (by omega) hf (b := b) e1 (i - 1) (by omega) (fun k k1 k2 => by omega)
      have v0 : q_Ev m_Di_rowAbove 0 [q_r t_Di c, q_i (i : Int), none] [] (q_mk d b) (q_i (h : Int), q_mk d b) := by
        refine e_Di_rowAbove_0 ?_
        rw [show (i : Int) - 1 = (i : Int) - ((1 : Nat) : Int) by omega, q_wD (by omega) (by omega)]
        exact v
      have st : ∀ r, q_Ev m_Di_imageOf 40 [q_r t_Di c, q_i (l : Int), q_i (q_b2i false), none, q_i (j : Int), q_i (s : Int)] [.inl (h : Int)] (q_mk d b) r → q_Ev m_Di_imageOf 11 [q_r t_Di c, q_i (l : Int), q_i (q_b2i false), q_i (i : Int), q_i (j : Int), q_i (s : Int)] [] (q_mk d b) r := fun r hr => e_Di_imageOf_11 ⟨fun hh => by rw [e2n] at hh; omega, fun _ => ⟨fun _ => ⟨_, _, v0, hr⟩, fun hh => absurd rfl hh⟩⟩
      have tr := s_net_C N hjn hcj (i - 1 - h) h (by omega) (fun k q1 q2 => Bool.eq_false_iff.mpr (fun hc => by
        have := (s_box_rc hc).2.1
        rw [a2 k q1 (by omega)] at this
        exact absurd this (by decide)))
      rw [show h + (i - 1 - h) = i - 1 by omega, hCl] at tr
      by_cases hh1 : 1 ≤ h
      · have hbx : s_box fs h j = true := by
          unfold s_box
          rw [a3 hh1, hcj, decide_eq_true (by omega)]
          rfl
        have nn := N.1 h j hh1 (by omega) hjn hbx
        have pl := c_Di_isPlus (c := c) (hP h) (show h < 9 by omega) (show 1 ≤ j by omega) (by omega) (b := b) (eP h hh1 (by omega))
        have st2 : ∀ r, q_Ev m_Di_imageOf 11 [q_r t_Di c, q_i (l : Int), q_i (q_b2i (q_hl (P h) j)), q_i (h : Int), q_i (j : Int), q_i ((s + 1 : Nat) : Int)] [] (q_mk d b) r → q_Ev m_Di_imageOf 11 [q_r t_Di c, q_i (l : Int), q_i (q_b2i false), q_i (i : Int), q_i (j : Int), q_i (s : Int)] [] (q_mk d b) r := by
          intro r hr
          refine st r (e_Di_imageOf_40 ⟨fun _ => e_Di_imageOf_54 ⟨_, _, pl, c_Di_imgTog ?_⟩, fun hh => by omega⟩)
          rw [q_wS (by omega), Bool.false_bne]
          exact hr
        cases hpl : q_hl (P h) j with
        | true =>
          have n2 := nn.1 hpl
          obtain ⟨w, hw, vv⟩ := ih h j (s + 1) true (by omega) (by omega) hh1 (by omega) hlj hjn (fun _ => ⟨a3 hh1, by rw [← n2.2]; exact tr.symm⟩) (fun hh => by cases hh)
          rw [hpl] at st2
          exact ⟨w, hw, st2 _ vv⟩
        | false =>
          have n2 := nn.2 hpl
          obtain ⟨w, hw, vv⟩ := ih h j (s + 1) false (by omega) (by omega) hh1 (by omega) hlj hjn (fun hh => by cases hh) (fun _ => ⟨hcj, by rw [← n2.2]; exact tr.symm⟩)
          rw [hpl] at st2
          exact ⟨w, hw, st2 _ vv⟩
      · have hz : h = 0 := by omega
        subst hz
        refine ⟨j, ⟨by omega, hjn, fun hh => by rw [hcj] at hh; exact absurd hh (by decide), fun _ => ⟨tr.symm, hlj⟩⟩, st _ (e_Di_imageOf_40 ⟨fun hh => by omega, fun _ => ⟨fun _ => e_Di_imageOf_53 ?_, fun hh => by omega⟩⟩)⟩
        unfold s_exF
        rw [if_neg (by rw [hcj]; decide)]
theorem c_Di_imageOf {c n fs l : Nat} {P : Nat → Nat} {R C : Nat → Nat → Nat} (hn : n ≤ 8) (hf : fs < 256) (hl : 1 ≤ l) (hln : l ≤ n) (hP : ∀ k, P k < 256) (N : s_net n fs (fun i j => q_hl (P i) j) R C) {d : qD} {b : Nat} (e0 : d.1 t_Di c 0 = (n : Int)) (e1 : d.1 t_Di c 1 = (fs : Int)) (eP : ∀ k, 1 ≤ k → k ≤ n → d.1 t_plus c k = (P k : Int)) : ∃ w, s_exit n fs R C l w ∧ q_Ev m_Di_imageOf 0 [q_r t_Di c, q_i (l : Int), none, none, none, none] [] (q_mk d b) (q_i (s_exF n fs w : Int), q_mk d b) := by
  have kh := c_Se_holds (s := fs) (l := l) (by omega) hl (by omega) (d := d) (b := b)
  rw [← e1] at kh
  obtain ⟨w, hw, v⟩ := c_Di_imgGo hn hf hl hln hP N (b := b) e0 e1 eP (l + (n - l)) l l 0 (q_hl fs l) (Nat.le_refl _) (by omega) hl (Nat.le_refl l) (Nat.le_refl l) hln (fun h => ⟨h, N.2.2.2.1 l hl hln h⟩) (fun h => ⟨h, N.2.2.2.2 l hl hln h⟩)
  exact ⟨w, hw, e_Di_imageOf_0 ⟨_, _, kh, e_Di_imageOf_4 v⟩⟩
/-- where each label comes out: the search -/
def s_exB (n fs : Nat) (R C : Nat → Nat → Nat) (l w : Nat) : Bool := if q_hl fs w then decide (R w n = l ∧ w ≤ l) else decide (C 0 w = l ∧ l ≤ w)
def s_xw (n fs : Nat) (R C : Nat → Nat → Nat) (l : Nat) : Nat → Nat
  | 0 => 0
  | f + 1 => if s_exB n fs R C l (f + 1) = true then f + 1 else s_xw n fs R C l f
theorem s_exB_iff {n fs l w : Nat} {R C : Nat → Nat → Nat} (h1 : 1 ≤ w) (h2 : w ≤ n) : s_exB n fs R C l w = true ↔ s_exit n fs R C l w := by
  unfold s_exB s_exit
  cases hq : q_hl fs w with
  | true => rw [if_pos rfl, decide_eq_true_iff]; exact ⟨fun h => ⟨h1, h2, fun _ => h, fun hh => absurd hh (by decide)⟩, fun h => h.2.2.1 rfl⟩
  | false => rw [if_neg (by decide), decide_eq_true_iff]; exact ⟨fun h => ⟨h1, h2, fun hh => absurd hh (by decide), fun _ => h⟩, fun h => h.2.2.2 rfl⟩
theorem s_xw_some {n fs l w : Nat} {R C : Nat → Nat → Nat} (e : s_exit n fs R C l w) : ∀ f, w ≤ f → f ≤ n → s_exit n fs R C l (s_xw n fs R C l f)
  | 0, h, _ => by have := e.1; omega
  | f + 1, h, hf => by
    unfold s_xw
    by_cases hb : s_exB n fs R C l (f + 1) = true
    · rw [if_pos hb]; exact (s_exB_iff (by omega) hf).mp hb
    · rw [if_neg hb]
      by_cases hw : w = f + 1
      · subst hw; exact absurd ((s_exB_iff (by omega) hf).mpr e) hb
      · exact s_xw_some e f (by omega) (by omega)
/-- F of a filling -/
def s_fF (n fs : Nat) (P : Nat → Nat) (l : Nat) : Nat := s_exF n fs (s_xw n fs (s_nR fs n (fun i j => q_hl (P i) j)) (s_nC fs n (fun i j => q_hl (P i) j)) l n)
theorem s_fF_ok {n fs : Nat} {P : Nat → Nat} (h2 : 2 ≤ n) (hn : n ≤ 8) (h : ∀ l, 1 ≤ l → l ≤ n → ∃ w, s_exit n fs (s_nR fs n (fun i j => q_hl (P i) j)) (s_nC fs n (fun i j => q_hl (P i) j)) l w) : s_ok n (s_fF n fs P) ∧ ∀ l w, 1 ≤ l → l ≤ n → s_exit n fs (s_nR fs n (fun i j => q_hl (P i) j)) (s_nC fs n (fun i j => q_hl (P i) j)) l w → s_fF n fs P l = s_exF n fs w := by
  have hx : ∀ l, 1 ≤ l → l ≤ n → ∃ w, s_exit n fs (s_nR fs n (fun i j => q_hl (P i) j)) (s_nC fs n (fun i j => q_hl (P i) j)) l w ∧ s_fF n fs P l = s_exF n fs w := fun l l1 l2 => by
    obtain ⟨w, hw⟩ := h l l1 l2
    exact ⟨_, s_xw_some hw n hw.2.1 (Nat.le_refl n), rfl⟩
  refine ⟨s_exit_ok h2 hn hx, fun l w l1 l2 hw => ?_⟩
  obtain ⟨w', hw', he⟩ := hx l l1 l2
  rw [he, s_exit_one h2 hn hx l1 l2 hw' hw]
