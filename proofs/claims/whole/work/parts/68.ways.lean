/-! the model's ways through a diagram, its laying -/
theorem c_Md_rowAboveGo {n fs j : Nat} {P : Nat → Nat} (hn : n ≤ 8) (hj : 1 ≤ j) (hjn : j ≤ n) {d : qD} {b : Nat} (e : s_Bx n fs P d) : ∀ k, k ≤ n → ∃ h : Nat, q_Ev m_Md_rowAbove 4 [q_r t_Md 0, none, q_i (j : Int), q_i (k : Int)] [] (q_mk d b) (q_i (h : Int), q_mk d b) ∧ h ≤ k ∧ (0 < h → s_box fs h j = true) ∧ ∀ l, h < l → l ≤ k → s_box fs l j = false
  | 0, _ => ⟨0, e_Md_rowAbove_4 ⟨fun _ => e_Md_rowAbove_13 rfl, fun h => by omega⟩, Nat.le_refl 0, fun h => by omega, fun l h1 h2 => by omega⟩
  | k + 1, hk => by
    have hb := c_Md_isBox (i := k + 1) hn (by omega) hk hj hjn (b := b) e
    by_cases hq : s_box fs (k + 1) j = true
    · rw [hq] at hb
      refine ⟨k + 1, e_Md_rowAbove_4 ⟨fun h => by omega, fun _ => ⟨_, _, hb, e_Md_rowAbove_10 ⟨fun _ => e_Md_rowAbove_13 rfl, fun h => absurd h (by decide)⟩⟩⟩, Nat.le_refl _, fun _ => hq, fun l h1 h2 => by omega⟩
    · have hq2 : s_box fs (k + 1) j = false := by simpa using hq
      rw [hq2] at hb
      obtain ⟨h, v, h1, h2, h3⟩ := c_Md_rowAboveGo hn hj hjn (b := b) e k (by omega)
      refine ⟨h, e_Md_rowAbove_4 ⟨fun h => by omega, fun _ => ⟨_, _, hb, e_Md_rowAbove_10 ⟨fun h => absurd rfl h, fun _ => ?_⟩⟩⟩, by omega, h2, fun l q1 q2 => ?_⟩
      · rw [show q_w (((k + 1 : Nat) : Int) + (-1)) = (k : Int) by rw [q_w_id (by omega) (by omega)]; omega]; exact v
      · by_cases hl : l = k + 1
        · rw [hl]; exact hq2
        · exact h3 l q1 (by omega)
theorem c_Md_rowAbove {n fs i j : Nat} {P : Nat → Nat} (hn : n ≤ 8) (hi : 1 ≤ i) (hin : i ≤ n) (hj : 1 ≤ j) (hjn : j ≤ n) {d : qD} {b : Nat} (e : s_Bx n fs P d) : ∃ h : Nat, q_Ev m_Md_rowAbove 0 [q_r t_Md 0, q_i (i : Int), q_i (j : Int), none] [] (q_mk d b) (q_i (h : Int), q_mk d b) ∧ h < i ∧ (0 < h → s_box fs h j = true) ∧ ∀ l, h < l → l < i → s_box fs l j = false := by
  obtain ⟨h, v, h1, h2, h3⟩ := c_Md_rowAboveGo hn hj hjn (b := b) e (i - 1) (by omega)
  refine ⟨h, e_Md_rowAbove_0 ?_, by omega, h2, fun l q1 q2 => h3 l q1 (by omega)⟩
  rw [show q_w ((i : Int) - 1) = ((i - 1 : Nat) : Int) by rw [q_w_id (by omega) (by omega)]; omega]; exact v
theorem c_Md_columnLeftGo {n fs i : Nat} {P : Nat → Nat} (hn : n ≤ 8) (hi : 1 ≤ i) (hin : i ≤ n) {d : qD} {b : Nat} (e : s_Bx n fs P d) : ∀ (f j : Nat), j + f = n + 1 → 1 ≤ j → ∃ m : Nat, q_Ev m_Md_columnLeft 4 [q_r t_Md 0, q_i (i : Int), none, q_i (n : Int), q_i (j : Int)] [] (q_mk d b) (q_i (m : Int), q_mk d b) ∧ ((m = 0 ∧ ∀ l, j ≤ l → l ≤ n → s_box fs i l = false) ∨ (j ≤ m ∧ m ≤ n ∧ s_box fs i m = true ∧ ∀ l, j ≤ l → l < m → s_box fs i l = false))
  | 0, j, h, hj => ⟨0, e_Md_columnLeft_4 ⟨fun _ => e_Md_columnLeft_14 ⟨fun h2 => by omega, fun _ => e_Md_columnLeft_20 rfl⟩, fun h2 => by omega⟩, Or.inl ⟨rfl, fun l h1 h2 => by omega⟩⟩
  | f + 1, j, h, hj => by
    have hb := c_Md_isBox (j := j) hn hi hin hj (by omega) (b := b) e
    by_cases hq : s_box fs i j = true
    · rw [hq] at hb
      exact ⟨j, e_Md_columnLeft_4 ⟨fun h2 => by omega, fun _ => ⟨_, _, hb, e_Md_columnLeft_11 ⟨fun _ => e_Md_columnLeft_14 ⟨fun _ => e_Md_columnLeft_20 rfl, fun h2 => by omega⟩, fun h2 => absurd h2 (by decide)⟩⟩⟩, Or.inr ⟨Nat.le_refl j, by omega, hq, fun l h1 h2 => by omega⟩⟩
    · have hq2 : s_box fs i j = false := by simpa using hq
      rw [hq2] at hb
      obtain ⟨m, v, hm⟩ := c_Md_columnLeftGo hn hi hin (b := b) e f (j + 1) (by omega) (by omega)
      refine ⟨m, e_Md_columnLeft_4 ⟨fun h2 => by omega, fun _ => ⟨_, _, hb, e_Md_columnLeft_11 ⟨fun h2 => absurd rfl h2, fun _ => ?_⟩⟩⟩, ?_⟩
      · rw [q_wS (by omega)]; exact v
      · rcases hm with ⟨h1, h2⟩ | ⟨h1, h2, h3, h4⟩
        · refine Or.inl ⟨h1, fun l q1 q2 => ?_⟩
          by_cases hl : l = j
          · rw [hl]; exact hq2
          · exact h2 l (by omega) q2
        · refine Or.inr ⟨by omega, h2, h3, fun l q1 q2 => ?_⟩
          by_cases hl : l = j
          · rw [hl]; exact hq2
          · exact h4 l (by omega) q2
theorem c_Md_columnLeft {n fs i j : Nat} {P : Nat → Nat} (hn : n ≤ 8) (hi : 1 ≤ i) (hin : i ≤ n) (hj : 1 ≤ j) (hjn : j ≤ n) {d : qD} {b : Nat} (e : s_Bx n fs P d) : ∃ m : Nat, q_Ev m_Md_columnLeft 0 [q_r t_Md 0, q_i (i : Int), q_i (j : Int), q_i (n : Int), none] [] (q_mk d b) (q_i (m : Int), q_mk d b) ∧ ((m = 0 ∧ ∀ l, j < l → l ≤ n → s_box fs i l = false) ∨ (j < m ∧ m ≤ n ∧ s_box fs i m = true ∧ ∀ l, j < l → l < m → s_box fs i l = false)) := by
  obtain ⟨m, v, hm⟩ := c_Md_columnLeftGo hn hi hin (b := b) e (n - j) (j + 1) (by omega) (by omega)
  refine ⟨m, e_Md_columnLeft_0 ?_, ?_⟩
  · rw [q_wS (by omega)]; exact v
  · rcases hm with ⟨h1, h2⟩ | ⟨h1, h2, h3, h4⟩
    · exact Or.inl ⟨h1, fun l q1 q2 => h2 l (by omega) q2⟩
    · exact Or.inr ⟨by omega, h2, h3, fun l q1 q2 => h4 l (by omega) q2⟩
theorem c_Md_outAt {n fs w l : Nat} (hn : n ≤ 8) (hf : fs < 256) (hw : 1 ≤ w) (hwn : w ≤ n) (hl : 1 ≤ l) (hln : l ≤ n) (hr : q_hl fs w = true → w ≤ l) (hc : q_hl fs w = false → l ≤ w) {d : qD} {b : Nat} : q_Ev m_Md_outAt 0 [q_i (w : Int), q_i (l : Int), q_i (fs : Int), q_i (n : Int)] [] (q_mk d b) (q_i ((if q_hl fs w then w + n else w : Nat) : Int), q_mk d b) := by
  have e1 : q_w ((w : Int) + (n : Int)) = ((w + n : Nat) : Int) := by rw [q_w_id (by omega) (by omega)]; omega
  have yes : q_hl fs w = true → q_Ev m_Md_outAt 10 [q_i (w : Int), none, none, q_i (n : Int)] [] (q_mk d b) (q_i ((if q_hl fs w then w + n else w : Nat) : Int), q_mk d b) := by
    intro h
    rw [if_pos h]
    refine e_Md_outAt_10 (e_Md_outAt_15 ?_)
    rw [e1]
  have no : q_hl fs w = false → q_Ev m_Md_outAt 14 [q_i (w : Int), none, none, none] [] (q_mk d b) (q_i ((if q_hl fs w then w + n else w : Nat) : Int), q_mk d b) := by
    intro h
    rw [if_neg (by rw [h]; decide)]
    exact e_Md_outAt_14 (e_Md_outAt_15 rfl)
  refine e_Md_outAt_0 ⟨fun h => ?_, fun h => ⟨fun h2 => ?_, fun h2 => ⟨_, _, c_Md_has (by omega) hl (by omega), ?_⟩⟩⟩
  · cases hq : q_hl fs w
    · have := hc hq; omega
    · rw [hq] at yes; exact yes rfl
  · cases hq : q_hl fs w
    · rw [hq] at no; exact no rfl
    · have := hr hq; omega
  · have hwl : w = l := by omega
    subst hwl
    refine e_Md_outAt_9 ⟨fun h3 => no (q_b2i_f h3), fun h3 => yes (q_b2i_t h3)⟩
/-- along a row, and up a column, where no box is -/
theorem s_net_R {n fs : Nat} {p : Nat → Nat → Bool} {R C : Nat → Nat → Nat} (N : s_net n fs p R C) {i : Nat} (hi : 1 ≤ i) (hf : q_hl fs i = true) : ∀ (f j : Nat), i ≤ j → j + f ≤ n → (∀ l, j < l → l ≤ j + f → s_box fs i l = false) → R i (j + f) = R i j
  | 0, _, _, _, _ => rfl
  | f + 1, j, h1, h2, h3 => by
    have ih := s_net_R N hi hf f j h1 (by omega) (fun l q1 q2 => h3 l q1 (by omega))
    have := N.2.1 i (j + (f + 1)) hi (by omega) h2 hf (h3 _ (by omega) (Nat.le_refl _))
    rw [show j + (f + 1) - 1 = j + f by omega] at this
    rw [← this, ih]
theorem s_net_C {n fs : Nat} {p : Nat → Nat → Bool} {R C : Nat → Nat → Nat} (N : s_net n fs p R C) {j : Nat} (hj : j ≤ n) (hf : q_hl fs j = false) : ∀ (f h : Nat), h + f < j → (∀ l, h < l → l ≤ h + f → s_box fs l j = false) → C (h + f) j = C h j
  | 0, _, _, _ => rfl
  | f + 1, h, h1, h2 => by
    have ih := s_net_C N hj hf f h (by omega) (fun l q1 q2 => h2 l q1 (by omega))
    have := N.2.2.1 (h + (f + 1)) j (by omega) h1 hj hf (h2 _ (by omega) (Nat.le_refl _))
    rw [show h + (f + 1) - 1 = h + f by omega] at this
    rw [this, ih]
theorem s_box_rc {fs i j : Nat} (h : s_box fs i j = true) : i < j ∧ q_hl fs i = true ∧ q_hl fs j = false := by
  unfold s_box at h
  rw [Bool.and_eq_true, Bool.and_eq_true, decide_eq_true_iff, Bool.not_eq_true'] at h
  exact ⟨h.1.1, h.1.2, h.2⟩
/-- where one who starts at a label comes out -/
def s_exit (n fs : Nat) (R C : Nat → Nat → Nat) (l w : Nat) : Prop := 1 ≤ w ∧ w ≤ n ∧ (q_hl fs w = true → R w n = l ∧ w ≤ l) ∧ (q_hl fs w = false → C 0 w = l ∧ l ≤ w)
theorem c_Md_goesGo {n fs l : Nat} {P : Nat → Nat} {R C : Nat → Nat → Nat} (hn : n ≤ 8) (hf : fs < 256) (hl : 1 ≤ l) (hln : l ≤ n) (N : s_net n fs (fun i j => q_hl (P i) j) R C) {d : qD} {b : Nat} (e : s_Bx n fs P d) : ∀ (μ i j : Nat) (fr : Bool), i + (n - j) ≤ μ → 1 ≤ i → i ≤ l → l ≤ j → j ≤ n → s_box fs i j = true → (fr = true → R i (j - 1) = l) → (fr = false → C i j = l) → ∃ w, s_exit n fs R C l w ∧ q_Ev m_Md_goesFrom 23 [q_r t_Md 0, q_i (l : Int), q_i (fs : Int), q_i (n : Int), q_i (q_b2i fr), q_i (i : Int), q_i (j : Int), none, none] [] (q_mk d b) (q_i ((if q_hl fs w then w + n else w : Nat) : Int), q_mk d b) := by
  intro μ
  induction μ with
  | zero => intro i j fr hμ hi; omega
  | succ μ ih =>
    intro i j fr hμ hi hil hlj hjn hbx hR hC
    obtain ⟨hij, hri, hcj⟩ := s_box_rc hbx
    have hp : s_pb fs P i j = q_hl (P i) j := by unfold s_pb; rw [hbx, Bool.true_and]
    have pl := c_Md_isPlus hn hi (by omega) (show 1 ≤ j by omega) hjn (b := b) e
    rw [hp] at pl
    have nb := N.1 i j hi hij hjn hbx
    have up : C (i - 1) j = l → ∃ w, s_exit n fs R C l w ∧ q_Ev m_Md_goesFrom 36 [q_r t_Md 0, q_i (l : Int), q_i (fs : Int), q_i (n : Int), none, q_i (i : Int), q_i (j : Int), none, none] [.inl 0] (q_mk d b) (q_i ((if q_hl fs w then w + n else w : Nat) : Int), q_mk d b) := by
      intro hc
      obtain ⟨h, v, h1, h2, h3⟩ := c_Md_rowAbove hn hi (by omega) (show 1 ≤ j by omega) hjn (b := b) e
      have tr := s_net_C N hjn hcj (i - 1 - h) h (by omega) (fun k q1 q2 => h3 k q1 (by omega))
      rw [show h + (i - 1 - h) = i - 1 by omega, hc] at tr
      by_cases hz : h = 0
      · subst hz
        refine ⟨j, ⟨by omega, hjn, fun hh => by rw [hcj] at hh; exact absurd hh (by decide), fun _ => ⟨tr.symm, hlj⟩⟩, e_Md_goesFrom_36 ⟨fun _ => ⟨_, _, v, e_Md_goesFrom_60 ⟨fun hh => absurd rfl hh, fun _ => ⟨_, _, c_Md_outAt hn hf (by omega) hjn hl hln (fun hh => by rw [hcj] at hh; exact absurd hh (by decide)) (fun _ => hlj), e_Md_goesFrom_68 rfl⟩⟩⟩, fun hh => absurd rfl hh⟩⟩
      · obtain ⟨w, hw, vv⟩ := ih h j false (by omega) (by omega) (by omega) hlj hjn (h2 (by omega)) (fun hh => by cases hh) (fun _ => tr.symm)
        exact ⟨w, hw, e_Md_goesFrom_36 ⟨fun _ => ⟨_, _, v, e_Md_goesFrom_60 ⟨fun _ => e_Md_goesFrom_71 vv, fun hh => by omega⟩⟩, fun hh => absurd rfl hh⟩⟩
    have left : R i j = l → ∃ w, s_exit n fs R C l w ∧ q_Ev m_Md_goesFrom 36 [q_r t_Md 0, q_i (l : Int), q_i (fs : Int), q_i (n : Int), none, q_i (i : Int), q_i (j : Int), none, none] [.inl 1] (q_mk d b) (q_i ((if q_hl fs w then w + n else w : Nat) : Int), q_mk d b) := by
      intro hc
      obtain ⟨m, v, hm⟩ := c_Md_columnLeft hn hi (by omega) (show 1 ≤ j by omega) hjn (b := b) e
      rcases hm with ⟨h1, h2⟩ | ⟨h1, h2, h3, h4⟩
      · subst h1
        have tr := s_net_R N hi hri (n - j) j (by omega) (by omega) (fun k q1 q2 => h2 k q1 (by omega))
        rw [show j + (n - j) = n by omega, hc] at tr
        refine ⟨i, ⟨hi, by omega, fun _ => ⟨tr, hil⟩, fun hh => by rw [hri] at hh; exact absurd hh (by decide)⟩, e_Md_goesFrom_36 ⟨fun hh => absurd hh (by decide), fun _ => ⟨_, _, v, e_Md_goesFrom_44 ⟨fun hh => absurd rfl hh, fun _ => ⟨_, _, c_Md_outAt hn hf hi (by omega) hl hln (fun _ => hil) (fun hh => by rw [hri] at hh; exact absurd hh (by decide)), e_Md_goesFrom_52 rfl⟩⟩⟩⟩⟩
      · have tr := s_net_R N hi hri (m - 1 - j) j (by omega) (by omega) (fun k q1 q2 => h4 k q1 (by omega))
        rw [show j + (m - 1 - j) = m - 1 by omega, hc] at tr
        obtain ⟨w, hw, vv⟩ := ih i m true (by omega) hi hil (by omega) h2 h3 (fun _ => tr) (fun hh => by cases hh)
        exact ⟨w, hw, e_Md_goesFrom_36 ⟨fun hh => absurd hh (by decide), fun _ => ⟨_, _, v, e_Md_goesFrom_44 ⟨fun _ => e_Md_goesFrom_71 vv, fun hh => by omega⟩⟩⟩⟩
    have st : ∀ (z : Int) (w : Nat), (q_b2i (q_hl (P i) j) = q_b2i fr → z = 0) → (q_b2i (q_hl (P i) j) ≠ q_b2i fr → z = 1) → q_Ev m_Md_goesFrom 36 [q_r t_Md 0, q_i (l : Int), q_i (fs : Int), q_i (n : Int), none, q_i (i : Int), q_i (j : Int), none, none] [.inl z] (q_mk d b) (q_i ((if q_hl fs w then w + n else w : Nat) : Int), q_mk d b) → q_Ev m_Md_goesFrom 23 [q_r t_Md 0, q_i (l : Int), q_i (fs : Int), q_i (n : Int), q_i (q_b2i fr), q_i (i : Int), q_i (j : Int), none, none] [] (q_mk d b) (q_i ((if q_hl fs w then w + n else w : Nat) : Int), q_mk d b) := by
      intro z w z0 z1 vv
      refine e_Md_goesFrom_23 ⟨fun hh => by omega, fun _ => ⟨fun hh => by omega, fun _ => ⟨_, _, pl, e_Md_goesFrom_31 ⟨fun hh => ?_, fun hh => ?_⟩⟩⟩⟩
      · rw [z0 hh] at vv; exact vv
      · rw [z1 hh] at vv; exact vv
    cases hpl : q_hl (P i) j
    · have n2 := nb.2 hpl
      cases fr
      · obtain ⟨w, hw, vv⟩ := up (by rw [← n2.2]; exact hC rfl)
        exact ⟨w, hw, st 0 w (fun _ => rfl) (fun hh => absurd (by rw [hpl]) hh) vv⟩
      · obtain ⟨w, hw, vv⟩ := left (by rw [← n2.1]; exact hR rfl)
        exact ⟨w, hw, st 1 w (fun hh => by rw [hpl] at hh; exact absurd hh (by decide)) (fun _ => rfl) vv⟩
    · have n2 := nb.1 hpl
      cases fr
      · obtain ⟨w, hw, vv⟩ := left (by rw [← n2.2]; exact hC rfl)
        exact ⟨w, hw, st 1 w (fun hh => by rw [hpl] at hh; exact absurd hh (by decide)) (fun _ => rfl) vv⟩
      · obtain ⟨w, hw, vv⟩ := up (by rw [← n2.1]; exact hR rfl)
        exact ⟨w, hw, st 0 w (fun _ => rfl) (fun hh => absurd (by rw [hpl]) hh) vv⟩
theorem c_Md_goesFrom {n fs l : Nat} {P : Nat → Nat} {R C : Nat → Nat → Nat} (hn : n ≤ 8) (hf : fs < 256) (hl : 1 ≤ l) (hln : l ≤ n) (N : s_net n fs (fun i j => q_hl (P i) j) R C) {d : qD} {b : Nat} (e : s_Bx n fs P d) : ∃ w, s_exit n fs R C l w ∧ q_Ev m_Md_goesFrom 0 [q_r t_Md 0, q_i (l : Int), q_i (fs : Int), q_i (n : Int), none, none, none, none, none] [] (q_mk d b) (q_i ((if q_hl fs w then w + n else w : Nat) : Int), q_mk d b) := by
  have hh := c_Md_has (s := fs) (l := l) (by omega) hl (by omega) (d := d) (b := b)
  by_cases hr : q_hl fs l = true
  · rw [hr] at hh
    obtain ⟨m, v, hm⟩ := c_Md_columnLeft hn hl hln hl hln (b := b) e
    have rl := N.2.2.2.1 l hl hln hr
    have st : ∀ w, q_Ev m_Md_goesFrom 23 [q_r t_Md 0, q_i (l : Int), q_i (fs : Int), q_i (n : Int), q_i (q_b2i true), q_i (l : Int), q_i (m : Int), none, none] [] (q_mk d b) (q_i ((if q_hl fs w then w + n else w : Nat) : Int), q_mk d b) → q_Ev m_Md_goesFrom 0 [q_r t_Md 0, q_i (l : Int), q_i (fs : Int), q_i (n : Int), none, none, none, none, none] [] (q_mk d b) (q_i ((if q_hl fs w then w + n else w : Nat) : Int), q_mk d b) := fun w vv => e_Md_goesFrom_0 ⟨_, _, hh, e_Md_goesFrom_3 ⟨fun h => absurd h (by decide), fun _ => e_Md_goesFrom_12 ⟨fun h => absurd h (by decide), fun _ => ⟨_, _, v, e_Md_goesFrom_20 (e_Md_goesFrom_22 vv)⟩⟩⟩⟩
    rcases hm with ⟨h1, h2⟩ | ⟨h1, h2, h3, h4⟩
    · subst h1
      have tr := s_net_R N hl hr (n - l) l (Nat.le_refl l) (by omega) (fun k q1 q2 => h2 k q1 (by omega))
      rw [show l + (n - l) = n by omega, rl] at tr
      exact ⟨l, ⟨hl, hln, fun _ => ⟨tr, Nat.le_refl l⟩, fun h => by rw [hr] at h; exact absurd h (by decide)⟩, st l (e_Md_goesFrom_23 ⟨fun h => by omega, fun _ => ⟨fun _ => e_Md_goesFrom_74 ⟨_, _, c_Md_outAt hn hf hl hln hl hln (fun _ => Nat.le_refl l) (fun _ => Nat.le_refl l), e_Md_goesFrom_79 rfl⟩, fun h => by omega⟩⟩)⟩
    · have tr := s_net_R N hl hr (m - 1 - l) l (Nat.le_refl l) (by omega) (fun k q1 q2 => h4 k q1 (by omega))
      rw [show l + (m - 1 - l) = m - 1 by omega, rl] at tr
      obtain ⟨w, hw, vv⟩ := c_Md_goesGo hn hf hl hln N (b := b) e (l + (n - m)) l m true (Nat.le_refl _) hl (Nat.le_refl l) (by omega) h2 h3 (fun _ => tr) (fun h => by cases h)
      exact ⟨w, hw, st w vv⟩
  · have hr2 : q_hl fs l = false := by simpa using hr
    rw [hr2] at hh
    obtain ⟨h, v, h1, h2, h3⟩ := c_Md_rowAbove hn hl hln hl hln (b := b) e
    have cl := N.2.2.2.2 l hl hln hr2
    have st : ∀ w, q_Ev m_Md_goesFrom 23 [q_r t_Md 0, q_i (l : Int), q_i (fs : Int), q_i (n : Int), q_i (q_b2i false), q_i (h : Int), q_i (l : Int), none, none] [] (q_mk d b) (q_i ((if q_hl fs w then w + n else w : Nat) : Int), q_mk d b) → q_Ev m_Md_goesFrom 0 [q_r t_Md 0, q_i (l : Int), q_i (fs : Int), q_i (n : Int), none, none, none, none, none] [] (q_mk d b) (q_i ((if q_hl fs w then w + n else w : Nat) : Int), q_mk d b) := fun w vv => e_Md_goesFrom_0 ⟨_, _, hh, e_Md_goesFrom_3 ⟨fun _ => ⟨_, _, v, e_Md_goesFrom_12 ⟨fun _ => e_Md_goesFrom_22 vv, fun h => absurd rfl h⟩⟩, fun h => absurd rfl h⟩⟩
    have tr := s_net_C N hln hr2 (l - 1 - h) h (by omega) (fun k q1 q2 => h3 k q1 (by omega))
    rw [show h + (l - 1 - h) = l - 1 by omega, cl] at tr
    by_cases hz : h = 0
    · subst hz
      exact ⟨l, ⟨hl, hln, fun h => by rw [hr2] at h; exact absurd h (by decide), fun _ => ⟨tr.symm, Nat.le_refl l⟩⟩, st l (e_Md_goesFrom_23 ⟨fun _ => e_Md_goesFrom_74 ⟨_, _, c_Md_outAt hn hf hl hln hl hln (fun _ => Nat.le_refl l) (fun _ => Nat.le_refl l), e_Md_goesFrom_79 rfl⟩, fun h => by omega⟩)⟩
    · obtain ⟨w, hw, vv⟩ := c_Md_goesGo hn hf hl hln N (b := b) e (h + (n - l)) h l false (Nat.le_refl _) (by omega) (by omega) (Nat.le_refl l) hln (h2 (by omega)) (fun hh => by cases hh) (fun _ => tr.symm)
      exact ⟨w, hw, st w vv⟩
/-- the ways of a cell's own diagram -/
theorem s_exit_own {n l w : Nat} {F : Nat → Nat} (h : s_ok n F) (hl : 1 ≤ l) (hln : l ≤ n) (e : s_exit n (s_n1 n F n) (fun i j => s_S n F (i - 1) (n - j) i) (fun i j => s_dx (s_n1 n F n) n (s_src n F n) i j) l w) : F l = if q_hl (s_n1 n F n) w then w + n else w := by
  obtain ⟨w1, w2, er, ec⟩ := e
  have sx : ∀ i, i < n → q_hl (s_n1 n F n) w = true → i < w → s_dx (s_n1 n F n) n (s_src n F n) i w = s_src n F n w := by
    intro i
    induction i with
    | zero => intro _ _ _; rfl
    | succ i ih =>
      intro hi hr hlt
      rw [s_S_row h.2.1 (by omega)]
      have := s_rs_oth (fs := s_n1 n F n) (n := n) (i := i + 1) (w := w) (x := s_dx (s_n1 n F n) n (s_src n F n) i) (by omega) (n - (i + 1)) (Or.inr hr)
      show s_rs _ _ _ _ _ w = _
      rw [this]
      exact ih (by omega) hr (by omega)
  have hs : s_src n F n w = l := by
    cases hr : q_hl (s_n1 n F n) w
    · exact (ec hr).1
    · have := (er hr).1
      dsimp only at this
      rw [Nat.sub_self] at this
      rw [← sx (w - 1) (by omega) hr (by omega)]
      exact this
  have ab := s_src_bd h w1 w2
  rw [hs] at ab
  cases hr : q_hl (s_n1 n F n) w
  · rw [s_fs_hl h w1 w2, hs, decide_eq_false_iff_not] at hr
    rw [if_neg (by decide)]
    exact (ab.2 hr).1
  · rw [s_fsr h w1 w2, hs] at hr
    rw [if_pos rfl]
    exact (ab.1 hr).1
theorem c_Md_isOwnGo {n : Nat} {F : Nat → Nat} (h : s_ok n F) {d : qD} {b : Nat} (e0 : d.1 t_Md 0 10 = (n : Int)) (eF : s_row (d.1 t_mF 0) n F) (eN : d.1 t_mNeck 0 1 = (s_n1 n F n : Int)) (e : s_Bx n (s_n1 n F n) (s_plus n F) d) : ∀ (f i : Nat), i + f = n + 1 → 1 ≤ i → q_Ev m_Md_isOwnDiagram 2 [q_r t_Md 0, q_i (i : Int)] [] (q_mk d b) (q_i 1, q_mk d b)
  | 0, i, hi, h1 => by
    refine e_Md_isOwnDiagram_2 ⟨fun _ => ⟨by decide, by decide, rfl⟩, fun h2 => ?_⟩
    rw [e0] at h2; omega
  | f + 1, i, hi, h1 => by
    have hb := s_ok_bd h
    obtain ⟨w, hw, v⟩ := c_Md_goesFrom hb.1 (s_n1_lt hb n (Nat.le_refl n)) h1 (show i ≤ n by omega) (s_net_of h) (b := b) e
    have hF := s_exit_own h h1 (by omega) hw
    have hn := hb.1
    refine e_Md_isOwnDiagram_2 ⟨fun h2 => ?_, fun _ => ⟨by decide, by decide, ?_⟩⟩
    · rw [e0] at h2; omega
    · rw [show (1 : Int).toNat = 1 from rfl, eN, e0]
      refine ⟨_, _, v, e_Md_isOwnDiagram_15 ⟨by omega, by omega, ?_⟩⟩
      rw [Int.toNat_natCast, eF i h1 (by omega), hF]
      refine ⟨fun _ => ?_, fun h2 => absurd rfl h2⟩
      rw [q_wS (by omega)]
      exact c_Md_isOwnGo h e0 eF eN e f (i + 1) (by omega) (by omega)
