/-! the class draws a diagram: a network of comparators -/
def s_sw (x : Nat → Nat) (i j : Nat) : Nat → Nat := fun w => if w = i then x j else if w = j then x i else x w
/-- one row, columns from i + g down -/
def s_dr (fs i : Nat) : Nat → (Nat → Nat) → Nat → (Nat → Nat) × Nat
  | 0, x, p => (x, p)
  | g + 1, x, p => if s_box fs i (i + g + 1) && decide (x (i + g + 1) < x i) then s_dr fs i g (s_sw x i (i + g + 1)) (s_with p (i + g + 1)) else s_dr fs i g x p
theorem s_dr_lt (fs i : Nat) : ∀ (g : Nat) (x : Nat → Nat) (p : Nat), p < 256 → i + g ≤ 8 → (s_dr fs i g x p).2 < 256
  | 0, _, _, hp, _ => hp
  | g + 1, x, p, hp, h => by
    rw [s_dr]; split
    · exact s_dr_lt fs i g _ _ (s_with_lt hp (by omega)) (by omega)
    · exact s_dr_lt fs i g _ _ hp (by omega)
/-- the wires after so many rows, and the + of each row -/
def s_dx (fs n : Nat) (x : Nat → Nat) : Nat → Nat → Nat
  | 0 => x
  | i + 1 => (s_dr fs (i + 1) (n - (i + 1)) (s_dx fs n x i) 0).1
def s_dp (fs n : Nat) (x : Nat → Nat) (i : Nat) : Nat := (s_dr fs i (n - i) (s_dx fs n x (i - 1)) 0).2
/-- the wires as the two arrays hold them -/
def s_wires (fs n : Nat) (l t : Nat → Int) (x : Nat → Nat) : Prop := ∀ w, 1 ≤ w → w ≤ n → (q_hl fs w = true → l w = (x w : Int)) ∧ (q_hl fs w = false → t w = (x w : Int))
theorem s_wires_sw {fs n i j : Nat} {l t : Nat → Int} {x : Nat → Nat} (h : s_wires fs n l t x) (hi : q_hl fs i = true) (hj : q_hl fs j = false) (hi1 : 1 ≤ i) (hin : i ≤ n) (hj1 : 1 ≤ j) (hjn : j ≤ n) : s_wires fs n (q_up l i (x j : Int)) (q_up t j (x i : Int)) (s_sw x i j) := by
  intro w h1 h2
  have hw := h w h1 h2
  unfold s_sw
  refine ⟨fun hr => ?_, fun hc => ?_⟩
  · have hne : w ≠ j := by intro hh; subst hh; rw [hj] at hr; exact absurd hr (by decide)
    by_cases hq : w = i
    · subst hq; rw [q_up_at, if_pos rfl]
    · rw [q_up_ne _ _ hq, if_neg hq, if_neg hne]; exact hw.1 hr
  · have hne : w ≠ i := by intro hh; subst hh; rw [hi] at hc; exact absurd hc (by decide)
    by_cases hq : w = j
    · subst hq; rw [q_up_at, if_neg hne, if_pos rfl]
    · rw [q_up_ne _ _ hq, if_neg hne, if_neg hq]; exact hw.2 hc
theorem c_Di_drawRow {c fs n i : Nat} (hf : fs < 256) (hn : n ≤ 8) (hi : 1 ≤ i) (hin : i ≤ n) {b : Nat} : ∀ (g : Nat) (x : Nat → Nat) (p : Nat) (d : qD) (r : Option qV × qW → Prop), i + g ≤ n → p < 256 → d.1 t_Di c 0 = (n : Int) → d.1 t_Di c 1 = (fs : Int) → d.1 t_plus c i = (p : Int) → s_wires fs n (d.1 t_atLeft c) (d.1 t_atTop c) x → ∃ d', (∀ r, q_Ev m_Di_drawFor 48 [some (.inr (.inr (t_Di, c))), none, some (.inl ((i + 1 : Nat) : Int)), none, none] [] (q_mk d' b) r → q_Ev m_Di_drawFor 55 [some (.inr (.inr (t_Di, c))), none, some (.inl (i : Int)), some (.inl ((i + g : Nat) : Int)), none] [] (q_mk d b) r) ∧ q_ag [t_plus, t_atLeft, t_atTop] d d' ∧ d'.1 t_plus c i = ((s_dr fs i g x p).2 : Int) ∧ (∀ k, k ≠ i → d'.1 t_plus c k = d.1 t_plus c k) ∧ (∀ c', c' ≠ c → d'.1 t_plus c' = d.1 t_plus c') ∧ s_wires fs n (d'.1 t_atLeft c) (d'.1 t_atTop c) (s_dr fs i g x p).1 := by
  intro g
  induction g with
  | zero =>
    intro x p d _ hg hp e0 e1 ep hw
    refine ⟨d, fun r h => e_Di_drawFor_55 ⟨fun _ => ?_, fun h2 => by omega⟩, q_ag_refl _ _, ep, fun _ _ => rfl, fun _ _ => rfl, hw⟩
    rw [q_wS (by omega)]; exact h
  | succ g ih =>
    intro x p d rr hg hp e0 e1 ep hw
    have hdec : q_w (((i + (g + 1) : Nat) : Int) + (-1)) = ((i + g : Nat) : Int) := by rw [q_w_id (by omega) (by omega)]; omega
    have hbox := c_Di_isBox (c := c) (fs := fs) (i := i) (j := i + (g + 1)) hf hi (by omega) (by omega) (by omega) (b := b) e1
    by_cases hc : s_box fs i (i + g + 1) && decide (x (i + g + 1) < x i)
    · have hs : s_dr fs i (g + 1) x p = s_dr fs i g (s_sw x i (i + g + 1)) (s_with p (i + g + 1)) := by rw [s_dr, if_pos hc]
      rw [Bool.and_eq_true] at hc
      have hbx := hc.1
      have hlt := of_decide_eq_true hc.2
      unfold s_box at hbx
      rw [Bool.and_eq_true, Bool.and_eq_true] at hbx
      have hri : q_hl fs i = true := hbx.1.2
      have hcj : q_hl fs (i + g + 1) = false := by simpa using hbx.2
      have wl := (hw i hi hin).1 hri
      have wt := (hw (i + g + 1) (by omega) (by omega)).2 hcj
      obtain ⟨d', v, a, r1, r2, r3, r4⟩ := ih (s_sw x i (i + g + 1)) (s_with p (i + g + 1)) (q_sI (q_sI (q_sI d t_plus c i (s_with p (i + g + 1) : Int)) t_atLeft c i (x (i + g + 1) : Int)) t_atTop c (i + g + 1) (x i : Int)) rr (by omega) (s_with_lt hp (by omega))
        (by rw [q_sI_row, q_sR_ne _ _ (by decide), q_sI_row, q_sR_ne _ _ (by decide), q_sI_row, q_sR_ne _ _ (by decide), e0])
        (by rw [q_sI_row, q_sR_ne _ _ (by decide), q_sI_row, q_sR_ne _ _ (by decide), q_sI_row, q_sR_ne _ _ (by decide), e1])
        (by rw [q_sI_row, q_sR_ne _ _ (by decide), q_sI_row, q_sR_ne _ _ (by decide), q_sI_row, q_sR_row, q_up_at])
        (by
          rw [q_sI_row (t := t_atTop), q_sR_row, q_sR_ne _ _ (by decide), q_sI_row (t := t_atLeft), q_sR_row, q_sR_ne _ _ (by decide), q_sI_row, q_sR_ne _ _ (by decide), q_sR_ne _ _ (by decide)]
          exact s_wires_sw hw hri hcj hi hin (by omega) (by omega))
      refine ⟨d', fun r h => ?_, q_ag_tr (q_ag_tr (q_ag_tr (q_ag_sI (by decide)) (q_ag_sI (by decide))) (q_ag_sI (by decide))) a, by rw [hs, r1], fun k hk => ?_, fun c' hc' => ?_, by rw [hs]; exact r4⟩
      · refine e_Di_drawFor_55 ⟨fun h2 => by omega, fun _ => ⟨_, _, hbox, e_Di_drawFor_62 ⟨fun h2 => ?_, fun _ => ⟨by omega, by omega, by omega, by omega, ?_⟩⟩⟩⟩
        · exact absurd (q_b2i_f h2) (by rw [show i + (g + 1) = i + g + 1 from rfl, hc.1]; decide)
        · rw [Int.toNat_natCast, Int.toNat_natCast, show i + (g + 1) = i + g + 1 from rfl, wl, wt]
          refine ⟨fun h2 => by omega, fun _ => ⟨_, _, c_Di_setPlus hp (by omega) (by omega) (by omega) ep, e_Di_drawFor_76 ⟨by omega, by omega, by omega, by omega, by omega, by omega, by omega, by omega, ?_⟩⟩⟩
          refine e_Di_drawFor_94 ?_
          have q1 : (q_sI d t_plus c i (s_with p (i + g + 1) : Int)).1 t_atTop c (i + g + 1) = (x (i + g + 1) : Int) := by rw [q_sI_row, q_sR_ne _ _ (by decide), wt]
          have q2 : (q_sI d t_plus c i (s_with p (i + g + 1) : Int)).1 t_atLeft c i = (x i : Int) := by rw [q_sI_row, q_sR_ne _ _ (by decide), wl]
          rw [Int.toNat_natCast, Int.toNat_natCast, q1, q2]
          have hdec2 : q_w (((i + g + 1 : Nat) : Int) + (-1)) = ((i + g : Nat) : Int) := hdec
          rw [hdec2]
          exact v r h
      · rw [r2 k hk, q_sI_row, q_sR_ne _ _ (by decide), q_sI_row, q_sR_ne _ _ (by decide), q_sI_row, q_sR_row, q_up_ne _ _ hk]
      · rw [r3 c' hc', q_sI_row, q_sR_ne _ _ (by decide), q_sI_row, q_sR_ne _ _ (by decide), q_sI_row, q_sR_ni _ _ hc']
    · have hs : s_dr fs i (g + 1) x p = s_dr fs i g x p := by rw [s_dr, if_neg hc]
      obtain ⟨d', v, a, r1, r2, r3, r4⟩ := ih x p d rr (by omega) hp e0 e1 ep hw
      refine ⟨d', fun r h => ?_, a, by rw [hs, r1], r2, r3, by rw [hs]; exact r4⟩
      have k94 : q_Ev m_Di_drawFor 94 [some (.inr (.inr (t_Di, c))), none, some (.inl (i : Int)), some (.inl ((i + (g + 1) : Nat) : Int)), none] [] (q_mk d b) r := by
        refine e_Di_drawFor_94 ?_
        rw [hdec]
        exact v r h
      refine e_Di_drawFor_55 ⟨fun h2 => by omega, fun _ => ⟨_, _, hbox, e_Di_drawFor_62 ⟨fun _ => k94, fun h2 => ⟨by omega, by omega, by omega, by omega, ?_⟩⟩⟩⟩
      have hbt := q_b2i_t h2
      have hbx := hbt
      unfold s_box at hbx
      rw [Bool.and_eq_true, Bool.and_eq_true] at hbx
      have hri : q_hl fs i = true := hbx.1.2
      have hcj : q_hl fs (i + g + 1) = false := by have h9 := hbx.2; simp only [Bool.not_eq_true'] at h9; exact h9
      have wl := (hw i hi hin).1 hri
      have wt := (hw (i + g + 1) (by omega) (by omega)).2 hcj
      have hge : ¬ x (i + g + 1) < x i := fun hlt => hc (by rw [show s_box fs i (i + g + 1) = true from hbt, decide_eq_true hlt]; rfl)
      rw [Int.toNat_natCast, Int.toNat_natCast, show i + (g + 1) = i + g + 1 from rfl, wl, wt]
      exact ⟨fun _ => k94, fun h3 => by omega⟩
