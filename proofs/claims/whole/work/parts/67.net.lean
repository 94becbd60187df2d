/-! the states of the network, its sorting, its + -/
theorem s_fsr {n w : Nat} {F : Nat → Nat} (h : s_ok n F) (h1 : 1 ≤ w) (h2 : w ≤ n) : q_hl (s_n1 n F n) w = true ↔ n < F (s_src n F n w) := by
  rw [s_fs_hl h h1 h2, decide_eq_true_iff]
theorem s_box_iff {n i j : Nat} {F : Nat → Nat} (h : s_ok n F) (hi : 1 ≤ i) (hij : i < j) (hj : j ≤ n) : s_box (s_n1 n F n) i j = true ↔ n < F (s_src n F n i) ∧ ¬ n < F (s_src n F n j) := by
  unfold s_box
  rw [Bool.and_eq_true, Bool.and_eq_true, decide_eq_true_iff, Bool.not_eq_true', s_fsr h hi (by omega), s_fs_hl h (by omega) hj, decide_eq_false_iff_not]
  exact ⟨fun h => ⟨h.1.2, h.2⟩, fun h => ⟨⟨hij, h.1⟩, h.2⟩⟩
theorem s_S_step {n i j : Nat} {F x y : Nat → Nat} (h : s_ok n F) (hi : 1 ≤ i) (hij : i < j) (hj : j ≤ n) (hy : y = s_bs (s_n1 n F n) i j x) (r1 : ∀ w, 1 ≤ w → w ≤ n → 1 ≤ x w ∧ x w ≤ n) (r2 : ∀ m, m < n → ∀ w, 1 ≤ w → w ≤ n → (m < x w ↔ s_Z n F m i j w)) : (∀ w, 1 ≤ w → w ≤ n → 1 ≤ y w ∧ y w ≤ n) ∧ ∀ m, m < n → ∀ w, 1 ≤ w → w ≤ n → (m < y w ↔ s_Z n F m i (j - 1) w) := by
  have bi := r1 i hi (by omega)
  have bj := r1 j (by omega) hj
  by_cases hbox : s_box (s_n1 n F n) i j = true
  · have hb := (s_box_iff h hi hij hj).mp hbox
    by_cases hlt : x j < x i
    · have he : y = s_sw x i j := by rw [hy, s_bs, hbox, decide_eq_true hlt]; rfl
      rw [he]
      unfold s_sw
      refine ⟨fun w h1 h2 => ?_, fun m hm w h1 h2 => ?_⟩
      · split
        · exact bj
        · split
          · exact bi
          · exact r1 w h1 h2
      · have zb := s_Z_box h hm hi hij hj hb.1 hb.2
        have zi := r2 m hm i hi (by omega)
        have zj := r2 m hm j (by omega) hj
        by_cases q1 : w = i
        · rw [if_pos q1, q1, zb.1, ← zi, ← zj]; omega
        · rw [if_neg q1]
          by_cases q2 : w = j
          · rw [if_pos q2, q2, zb.2, ← zi, ← zj]; omega
          · rw [if_neg q2, r2 m hm w h1 h2]
            exact s_Z_oth h hm hi hij hj h1 h2 (Or.inr ⟨q1, q2⟩)
    · have he : y = x := by rw [hy, s_bs, hbox, decide_eq_false hlt]; rfl
      rw [he]
      refine ⟨r1, fun m hm w h1 h2 => ?_⟩
      have zb := s_Z_box h hm hi hij hj hb.1 hb.2
      have zi := r2 m hm i hi (by omega)
      have zj := r2 m hm j (by omega) hj
      by_cases q1 : w = i
      · rw [q1, zb.1, ← zi, ← zj]; omega
      · by_cases q2 : w = j
        · rw [q2, zb.2, ← zi, ← zj]; omega
        · rw [r2 m hm w h1 h2]
          exact s_Z_oth h hm hi hij hj h1 h2 (Or.inr ⟨q1, q2⟩)
  · have he : y = x := by
      rw [hy, s_bs, if_neg (fun hh => hbox (by rw [Bool.and_eq_true] at hh; exact hh.1))]
    rw [he]
    refine ⟨r1, fun m hm w h1 h2 => ?_⟩
    rw [r2 m hm w h1 h2]
    exact s_Z_oth h hm hi hij hj h1 h2 (Or.inl (fun hh => hbox ((s_box_iff h hi hij hj).mpr hh)))
theorem s_S_Z {n : Nat} {F : Nat → Nat} (h : s_ok n F) : ∀ i, i < n → ∀ t, t ≤ n - (i + 1) → (∀ w, 1 ≤ w → w ≤ n → 1 ≤ s_S n F i t w ∧ s_S n F i t w ≤ n) ∧ ∀ m, m < n → ∀ w, 1 ≤ w → w ≤ n → (m < s_S n F i t w ↔ s_Z n F m (i + 1) (n - t) w) := by
  have hb := s_ok_bd h
  have hn := hb.1
  intro i
  induction i with
  | zero =>
    intro hi t
    induction t with
    | zero =>
      intro ht
      refine ⟨fun w h1 h2 => ?_, fun m hm w h1 h2 => ?_⟩
      · have := s_src_of h h1 h2
        exact ⟨this.1, this.2.1⟩
      · rw [show n - 0 = n from rfl]
        exact (s_Z_0 h hm h1 h2).symm
    | succ t ih =>
      intro ht
      obtain ⟨r1, r2⟩ := ih (by omega)
      have hst : s_S n F 0 (t + 1) = s_bs (s_n1 n F n) 1 (n - t) (s_S n F 0 t) := rfl
      have hj1 : 1 < n - t := by omega
      have hsub : n - (t + 1) = n - t - 1 := by omega
      rw [hsub]
      exact s_S_step h (i := 1) (j := n - t) (by omega) hj1 (by omega) hst r1 r2
  | succ i ihi =>
    intro hi t
    induction t with
    | zero =>
      intro ht
      obtain ⟨r1, r2⟩ := ihi (by omega) (n - (i + 1)) (Nat.le_refl _)
      have hst : s_S n F (i + 1) 0 = s_S n F i (n - (i + 1)) := s_S_row hn (by omega)
      rw [hst]
      refine ⟨r1, fun m hm w h1 h2 => ?_⟩
      rw [r2 m hm w h1 h2, show n - (n - (i + 1)) = i + 1 by omega, show n - 0 = n from rfl]
      exact s_Z_next h hm (by omega) (by omega) h1 h2
    | succ t ih =>
      intro ht
      obtain ⟨r1, r2⟩ := ih (by omega)
      have hst : s_S n F (i + 1) (t + 1) = s_bs (s_n1 n F n) (i + 1 + 1) (n - t) (s_S n F (i + 1) t) := rfl
      have hsub : n - (t + 1) = n - t - 1 := by omega
      rw [hsub]
      exact s_S_step h (i := i + 1 + 1) (j := n - t) (by omega) (by omega) (by omega) hst r1 r2
/-- a pair that a threshold joins -/
def s_mt (n : Nat) (F : Nat → Nat) (m i j : Nat) : Prop := q_hl (s_gone n F m) i = true ∧ q_hl (s_come n F m) j = true ∧ s_pcTo (s_gone n F m) 8 = s_pcTo (s_gone n F m) (i - 1) + s_pcTo (s_come n F m) j
theorem s_Z_mt {n m i j : Nat} {F : Nat → Nat} (h : s_ok n F) (hm : m < n) (hi : 1 ≤ i) (hij : i < j) (hj : j ≤ n) (hri : n < F (s_src n F n i)) (hcj : ¬ n < F (s_src n F n j)) : (s_Z n F m i j i ∧ ¬ s_Z n F m i j j) ↔ s_mt n F m i j := by
  have hb := s_ok_bd h
  have hn := hb.1
  obtain ⟨g3, g4, k3, k4, k5⟩ := s_cnts h hm
  have gi := s_gone_hl h hm hi (show i ≤ n by omega)
  have cj := s_come_hl h hm (show 1 ≤ j by omega) hj
  have ks : s_pcTo (s_come n F m) j = s_pcTo (s_come n F m) (j - 1) + (q_hl (s_come n F m) j).toNat := by
    have := s_pcTo_s (s_come n F m) (j - 1)
    rw [show j - 1 + 1 = j by omega] at this; exact this
  have gs : s_pcTo (s_gone n F m) i = s_pcTo (s_gone n F m) (i - 1) + (q_hl (s_gone n F m) i).toNat := by
    have := s_pcTo_s (s_gone n F m) (i - 1)
    rw [show i - 1 + 1 = i by omega] at this; exact this
  have gle := g3 i (by omega)
  have k0 := k4 j
  have g1 := g4 (i - 1)
  have ab := s_src_bd h (w := j) (by omega) hj
  unfold s_Z s_mt
  rw [if_pos hri, if_neg (show ¬ i < i by omega), if_pos rfl, if_neg hcj]
  by_cases hg : q_hl (s_gone n F m) i = true
  · have hgi := gi.mp hg
    rw [hg] at gs
    by_cases hc : q_hl (s_come n F m) j = true
    · have hcc := cj.mp hc
      rw [hc] at ks
      simp only [iff_false, hg, hc, not_true, false_or, true_and, Bool.toNat_true] at gs ks ⊢
      omega
    · have hc2 : q_hl (s_come n F m) j = false := by simpa using hc
      rw [hc2] at ks
      have hcn : ¬ (m < j ∧ s_src n F n j ≤ m) := fun hh => hc (cj.mpr ⟨hcj, hh.1, hh.2⟩)
      simp only [iff_false, hg, hc2, true_and, false_and, and_false, Bool.toNat_true, Bool.toNat_false, Bool.false_eq_true, not_false_eq_true, true_or, and_true] at gs ks ⊢
      omega
  · have hg2 : q_hl (s_gone n F m) i = false := by simpa using hg
    rw [hg2] at gs
    by_cases hc : q_hl (s_come n F m) j = true
    · have hcc := cj.mp hc
      rw [hc] at ks
      simp only [iff_false, hg2, hc, not_true, false_or, false_and, or_false, Bool.toNat_true, Bool.toNat_false, Bool.false_eq_true] at gs ks ⊢
      omega
    · have hc2 : q_hl (s_come n F m) j = false := by simpa using hc
      simp only [iff_false, hg2, hc2, false_and, or_false, Bool.false_eq_true, not_false_eq_true, true_or, and_true] at gs ks ⊢
      omega
/-- the + of a cell's diagram are what some threshold joins -/
theorem s_plus_mt {n i j : Nat} {F : Nat → Nat} (h : s_ok n F) (hi : 1 ≤ i) (hin : i ≤ n) (hj : 1 ≤ j) : q_hl (s_plus n F i) j = true ↔ (i < j ∧ j ≤ n ∧ s_box (s_n1 n F n) i j = true ∧ ∃ m, m < n ∧ s_mt n F m i j) := by
  have hn := h.2.1
  obtain ⟨k, rfl⟩ : ∃ k, i = k + 1 := ⟨i - 1, by omega⟩
  rw [s_plus_hl hn (by omega) hj]
  refine ⟨fun ⟨h1, h2, h3, h4⟩ => ⟨h1, h2, h3, ?_⟩, fun ⟨h1, h2, h3, m, hm, h4⟩ => ⟨h1, h2, h3, ?_⟩⟩
  · obtain ⟨r1, r2⟩ := s_S_Z h k (by omega) (n - j) (by omega)
    have b1 := r1 (k + 1) (by omega) (by omega)
    have hb := (s_box_iff h (by omega) h1 h2).mp h3
    refine ⟨s_S n F k (n - j) j, by omega, ?_⟩
    rw [← s_Z_mt h (by omega) (by omega) h1 h2 hb.1 hb.2]
    have z1 := r2 (s_S n F k (n - j) j) (by omega) (k + 1) (by omega) (by omega)
    have z2 := r2 (s_S n F k (n - j) j) (by omega) j (by omega) (by omega)
    rw [show n - (n - j) = j by omega] at z1 z2
    rw [← z1, ← z2]; omega
  · obtain ⟨r1, r2⟩ := s_S_Z h k (by omega) (n - j) (by omega)
    have hb := (s_box_iff h (by omega) h1 h2).mp h3
    rw [← s_Z_mt h hm (by omega) h1 h2 hb.1 hb.2] at h4
    have z1 := r2 m hm (k + 1) (by omega) (by omega)
    have z2 := r2 m hm j (by omega) (by omega)
    rw [show n - (n - j) = j by omega] at z1 z2
    rw [← z1, ← z2] at h4; omega
/-- ways through a filled diagram: what each piece of a row or a column carries -/
def s_net (n fs : Nat) (p : Nat → Nat → Bool) (R C : Nat → Nat → Nat) : Prop :=
  (∀ i j, 1 ≤ i → i < j → j ≤ n → s_box fs i j = true → (p i j = true → R i (j - 1) = C (i - 1) j ∧ C i j = R i j) ∧ (p i j = false → R i (j - 1) = R i j ∧ C i j = C (i - 1) j)) ∧
  (∀ i j, 1 ≤ i → i < j → j ≤ n → q_hl fs i = true → s_box fs i j = false → R i (j - 1) = R i j) ∧
  (∀ i j, 1 ≤ i → i < j → j ≤ n → q_hl fs j = false → s_box fs i j = false → C i j = C (i - 1) j) ∧
  (∀ i, 1 ≤ i → i ≤ n → q_hl fs i = true → R i i = i) ∧ (∀ j, 1 ≤ j → j ≤ n → q_hl fs j = false → C (j - 1) j = j)
theorem s_rs_oth {fs n i w : Nat} {x : Nat → Nat} (hw : w ≠ i) : ∀ t, (w ≤ n - t ∨ q_hl fs w = true) → s_rs fs n i x t w = x w
  | 0, _ => rfl
  | t + 1, h => by
    rw [s_rs]
    have ih := s_rs_oth (fs := fs) (n := n) (x := x) hw t (by rcases h with h | h; exact Or.inl (by omega); exact Or.inr h)
    unfold s_bs
    split
    · rename_i hc
      rw [Bool.and_eq_true] at hc
      have hwj : w ≠ n - t := by
        rcases h with h | h
        · by_cases hq : n - t = 0
          · have := hc.1
            unfold s_box at this
            rw [Bool.and_eq_true, Bool.and_eq_true, decide_eq_true_iff] at this
            omega
          · omega
        · intro hh
          have := hc.1
          unfold s_box at this
          rw [Bool.and_eq_true, ← hh, h] at this
          exact absurd this.2 (by decide)
      unfold s_sw
      rw [if_neg hw, if_neg hwj]; exact ih
    · exact ih
theorem s_rs_late {fs n i w : Nat} {x : Nat → Nat} (hw : w ≠ i) : ∀ f t, n - t < w → s_rs fs n i x (t + f) w = s_rs fs n i x t w
  | 0, t, _ => rfl
  | f + 1, t, h => by
    rw [show t + (f + 1) = (t + f) + 1 by omega, s_rs]
    have ih := s_rs_late (fs := fs) (x := x) hw f t h
    unfold s_bs
    split
    · unfold s_sw
      rw [if_neg hw, if_neg (by omega)]; exact ih
    · exact ih
theorem s_net_of {n : Nat} {F : Nat → Nat} (h : s_ok n F) : s_net n (s_n1 n F n) (fun i j => q_hl (s_plus n F i) j) (fun i j => s_S n F (i - 1) (n - j) i) (fun i j => s_dx (s_n1 n F n) n (s_src n F n) i j) := by
  have hb := s_ok_bd h
  have hn := hb.1
  have colA : ∀ i j, 1 ≤ i → i < j → j ≤ n → s_S n F (i - 1) (n - j) j = s_dx (s_n1 n F n) n (s_src n F n) (i - 1) j := by
    intro i j h1 h2 h3
    exact s_rs_oth (by omega) (n - j) (Or.inl (by omega))
  have colB : ∀ i j, 1 ≤ i → i < j → j ≤ n → s_dx (s_n1 n F n) n (s_src n F n) i j = s_S n F (i - 1) (n - (j - 1)) j := by
    intro i j h1 h2 h3
    have hr := s_S_row (n := n) (i := i - 1) (F := F) hn (by omega)
    rw [show i - 1 + 1 = i by omega] at hr
    rw [hr]
    have := s_rs_late (fs := s_n1 n F n) (n := n) (i := i - 1 + 1) (w := j) (x := s_dx (s_n1 n F n) n (s_src n F n) (i - 1)) (by omega) (j - 1 - i) (n - (j - 1)) (by omega)
    rw [show n - (j - 1) + (j - 1 - i) = n - i by omega] at this
    exact this
  have step : ∀ i j, 1 ≤ i → i < j → j ≤ n → s_S n F (i - 1) (n - (j - 1)) = s_bs (s_n1 n F n) i j (s_S n F (i - 1) (n - j)) := by
    intro i j h1 h2 h3
    rw [show n - (j - 1) = (n - j) + 1 by omega]
    show s_bs (s_n1 n F n) (i - 1 + 1) (n - (n - j)) (s_S n F (i - 1) (n - j)) = _
    rw [show i - 1 + 1 = i by omega, show n - (n - j) = j by omega]
  refine ⟨fun i j h1 h2 h3 hbx => ⟨fun hp => ?_, fun hp => ?_⟩, fun i j h1 h2 h3 hf hbx => ?_, fun i j h1 h2 h3 hf hbx => ?_, fun i h1 h2 hf => ?_, fun j h1 h2 hf => ?_⟩
  · have hpl := s_plus_hl (n := n) (i := i - 1) (l := j) (F := F) hn (by omega) (by omega)
    rw [show i - 1 + 1 = i by omega] at hpl
    have hlt := (hpl.mp hp).2.2.2
    have hs : s_S n F (i - 1) (n - (j - 1)) = s_sw (s_S n F (i - 1) (n - j)) i j := by rw [step i j h1 h2 h3, s_bs, hbx, decide_eq_true hlt]; rfl
    dsimp only
    rw [colB i j h1 h2 h3, hs]
    unfold s_sw
    rw [if_pos rfl, if_neg (by omega), if_pos rfl, colA i j h1 h2 h3]
    exact ⟨rfl, rfl⟩
  · have hpl := s_plus_hl (n := n) (i := i - 1) (l := j) (F := F) hn (by omega) (by omega)
    rw [show i - 1 + 1 = i by omega] at hpl
    have hlt : ¬ s_S n F (i - 1) (n - j) j < s_S n F (i - 1) (n - j) i := fun hh => by
      have hp : q_hl (s_plus n F i) j = false := hp
      rw [hpl.mpr ⟨h2, h3, hbx, hh⟩] at hp; exact absurd hp (by decide)
    have hs : s_S n F (i - 1) (n - (j - 1)) = s_S n F (i - 1) (n - j) := by rw [step i j h1 h2 h3, s_bs, hbx, decide_eq_false hlt]; rfl
    dsimp only
    rw [colB i j h1 h2 h3, hs, colA i j h1 h2 h3]
    exact ⟨rfl, rfl⟩
  · have hs : s_S n F (i - 1) (n - (j - 1)) = s_S n F (i - 1) (n - j) := by rw [step i j h1 h2 h3, s_bs, hbx]; rfl
    dsimp only
    rw [hs]
  · have hs : s_S n F (i - 1) (n - (j - 1)) = s_S n F (i - 1) (n - j) := by rw [step i j h1 h2 h3, s_bs, hbx]; rfl
    dsimp only
    rw [colB i j h1 h2 h3, hs, colA i j h1 h2 h3]
  · obtain ⟨r1, r2⟩ := s_S_Z h (i - 1) (by omega) (n - i) (by omega)
    have b1 := r1 i h1 h2
    have hri := (s_fsr h h1 h2).mp hf
    have key : ∀ m, m < n → (m < s_S n F (i - 1) (n - i) i ↔ m < i) := by
      intro m hm
      have z := r2 m hm i h1 h2
      rw [show i - 1 + 1 = i by omega, show n - (n - i) = i by omega] at z
      rw [z]
      obtain ⟨g3, g4, k3, k4, k5⟩ := s_cnts h hm
      have gi := s_gone_hl h hm h1 h2
      have gs : s_pcTo (s_gone n F m) i = s_pcTo (s_gone n F m) (i - 1) + (q_hl (s_gone n F m) i).toNat := by
        have := s_pcTo_s (s_gone n F m) (i - 1)
        rw [show i - 1 + 1 = i by omega] at this; exact this
      have gle := g3 i (by omega)
      have k0 := k4 i
      unfold s_Z
      rw [if_pos hri, if_neg (by omega), if_pos rfl]
      by_cases hg : q_hl (s_gone n F m) i = true
      · have hgi := gi.mp hg
        rw [hg] at gs
        simp only [hg, true_and, Bool.toNat_true] at gs ⊢
        omega
      · simp only [hg, false_and, or_false, Bool.false_eq_true]
    have k1 := key (i - 1) (by omega)
    by_cases hq : s_S n F (i - 1) (n - i) i ≤ i
    · show s_S n F (i - 1) (n - i) i = i
      omega
    · have := key i (by omega); omega
  · obtain ⟨r1, r2⟩ := s_S_Z h (j - 1) (by omega) 0 (by omega)
    have b1 := r1 j h1 h2
    have hcj : ¬ n < F (s_src n F n j) := by
      rw [s_fs_hl h h1 h2, decide_eq_false_iff_not] at hf; exact hf
    have key : ∀ m, m < n → (m < s_S n F (j - 1) 0 j ↔ m < j) := by
      intro m hm
      have z := r2 m hm j h1 h2
      rw [show j - 1 + 1 = j by omega, show n - 0 = n from rfl] at z
      rw [z]
      obtain ⟨g3, g4, k3, k4, k5⟩ := s_cnts h hm
      have cj := s_come_hl h hm h1 h2
      have ks : s_pcTo (s_come n F m) j = s_pcTo (s_come n F m) (j - 1) + (q_hl (s_come n F m) j).toNat := by
        have := s_pcTo_s (s_come n F m) (j - 1)
        rw [show j - 1 + 1 = j by omega] at this; exact this
      have g1 := g4 (j - 1)
      unfold s_Z
      rw [if_neg hcj]
      by_cases hc : q_hl (s_come n F m) j = true
      · have hcc := cj.mp hc
        rw [hc] at ks
        simp only [hc, not_true, false_or, Bool.toNat_true] at ks ⊢
        omega
      · simp only [hc, not_false_eq_true, true_or, and_true, Bool.false_eq_true]
    have k1 := key (j - 1) (by omega)
    show s_S n F (j - 1) 0 j = j
    by_cases hq : s_S n F (j - 1) 0 j ≤ j
    · omega
    · have := key j (by omega); omega
