/-! the network of a cell, by thresholds -/
def s_bs (fs i j : Nat) (x : Nat → Nat) : Nat → Nat := if s_box fs i j && decide (x j < x i) then s_sw x i j else x
def s_rs (fs n i : Nat) (x : Nat → Nat) : Nat → Nat → Nat
  | 0 => x
  | t + 1 => s_bs fs i (n - t) (s_rs fs n i x t)
theorem s_dr_rs {fs n i : Nat} {x : Nat → Nat} (hn : n ≤ 8) (hi : 1 ≤ i) : ∀ (g t p : Nat), i + g + t = n → (s_dr fs i g (s_rs fs n i x t) p).1 = s_rs fs n i x (n - i) ∧ ∀ l, 1 ≤ l → (q_hl (s_dr fs i g (s_rs fs n i x t) p).2 l = true ↔ q_hl p l = true ∨ (i < l ∧ l ≤ i + g ∧ s_box fs i l = true ∧ s_rs fs n i x (n - l) l < s_rs fs n i x (n - l) i))
  | 0, t, p, h => by
    rw [s_dr, show n - i = t by omega]
    exact ⟨rfl, fun l hl => ⟨fun h2 => Or.inl h2, fun h2 => by rcases h2 with h2 | h2; exact h2; omega⟩⟩
  | g + 1, t, p, h => by
    have hnt : n - t = i + g + 1 := by omega
    have hst : s_rs fs n i x (t + 1) = s_bs fs i (i + g + 1) (s_rs fs n i x t) := by rw [s_rs, hnt]
    rw [s_dr]
    by_cases hc : (s_box fs i (i + g + 1) && decide (s_rs fs n i x t (i + g + 1) < s_rs fs n i x t i)) = true
    · rw [if_pos hc]
      have he : s_sw (s_rs fs n i x t) i (i + g + 1) = s_rs fs n i x (t + 1) := by rw [hst, s_bs, if_pos hc]
      rw [he]
      obtain ⟨q1, q2⟩ := s_dr_rs hn hi g (t + 1) (s_with p (i + g + 1)) (by omega)
      refine ⟨q1, fun l hl => ?_⟩
      rw [q2 l hl, s_with_hl (by omega) hl, Bool.or_eq_true, decide_eq_true_iff]
      rw [Bool.and_eq_true, decide_eq_true_iff] at hc
      refine ⟨fun h2 => ?_, fun h2 => ?_⟩
      · rcases h2 with (h2 | h2) | h2
        · exact Or.inl h2
        · subst h2
          rw [show n - (i + g + 1) = t by omega]
          exact Or.inr ⟨by omega, by omega, hc.1, hc.2⟩
        · exact Or.inr ⟨h2.1, by omega, h2.2.2⟩
      · rcases h2 with h2 | h2
        · exact Or.inl (Or.inl h2)
        · by_cases hq : l = i + g + 1
          · exact Or.inl (Or.inr hq)
          · exact Or.inr ⟨h2.1, by omega, h2.2.2⟩
    · rw [if_neg hc]
      have he : s_rs fs n i x (t + 1) = s_rs fs n i x t := by rw [hst, s_bs, if_neg hc]
      obtain ⟨q1, q2⟩ := s_dr_rs hn hi g (t + 1) p (by omega)
      rw [he] at q1 q2
      refine ⟨q1, fun l hl => ?_⟩
      rw [q2 l hl]
      rw [Bool.and_eq_true, decide_eq_true_iff] at hc
      refine ⟨fun h2 => ?_, fun h2 => ?_⟩
      · rcases h2 with h2 | h2
        · exact Or.inl h2
        · exact Or.inr ⟨h2.1, by omega, h2.2.2⟩
      · rcases h2 with h2 | h2
        · exact Or.inl h2
        · by_cases hq : l = i + g + 1
          · subst hq
            rw [show n - (i + g + 1) = t by omega] at h2
            exact absurd ⟨h2.2.2.1, h2.2.2.2⟩ hc
          · exact Or.inr ⟨h2.1, by omega, h2.2.2⟩
/-- the state before row i + 1, after t of its columns -/
def s_S (n : Nat) (F : Nat → Nat) (i t : Nat) : Nat → Nat := s_rs (s_n1 n F n) n (i + 1) (s_dx (s_n1 n F n) n (s_src n F n) i) t
theorem s_S_row {n i : Nat} {F : Nat → Nat} (hn : n ≤ 8) (hi : i < n) : s_dx (s_n1 n F n) n (s_src n F n) (i + 1) = s_S n F i (n - (i + 1)) := by
  rw [s_dx]
  exact (s_dr_rs (fs := s_n1 n F n) (n := n) (i := i + 1) (x := s_dx (s_n1 n F n) n (s_src n F n) i) hn (by omega) (n - (i + 1)) 0 0 (by omega)).1
theorem s_plus_hl {n i l : Nat} {F : Nat → Nat} (hn : n ≤ 8) (hi : i < n) (hl : 1 ≤ l) : q_hl (s_plus n F (i + 1)) l = true ↔ (i + 1 < l ∧ l ≤ n ∧ s_box (s_n1 n F n) (i + 1) l = true ∧ s_S n F i (n - l) l < s_S n F i (n - l) (i + 1)) := by
  have := (s_dr_rs (fs := s_n1 n F n) (n := n) (i := i + 1) (x := s_dx (s_n1 n F n) n (s_src n F n) i) hn (by omega) (n - (i + 1)) 0 0 (by omega)).2 l hl
  unfold s_plus s_dp
  rw [show i + 1 - 1 = i by omega]
  rw [show s_rs (s_n1 n F n) n (i + 1) (s_dx (s_n1 n F n) n (s_src n F n) i) 0 = s_dx (s_n1 n F n) n (s_src n F n) i from rfl] at this
  rw [this, show q_hl 0 l = false from Nat.zero_testBit _, show i + 1 + (n - (i + 1)) = n by omega]
  exact ⟨fun h => by rcases h with h | h; exact absurd h (by decide); exact h, fun h => Or.inr h⟩
/-! counts of labels -/
theorem s_pcTo_s (s i : Nat) : s_pcTo s (i + 1) = s_pcTo s i + (q_hl s (i + 1)).toNat := rfl
theorem s_pcTo_mono (s : Nat) : ∀ f i, s_pcTo s i ≤ s_pcTo s (i + f)
  | 0, i => Nat.le_refl _
  | f + 1, i => by
    have := s_pcTo_mono s f i
    rw [show i + (f + 1) = (i + f) + 1 by omega, s_pcTo_s]; omega
theorem s_pcTo_top {s i : Nat} (h : ∀ w, i < w → w ≤ 8 → q_hl s w = false) : ∀ f, i + f ≤ 8 → s_pcTo s (i + f) = s_pcTo s i
  | 0, _ => rfl
  | f + 1, hf => by
    rw [show i + (f + 1) = (i + f) + 1 by omega, s_pcTo_s, h (i + f + 1) (by omega) (by omega), s_pcTo_top h f (by omega)]; rfl
theorem s_pcTo_bot {s : Nat} : ∀ i, (∀ w, 1 ≤ w → w ≤ i → q_hl s w = false) → s_pcTo s i = 0
  | 0, _ => rfl
  | i + 1, h => by rw [s_pcTo_s, s_pcTo_bot i (fun w h1 h2 => h w h1 (by omega)), h (i + 1) (by omega) (Nat.le_refl _)]; rfl
theorem s_pcTo_dif (a c : Nat) : ∀ k, s_pcTo (q_dif a c) k + s_pcTo (a &&& c) k = s_pcTo a k
  | 0 => rfl
  | k + 1 => by
    have := s_pcTo_dif a c k
    rw [s_pcTo, s_pcTo, s_pcTo, q_dif_bit, Nat.testBit_and]
    cases a.testBit k <;> cases c.testBit k <;> simp <;> omega
theorem s_pc_sw {a c : Nat} (h : q_pc a = q_pc c) : s_pcTo (q_dif a c) 8 = s_pcTo (q_dif c a) 8 := by
  have h1 := s_pcTo_dif a c 8
  have h2 := s_pcTo_dif c a 8
  rw [Nat.and_comm c a] at h2
  rw [s_pcTo_8 a] at h1
  rw [s_pcTo_8 c] at h2
  omega
/-! who has gone and who has come -/
def s_gone (n : Nat) (F : Nat → Nat) (m : Nat) : Nat := q_dif (s_n1 n F n) (s_nk n F (m + 1))
def s_come (n : Nat) (F : Nat → Nat) (m : Nat) : Nat := q_dif (s_nk n F (m + 1)) (s_n1 n F n)
theorem s_gone_hl {n m w : Nat} {F : Nat → Nat} (h : s_ok n F) (hm : m < n) (h1 : 1 ≤ w) (h2 : w ≤ n) : q_hl (s_gone n F m) w = true ↔ n < F (s_src n F n w) ∧ w ≤ m ∧ m < s_src n F n w := by
  unfold s_gone
  rw [q_hl_dif, Bool.and_eq_true, Bool.not_eq_true', s_fs_hl h h1 h2, decide_eq_true_iff]
  have hk := s_nk_hl h m hm w h1 h2
  have ab := s_src_bd h h1 h2
  unfold s_nkF at hk
  cases hq : q_hl (s_nk n F (m + 1)) w
  · rw [hq] at hk
    have hk2 : ¬ (if m < w then n < F (s_src n F n w) ∨ s_src n F n w ≤ m else n < F (s_src n F n w) ∧ s_src n F n w ≤ m) := fun hh => absurd (hk.mpr hh) (by decide)
    split at hk2
    · exact ⟨fun hh => absurd (Or.inl hh.1) hk2, fun hh => by omega⟩
    · exact ⟨fun hh => ⟨hh.1, by omega, by omega⟩, fun hh => ⟨hh.1, rfl⟩⟩
  · rw [hq] at hk
    have hk2 := hk.mp rfl
    refine ⟨fun hh => absurd hh.2 (by decide), fun hh => ?_⟩
    split at hk2 <;> omega
theorem s_come_hl {n m w : Nat} {F : Nat → Nat} (h : s_ok n F) (hm : m < n) (h1 : 1 ≤ w) (h2 : w ≤ n) : q_hl (s_come n F m) w = true ↔ ¬ n < F (s_src n F n w) ∧ m < w ∧ s_src n F n w ≤ m := by
  unfold s_come
  rw [q_hl_dif, Bool.and_eq_true, Bool.not_eq_true', s_fs_hl h h1 h2, decide_eq_false_iff_not, s_nk_hl h m hm w h1 h2]
  have ab := s_src_bd h h1 h2
  unfold s_nkF
  split <;> omega
theorem s_gone_lt {n : Nat} {F : Nat → Nat} (hb : s_bd n F) (m : Nat) : s_gone n F m < 2 ^ n := q_dif_lt (s_nk_ltn hb 0 (by omega))
theorem s_come_lt {n m : Nat} {F : Nat → Nat} (hb : s_bd n F) (hm : m < n) : s_come n F m < 2 ^ n := q_dif_lt (s_nk_ltn hb m (by omega))
theorem s_gc_pc {n m : Nat} {F : Nat → Nat} (h : s_ok n F) (hm : m < n) : s_pcTo (s_gone n F m) 8 = s_pcTo (s_come n F m) 8 := s_pc_sw (s_nk_pc h m hm).symm
/-- facts of the counts of one threshold -/
theorem s_cnts {n m : Nat} {F : Nat → Nat} (h : s_ok n F) (hm : m < n) : (∀ i, i ≤ 8 → s_pcTo (s_gone n F m) i ≤ s_pcTo (s_gone n F m) 8) ∧ (∀ i, m ≤ i → i ≤ n → s_pcTo (s_gone n F m) i = s_pcTo (s_gone n F m) 8) ∧ (∀ i, i ≤ 8 → s_pcTo (s_come n F m) i ≤ s_pcTo (s_gone n F m) 8) ∧ (∀ i, i ≤ m → s_pcTo (s_come n F m) i = 0) ∧ s_pcTo (s_come n F m) n = s_pcTo (s_gone n F m) 8 := by
  have hb := s_ok_bd h
  have hn := hb.1
  refine ⟨fun i hi => ?_, fun i h1 h2 => ?_, fun i hi => ?_, fun i hi => ?_, ?_⟩
  · have := s_pcTo_mono (s_gone n F m) (8 - i) i
    rw [show i + (8 - i) = 8 by omega] at this; exact this
  · have := s_pcTo_top (s := s_gone n F m) (i := i) (fun w h3 h4 => by
      by_cases hw : w ≤ n
      · cases hq : q_hl (s_gone n F m) w
        · rfl
        · have := (s_gone_hl h hm (by omega) hw).mp hq; omega
      · exact s_hln (s_gone_lt hb m) (by omega)) (8 - i) (by omega)
    rw [show i + (8 - i) = 8 by omega] at this; exact this.symm
  · have := s_pcTo_mono (s_come n F m) (8 - i) i
    rw [show i + (8 - i) = 8 by omega] at this
    rw [s_gc_pc h hm]; exact this
  · refine s_pcTo_bot i (fun w h1 h2 => ?_)
    cases hq : q_hl (s_come n F m) w
    · rfl
    · have := (s_come_hl h hm h1 (by omega)).mp hq; omega
  · rw [s_gc_pc h hm]
    have := s_pcTo_top (s := s_come n F m) (i := n) (fun w h3 h4 => s_hln (s_come_lt hb hm) (by omega)) (8 - n) (by omega)
    rw [show n + (8 - n) = 8 by omega] at this; exact this.symm
/-- what a wire carries beyond a threshold, before column j of row i -/
def s_Z (n : Nat) (F : Nat → Nat) (m i j w : Nat) : Prop :=
  if n < F (s_src n F n w) then (if w < i then m < w else if w = i then (m < i ∨ (q_hl (s_gone n F m) i = true ∧ s_pcTo (s_gone n F m) 8 ≤ s_pcTo (s_gone n F m) (i - 1) + s_pcTo (s_come n F m) j)) else m < s_src n F n w)
  else m < w ∧ (¬ q_hl (s_come n F m) w = true ∨ s_pcTo (s_gone n F m) 8 < s_pcTo (s_gone n F m) (i - 1) + s_pcTo (s_come n F m) w ∨ (q_hl (s_gone n F m) i = true ∧ j < w ∧ s_pcTo (s_gone n F m) 8 = s_pcTo (s_gone n F m) (i - 1) + s_pcTo (s_come n F m) w))
theorem s_Z_0 {n m w : Nat} {F : Nat → Nat} (h : s_ok n F) (hm : m < n) (h1 : 1 ≤ w) (h2 : w ≤ n) : s_Z n F m 1 n w ↔ m < s_src n F n w := by
  have hb := s_ok_bd h
  obtain ⟨g3, g4, k3, k4, k5⟩ := s_cnts h hm
  have ab := s_src_bd h h1 h2
  have a1 := s_src_of h h1 h2
  have hg := s_gone_hl h hm h1 h2
  have hc := s_come_hl h hm h1 h2
  have hw := k3 w (by have := hb.1; omega)
  have g0 : s_pcTo (s_gone n F m) 0 = 0 := rfl
  unfold s_Z
  by_cases hr : n < F (s_src n F n w)
  · rw [if_pos hr, if_neg (by omega)]
    by_cases hq : w = 1
    · subst hq
      rw [if_pos rfl, hg, show (1 : Nat) - 1 = 0 from rfl, g0, k5]
      omega
    · rw [if_neg hq]
  · rw [if_neg hr, show (1 : Nat) - 1 = 0 from rfl, g0, hc]
    omega
theorem s_Z_next {n m i w : Nat} {F : Nat → Nat} (h : s_ok n F) (hm : m < n) (hi : 1 ≤ i) (hin : i < n) (h1 : 1 ≤ w) (h2 : w ≤ n) : s_Z n F m i i w ↔ s_Z n F m (i + 1) n w := by
  have hb := s_ok_bd h
  have hn := hb.1
  obtain ⟨g3, g4, k3, k4, k5⟩ := s_cnts h hm
  have ab := s_src_bd h h1 h2
  have gi := s_gone_hl h hm hi (by omega)
  have gw := s_gone_hl h hm h1 h2
  have cw := s_come_hl h hm h1 h2
  have gs : s_pcTo (s_gone n F m) i = s_pcTo (s_gone n F m) (i - 1) + (q_hl (s_gone n F m) i).toNat := by
    have := s_pcTo_s (s_gone n F m) (i - 1)
    rw [show i - 1 + 1 = i by omega] at this; exact this
  have gle := g3 i (by omega)
  have ki := k4 i
  unfold s_Z
  rw [show i + 1 - 1 = i by omega]
  by_cases hr : n < F (s_src n F n w)
  · rw [if_pos hr, if_pos hr]
    by_cases q1 : w < i
    · rw [if_pos q1, if_pos (by omega)]
    · rw [if_neg q1]
      by_cases q2 : w = i
      · rw [if_pos q2, if_pos (by omega), q2]
        rw [q2] at gw
        by_cases hg : q_hl (s_gone n F m) i = true
        · have := gw.mp hg
          rw [hg] at gs
          have k0 := ki (by omega)
          simp only [hg, true_and, Bool.toNat_true] at gs ⊢
          omega
        · simp only [hg, false_and, or_false, Bool.false_eq_true]
      · rw [if_neg q2, if_neg (by omega)]
        by_cases q3 : w = i + 1
        · rw [if_pos q3, k5]
          rw [q3] at ab gw ⊢
          rw [gw]
          rw [q3] at hr
          omega
        · rw [if_neg q3]
  · rw [if_neg hr, if_neg hr]
    by_cases hc : q_hl (s_come n F m) w = true
    · have hcw := cw.mp hc
      by_cases hg : q_hl (s_gone n F m) i = true
      · have hgi := gi.mp hg
        rw [hg] at gs
        simp only [hc, hg, not_true, false_or, true_and, Bool.toNat_true] at gs ⊢
        omega
      · have hg2 : q_hl (s_gone n F m) i = false := by simpa using hg
        rw [hg2] at gs
        simp only [hc, hg2, not_true, false_or, false_and, or_false, Bool.false_eq_true, Bool.toNat_false] at gs ⊢
        omega
    · simp only [hc, not_false_eq_true, true_or, and_true, Bool.false_eq_true]
theorem s_Z_oth {n m i j w : Nat} {F : Nat → Nat} (h : s_ok n F) (hm : m < n) (hi : 1 ≤ i) (hij : i < j) (hj : j ≤ n) (h1 : 1 ≤ w) (h2 : w ≤ n) (hno : ¬ (n < F (s_src n F n i) ∧ ¬ n < F (s_src n F n j)) ∨ (w ≠ i ∧ w ≠ j)) : s_Z n F m i j w ↔ s_Z n F m i (j - 1) w := by
  have hb := s_ok_bd h
  have hn := hb.1
  have gi := s_gone_hl h hm hi (show i ≤ n by omega)
  have cj := s_come_hl h hm (show 1 ≤ j by omega) hj
  have ks : s_pcTo (s_come n F m) j = s_pcTo (s_come n F m) (j - 1) + (q_hl (s_come n F m) j).toNat := by
    have := s_pcTo_s (s_come n F m) (j - 1)
    rw [show j - 1 + 1 = j by omega] at this; exact this
  unfold s_Z
  by_cases hr : n < F (s_src n F n w)
  · rw [if_pos hr, if_pos hr]
    by_cases q1 : w < i
    · rw [if_pos q1, if_pos q1]
    · rw [if_neg q1, if_neg q1]
      by_cases q2 : w = i
      · rw [if_pos q2, if_pos q2]
        have hjr : n < F (s_src n F n j) := by
          rcases hno with hno | hno
          · rw [q2] at hr
            by_cases hq : n < F (s_src n F n j)
            · exact hq
            · exact absurd ⟨hr, hq⟩ hno
          · exact absurd q2 hno.1
        have hc2 : q_hl (s_come n F m) j = false := by
          cases hq : q_hl (s_come n F m) j
          · rfl
          · exact absurd hjr (cj.mp hq).1
        rw [hc2] at ks
        rw [ks, Bool.toNat_false, Nat.add_zero]
      · rw [if_neg q2, if_neg q2]
  · rw [if_neg hr, if_neg hr]
    by_cases hg : q_hl (s_gone n F m) i = true
    · have hgi := gi.mp hg
      have hwj : w ≠ j := by
        rcases hno with hno | hno
        · intro hh
          rw [hh] at hr
          exact hno ⟨hgi.1, hr⟩
        · exact hno.2
      have e1 : (j < w) = (j - 1 < w) := propext ⟨fun h => by omega, fun h => by omega⟩
      rw [e1]
    · simp only [hg, false_and, or_false, Bool.false_eq_true]
theorem s_Z_box {n m i j : Nat} {F : Nat → Nat} (h : s_ok n F) (hm : m < n) (hi : 1 ≤ i) (hij : i < j) (hj : j ≤ n) (hri : n < F (s_src n F n i)) (hcj : ¬ n < F (s_src n F n j)) : (s_Z n F m i (j - 1) i ↔ s_Z n F m i j i ∧ s_Z n F m i j j) ∧ (s_Z n F m i (j - 1) j ↔ s_Z n F m i j i ∨ s_Z n F m i j j) := by
  have hb := s_ok_bd h
  have hn := hb.1
  obtain ⟨g3, g4, k3, k4, k5⟩ := s_cnts h hm
  have gi := s_gone_hl h hm hi (show i ≤ n by omega)
  have cj := s_come_hl h hm (show 1 ≤ j by omega) hj
  have ks : s_pcTo (s_come n F m) j = s_pcTo (s_come n F m) (j - 1) + (q_hl (s_come n F m) j).toNat := by
    have := s_pcTo_s (s_come n F m) (j - 1)
    rw [show j - 1 + 1 = j by omega] at this; exact this
  have gs : s_pcTo (s_gone n F m) i = s_pcTo (s_gone n F m) (i - 1) + (q_hl (s_gone n F m) i).toNat := by
    have := s_pcTo_s (s_gone n F m) (i - 1)
    rw [show i - 1 + 1 = i by omega] at this; exact this
  have gle := g3 i (by omega)
  have k0 := k4 j
  have g1 := g4 (i - 1)
  unfold s_Z
  rw [if_pos hri, if_neg (by omega), if_pos rfl, if_pos hri, if_neg (by omega), if_pos rfl, if_neg hcj, if_neg hcj]
  by_cases hg : q_hl (s_gone n F m) i = true
  · have hgi := gi.mp hg
    rw [hg] at gs
    by_cases hc : q_hl (s_come n F m) j = true
    · have hcc := cj.mp hc
      rw [hc] at ks
      simp only [hg, hc, not_true, false_or, true_and, Bool.toNat_true] at gs ks ⊢
      omega
    · have hc2 : q_hl (s_come n F m) j = false := by simpa using hc
      rw [hc2] at ks
      simp only [hg, hc2, true_and, Bool.toNat_true, Bool.toNat_false, Bool.false_eq_true, not_false_eq_true, true_or, and_true] at gs ks ⊢
      omega
  · have hg2 : q_hl (s_gone n F m) i = false := by simpa using hg
    rw [hg2] at gs
    by_cases hc : q_hl (s_come n F m) j = true
    · have hcc := cj.mp hc
      rw [hc] at ks
      simp only [hg2, hc, not_true, false_or, false_and, or_false, Bool.toNat_true, Bool.toNat_false, Bool.false_eq_true] at gs ks ⊢
      omega
    · have hc2 : q_hl (s_come n F m) j = false := by simpa using hc
      simp only [hg2, hc2, false_and, or_false, Bool.false_eq_true, not_false_eq_true, true_or, and_true] at gs ks ⊢
      omega
