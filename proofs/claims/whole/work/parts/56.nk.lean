/-! the necklace of a cell by where its labels come from -/
theorem s_ok_bd {n : Nat} {F : Nat → Nat} (h : s_ok n F) : s_bd n F := ⟨h.2.1, h.2.2.1⟩
/-- the targets of the first ones -/
def s_tS (n : Nat) (F : Nat → Nat) : Nat → Nat
  | 0 => 0
  | i + 1 => s_with (s_tS n F i) (s_tg n (F (i + 1)))
theorem s_tS_hl {n : Nat} {F : Nat → Nat} (hb : s_bd n F) : ∀ i, i ≤ n → ∀ w, 1 ≤ w → (q_hl (s_tS n F i) w = true ↔ ∃ k, 1 ≤ k ∧ k ≤ i ∧ s_tg n (F k) = w)
  | 0, _, w, hw => by
    rw [s_tS, show q_hl 0 w = false from Nat.zero_testBit _]
    exact ⟨fun h => absurd h (by decide), fun ⟨k, h1, h2, _⟩ => by omega⟩
  | i + 1, hi, w, hw => by
    have ht := s_tg_le hb (i := i + 1) (by omega) hi
    rw [s_tS, s_with_hl ht.1 hw, Bool.or_eq_true, s_tS_hl hb i (by omega) w hw, decide_eq_true_iff]
    refine ⟨fun h => ?_, fun ⟨k, h1, h2, h3⟩ => ?_⟩
    · rcases h with ⟨k, h1, h2, h3⟩ | h
      · exact ⟨k, h1, by omega, h3⟩
      · exact ⟨i + 1, by omega, by omega, h.symm⟩
    · by_cases hk : k = i + 1
      · subst hk; exact Or.inr h3.symm
      · exact Or.inl ⟨k, h1, by omega, h3⟩
theorem s_tS_pc {n : Nat} {F : Nat → Nat} (h : s_ok n F) : ∀ i, i ≤ n → s_tS n F i < 2 ^ n ∧ q_pc (s_tS n F i) = i
  | 0, _ => ⟨Nat.pow_pos (by decide), (show q_pc 0 = 0 by decide)⟩
  | i + 1, hi => by
    have hb := s_ok_bd h
    have ih := s_tS_pc h i (by omega)
    have ht := s_tg_le hb (i := i + 1) (by omega) hi
    have hp := s_p8 hb.1
    have hf : q_hl (s_tS n F i) (s_tg n (F (i + 1))) = false := by
      cases hq : q_hl (s_tS n F i) (s_tg n (F (i + 1)))
      · rfl
      · obtain ⟨k, h1, h2, h3⟩ := (s_tS_hl hb i (by omega) _ ht.1).mp hq
        exact absurd h3 (h.2.2.2 k (i + 1) h1 (by omega) hi)
    have hn := hb.1
    rw [s_tS]
    exact ⟨s_with_ltn ih.1 ht.1 ht.2, by rw [s_pc_with (by omega) ht.1 (by omega) hf, ih.2]⟩
theorem s_ok_sur {n : Nat} {F : Nat → Nat} (h : s_ok n F) : s_sur n F := by
  intro w h1 h2
  have hb := s_ok_bd h
  have hp := s_tS_pc h n (Nat.le_refl n)
  have hf := s_pc_full hb.1 hp.1 hp.2
  exact (s_tS_hl hb n (Nat.le_refl n) w h1).mp (by rw [hf]; exact s_full_hl h1 h2)
theorem s_src_at {n : Nat} {F : Nat → Nat} (h : s_ok n F) : ∀ i k, 1 ≤ k → k ≤ i → i ≤ n → s_src n F i (s_tg n (F k)) = k
  | 0, k, h1, h2, _ => by omega
  | i + 1, k, h1, h2, h3 => by
    rw [s_src]
    by_cases hk : k = i + 1
    · subst hk; exact if_pos rfl
    · rw [if_neg (h.2.2.2 k (i + 1) h1 (by omega) h3)]
      exact s_src_at h i k h1 (by omega) (by omega)
theorem s_src_of {n : Nat} {F : Nat → Nat} (h : s_ok n F) {w : Nat} (h1 : 1 ≤ w) (h2 : w ≤ n) : 1 ≤ s_src n F n w ∧ s_src n F n w ≤ n ∧ s_tg n (F (s_src n F n w)) = w := by
  obtain ⟨k, h3, h4, h5⟩ := s_ok_sur h w h1 h2
  have := s_src_at h n k h3 h4 (Nat.le_refl n)
  rw [h5] at this
  rw [this]
  exact ⟨h3, h4, h5⟩
theorem s_n1_hl {n : Nat} {F : Nat → Nat} (hb : s_bd n F) : ∀ i, i ≤ n → ∀ w, 1 ≤ w → (q_hl (s_n1 n F i) w = true ↔ ∃ k, 1 ≤ k ∧ k ≤ i ∧ F k = w + n)
  | 0, _, w, hw => by
    rw [s_n1, show q_hl 0 w = false from Nat.zero_testBit _]
    exact ⟨fun h => absurd h (by decide), fun ⟨k, h1, h2, _⟩ => by omega⟩
  | i + 1, hi, w, hw => by
    have h2 := hb.2 (i + 1) (by omega) hi
    have ih := s_n1_hl hb i (by omega) w hw
    rw [s_n1]
    by_cases hq : n < F (i + 1)
    · rw [if_pos hq, s_with_hl (by omega) hw, Bool.or_eq_true, ih, decide_eq_true_iff]
      refine ⟨fun h => ?_, fun ⟨k, h1, h2, h3⟩ => ?_⟩
      · rcases h with ⟨k, h1, h2, h3⟩ | h
        · exact ⟨k, h1, by omega, h3⟩
        · exact ⟨i + 1, by omega, by omega, by omega⟩
      · by_cases hk : k = i + 1
        · subst hk; right; omega
        · exact Or.inl ⟨k, h1, by omega, h3⟩
    · rw [if_neg hq, ih]
      refine ⟨fun ⟨k, h1, h2, h3⟩ => ⟨k, h1, by omega, h3⟩, fun ⟨k, h1, h2, h3⟩ => ⟨k, h1, ?_, h3⟩⟩
      by_cases hk : k = i + 1
      · subst hk; omega
      · omega
theorem s_fs_hl {n : Nat} {F : Nat → Nat} (h : s_ok n F) {w : Nat} (h1 : 1 ≤ w) (h2 : w ≤ n) : q_hl (s_n1 n F n) w = decide (n < F (s_src n F n w)) := by
  have hb := s_ok_bd h
  obtain ⟨a1, a2, a3⟩ := s_src_of h h1 h2
  rw [Bool.eq_iff_iff, s_n1_hl hb n (Nat.le_refl n) w h1, decide_eq_true_iff]
  refine ⟨fun ⟨k, h3, h4, h5⟩ => ?_, fun h3 => ⟨_, a1, a2, ?_⟩⟩
  · have : s_tg n (F k) = w := by unfold s_tg; rw [h5, if_pos (by omega)]; omega
    have h6 := s_src_at h n k h3 h4 (Nat.le_refl n)
    rw [this] at h6
    rw [h6, h5]; omega
  · unfold s_tg at a3
    rw [if_pos h3] at a3; omega
/-- what a label's source says of it -/
theorem s_src_bd {n : Nat} {F : Nat → Nat} (h : s_ok n F) {w : Nat} (h1 : 1 ≤ w) (h2 : w ≤ n) : (n < F (s_src n F n w) → F (s_src n F n w) = w + n ∧ w ≤ s_src n F n w) ∧ (¬ n < F (s_src n F n w) → F (s_src n F n w) = w ∧ s_src n F n w ≤ w) := by
  obtain ⟨a1, a2, a3⟩ := s_src_of h h1 h2
  have := h.2.2.1 _ a1 a2
  unfold s_tg at a3
  refine ⟨fun h3 => ?_, fun h3 => ?_⟩
  · rw [if_pos h3] at a3; omega
  · rw [if_neg h3] at a3; omega
def s_nkF (n : Nat) (F : Nat → Nat) (m w : Nat) : Prop := if m < w then n < F (s_src n F n w) ∨ s_src n F n w ≤ m else n < F (s_src n F n w) ∧ s_src n F n w ≤ m
theorem s_nk_hl {n : Nat} {F : Nat → Nat} (h : s_ok n F) : ∀ m, m < n → ∀ w, 1 ≤ w → w ≤ n → (q_hl (s_nk n F (m + 1)) w = true ↔ s_nkF n F m w)
  | 0, _, w, h1, h2 => by
    obtain ⟨a1, a2, a3⟩ := s_src_of h h1 h2
    unfold s_nkF
    rw [s_nk_1, s_fs_hl h h1 h2, decide_eq_true_iff, if_pos (by omega)]
    exact ⟨fun h => Or.inl h, fun h => by omega⟩
  | m + 1, hm, w, h1, h2 => by
    have hb := s_ok_bd h
    have ih := s_nk_hl h m (by omega)
    obtain ⟨a1, a2, a3⟩ := s_src_of h h1 h2
    have ab := s_src_bd h h1 h2
    have ht := s_tg_le hb (i := m + 1) (by omega) (by omega)
    have hF := h.2.2.1 (m + 1) (by omega) (by omega)
    have xt := s_src_at h n (m + 1) (by omega) (by omega) (Nat.le_refl n)
    have hxw : s_src n F n w = m + 1 ↔ w = s_tg n (F (m + 1)) := ⟨fun hh => by rw [← hh, a3], fun hh => by rw [hh, xt]⟩
    rw [s_nk_s (by omega)]
    by_cases hfx : F (m + 1) = m + 1
    · rw [if_pos hfx, ih w h1 h2]
      have ht2 : s_tg n (F (m + 1)) = m + 1 := by unfold s_tg; rw [hfx, if_neg (by omega)]
      rw [ht2] at hxw
      unfold s_nkF
      by_cases hw : w = m + 1
      · have hx := hxw.mpr hw
        rw [hx, hfx, if_pos (by omega), if_neg (by omega)]
        omega
      · have hx : s_src n F n w ≠ m + 1 := fun hh => hw (hxw.mp hh)
        by_cases hlt : m < w
        · rw [if_pos hlt, if_pos (by omega)]; omega
        · rw [if_neg hlt, if_neg (by omega)]; omega
    · rw [if_neg hfx, s_with_hl ht.1 h1, s_wo_hl (by omega) h1, Bool.or_eq_true, Bool.and_eq_true, ih w h1 h2]
      simp only [Bool.not_eq_true', decide_eq_false_iff_not, decide_eq_true_iff]
      by_cases hw : w = s_tg n (F (m + 1))
      · have hx := hxw.mpr hw
        unfold s_nkF
        rw [hx]
        refine ⟨fun _ => ?_, fun _ => Or.inr hw⟩
        unfold s_tg at hw
        by_cases hlt : m + 1 < w
        · rw [if_pos hlt]; omega
        · rw [if_neg hlt]
          by_cases hn : n < F (m + 1)
          · omega
          · rw [if_neg hn] at hw; omega
      · have hx : s_src n F n w ≠ m + 1 := fun hh => hw (hxw.mp hh)
        unfold s_nkF
        by_cases hwm : w = m + 1
        · rw [if_pos (by omega), if_neg (by omega)]; omega
        · by_cases hlt : m < w
          · rw [if_pos hlt, if_pos (by omega)]; omega
          · rw [if_neg hlt, if_neg (by omega)]; omega
theorem s_pc_wo {s l : Nat} (hs : s < 256) (h1 : 1 ≤ l) (hl : l ≤ 8) (h : q_hl s l = true) : q_pc (s_wo s l) + 1 = q_pc s := by
  have : ∀ s : Nat, s < 256 → ∀ l : Nat, l < 9 → 1 ≤ l → q_hl s l = true → q_pc (s_wo s l) + 1 = q_pc s := by decide +kernel
  exact this s hs l (by omega) h1 h
theorem s_nk_ltn {n : Nat} {F : Nat → Nat} (hb : s_bd n F) : ∀ i, i ≤ n → s_nk n F (i + 1) < 2 ^ n := by
  have n1 : ∀ i, i ≤ n → s_n1 n F i < 2 ^ n := by
    intro i
    induction i with
    | zero => intro _; exact Nat.pow_pos (by decide)
    | succ i ih =>
      intro hi
      have h2 := hb.2 (i + 1) (by omega) hi
      rw [s_n1]; split
      · exact s_with_ltn (ih (by omega)) (by omega) (by omega)
      · exact ih (by omega)
  intro i
  induction i with
  | zero => intro _; exact n1 n (Nat.le_refl n)
  | succ i ih =>
    intro hi
    rw [s_nk_s (by omega)]
    have ht := s_tg_le hb (i := i + 1) (by omega) hi
    split
    · exact ih (by omega)
    · exact s_with_ltn (s_wo_ltn (ih (by omega))) ht.1 ht.2
theorem s_nk_pc {n : Nat} {F : Nat → Nat} (h : s_ok n F) : ∀ m, m < n → q_pc (s_nk n F (m + 1)) = q_pc (s_n1 n F n)
  | 0, _ => by rw [s_nk_1]
  | m + 1, hm => by
    have hb := s_ok_bd h
    have hn := hb.1
    have ih := s_nk_pc h m (by omega)
    have hlt := s_nk_lt hb m (by omega)
    have ht := s_tg_le hb (i := m + 1) (by omega) (by omega)
    have hF := h.2.2.1 (m + 1) (by omega) (by omega)
    have xt := s_src_at h n (m + 1) (by omega) (by omega) (Nat.le_refl n)
    rw [s_nk_s (by omega)]
    by_cases hfx : F (m + 1) = m + 1
    · rw [if_pos hfx]; exact ih
    · rw [if_neg hfx]
      have hA : q_hl (s_nk n F (m + 1)) (m + 1) = true := by
        rw [s_nk_hl h m (by omega) (m + 1) (by omega) (by omega)]
        have ab := s_src_bd h (w := m + 1) (by omega) (by omega)
        unfold s_nkF
        rw [if_pos (by omega)]
        by_cases hx : s_src n F n (m + 1) = m + 1
        · rw [hx] at ab ⊢; omega
        · omega
      have hB : q_hl (s_wo (s_nk n F (m + 1)) (m + 1)) (s_tg n (F (m + 1))) = false := by
        rw [s_wo_hl (by omega) ht.1]
        by_cases htm : s_tg n (F (m + 1)) = m + 1
        · rw [decide_eq_true htm, Bool.not_true, Bool.and_false]
        · cases hq : q_hl (s_nk n F (m + 1)) (s_tg n (F (m + 1)))
          · rfl
          · rw [s_nk_hl h m (by omega) _ ht.1 ht.2] at hq
            unfold s_nkF at hq
            rw [xt] at hq
            unfold s_tg at htm hq
            by_cases hnf : n < F (m + 1)
            · rw [if_pos hnf] at htm hq
              split at hq <;> omega
            · rw [if_neg hnf] at htm hq
              split at hq <;> omega
      rw [s_pc_with (s_wo_lt hlt) ht.1 (by omega) hB, s_pc_wo hlt (by omega) (by omega) hA, ih]
theorem s_nk_all {n : Nat} {F : Nat → Nat} (h : n = 0 ∨ s_ok n F) : ∀ i, 1 ≤ i → i ≤ n → s_nk n F i < 256 ∧ q_pc (s_nk n F i) = q_pc (s_n1 n F n) := by
  intro i h1 h2
  rcases h with h | h
  · omega
  · obtain ⟨m, rfl⟩ : ∃ m, i = m + 1 := ⟨i - 1, by omega⟩
    exact ⟨s_nk_lt (s_ok_bd h) m (by omega), s_nk_pc h m (by omega)⟩
theorem s_basL_mem {n : Nat} {F : Nat → Nat} {s : Nat} : s ∈ s_basL n F 256 ↔ s < 256 ∧ s_bas n F s = true := s_fl_mem
