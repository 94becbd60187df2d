/-! a cell's F and its necklace -/
/-- where a value comes out -/
def s_tg (n v : Nat) : Nat := if n < v then v - n else v
/-- F of a cell -/
def s_ok (n : Nat) (F : Nat → Nat) : Prop := 2 ≤ n ∧ n ≤ 8 ∧ (∀ i, 1 ≤ i → i ≤ n → i ≤ F i ∧ F i ≤ i + n) ∧ (∀ i j, 1 ≤ i → i < j → j ≤ n → s_tg n (F i) ≠ s_tg n (F j))
/-- a row of ints that holds F from 1 on -/
def s_row (g : Nat → Int) (n : Nat) (F : Nat → Nat) : Prop := ∀ i, 1 ≤ i → i ≤ n → g i = (F i : Int)
/-- bounded, but for the residues -/
def s_bd (n : Nat) (F : Nat → Nat) : Prop := n ≤ 8 ∧ ∀ i, 1 ≤ i → i ≤ n → i ≤ F i ∧ F i ≤ i + n
def s_n1 (n : Nat) (F : Nat → Nat) : Nat → Nat
  | 0 => 0
  | i + 1 => if n < F (i + 1) then s_with (s_n1 n F i) (F (i + 1) - n) else s_n1 n F i
def s_nk (n : Nat) (F : Nat → Nat) : Nat → Nat
  | 0 => 0
  | 1 => s_n1 n F n
  | i + 2 => if F (i + 1) = i + 1 then s_nk n F (i + 1) else s_with (s_wo (s_nk n F (i + 1)) (i + 1)) (s_tg n (F (i + 1)))
theorem s_nk_1 (n : Nat) (F : Nat → Nat) : s_nk n F 1 = s_n1 n F n := rfl
theorem s_nk_s {n i : Nat} {F : Nat → Nat} (h : 1 ≤ i) : s_nk n F (i + 1) = if F i = i then s_nk n F i else s_with (s_wo (s_nk n F i) i) (s_tg n (F i)) := by
  obtain ⟨j, rfl⟩ : ∃ j, i = j + 1 := ⟨i - 1, by omega⟩
  rfl
theorem s_n1_lt {n : Nat} {F : Nat → Nat} (hb : s_bd n F) : ∀ i, i ≤ n → s_n1 n F i < 256
  | 0, _ => (show (0 : Nat) < 256 from Nat.zero_lt_succ _)
  | i + 1, h => by
    have h1 := s_n1_lt hb i (by omega)
    have h2 := hb.2 (i + 1) (by omega) h
    have h3 := hb.1
    rw [s_n1]; split
    · exact s_with_lt h1 (by omega)
    · exact h1
theorem s_tg_le {n i : Nat} {F : Nat → Nat} (hb : s_bd n F) (h1 : 1 ≤ i) (h2 : i ≤ n) : 1 ≤ s_tg n (F i) ∧ s_tg n (F i) ≤ n := by
  have h := hb.2 i h1 h2
  unfold s_tg; split <;> omega
theorem s_nk_lt {n : Nat} {F : Nat → Nat} (hb : s_bd n F) : ∀ i, i ≤ n → s_nk n F (i + 1) < 256
  | 0, _ => s_n1_lt hb n (Nat.le_refl n)
  | i + 1, h => by
    have h1 := s_nk_lt hb i (by omega)
    rw [s_nk_s (by omega)]
    split
    · exact h1
    · have := s_tg_le hb (i := i + 1) (by omega) h
      have := hb.1
      exact s_with_lt (s_wo_lt h1) (by omega)
theorem c_Ce_layNecklace {n : Nat} {F : Nat → Nat} (hb : s_bd n F) {d : qD} {b : Nat} (e0 : d.1 t_Ce 0 0 = (n : Int)) (eF : s_row (d.1 t_img 0) n F) : ∃ d', q_Ev m_Ce_layNecklace 0 [some (.inr (.inr (t_Ce, 0))), none, none, none] [] (q_mk d b) (none, q_mk d' b) ∧ q_ag [t_Ce, t_nl] d d' ∧ d'.1 t_Ce 0 = q_up (d.1 t_Ce 0) 1 (q_pc (s_n1 n F n) : Int) ∧ d'.1 t_nl 0 1 = (s_n1 n F n : Int) ∧ s_row (d'.1 t_nl 0) n (s_nk n F) := by
  have hn := hb.1
  -- second loop
  have l2 : ∀ (f i : Nat) (d : qD), i + f = n → 1 ≤ i → d.1 t_Ce 0 0 = (n : Int) → s_row (d.1 t_img 0) n F → (∀ j, 1 ≤ j → j ≤ i → d.1 t_nl 0 j = (s_nk n F j : Int)) → ∃ d', q_Ev m_Ce_layNecklace 39 [some (.inr (.inr (t_Ce, 0))), some (.inl (s_nk n F i : Int)), some (.inl (i : Int)), none] [] (q_mk d b) (none, q_mk d' b) ∧ q_ag [t_nl] d d' ∧ s_row (d'.1 t_nl 0) n (s_nk n F) ∧ d'.1 t_nl 0 1 = d.1 t_nl 0 1 := by
    intro f
    induction f with
    | zero =>
      intro i d hi h1 e0 eF eN
      refine ⟨d, e_Ce_layNecklace_39 ⟨fun _ => rfl, fun h => by omega⟩, q_ag_refl _ _, fun j hj hj2 => eN j hj (by omega), rfl⟩
    | succ f ih =>
      intro i d hi h1 e0 eF eN
      have hin : q_w ((i : Int) + 1) = ((i + 1 : Nat) : Int) := by rw [q_w_id (by omega) (by omega)]; omega
      obtain ⟨d', v, a, r1, r2⟩ := ih (i + 1) (q_sI d t_nl 0 (i + 1) (s_nk n F (i + 1) : Int)) (by omega) (by omega) (by rw [q_sI_row, q_sR_ne _ _ (by decide), e0]) (by rw [q_sI_row, q_sR_ne _ _ (by decide)]; exact eF) (by
        intro j hj hj2
        rw [q_sI_row, q_sR_row]
        by_cases hq : j = i + 1
        · subst hq; rw [q_up_at]
        · rw [q_up_ne _ _ hq]; exact eN j hj (by omega))
      have k79 : q_Ev m_Ce_layNecklace 79 [some (.inr (.inr (t_Ce, 0))), some (.inl (s_nk n F (i + 1) : Int)), some (.inl (i : Int)), none] [] (q_mk d b) (none, q_mk d' b) := by
        refine e_Ce_layNecklace_79 ?_
        rw [hin, Int.toNat_natCast]
        exact ⟨by omega, by omega, v⟩
      have hF := eF i h1 (by omega)
      have hB := hb.2 i h1 (by omega)
      have hlt : s_nk n F i < 256 := by
        obtain ⟨j, rfl⟩ : ∃ j, i = j + 1 := ⟨i - 1, by omega⟩
        exact s_nk_lt hb j (by omega)
      have htg := s_tg_le hb h1 (show i ≤ n by omega)
      have k68 : F i ≠ i → q_Ev m_Ce_layNecklace 68 [some (.inr (.inr (t_Ce, 0))), some (.inl (s_nk n F i : Int)), some (.inl (i : Int)), none] [.inl (s_tg n (F i) : Int)] (q_mk d b) (none, q_mk d' b) := by
        intro hne
        refine e_Ce_layNecklace_68 ⟨_, _, c_Se_only h1 (by omega), ?_⟩
        refine e_Ce_layNecklace_72 ⟨_, _, c_Se_only htg.1 (by omega), ?_⟩
        refine e_Ce_layNecklace_77 ?_
        have p1 := s_p2 (l := i) (by omega)
        have p2 := s_p2 (l := s_tg n (F i)) (by omega)
        have p3 : q_dif (s_nk n F i) (2 ^ (i - 1)) < 256 := q_dif_lt (k := 8) hlt
        rw [q_andn_nat (by omega) (by omega), q_or_nat (by omega) (by omega)]
        have : s_nk n F (i + 1) = q_dif (s_nk n F i) (2 ^ (i - 1)) ||| 2 ^ (s_tg n (F i) - 1) := by
          rw [s_nk_s h1, if_neg hne]; rfl
        rw [← this]
        exact k79
      refine ⟨d', ?_, q_ag_tr (q_ag_sI (by decide)) a, r1, ?_⟩
      · refine e_Ce_layNecklace_39 ⟨fun h => by omega, fun _ => ⟨by omega, by omega, ?_⟩⟩
        rw [Int.toNat_natCast, hF, e0]
        refine ⟨fun h => ?_, fun h => ⟨by omega, by omega, fun h2 => ⟨by omega, by omega, ?_⟩, fun h2 => ⟨by omega, by omega, ?_⟩⟩⟩
        · have : s_nk n F (i + 1) = s_nk n F i := by rw [s_nk_s h1, if_pos (by omega)]
          rw [this] at k79
          exact k79
        · have : s_tg n (F i) = F i := by unfold s_tg; rw [if_neg (by omega)]
          have k := k68 (by omega)
          rw [this] at k
          exact k
        · have : s_tg n (F i) = F i - n := by unfold s_tg; rw [if_pos (by omega)]
          have k := k68 (by omega)
          rw [this] at k
          rw [q_w_id (by omega) (by omega), show (F i : Int) - (n : Int) = ((F i - n : Nat) : Int) by omega]
          exact k
      · rw [r2, q_sI_row, q_sR_row, q_up_ne _ _ (by omega)]
  -- first loop
  have l1 : ∀ (f i : Nat) (r : Option qV × qW), i + f = n → q_Ev m_Ce_layNecklace 4 [some (.inr (.inr (t_Ce, 0))), some (.inl (s_n1 n F n : Int)), some (.inl ((n + 1 : Nat) : Int)), none] [] (q_mk d b) r → q_Ev m_Ce_layNecklace 4 [some (.inr (.inr (t_Ce, 0))), some (.inl (s_n1 n F i : Int)), some (.inl ((i + 1 : Nat) : Int)), none] [] (q_mk d b) r := by
    intro f
    induction f with
    | zero => intro i r hi h; rw [show i = n by omega]; exact h
    | succ f ih =>
      intro i r hi h
      have hF := eF (i + 1) (by omega) (by omega)
      have hB := hb.2 (i + 1) (by omega) (by omega)
      have hlt := s_n1_lt hb i (by omega)
      have k26 : q_Ev m_Ce_layNecklace 26 [some (.inr (.inr (t_Ce, 0))), some (.inl (s_n1 n F (i + 1) : Int)), some (.inl ((i + 1 : Nat) : Int)), none] [] (q_mk d b) r := by
        refine e_Ce_layNecklace_26 ?_
        rw [show q_w (((i + 1 : Nat) : Int) + 1) = ((i + 1 + 1 : Nat) : Int) by rw [q_w_id (by omega) (by omega)]; omega]
        exact ih (i + 1) r (by omega) h
      refine e_Ce_layNecklace_4 ⟨fun h2 => by omega, fun _ => ⟨by omega, by omega, ?_⟩⟩
      rw [Int.toNat_natCast, hF, e0]
      refine ⟨fun h2 => ?_, fun h2 => ⟨by omega, by omega, ?_⟩⟩
      · have : s_n1 n F (i + 1) = s_n1 n F i := by rw [s_n1, if_neg (by omega)]
        rw [this] at k26; exact k26
      · rw [q_w_id (by omega) (by omega), show (F (i + 1) : Int) - (n : Int) = ((F (i + 1) - n : Nat) : Int) by omega]
        refine ⟨_, _, c_Se_only (by omega) (by omega), e_Ce_layNecklace_24 ?_⟩
        have p2 := s_p2 (l := F (i + 1) - n) (by omega)
        rw [q_or_nat (by omega) (by omega)]
        have : s_n1 n F (i + 1) = s_n1 n F i ||| 2 ^ (F (i + 1) - n - 1) := by rw [s_n1, if_pos (by omega)]; rfl
        rw [← this]; exact k26
  have hlt := s_n1_lt hb n (Nat.le_refl n)
  have tl : ∀ d1 : qD, d1 = q_sI (q_sI d t_Ce 0 1 (q_pc (s_n1 n F n) : Int)) t_nl 0 1 (s_n1 n F n : Int) → ∃ d', q_Ev m_Ce_layNecklace 39 [some (.inr (.inr (t_Ce, 0))), some (.inl (s_n1 n F n : Int)), some (.inl 1), none] [] (q_mk d1 b) (none, q_mk d' b) ∧ q_ag [t_nl] d1 d' ∧ s_row (d'.1 t_nl 0) n (s_nk n F) ∧ d'.1 t_nl 0 1 = d1.1 t_nl 0 1 := by
    intro d1 hd1
    by_cases h0 : n = 0
    · refine ⟨d1, e_Ce_layNecklace_39 ⟨fun _ => rfl, fun h => ?_⟩, q_ag_refl _ _, fun j h1 h2 => by omega, rfl⟩
      rw [hd1, q_sI_row, q_sR_ne _ _ (by decide), q_sI_row, q_sR_row, q_up_ne _ _ (by decide), e0] at h
      omega
    · refine l2 (n - 1) 1 d1 (by omega) (by omega) ?_ ?_ ?_
      · rw [hd1, q_sI_row, q_sR_ne _ _ (by decide), q_sI_row, q_sR_row, q_up_ne _ _ (by decide), e0]
      · rw [hd1, q_sI_row, q_sR_ne _ _ (by decide), q_sI_row, q_sR_ne _ _ (by decide)]; exact eF
      · intro j h1 h2
        have : j = 1 := by omega
        subst this
        rw [hd1, q_sI_row, q_sR_row, q_up_at]; rfl
  obtain ⟨d', v, a, r1, r2⟩ := tl _ rfl
  refine ⟨d', e_Ce_layNecklace_0 ?_, q_ag_tr (q_ag_tr (q_ag_sI (by decide)) (q_ag_sI (by decide))) (q_ag_up a (by decide)), ?_, ?_, r1⟩
  · refine l1 n 0 _ (by omega) (e_Ce_layNecklace_4 ⟨fun _ => ⟨_, _, c_J_bitCount hlt, e_Ce_layNecklace_31 ⟨by decide, by decide, v⟩⟩, fun h => ?_⟩)
    rw [e0] at h; omega
  · rw [a.1 t_Ce (by decide), q_sI_row, q_sR_ne _ _ (by decide), q_sI_row, q_sR_row]
  · rw [r2, q_sI_row, q_sR_row, q_up_at]
