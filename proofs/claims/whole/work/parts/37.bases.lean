/-! at least the necklace, bases: class -/
def s_isB (n : Nat) (F : Nat → Nat) (s : Nat) : Bool := decide (0 < n) && decide (s < 2 ^ n) && (q_pc s == q_pc (s_n1 n F n)) && (List.range n).all (fun i => s_atLeast s (s_nk n F (i + 1)) (i + 1) n)
/-- the necklace from a label on -/
def s_alN (n : Nat) (F : Nat → Nat) (s : Nat) : Nat → Bool
  | 0 => true
  | f + 1 => s_atLeast s (s_nk n F (n - f)) (n - f) n && s_alN n F s f
theorem c_Ce_isAtLeastGo {n s : Nat} {F : Nat → Nat} (hb : s_bd n F) (hs : s < 256) {d : qD} {b : Nat} (e0 : d.1 t_Ce 0 0 = (n : Int)) (eN : s_row (d.1 t_nl 0) n (s_nk n F)) : ∀ (f i : Nat), i + f = n + 1 → 1 ≤ i → q_Ev m_Ce_isAtLeastNecklace 2 [some (.inr (.inr (t_Ce, 0))), some (.inl (s : Int)), some (.inl (i : Int))] [] (q_mk d b) (some (.inl (q_b2i (s_alN n F s f))), q_mk d b)
  | 0, i, h, h1 => by
    refine e_Ce_isAtLeastNecklace_2 ⟨fun _ => ⟨by decide, by decide, rfl⟩, fun h2 => ?_⟩
    rw [e0] at h2; omega
  | f + 1, i, h, h1 => by
    have hn := hb.1
    have hlt : s_nk n F i < 256 := by
      obtain ⟨j, rfl⟩ : ∃ j, i = j + 1 := ⟨i - 1, by omega⟩
      exact s_nk_lt hb j (by omega)
    refine e_Ce_isAtLeastNecklace_2 ⟨fun h2 => ?_, fun _ => ⟨by omega, by omega, ?_⟩⟩
    · rw [e0] at h2; omega
    · rw [Int.toNat_natCast, eN i h1 (by omega), e0]
      refine ⟨_, _, c_Se_atLeast hs hlt h1 (by omega) hn, ?_⟩
      rw [s_alN, show n - f = i by omega]
      refine e_Ce_isAtLeastNecklace_15 ⟨fun h2 => ?_, fun h2 => ?_⟩
      · rw [q_b2i_t h2, Bool.true_and, q_wS (by omega)]
        exact c_Ce_isAtLeastGo hb hs e0 eN f (i + 1) (by omega) (by omega)
      · rw [q_b2i_f h2, Bool.false_and]
        exact ⟨by decide, by decide, rfl⟩
theorem c_Ce_isAtLeastNecklace {n s : Nat} {F : Nat → Nat} (hb : s_bd n F) (hs : s < 256) {d : qD} {b : Nat} (e0 : d.1 t_Ce 0 0 = (n : Int)) (eN : s_row (d.1 t_nl 0) n (s_nk n F)) : q_Ev m_Ce_isAtLeastNecklace 0 [some (.inr (.inr (t_Ce, 0))), some (.inl (s : Int)), none] [] (q_mk d b) (some (.inl (q_b2i (s_alN n F s n))), q_mk d b) :=
  e_Ce_isAtLeastNecklace_0 (c_Ce_isAtLeastGo hb hs e0 eN n 1 (by omega) (by omega))
theorem c_Ce_areLabels {n : Nat} {x : Int} (hn : n ≤ 8) {d : qD} {b : Nat} (e0 : d.1 t_Ce 0 0 = (n : Int)) : q_Ev m_Ce_areLabels 0 [some (.inr (.inr (t_Ce, 0))), some (.inl x)] [] (q_mk d b) (some (.inl (q_b2i (decide (0 < n ∧ 0 ≤ x ∧ x < ((2 ^ n : Nat) : Int))))), q_mk d b) := by
  have hp : 0 < 2 ^ n := Nat.pow_pos (by decide)
  have no : ¬ (0 < n ∧ 0 ≤ x ∧ x < ((2 ^ n : Nat) : Int)) → q_Ev m_Ce_areLabels 12 [none, none] [] (q_mk d b) (some (.inl (q_b2i (decide (0 < n ∧ 0 ≤ x ∧ x < ((2 ^ n : Nat) : Int))))), q_mk d b) := by
    intro h
    rw [decide_eq_false h]
    exact e_Ce_areLabels_12 (e_Ce_areLabels_13 ⟨by decide, by decide, rfl⟩)
  refine e_Ce_areLabels_0 ?_
  rw [e0]
  refine ⟨fun h => no (by omega), fun h => ⟨fun h2 => no (by omega), fun h2 => ⟨_, _, c_Se_upTo (by omega), ?_⟩⟩⟩
  refine e_Ce_areLabels_9 ⟨fun h3 => no (by omega), fun h3 => ?_⟩
  rw [decide_eq_true (show 0 < n ∧ 0 ≤ x ∧ x < ((2 ^ n : Nat) : Int) from ⟨by omega, by omega, by omega⟩)]
  exact e_Ce_areLabels_13 ⟨by decide, by decide, rfl⟩
theorem s_p8 {n : Nat} (h : n ≤ 8) : 2 ^ n ≤ 256 := Nat.pow_le_pow_right (by decide) h
/-- a SET of a cell -/
def s_isSet (n k : Nat) (x : Int) : Bool := decide (0 < n ∧ 0 ≤ x ∧ x < ((2 ^ n : Nat) : Int)) && (q_pc x.toNat == k)
theorem c_Ce_isSet {n k : Nat} {x : Int} (hn : n ≤ 8) {d : qD} {b : Nat} (e0 : d.1 t_Ce 0 0 = (n : Int)) (e1 : d.1 t_Ce 0 1 = (k : Int)) : q_Ev m_Ce_isSet 0 [some (.inr (.inr (t_Ce, 0))), some (.inl x)] [] (q_mk d b) (some (.inl (q_b2i (s_isSet n k x))), q_mk d b) := by
  refine e_Ce_isSet_0 ⟨_, _, c_Ce_areLabels hn e0, ?_⟩
  unfold s_isSet
  have hp := s_p8 hn
  refine e_Ce_isSet_3 ⟨fun h => ?_, fun h => ?_⟩
  · rw [q_b2i_f h, Bool.false_and]
    exact e_Ce_isSet_11 (e_Ce_isSet_12 ⟨by decide, by decide, rfl⟩)
  · have ht := q_b2i_t h
    rw [ht, Bool.true_and]
    have h2 := of_decide_eq_true ht
    obtain ⟨s, rfl⟩ : ∃ s : Nat, x = (s : Int) := ⟨x.toNat, by omega⟩
    refine ⟨_, _, c_J_bitCount (by omega), ?_⟩
    rw [Int.toNat_natCast]
    refine e_Ce_isSet_6 ?_
    rw [e1]
    refine ⟨fun h3 => ?_, fun h3 => ?_⟩
    · rw [show (q_pc s == k) = false from beq_false_of_ne (by omega)]
      exact e_Ce_isSet_11 (e_Ce_isSet_12 ⟨by decide, by decide, rfl⟩)
    · rw [show (q_pc s == k) = true from by rw [beq_iff_eq]; omega]
      exact e_Ce_isSet_12 ⟨by decide, by decide, rfl⟩
