/-! contracts: the model's words of sets -/
theorem c_Md_has {s l : Nat} (hs : s < 2 ^ 31) (h1 : 1 ≤ l) (h2 : l ≤ 31) {d : qD} {b : Nat} : q_Ev m_Md_has 0 [some (.inl (s : Int)), some (.inl (l : Int))] [] (q_mk d b) (some (.inl (q_b2i (q_hl s l))), q_mk d b) := by
  refine e_Md_has_0 ?_
  rw [q_hl_nat hs h1 h2]
  cases q_hl s l
  · exact ⟨fun _ => e_Md_has_12 ⟨by decide, by decide, rfl⟩, fun h => absurd h (by decide)⟩
  · exact ⟨fun h => absurd rfl h, fun _ => e_Md_has_12 ⟨by decide, by decide, rfl⟩⟩
/-- a set with a label, and without -/
def s_with (s l : Nat) : Nat := s ||| 2 ^ (l - 1)
def s_wo (s l : Nat) : Nat := q_dif s (2 ^ (l - 1))
theorem s_p2 {l : Nat} (h : l ≤ 8) : 2 ^ (l - 1) < 256 := Nat.lt_of_le_of_lt (Nat.pow_le_pow_right (by decide) (show l - 1 ≤ 7 by omega)) (by decide)
theorem s_with_lt {s l : Nat} (hs : s < 256) (hl : l ≤ 8) : s_with s l < 256 := Nat.or_lt_two_pow (n := 8) hs (s_p2 hl)
theorem s_wo_lt {s l : Nat} (hs : s < 256) : s_wo s l < 256 := q_dif_lt (k := 8) hs
theorem s_with_hl {s l m : Nat} (h1 : 1 ≤ l) (h2 : 1 ≤ m) : q_hl (s_with s l) m = (q_hl s m || decide (m = l)) := by
  unfold q_hl s_with
  rw [Nat.testBit_or, Nat.testBit_two_pow]
  congr 1
  exact decide_eq_decide.mpr ⟨fun h => by omega, fun h => by omega⟩
theorem s_wo_hl {s l m : Nat} (h1 : 1 ≤ l) (h2 : 1 ≤ m) : q_hl (s_wo s l) m = (q_hl s m && !decide (m = l)) := by
  unfold q_hl s_wo
  rw [q_dif_bit, Nat.testBit_two_pow]
  congr 2
  exact decide_eq_decide.mpr ⟨fun h => by omega, fun h => by omega⟩
theorem c_Md_with {s l : Nat} (hs : s < 256) (h1 : 1 ≤ l) (h2 : l ≤ 8) {d : qD} {b : Nat} : q_Ev m_Md_with 0 [some (.inl (s : Int)), some (.inl (l : Int))] [] (q_mk d b) (some (.inl (s_with s l : Int)), q_mk d b) := by
  have hp := s_p2 h2
  refine e_Md_with_0 ?_
  rw [q_w_id (by omega) (by omega), show (l : Int) - 1 = ((l - 1 : Nat) : Int) by omega, q_shl1 _ (by omega), q_or_nat (by omega) (by omega)]
  rfl
theorem c_Md_without {s l : Nat} (hs : s < 256) (h1 : 1 ≤ l) (h2 : l ≤ 8) {d : qD} {b : Nat} : q_Ev m_Md_without 0 [some (.inl (s : Int)), some (.inl (l : Int))] [] (q_mk d b) (some (.inl (s_wo s l : Int)), q_mk d b) := by
  have hp := s_p2 h2
  refine e_Md_without_0 ?_
  rw [q_w_id (by omega) (by omega), show (l : Int) - 1 = ((l - 1 : Nat) : Int) by omega, q_shl1 _ (by omega), q_andn_nat (by omega) (by omega)]
  rfl
/-- bits below a place -/
def s_pcTo (s : Nat) : Nat → Nat
  | 0 => 0
  | k + 1 => s_pcTo s k + (s.testBit k).toNat
theorem s_pcTo_le (s : Nat) : ∀ k, s_pcTo s k ≤ k
  | 0 => Nat.le_refl 0
  | k + 1 => by
    have := s_pcTo_le s k
    have h2 : (s.testBit k).toNat ≤ 1 := by cases s.testBit k <;> decide
    rw [s_pcTo]; omega
theorem s_pcTo_8 (s : Nat) : s_pcTo s 8 = q_pc s := by
  simp only [s_pcTo, q_pc, Nat.zero_add]
theorem c_Md_sizeOfGo {s : Nat} (hs : s < 256) {d : qD} {b : Nat} : ∀ (f k : Nat), k + f = 8 → q_Ev m_Md_sizeOf 4 [some (.inl (s : Int)), some (.inl (s_pcTo s k : Int)), some (.inl (k : Int))] [] (q_mk d b) (some (.inl (q_pc s : Int)), q_mk d b)
  | 0, k, h => by
    refine e_Md_sizeOf_4 ⟨fun _ => ?_, fun h => by omega⟩
    rw [show k = 8 by omega, s_pcTo_8]
  | f + 1, k, h => by
    refine e_Md_sizeOf_4 ⟨fun h => by omega, fun _ => ?_⟩
    have h1 := s_pcTo_le s k
    have e0 : q_and (q_shr (s : Int) (k : Int)) 1 = ((s.testBit k).toNat : Int) := by
      rw [q_bit_nat (by omega) (by omega)]; cases s.testBit k <;> rfl
    have h2 : (s.testBit k).toNat ≤ 1 := by cases s.testBit k <;> decide
    have e1 : q_w ((s_pcTo s k : Int) + ((s.testBit k).toNat : Int)) = (s_pcTo s (k + 1) : Int) := by
      rw [s_pcTo, q_w_id (by omega) (by omega)]; omega
    have e2 : q_w ((k : Int) + 1) = ((k + 1 : Nat) : Int) := q_w_id (by omega) (by omega)
    rw [e0, e1, e2]
    exact c_Md_sizeOfGo hs f (k + 1) (by omega)
theorem c_Md_sizeOf {s : Nat} (hs : s < 256) {d : qD} {b : Nat} : q_Ev m_Md_sizeOf 0 [some (.inl (s : Int)), none, none] [] (q_mk d b) (some (.inl (q_pc s : Int)), q_mk d b) :=
  e_Md_sizeOf_0 (c_Md_sizeOfGo hs 8 0 rfl)
theorem c_Md_canStand {s i x : Nat} (hs : s < 256) (hx : x < 256) (h1 : 1 ≤ i) (h2 : i ≤ 8) {d : qD} {b : Nat} : q_Ev m_Md_canStand 0 [some (.inl (x : Int)), some (.inl (s : Int)), some (.inl (i : Int)), none] [] (q_mk d b) (some (.inl (q_b2i (s_behind s i x))), q_mk d b) := by
  refine e_Md_canStand_0 ⟨_, _, c_Md_has (by omega) h1 (by omega), ?_⟩
  unfold s_behind
  refine e_Md_canStand_3 ⟨fun h => ?_, fun h => ?_⟩
  · have hh : q_hl s i = true := q_b2i_t h
    rw [if_pos hh]
    refine ⟨_, _, c_Md_without hs h1 h2, ?_⟩
    have hd : q_dif s (2 ^ (i - 1)) < 2 ^ 8 := q_dif_lt hs
    have e2 := q_and_nat (a := x) (b := q_dif s (2 ^ (i - 1))) (by omega) (by omega)
    refine e_Md_canStand_14 ?_
    unfold s_wo
    rw [e2]
    refine ⟨fun h3 => ?_, fun h3 => ⟨_, _, c_Md_sizeOf hx, ?_⟩⟩
    · have : (x &&& q_dif s (2 ^ (i - 1)) == q_dif s (2 ^ (i - 1))) = false := by
        apply beq_false_of_ne; intro hq; exact h3 (by rw [hq])
      rw [this]
      exact e_Md_canStand_27 (e_Md_canStand_28 ⟨by decide, by decide, rfl⟩)
    · have : (x &&& q_dif s (2 ^ (i - 1)) == q_dif s (2 ^ (i - 1))) = true := by
        rw [beq_iff_eq]; omega
      rw [this]
      refine e_Md_canStand_22 ⟨_, _, c_Md_sizeOf hs, ?_⟩
      refine e_Md_canStand_24 ⟨fun h4 => ?_, fun h4 => ?_⟩
      · have : (q_pc x == q_pc s) = false := by apply beq_false_of_ne; intro hq; exact h4 (by rw [hq])
        rw [this]
        exact e_Md_canStand_27 (e_Md_canStand_28 ⟨by decide, by decide, rfl⟩)
      · have : (q_pc x == q_pc s) = true := by rw [beq_iff_eq]; omega
        rw [this]
        exact e_Md_canStand_28 ⟨by decide, by decide, rfl⟩
  · have hh : ¬ q_hl s i = true := by rw [q_b2i_f h]; decide
    rw [if_neg hh]
    refine ⟨fun h3 => ?_, fun h3 => ?_⟩
    · have : (x == s) = false := by apply beq_false_of_ne; intro hq; exact h3 (by rw [hq])
      rw [this]
      exact e_Md_canStand_10 ⟨by decide, by decide, rfl⟩
    · have : (x == s) = true := by rw [beq_iff_eq]; omega
      rw [this]
      exact e_Md_canStand_10 ⟨by decide, by decide, rfl⟩
/-- F of a label by its set and the one behind it -/
def s_step (s i x n : Nat) : Nat := if q_hl s i then (if i < s_least (q_dif x (s_wo s i)) then s_least (q_dif x (s_wo s i)) else s_least (q_dif x (s_wo s i)) + n) else i
theorem s_ntz_bit {s k : Nat} (h : s_ntz s = k) (hk : k < 32) : s.testBit k = true ∧ ∀ j, j < k → s.testBit j = false := by
  unfold s_ntz at h
  by_cases h0 : s.testBit 0 = true
  · rw [if_pos h0] at h; subst h; exact ⟨h0, fun j hj => by omega⟩
  rw [if_neg h0] at h
  by_cases h1 : s.testBit 1 = true
  · rw [if_pos h1] at h; subst h; refine ⟨h1, fun j hj => ?_⟩
    have : j = 0 := by omega
    subst this; simpa using h0
  rw [if_neg h1] at h
  by_cases h2 : s.testBit 2 = true
  · rw [if_pos h2] at h; subst h; refine ⟨h2, fun j hj => ?_⟩
    have : j = 0 ∨ j = 1 := by omega
    rcases this with rfl | rfl <;> simp_all
  rw [if_neg h2] at h
  by_cases h3 : s.testBit 3 = true
  · rw [if_pos h3] at h; subst h; refine ⟨h3, fun j hj => ?_⟩
    have : j = 0 ∨ j = 1 ∨ j = 2 := by omega
    rcases this with rfl | rfl | rfl <;> simp_all
  rw [if_neg h3] at h
  by_cases h4 : s.testBit 4 = true
  · rw [if_pos h4] at h; subst h; refine ⟨h4, fun j hj => ?_⟩
    have : j = 0 ∨ j = 1 ∨ j = 2 ∨ j = 3 := by omega
    rcases this with rfl | rfl | rfl | rfl <;> simp_all
  rw [if_neg h4] at h
  by_cases h5 : s.testBit 5 = true
  · rw [if_pos h5] at h; subst h; refine ⟨h5, fun j hj => ?_⟩
    have : j = 0 ∨ j = 1 ∨ j = 2 ∨ j = 3 ∨ j = 4 := by omega
    rcases this with rfl | rfl | rfl | rfl | rfl <;> simp_all
  rw [if_neg h5] at h
  by_cases h6 : s.testBit 6 = true
  · rw [if_pos h6] at h; subst h; refine ⟨h6, fun j hj => ?_⟩
    have : j = 0 ∨ j = 1 ∨ j = 2 ∨ j = 3 ∨ j = 4 ∨ j = 5 := by omega
    rcases this with rfl | rfl | rfl | rfl | rfl | rfl <;> simp_all
  rw [if_neg h6] at h
  by_cases h7 : s.testBit 7 = true
  · rw [if_pos h7] at h; subst h; refine ⟨h7, fun j hj => ?_⟩
    have : j = 0 ∨ j = 1 ∨ j = 2 ∨ j = 3 ∨ j = 4 ∨ j = 5 ∨ j = 6 := by omega
    rcases this with rfl | rfl | rfl | rfl | rfl | rfl | rfl <;> simp_all
  rw [if_neg h7] at h
  omega
