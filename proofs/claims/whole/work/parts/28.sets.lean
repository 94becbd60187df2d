/-! contracts: Sets.crossing, Sets.canStandBehind -/
theorem q_b2i_t {x : Bool} (h : q_b2i x ≠ 0) : x = true := by
  cases x
  · exact absurd rfl h
  · rfl
theorem q_b2i_f {x : Bool} (h : q_b2i x = 0) : x = false := by
  cases x
  · rfl
  · exact absurd h (by decide)
/-- how often labels of one alone and of the other alone change about: fuel, label, changes, the last one -/
def s_crGo (one o : Nat) : Nat → Nat → Nat → Option Bool → Nat
  | 0, _, c, _ => c
  | f + 1, l, c, z => if q_hl one l != q_hl o l then s_crGo one o f (l + 1) (if z.isSome && z != some (q_hl one l) then c + 1 else c) (some (q_hl one l)) else s_crGo one o f (l + 1) c z
/-- two sets cross -/
def s_cross (one o n : Nat) : Bool := decide (3 ≤ s_crGo one o n 1 0 none)
theorem q_hl_xor (a b l : Nat) : q_hl (a ^^^ b) l = (q_hl a l != q_hl b l) := by
  unfold q_hl
  rw [Nat.testBit_xor]
theorem c_Se_crossingGo {s o n : Nat} (hs : s < 256) (ho : o < 256) (hn : n ≤ 8) {d : qD} {b : Nat} : ∀ (f l c : Nat) (z : Option Bool) (x5 x6 : Int), l + f = n + 1 → 1 ≤ l → c < l → ((z = none ∧ x5 = 0) ∨ (∃ y, z = some y ∧ x5 = 1 ∧ x6 = q_b2i y)) → q_Ev m_Se_crossing 12 [some (.inl (s : Int)), none, some (.inl (n : Int)), some (.inl ((s ^^^ o : Nat) : Int)), some (.inl (c : Int)), some (.inl x5), some (.inl x6), some (.inl (l : Int)), none] [] (q_mk d b) (some (.inl (q_b2i (decide (3 ≤ s_crGo s o f l c z)))), q_mk d b)
  | 0, l, c, z, x5, x6, hl, h1, hc, hz => by
    refine e_Se_crossing_12 ⟨fun _ => ⟨fun h => ?_, fun h => ?_⟩, fun h => by omega⟩
    · rw [s_crGo, decide_eq_false (by omega)]
      exact e_Se_crossing_41 ⟨by decide, by decide, rfl⟩
    · rw [s_crGo, decide_eq_true (by omega)]
      exact e_Se_crossing_41 ⟨by decide, by decide, rfl⟩
  | f + 1, l, c, z, x5, x6, hl, h1, hc, hz => by
    have hx : s ^^^ o < 256 := Nat.xor_lt_two_pow (n := 8) hs ho
    have e3 : q_w ((l : Int) + 1) = ((l + 1 : Nat) : Int) := q_w_id (by omega) (by omega)
    have ec : q_w ((c : Int) + 1) = ((c + 1 : Nat) : Int) := q_w_id (by omega) (by omega)
    refine e_Se_crossing_12 ⟨fun h => by omega, fun _ => ⟨_, _, c_Se_holds (by omega) h1 (by omega), ?_⟩⟩
    refine e_Se_crossing_18 ⟨fun h => ?_, fun h => ⟨_, _, c_Se_holds (by omega) h1 (by omega), ?_⟩⟩
    · have hx0 : (q_hl s l != q_hl o l) = false := by rw [← q_hl_xor]; exact q_b2i_f h
      rw [s_crGo, if_neg (by rw [hx0]; decide)]
      refine e_Se_crossing_33 ?_
      rw [e3]
      exact c_Se_crossingGo hs ho hn f (l + 1) c z x5 x6 (by omega) (by omega) (by omega) hz
    · have hx1 : (q_hl s l != q_hl o l) = true := by rw [← q_hl_xor]; exact q_b2i_t h
      rw [s_crGo, if_pos hx1]
      have fin : ∀ c' : Nat, c' < l + 1 → (if z.isSome && z != some (q_hl s l) then c + 1 else c) = c' → q_Ev m_Se_crossing 29 [some (.inl (s : Int)), none, some (.inl (n : Int)), some (.inl ((s ^^^ o : Nat) : Int)), some (.inl (c' : Int)), none, none, some (.inl (l : Int)), some (.inl (q_b2i (q_hl s l)))] [] (q_mk d b) (some (.inl (q_b2i (decide (3 ≤ s_crGo s o f (l + 1) (if z.isSome && z != some (q_hl s l) then c + 1 else c) (some (q_hl s l)))))), q_mk d b) := by
        intro c' hc' he
        refine e_Se_crossing_29 (e_Se_crossing_33 ?_)
        rw [e3, he]
        exact c_Se_crossingGo hs ho hn f (l + 1) c' _ _ _ (by omega) (by omega) (by omega) (Or.inr ⟨_, rfl, rfl, rfl⟩)
      refine e_Se_crossing_22 ⟨fun h5 => ?_, fun h5 => ⟨fun h6 => ?_, fun h6 => ?_⟩⟩
      · refine fin c (by omega) ?_
        rcases hz with ⟨hz, _⟩ | ⟨y, _, hz, _⟩
        · rw [hz]; rfl
        · omega
      · refine fin c (by omega) ?_
        rcases hz with ⟨_, hz⟩ | ⟨y, hz, _, hy⟩
        · omega
        · rw [hz]
          have : q_hl s l = y := by
            rw [hy] at h6
            cases hA : q_hl s l <;> cases hB : y <;> rw [hA, hB] at h6 <;> first | rfl | exact absurd h6 (by decide)
          rw [this]
          exact if_neg (by simp)
      · have hz2 : (if z.isSome && z != some (q_hl s l) then c + 1 else c) = c + 1 := by
          rcases hz with ⟨_, hz⟩ | ⟨y, hz, _, hy⟩
          · omega
          · rw [hz]
            have : y ≠ q_hl s l := by intro hyy; exact h6 (by rw [hy, hyy])
            exact if_pos (by simp [this])
        rw [ec]
        exact fin (c + 1) (by omega) hz2
theorem c_Se_crossing {s o n : Nat} (hs : s < 256) (ho : o < 256) (hn : n ≤ 8) {d : qD} {b : Nat} : q_Ev m_Se_crossing 0 [some (.inl (s : Int)), some (.inl (o : Int)), some (.inl (n : Int)), none, none, none, none, none, none] [] (q_mk d b) (some (.inl (q_b2i (s_cross s o n))), q_mk d b) := by
  refine e_Se_crossing_0 ?_
  rw [q_xor_nat (by omega) (by omega)]
  exact c_Se_crossingGo hs ho hn n 1 0 none 0 0 (by omega) (by omega) (by omega) (Or.inl ⟨rfl, rfl⟩)
/-- next can stand behind set at label i -/
def s_behind (s i x : Nat) : Bool := if q_hl s i then (x &&& q_dif s (2 ^ (i - 1)) == q_dif s (2 ^ (i - 1))) && q_pc x == q_pc s else x == s
theorem c_Se_canStandBehind {s i x : Nat} (hs : s < 256) (hx : x < 256) (h1 : 1 ≤ i) (h2 : i ≤ 8) {d : qD} {b : Nat} : q_Ev m_Se_canStandBehind 0 [some (.inl (s : Int)), some (.inl (i : Int)), some (.inl (x : Int)), none] [] (q_mk d b) (some (.inl (q_b2i (s_behind s i x))), q_mk d b) := by
  refine e_Se_canStandBehind_0 ⟨_, _, c_Se_holds (by omega) h1 (by omega), ?_⟩
  unfold s_behind
  refine e_Se_canStandBehind_3 ⟨fun h => ?_, fun h => ?_⟩
  · have hh : q_hl s i = true := q_b2i_t h
    rw [if_pos hh]
    refine ⟨_, _, c_Se_only h1 (by omega), ?_⟩
    have hp : 2 ^ (i - 1) ≤ 2 ^ 7 := Nat.pow_le_pow_right (by decide) (by omega)
    have hd : q_dif s (2 ^ (i - 1)) < 2 ^ 8 := q_dif_lt hs
    have e1 : q_and (s : Int) (q_xor ((2 ^ (i - 1) : Nat) : Int) (-1)) = ((q_dif s (2 ^ (i - 1)) : Nat) : Int) := q_andn_nat (by omega) (by omega)
    have e2 := q_and_nat (a := x) (b := q_dif s (2 ^ (i - 1))) (by omega) (by omega)
    refine e_Se_canStandBehind_14 ?_
    rw [e1, e2]
    refine ⟨fun h3 => ?_, fun h3 => ⟨_, _, c_J_bitCount hx, ?_⟩⟩
    · have : (x &&& q_dif s (2 ^ (i - 1)) == q_dif s (2 ^ (i - 1))) = false := by
        apply beq_false_of_ne; intro hq; exact h3 (by rw [hq])
      rw [this]
      exact e_Se_canStandBehind_30 (e_Se_canStandBehind_31 ⟨by decide, by decide, rfl⟩)
    · have : (x &&& q_dif s (2 ^ (i - 1)) == q_dif s (2 ^ (i - 1))) = true := by
        rw [beq_iff_eq]; omega
      rw [this]
      refine e_Se_canStandBehind_25 ⟨_, _, c_J_bitCount hs, ?_⟩
      refine e_Se_canStandBehind_27 ⟨fun h4 => ?_, fun h4 => ?_⟩
      · have : (q_pc x == q_pc s) = false := by apply beq_false_of_ne; intro hq; exact h4 (by rw [hq])
        rw [this]
        exact e_Se_canStandBehind_30 (e_Se_canStandBehind_31 ⟨by decide, by decide, rfl⟩)
      · have : (q_pc x == q_pc s) = true := by rw [beq_iff_eq]; omega
        rw [this]
        exact e_Se_canStandBehind_31 ⟨by decide, by decide, rfl⟩
  · have hh : ¬ q_hl s i = true := by rw [q_b2i_f h]; decide
    rw [if_neg hh]
    refine ⟨fun h3 => ?_, fun h3 => ?_⟩
    · have : (x == s) = false := by apply beq_false_of_ne; intro hq; exact h3 (by rw [hq])
      rw [this]
      exact e_Se_canStandBehind_10 ⟨by decide, by decide, rfl⟩
    · have : (x == s) = true := by rw [beq_iff_eq]; omega
      rw [this]
      exact e_Se_canStandBehind_10 ⟨by decide, by decide, rfl⟩
