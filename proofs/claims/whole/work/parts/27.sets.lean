/-! contracts: JDK helpers and Sets -/
theorem q_b2i_nn (x : Bool) : 0 ≤ q_b2i x := by cases x <;> decide
theorem q_b2i_lt (x : Bool) : q_b2i x < 2 := by cases x <;> decide
theorem c_Se_holds {s l : Nat} (hs : s < 2 ^ 31) (h1 : 1 ≤ l) (h2 : l ≤ 31) {d : qD} {b : Nat} : q_Ev m_Se_holds 0 [some (.inl (s : Int)), some (.inl (l : Int))] [] (q_mk d b) (some (.inl (q_b2i (q_hl s l))), q_mk d b) := by
  refine e_Se_holds_0 ?_
  rw [q_hl_nat hs h1 h2]
  cases q_hl s l
  · exact ⟨fun _ => e_Se_holds_11 ⟨by decide, by decide, rfl⟩, fun h => absurd rfl h⟩
  · exact ⟨fun h => absurd h (by decide), fun _ => e_Se_holds_11 ⟨by decide, by decide, rfl⟩⟩
theorem c_Se_only {l : Nat} (h1 : 1 ≤ l) (h2 : l ≤ 31) {d : qD} {b : Nat} : q_Ev m_Se_only 0 [some (.inl (l : Int))] [] (q_mk d b) (some (.inl ((2 ^ (l - 1) : Nat) : Int)), q_mk d b) := by
  refine e_Se_only_0 ?_
  rw [q_w_id (by omega) (by omega), show (l : Int) - 1 = ((l - 1 : Nat) : Int) by omega, q_shl1 _ (by omega)]
theorem c_Se_upTo {l : Nat} (h2 : l ≤ 30) {d : qD} {b : Nat} : q_Ev m_Se_upTo 0 [some (.inl (l : Int))] [] (q_mk d b) (some (.inl ((2 ^ l - 1 : Nat) : Int)), q_mk d b) := by
  refine e_Se_upTo_0 ?_
  have h3 : 2 ^ l ≤ 2 ^ 30 := Nat.pow_le_pow_right (by decide) h2
  have h4 : 0 < 2 ^ l := Nat.pow_pos (by decide)
  rw [q_shl1 _ (by omega), q_w_id (by omega) (by omega), show ((2 ^ l : Nat) : Int) - 1 = ((2 ^ l - 1 : Nat) : Int) by omega]
/-- the place of the lowest bit, 32 for no bit -/
def s_ntz (s : Nat) : Nat := if s.testBit 0 then 0 else if s.testBit 1 then 1 else if s.testBit 2 then 2 else if s.testBit 3 then 3 else if s.testBit 4 then 4 else if s.testBit 5 then 5 else if s.testBit 6 then 6 else if s.testBit 7 then 7 else 32
/-- the answer as the JDK's text computes it -/
def s_ntzJ (x : Int) : Int :=
  let y := q_and (q_xor x (-1)) (q_w (x - 1))
  if 0 < y then
    let p : Int × Int := if y ≤ 65536 then (y, 1) else (q_ushr y 16, q_w (1 + 16))
    let p : Int × Int := if p.1 ≤ 256 then p else (q_ushr p.1 8, q_w (p.2 + 8))
    let p : Int × Int := if p.1 ≤ 16 then p else (q_ushr p.1 4, q_w (p.2 + 4))
    let p : Int × Int := if p.1 ≤ 4 then p else (q_ushr p.1 2, q_w (p.2 + 2))
    q_w (p.2 + q_ushr p.1 1)
  else q_and y 32
theorem s_ntzJ_eq : ∀ x : Nat, x < 256 → s_ntzJ (x : Int) = (s_ntz x : Int) := by decide +kernel
theorem c_J_ntzJ {x : Int} {d : qD} {b : Nat} : q_Ev m_J_numberOfTrailingZeros 0 [some (.inl x), none] [] (q_mk d b) (some (.inl (s_ntzJ x)), q_mk d b) := by
  unfold s_ntzJ
  have g48 : ∀ p : Int × Int, q_Ev m_J_numberOfTrailingZeros 48 [some (.inl p.1), some (.inl p.2)] [] (q_mk d b) (some (.inl (q_w (p.2 + q_ushr p.1 1))), q_mk d b) := fun p => e_J_numberOfTrailingZeros_48 rfl
  have g40 : ∀ p : Int × Int, q_Ev m_J_numberOfTrailingZeros 40 [some (.inl p.1), some (.inl p.2)] [] (q_mk d b) (some (.inl (let p : Int × Int := if p.1 ≤ 4 then p else (q_ushr p.1 2, q_w (p.2 + 2)); q_w (p.2 + q_ushr p.1 1))), q_mk d b) := by
    intro p
    refine e_J_numberOfTrailingZeros_40 ⟨fun h => ?_, fun h => ?_⟩
    · rw [if_pos h]; exact g48 p
    · rw [if_neg (by omega)]; exact g48 (q_ushr p.1 2, q_w (p.2 + 2))
  have g32 : ∀ p : Int × Int, q_Ev m_J_numberOfTrailingZeros 32 [some (.inl p.1), some (.inl p.2)] [] (q_mk d b) (some (.inl (let p : Int × Int := if p.1 ≤ 16 then p else (q_ushr p.1 4, q_w (p.2 + 4)); let p : Int × Int := if p.1 ≤ 4 then p else (q_ushr p.1 2, q_w (p.2 + 2)); q_w (p.2 + q_ushr p.1 1))), q_mk d b) := by
    intro p
    refine e_J_numberOfTrailingZeros_32 ⟨fun h => ?_, fun h => ?_⟩
    · rw [if_pos h]; exact g40 p
    · rw [if_neg (show ¬ p.1 ≤ 16 by omega)]; exact g40 (q_ushr p.1 4, q_w (p.2 + 4))
  have g24 : ∀ p : Int × Int, q_Ev m_J_numberOfTrailingZeros 24 [some (.inl p.1), some (.inl p.2)] [] (q_mk d b) (some (.inl (let p : Int × Int := if p.1 ≤ 256 then p else (q_ushr p.1 8, q_w (p.2 + 8)); let p : Int × Int := if p.1 ≤ 16 then p else (q_ushr p.1 4, q_w (p.2 + 4)); let p : Int × Int := if p.1 ≤ 4 then p else (q_ushr p.1 2, q_w (p.2 + 2)); q_w (p.2 + q_ushr p.1 1))), q_mk d b) := by
    intro p
    refine e_J_numberOfTrailingZeros_24 ⟨fun h => ?_, fun h => ?_⟩
    · rw [if_pos h]; exact g32 p
    · rw [if_neg (show ¬ p.1 ≤ 256 by omega)]; exact g32 (q_ushr p.1 8, q_w (p.2 + 8))
  generalize hy : q_and (q_xor x (-1)) (q_w (x - 1)) = y
  refine e_J_numberOfTrailingZeros_0 ?_
  rw [hy]
  refine ⟨fun h => ⟨fun h2 => ?_, fun h2 => ?_⟩, fun h => ?_⟩
  · rw [if_pos h, if_pos h2]; exact g24 (y, 1)
  · rw [if_pos h, if_neg (show ¬ y ≤ 65536 by omega)]; exact g24 (q_ushr y 16, q_w (1 + 16))
  · rw [if_neg (show ¬ 0 < y by omega)]
theorem c_J_ntz {s : Nat} (hs : s < 256) {d : qD} {b : Nat} : q_Ev m_J_numberOfTrailingZeros 0 [some (.inl (s : Int)), none] [] (q_mk d b) (some (.inl (s_ntz s : Int)), q_mk d b) := by
  rw [← s_ntzJ_eq s hs]; exact c_J_ntzJ
/-- the least label of a set below 256, 33 for the empty one -/
def s_least (s : Nat) : Nat := s_ntz s + 1
theorem c_Se_least {s : Nat} (hs : s < 256) {d : qD} {b : Nat} : q_Ev m_Se_least 0 [some (.inl (s : Int))] [] (q_mk d b) (some (.inl (s_least s : Int)), q_mk d b) := by
  refine e_Se_least_0 ⟨_, _, c_J_ntz hs, ?_⟩
  refine e_Se_least_2 ?_
  have h : s_ntz s ≤ 32 := by
    unfold s_ntz; repeat' split
    all_goals omega
  rw [q_w_id (by omega) (by omega)]; rfl
/-- the label that is so many steps on from one, around n -/
def s_on (n fm step : Nat) : Nat := if fm + step ≤ n then fm + step else fm + step - n
def s_alGo (s o fm n : Nat) : Nat → Nat → Int → Bool
  | 0, _, _ => true
  | f + 1, step, lead => if lead + (q_b2i (q_hl s (s_on n fm step)) - q_b2i (q_hl o (s_on n fm step))) ≤ 0 then s_alGo s o fm n f (step + 1) (lead + (q_b2i (q_hl s (s_on n fm step)) - q_b2i (q_hl o (s_on n fm step)))) else false
/-- one set is at least another one from a label on -/
def s_atLeast (s o fm n : Nat) : Bool := s_alGo s o fm n n 0 0
theorem c_Se_atLeastGo {s o fm n : Nat} (hs : s < 256) (ho : o < 256) (hf : 1 ≤ fm) (hfn : fm ≤ n) (hn : n ≤ 8) {d : qD} {b : Nat} : ∀ (f step : Nat) (lead : Int), step + f = n → lead ≤ 0 → -8 - (step : Int) ≤ lead → q_Ev m_Se_atLeast 4 [some (.inl (s : Int)), some (.inl (o : Int)), some (.inl (fm : Int)), some (.inl (n : Int)), some (.inl lead), some (.inl (step : Int)), none] [] (q_mk d b) (some (.inl (q_b2i (s_alGo s o fm n f step lead))), q_mk d b)
  | 0, step, lead, hst, _, _ => by
    refine e_Se_atLeast_4 ⟨fun _ => ⟨by decide, by decide, rfl⟩, fun h => by omega⟩
  | f + 1, step, lead, hst, h0, hm => by
    have key : q_Ev m_Se_atLeast 21 [some (.inl (s : Int)), some (.inl (o : Int)), some (.inl (fm : Int)), some (.inl (n : Int)), some (.inl lead), some (.inl (step : Int)), none] [.inl (s_on n fm step : Int)] (q_mk d b) (some (.inl (q_b2i (s_alGo s o fm n (f + 1) step lead))), q_mk d b) := by
      have hl : 1 ≤ s_on n fm step ∧ s_on n fm step ≤ n := by unfold s_on; split <;> omega
      refine e_Se_atLeast_21 ?_
      rw [q_hl_nat (by omega) hl.1 (by omega), q_hl_nat (by omega) hl.1 (by omega)]
      have b1 := q_b2i_nn (q_hl s (s_on n fm step))
      have b2 := q_b2i_lt (q_hl s (s_on n fm step))
      have b3 := q_b2i_nn (q_hl o (s_on n fm step))
      have b4 := q_b2i_lt (q_hl o (s_on n fm step))
      rw [s_alGo]
      generalize q_b2i (q_hl s (s_on n fm step)) = u at *
      generalize q_b2i (q_hl o (s_on n fm step)) = v at *
      have e1 : q_w (u - v) = u - v := q_w_id (by omega) (by omega)
      have e2 : q_w (lead + (u - v)) = lead + (u - v) := q_w_id (by omega) (by omega)
      have e3 : q_w ((step : Int) + 1) = ((step + 1 : Nat) : Int) := q_w_id (by omega) (by omega)
      rw [e1, e2, e3]
      refine ⟨fun h => ?_, fun h => ?_⟩
      · rw [if_pos h]
        exact c_Se_atLeastGo hs ho hf hfn hn f (step + 1) _ (by omega) h (by omega)
      · rw [if_neg (by omega)]
        exact ⟨by decide, by decide, rfl⟩
    refine e_Se_atLeast_4 ⟨fun h => by omega, fun _ => ?_⟩
    have e1 : q_w ((fm : Int) + (step : Int)) = ((fm + step : Nat) : Int) := q_w_id (by omega) (by omega)
    rw [e1]
    refine ⟨fun h => ?_, fun h => ?_⟩
    · have e2 : q_w (((fm + step : Nat) : Int) - (n : Int)) = (s_on n fm step : Int) := by
        rw [s_on, if_neg (by omega), q_w_id (by omega) (by omega)]; omega
      rw [e2]; exact key
    · have e2 : ((fm + step : Nat) : Int) = (s_on n fm step : Int) := by
        rw [s_on, if_pos (by omega)]
      rw [e2]; exact key
theorem c_Se_atLeast {s o fm n : Nat} (hs : s < 256) (ho : o < 256) (hf : 1 ≤ fm) (hfn : fm ≤ n) (hn : n ≤ 8) {d : qD} {b : Nat} : q_Ev m_Se_atLeast 0 [some (.inl (s : Int)), some (.inl (o : Int)), some (.inl (fm : Int)), some (.inl (n : Int)), none, none, none] [] (q_mk d b) (some (.inl (q_b2i (s_atLeast s o fm n))), q_mk d b) :=
  e_Se_atLeast_0 (c_Se_atLeastGo hs ho hf hfn hn n 0 0 (by omega) (by omega) (by omega))
