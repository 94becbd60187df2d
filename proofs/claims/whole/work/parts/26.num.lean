/-! numbers of the small machine: naturals below 2^31, sets of labels as bits -/
theorem q_tb {a : Nat} (h : a < 2 ^ 32) : (Int32.ofInt (a : Int)).toBitVec.toNat = a := pk_tn (n := a) h
theorem q_ti {x : Int32} {n : Nat} (h : x.toBitVec.toNat = n) (hn : n < 2 ^ 31) : x.toInt = (n : Int) := by
  show x.toBitVec.toInt = _
  rw [BitVec.toInt_eq_toNat_of_lt (by omega), h]
theorem q_nn (a : Nat) (h : a < 2147483648) : q_w (a : Int) = (a : Int) := q_w_id (by omega) (by omega)
theorem q_and_nat {a b : Nat} (ha : a < 2 ^ 31) (hb : b < 2 ^ 32) : q_and (a : Int) (b : Int) = ((a &&& b : Nat) : Int) := by
  unfold q_and
  refine q_ti ?_ (Nat.lt_of_le_of_lt Nat.and_le_left ha)
  rw [Int32.toBitVec_and, BitVec.toNat_and, q_tb (by omega), q_tb hb]
theorem q_or_nat {a b : Nat} (ha : a < 2 ^ 31) (hb : b < 2 ^ 31) : q_or (a : Int) (b : Int) = ((a ||| b : Nat) : Int) := by
  unfold q_or
  refine q_ti ?_ (Nat.or_lt_two_pow ha hb)
  rw [Int32.toBitVec_or, BitVec.toNat_or, q_tb (by omega), q_tb (by omega)]
theorem q_xor_nat {a b : Nat} (ha : a < 2 ^ 31) (hb : b < 2 ^ 31) : q_xor (a : Int) (b : Int) = ((a ^^^ b : Nat) : Int) := by
  unfold q_xor
  refine q_ti ?_ (Nat.xor_lt_two_pow ha hb)
  rw [Int32.toBitVec_xor, BitVec.toNat_xor, q_tb (by omega), q_tb (by omega)]
/-- without: the bits of a that b has not -/
def q_dif (a b : Nat) : Nat := a ^^^ (a &&& b)
theorem q_dif_bit (a b i : Nat) : (q_dif a b).testBit i = (a.testBit i && !b.testBit i) := by
  unfold q_dif
  rw [Nat.testBit_xor, Nat.testBit_and]
  cases a.testBit i <;> cases b.testBit i <;> rfl
theorem q_dif_lt {a b : Nat} {k : Nat} (ha : a < 2 ^ k) : q_dif a b < 2 ^ k := Nat.xor_lt_two_pow ha (Nat.lt_of_le_of_lt Nat.and_le_left ha)
theorem q_andn_nat {a b : Nat} (ha : a < 2 ^ 31) (hb : b < 2 ^ 31) : q_and (a : Int) (q_xor (b : Int) (-1)) = ((q_dif a b : Nat) : Int) := by
  unfold q_and
  refine q_ti ?_ (q_dif_lt ha)
  rw [Int32.toBitVec_and, BitVec.toNat_and, q_tb (by omega)]
  unfold q_xor
  rw [q_ofI, Int32.toBitVec_xor, BitVec.toNat_xor, q_tb (by omega)]
  have e1 : (Int32.ofInt (-1)).toBitVec.toNat = 2 ^ 32 - 1 := by decide
  rw [e1]
  refine Nat.eq_of_testBit_eq fun i => ?_
  rw [q_dif_bit, Nat.testBit_and, Nat.testBit_xor, Nat.testBit_two_pow_sub_one]
  by_cases hi : i < 32
  · simp [hi]
  · have : a.testBit i = false := Nat.testBit_lt_two_pow (Nat.lt_of_lt_of_le ha (Nat.pow_le_pow_right (by decide) (by omega)))
    simp [this]
theorem q_shl1 : ∀ k : Nat, k < 31 → q_shl 1 (k : Int) = ((2 ^ k : Nat) : Int) := by decide +kernel
theorem q_shs {k : Nat} (hk : k < 32) : ((Int32.ofInt (k : Int) &&& 31).toBitVec.smod 32).toNat = k := by
  have : ∀ k : Nat, k < 32 → ((Int32.ofInt (k : Int) &&& 31).toBitVec.smod 32).toNat = k := by decide +kernel
  exact this k hk
theorem q_shr_nat {a k : Nat} (ha : a < 2 ^ 31) (hk : k < 32) : q_shr (a : Int) (k : Int) = ((a / 2 ^ k : Nat) : Int) := by
  unfold q_shr
  have h := pk_shr (Int32.ofInt (a : Int)) (Int32.ofInt (k : Int) &&& 31) k (q_shs hk)
  rw [h, q_toI (q_can_iff.mpr ⟨by omega, by omega⟩)]
  rw [Int.shiftRight_eq_div_pow]
  rfl
/-- a set has a label -/
def q_hl (s l : Nat) : Bool := s.testBit (l - 1)
theorem q_bit_nat {a k : Nat} (ha : a < 2 ^ 31) (hk : k < 32) : q_and (q_shr (a : Int) (k : Int)) 1 = if a.testBit k then 1 else 0 := by
  rw [q_shr_nat ha hk]
  have h1 : a / 2 ^ k < 2 ^ 31 := Nat.lt_of_le_of_lt (Nat.div_le_self _ _) ha
  have := q_and_nat (a := a / 2 ^ k) (b := 1) h1 (by decide)
  rw [show ((1 : Nat) : Int) = 1 from rfl] at this
  rw [this, Nat.and_one_is_mod]
  rw [show a.testBit k = (a / 2 ^ k % 2 == 1) by rw [Nat.testBit_eq_decide_div_mod_eq]; rfl]
  rcases Nat.mod_two_eq_zero_or_one (a / 2 ^ k) with h | h <;> rw [h] <;> rfl
def q_b2i (b : Bool) : Int := if b then 1 else 0
theorem q_hl_nat {s l : Nat} (hs : s < 2 ^ 31) (hl : 1 ≤ l) (hl2 : l ≤ 31) : q_and (q_shr (s : Int) (q_w ((l : Int) - 1))) 1 = q_b2i (q_hl s l) := by
  rw [q_w_id (by omega) (by omega), show (l : Int) - 1 = ((l - 1 : Nat) : Int) by omega, q_bit_nat hs (by omega)]
  rfl
/-- how many bits a number below 256 has -/
def q_pc (s : Nat) : Nat := (s.testBit 0).toNat + (s.testBit 1).toNat + (s.testBit 2).toNat + (s.testBit 3).toNat + (s.testBit 4).toNat + (s.testBit 5).toNat + (s.testBit 6).toNat + (s.testBit 7).toNat
theorem c_J_bitCount {s : Nat} (hs : s < 256) {d : qD} {b : Nat} : q_Ev m_J_bitCount 0 [some (.inl (s : Int))] [] (q_mk d b) (some (.inl (q_pc s : Int)), q_mk d b) := by
  refine e_J_bitCount_0 ?_
  congr 3
  have h : ∀ x : Nat, x < 256 → ((q_pc x : Nat) : Int) = q_and (q_w ((q_w ((q_and (q_w ((q_w ((q_and (q_w ((x : Int) - (q_and (q_ushr (x : Int) 1) 1431655765))) 858993459) + (q_and (q_ushr (q_w ((x : Int) - (q_and (q_ushr (x : Int) 1) 1431655765))) 2) 858993459))) + (q_ushr (q_w ((q_and (q_w ((x : Int) - (q_and (q_ushr (x : Int) 1) 1431655765))) 858993459) + (q_and (q_ushr (q_w ((x : Int) - (q_and (q_ushr (x : Int) 1) 1431655765))) 2) 858993459))) 4))) 252645135) + (q_ushr (q_and (q_w ((q_w ((q_and (q_w ((x : Int) - (q_and (q_ushr (x : Int) 1) 1431655765))) 858993459) + (q_and (q_ushr (q_w ((x : Int) - (q_and (q_ushr (x : Int) 1) 1431655765))) 2) 858993459))) + (q_ushr (q_w ((q_and (q_w ((x : Int) - (q_and (q_ushr (x : Int) 1) 1431655765))) 858993459) + (q_and (q_ushr (q_w ((x : Int) - (q_and (q_ushr (x : Int) 1) 1431655765))) 2) 858993459))) 4))) 252645135) 8))) + (q_ushr (q_w ((q_and (q_w ((q_w ((q_and (q_w ((x : Int) - (q_and (q_ushr (x : Int) 1) 1431655765))) 858993459) + (q_and (q_ushr (q_w ((x : Int) - (q_and (q_ushr (x : Int) 1) 1431655765))) 2) 858993459))) + (q_ushr (q_w ((q_and (q_w ((x : Int) - (q_and (q_ushr (x : Int) 1) 1431655765))) 858993459) + (q_and (q_ushr (q_w ((x : Int) - (q_and (q_ushr (x : Int) 1) 1431655765))) 2) 858993459))) 4))) 252645135) + (q_ushr (q_and (q_w ((q_w ((q_and (q_w ((x : Int) - (q_and (q_ushr (x : Int) 1) 1431655765))) 858993459) + (q_and (q_ushr (q_w ((x : Int) - (q_and (q_ushr (x : Int) 1) 1431655765))) 2) 858993459))) + (q_ushr (q_w ((q_and (q_w ((x : Int) - (q_and (q_ushr (x : Int) 1) 1431655765))) 858993459) + (q_and (q_ushr (q_w ((x : Int) - (q_and (q_ushr (x : Int) 1) 1431655765))) 2) 858993459))) 4))) 252645135) 8))) 16))) 63 := by decide +kernel
  exact h s hs
