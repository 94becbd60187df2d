/-! bytes of an int, as both sides lay them on the tape -/
theorem q_narb (z : Int32) : vp_nar .byte z = z.toInt8.toInt32 := rfl
def s_byte (x : Int) (s : Int) : Int := q_and (q_ushr x s) 255
theorem s_255 {i : Nat} (h : 8 ≤ i) : (255#32).getLsbD i = false := by
  show Nat.testBit 255 i = false
  exact Nat.testBit_lt_two_pow (Nat.lt_of_lt_of_le (show 255 < 2 ^ 8 by decide) (Nat.pow_le_pow_right (by decide) h))
theorem s_byte_m24 (x : Int) : q_and (q_nar 2 (q_i2b (q_shr x 24))) 255 = s_byte x 24 := by
  unfold s_byte q_and q_nar q_i2b q_shr q_ushr
  simp only [q_ofI, q_narb]
  congr 1
  generalize Int32.ofInt x = y
  apply Int32.toBitVec_inj.mp
  refine BitVec.eq_of_getLsbD_eq fun i hi => ?_
  by_cases h8 : i < 8
  · have h2 : 24 + i < 32 := by omega
    have h3 : ¬ 32 ≤ i := by omega
    simp [hi, h8, h2, h3, BitVec.getLsbD_signExtend, BitVec.getLsbD_sshiftRight, BitVec.getElem_signExtend, BitVec.getElem_sshiftRight]
  · have := s_255 (i := i) (by omega)
    simp [this]
theorem s_byte_m16 (x : Int) : q_and (q_nar 2 (q_i2b (q_shr x 16))) 255 = s_byte x 16 := by
  unfold s_byte q_and q_nar q_i2b q_shr q_ushr
  simp only [q_ofI, q_narb]
  congr 1
  generalize Int32.ofInt x = y
  apply Int32.toBitVec_inj.mp
  refine BitVec.eq_of_getLsbD_eq fun i hi => ?_
  by_cases h8 : i < 8
  · have h2 : 16 + i < 32 := by omega
    have h3 : ¬ 32 ≤ i := by omega
    simp [hi, h8, h2, h3, BitVec.getLsbD_signExtend, BitVec.getLsbD_sshiftRight, BitVec.getElem_signExtend, BitVec.getElem_sshiftRight]
  · have := s_255 (i := i) (by omega)
    simp [this]
theorem s_byte_m8 (x : Int) : q_and (q_nar 2 (q_i2b (q_shr x 8))) 255 = s_byte x 8 := by
  unfold s_byte q_and q_nar q_i2b q_shr q_ushr
  simp only [q_ofI, q_narb]
  congr 1
  generalize Int32.ofInt x = y
  apply Int32.toBitVec_inj.mp
  refine BitVec.eq_of_getLsbD_eq fun i hi => ?_
  by_cases h8 : i < 8
  · have h2 : 8 + i < 32 := by omega
    have h3 : ¬ 32 ≤ i := by omega
    simp [hi, h8, h2, h3, BitVec.getLsbD_signExtend, BitVec.getLsbD_sshiftRight, BitVec.getElem_signExtend, BitVec.getElem_sshiftRight]
  · have := s_255 (i := i) (by omega)
    simp [this]
theorem s_byte_m0 (x : Int) : q_and (q_nar 2 (q_i2b (q_shr x 0))) 255 = s_byte x 0 := by
  unfold s_byte q_and q_nar q_i2b q_shr q_ushr
  simp only [q_ofI, q_narb]
  congr 1
  generalize Int32.ofInt x = y
  apply Int32.toBitVec_inj.mp
  refine BitVec.eq_of_getLsbD_eq fun i hi => ?_
  by_cases h8 : i < 8
  · have h2 : 0 + i < 32 := by omega
    have h3 : ¬ 32 ≤ i := by omega
    simp [hi, h8, h2, h3, BitVec.getLsbD_signExtend, BitVec.getLsbD_sshiftRight, BitVec.getElem_signExtend, BitVec.getElem_sshiftRight]
  · have := s_255 (i := i) (by omega)
    simp [this]
theorem s_byte_rg (x s : Int) : 0 ≤ s_byte x s ∧ s_byte x s ≤ 255 := by
  unfold s_byte q_and
  generalize Int32.ofInt (q_ushr x s) = y
  have h : (y &&& Int32.ofInt 255).toBitVec.toNat ≤ 255 := by
    rw [Int32.toBitVec_and, BitVec.toNat_and]
    exact Nat.and_le_right
  rw [q_ti (n := (y &&& Int32.ofInt 255).toBitVec.toNat) rfl (by omega)]
  omega
