/-! inversions -/
def s_at (G : Nat → Nat) (n j : Nat) : Nat := if n < j then G (j - n) + n else G j
def s_iv (G : Nat → Nat) (n i : Nat) : Nat → Nat → Nat
  | _, 0 => 0
  | j, f + 1 => (if s_at G n j < G i then 1 else 0) + s_iv G n i (j + 1) f
def s_invs (G : Nat → Nat) (n : Nat) : Nat → Nat → Nat
  | _, 0 => 0
  | i, f + 1 => s_iv G n i (i + 1) (n - 1) + s_invs G n (i + 1) f
/-- how many inversions -/
def s_inv (G : Nat → Nat) (n : Nat) : Nat := s_invs G n 1 n
theorem s_iv_le (G : Nat → Nat) (n i : Nat) : ∀ j f, s_iv G n i j f ≤ f
  | _, 0 => Nat.le_refl 0
  | j, f + 1 => by
    have := s_iv_le G n i (j + 1) f
    rw [s_iv]; split <;> omega
theorem s_invs_le (G : Nat → Nat) (n : Nat) : ∀ i f, s_invs G n i f ≤ f * (n - 1)
  | _, 0 => Nat.zero_le _
  | i, f + 1 => by
    have h1 := s_invs_le G n (i + 1) f
    have h2 := s_iv_le G n i (i + 1) (n - 1)
    rw [s_invs, Nat.succ_mul]; omega
theorem s_iv_add (G : Nat → Nat) (n i : Nat) : ∀ f g j, s_iv G n i j (f + g) = s_iv G n i j f + s_iv G n i (j + f) g
  | 0, g, j => by rw [Nat.zero_add, s_iv, Nat.zero_add, Nat.add_zero]
  | f + 1, g, j => by
    have := s_iv_add G n i f g (j + 1)
    rw [show f + 1 + g = (f + g) + 1 by omega, s_iv, s_iv, this, show j + 1 + f = j + (f + 1) by omega]
    omega
