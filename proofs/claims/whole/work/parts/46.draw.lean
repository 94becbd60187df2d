/-! the class draws a diagram: a network of comparators -/
def s_sw (x : Nat → Nat) (i j : Nat) : Nat → Nat := fun w => if w = i then x j else if w = j then x i else x w
/-- one row, columns from i + g down -/
def s_dr (fs i : Nat) : Nat → (Nat → Nat) → Nat → (Nat → Nat) × Nat
  | 0, x, p => (x, p)
  | g + 1, x, p => if s_box fs i (i + g + 1) && decide (x (i + g + 1) < x i) then s_dr fs i g (s_sw x i (i + g + 1)) (s_with p (i + g + 1)) else s_dr fs i g x p
theorem s_dr_lt (fs i : Nat) : ∀ (g : Nat) (x : Nat → Nat) (p : Nat), p < 256 → i + g ≤ 8 → (s_dr fs i g x p).2 < 256
  | 0, _, _, hp, _ => hp
  | g + 1, x, p, hp, h => by
    rw [s_dr]; split
    · exact s_dr_lt fs i g _ _ (s_with_lt hp (by omega)) (by omega)
    · exact s_dr_lt fs i g _ _ hp (by omega)
/-- the wires after so many rows, and the + of each row -/
def s_dx (fs n : Nat) (x : Nat → Nat) : Nat → Nat → Nat
  | 0 => x
  | i + 1 => (s_dr fs (i + 1) (n - (i + 1)) (s_dx fs n x i) 0).1
def s_dp (fs n : Nat) (x : Nat → Nat) (i : Nat) : Nat := (s_dr fs i (n - i) (s_dx fs n x (i - 1)) 0).2
/-- the wires as the two arrays hold them -/
def s_wires (fs n : Nat) (l t : Nat → Int) (x : Nat → Nat) : Prop := ∀ w, 1 ≤ w → w ≤ n → (q_hl fs w = true → l w = (x w : Int)) ∧ (q_hl fs w = false → t w = (x w : Int))
