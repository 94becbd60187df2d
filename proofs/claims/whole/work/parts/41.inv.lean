/-! inversions -/
def s_at (G : Nat → Nat) (n j : Nat) : Nat := if n < j then G (j - n) + n else G j
def s_iv (G : Nat → Nat) (n i : Nat) : Nat → Nat → Nat
  | _, 0 => 0
  | j, f + 1 => (if s_at G n j < G i then 1 else 0) + s_iv G n i (j + 1) f
def s_invs (G : Nat → Nat) (n : Nat) : Nat → Nat → Nat
  | _, 0 => 0
  | i, f + 1 => s_iv G n i (i + 1) (n - 1) + s_invs G n (i + 1) f
/-- how many inversions -/
def s_inv (G : Nat → Nat) (n : Nat) : Nat := s_invs G n 1 n
theorem s_iv_le (G : Nat → Nat) (n i : Nat) : ∀ j f, s_iv G n i j f ≤ f
  | _, 0 => Nat.le_refl 0
  | j, f + 1 => by
    have := s_iv_le G n i (j + 1) f
    rw [s_iv]; split <;> omega
theorem s_invs_le (G : Nat → Nat) (n : Nat) : ∀ i f, s_invs G n i f ≤ f * (n - 1)
  | _, 0 => Nat.zero_le _
  | i, f + 1 => by
    have h1 := s_invs_le G n (i + 1) f
    have h2 := s_iv_le G n i (i + 1) (n - 1)
    rw [s_invs, Nat.succ_mul]; omega
theorem s_iv_add (G : Nat → Nat) (n i : Nat) : ∀ f g j, s_iv G n i j (f + g) = s_iv G n i j f + s_iv G n i (j + f) g
  | 0, g, j => by rw [Nat.zero_add, s_iv, Nat.zero_add, Nat.add_zero]
  | f + 1, g, j => by
    have := s_iv_add G n i f g (j + 1)
    rw [show f + 1 + g = (f + g) + 1 by omega, s_iv, s_iv, this, show j + 1 + f = j + (f + 1) by omega]
    omega
theorem c_Md_at_f {G : Nat → Nat} {n j : Nat} (hn : n ≤ 8) (hG : ∀ i, 1 ≤ i → i ≤ n → G i ≤ 1000) {d : qD} {b : Nat} (eG : s_row (d.1 t_mF 0) n G) (h1 : 1 ≤ j) (h2 : j ≤ 2 * n) : q_Ev m_Md_at 0 [some (.inr (.inr (t_mF, 0))), some (.inl (n : Int)), some (.inl (j : Int))] [] (q_mk d b) (some (.inl (s_at G n j : Int)), q_mk d b) := by
  refine e_Md_at_f_0 ⟨fun h => ⟨by omega, by omega, e_Md_at_f_14 ?_⟩, fun h => ?_⟩
  · rw [Int.toNat_natCast, eG j h1 (by omega), s_at, if_neg (by omega)]
  · rw [q_wD (by omega) (by omega)]
    refine ⟨by omega, by omega, e_Md_at_f_14 ?_⟩
    have := hG (j - n) (by omega) (by omega)
    rw [Int.toNat_natCast, eG (j - n) (by omega) (by omega), s_at, if_pos (by omega), q_w_id (by omega) (by omega)]
    congr 3
theorem c_Md_invGo_f {G : Nat → Nat} {n : Nat} (hn : n ≤ 8) (hG : ∀ i, 1 ≤ i → i ≤ n → G i ≤ 1000) {d : qD} {b : Nat} (eG : s_row (d.1 t_mF 0) n G) : ∀ (f i a : Nat), i + f = n + 1 → 1 ≤ i → a + 8 * f ≤ 1000 → q_Ev m_Md_inversionsOf 4 [some (.inr (.inr (t_mF, 0))), some (.inl (n : Int)), some (.inl (a : Int)), some (.inl (i : Int)), none] [] (q_mk d b) (some (.inl ((a + s_invs G n i f : Nat) : Int)), q_mk d b) := by
  intro f
  induction f with
  | zero =>
    intro i a hi h1 ha
    exact e_Md_inversionsOf_f_4 ⟨fun _ => rfl, fun h => by omega⟩
  | succ f ih =>
    intro i a hi h1 ha
    have inn : ∀ (g j a : Nat) (r : Option qV × qW), j + g = i + n → i < j → a + g + 8 * f ≤ 1000 → q_Ev m_Md_inversionsOf 4 [some (.inr (.inr (t_mF, 0))), some (.inl (n : Int)), some (.inl ((a + s_iv G n i j g : Nat) : Int)), some (.inl ((i + 1 : Nat) : Int)), none] [] (q_mk d b) r → q_Ev m_Md_inversionsOf 11 [some (.inr (.inr (t_mF, 0))), some (.inl (n : Int)), some (.inl (a : Int)), some (.inl (i : Int)), some (.inl (j : Int))] [] (q_mk d b) r := by
      intro g
      induction g with
      | zero =>
        intro j a r hj hij ha2 h
        have ew : q_w ((i : Int) + (n : Int)) = ((i + n : Nat) : Int) := by rw [q_w_id (by omega) (by omega)]; omega
        refine e_Md_inversionsOf_f_11 ?_
        rw [ew, q_wS (by omega)]
        exact ⟨fun _ => h, fun h2 => by omega⟩
      | succ g ihg =>
        intro j a r hj hij ha2 h
        have ew : q_w ((i : Int) + (n : Int)) = ((i + n : Nat) : Int) := by rw [q_w_id (by omega) (by omega)]; omega
        refine e_Md_inversionsOf_f_11 ?_
        rw [ew]
        refine ⟨fun h2 => by omega, fun _ => ⟨by omega, by omega, _, _, c_Md_at_f hn hG eG (by omega) (by omega), ?_⟩⟩
        rw [Int.toNat_natCast, eG i h1 (by omega)]
        refine e_Md_inversionsOf_f_24 ⟨fun h2 => ?_, fun h2 => ?_⟩
        · refine e_Md_inversionsOf_f_28 ?_
          rw [q_wS (by omega), show q_w ((a : Int) + 0) = (a : Int) by rw [q_w_id (by omega) (by omega)]; omega]
          refine ihg (j + 1) a r (by omega) (by omega) (by omega) ?_
          rw [s_iv, if_neg (by omega), Nat.zero_add] at h
          exact h
        · refine e_Md_inversionsOf_f_28 ?_
          rw [q_wS (by omega), q_wS (by omega)]
          refine ihg (j + 1) (a + 1) r (by omega) (by omega) (by omega) ?_
          rw [s_iv, if_pos (by omega), ← Nat.add_assoc] at h
          exact h
    refine e_Md_inversionsOf_f_4 ⟨fun h => by omega, fun _ => ?_⟩
    rw [q_wS (by omega)]
    refine inn (n - 1) (i + 1) a _ (by omega) (by omega) (by omega) ?_
    have hle := s_iv_le G n i (i + 1) (n - 1)
    have k := ih (i + 1) (a + s_iv G n i (i + 1) (n - 1)) (by omega) (by omega) (by omega)
    rw [s_invs, ← Nat.add_assoc]
    exact k
theorem c_Md_inv_f {G : Nat → Nat} {n : Nat} (hn : n ≤ 8) (hG : ∀ i, 1 ≤ i → i ≤ n → G i ≤ 1000) {d : qD} {b : Nat} (eG : s_row (d.1 t_mF 0) n G) : q_Ev m_Md_inversionsOf 0 [some (.inr (.inr (t_mF, 0))), some (.inl (n : Int)), none, none, none] [] (q_mk d b) (some (.inl (s_inv G n : Int)), q_mk d b) := by
  have k := c_Md_invGo_f hn hG eG (b := b) n 1 0 (by omega) (by omega) (by omega)
  rw [Nat.zero_add] at k
  exact e_Md_inversionsOf_f_0 k
theorem c_Md_at_o {G : Nat → Nat} {n j : Nat} (hn : n ≤ 8) (hG : ∀ i, 1 ≤ i → i ≤ n → G i ≤ 1000) {d : qD} {b : Nat} (eG : s_row (d.1 t_mOther 0) n G) (h1 : 1 ≤ j) (h2 : j ≤ 2 * n) : q_Ev m_Md_at 0 [some (.inr (.inr (t_mOther, 0))), some (.inl (n : Int)), some (.inl (j : Int))] [] (q_mk d b) (some (.inl (s_at G n j : Int)), q_mk d b) := by
  refine e_Md_at_o_0 ⟨fun h => ⟨by omega, by omega, e_Md_at_o_14 ?_⟩, fun h => ?_⟩
  · rw [Int.toNat_natCast, eG j h1 (by omega), s_at, if_neg (by omega)]
  · rw [q_wD (by omega) (by omega)]
    refine ⟨by omega, by omega, e_Md_at_o_14 ?_⟩
    have := hG (j - n) (by omega) (by omega)
    rw [Int.toNat_natCast, eG (j - n) (by omega) (by omega), s_at, if_pos (by omega), q_w_id (by omega) (by omega)]
    congr 3
theorem c_Md_invGo_o {G : Nat → Nat} {n : Nat} (hn : n ≤ 8) (hG : ∀ i, 1 ≤ i → i ≤ n → G i ≤ 1000) {d : qD} {b : Nat} (eG : s_row (d.1 t_mOther 0) n G) : ∀ (f i a : Nat), i + f = n + 1 → 1 ≤ i → a + 8 * f ≤ 1000 → q_Ev m_Md_inversionsOf 4 [some (.inr (.inr (t_mOther, 0))), some (.inl (n : Int)), some (.inl (a : Int)), some (.inl (i : Int)), none] [] (q_mk d b) (some (.inl ((a + s_invs G n i f : Nat) : Int)), q_mk d b) := by
  intro f
  induction f with
  | zero =>
    intro i a hi h1 ha
    exact e_Md_inversionsOf_o_4 ⟨fun _ => rfl, fun h => by omega⟩
  | succ f ih =>
    intro i a hi h1 ha
    have inn : ∀ (g j a : Nat) (r : Option qV × qW), j + g = i + n → i < j → a + g + 8 * f ≤ 1000 → q_Ev m_Md_inversionsOf 4 [some (.inr (.inr (t_mOther, 0))), some (.inl (n : Int)), some (.inl ((a + s_iv G n i j g : Nat) : Int)), some (.inl ((i + 1 : Nat) : Int)), none] [] (q_mk d b) r → q_Ev m_Md_inversionsOf 11 [some (.inr (.inr (t_mOther, 0))), some (.inl (n : Int)), some (.inl (a : Int)), some (.inl (i : Int)), some (.inl (j : Int))] [] (q_mk d b) r := by
      intro g
      induction g with
      | zero =>
        intro j a r hj hij ha2 h
        have ew : q_w ((i : Int) + (n : Int)) = ((i + n : Nat) : Int) := by rw [q_w_id (by omega) (by omega)]; omega
        refine e_Md_inversionsOf_o_11 ?_
        rw [ew, q_wS (by omega)]
        exact ⟨fun _ => h, fun h2 => by omega⟩
      | succ g ihg =>
        intro j a r hj hij ha2 h
        have ew : q_w ((i : Int) + (n : Int)) = ((i + n : Nat) : Int) := by rw [q_w_id (by omega) (by omega)]; omega
        refine e_Md_inversionsOf_o_11 ?_
        rw [ew]
        refine ⟨fun h2 => by omega, fun _ => ⟨by omega, by omega, _, _, c_Md_at_o hn hG eG (by omega) (by omega), ?_⟩⟩
        rw [Int.toNat_natCast, eG i h1 (by omega)]
        refine e_Md_inversionsOf_o_24 ⟨fun h2 => ?_, fun h2 => ?_⟩
        · refine e_Md_inversionsOf_o_28 ?_
          rw [q_wS (by omega), show q_w ((a : Int) + 0) = (a : Int) by rw [q_w_id (by omega) (by omega)]; omega]
          refine ihg (j + 1) a r (by omega) (by omega) (by omega) ?_
          rw [s_iv, if_neg (by omega), Nat.zero_add] at h
          exact h
        · refine e_Md_inversionsOf_o_28 ?_
          rw [q_wS (by omega), q_wS (by omega)]
          refine ihg (j + 1) (a + 1) r (by omega) (by omega) (by omega) ?_
          rw [s_iv, if_pos (by omega), ← Nat.add_assoc] at h
          exact h
    refine e_Md_inversionsOf_o_4 ⟨fun h => by omega, fun _ => ?_⟩
    rw [q_wS (by omega)]
    refine inn (n - 1) (i + 1) a _ (by omega) (by omega) (by omega) ?_
    have hle := s_iv_le G n i (i + 1) (n - 1)
    have k := ih (i + 1) (a + s_iv G n i (i + 1) (n - 1)) (by omega) (by omega) (by omega)
    rw [s_invs, ← Nat.add_assoc]
    exact k
theorem c_Md_inv_o {G : Nat → Nat} {n : Nat} (hn : n ≤ 8) (hG : ∀ i, 1 ≤ i → i ≤ n → G i ≤ 1000) {d : qD} {b : Nat} (eG : s_row (d.1 t_mOther 0) n G) : q_Ev m_Md_inversionsOf 0 [some (.inr (.inr (t_mOther, 0))), some (.inl (n : Int)), none, none, none] [] (q_mk d b) (some (.inl (s_inv G n : Int)), q_mk d b) := by
  have k := c_Md_invGo_o hn hG eG (b := b) n 1 0 (by omega) (by omega) (by omega)
  rw [Nat.zero_add] at k
  exact e_Md_inversionsOf_o_0 k
theorem c_Md_at_t {G : Nat → Nat} {n j : Nat} (hn : n ≤ 8) (hG : ∀ i, 1 ≤ i → i ≤ n → G i ≤ 1000) {d : qD} {b : Nat} (eG : s_row (d.1 t_mTried 0) n G) (h1 : 1 ≤ j) (h2 : j ≤ 2 * n) : q_Ev m_Md_at 0 [some (.inr (.inr (t_mTried, 0))), some (.inl (n : Int)), some (.inl (j : Int))] [] (q_mk d b) (some (.inl (s_at G n j : Int)), q_mk d b) := by
  refine e_Md_at_t_0 ⟨fun h => ⟨by omega, by omega, e_Md_at_t_14 ?_⟩, fun h => ?_⟩
  · rw [Int.toNat_natCast, eG j h1 (by omega), s_at, if_neg (by omega)]
  · rw [q_wD (by omega) (by omega)]
    refine ⟨by omega, by omega, e_Md_at_t_14 ?_⟩
    have := hG (j - n) (by omega) (by omega)
    rw [Int.toNat_natCast, eG (j - n) (by omega) (by omega), s_at, if_pos (by omega), q_w_id (by omega) (by omega)]
    congr 3
theorem c_Md_invGo_t {G : Nat → Nat} {n : Nat} (hn : n ≤ 8) (hG : ∀ i, 1 ≤ i → i ≤ n → G i ≤ 1000) {d : qD} {b : Nat} (eG : s_row (d.1 t_mTried 0) n G) : ∀ (f i a : Nat), i + f = n + 1 → 1 ≤ i → a + 8 * f ≤ 1000 → q_Ev m_Md_inversionsOf 4 [some (.inr (.inr (t_mTried, 0))), some (.inl (n : Int)), some (.inl (a : Int)), some (.inl (i : Int)), none] [] (q_mk d b) (some (.inl ((a + s_invs G n i f : Nat) : Int)), q_mk d b) := by
  intro f
  induction f with
  | zero =>
    intro i a hi h1 ha
    exact e_Md_inversionsOf_t_4 ⟨fun _ => rfl, fun h => by omega⟩
  | succ f ih =>
    intro i a hi h1 ha
    have inn : ∀ (g j a : Nat) (r : Option qV × qW), j + g = i + n → i < j → a + g + 8 * f ≤ 1000 → q_Ev m_Md_inversionsOf 4 [some (.inr (.inr (t_mTried, 0))), some (.inl (n : Int)), some (.inl ((a + s_iv G n i j g : Nat) : Int)), some (.inl ((i + 1 : Nat) : Int)), none] [] (q_mk d b) r → q_Ev m_Md_inversionsOf 11 [some (.inr (.inr (t_mTried, 0))), some (.inl (n : Int)), some (.inl (a : Int)), some (.inl (i : Int)), some (.inl (j : Int))] [] (q_mk d b) r := by
      intro g
      induction g with
      | zero =>
        intro j a r hj hij ha2 h
        have ew : q_w ((i : Int) + (n : Int)) = ((i + n : Nat) : Int) := by rw [q_w_id (by omega) (by omega)]; omega
        refine e_Md_inversionsOf_t_11 ?_
        rw [ew, q_wS (by omega)]
        exact ⟨fun _ => h, fun h2 => by omega⟩
      | succ g ihg =>
        intro j a r hj hij ha2 h
        have ew : q_w ((i : Int) + (n : Int)) = ((i + n : Nat) : Int) := by rw [q_w_id (by omega) (by omega)]; omega
        refine e_Md_inversionsOf_t_11 ?_
        rw [ew]
        refine ⟨fun h2 => by omega, fun _ => ⟨by omega, by omega, _, _, c_Md_at_t hn hG eG (by omega) (by omega), ?_⟩⟩
        rw [Int.toNat_natCast, eG i h1 (by omega)]
        refine e_Md_inversionsOf_t_24 ⟨fun h2 => ?_, fun h2 => ?_⟩
        · refine e_Md_inversionsOf_t_28 ?_
          rw [q_wS (by omega), show q_w ((a : Int) + 0) = (a : Int) by rw [q_w_id (by omega) (by omega)]; omega]
          refine ihg (j + 1) a r (by omega) (by omega) (by omega) ?_
          rw [s_iv, if_neg (by omega), Nat.zero_add] at h
          exact h
        · refine e_Md_inversionsOf_t_28 ?_
          rw [q_wS (by omega), q_wS (by omega)]
          refine ihg (j + 1) (a + 1) r (by omega) (by omega) (by omega) ?_
          rw [s_iv, if_pos (by omega), ← Nat.add_assoc] at h
          exact h
    refine e_Md_inversionsOf_t_4 ⟨fun h => by omega, fun _ => ?_⟩
    rw [q_wS (by omega)]
    refine inn (n - 1) (i + 1) a _ (by omega) (by omega) (by omega) ?_
    have hle := s_iv_le G n i (i + 1) (n - 1)
    have k := ih (i + 1) (a + s_iv G n i (i + 1) (n - 1)) (by omega) (by omega) (by omega)
    rw [s_invs, ← Nat.add_assoc]
    exact k
theorem c_Md_inv_t {G : Nat → Nat} {n : Nat} (hn : n ≤ 8) (hG : ∀ i, 1 ≤ i → i ≤ n → G i ≤ 1000) {d : qD} {b : Nat} (eG : s_row (d.1 t_mTried 0) n G) : q_Ev m_Md_inversionsOf 0 [some (.inr (.inr (t_mTried, 0))), some (.inl (n : Int)), none, none, none] [] (q_mk d b) (some (.inl (s_inv G n : Int)), q_mk d b) := by
  have k := c_Md_invGo_t hn hG eG (b := b) n 1 0 (by omega) (by omega) (by omega)
  rw [Nat.zero_add] at k
  exact e_Md_inversionsOf_t_0 k
