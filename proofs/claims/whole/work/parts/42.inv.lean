/-! inversions: class -/
theorem c_Ce_invGo_im {G : Nat → Nat} {n : Nat} (hn : n ≤ 8) (hG : ∀ i, 1 ≤ i → i ≤ n → G i ≤ 1000) {d : qD} {b : Nat} (eG : s_row (d.1 t_img 0) n G) : ∀ (f i a : Nat), i + f = n + 1 → 1 ≤ i → a + 8 * f ≤ 1000 → q_Ev m_Ce_inversionsOf 4 [some (.inr (.inr (t_img, 0))), some (.inl (n : Int)), some (.inl (a : Int)), some (.inl (i : Int)), none] [] (q_mk d b) (some (.inl ((a + s_invs G n i f : Nat) : Int)), q_mk d b) := by
  intro f
  induction f with
  | zero =>
    intro i a hi h1 ha
    exact e_Ce_inversionsOf_im_4 ⟨fun _ => rfl, fun h => by omega⟩
  | succ f ih =>
    intro i a hi h1 ha
    have inn2 : ∀ (g j a : Nat) (r : Option qV × qW), j + g = i → 1 ≤ j → a + g + 8 * f ≤ 1000 → q_Ev m_Ce_inversionsOf 4 [some (.inr (.inr (t_img, 0))), some (.inl (n : Int)), some (.inl ((a + s_iv G n i (n + j) g : Nat) : Int)), some (.inl ((i + 1 : Nat) : Int)), none] [] (q_mk d b) r → q_Ev m_Ce_inversionsOf 31 [some (.inr (.inr (t_img, 0))), some (.inl (n : Int)), some (.inl (a : Int)), some (.inl (i : Int)), some (.inl (j : Int))] [] (q_mk d b) r := by
      intro g
      induction g with
      | zero =>
        intro j a r hj hj1 ha2 h
        refine e_Ce_inversionsOf_im_31 ?_
        rw [q_wS (by omega)]
        exact ⟨fun _ => h, fun h2 => by omega⟩
      | succ g ihg =>
        intro j a r hj hj1 ha2 h
        have hb := hG j hj1 (by omega)
        have hat : s_at G n (n + j) = G j + n := by rw [s_at, if_pos (by omega), show n + j - n = j by omega]
        refine e_Ce_inversionsOf_im_31 ⟨fun h2 => by omega, fun _ => ⟨by omega, by omega, by omega, by omega, ?_⟩⟩
        rw [Int.toNat_natCast, Int.toNat_natCast, eG i h1 (by omega), eG j hj1 (by omega), show q_w ((G j : Int) + (n : Int)) = ((G j + n : Nat) : Int) by rw [q_w_id (by omega) (by omega)]; omega]
        refine ⟨fun h2 => ?_, fun h2 => ?_⟩
        · refine e_Ce_inversionsOf_im_47 ?_
          rw [q_wS (by omega), show q_w ((a : Int) + 0) = (a : Int) by rw [q_w_id (by omega) (by omega)]; omega]
          refine ihg (j + 1) a r (by omega) (by omega) (by omega) ?_
          rw [s_iv, hat, if_neg (by omega), Nat.zero_add] at h
          exact h
        · refine e_Ce_inversionsOf_im_47 ?_
          rw [q_wS (by omega), q_wS (by omega)]
          refine ihg (j + 1) (a + 1) r (by omega) (by omega) (by omega) ?_
          rw [s_iv, hat, if_pos (by omega), ← Nat.add_assoc] at h
          exact h
    have inn : ∀ (g j a : Nat) (r : Option qV × qW), j + g = n + 1 → i < j → a + g + i + 8 * f ≤ 1000 → q_Ev m_Ce_inversionsOf 31 [some (.inr (.inr (t_img, 0))), some (.inl (n : Int)), some (.inl ((a + s_iv G n i j g : Nat) : Int)), some (.inl (i : Int)), some (.inl 1)] [] (q_mk d b) r → q_Ev m_Ce_inversionsOf 11 [some (.inr (.inr (t_img, 0))), some (.inl (n : Int)), some (.inl (a : Int)), some (.inl (i : Int)), some (.inl (j : Int))] [] (q_mk d b) r := by
      intro g
      induction g with
      | zero =>
        intro j a r hj hij ha2 h
        exact e_Ce_inversionsOf_im_11 ⟨fun _ => h, fun h2 => by omega⟩
      | succ g ihg =>
        intro j a r hj hij ha2 h
        have hat : s_at G n j = G j := by rw [s_at, if_neg (by omega)]
        refine e_Ce_inversionsOf_im_11 ⟨fun h2 => by omega, fun _ => ⟨by omega, by omega, by omega, by omega, ?_⟩⟩
        rw [Int.toNat_natCast, Int.toNat_natCast, eG i h1 (by omega), eG j (by omega) (by omega)]
        refine ⟨fun h2 => ?_, fun h2 => ?_⟩
        · refine e_Ce_inversionsOf_im_25 ?_
          rw [q_wS (by omega), show q_w ((a : Int) + 0) = (a : Int) by rw [q_w_id (by omega) (by omega)]; omega]
          refine ihg (j + 1) a r (by omega) (by omega) (by omega) ?_
          rw [s_iv, hat, if_neg (by omega), Nat.zero_add] at h
          exact h
        · refine e_Ce_inversionsOf_im_25 ?_
          rw [q_wS (by omega), q_wS (by omega)]
          refine ihg (j + 1) (a + 1) r (by omega) (by omega) (by omega) ?_
          rw [s_iv, hat, if_pos (by omega), ← Nat.add_assoc] at h
          exact h
    refine e_Ce_inversionsOf_im_4 ⟨fun h => by omega, fun _ => ?_⟩
    rw [q_wS (by omega)]
    have hl1 := s_iv_le G n i (i + 1) (n - i)
    have hl2 := s_iv_le G n i (n + 1) (i - 1)
    have hadd := s_iv_add G n i (n - i) (i - 1) (i + 1)
    rw [show n - i + (i - 1) = n - 1 by omega, show i + 1 + (n - i) = n + 1 by omega] at hadd
    refine inn (n - i) (i + 1) a _ (by omega) (by omega) (by omega) ?_
    refine inn2 (i - 1) 1 (a + s_iv G n i (i + 1) (n - i)) _ (by omega) (by omega) (by omega) ?_
    have k := ih (i + 1) (a + s_iv G n i (i + 1) (n - 1)) (by omega) (by omega) (by omega)
    rw [s_invs, ← Nat.add_assoc]
    rw [hadd, ← Nat.add_assoc] at k
    rw [hadd, ← Nat.add_assoc]
    exact k
theorem c_Ce_inv_im {G : Nat → Nat} {n : Nat} (hn : n ≤ 8) (hG : ∀ i, 1 ≤ i → i ≤ n → G i ≤ 1000) {d : qD} {b : Nat} (eG : s_row (d.1 t_img 0) n G) : q_Ev m_Ce_inversionsOf 0 [some (.inr (.inr (t_img, 0))), some (.inl (n : Int)), none, none, none] [] (q_mk d b) (some (.inl (s_inv G n : Int)), q_mk d b) := by
  have k := c_Ce_invGo_im hn hG eG (b := b) n 1 0 (by omega) (by omega) (by omega)
  rw [Nat.zero_add] at k
  exact e_Ce_inversionsOf_im_0 k
theorem c_Ce_invGo_ne {G : Nat → Nat} {n : Nat} (hn : n ≤ 8) (hG : ∀ i, 1 ≤ i → i ≤ n → G i ≤ 1000) {d : qD} {b : Nat} (eG : s_row (d.1 t_neImg 0) n G) : ∀ (f i a : Nat), i + f = n + 1 → 1 ≤ i → a + 8 * f ≤ 1000 → q_Ev m_Ce_inversionsOf 4 [some (.inr (.inr (t_neImg, 0))), some (.inl (n : Int)), some (.inl (a : Int)), some (.inl (i : Int)), none] [] (q_mk d b) (some (.inl ((a + s_invs G n i f : Nat) : Int)), q_mk d b) := by
  intro f
  induction f with
  | zero =>
    intro i a hi h1 ha
    exact e_Ce_inversionsOf_ne_4 ⟨fun _ => rfl, fun h => by omega⟩
  | succ f ih =>
    intro i a hi h1 ha
    have inn2 : ∀ (g j a : Nat) (r : Option qV × qW), j + g = i → 1 ≤ j → a + g + 8 * f ≤ 1000 → q_Ev m_Ce_inversionsOf 4 [some (.inr (.inr (t_neImg, 0))), some (.inl (n : Int)), some (.inl ((a + s_iv G n i (n + j) g : Nat) : Int)), some (.inl ((i + 1 : Nat) : Int)), none] [] (q_mk d b) r → q_Ev m_Ce_inversionsOf 31 [some (.inr (.inr (t_neImg, 0))), some (.inl (n : Int)), some (.inl (a : Int)), some (.inl (i : Int)), some (.inl (j : Int))] [] (q_mk d b) r := by
      intro g
      induction g with
      | zero =>
        intro j a r hj hj1 ha2 h
        refine e_Ce_inversionsOf_ne_31 ?_
        rw [q_wS (by omega)]
        exact ⟨fun _ => h, fun h2 => by omega⟩
      | succ g ihg =>
        intro j a r hj hj1 ha2 h
        have hb := hG j hj1 (by omega)
        have hat : s_at G n (n + j) = G j + n := by rw [s_at, if_pos (by omega), show n + j - n = j by omega]
        refine e_Ce_inversionsOf_ne_31 ⟨fun h2 => by omega, fun _ => ⟨by omega, by omega, by omega, by omega, ?_⟩⟩
        rw [Int.toNat_natCast, Int.toNat_natCast, eG i h1 (by omega), eG j hj1 (by omega), show q_w ((G j : Int) + (n : Int)) = ((G j + n : Nat) : Int) by rw [q_w_id (by omega) (by omega)]; omega]
        refine ⟨fun h2 => ?_, fun h2 => ?_⟩
        · refine e_Ce_inversionsOf_ne_47 ?_
          rw [q_wS (by omega), show q_w ((a : Int) + 0) = (a : Int) by rw [q_w_id (by omega) (by omega)]; omega]
          refine ihg (j + 1) a r (by omega) (by omega) (by omega) ?_
          rw [s_iv, hat, if_neg (by omega), Nat.zero_add] at h
          exact h
        · refine e_Ce_inversionsOf_ne_47 ?_
          rw [q_wS (by omega), q_wS (by omega)]
          refine ihg (j + 1) (a + 1) r (by omega) (by omega) (by omega) ?_
          rw [s_iv, hat, if_pos (by omega), ← Nat.add_assoc] at h
          exact h
    have inn : ∀ (g j a : Nat) (r : Option qV × qW), j + g = n + 1 → i < j → a + g + i + 8 * f ≤ 1000 → q_Ev m_Ce_inversionsOf 31 [some (.inr (.inr (t_neImg, 0))), some (.inl (n : Int)), some (.inl ((a + s_iv G n i j g : Nat) : Int)), some (.inl (i : Int)), some (.inl 1)] [] (q_mk d b) r → q_Ev m_Ce_inversionsOf 11 [some (.inr (.inr (t_neImg, 0))), some (.inl (n : Int)), some (.inl (a : Int)), some (.inl (i : Int)), some (.inl (j : Int))] [] (q_mk d b) r := by
      intro g
      induction g with
      | zero =>
        intro j a r hj hij ha2 h
        exact e_Ce_inversionsOf_ne_11 ⟨fun _ => h, fun h2 => by omega⟩
      | succ g ihg =>
        intro j a r hj hij ha2 h
        have hat : s_at G n j = G j := by rw [s_at, if_neg (by omega)]
        refine e_Ce_inversionsOf_ne_11 ⟨fun h2 => by omega, fun _ => ⟨by omega, by omega, by omega, by omega, ?_⟩⟩
        rw [Int.toNat_natCast, Int.toNat_natCast, eG i h1 (by omega), eG j (by omega) (by omega)]
        refine ⟨fun h2 => ?_, fun h2 => ?_⟩
        · refine e_Ce_inversionsOf_ne_25 ?_
          rw [q_wS (by omega), show q_w ((a : Int) + 0) = (a : Int) by rw [q_w_id (by omega) (by omega)]; omega]
          refine ihg (j + 1) a r (by omega) (by omega) (by omega) ?_
          rw [s_iv, hat, if_neg (by omega), Nat.zero_add] at h
          exact h
        · refine e_Ce_inversionsOf_ne_25 ?_
          rw [q_wS (by omega), q_wS (by omega)]
          refine ihg (j + 1) (a + 1) r (by omega) (by omega) (by omega) ?_
          rw [s_iv, hat, if_pos (by omega), ← Nat.add_assoc] at h
          exact h
    refine e_Ce_inversionsOf_ne_4 ⟨fun h => by omega, fun _ => ?_⟩
    rw [q_wS (by omega)]
    have hl1 := s_iv_le G n i (i + 1) (n - i)
    have hl2 := s_iv_le G n i (n + 1) (i - 1)
    have hadd := s_iv_add G n i (n - i) (i - 1) (i + 1)
    rw [show n - i + (i - 1) = n - 1 by omega, show i + 1 + (n - i) = n + 1 by omega] at hadd
    refine inn (n - i) (i + 1) a _ (by omega) (by omega) (by omega) ?_
    refine inn2 (i - 1) 1 (a + s_iv G n i (i + 1) (n - i)) _ (by omega) (by omega) (by omega) ?_
    have k := ih (i + 1) (a + s_iv G n i (i + 1) (n - 1)) (by omega) (by omega) (by omega)
    rw [s_invs, ← Nat.add_assoc]
    rw [hadd, ← Nat.add_assoc] at k
    rw [hadd, ← Nat.add_assoc]
    exact k
theorem c_Ce_inv_ne {G : Nat → Nat} {n : Nat} (hn : n ≤ 8) (hG : ∀ i, 1 ≤ i → i ≤ n → G i ≤ 1000) {d : qD} {b : Nat} (eG : s_row (d.1 t_neImg 0) n G) : q_Ev m_Ce_inversionsOf 0 [some (.inr (.inr (t_neImg, 0))), some (.inl (n : Int)), none, none, none] [] (q_mk d b) (some (.inl (s_inv G n : Int)), q_mk d b) := by
  have k := c_Ce_invGo_ne hn hG eG (b := b) n 1 0 (by omega) (by omega) (by omega)
  rw [Nat.zero_add] at k
  exact e_Ce_inversionsOf_ne_0 k
