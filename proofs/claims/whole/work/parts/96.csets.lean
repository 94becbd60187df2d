/-! reading sets: valid; the class whole -/
theorem s_sets_one {n i : Nat} {S : Nat → Nat} (hn : n ≤ 8) (hS : ∀ j, 1 ≤ j → j ≤ n → S j < 2 ^ n) (hb : ∀ i, 1 ≤ i → i ≤ n → s_behind (S i) i (S (i % n + 1)) = true) (h1 : 1 ≤ i) (hi : i ≤ n) : (q_hl (S i) i = true → q_dif (S (i % n + 1)) (s_wo (S i) i) ≠ 0) ∧ (i ≤ s_step (S i) i (S (i % n + 1)) n ∧ s_step (S i) i (S (i % n + 1)) n ≤ i + n) ∧ (q_hl (S i) i = true → q_hl (S (i % n + 1)) (s_tg n (s_step (S i) i (S (i % n + 1)) n)) = true ∧ (q_hl (S i) (s_tg n (s_step (S i) i (S (i % n + 1)) n)) = false ∨ s_tg n (s_step (S i) i (S (i % n + 1)) n) = i)) ∧ (q_hl (S i) i = false → s_tg n (s_step (S i) i (S (i % n + 1)) n) = i) ∧ (∀ l, 1 ≤ l → l ≤ 8 → l ≠ i → q_hl (S i) l = true → q_hl (S (i % n + 1)) l = true) ∧ 1 ≤ s_tg n (s_step (S i) i (S (i % n + 1)) n) ∧ s_tg n (s_step (S i) i (S (i % n + 1)) n) ≤ n := by
  have hp := s_p8 hn
  have hm := Nat.mod_lt i (show n > 0 by omega)
  have hs := hS i h1 hi
  have hx := hS (i % n + 1) (by omega) (by omega)
  obtain ⟨g1, g2⟩ := s_behind_hl (by omega) (by omega) h1 (by omega) (hb i h1 hi)
  cases hh : q_hl (S i) i with
  | true =>
    obtain ⟨g3, g4⟩ := g1 hh
    have hd : q_dif (S (i % n + 1)) (s_wo (S i) i) < 256 := q_dif_lt (k := 8) (by omega)
    have hl := s_least_hl hd g3
    have hl8 := s_least_le hd g3
    have hl1 := s_least_pos (q_dif (S (i % n + 1)) (s_wo (S i) i))
    have hlx := hl.1
    rw [q_hl_dif, Bool.and_eq_true] at hlx
    have hln : s_least (q_dif (S (i % n + 1)) (s_wo (S i) i)) ≤ n := by
      by_cases hq : s_least (q_dif (S (i % n + 1)) (s_wo (S i) i)) ≤ n
      · exact hq
      · rw [s_hln hx (by omega)] at hlx
        exact absurd hlx.1 (by decide)
    have hlw := hlx.2
    rw [s_wo_hl h1 hl1] at hlw
    unfold s_step
    rw [hh, if_pos rfl]
    generalize s_least (q_dif (S (i % n + 1)) (s_wo (S i) i)) = a at *
    have ht : s_tg n (if i < a then a else a + n) = a := by
      unfold s_tg
      split <;> split <;> omega
    rw [ht]
    refine ⟨fun _ => g3, by split <;> omega, fun _ => ⟨hlx.1, ?_⟩, fun h => absurd h (by decide), fun l l1 l2 l3 l4 => ?_, hl1, hln⟩
    · by_cases hq : a = i
      · exact Or.inr hq
      · rw [decide_eq_false hq, Bool.not_false, Bool.and_true] at hlw
        left
        cases hz : q_hl (S i) a with
        | false => rfl
        | true => rw [hz] at hlw; exact absurd hlw (by decide)
    · rw [g4 l l1 l2, l4, decide_eq_false l3]; rfl
  | false =>
    have g3 := g2 hh
    unfold s_step
    rw [hh, if_neg (by decide)]
    have ht : s_tg n i = i := by unfold s_tg; rw [if_neg (by omega)]
    rw [ht]
    exact ⟨fun h => absurd h (by decide), ⟨by omega, by omega⟩, fun h => absurd h (by decide), fun _ => rfl, fun l _ _ _ l4 => by rw [g3]; exact l4, h1, hi⟩
theorem s_sets_run {n l : Nat} {S : Nat → Nat} (hst : ∀ i, 1 ≤ i → i ≤ n → l ≠ i → q_hl (S i) l = true → q_hl (S (i % n + 1)) l = true) : ∀ (f m : Nat), 1 ≤ m → m + f ≤ n → (∀ k, m ≤ k → k < m + f → l ≠ k) → q_hl (S m) l = true → q_hl (S (m + f)) l = true
  | 0, m, _, _, _, h => h
  | f + 1, m, h1, h2, hk, h => by
    have := s_sets_run hst f m h1 (by omega) (fun k k1 k2 => hk k k1 (by omega)) h
    have h3 := hst (m + f) (by omega) (by omega) (hk (m + f) (by omega) (by omega)) this
    rw [Nat.mod_eq_of_lt (show m + f < n by omega)] at h3
    exact h3
theorem s_sets_ok {n : Nat} {S : Nat → Nat} (h2 : 2 ≤ n) (hn : n ≤ 8) (hS : ∀ j, 1 ≤ j → j ≤ n → S j < 2 ^ n) (hb : ∀ i, 1 ≤ i → i ≤ n → s_behind (S i) i (S (i % n + 1)) = true) : s_ok n (fun i => s_step (S i) i (S (i % n + 1)) n) := by
  have one := fun i h1 hi => s_sets_one hn hS hb (i := i) h1 hi
  refine ⟨h2, hn, fun i h1 hi => (one i h1 hi).2.1, fun i j h1 hij hj heq => ?_⟩
  dsimp only at heq
  obtain ⟨_, _, a1, a2, _, a4, a5⟩ := one i h1 (by omega)
  obtain ⟨_, _, b1, b2, _, b4, b5⟩ := one j (by omega) hj
  have hst : ∀ l, 1 ≤ l → l ≤ 8 → ∀ i, 1 ≤ i → i ≤ n → l ≠ i → q_hl (S i) l = true → q_hl (S (i % n + 1)) l = true := fun l l1 l2 i i1 i2 l3 l4 => (one i i1 i2).2.2.2.2.1 l l1 l2 l3 l4
  generalize s_tg n (s_step (S i) i (S (i % n + 1)) n) = t at *
  rw [← heq] at b1 b2 b4 b5
  have st := hst t a4 (by omega)
  have wrap : ∀ m, 1 ≤ m → m ≤ n → (∀ k, m ≤ k → k ≤ n → t ≠ k) → q_hl (S m) t = true → q_hl (S 1) t = true := by
    intro m m1 m2 hk h
    have h3 := s_sets_run st (n - m) m m1 (by omega) (fun k k1 k2 => hk k k1 (by omega)) h
    rw [show m + (n - m) = n by omega] at h3
    have h4 := st n (by omega) (Nat.le_refl n) (hk n (by omega) (Nat.le_refl n)) h3
    rw [Nat.mod_self] at h4
    exact h4
  have modi : i % n + 1 = i + 1 := by rw [Nat.mod_eq_of_lt (by omega)]
  rw [modi] at a1
  -- from behind j round to i, if t is none of j + 1 .. n, 1 .. i - 1
  have round : (∀ k, j < k → k ≤ n → t ≠ k) → (∀ k, 1 ≤ k → k < i → t ≠ k) → q_hl (S (j % n + 1)) t = true → q_hl (S i) t = true := by
    intro k1 k2 h
    have hs1 : q_hl (S 1) t = true := by
      by_cases hjn : j = n
      · rw [hjn, Nat.mod_self] at h; exact h
      · rw [Nat.mod_eq_of_lt (by omega)] at h
        exact wrap (j + 1) (by omega) (by omega) (fun k q1 q2 => k1 k (by omega) q2) h
    have := s_sets_run st (i - 1) 1 (by omega) (by omega) (fun k q1 q2 => k2 k q1 (by omega)) hs1
    rw [show 1 + (i - 1) = i by omega] at this
    exact this
  cases hi : q_hl (S i) i with
  | false =>
    have ti := a2 hi
    cases hj2 : q_hl (S j) j with
    | false => have := b2 hj2; omega
    | true =>
      have := round (fun k k1 k2 => by omega) (fun k k1 k2 => by omega) (b1 hj2).1
      rw [ti, hi] at this
      exact absurd this (by decide)
  | true =>
    obtain ⟨c1, c2⟩ := a1 hi
    have toj : (∀ k, i < k → k < j → t ≠ k) → q_hl (S j) t = true := by
      intro hk
      have := s_sets_run st (j - (i + 1)) (i + 1) (by omega) (by omega) (fun k k1 k2 => hk k (by omega) (by omega)) c1
      rw [show i + 1 + (j - (i + 1)) = j by omega] at this
      exact this
    cases hj2 : q_hl (S j) j with
    | false =>
      have tj := b2 hj2
      have := toj (fun k k1 k2 => by omega)
      rw [tj, hj2] at this
      exact absurd this (by decide)
    | true =>
      obtain ⟨d1, d2⟩ := b1 hj2
      by_cases hin : i < t ∧ t ≤ j
      · have := round (fun k k1 k2 => by omega) (fun k k1 k2 => by omega) d1
        rcases c2 with c2 | c2
        · rw [this] at c2; exact absurd c2 (by decide)
        · omega
      · have := toj (fun k k1 k2 => by omega)
        rcases d2 with d2 | d2
        · rw [this] at d2; exact absurd d2 (by decide)
        · omega
theorem c_Re_imageBetween {s i x n : Nat} (hs : s < 256) (hx : x < 256) (h1 : 1 ≤ i) (h8 : i ≤ 8) (hn : n ≤ 8) {d : qD} {b : Nat} (e7 : d.1 t_Re 0 7 = (n : Int)) : q_Ev m_Re_imageBetween 0 [q_r t_Re 0, q_i (s : Int), q_i (i : Int), q_i (x : Int), none] [] (q_mk d b) (q_i (s_step s i x n : Int), q_mk d b) := by
  have hp : 2 ^ (i - 1) ≤ 2 ^ 7 := Nat.pow_le_pow_right (by decide) (by omega)
  have hw : s_wo s i < 256 := s_wo_lt hs
  have hd : q_dif x (s_wo s i) < 256 := q_dif_lt (k := 8) hx
  have e1 : q_and (x : Int) (q_xor (q_and (s : Int) (q_xor ((2 ^ (i - 1) : Nat) : Int) (-1))) (-1)) = ((q_dif x (s_wo s i) : Nat) : Int) := by
    rw [q_andn_nat (by omega) (by omega)]
    exact q_andn_nat (by omega) (show q_dif s (2 ^ (i - 1)) < 2 ^ 31 by exact Nat.lt_trans (show q_dif s (2 ^ (i - 1)) < 256 from hw) (by decide))
  have hl33 : ∀ y : Nat, y < 256 → s_least y ≤ 33 := by decide +kernel
  have hl := hl33 _ hd
  unfold s_step
  refine e_Re_imageBetween_0 ⟨_, _, c_Se_holds (by omega) h1 (by omega), e_Re_imageBetween_3 ⟨fun h => ⟨_, _, c_Se_only h1 (by omega), ?_⟩, fun h => ?_⟩⟩
  · rw [if_pos (q_b2i_t h)]
    have k := c_Se_least hd (d := d) (b := b)
    rw [← e1] at k
    refine e_Re_imageBetween_10 ⟨_, _, k, e_Re_imageBetween_17 ⟨fun h3 => e_Re_imageBetween_27 ?_, fun h3 => e_Re_imageBetween_27 ?_⟩⟩
    · rw [if_neg (by omega), e7, q_w_id (by omega) (by omega), Int.natCast_add]
    · rw [if_pos (by omega)]
  · rw [q_b2i_f h, if_neg (by decide)]
theorem c_Re_ckR {n : Nat} {S G : Nat → Nat} (hn : n ≤ 8) {d : qD} {b : Nat} (e7 : d.1 t_Re 0 7 = (n : Int)) (eS : s_row (d.1 t_sets 0) n S) (eG : s_row (d.1 t_begins 0) n G) (hB : ∀ j, 1 ≤ j → j ≤ n → S j < 256 ∧ G j ≤ 160) {r : Option qV × qW} : ∀ (f i : Nat), i + f = n + 1 → 1 ≤ i → (∀ c, s_ckR n S G f i = some c → r = (q_i (c : Int), q_mk d b)) → (s_ckR n S G f i = none → q_Ev m_Re_faultOfSets 36 [q_r t_Re 0, q_i 2, none] [] (q_mk d b) r) → q_Ev m_Re_faultOfSets 2 [q_r t_Re 0, q_i (i : Int), none] [] (q_mk d b) r
  | 0, i, hf, h1, _, k2 => e_Re_faultOfSets_2 ⟨fun _ => k2 rfl, fun hh => by rw [e7] at hh; omega⟩
  | f + 1, i, hf, h1, k1, k2 => by
    unfold s_ckR at k1 k2
    have hBi := hB i h1 (by omega)
    have hp := s_p8 hn
    have h31 : 2 ^ n - 1 < 2 ^ 32 := by omega
    have ea : q_and (S i : Int) ((2 ^ n - 1 : Nat) : Int) = ((S i &&& (2 ^ n - 1) : Nat) : Int) := q_and_nat (by omega) h31
    have hal : S i &&& (2 ^ n - 1) < 256 := Nat.lt_of_le_of_lt Nat.and_le_left hBi.1
    refine e_Re_faultOfSets_2 ⟨fun hh => by rw [e7] at hh; omega, fun _ => ⟨by omega, by omega, q_i ((2 ^ n - 1 : Nat) : Int), q_mk d b, by rw [e7]; exact c_Se_upTo (by omega), ?_⟩⟩
    rw [Int.toNat_natCast, eS i h1 (by omega)]
    refine e_Re_faultOfSets_13 ⟨by omega, by omega, ?_⟩
    rw [Int.toNat_natCast, eS i h1 (by omega), ea, eG i h1 (by omega)]
    refine ⟨fun hh => ?_, fun hh => ⟨by omega, by omega, _, _, c_J_bitCount hal, e_Re_faultOfSets_28 ?_⟩⟩
    · rw [if_pos (by omega)] at k1 k2
      rw [q_wS (by omega)]
      exact c_Re_ckR hn e7 eS eG hB f (i + 1) (by omega) (by omega) k1 k2
    · rw [if_neg (by omega)] at k1
      have hpc := q_pc_le (S i &&& (2 ^ n - 1))
      rw [k1 _ rfl, show q_w ((G i : Int) + (q_pc (S i &&& (2 ^ n - 1)) : Int)) = ((G i + q_pc (S i &&& (2 ^ n - 1)) : Nat) : Int) by rw [q_w_id (by omega) (by omega)]; omega]
      exact ⟨_, _, c_Re_fault (k := 2) (by omega) (by omega), e_Re_faultOfSets_31 rfl⟩
theorem c_Re_laysF {n : Nat} {S : Nat → Nat} (hn : n ≤ 8) (h2 : 2 ≤ n) (hB : ∀ j, 1 ≤ j → j ≤ n → S j < 256) {b : Nat} : ∀ (f i : Nat) (d : qD), i + f = n + 1 → 1 ≤ i → d.1 t_Re 0 7 = (n : Int) → s_row (d.1 t_sets 0) n S → (∀ k, 1 ≤ k → k < i → d.1 t_reImg 0 k = (s_step (S k) k (S (k % n + 1)) n : Int)) → ∃ d', q_Ev m_Re_faultOfSets 89 [q_r t_Re 0, q_i (i : Int), none] [] (q_mk d b) (q_i 0, q_mk d' b) ∧ q_ag [t_reImg] d d' ∧ s_row (d'.1 t_reImg 0) n (fun i => s_step (S i) i (S (i % n + 1)) n)
  | 0, i, d, hf, h1, e7, eS, eI => ⟨d, e_Re_faultOfSets_89 ⟨fun _ => rfl, fun hh => by rw [e7] at hh; omega⟩, q_ag_refl _ _, fun k k1 k2 => eI k k1 (by omega)⟩
  | f + 1, i, d, hf, h1, e7, eS, eI => by
    have hm := Nat.mod_lt i (show n > 0 by omega)
    have nx : i % n + 1 = if i < n then i + 1 else 1 := by
      by_cases hq : i < n
      · rw [if_pos hq, Nat.mod_eq_of_lt hq]
      · rw [if_neg hq, show i = n by omega, Nat.mod_self]
    obtain ⟨d', v, a, r⟩ := c_Re_laysF hn h2 hB (b := b) f (i + 1) (q_sI d t_reImg 0 i (s_step (S i) i (S (i % n + 1)) n : Int)) (by omega) (by omega) (by rw [q_sI_ne _ _ (by decide)]; exact e7) (by rw [q_sI_ne _ _ (by decide)]; exact eS) (fun k k1 k2 => by
      rw [q_sI_at]
      by_cases hq : k = i
      · subst hq; rw [q_up_at]
      · rw [q_up_ne _ _ hq]; exact eI k k1 (by omega))
    have k113 : q_Ev m_Re_faultOfSets 113 [q_r t_Re 0, q_i (i : Int), none] [.inl ((i % n + 1 : Nat) : Int), .inr (.inr (t_sets, 0)), .inl (i : Int), .inl (S i : Int), .inr (.inr (t_Re, 0)), .inl (i : Int), .inr (.inr (t_reImg, 0))] (q_mk d b) (q_i 0, q_mk d' b) := by
      refine e_Re_faultOfSets_113 ⟨by omega, by omega, ?_⟩
      rw [Int.toNat_natCast, eS (i % n + 1) (by omega) (by omega)]
      refine ⟨_, _, c_Re_imageBetween (hB i h1 (by omega)) (hB _ (by omega) (by omega)) h1 (by omega) hn e7, e_Re_faultOfSets_115 ⟨by omega, by omega, ?_⟩⟩
      rw [Int.toNat_natCast, q_wS (by omega)]
      exact v
    refine ⟨d', e_Re_faultOfSets_89 ⟨fun hh => by rw [e7] at hh; omega, fun _ => ⟨by omega, by omega, ?_⟩⟩, q_ag_tr (q_ag_sI (by decide)) a, r⟩
    rw [Int.toNat_natCast, eS i h1 (by omega), e7]
    refine ⟨fun hh => ?_, fun hh => ?_⟩
    · rw [nx, if_neg (by omega)] at k113; exact k113
    · rw [nx, if_pos (by omega)] at k113
      rw [q_wS (by omega)]; exact k113
