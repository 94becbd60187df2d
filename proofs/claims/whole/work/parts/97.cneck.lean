/-! reading sets: the class's answer -/
theorem c_Re_ckB {n : Nat} {S G : Nat → Nat} (h2 : 2 ≤ n) (hn : n ≤ 8) {d : qD} {b : Nat} (e7 : d.1 t_Re 0 7 = (n : Int)) (eS : s_row (d.1 t_sets 0) n S) (eG : s_row (d.1 t_begins 0) n G) (hB : ∀ j, 1 ≤ j → j ≤ n → S j < 256 ∧ G j ≤ 160) {r : Option qV × qW} : ∀ (f i : Nat), i + f = n + 1 → 2 ≤ i → (∀ c, s_ckB S G f i = some c → r = (q_i (c : Int), q_mk d b)) → (s_ckB S G f i = none → s_behind (S n) n (S 1) = false → r = (q_i ((8 * G n + 3 : Nat) : Int), q_mk d b)) → (s_ckB S G f i = none → s_behind (S n) n (S 1) = true → q_Ev m_Re_faultOfSets 89 [q_r t_Re 0, q_i 1, none] [] (q_mk d b) r) → q_Ev m_Re_faultOfSets 36 [q_r t_Re 0, q_i (i : Int), none] [] (q_mk d b) r
  | 0, i, hf, h1, _, k2, k3 => by
    have hBn := hB n (by omega) (Nat.le_refl n)
    have hB1 := hB 1 (by omega) (by omega)
    refine e_Re_faultOfSets_36 ⟨fun _ => ?_, fun hh => by rw [e7] at hh; omega⟩
    rw [e7, Int.toNat_natCast, show (1 : Int).toNat = 1 from rfl, eS n (by omega) (Nat.le_refl n), eS 1 (by omega) (by omega)]
    refine ⟨by omega, by omega, by decide, by decide, _, _, c_Se_canStandBehind hBn.1 hB1.1 (by omega) hn, e_Re_faultOfSets_77 ⟨fun hh => k3 rfl (q_b2i_t hh), fun hh => ?_⟩⟩
    rw [k2 rfl (q_b2i_f hh), e7, Int.toNat_natCast, eG n (by omega) (Nat.le_refl n)]
    exact ⟨by omega, by omega, _, _, c_Re_fault (k := 3) (by omega) (by omega), e_Re_faultOfSets_86 rfl⟩
  | f + 1, i, hf, h1, k1, k2, k3 => by
    unfold s_ckB at k1 k2 k3
    have hBi := hB i (by omega) (by omega)
    have hBp := hB (i - 1) (by omega) (by omega)
    have ew : q_w ((i : Int) - 1) = ((i - 1 : Nat) : Int) := by
      rw [show (i : Int) - 1 = (i : Int) - ((1 : Nat) : Int) by omega, q_wD (by omega) (by omega)]
    refine e_Re_faultOfSets_36 ⟨fun hh => by rw [e7] at hh; omega, fun _ => ?_⟩
    rw [ew, Int.toNat_natCast, Int.toNat_natCast, eS i (by omega) (by omega), eS (i - 1) (by omega) (by omega)]
    refine ⟨by omega, by omega, by omega, by omega, _, _, c_Se_canStandBehind hBp.1 hBi.1 (by omega) (by omega), e_Re_faultOfSets_54 ⟨fun hh => ?_, fun hh => ?_⟩⟩
    · rw [if_pos (q_b2i_t hh)] at k1 k2 k3
      rw [q_wS (by omega)]
      exact c_Re_ckB h2 hn e7 eS eG hB f (i + 1) (by omega) (by omega) k1 k2 k3
    · rw [if_neg (by rw [q_b2i_f hh]; decide)] at k1
      rw [k1 _ rfl, Int.toNat_natCast, eG i (by omega) (by omega)]
      exact ⟨by omega, by omega, _, _, c_Re_fault (k := 3) (by omega) (by omega), e_Re_faultOfSets_62 rfl⟩
theorem s_ckR_c {n : Nat} {S G : Nat → Nat} {B : Nat} (hB : ∀ j, 1 ≤ j → j ≤ n → G j ≤ B) : ∀ (f i c : Nat), i + f = n + 1 → 1 ≤ i → s_ckR n S G f i = some c → 1 ≤ c ∧ c ≤ 8 * B + 66
  | 0, i, c, _, _, h => by exact absurd h (by simp [s_ckR])
  | f + 1, i, c, hf, h1, h => by
    unfold s_ckR at h
    by_cases hc : S i &&& (2 ^ n - 1) = S i
    · rw [if_pos hc] at h; exact s_ckR_c hB f (i + 1) c (by omega) (by omega) h
    · rw [if_neg hc] at h
      have := hB i h1 (by omega)
      have := q_pc_le (S i &&& (2 ^ n - 1))
      injection h with h
      omega
theorem s_ckR_n {n : Nat} {S G : Nat → Nat} : ∀ (f i : Nat), i + f = n + 1 → 1 ≤ i → s_ckR n S G f i = none → ∀ j, i ≤ j → j ≤ n → S j < 2 ^ n
  | 0, i, _, _, _, j, j1, j2 => by omega
  | f + 1, i, hf, h1, h, j, j1, j2 => by
    unfold s_ckR at h
    by_cases hc : S i &&& (2 ^ n - 1) = S i
    · rw [if_pos hc] at h
      by_cases hj : j = i
      · subst hj
        have h3 : S j &&& (2 ^ n - 1) ≤ 2 ^ n - 1 := Nat.and_le_right
        have h4 := Nat.two_pow_pos n
        omega
      · exact s_ckR_n f (i + 1) (by omega) (by omega) h j (by omega) j2
    · rw [if_neg hc] at h; exact absurd h (by simp)
theorem s_ckB_c {n : Nat} {S G : Nat → Nat} {B : Nat} (hB : ∀ j, 1 ≤ j → j ≤ n → G j ≤ B) : ∀ (f i c : Nat), i + f = n + 1 → 1 ≤ i → s_ckB S G f i = some c → 1 ≤ c ∧ c ≤ 8 * B + 3
  | 0, i, c, _, _, h => by exact absurd h (by simp [s_ckB])
  | f + 1, i, c, hf, h1, h => by
    unfold s_ckB at h
    by_cases hc : s_behind (S (i - 1)) (i - 1) (S i) = true
    · rw [if_pos hc] at h; exact s_ckB_c hB f (i + 1) c (by omega) (by omega) h
    · rw [if_neg hc] at h
      have := hB i h1 (by omega)
      injection h with h
      omega
theorem s_ckB_n {n : Nat} {S G : Nat → Nat} : ∀ (f i : Nat), i + f = n + 1 → 2 ≤ i → s_ckB S G f i = none → ∀ j, i - 1 ≤ j → j < n → s_behind (S j) j (S (j % n + 1)) = true
  | 0, i, _, _, _, j, j1, j2 => by omega
  | f + 1, i, hf, h1, h, j, j1, j2 => by
    unfold s_ckB at h
    by_cases hc : s_behind (S (i - 1)) (i - 1) (S i) = true
    · rw [if_pos hc] at h
      by_cases hj : j = i - 1
      · subst hj
        rw [Nat.mod_eq_of_lt j2, show i - 1 + 1 = i by omega]
        exact hc
      · exact s_ckB_n f (i + 1) (by omega) (by omega) h j (by omega) j2
    · rw [if_neg hc] at h; exact absurd h (by simp)
theorem s_all_behind {n : Nat} {S G : Nat → Nat} (h2 : 2 ≤ n) (h : s_ckB S G (n - 1) 2 = none) (hl : s_behind (S n) n (S 1) = true) (i : Nat) (h1 : 1 ≤ i) (hi : i ≤ n) : s_behind (S i) i (S (i % n + 1)) = true := by
  by_cases hq : i = n
  · rw [hq, Nat.mod_self]; exact hl
  · exact s_ckB_n (n - 1) 2 (by omega) (Nat.le_refl 2) h i (by omega) (by omega)
theorem c_Re_faultOfSets {n : Nat} {S G : Nat → Nat} (h2 : 2 ≤ n) (hn : n ≤ 8) {d : qD} {b : Nat} (e7 : d.1 t_Re 0 7 = (n : Int)) (eS : s_row (d.1 t_sets 0) n S) (eG : s_row (d.1 t_begins 0) n G) (hB : ∀ j, 1 ≤ j → j ≤ n → S j < 256 ∧ G j ≤ 160) : ∃ d' code, q_Ev m_Re_faultOfSets 0 [q_r t_Re 0, none, none] [] (q_mk d b) (q_i code, q_mk d' b) ∧ q_ag [t_reImg] d d' ∧ s_res (s_finN n S G) d' code := by
  unfold s_finN
  cases h1 : s_ckR n S G n 1 with
  | some c =>
    have hc := s_ckR_c (fun j j1 j2 => (hB j j1 j2).2) n 1 c (by omega) (by omega) h1
    refine ⟨d, (c : Int), e_Re_faultOfSets_0 (c_Re_ckR hn e7 eS eG hB n 1 (by omega) (by omega) (fun c' hc' => ?_) (fun hc' => ?_)), q_ag_refl _ _, rfl, hc.1, by omega⟩
    · rw [h1] at hc'; injection hc' with hc'; rw [hc']
    · rw [h1] at hc'; exact absurd hc' (by simp)
  | none =>
    have hS := fun j j1 j2 => s_ckR_n n 1 (by omega) (by omega) h1 j j1 j2
    have go : ∀ r, q_Ev m_Re_faultOfSets 36 [q_r t_Re 0, q_i 2, none] [] (q_mk d b) r → q_Ev m_Re_faultOfSets 0 [q_r t_Re 0, none, none] [] (q_mk d b) r := by
      intro r hr
      refine e_Re_faultOfSets_0 (c_Re_ckR hn e7 eS eG hB n 1 (by omega) (by omega) (fun c' hc' => ?_) (fun _ => hr))
      rw [h1] at hc'; exact absurd hc' (by simp)
    dsimp only
    cases h3 : s_ckB S G (n - 1) 2 with
    | some c =>
      have hc := s_ckB_c (fun j j1 j2 => (hB j j1 j2).2) (n - 1) 2 c (by omega) (by omega) h3
      refine ⟨d, (c : Int), go _ (c_Re_ckB h2 hn e7 eS eG hB (n - 1) 2 (by omega) (by omega) (fun c' hc' => ?_) (fun hc' => ?_) (fun hc' => ?_)), q_ag_refl _ _, rfl, hc.1, by omega⟩
      · rw [h3] at hc'; injection hc' with hc'; rw [hc']
      · rw [h3] at hc'; exact absurd hc' (by simp)
      · rw [h3] at hc'; exact absurd hc' (by simp)
    | none =>
      dsimp only
      have hGn := (hB n (by omega) (Nat.le_refl n)).2
      by_cases hl : s_behind (S n) n (S 1) = true
      · rw [if_pos hl]
        obtain ⟨d', v, a, r⟩ := c_Re_laysF hn h2 (fun j j1 j2 => (hB j j1 j2).1) (b := b) n 1 d (by omega) (by omega) e7 eS (fun k k1 k2 => by omega)
        refine ⟨d', 0, go _ (c_Re_ckB h2 hn e7 eS eG hB (n - 1) 2 (by omega) (by omega) (fun c' hc' => ?_) (fun _ hc' => ?_) (fun _ _ => v)), a, rfl, by rw [a.1 t_Re (by decide)]; exact e7, r, s_sets_ok h2 hn hS (s_all_behind h2 h3 hl)⟩
        · rw [h3] at hc'; exact absurd hc' (by simp)
        · rw [hl] at hc'; exact absurd hc' (by decide)
      · rw [if_neg hl]
        refine ⟨d, ((8 * G n + 3 : Nat) : Int), go _ (c_Re_ckB h2 hn e7 eS eG hB (n - 1) 2 (by omega) (by omega) (fun c' hc' => ?_) (fun _ _ => rfl) (fun _ hc' => absurd hc' hl)), q_ag_refl _ _, rfl, by omega, by omega⟩
        rw [h3] at hc'; exact absurd hc' (by simp)
theorem c_Re_readSets {sz p : Nat} {V : Nat → Int} (hz : sz ≤ 160) (hp : p ≤ sz) {d : qD} {b : Nat} (e : s_Tp sz V d) (e4 : d.1 t_Re 0 4 = (p : Int)) (e5 : d.1 t_Re 0 5 = 0) : ∃ d' code, q_Ev m_Re_readSets 0 [q_r t_Re 0] [] (q_mk d b) (q_i code, q_mk d' b) ∧ q_ag s_TSS d d' ∧ s_res (s_neckO sz V p) d' code := by
  obtain ⟨d', a, hm⟩ := c_Re_setsGo (V := V) hz (b := b) 9 0 p 0 (fun _ => 0) (fun _ => 0) (q_sI d t_Re 0 7 0) rfl (by omega) hp (by omega) ⟨by rw [q_sI_ne _ _ (by decide)]; exact e.1, fun j hj => by rw [q_sI_ne _ _ (by decide)]; exact e.2 j hj⟩ (by rw [q_sI_at, q_up_ne _ _ (by decide)]; exact e4) (by rw [q_sI_at, q_up_at]; rfl) (by rw [q_sI_at, q_up_ne _ _ (by decide)]; exact e5) (fun j j1 j2 => by omega) (fun j j1 j2 => by omega) (fun j j1 j2 => by omega)
  have a' := q_ag_tr (q_ag_sI (S := s_TSS) (d := d) (t := t_Re) (i := 0) (k := 7) (v := 0) (by decide)) a
  unfold s_neckO
  cases hrp : s_rsets sz V 9 0 p 0 (fun _ => 0) (fun _ => 0) with
  | inl c =>
    rw [hrp] at hm
    exact ⟨d', (c : Int), e_Re_readSets_0 hm.1, a', rfl, hm.2.1, hm.2.2⟩
  | inr o =>
    obtain ⟨n, S, G⟩ := o
    rw [hrp] at hm
    obtain ⟨h2, hn, e7, eS, eG, hB, k⟩ := hm
    obtain ⟨d2, code, v, a2, hr⟩ := c_Re_faultOfSets (b := b) h2 hn e7 eS eG (fun j j1 j2 => by have := hB j j1 j2; omega)
    exact ⟨d2, code, e_Re_readSets_0 (k _ _ _ v (e_Re_readSets_47 rfl)), q_ag_tr a' (q_ag_up a2 (by decide)), hr⟩
