/-! reading numbers: what is wrong with them; the class whole -/
theorem s_and1 : ∀ t : Nat, t < 256 → ∀ k : Nat, k < 8 → (q_and (t : Int) ((2 ^ k : Nat) : Int) = 0 ↔ t.testBit k = false) := by decide +kernel
theorem c_Re_ck1 {n : Nat} {F G : Nat → Nat} (hn : n ≤ 8) {d : qD} {b : Nat} (e7 : d.1 t_Re 0 7 = (n : Int)) (eF : s_row (d.1 t_reImg 0) n F) (eG : s_row (d.1 t_begins 0) n G) (hB : ∀ j, 1 ≤ j → j ≤ n → G j ≤ 160) {r : Option qV × qW} : ∀ (f i : Nat), i + f = n + 1 → 1 ≤ i → (∀ c, s_ck1 F G f i = some c → r = (q_i (c : Int), q_mk d b)) → (s_ck1 F G f i = none → q_Ev m_Re_faultOfNumbers 31 [q_r t_Re 0, q_i 0, q_i 1, none] [] (q_mk d b) r) → q_Ev m_Re_faultOfNumbers 2 [q_r t_Re 0, q_i (i : Int), none, none] [] (q_mk d b) r
  | 0, i, hf, h1, _, k2 => e_Re_faultOfNumbers_2 ⟨fun _ => k2 rfl, fun hh => by rw [e7] at hh; omega⟩
  | f + 1, i, hf, h1, k1, k2 => by
    unfold s_ck1 at k1 k2
    have bad : F i = 0 ∨ 16 < F i → q_Ev m_Re_faultOfNumbers 17 [q_r t_Re 0, q_i (i : Int), none, none] [] (q_mk d b) r := by
      intro h
      rw [if_pos h] at k1
      rw [k1 _ rfl]
      refine e_Re_faultOfNumbers_17 ⟨by omega, by omega, ?_⟩
      rw [Int.toNat_natCast, eG i h1 (by omega)]
      exact ⟨_, _, c_Re_fault (k := 2) (by have := hB i h1 (by omega); omega) (by omega), e_Re_faultOfNumbers_24 rfl⟩
    refine e_Re_faultOfNumbers_2 ⟨fun hh => by rw [e7] at hh; omega, fun _ => ⟨by omega, by omega, ?_⟩⟩
    rw [Int.toNat_natCast, eF i h1 (by omega)]
    refine ⟨fun hh => bad (by omega), fun h0 => ⟨by omega, by omega, fun h16 => ?_, fun hh => bad (by omega)⟩⟩
    rw [if_neg (by omega)] at k1 k2
    rw [q_wS (by omega)]
    exact c_Re_ck1 hn e7 eF eG hB f (i + 1) (by omega) (by omega) k1 k2
theorem c_Re_ck2 {n : Nat} {F G : Nat → Nat} (hn : n ≤ 8) {d : qD} {b : Nat} (e7 : d.1 t_Re 0 7 = (n : Int)) (eF : s_row (d.1 t_reImg 0) n F) (eG : s_row (d.1 t_begins 0) n G) (hB : ∀ j, 1 ≤ j → j ≤ n → G j ≤ 160) {r : Option qV × qW} : ∀ (f i t : Nat), i + f = n + 1 → 1 ≤ i → t < 256 → (∀ l, 1 ≤ l → l ≤ 8 → (q_hl t l = true ↔ ∃ j, 1 ≤ j ∧ j < i ∧ s_tg n (F j) = l)) → (∀ c, s_ck2 n F G f i = some c → r = (q_i (c : Int), q_mk d b)) → (s_ck2 n F G f i = none → r = (q_i 0, q_mk d b)) → q_Ev m_Re_faultOfNumbers 31 [q_r t_Re 0, q_i (t : Int), q_i (i : Int), none] [] (q_mk d b) r
  | 0, i, t, hf, h1, ht, eT, _, k2 => e_Re_faultOfNumbers_31 ⟨fun _ => k2 rfl, fun hh => by rw [e7] at hh; omega⟩
  | f + 1, i, t, hf, h1, ht, eT, k1, k2 => by
    unfold s_ck2 at k1 k2
    have eFi := eF i h1 (by omega)
    have eGi := eG i h1 (by omega)
    have hGi := hB i h1 (by omega)
    have bad : F i < i ∨ i + n < F i ∨ s_like n F i = true → q_Ev m_Re_faultOfNumbers 50 [q_r t_Re 0, none, q_i (i : Int), none] [] (q_mk d b) r := by
      intro h
      rw [if_pos h] at k1
      rw [k1 _ rfl]
      refine e_Re_faultOfNumbers_50 ⟨by omega, by omega, ?_⟩
      rw [Int.toNat_natCast, eGi]
      exact ⟨_, _, c_Re_fault (k := 3) (by omega) (by omega), e_Re_faultOfNumbers_57 rfl⟩
    have ew : q_w ((i : Int) + (n : Int)) = ((i + n : Nat) : Int) := by rw [q_w_id (by omega) (by omega)]; omega
    have good : i ≤ F i → F i ≤ i + n → q_Ev m_Re_faultOfNumbers 77 [q_r t_Re 0, q_i (t : Int), q_i (i : Int), none] [.inl (s_tg n (F i) : Int)] (q_mk d b) r := by
      intro g1 g2
      have ht1 : 1 ≤ s_tg n (F i) ∧ s_tg n (F i) ≤ n := by unfold s_tg; split <;> omega
      have ha := s_and1 t ht (s_tg n (F i) - 1) (by omega)
      have hq : q_hl t (s_tg n (F i)) = t.testBit (s_tg n (F i) - 1) := rfl
      refine e_Re_faultOfNumbers_77 ⟨_, _, c_Se_only ht1.1 (by omega), e_Re_faultOfNumbers_78 ⟨fun h0 => ?_, fun h0 => ?_⟩⟩
      · have hno : ¬ s_like n F i = true := by
          intro hc
          obtain ⟨j, j1, j2, j3⟩ := s_like_iff.mp hc
          have := (eT _ ht1.1 (by omega)).mpr ⟨j, j1, j2, j3⟩
          rw [hq, ha.mp h0] at this
          exact absurd this (by decide)
        rw [if_neg (by rintro (hc | hc | hc); omega; omega; exact hno hc)] at k1 k2
        have p2 : 2 ^ (s_tg n (F i) - 1) ≤ 2 ^ 7 := Nat.pow_le_pow_right (by decide) (by omega)
        rw [q_or_nat (by omega) (by omega), q_wS (by omega)]
        refine c_Re_ck2 hn e7 eF eG hB f (i + 1) (s_with t (s_tg n (F i))) (by omega) (by omega) (s_with_ltn (n := 8) ht ht1.1 (by omega)) (fun l l1 l2 => ?_) k1 k2
        rw [s_with_hl ht1.1 l1, Bool.or_eq_true, eT l l1 l2, decide_eq_true_eq]
        constructor
        · rintro (⟨j, j1, j2, j3⟩ | h)
          · exact ⟨j, j1, by omega, j3⟩
          · exact ⟨i, h1, by omega, h.symm⟩
        · rintro ⟨j, j1, j2, j3⟩
          by_cases hj : j = i
          · subst hj; exact Or.inr j3.symm
          · exact Or.inl ⟨j, j1, by omega, j3⟩
      · have hl : q_hl t (s_tg n (F i)) = true := by
          cases hb : q_hl t (s_tg n (F i)) with
          | true => rfl
          | false => rw [hq] at hb; exact absurd (ha.mpr hb) h0
        rw [if_pos (Or.inr (Or.inr (s_like_iff.mpr ((eT _ ht1.1 (by omega)).mp hl))))] at k1
        rw [k1 _ rfl]
        refine ⟨by omega, by omega, ?_⟩
        rw [Int.toNat_natCast, eGi]
        exact ⟨_, _, c_Re_fault (k := 3) (by omega) (by omega), e_Re_faultOfNumbers_90 rfl⟩
    refine e_Re_faultOfNumbers_31 ⟨fun hh => by rw [e7] at hh; omega, fun _ => ⟨by omega, by omega, ?_⟩⟩
    rw [Int.toNat_natCast, eFi, e7, ew]
    refine ⟨fun hh => bad (by omega), fun g1 => ⟨by omega, by omega, fun g2 => ⟨by omega, by omega, fun g3 => ⟨by omega, by omega, ?_⟩, fun g3 => ⟨by omega, by omega, ?_⟩⟩, fun hh => bad (by omega)⟩⟩
    · have := good (by omega) (by omega)
      unfold s_tg at this
      rw [if_neg (by omega)] at this
      exact this
    · have := good (by omega) (by omega)
      unfold s_tg at this
      rw [if_pos (by omega)] at this
      rw [q_wD (by omega) (by omega)]
      exact this
theorem s_ck2_ok {n : Nat} {F G : Nat → Nat} : ∀ (f i : Nat), i + f = n + 1 → 1 ≤ i → s_ck2 n F G f i = none → ∀ j, i ≤ j → j ≤ n → j ≤ F j ∧ F j ≤ j + n ∧ ∀ k, 1 ≤ k → k < j → s_tg n (F k) ≠ s_tg n (F j)
  | 0, i, hf, h1, _, j, j1, j2 => by omega
  | f + 1, i, hf, h1, h, j, j1, j2 => by
    unfold s_ck2 at h
    by_cases hc : F i < i ∨ i + n < F i ∨ s_like n F i = true
    · rw [if_pos hc] at h; exact absurd h (by simp)
    · rw [if_neg hc] at h
      by_cases hj : j = i
      · subst hj
        refine ⟨by omega, by omega, fun k k1 k2 k3 => hc (Or.inr (Or.inr (s_like_iff.mpr ⟨k, k1, k2, k3⟩)))⟩
      · exact s_ck2_ok f (i + 1) (by omega) (by omega) h j (by omega) j2
theorem s_ck1_c {F G : Nat → Nat} {B : Nat} {n : Nat} (hB : ∀ j, 1 ≤ j → j ≤ n → G j ≤ B) : ∀ (f i c : Nat), i + f = n + 1 → 1 ≤ i → s_ck1 F G f i = some c → 1 ≤ c ∧ c ≤ 8 * B + 2
  | 0, i, c, _, _, h => by exact absurd h (by simp [s_ck1])
  | f + 1, i, c, hf, h1, h => by
    unfold s_ck1 at h
    by_cases hc : F i = 0 ∨ 16 < F i
    · rw [if_pos hc] at h
      have := hB i h1 (by omega)
      injection h with h
      omega
    · rw [if_neg hc] at h; exact s_ck1_c hB f (i + 1) c (by omega) (by omega) h
theorem s_ck2_c {F G : Nat → Nat} {B : Nat} {n : Nat} (hB : ∀ j, 1 ≤ j → j ≤ n → G j ≤ B) : ∀ (f i c : Nat), i + f = n + 1 → 1 ≤ i → s_ck2 n F G f i = some c → 1 ≤ c ∧ c ≤ 8 * B + 3
  | 0, i, c, _, _, h => by exact absurd h (by simp [s_ck2])
  | f + 1, i, c, hf, h1, h => by
    unfold s_ck2 at h
    by_cases hc : F i < i ∨ i + n < F i ∨ s_like n F i = true
    · rw [if_pos hc] at h
      have := hB i h1 (by omega)
      injection h with h
      omega
    · rw [if_neg hc] at h; exact s_ck2_c hB f (i + 1) c (by omega) (by omega) h
/-- what reading gives: a fault, or a cell -/
def s_res (o : s_O) (d' : qD) (code : Int) : Prop := match o with
  | .inl c => code = (c : Int) ∧ 1 ≤ c ∧ c < 2000
  | .inr (n, F) => code = 0 ∧ d'.1 t_Re 0 7 = (n : Int) ∧ s_row (d'.1 t_reImg 0) n F ∧ s_ok n F
theorem c_Re_faultOfNumbers {n : Nat} {F G : Nat → Nat} (h2 : 2 ≤ n) (hn : n ≤ 8) {d : qD} {b : Nat} (e7 : d.1 t_Re 0 7 = (n : Int)) (eF : s_row (d.1 t_reImg 0) n F) (eG : s_row (d.1 t_begins 0) n G) (hB : ∀ j, 1 ≤ j → j ≤ n → G j ≤ 160) : ∃ code : Int, q_Ev m_Re_faultOfNumbers 0 [q_r t_Re 0, none, none, none] [] (q_mk d b) (q_i code, q_mk d b) ∧ s_res (s_fin n F G) d code := by
  unfold s_fin
  cases h1 : s_ck1 F G n 1 with
  | some c =>
    have hc := s_ck1_c hB n 1 c (by omega) (by omega) h1
    refine ⟨(c : Int), e_Re_faultOfNumbers_0 (c_Re_ck1 hn e7 eF eG hB n 1 (by omega) (by omega) (fun c' hc' => ?_) (fun hc' => ?_)), rfl, hc.1, by omega⟩
    · rw [h1] at hc'; injection hc' with hc'; rw [hc']
    · rw [h1] at hc'; exact absurd hc' (by simp)
  | none =>
    dsimp only
    cases h3 : s_ck2 n F G n 1 with
    | some c =>
      have hc := s_ck2_c hB n 1 c (by omega) (by omega) h3
      refine ⟨(c : Int), e_Re_faultOfNumbers_0 (c_Re_ck1 hn e7 eF eG hB n 1 (by omega) (by omega) (fun c' hc' => ?_) (fun _ => c_Re_ck2 hn e7 eF eG hB n 1 0 (by omega) (by omega) (by decide) (fun l l1 l2 => ?_) (fun c' hc' => ?_) (fun hc' => ?_))), rfl, hc.1, by omega⟩
      · rw [h1] at hc'; exact absurd hc' (by simp)
      · rw [show q_hl 0 l = false from Nat.zero_testBit _]
        exact ⟨fun hh => absurd hh (by decide), fun ⟨j, j1, j2, _⟩ => by omega⟩
      · rw [h3] at hc'; injection hc' with hc'; rw [hc']
      · rw [h3] at hc'; exact absurd hc' (by simp)
    | none =>
      have hk := s_ck2_ok n 1 (by omega) (by omega) h3
      refine ⟨0, e_Re_faultOfNumbers_0 (c_Re_ck1 hn e7 eF eG hB n 1 (by omega) (by omega) (fun c' hc' => ?_) (fun _ => c_Re_ck2 hn e7 eF eG hB n 1 0 (by omega) (by omega) (by decide) (fun l l1 l2 => ?_) (fun c' hc' => ?_) (fun _ => rfl))), rfl, e7, eF, h2, hn, fun i i1 i2 => ⟨(hk i i1 i2).1, (hk i i1 i2).2.1⟩, fun i j i1 ij jn => (hk j (by omega) jn).2.2 i i1 ij⟩
      · rw [h1] at hc'; exact absurd hc' (by simp)
      · rw [show q_hl 0 l = false from Nat.zero_testBit _]
        exact ⟨fun hh => absurd hh (by decide), fun ⟨j, j1, j2, _⟩ => by omega⟩
      · rw [h3] at hc'; exact absurd hc' (by simp)
theorem c_Re_readNumbers {sz p : Nat} {V : Nat → Int} (hz : sz ≤ 160) (hp : p ≤ sz) {d : qD} {b : Nat} (e : s_Tp sz V d) (e4 : d.1 t_Re 0 4 = (p : Int)) : ∃ d' code, q_Ev m_Re_readNumbers 0 [q_r t_Re 0] [] (q_mk d b) (q_i code, q_mk d' b) ∧ q_ag s_TR d d' ∧ s_res (s_perm sz V p) d' code := by
  obtain ⟨d', a, hm⟩ := c_Re_numsGo (V := V) hz (b := b) 9 0 p (fun _ => 0) (fun _ => 0) (q_sI d t_Re 0 7 0) rfl (by omega) hp ⟨by rw [q_sI_ne _ _ (by decide)]; exact e.1, fun j hj => by rw [q_sI_ne _ _ (by decide)]; exact e.2 j hj⟩ (by rw [q_sI_at, q_up_ne _ _ (by decide)]; exact e4) (by rw [q_sI_at, q_up_at]; rfl) (fun j j1 j2 => by omega) (fun j j1 j2 => by omega) (fun j j1 j2 => by omega)
  have a' := q_ag_tr (q_ag_sI (S := s_TR) (d := d) (t := t_Re) (i := 0) (k := 7) (v := 0) (by decide)) a
  unfold s_perm
  cases hrp : s_rp sz V 9 0 p (fun _ => 0) (fun _ => 0) with
  | inl c =>
    rw [hrp] at hm
    exact ⟨d', (c : Int), e_Re_readNumbers_0 hm.1, a', rfl, hm.2.1, hm.2.2⟩
  | inr o =>
    obtain ⟨n, F, G⟩ := o
    rw [hrp] at hm
    obtain ⟨h2, hn, e7, eF, eG, hB, k⟩ := hm
    obtain ⟨code, v, hr⟩ := c_Re_faultOfNumbers (b := b) h2 hn e7 eF eG (fun j j1 j2 => by have := (hB j j1 j2).2; omega)
    exact ⟨d', code, e_Re_readNumbers_0 (k _ _ _ v (e_Re_readNumbers_47 rfl)), a', hr⟩
