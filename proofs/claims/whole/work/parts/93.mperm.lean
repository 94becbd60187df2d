/-! reading numbers: the model whole -/
theorem s_remd8 : ∀ n : Nat, n < 9 → 0 < n → ∀ a : Nat, a < 17 → ∀ c : Nat, c < 17 → (q_rem (q_w ((a : Int) - (c : Int))) (n : Int) = 0 ↔ a % n = c % n) := by decide +kernel
def s_modB (n a c : Nat) : Bool := Nat.beq n 0 || Nat.beq a 0 || Nat.blt (2 * n) a || Nat.beq c 0 || Nat.blt (2 * n) c || (Nat.beq (a % n) (c % n) == Nat.beq (s_tg n a) (s_tg n c))
theorem s_modB_all : ∀ n : Nat, n < 9 → ∀ a : Nat, a < 17 → ∀ c : Nat, c < 17 → s_modB n a c = true := by decide +kernel
theorem s_modtg {n a c : Nat} (hn : n < 9) (h0 : 0 < n) (ha : a < 17) (hc : c < 17) (a1 : 1 ≤ a) (a2 : a ≤ 2 * n) (c1 : 1 ≤ c) (c2 : c ≤ 2 * n) : a % n = c % n ↔ s_tg n a = s_tg n c := by
  have h := s_modB_all n hn a ha c hc
  unfold s_modB at h
  have nb : ∀ x y : Nat, x ≠ y → Nat.beq x y = false := fun x y hne => Bool.eq_false_iff.mpr (fun hh => hne (Nat.eq_of_beq_eq_true hh))
  have nl : ∀ x y : Nat, y ≤ x → Nat.blt x y = false := fun x y hle => Bool.eq_false_iff.mpr (fun hh => by have := Nat.le_of_ble_eq_true hh; omega)
  rw [nb n 0 (by omega), nb a 0 (by omega), nl _ _ a2, nb c 0 (by omega), nl _ _ c2] at h
  simp only [Bool.false_or, beq_iff_eq] at h
  constructor
  · intro hh
    rw [hh, Nat.beq_refl] at h
    exact Nat.eq_of_beq_eq_true h.symm
  · intro hh
    rw [hh, Nat.beq_refl] at h
    exact Nat.eq_of_beq_eq_true h
theorem c_Md_likeGo {n i : Nat} {F : Nat → Nat} (hn : n ≤ 8) (h0 : 0 < n) (hi : i ≤ n) {d : qD} {b : Nat} (e5 : d.1 t_Md 0 5 = (n : Int)) (eF : s_row (d.1 t_mReadF 0) n F) (hF : ∀ j, 1 ≤ j → j ≤ i → j ≤ F j ∧ F j ≤ j + n) : ∀ (f j : Nat), j + f = i → 1 ≤ j → q_Ev m_Md_isLikeAhead 2 [q_r t_Md 0, q_i (i : Int), q_i (j : Int)] [] (q_mk d b) (q_i (q_b2i ((List.range' j f).any (fun j => decide (s_tg n (F j) = s_tg n (F i))))), q_mk d b)
  | 0, j, hf, h1 => e_Md_isLikeAhead_2 ⟨fun _ => ⟨by decide, by decide, rfl⟩, fun hh => by omega⟩
  | f + 1, j, hf, h1 => by
    have bi := hF i (by omega) (Nat.le_refl i)
    have bj := hF j h1 (by omega)
    refine e_Md_isLikeAhead_2 ⟨fun hh => by omega, fun _ => ⟨by omega, by omega, by omega, by omega, by omega, ?_⟩⟩
    rw [Int.toNat_natCast, Int.toNat_natCast, e5, eF i (by omega) hi, eF j h1 (by omega)]
    have hm : F i % n = F j % n ↔ s_tg n (F i) = s_tg n (F j) := s_modtg (by omega) h0 (by omega) (by omega) (by omega) (by omega) (by omega) (by omega)
    have hr := (s_remd8 n (by omega) h0 (F i) (by omega) (F j) (by omega)).trans hm
    rw [List.range'_succ, List.any_cons]
    by_cases hq : s_tg n (F j) = s_tg n (F i)
    · rw [decide_eq_true hq, Bool.true_or]
      exact ⟨fun hh => absurd (hr.mpr hq.symm) hh, fun _ => ⟨by decide, by decide, rfl⟩⟩
    · rw [decide_eq_false hq, Bool.false_or]
      refine ⟨fun _ => ?_, fun hh => absurd (hr.mp hh).symm hq⟩
      rw [q_wS (by omega)]
      exact c_Md_likeGo hn h0 hi e5 eF hF f (j + 1) (by omega) (by omega)
theorem c_Md_ck2 {n : Nat} {F G : Nat → Nat} (hn : n ≤ 8) {d : qD} {b : Nat} (e5 : d.1 t_Md 0 5 = (n : Int)) (eF : s_row (d.1 t_mReadF 0) n F) (eG : s_row (d.1 t_mPlaces 0) n G) (hB : ∀ j, 1 ≤ j → j ≤ n → F j ≤ 999 ∧ G j ≤ 160) {r : Option qV × qW} : ∀ (f i : Nat), i + f = n + 1 → 1 ≤ i → (∀ j, 1 ≤ j → j < i → j ≤ F j ∧ F j ≤ j + n) → (∀ c, s_ck2 n F G f i = some c → r = (q_i 0, q_mk (q_sI d t_Md 0 3 (c : Int)) b)) → (s_ck2 n F G f i = none → r = (q_i 1, q_mk d b)) → q_Ev m_Md_readsPerm 119 [q_r t_Md 0, q_i (i : Int), none] [] (q_mk d b) r
  | 0, i, hf, h1, _, _, k2 => e_Md_readsPerm_119 ⟨fun _ => ⟨by decide, by decide, k2 rfl⟩, fun hh => by rw [e5] at hh; omega⟩
  | f + 1, i, hf, h1, hF, k1, k2 => by
    unfold s_ck2 at k1 k2
    have eFi := eF i h1 (by omega)
    have hBi := hB i h1 (by omega)
    have bad : F i < i ∨ i + n < F i ∨ s_like n F i = true → q_Ev m_Md_readsPerm 141 [q_r t_Md 0, q_i (i : Int), none] [] (q_mk d b) r := by
      intro h
      rw [if_pos h] at k1
      rw [k1 _ rfl]
      refine e_Md_readsPerm_141 ⟨by omega, by omega, ?_⟩
      rw [Int.toNat_natCast, eG i h1 (by omega)]
      exact ⟨_, _, c_Md_fails (k := 3) (by omega) (by omega), e_Md_readsPerm_148 ⟨by decide, by decide, rfl⟩⟩
    have ew : q_w ((i : Int) + (n : Int)) = ((i + n : Nat) : Int) := by rw [q_w_id (by omega) (by omega)]; omega
    refine e_Md_readsPerm_119 ⟨fun hh => by rw [e5] at hh; omega, fun _ => ⟨by omega, by omega, ?_⟩⟩
    rw [Int.toNat_natCast, eFi, e5, ew]
    refine ⟨_, _, c_Md_isIn (q_can_s (by omega) (by omega)) (q_can_s (by omega) (by omega)) (q_can_s (by omega) (by omega)), e_Md_readsPerm_136 ⟨fun hh => bad ?_, fun hh => ?_⟩⟩
    · have := of_decide_eq_false (q_b2i_f hh); omega
    · have hin := of_decide_eq_true (q_b2i_t hh)
      have lk := c_Md_likeGo (i := i) hn (by omega) (by omega) (b := b) e5 eF (fun j j1 j2 => by
        by_cases hq : j = i
        · subst hq; omega
        · exact hF j j1 (by omega)) (i - 1) 1 (by omega) (by omega)
      refine ⟨_, _, e_Md_isLikeAhead_0 lk, e_Md_readsPerm_140 ⟨fun h3 => ?_, fun h3 => bad (Or.inr (Or.inr (q_b2i_t h3)))⟩⟩
      have hno : s_like n F i = false := q_b2i_f h3
      rw [if_neg (by rintro (hc | hc | hc); omega; omega; rw [hno] at hc; exact absurd hc (by decide))] at k1 k2
      rw [q_wS (by omega)]
      exact c_Md_ck2 hn e5 eF eG hB f (i + 1) (by omega) (by omega) (fun j j1 j2 => by
        by_cases hq : j = i
        · subst hq; omega
        · exact hF j j1 (by omega)) k1 k2
theorem c_Md_ck1 {n : Nat} {F G : Nat → Nat} (hn : n ≤ 8) {d : qD} {b : Nat} (e5 : d.1 t_Md 0 5 = (n : Int)) (eF : s_row (d.1 t_mReadF 0) n F) (eG : s_row (d.1 t_mPlaces 0) n G) (hB : ∀ j, 1 ≤ j → j ≤ n → F j ≤ 999 ∧ G j ≤ 160) {r : Option qV × qW} : ∀ (f i : Nat), i + f = n + 1 → 1 ≤ i → (∀ c, s_ck1 F G f i = some c → r = (q_i 0, q_mk (q_sI d t_Md 0 3 (c : Int)) b)) → (s_ck1 F G f i = none → q_Ev m_Md_readsPerm 119 [q_r t_Md 0, q_i 1, none] [] (q_mk d b) r) → q_Ev m_Md_readsPerm 94 [q_r t_Md 0, q_i (i : Int), none] [] (q_mk d b) r
  | 0, i, hf, h1, _, k2 => e_Md_readsPerm_94 ⟨fun _ => k2 rfl, fun hh => by rw [e5] at hh; omega⟩
  | f + 1, i, hf, h1, k1, k2 => by
    unfold s_ck1 at k1 k2
    have hBi := hB i h1 (by omega)
    refine e_Md_readsPerm_94 ⟨fun hh => by rw [e5] at hh; omega, fun _ => ⟨by omega, by omega, ?_⟩⟩
    rw [Int.toNat_natCast, eF i h1 (by omega), q_l1, q_l16]
    refine ⟨_, _, c_Md_isIn (q_can_s (by omega) (by omega)) (q_can_s (by decide) (by decide)) (q_can_s (by decide) (by decide)), e_Md_readsPerm_106 ⟨fun hh => ?_, fun hh => ⟨by omega, by omega, ?_⟩⟩⟩
    · have hin := of_decide_eq_true (q_b2i_t hh)
      rw [if_neg (by omega)] at k1 k2
      rw [q_wS (by omega)]
      exact c_Md_ck1 hn e5 eF eG hB f (i + 1) (by omega) (by omega) k1 k2
    · have hin := of_decide_eq_false (q_b2i_f hh)
      rw [if_pos (by omega)] at k1
      rw [k1 _ rfl, Int.toNat_natCast, eG i h1 (by omega)]
      exact ⟨_, _, c_Md_fails (k := 2) (by omega) (by omega), e_Md_readsPerm_114 ⟨by decide, by decide, rfl⟩⟩
theorem c_Md_readsPerm {sz p0 : Nat} {V : Nat → Int} (hz : sz ≤ 160) (hV : ∀ k, 0 ≤ V k) (hp : p0 ≤ 1000) {d : qD} {b : Nat} (e : s_mT sz V d) (e2 : d.1 t_Md 0 2 = (p0 : Int)) : ∃ d' v, q_Ev m_Md_readsPerm 0 [q_r t_Md 0, none, none] [] (q_mk d b) (q_i v, q_mk d' b) ∧ s_mk d d' ∧ s_resM (s_perm sz V (s_sk sz V p0)) d' v := by
  have k0 : s_mk d (q_sI d t_Md 0 5 0) := s_mk_sI (by decide) (fun _ => Or.inr (Or.inr rfl))
  obtain ⟨d', hk, hm⟩ := c_Md_numsGo hz hV (b := b) 9 0 p0 (fun _ => 0) (fun _ => 0) (q_sI d t_Md 0 5 0) rfl (by omega) hp (s_mT_mk e k0) (by rw [q_sI_at, q_up_ne _ _ (by decide)]; exact e2) (by rw [q_sI_at, q_up_at]; rfl) (fun j j1 j2 => by omega) (fun j j1 j2 => by omega) (fun j j1 j2 => by omega)
  have hk2 := s_mk_tr k0 hk
  unfold s_perm
  cases hrp : s_rp sz V 9 0 (s_sk sz V p0) (fun _ => 0) (fun _ => 0) with
  | inl c =>
    rw [hrp] at hm
    exact ⟨d', 0, e_Md_readsPerm_0 hm.1, hk2, rfl, hm.2⟩
  | inr o =>
    obtain ⟨n, F, G⟩ := o
    rw [hrp] at hm
    obtain ⟨h2, hn, e5, eF, eG, hB, k⟩ := hm
    have hB' : ∀ j, 1 ≤ j → j ≤ n → F j ≤ 999 ∧ G j ≤ 160 := fun j j1 j2 => by have := hB j j1 j2; omega
    dsimp only
    unfold s_fin
    cases h1 : s_ck1 F G n 1 with
    | some c =>
      refine ⟨q_sI d' t_Md 0 3 (c : Int), 0, e_Md_readsPerm_0 (k _ (c_Md_ck1 hn e5 eF eG hB' n 1 (by omega) (by omega) (fun c' hc' => ?_) (fun hc' => ?_))), s_mk_tr hk2 (s_mk_sI (by decide) (fun _ => Or.inr (Or.inl rfl))), rfl, by rw [q_sI_at, q_up_at]⟩
      · rw [h1] at hc'; injection hc' with hc'; rw [hc']
      · rw [h1] at hc'; exact absurd hc' (by simp)
    | none =>
      dsimp only
      cases h3 : s_ck2 n F G n 1 with
      | some c =>
        refine ⟨q_sI d' t_Md 0 3 (c : Int), 0, e_Md_readsPerm_0 (k _ (c_Md_ck1 hn e5 eF eG hB' n 1 (by omega) (by omega) (fun c' hc' => ?_) (fun _ => c_Md_ck2 hn e5 eF eG hB' n 1 (by omega) (by omega) (fun j j1 j2 => by omega) (fun c' hc' => ?_) (fun hc' => ?_)))), s_mk_tr hk2 (s_mk_sI (by decide) (fun _ => Or.inr (Or.inl rfl))), rfl, by rw [q_sI_at, q_up_at]⟩
        · rw [h1] at hc'; exact absurd hc' (by simp)
        · rw [h3] at hc'; injection hc' with hc'; rw [hc']
        · rw [h3] at hc'; exact absurd hc' (by simp)
      | none =>
        refine ⟨d', 1, e_Md_readsPerm_0 (k _ (c_Md_ck1 hn e5 eF eG hB' n 1 (by omega) (by omega) (fun c' hc' => ?_) (fun _ => c_Md_ck2 hn e5 eF eG hB' n 1 (by omega) (by omega) (fun j j1 j2 => by omega) (fun c' hc' => ?_) (fun _ => rfl)))), hk2, rfl, e5, eF⟩
        · rw [h1] at hc'; exact absurd hc' (by simp)
        · rw [h3] at hc'; exact absurd hc' (by simp)
