/-! reading sets: the model's answer -/
theorem s_pcTo_and : ∀ n : Nat, n < 9 → ∀ S : Nat, S < 256 → s_pcTo S n = q_pc (S &&& (2 ^ n - 1)) := by decide +kernel
theorem s_pcTo_gap {S n : Nat} : ∀ (f : Nat), (∀ l, n < l → l ≤ n + f → q_hl S l = false) → s_pcTo S (n + f) = s_pcTo S n
  | 0, _ => rfl
  | f + 1, h => by
    rw [show n + (f + 1) = (n + f) + 1 by omega, s_pcTo_s, h (n + f + 1) (by omega) (by omega), s_pcTo_gap f (fun l l1 l2 => h l l1 (by omega))]
    rfl
theorem s_and_eq {S n : Nat} (hS : S < 256) (h : ∀ l, 1 ≤ l → l ≤ 8 → n < l → q_hl S l = false) : S &&& (2 ^ n - 1) = S := by
  rw [Nat.and_two_pow_sub_one_eq_mod]
  exact Nat.mod_eq_of_lt (s_ltn hS h)
theorem s_and_ne {S n l : Nat} (hl : n < l) (h : q_hl S l = true) : ¬ S &&& (2 ^ n - 1) = S := by
  intro hc
  rw [Nat.and_two_pow_sub_one_eq_mod] at hc
  have h1 := Nat.mod_lt S (Nat.two_pow_pos n)
  rw [s_hln (by omega) hl] at h
  exact absurd h (by decide)
theorem c_Md_ckRin {n i S Gi : Nat} (hn : n ≤ 8) (h1 : 1 ≤ i) (hi : i ≤ n) (hS : S < 256) (hG : Gi ≤ 160) {d : qD} {b : Nat} (e5 : d.1 t_Md 0 5 = (n : Int)) (eS : d.1 t_mReadSet 0 i = (S : Int)) {r : Option qV × qW} : ∀ (f m : Nat), m + f = 8 → (∀ l, n < l → l ≤ m → q_hl S l = false) → (S &&& (2 ^ n - 1) = S → q_Ev m_Md_isNeck 2 [q_r t_Md 0, q_i ((i + 1 : Nat) : Int), none, none] [] (q_mk d b) r) → (¬ S &&& (2 ^ n - 1) = S → r = (q_i 0, q_mk (q_sI d t_Md 0 3 ((8 * (Gi + q_pc (S &&& (2 ^ n - 1))) + 2 : Nat) : Int)) b)) → q_Ev m_Md_isNeck 13 [q_r t_Md 0, q_i (i : Int), q_i ((Gi + s_pcTo S m : Nat) : Int), q_i ((m + 1 : Nat) : Int)] [] (q_mk d b) r
  | 0, m, hf, hg, k1, _ => by
    refine e_Md_isNeck_13 ⟨fun _ => ?_, fun hh => by omega⟩
    rw [q_wS (by omega)]
    exact k1 (s_and_eq hS (fun l _ l2 l3 => hg l l3 (by omega)))
  | f + 1, m, hf, hg, k1, k2 => by
    have ih := c_Md_ckRin hn h1 hi hS hG (b := b) e5 eS (r := r) f (m + 1) (by omega)
    have hpm : s_pcTo S m ≤ m := by
      have := s_pcTo_up S m 0
      rw [Nat.zero_add] at this
      have z : s_pcTo S 0 = 0 := rfl
      omega
    refine e_Md_isNeck_13 ⟨fun hh => by omega, fun _ => ⟨by omega, by omega, ?_⟩⟩
    rw [Int.toNat_natCast, eS]
    refine ⟨_, _, c_Md_has (by omega) (by omega) (by omega), e_Md_isNeck_22 ⟨fun hh => ⟨fun h3 => e_Md_isNeck_34 ?_, fun h3 => ?_⟩, fun hh => e_Md_isNeck_34 ?_⟩⟩
    · rw [e5] at h3
      have hl := q_b2i_t hh
      rw [q_wS (by omega), q_wS (by omega)]
      have := ih (fun l l1 l2 => by omega) k1 k2
      rw [s_pcTo_s, hl] at this
      exact this
    · rw [e5] at h3
      have hl := q_b2i_t hh
      have hne := s_and_ne (n := n) (by omega) hl
      have hgap := s_pcTo_gap (S := S) (n := n) (m - n) (fun l l1 l2 => hg l l1 (by omega))
      rw [show n + (m - n) = m by omega] at hgap
      rw [k2 hne, ← s_pcTo_and n (by omega) S hS, ← hgap]
      exact ⟨_, _, c_Md_fails (k := 2) (by omega) (by omega), e_Md_isNeck_32 ⟨by decide, by decide, rfl⟩⟩
    · have hl := q_b2i_f hh
      rw [q_wS (by omega)]
      have := ih (fun l l1 l2 => by
        by_cases hq : l = m + 1
        · subst hq; exact hl
        · exact hg l l1 (by omega)) k1 k2
      rw [s_pcTo_s, hl] at this
      exact this
theorem c_Md_ckR {n : Nat} {S G : Nat → Nat} (hn : n ≤ 8) {d : qD} {b : Nat} (e5 : d.1 t_Md 0 5 = (n : Int)) (eS : s_row (d.1 t_mReadSet 0) n S) (eG : s_row (d.1 t_mPlaces 0) n G) (hB : ∀ j, 1 ≤ j → j ≤ n → S j < 256 ∧ G j ≤ 160) {r : Option qV × qW} : ∀ (f i : Nat), i + f = n + 1 → 1 ≤ i → (∀ c, s_ckR n S G f i = some c → r = (q_i 0, q_mk (q_sI d t_Md 0 3 (c : Int)) b)) → (s_ckR n S G f i = none → q_Ev m_Md_isNeck 40 [q_r t_Md 0, q_i 2, none, none] [] (q_mk d b) r) → q_Ev m_Md_isNeck 2 [q_r t_Md 0, q_i (i : Int), none, none] [] (q_mk d b) r
  | 0, i, hf, h1, _, k2 => e_Md_isNeck_2 ⟨fun _ => k2 rfl, fun hh => by rw [e5] at hh; omega⟩
  | f + 1, i, hf, h1, k1, k2 => by
    unfold s_ckR at k1 k2
    have hBi := hB i h1 (by omega)
    refine e_Md_isNeck_2 ⟨fun hh => by rw [e5] at hh; omega, fun _ => ⟨by omega, by omega, ?_⟩⟩
    rw [Int.toNat_natCast, eG i h1 (by omega)]
    refine c_Md_ckRin hn h1 (by omega) hBi.1 hBi.2 e5 (eS i h1 (by omega)) 8 0 rfl (fun l l1 l2 => by omega) (fun hc => ?_) (fun hc => ?_)
    · rw [if_pos hc] at k1 k2
      exact c_Md_ckR hn e5 eS eG hB f (i + 1) (by omega) (by omega) k1 k2
    · rw [if_neg hc] at k1
      exact k1 _ rfl
theorem c_Md_ckB {n : Nat} {S G : Nat → Nat} (h2 : 2 ≤ n) (hn : n ≤ 8) {d : qD} {b : Nat} (e5 : d.1 t_Md 0 5 = (n : Int)) (eS : s_row (d.1 t_mReadSet 0) n S) (eG : s_row (d.1 t_mPlaces 0) n G) (hB : ∀ j, 1 ≤ j → j ≤ n → S j < 256 ∧ G j ≤ 160) {r : Option qV × qW} : ∀ (f i : Nat), i + f = n + 1 → 2 ≤ i → (∀ c, s_ckB S G f i = some c → r = (q_i 0, q_mk (q_sI d t_Md 0 3 (c : Int)) b)) → (s_ckB S G f i = none → s_behind (S n) n (S 1) = false → r = (q_i 0, q_mk (q_sI d t_Md 0 3 ((8 * G n + 3 : Nat) : Int)) b)) → (s_ckB S G f i = none → s_behind (S n) n (S 1) = true → r = (q_i 1, q_mk d b)) → q_Ev m_Md_isNeck 40 [q_r t_Md 0, q_i (i : Int), none, none] [] (q_mk d b) r
  | 0, i, hf, h1, _, k2, k3 => by
    have hBn := hB n (by omega) (Nat.le_refl n)
    have hB1 := hB 1 (by omega) (by omega)
    refine e_Md_isNeck_40 ⟨fun _ => ?_, fun hh => by rw [e5] at hh; omega⟩
    rw [e5, Int.toNat_natCast, show (1 : Int).toNat = 1 from rfl, eS n (by omega) (Nat.le_refl n), eS 1 (by omega) (by omega)]
    refine ⟨by decide, by decide, by omega, by omega, _, _, c_Md_canStand hBn.1 hB1.1 (by omega) hn, e_Md_isNeck_81 ⟨fun hh => ?_, fun hh => ?_⟩⟩
    · rw [k3 rfl (q_b2i_t hh)]
      exact e_Md_isNeck_91 (e_Md_isNeck_94 ⟨by decide, by decide, rfl⟩)
    · rw [k2 rfl (q_b2i_f hh), e5, Int.toNat_natCast, eG n (by omega) (Nat.le_refl n)]
      exact ⟨by omega, by omega, _, _, c_Md_fails (k := 3) (by omega) (by omega), e_Md_isNeck_90 ⟨fun _ => e_Md_isNeck_94 ⟨by decide, by decide, rfl⟩, fun hx => absurd rfl hx⟩⟩
  | f + 1, i, hf, h1, k1, k2, k3 => by
    unfold s_ckB at k1 k2 k3
    have hBi := hB i (by omega) (by omega)
    have hBp := hB (i - 1) (by omega) (by omega)
    have ew : q_w ((i : Int) - 1) = ((i - 1 : Nat) : Int) := by
      rw [show (i : Int) - 1 = (i : Int) - ((1 : Nat) : Int) by omega, q_wD (by omega) (by omega)]
    refine e_Md_isNeck_40 ⟨fun hh => by rw [e5] at hh; omega, fun _ => ?_⟩
    rw [ew, Int.toNat_natCast, Int.toNat_natCast, eS i (by omega) (by omega), eS (i - 1) (by omega) (by omega)]
    refine ⟨by omega, by omega, by omega, by omega, _, _, c_Md_canStand hBp.1 hBi.1 (by omega) (by omega), e_Md_isNeck_58 ⟨fun hh => ?_, fun hh => ?_⟩⟩
    · rw [if_pos (q_b2i_t hh)] at k1 k2 k3
      rw [q_wS (by omega)]
      exact c_Md_ckB h2 hn e5 eS eG hB f (i + 1) (by omega) (by omega) k1 k2 k3
    · rw [if_neg (by rw [q_b2i_f hh]; decide)] at k1
      rw [k1 _ rfl, Int.toNat_natCast, eG i (by omega) (by omega)]
      exact ⟨by omega, by omega, _, _, c_Md_fails (k := 3) (by omega) (by omega), e_Md_isNeck_66 ⟨by decide, by decide, rfl⟩⟩
theorem c_Md_laysF {n : Nat} {S : Nat → Nat} (hn : n ≤ 8) (h2 : 2 ≤ n) (hB : ∀ j, 1 ≤ j → j ≤ n → S j < 256) (h0 : ∀ i, 1 ≤ i → i ≤ n → q_hl (S i) i = true → q_dif (S (i % n + 1)) (s_wo (S i) i) ≠ 0) {b : Nat} : ∀ (f i : Nat) (d : qD), i + f = n + 1 → 1 ≤ i → d.1 t_Md 0 5 = (n : Int) → s_row (d.1 t_mReadSet 0) n S → (∀ k, 1 ≤ k → k < i → d.1 t_mReadF 0 k = (s_step (S k) k (S (k % n + 1)) n : Int)) → ∃ d', q_Ev m_Md_laysByNeck 2 [q_r t_Md 0, q_i (i : Int)] [] (q_mk d b) (q_i 1, q_mk d' b) ∧ s_mk d d' ∧ d'.1 t_Md 0 5 = (n : Int) ∧ s_row (d'.1 t_mReadF 0) n (fun i => s_step (S i) i (S (i % n + 1)) n)
  | 0, i, d, hf, h1, e5, eS, eI => ⟨d, e_Md_laysByNeck_2 ⟨fun _ => ⟨by decide, by decide, rfl⟩, fun hh => by rw [e5] at hh; omega⟩, s_mk_refl d, e5, fun k k1 k2 => eI k k1 (by omega)⟩
  | f + 1, i, d, hf, h1, e5, eS, eI => by
    have hm := Nat.mod_lt i (show n > 0 by omega)
    obtain ⟨d', v, a, r5, r⟩ := c_Md_laysF hn h2 hB h0 (b := b) f (i + 1) (q_sI d t_mReadF 0 i (s_step (S i) i (S (i % n + 1)) n : Int)) (by omega) (by omega) (by rw [q_sI_ne _ _ (by decide)]; exact e5) (by rw [q_sI_ne _ _ (by decide)]; exact eS) (fun k k1 k2 => by
      rw [q_sI_at]
      by_cases hq : k = i
      · subst hq; rw [q_up_at]
      · rw [q_up_ne _ _ hq]; exact eI k k1 (by omega))
    refine ⟨d', e_Md_laysByNeck_2 ⟨fun hh => by rw [e5] at hh; omega, fun _ => ?_⟩, s_mk_tr (s_mk_sI (by decide) (fun hh => absurd hh (by decide))) a, r5, r⟩
    have er : q_w (q_rem (i : Int) (n : Int) + 1) = ((i % n + 1 : Nat) : Int) := by
      rw [q_rem_s i (by omega) n (by omega) (by omega), q_wS (by omega)]
    rw [e5, er, Int.toNat_natCast, Int.toNat_natCast, eS i h1 (by omega), eS (i % n + 1) (by omega) (by omega)]
    refine ⟨by omega, by omega, by omega, by omega, by omega, _, _, c_Md_stepOf (hB i h1 (by omega)) (hB _ (by omega) (by omega)) h1 (by omega) hn (h0 i h1 (by omega)), e_Md_laysByNeck_26 ⟨by omega, by omega, ?_⟩⟩
    rw [Int.toNat_natCast, q_wS (by omega)]
    exact v
theorem c_Md_readsNeck {sz p0 : Nat} {V : Nat → Int} (hz : sz ≤ 160) (hV : ∀ k, 0 ≤ V k) (hp : p0 ≤ 1000) {d : qD} {b : Nat} (e : s_mT sz V d) (e2 : d.1 t_Md 0 2 = (p0 : Int)) : ∃ d' v, q_Ev m_Md_readsNeck 0 [q_r t_Md 0, none, none, none, none, none] [] (q_mk d b) (q_i v, q_mk d' b) ∧ s_mk d d' ∧ s_resM (s_neckO sz V (s_sk sz V p0)) d' v := by
  have k0 : s_mk d (q_sI d t_Md 0 5 0) := s_mk_sI (by decide) (fun _ => Or.inr (Or.inr rfl))
  obtain ⟨d', hk, hm⟩ := c_Md_setsGo hz hV (b := b) 9 0 p0 0 (fun _ => 0) (fun _ => 0) (q_sI d t_Md 0 5 0) rfl (by omega) hp (by omega) (Or.inl rfl) (s_mT_mk e k0) (by rw [q_sI_at, q_up_ne _ _ (by decide)]; exact e2) (by rw [q_sI_at, q_up_at]; rfl) (fun j j1 j2 => by omega) (fun j j1 j2 => by omega) (fun j j1 j2 => by omega)
  have hk2 := s_mk_tr k0 hk
  unfold s_neckO
  cases hrp : s_rsets sz V 9 0 (s_sk sz V p0) 0 (fun _ => 0) (fun _ => 0) with
  | inl c =>
    rw [hrp] at hm
    exact ⟨d', 0, e_Md_readsNeck_0 hm.1, hk2, rfl, hm.2⟩
  | inr o =>
    obtain ⟨n, S, G⟩ := o
    rw [hrp] at hm
    obtain ⟨h2, hn, e5, eS, eG, hB, k⟩ := hm
    have hB' : ∀ j, 1 ≤ j → j ≤ n → S j < 256 ∧ G j ≤ 160 := fun j j1 j2 => by have := hB j j1 j2; omega
    dsimp only
    unfold s_finN
    have bad : ∀ c : Nat, q_Ev m_Md_isNeck 0 [q_r t_Md 0, none, none, none] [] (q_mk d' b) (q_i 0, q_mk (q_sI d' t_Md 0 3 (c : Int)) b) → q_Ev m_Md_readsNeck 0 [q_r t_Md 0, none, none, none, none, none] [] (q_mk d b) (q_i 0, q_mk (q_sI d' t_Md 0 3 (c : Int)) b) := fun c h => e_Md_readsNeck_0 (k _ _ _ h (e_Md_readsNeck_131 ⟨fun _ => e_Md_readsNeck_137 (e_Md_readsNeck_138 ⟨by decide, by decide, rfl⟩), fun hx => absurd rfl hx⟩))
    have hkc : ∀ c : Nat, s_mk d (q_sI d' t_Md 0 3 (c : Int)) := fun c => s_mk_tr hk2 (s_mk_sI (by decide) (fun _ => Or.inr (Or.inl rfl)))
    cases h1 : s_ckR n S G n 1 with
    | some c =>
      refine ⟨q_sI d' t_Md 0 3 (c : Int), 0, bad c (e_Md_isNeck_0 (c_Md_ckR hn e5 eS eG hB' n 1 (by omega) (by omega) (fun c' hc' => ?_) (fun hc' => ?_))), hkc c, rfl, by rw [q_sI_at, q_up_at]⟩
      · rw [h1] at hc'; injection hc' with hc'; rw [hc']
      · rw [h1] at hc'; exact absurd hc' (by simp)
    | none =>
      have hS := fun j j1 j2 => s_ckR_n n 1 (by omega) (by omega) h1 j j1 j2
      have go : ∀ r, q_Ev m_Md_isNeck 40 [q_r t_Md 0, q_i 2, none, none] [] (q_mk d' b) r → q_Ev m_Md_isNeck 0 [q_r t_Md 0, none, none, none] [] (q_mk d' b) r := by
        intro r hr
        refine e_Md_isNeck_0 (c_Md_ckR hn e5 eS eG hB' n 1 (by omega) (by omega) (fun c' hc' => ?_) (fun _ => hr))
        rw [h1] at hc'; exact absurd hc' (by simp)
      dsimp only
      cases h3 : s_ckB S G (n - 1) 2 with
      | some c =>
        refine ⟨q_sI d' t_Md 0 3 (c : Int), 0, bad c (go _ (c_Md_ckB h2 hn e5 eS eG hB' (n - 1) 2 (by omega) (by omega) (fun c' hc' => ?_) (fun hc' => ?_) (fun hc' => ?_))), hkc c, rfl, by rw [q_sI_at, q_up_at]⟩
        · rw [h3] at hc'; injection hc' with hc'; rw [hc']
        · rw [h3] at hc'; exact absurd hc' (by simp)
        · rw [h3] at hc'; exact absurd hc' (by simp)
      | none =>
        dsimp only
        by_cases hl : s_behind (S n) n (S 1) = true
        · rw [if_pos hl]
          have hall := s_all_behind h2 h3 hl
          obtain ⟨d2, v, a, r5, r⟩ := c_Md_laysF hn h2 (fun j j1 j2 => (hB' j j1 j2).1) (fun i i1 i2 => (s_sets_one hn hS hall i1 i2).1) (b := b) n 1 d' (by omega) (by omega) e5 eS (fun k k1 k2 => by omega)
          refine ⟨d2, 1, e_Md_readsNeck_0 (k _ (q_i 1) (q_mk d' b) (go _ (c_Md_ckB h2 hn e5 eS eG hB' (n - 1) 2 (by omega) (by omega) (fun c' hc' => ?_) (fun _ hc' => ?_) (fun _ _ => rfl))) (e_Md_readsNeck_131 ⟨fun hx => absurd hx (by decide), fun _ => ⟨_, _, e_Md_laysByNeck_0 v, e_Md_readsNeck_134 ⟨fun hx => absurd hx (by decide), fun _ => e_Md_readsNeck_138 ⟨by decide, by decide, rfl⟩⟩⟩⟩)), s_mk_tr hk2 a, rfl, r5, r⟩
          · rw [h3] at hc'; exact absurd hc' (by simp)
          · rw [hl] at hc'; exact absurd hc' (by decide)
        · rw [if_neg hl]
          refine ⟨q_sI d' t_Md 0 3 ((8 * G n + 3 : Nat) : Int), 0, bad _ (go _ (c_Md_ckB h2 hn e5 eS eG hB' (n - 1) 2 (by omega) (by omega) (fun c' hc' => ?_) (fun _ _ => rfl) (fun _ hc' => absurd hc' hl))), hkc _, rfl, by rw [q_sI_at, q_up_at]⟩
          rw [h3] at hc'; exact absurd hc' (by simp)
