/-! sets of the necklace are bases; mirrored and complemented bases; the least one -/
theorem s_per {n : Nat} {φ : Int → Nat} (hn : 0 < n) (h : ∀ i, φ (i + (n : Int)) = φ i) (v : Int) : φ v = φ (s_lb n v : Int) := by
  have up : ∀ (k : Nat) (w : Int), φ (w + (n : Int) * (k : Int)) = φ w := by
    intro k
    induction k with
    | zero => intro w; rw [show w + (n : Int) * ((0 : Nat) : Int) = w by simp]
    | succ k ih =>
      intro w
      rw [show w + (n : Int) * ((k + 1 : Nat) : Int) = (w + (n : Int) * (k : Int)) + (n : Int) by rw [show ((k + 1 : Nat) : Int) = (k : Int) + 1 by omega, Int.mul_add, Int.mul_one]; omega, h, ih]
  obtain ⟨k, hk⟩ := s_bq_mul (n := n) v hn
  have hb : v = (s_lb n v : Int) + s_bq n v := by unfold s_bq; omega
  by_cases hk0 : 0 ≤ k
  · have := up k.toNat (s_lb n v : Int)
    rw [show ((k.toNat : Nat) : Int) = k by omega, ← hk, ← hb] at this
    exact this
  · have := up (-k).toNat v
    rw [show (((-k).toNat : Nat) : Int) = -k by omega, Int.mul_neg, ← hk, show v + -s_bq n v = (s_lb n v : Int) by omega] at this
    exact this.symm
theorem s_gg_m {n : Nat} {F : Nat → Nat} (hn : 0 < n) (v : Int) : s_gg n F (v - (n : Int)) = s_gg n F v - (n : Int) := by
  have := s_gg_p hn F (v - (n : Int))
  rw [show v - (n : Int) + (n : Int) = v by omega] at this
  omega
theorem s_T1 {n a : Nat} {F : Nat → Nat} (h : s_ok n F) (ha : 1 ≤ a) (han : a ≤ n) {i : Int} (i1 : (a : Int) ≤ i) (i2 : i < (a : Int) + (n : Int)) {t : Nat} (ht : t ≤ n) : s_N (s_hat n (s_nk n F a)) i t ≤ s_rk n F i t := by
  have h0 := h.1
  have hat1 : ∀ v : Int, (a : Int) ≤ v → v < (a : Int) + (n : Int) → s_hat n (s_nk n F a) v = decide (s_gg n F v < (a : Int)) := fun v v1 v2 => s_nk_hat h ha han v1 v2
  have hat2 : ∀ v : Int, (a : Int) + (n : Int) ≤ v → v < (a : Int) + (n : Int) + (n : Int) → s_hat n (s_nk n F a) v = decide (s_gg n F v < (a : Int) + (n : Int)) := by
    intro v v1 v2
    have := s_hat_p (n := n) (by omega) (s_nk n F a) (v - (n : Int))
    rw [show v - (n : Int) + (n : Int) = v by omega] at this
    rw [this, hat1 _ (by omega) (by omega), s_gg_m (by omega)]
    exact decide_eq_decide.mpr (by omega)
  by_cases hc : i + (t : Int) ≤ (a : Int) + (n : Int)
  · refine s_N_mono fun v v1 v2 v3 => ?_
    rw [hat1 v (by omega) (by omega), decide_eq_true_iff] at v3
    rw [decide_eq_true_iff]; omega
  · obtain ⟨t1, ht1⟩ : ∃ t1 : Nat, (t1 : Int) = (a : Int) + (n : Int) - i := ⟨((a : Int) + (n : Int) - i).toNat, by omega⟩
    obtain ⟨t2, ht2⟩ : ∃ t2 : Nat, t = t1 + t2 := ⟨t - t1, by omega⟩
    obtain ⟨t3, ht3⟩ : ∃ t3 : Nat, (t3 : Int) = i - (a : Int) := ⟨(i - (a : Int)).toNat, by omega⟩
    have ei : i + (t1 : Int) = (a : Int) + (n : Int) := by omega
    have s1 := s_N_add (s_hat n (s_nk n F a)) i t1 t2
    have s2 := s_N_add (fun v => decide (s_gg n F v < i)) i t1 t2
    rw [ei] at s1 s2
    have a1 : s_N (s_hat n (s_nk n F a)) i t1 = s_N (fun v => decide (s_gg n F v < (a : Int))) i t1 := s_N_congr fun v v1 v2 => hat1 v (by omega) (by omega)
    have a2 : s_N (s_hat n (s_nk n F a)) ((a : Int) + (n : Int)) t2 = s_N (fun v => decide (s_gg n F v < (a : Int) + (n : Int))) ((a : Int) + (n : Int)) t2 := s_N_congr fun v v1 v2 => hat2 v (by omega) (by omega)
    have b1 := s_N_both (fun v => decide (s_gg n F v < i)) (fun v => decide (s_gg n F v < (a : Int))) i t1
    have b1' : s_N (fun v => decide (s_gg n F v < i) && decide (s_gg n F v < (a : Int))) i t1 = s_N (fun v => decide (s_gg n F v < (a : Int))) i t1 := s_N_congr fun v _ _ => by
      by_cases q : s_gg n F v < (a : Int)
      · rw [decide_eq_true q, decide_eq_true (show s_gg n F v < i by omega)]; rfl
      · rw [decide_eq_false q, Bool.and_false]
    have b2 := s_N_both (fun v => decide (s_gg n F v < (a : Int) + (n : Int))) (fun v => decide (s_gg n F v < i)) ((a : Int) + (n : Int)) t2
    have b2' : s_N (fun v => decide (s_gg n F v < (a : Int) + (n : Int)) && decide (s_gg n F v < i)) ((a : Int) + (n : Int)) t2 = s_N (fun v => decide (s_gg n F v < i)) ((a : Int) + (n : Int)) t2 := s_N_congr fun v _ _ => by
      by_cases q : s_gg n F v < i
      · rw [decide_eq_true q, decide_eq_true (show s_gg n F v < (a : Int) + (n : Int) by omega)]; rfl
      · rw [decide_eq_false q, Bool.and_false]
    -- X' ≤ X
    have x1 := s_N_add (fun v => decide (s_gg n F v < (a : Int) + (n : Int)) && !decide (s_gg n F v < i)) ((a : Int) + (n : Int)) t2 (t3 - t2)
    rw [show t2 + (t3 - t2) = t3 by omega] at x1
    have x2 : s_N (fun v => decide (s_gg n F v < (a : Int) + (n : Int)) && !decide (s_gg n F v < i)) ((a : Int) + (n : Int)) t3 = s_N (fun v => decide (s_gg n F v < (a : Int)) && !decide (s_gg n F v < i - (n : Int))) (a : Int) t3 := by
      refine s_N_bij (fun p => p + (n : Int)) (fun v => v - (n : Int)) (fun v v1 v2 v3 => ?_) (fun p p1 p2 p3 => ?_)
      · simp only [Bool.and_eq_true, decide_eq_true_iff, Bool.not_eq_true', decide_eq_false_iff_not] at v3 ⊢
        rw [s_gg_m (by omega)]
        exact ⟨by omega, by omega, ⟨by omega, by omega⟩, by omega⟩
      · simp only [Bool.and_eq_true, decide_eq_true_iff, Bool.not_eq_true', decide_eq_false_iff_not] at p3 ⊢
        rw [s_gg_p (by omega)]
        exact ⟨by omega, by omega, ⟨by omega, by omega⟩, by omega⟩
    have p1 := s_N_both (fun v => decide (s_gg n F v < (a : Int))) (fun v => decide (s_gg n F v < i - (n : Int))) (a : Int) t3
    have p2 := s_flow h (a : Int) t3
    rw [show (a : Int) + (t3 : Int) = i by omega] at p2
    unfold s_rk at p2
    have p3 := s_N_both (fun p => decide (i ≤ s_ff n F p)) (fun p => decide ((a : Int) + (n : Int) ≤ s_ff n F p)) (a : Int) t3
    have z12 : s_N (fun v => decide (s_gg n F v < (a : Int)) && decide (s_gg n F v < i - (n : Int))) (a : Int) t3 = s_N (fun p => decide (i ≤ s_ff n F p) && decide ((a : Int) + (n : Int) ≤ s_ff n F p)) (a : Int) t3 := by
      refine s_N_bij (fun p => s_ff n F p - (n : Int)) (fun v => s_gg n F v + (n : Int)) (fun v v1 v2 v3 => ?_) (fun p p1 p2 p3 => ?_)
      · have b := s_gg_bd h v
        simp only [Bool.and_eq_true, decide_eq_true_iff] at v3 ⊢
        rw [s_ff_p (by omega), s_ff_gg h]
        exact ⟨by omega, by omega, ⟨by omega, by omega⟩, by omega⟩
      · have b := s_ff_bd h p
        simp only [Bool.and_eq_true, decide_eq_true_iff] at p3 ⊢
        rw [s_gg_m (by omega), s_gg_ff h]
        exact ⟨by omega, by omega, ⟨by omega, by omega⟩, by omega⟩
    have y2 : s_N (fun v => decide (s_gg n F v < i) && !decide (s_gg n F v < (a : Int))) i t1 = s_N (fun p => decide (i ≤ s_ff n F p) && !decide ((a : Int) + (n : Int) ≤ s_ff n F p)) (a : Int) t3 := by
      refine s_N_bij (s_ff n F) (s_gg n F) (fun v v1 v2 v3 => ?_) (fun p p1 p2 p3 => ?_)
      · simp only [Bool.and_eq_true, decide_eq_true_iff, Bool.not_eq_true', decide_eq_false_iff_not] at v3 ⊢
        rw [s_ff_gg h]
        exact ⟨by omega, by omega, ⟨by omega, by omega⟩, rfl⟩
      · simp only [Bool.and_eq_true, decide_eq_true_iff, Bool.not_eq_true', decide_eq_false_iff_not] at p3 ⊢
        rw [s_gg_ff h]
        exact ⟨by omega, by omega, ⟨by omega, by omega⟩, rfl⟩
    unfold s_rk
    rw [ht2]
    omega
theorem s_bas_Z {n S : Nat} {F : Nat → Nat} (h : s_ok n F) (hS : S < 2 ^ n) : s_bas n F S = true ↔ s_N (s_hat n S) 1 n = q_pc (s_n1 n F n) ∧ ∀ i : Int, ∀ t, t ≤ n → s_N (s_hat n S) i t ≤ s_rk n F i t := by
  have h0 := h.1
  rw [s_bas_N h hS]
  refine ⟨fun ⟨k1, k2⟩ => ⟨k1, fun i t ht => ?_⟩, fun ⟨k1, k2⟩ => ⟨k1, fun i _ _ t ht => k2 i t ht⟩⟩
  have r := s_lb_rg (n := n) (by omega) i
  rw [s_per (φ := fun i => s_N (s_hat n S) i t) (by omega) (fun i => s_hat_Np (by omega) S i t) i, s_per (φ := fun i => s_rk n F i t) (by omega) (fun i => s_rk_p (by omega) i t) i]
  exact k2 _ r.1 r.2 t ht
theorem s_nk_bas {n a : Nat} {F : Nat → Nat} (h : s_ok n F) (ha : 1 ≤ a) (han : a ≤ n) : s_bas n F (s_nk n F a) = true := by
  have h0 := h.1
  obtain ⟨m, rfl⟩ : ∃ m, a = m + 1 := ⟨a - 1, by omega⟩
  have hlt := s_nk_ltn (s_ok_bd h) m (by omega)
  rw [s_bas_N h hlt]
  refine ⟨by rw [s_hat_pc h.2.1 (by omega) hlt, s_nk_pc h m (by omega)], fun i i1 i2 t ht => ?_⟩
  by_cases hi : m + 1 ≤ i
  · exact s_T1 h ha han (by omega) (by omega) ht
  · have := s_T1 h ha han (i := (i : Int) + (n : Int)) (by omega) (by omega) ht
    rw [s_hat_Np (by omega), s_rk_p (by omega)] at this
    exact this
/-- the whole round counts the size -/
theorem s_rk_n {n : Nat} {F : Nat → Nat} (h : s_ok n F) (i : Int) : s_rk n F i n = q_pc (s_n1 n F n) := by
  have h0 := h.1
  have r := s_lb_rg (n := n) (by omega) i
  rw [s_per (φ := fun i => s_rk n F i n) (by omega) (fun i => s_rk_p (by omega) i n) i]
  show s_rk n F (s_lb n i : Int) n = _
  obtain ⟨m, hm⟩ : ∃ m, s_lb n i = m + 1 := ⟨s_lb n i - 1, by omega⟩
  rw [hm] at r ⊢
  have hlt := s_nk_ltn (s_ok_bd h) m (by omega)
  rw [← s_nk_N h r.1 r.2 (Nat.le_refl n), ← s_nk_pc h m (by omega), ← s_hat_pc h.2.1 (by omega) hlt]
  have := s_hat_all (S := s_nk n F (m + 1)) (n := n) (by omega) m
  rw [show (1 : Int) + (m : Int) = ((m + 1 : Nat) : Int) by omega] at this
  exact this
theorem s_hat_n {n S : Nat} (h0 : 0 < n) (i : Int) : s_N (s_hat n S) i n = s_N (s_hat n S) 1 n := by
  have r := s_lb_rg (n := n) h0 i
  rw [s_per (φ := fun i => s_N (s_hat n S) i n) h0 (fun i => s_hat_Np h0 S i n) i]
  have := s_hat_all (S := S) h0 (s_lb n i - 1)
  rw [show (1 : Int) + ((s_lb n i - 1 : Nat) : Int) = (s_lb n i : Int) by omega] at this
  exact this
theorem s_lb_neg {n : Nat} (hn : 0 < n) (v : Int) : s_lb n ((n : Int) + 1 - v) = n + 1 - s_lb n v ∧ s_bq n ((n : Int) + 1 - v) = - s_bq n v := by
  have r := s_lb_rg hn v
  obtain ⟨k, hk⟩ := s_bq_mul (n := n) v hn
  refine s_lb_at hn (by omega) (by omega) ⟨-k, by rw [hk, Int.mul_neg]⟩ ?_
  unfold s_bq; omega
theorem s_ff_mir {n : Nat} {F : Nat → Nat} (h : s_ok n F) (a : Int) : s_ff n (s_mirF n F) a = (n : Int) + 1 - s_gg n F ((n : Int) + 1 - a) := by
  have h0 := h.1
  have r := s_lb_rg (n := n) (by omega) a
  have ng := s_lb_neg (n := n) (by omega) a
  have sx := s_src_of h (w := n + 1 - s_lb n a) (by omega) (by omega)
  unfold s_ff s_gg s_mirF
  rw [ng.1, ng.2]
  split
  · omega
  · omega
theorem s_gg_mir {n : Nat} {F : Nat → Nat} (h : s_ok n F) (v : Int) : s_gg n (s_mirF n F) v = (n : Int) + 1 - s_ff n F ((n : Int) + 1 - v) := by
  have e : s_ff n (s_mirF n F) ((n : Int) + 1 - s_ff n F ((n : Int) + 1 - v)) = v := by
    rw [s_ff_mir h, show (n : Int) + 1 - ((n : Int) + 1 - s_ff n F ((n : Int) + 1 - v)) = s_ff n F ((n : Int) + 1 - v) by omega, s_gg_ff h]; omega
  have := s_gg_ff (s_mir_ok h) ((n : Int) + 1 - s_ff n F ((n : Int) + 1 - v))
  rw [e] at this
  exact this
theorem s_rk_mir {n : Nat} {F : Nat → Nat} (h : s_ok n F) (i : Int) (t : Nat) : s_rk n (s_mirF n F) i t = s_rk n F ((n : Int) + 1 - i - (t : Int) + 1) t := by
  rw [s_flow h]
  unfold s_rk
  refine s_N_bij (fun p => (n : Int) + 1 - p) (fun v => (n : Int) + 1 - v) (fun v h1 h2 h3 => ?_) (fun p h1 h2 h3 => ?_)
  · rw [decide_eq_true_iff] at h3 ⊢
    rw [s_gg_mir h] at h3
    exact ⟨by omega, by omega, by omega, by omega⟩
  · rw [decide_eq_true_iff] at h3 ⊢
    rw [s_gg_mir h, show (n : Int) + 1 - ((n : Int) + 1 - p) = p by omega]
    exact ⟨by omega, by omega, by omega, rfl⟩
theorem s_bas_mir {n S M : Nat} {F : Nat → Nat} (h : s_ok n F) (hS : S < 2 ^ n) (hM : M < 2 ^ n) (hm : ∀ l, 1 ≤ l → l ≤ n → q_hl M l = q_hl S (n + 1 - l)) : s_bas n (s_mirF n F) S = s_bas n F M := by
  have h0 := h.1
  have hat : ∀ v, s_hat n M v = s_hat n S ((n : Int) + 1 - v) := by
    intro v
    have r := s_lb_rg (n := n) (by omega) v
    unfold s_hat
    rw [(s_lb_neg (by omega) v).1, hm _ r.1 r.2]
  have cnt : ∀ (i : Int) (t : Nat), s_N (s_hat n S) i t = s_N (s_hat n M) ((n : Int) + 1 - i - (t : Int) + 1) t := by
    intro i t
    refine s_N_bij (fun p => (n : Int) + 1 - p) (fun v => (n : Int) + 1 - v) (fun v h1 h2 h3 => ?_) (fun p h1 h2 h3 => ?_)
    · rw [hat, show (n : Int) + 1 - ((n : Int) + 1 - v) = v by omega]
      exact ⟨by omega, by omega, h3, rfl⟩
    · rw [hat] at h3
      exact ⟨by omega, by omega, h3, by omega⟩
  have kk : q_pc (s_n1 n (s_mirF n F) n) = q_pc (s_n1 n F n) := by
    rw [← s_rk_n (s_mir_ok h) 1, s_rk_mir h, s_rk_n h]
  rw [Bool.eq_iff_iff, s_bas_Z (s_mir_ok h) hS, s_bas_Z h hM, kk, cnt 1 n, s_hat_n (by omega)]
  refine ⟨fun ⟨k1, k2⟩ => ⟨k1, fun i t ht => ?_⟩, fun ⟨k1, k2⟩ => ⟨k1, fun i t ht => ?_⟩⟩
  · have := k2 ((n : Int) + 1 - i - (t : Int) + 1) t ht
    rw [cnt, s_rk_mir h, show (n : Int) + 1 - ((n : Int) + 1 - i - (t : Int) + 1) - (t : Int) + 1 = i by omega] at this
    exact this
  · rw [cnt, s_rk_mir h]
    exact k2 _ t ht
theorem s_ff_com {n : Nat} {F : Nat → Nat} (h : s_ok n F) (a : Int) : s_ff n (s_comF n F) a = s_gg n F a + (n : Int) := by
  unfold s_ff s_gg s_comF
  split <;> omega
theorem s_gg_com {n : Nat} {F : Nat → Nat} (h : s_ok n F) (v : Int) : s_gg n (s_comF n F) v = s_ff n F v - (n : Int) := by
  have h0 := h.1
  have e : s_ff n (s_comF n F) (s_ff n F v - (n : Int)) = v := by
    rw [s_ff_com h, s_gg_m (by omega), s_gg_ff h]; omega
  have := s_gg_ff (s_com_ok h) (s_ff n F v - (n : Int))
  rw [e] at this
  exact this
/-- a stretch and the rest of the round -/
theorem s_rk_com {n : Nat} {F : Nat → Nat} (h : s_ok n F) (i : Int) {t : Nat} (ht : t ≤ n) : s_rk n F (i + (t : Int)) (n - t) + t = q_pc (s_n1 n F n) + s_rk n (s_comF n F) i t := by
  have h0 := h.1
  have e1 : s_rk n (s_comF n F) i t = s_N (fun p => !decide (i + (n : Int) ≤ s_ff n F p)) i t := s_N_congr fun v _ _ => by
    rw [s_gg_com h]
    by_cases q : i + (n : Int) ≤ s_ff n F v
    · rw [decide_eq_true q, decide_eq_false (by omega)]; rfl
    · rw [decide_eq_false q, decide_eq_true (by omega)]; rfl
  have e2 := s_N_not (fun p => decide (i + (n : Int) ≤ s_ff n F p)) i t
  have e3 := s_N_add (fun v => decide (s_gg n F v < i + (t : Int))) (i + (t : Int)) (n - t) t
  rw [show n - t + t = n by omega] at e3
  have e4 : s_N (fun v => decide (s_gg n F v < i + (t : Int))) (i + (t : Int)) n = q_pc (s_n1 n F n) := s_rk_n h (i + (t : Int))
  have e5 : s_N (fun v => decide (s_gg n F v < i + (t : Int))) (i + (t : Int) + ((n - t : Nat) : Int)) t = s_N (fun p => decide (i + (n : Int) ≤ s_ff n F p)) i t := by
    refine s_N_bij (s_ff n F) (s_gg n F) (fun v h1 h2 h3 => ?_) (fun p h1 h2 h3 => ?_)
    · have b := s_gg_bd h v
      rw [decide_eq_true_iff] at h3 ⊢
      rw [s_ff_gg h]
      exact ⟨by omega, by omega, by omega, rfl⟩
    · have b := s_ff_bd h p
      rw [decide_eq_true_iff] at h3 ⊢
      rw [s_gg_ff h]
      exact ⟨by omega, by omega, by omega, rfl⟩
  unfold s_rk at e1 ⊢
  omega
theorem s_bas_com {n S M : Nat} {F : Nat → Nat} (h : s_ok n F) (hS : S < 2 ^ n) (hM : M < 2 ^ n) (hm : ∀ l, 1 ≤ l → l ≤ n → q_hl M l = !q_hl S l) : s_bas n (s_comF n F) S = s_bas n F M := by
  have h0 := h.1
  have hat : ∀ v, s_hat n M v = !s_hat n S v := by
    intro v
    have r := s_lb_rg (n := n) (by omega) v
    unfold s_hat
    exact hm _ r.1 r.2
  have cnt : ∀ (i : Int) (t : Nat), s_N (s_hat n S) i t + s_N (s_hat n M) i t = t := by
    intro i t
    have := s_N_not (s_hat n S) i t
    rw [s_N_congr (p := s_hat n M) (q := fun v => !s_hat n S v) (fun v _ _ => hat v)]
    exact this
  have kk : q_pc (s_n1 n (s_comF n F) n) + q_pc (s_n1 n F n) = n := by
    have := s_rk_com h 1 (Nat.le_refl n)
    rw [Nat.sub_self, s_rk_n (s_com_ok h)] at this
    have e0 : s_rk n F (1 + (n : Int)) 0 = 0 := rfl
    omega
  have c1 := cnt 1 n
  rw [Bool.eq_iff_iff, s_bas_Z (s_com_ok h) hS, s_bas_Z h hM]
  have sp : ∀ (i : Int) (t : Nat), t ≤ n → s_N (s_hat n M) i t + s_N (s_hat n M) (i + (t : Int)) (n - t) = s_N (s_hat n M) 1 n := by
    intro i t ht
    have := s_N_add (s_hat n M) i t (n - t)
    rw [show t + (n - t) = n by omega, s_hat_n (by omega)] at this
    exact this.symm
  refine ⟨fun ⟨k1, k2⟩ => ⟨by omega, fun i t ht => ?_⟩, fun ⟨k1, k2⟩ => ⟨by omega, fun i t ht => ?_⟩⟩
  · have := k2 (i + (t : Int) - (n : Int)) (n - t) (by omega)
    have e1 := s_rk_com h (i + (t : Int) - (n : Int)) (t := n - t) (by omega)
    have e2 := cnt (i + (t : Int) - (n : Int)) (n - t)
    have e3 := sp (i + (t : Int) - (n : Int)) (n - t) (by omega)
    rw [show i + (t : Int) - (n : Int) + ((n - t : Nat) : Int) = i by omega, show n - (n - t) = t by omega] at e1 e3
    omega
  · have := k2 (i + (t : Int)) (n - t) (by omega)
    have e1 := s_rk_com h i ht
    have e2 := cnt i t
    have e3 := sp i t ht
    omega
/-- two sets each at least the other are one -/
theorem s_al_anti {n i s o : Nat} (hn : n ≤ 8) (h1 : 1 ≤ i) (h2 : i ≤ n) (hs : s < 2 ^ n) (ho : o < 2 ^ n) (a1 : s_atLeast s o i n = true) (a2 : s_atLeast o s i n = true) : s = o := by
  have hp := s_p8 hn
  rw [s_al_N h1 h2] at a1 a2
  have eq : ∀ u, u < n → s_hat n s ((i : Int) + (u : Int)) = s_hat n o ((i : Int) + (u : Int)) := by
    intro u hu
    have x1 := a1 u (by omega)
    have x2 := a2 u (by omega)
    have y1 := a1 (u + 1) (by omega)
    have y2 := a2 (u + 1) (by omega)
    rw [s_N_s, s_N_s] at y1 y2
    cases hA : s_hat n s ((i : Int) + (u : Int)) <;> cases hB : s_hat n o ((i : Int) + (u : Int)) <;> rw [hA, hB] at y1 y2 <;> simp at y1 y2 ⊢ <;> omega
  refine s_ext (by omega) (by omega) fun l l1 l2 => ?_
  by_cases hl : l ≤ n
  · by_cases hli : i ≤ l
    · have := eq (l - i) (by omega)
      rw [show (i : Int) + ((l - i : Nat) : Int) = (l : Int) by omega] at this
      unfold s_hat at this
      rw [(s_lb_1 l1 hl).1] at this
      exact this
    · have := eq (l + n - i) (by omega)
      rw [show (i : Int) + ((l + n - i : Nat) : Int) = (l : Int) + (n : Int) by omega] at this
      unfold s_hat at this
      rw [(s_lb_p (n := n) (by omega) (l : Int)).1, (s_lb_1 l1 hl).1] at this
      exact this
  · rw [s_hln hs (by omega), s_hln ho (by omega)]
/-- the least of a cell's bases from a label on is its necklace's -/
theorem s_least_nk {n i s : Nat} {F : Nat → Nat} (h : s_ok n F) (h1 : 1 ≤ i) (h2 : i ≤ n) (hs : s_bas n F s = true) (hl : ∀ o, s_bas n F o = true → s_atLeast o s i n = true) : s = s_nk n F i := by
  have h0 := h.1
  obtain ⟨m, hm⟩ : ∃ m, i = m + 1 := ⟨i - 1, by omega⟩
  have hlt : s_nk n F i < 2 ^ n := by rw [hm]; exact s_nk_ltn (s_ok_bd h) m (by omega)
  refine s_al_anti h.2.1 h1 h2 (s_bas_lt s hs) hlt ?_ (hl _ (s_nk_bas h h1 h2))
  rw [s_al_N h1 h2]
  intro u hu
  rw [s_nk_N h h1 h2 hu]
  exact ((s_bas_N h (s_bas_lt s hs)).mp hs).2 i h1 h2 u hu
theorem s_nk_least {n i o : Nat} {F : Nat → Nat} (h : s_ok n F) (h1 : 1 ≤ i) (h2 : i ≤ n) (ho : s_bas n F o = true) : s_atLeast o (s_nk n F i) i n = true := by
  rw [s_al_N h1 h2]
  intro u hu
  rw [s_nk_N h h1 h2 hu]
  exact ((s_bas_N h (s_bas_lt o ho)).mp ho).2 i h1 h2 u hu
/-- F by the necklace -/
theorem s_step_nk {n i : Nat} {F : Nat → Nat} (h : s_ok n F) (h1 : 1 ≤ i) (h2 : i ≤ n) : s_step (s_nk n F i) i (s_nk n F (i % n + 1)) n = F i ∧ (q_hl (s_nk n F i) i = true → q_dif (s_nk n F (i % n + 1)) (s_wo (s_nk n F i) i) ≠ 0) := by
  have h0 := h.1
  have hn := h.2.1
  have hb := s_ok_bd h
  have hp := s_p8 hn
  have bi := h.2.2.1 i h1 h2
  have ht := s_tg_le hb h1 h2
  have fi : s_ff n F (i : Int) = (F i : Int) := by
    unfold s_ff
    rw [(s_lb_1 h1 h2).1, (s_lb_1 h1 h2).2]; omega
  have hat1 : ∀ v : Int, (i : Int) ≤ v → v < (i : Int) + (n : Int) → s_hat n (s_nk n F i) v = decide (s_gg n F v < (i : Int)) := fun v v1 v2 => s_nk_hat h h1 h2 v1 v2
  have hat2 : ∀ v : Int, (i : Int) + 1 ≤ v → v < (i : Int) + 1 + (n : Int) → s_hat n (s_nk n F (i % n + 1)) v = decide (s_gg n F v < (i : Int) + 1) := by
    intro v v1 v2
    by_cases hi : i < n
    · rw [Nat.mod_eq_of_lt hi, s_nk_hat h (by omega) (by omega) (by omega) (by omega)]
      exact decide_eq_decide.mpr (by omega)
    · have hin : i = n := by omega
      rw [hin, Nat.mod_self]
      have := s_hat_p (n := n) (by omega) (s_nk n F (0 + 1)) (v - (n : Int))
      rw [show v - (n : Int) + (n : Int) = v by omega] at this
      rw [this, s_nk_hat h (by omega) (by omega) (by omega) (by omega), s_gg_m (by omega)]
      exact decide_eq_decide.mpr (by omega)
  have gi : ∀ v : Int, s_gg n F v = (i : Int) ↔ v = (F i : Int) := by
    intro v
    refine ⟨fun hh => ?_, fun hh => ?_⟩
    · rw [← fi, ← hh, s_ff_gg h]
    · rw [hh, ← fi, s_gg_ff h]
  have hii : q_hl (s_nk n F i) i = decide (s_gg n F (i : Int) < (i : Int)) := by
    have := hat1 (i : Int) (by omega) (by omega)
    unfold s_hat at this
    rw [(s_lb_1 h1 h2).1] at this
    exact this
  have hgi := s_gg_bd h (i : Int)
  have nkl : s_nk n F i < 2 ^ n := by
    obtain ⟨m, hm⟩ : ∃ m, i = m + 1 := ⟨i - 1, by omega⟩
    rw [hm]; exact s_nk_ltn hb m (by omega)
  have nkl2 : s_nk n F (i % n + 1) < 2 ^ n := s_nk_ltn hb (i % n) (Nat.le_of_lt (Nat.mod_lt _ (by omega)))
  have hdl : q_dif (s_nk n F (i % n + 1)) (s_wo (s_nk n F i) i) < 2 ^ n := q_dif_lt nkl2
  unfold s_step
  by_cases hf : F i = i
  · have : s_gg n F (i : Int) = (i : Int) := (gi _).mpr (by omega)
    rw [this, decide_eq_false (by omega)] at hii
    rw [hii]
    exact ⟨by rw [if_neg (by decide), hf], fun hh => absurd hh (by decide)⟩
  · have hlt : s_gg n F (i : Int) < (i : Int) := by
      have : s_gg n F (i : Int) ≠ (i : Int) := fun hh => hf (by have := (gi _).mp hh; omega)
      omega
    rw [decide_eq_true hlt] at hii
    have dif : ∀ l, 1 ≤ l → l ≤ n → (q_hl (q_dif (s_nk n F (i % n + 1)) (s_wo (s_nk n F i) i)) l = true ↔ l = s_tg n (F i)) := by
      intro l l1 l2
      have core : ∀ v : Int, (i : Int) + 1 ≤ v → v ≤ (i : Int) + (n : Int) → s_lb n v = l → (q_hl (q_dif (s_nk n F (i % n + 1)) (s_wo (s_nk n F i) i)) l = true ↔ v = (F i : Int)) := by
        intro v v1 v2 v3
        have e2 := hat2 v v1 (by omega)
        unfold s_hat at e2
        rw [v3] at e2
        rw [q_hl_dif, Bool.and_eq_true, Bool.not_eq_true', e2, s_wo_hl h1 l1, decide_eq_true_iff]
        have b := s_gg_bd h v
        by_cases hv : v = (i : Int) + (n : Int)
        · have hli : l = i := by
            rw [← v3, hv, (s_lb_p (n := n) (by omega) (i : Int)).1, (s_lb_1 h1 h2).1]
          rw [decide_eq_true hli, Bool.not_true, Bool.and_false, ← gi v]
          exact ⟨fun hh => by omega, fun hh => ⟨by omega, rfl⟩⟩
        · have hli : l ≠ i := by
            intro hh
            have e3 : s_lb n v = i := by rw [v3, hh]
            have := s_bq_mul (n := n) v (by omega)
            obtain ⟨k, hk⟩ := this
            have hbv : v = (s_lb n v : Int) + s_bq n v := by unfold s_bq; omega
            rw [e3, hk] at hbv
            have q1 : (n : Int) * k < (n : Int) * 1 := by omega
            have q2 : (n : Int) * 0 < (n : Int) * k := by omega
            have := Int.lt_of_mul_lt_mul_left q1 (by omega)
            have := Int.lt_of_mul_lt_mul_left q2 (by omega)
            omega
          have e1 := hat1 v (by omega) (by omega)
          unfold s_hat at e1
          rw [v3] at e1
          rw [decide_eq_false hli, Bool.not_false, Bool.and_true, e1, decide_eq_false_iff_not, ← gi v]
          omega
      by_cases hli : i < l
      · rw [core (l : Int) (by omega) (by omega) (s_lb_1 l1 l2).1]
        unfold s_tg
        split <;> omega
      · rw [core ((l : Int) + (n : Int)) (by omega) (by omega) (by rw [(s_lb_p (n := n) (by omega) (l : Int)).1, (s_lb_1 l1 l2).1])]
        unfold s_tg
        split <;> omega
    have hne : q_dif (s_nk n F (i % n + 1)) (s_wo (s_nk n F i) i) ≠ 0 := by
      intro hz
      have := (dif _ ht.1 ht.2).mpr rfl
      rw [hz, show q_hl 0 (s_tg n (F i)) = false from Nat.zero_testBit _] at this
      exact absurd this (by decide)
    have hl := s_least_hl (by omega) hne
    have hl8 := s_least_le (by omega) hne
    have hl1 := s_least_pos (q_dif (s_nk n F (i % n + 1)) (s_wo (s_nk n F i) i))
    have hln : s_least (q_dif (s_nk n F (i % n + 1)) (s_wo (s_nk n F i) i)) ≤ n := by
      by_cases hq : s_least (q_dif (s_nk n F (i % n + 1)) (s_wo (s_nk n F i) i)) ≤ n
      · exact hq
      · rw [s_hln hdl (by omega)] at hl
        exact absurd hl.1 (by decide)
    have hlt2 := (dif _ hl1 hln).mp hl.1
    rw [hii, if_pos rfl, hlt2]
    refine ⟨?_, fun _ => hne⟩
    unfold s_tg
    split <;> split <;> omega
