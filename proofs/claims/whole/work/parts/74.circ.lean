/-! round the circle: counts over stretches of the integers -/
def s_N (p : Int → Bool) (a : Int) (t : Nat) : Nat := s_sum (fun i => (p (a + (i : Int) - 1)).toNat) t
theorem s_N_0 (p : Int → Bool) (a : Int) : s_N p a 0 = 0 := rfl
theorem s_N_s (p : Int → Bool) (a : Int) (t : Nat) : s_N p a (t + 1) = s_N p a t + (p (a + (t : Int))).toNat := by
  unfold s_N
  rw [s_sum, show a + ((t + 1 : Nat) : Int) - 1 = a + (t : Int) by omega]
theorem s_N_add (p : Int → Bool) (a : Int) (t : Nat) : ∀ u, s_N p a (t + u) = s_N p a t + s_N p (a + (t : Int)) u
  | 0 => rfl
  | u + 1 => by
    rw [show t + (u + 1) = (t + u) + 1 by omega, s_N_s, s_N_add p a t u, s_N_s, show a + (t : Int) + (u : Int) = a + ((t + u : Nat) : Int) by omega]; omega
theorem s_N_congr {p q : Int → Bool} {a : Int} {t : Nat} (h : ∀ v : Int, a ≤ v → v < a + (t : Int) → p v = q v) : s_N p a t = s_N q a t :=
  s_sum_congr t fun i h1 h2 => by rw [h _ (by omega) (by omega)]
theorem s_N_mono {p q : Int → Bool} {a : Int} : ∀ {t : Nat}, (∀ v : Int, a ≤ v → v < a + (t : Int) → p v = true → q v = true) → s_N p a t ≤ s_N q a t
  | 0, _ => Nat.le_refl 0
  | t + 1, h => by
    have ih := s_N_mono (p := p) (q := q) (a := a) (t := t) (fun v h1 h2 => h v h1 (by omega))
    rw [s_N_s, s_N_s]
    have := h (a + (t : Int)) (by omega) (by omega)
    cases hp : p (a + (t : Int))
    · have : (false : Bool).toNat = 0 := rfl
      omega
    · rw [this hp]; omega
theorem s_N_both (p r : Int → Bool) (a : Int) : ∀ t, s_N (fun v => p v && r v) a t + s_N (fun v => p v && !r v) a t = s_N p a t
  | 0 => rfl
  | t + 1 => by
    have ih := s_N_both p r a t
    rw [s_N_s, s_N_s, s_N_s]
    cases p (a + (t : Int)) <;> cases r (a + (t : Int)) <;> simp <;> omega
theorem s_N_not (p : Int → Bool) (a : Int) : ∀ t, s_N p a t + s_N (fun v => !p v) a t = t
  | 0 => rfl
  | t + 1 => by
    have ih := s_N_not p a t
    rw [s_N_s, s_N_s]
    cases p (a + (t : Int)) <;> simp <;> omega
theorem s_sum_pick {A : Prop} {y c : Int} (dA : Decidable A) (s : Nat) : s_sum (fun w => if A ∧ y = c + (w : Int) - 1 then 1 else 0) s = if A ∧ c ≤ y ∧ y < c + (s : Int) then 1 else 0 := by
  by_cases h : A ∧ c ≤ y
  · have e : s_sum (fun w => if A ∧ y = c + (w : Int) - 1 then 1 else 0) s = s_sum (fun w => if w = (y - c + 1).toNat then 1 else 0) s := by
      refine s_sum_congr s fun w w1 w2 => ?_
      by_cases hq : w = (y - c + 1).toNat
      · rw [if_pos hq, if_pos ⟨h.1, by omega⟩]
      · rw [if_neg hq, if_neg (fun hh => hq (by omega))]
    rw [e, s_sum_one (by omega)]
    by_cases h2 : y < c + (s : Int)
    · rw [if_pos (by omega), if_pos ⟨h.1, h.2, h2⟩]
    · rw [if_neg (by omega), if_neg (fun hh => h2 hh.2.2)]
  · rw [if_neg (fun hh => h ⟨hh.1, hh.2.1⟩), s_sum_congr (g := fun _ => 0) s (fun w w1 w2 => if_neg (fun hh => h ⟨hh.1, by omega⟩)), s_sum_0]
theorem s_N_bij {P Q : Int → Bool} {a c : Int} {t s : Nat} (φ ψ : Int → Int) (h1 : ∀ v, a ≤ v → v < a + (t : Int) → P v = true → c ≤ ψ v ∧ ψ v < c + (s : Int) ∧ Q (ψ v) = true ∧ φ (ψ v) = v) (h2 : ∀ p, c ≤ p → p < c + (s : Int) → Q p = true → a ≤ φ p ∧ φ p < a + (t : Int) ∧ P (φ p) = true ∧ ψ (φ p) = p) : s_N P a t = s_N Q c s := by
  have e1 : s_N P a t = s_sum (fun u => s_sum (fun w => if P (a + (u : Int) - 1) = true ∧ ψ (a + (u : Int) - 1) = c + (w : Int) - 1 then 1 else 0) s) t := by
    refine s_sum_congr t fun u u1 u2 => ?_
    rw [s_sum_pick]
    cases hp : P (a + (u : Int) - 1)
    · rw [if_neg (fun hh => absurd hh.1 (by decide))]; rfl
    · have := h1 _ (by omega) (by omega) hp
      rw [if_pos ⟨rfl, this.1, this.2.1⟩]; rfl
  have e2 : s_N Q c s = s_sum (fun w => s_sum (fun u => if Q (c + (w : Int) - 1) = true ∧ φ (c + (w : Int) - 1) = a + (u : Int) - 1 then 1 else 0) t) s := by
    refine s_sum_congr s fun w w1 w2 => ?_
    rw [s_sum_pick]
    cases hq : Q (c + (w : Int) - 1)
    · rw [if_neg (fun hh => absurd hh.1 (by decide))]; rfl
    · have := h2 _ (by omega) (by omega) hq
      rw [if_pos ⟨rfl, this.1, this.2.1⟩]; rfl
  rw [e1, e2, s_sum_swap]
  refine s_sum_congr s fun w w1 w2 => s_sum_congr t fun u u1 u2 => ?_
  by_cases k1 : P (a + (u : Int) - 1) = true ∧ ψ (a + (u : Int) - 1) = c + (w : Int) - 1
  · have := h1 _ (by omega) (by omega) k1.1
    rw [k1.2] at this
    rw [if_pos k1, if_pos ⟨this.2.2.1, this.2.2.2⟩]
  · rw [if_neg k1]
    by_cases k2 : Q (c + (w : Int) - 1) = true ∧ φ (c + (w : Int) - 1) = a + (u : Int) - 1
    · have := h2 _ (by omega) (by omega) k2.1
      rw [k2.2] at this
      exact absurd ⟨this.2.2.1, this.2.2.2⟩ k1
    · rw [if_neg k2]
/-! labels round the circle, F and where from, round the circle -/
def s_lb (n : Nat) (v : Int) : Nat := ((v - 1) % (n : Int)).toNat + 1
def s_bq (n : Nat) (v : Int) : Int := v - (s_lb n v : Int)
theorem s_lb_rg {n : Nat} (hn : 0 < n) (v : Int) : 1 ≤ s_lb n v ∧ s_lb n v ≤ n := by
  have h1 := Int.emod_nonneg (v - 1) (show (n : Int) ≠ 0 by omega)
  have h2 := Int.emod_lt_of_pos (v - 1) (show (0 : Int) < n by omega)
  unfold s_lb; omega
theorem s_lb_of {n w : Nat} {k : Int} (h1 : 1 ≤ w) (h2 : w ≤ n) : s_lb n ((w : Int) + (n : Int) * k) = w := by
  unfold s_lb
  rw [show (w : Int) + (n : Int) * k - 1 = ((w : Int) - 1) + (n : Int) * k by omega, Int.add_mul_emod_self_left, Int.emod_eq_of_lt (by omega) (by omega)]
  omega
theorem s_bq_mul {n : Nat} (v : Int) (hn : 0 < n) : ∃ k, s_bq n v = (n : Int) * k := by
  refine ⟨(v - 1) / (n : Int), ?_⟩
  have h1 := Int.emod_nonneg (v - 1) (show (n : Int) ≠ 0 by omega)
  have := Int.emod_add_mul_ediv (v - 1) (n : Int)
  unfold s_bq s_lb
  omega
theorem s_lb_at {n w : Nat} {v z : Int} (hn : 0 < n) (h1 : 1 ≤ w) (h2 : w ≤ n) (hz : ∃ k, z = (n : Int) * k) (hv : v = (w : Int) + z) : s_lb n v = w ∧ s_bq n v = z := by
  obtain ⟨k, hk⟩ := hz
  have : s_lb n v = w := by rw [hv, hk]; exact s_lb_of h1 h2
  refine ⟨this, ?_⟩
  unfold s_bq
  rw [this]; omega
theorem s_mulp {n : Nat} {z : Int} (h : ∃ k, z = (n : Int) * k) : (∃ k, z + (n : Int) = (n : Int) * k) ∧ (∃ k, z - (n : Int) = (n : Int) * k) := by
  obtain ⟨k, hk⟩ := h
  exact ⟨⟨k + 1, by rw [hk, Int.mul_add, Int.mul_one]⟩, ⟨k - 1, by rw [hk, Int.mul_sub, Int.mul_one]⟩⟩
theorem s_lb_p {n : Nat} (hn : 0 < n) (v : Int) : s_lb n (v + (n : Int)) = s_lb n v ∧ s_bq n (v + (n : Int)) = s_bq n v + (n : Int) := by
  have r := s_lb_rg hn v
  exact s_lb_at hn r.1 r.2 (s_mulp (s_bq_mul v hn)).1 (by unfold s_bq; omega)
theorem s_lb_1 {n w : Nat} (h1 : 1 ≤ w) (h2 : w ≤ n) : s_lb n (w : Int) = w ∧ s_bq n (w : Int) = 0 :=
  s_lb_at (by omega) h1 h2 ⟨0, by rw [Int.mul_zero]⟩ (by omega)
def s_ff (n : Nat) (F : Nat → Nat) (a : Int) : Int := (F (s_lb n a) : Int) + s_bq n a
def s_gg (n : Nat) (F : Nat → Nat) (v : Int) : Int := (s_src n F n (s_lb n v) : Int) + s_bq n v - (if n < F (s_src n F n (s_lb n v)) then (n : Int) else 0)
theorem s_ff_p {n : Nat} (hn : 0 < n) (F : Nat → Nat) (a : Int) : s_ff n F (a + (n : Int)) = s_ff n F a + (n : Int) := by
  have := s_lb_p hn a
  unfold s_ff
  rw [this.1, this.2]; omega
theorem s_gg_p {n : Nat} (hn : 0 < n) (F : Nat → Nat) (a : Int) : s_gg n F (a + (n : Int)) = s_gg n F a + (n : Int) := by
  have := s_lb_p hn a
  unfold s_gg
  rw [this.1, this.2]; omega
theorem s_ff_bd {n : Nat} {F : Nat → Nat} (h : s_ok n F) (a : Int) : a ≤ s_ff n F a ∧ s_ff n F a ≤ a + (n : Int) := by
  have h0 := h.1
  have r := s_lb_rg (n := n) (by omega) a
  have := h.2.2.1 _ r.1 r.2
  have hb : s_bq n a = a - (s_lb n a : Int) := rfl
  unfold s_ff
  omega
theorem s_gg_ff {n : Nat} {F : Nat → Nat} (h : s_ok n F) (a : Int) : s_gg n F (s_ff n F a) = a := by
  have h0 := h.1
  have r := s_lb_rg (n := n) (by omega) a
  have ht := s_tg_le (s_ok_bd h) r.1 r.2
  have xt := s_src_at h n _ r.1 r.2 (Nat.le_refl n)
  have hb : s_bq n a = a - (s_lb n a : Int) := rfl
  have hq := s_bq_mul (n := n) a (by omega)
  by_cases hr : n < F (s_lb n a)
  · have et : s_tg n (F (s_lb n a)) = F (s_lb n a) - n := if_pos hr
    have := s_lb_at (n := n) (v := s_ff n F a) (by omega) ht.1 ht.2 (s_mulp hq).1 (by unfold s_ff; omega)
    unfold s_gg
    rw [this.1, this.2, xt, if_pos hr]; omega
  · have et : s_tg n (F (s_lb n a)) = F (s_lb n a) := if_neg hr
    have := s_lb_at (n := n) (v := s_ff n F a) (by omega) ht.1 ht.2 hq (by unfold s_ff; omega)
    unfold s_gg
    rw [this.1, this.2, xt, if_neg hr]; omega
theorem s_ff_gg {n : Nat} {F : Nat → Nat} (h : s_ok n F) (v : Int) : s_ff n F (s_gg n F v) = v := by
  have h0 := h.1
  have r := s_lb_rg (n := n) (by omega) v
  have sx := s_src_of h r.1 r.2
  have ab := s_src_bd h r.1 r.2
  have hb : s_bq n v = v - (s_lb n v : Int) := rfl
  have hq := s_bq_mul (n := n) v (by omega)
  by_cases hr : n < F (s_src n F n (s_lb n v))
  · have := s_lb_at (n := n) (v := s_gg n F v) (by omega) sx.1 sx.2.1 (s_mulp hq).2 (by unfold s_gg; rw [if_pos hr]; omega)
    unfold s_ff
    rw [this.1, this.2]; omega
  · have := s_lb_at (n := n) (v := s_gg n F v) (by omega) sx.1 sx.2.1 hq (by unfold s_gg; rw [if_neg hr]; omega)
    unfold s_ff
    rw [this.1, this.2]; omega
theorem s_gg_bd {n : Nat} {F : Nat → Nat} (h : s_ok n F) (v : Int) : s_gg n F v ≤ v ∧ v ≤ s_gg n F v + (n : Int) := by
  have := s_ff_bd h (s_gg n F v)
  rw [s_ff_gg h] at this
  omega
/-- how much of a stretch comes from before it -/
def s_rk (n : Nat) (F : Nat → Nat) (i : Int) (t : Nat) : Nat := s_N (fun v => decide (s_gg n F v < i)) i t
theorem s_flow {n : Nat} {F : Nat → Nat} (h : s_ok n F) (i : Int) (t : Nat) : s_rk n F i t = s_N (fun p => decide (i + (t : Int) ≤ s_ff n F p)) i t := by
  have e1 := s_N_not (fun v => decide (s_gg n F v < i)) i t
  have e2 := s_N_not (fun p => decide (i + (t : Int) ≤ s_ff n F p)) i t
  have e3 : s_N (fun v => !decide (s_gg n F v < i)) i t = s_N (fun p => !decide (i + (t : Int) ≤ s_ff n F p)) i t := by
    refine s_N_bij (s_ff n F) (s_gg n F) (fun v h1 h2 h3 => ?_) (fun p h1 h2 h3 => ?_)
    · have b := s_gg_bd h v
      simp only [Bool.not_eq_true', decide_eq_false_iff_not] at h3 ⊢
      rw [s_ff_gg h]
      exact ⟨by omega, by omega, by omega, rfl⟩
    · have b := s_ff_bd h p
      simp only [Bool.not_eq_true', decide_eq_false_iff_not] at h3 ⊢
      rw [s_gg_ff h]
      exact ⟨by omega, by omega, by omega, rfl⟩
  unfold s_rk
  omega
theorem s_rk_p {n : Nat} {F : Nat → Nat} (hn : 0 < n) (i : Int) (t : Nat) : s_rk n F (i + (n : Int)) t = s_rk n F i t := by
  unfold s_rk
  refine s_N_bij (fun p => p + (n : Int)) (fun v => v - (n : Int)) (fun v h1 h2 h3 => ?_) (fun p h1 h2 h3 => ?_)
  · have := s_gg_p hn F (v - (n : Int))
    rw [show v - (n : Int) + (n : Int) = v by omega] at this
    rw [decide_eq_true_iff] at h3 ⊢
    exact ⟨by omega, by omega, by omega, by omega⟩
  · have := s_gg_p hn F p
    rw [decide_eq_true_iff] at h3 ⊢
    exact ⟨by omega, by omega, by omega, by omega⟩
/-- a set round the circle -/
def s_hat (n S : Nat) (v : Int) : Bool := q_hl S (s_lb n v)
theorem s_hat_p {n : Nat} (hn : 0 < n) (S : Nat) (v : Int) : s_hat n S (v + (n : Int)) = s_hat n S v := by
  unfold s_hat; rw [(s_lb_p hn v).1]
theorem s_hat_Np {n : Nat} (hn : 0 < n) (S : Nat) (i : Int) (t : Nat) : s_N (s_hat n S) (i + (n : Int)) t = s_N (s_hat n S) i t := by
  refine s_N_bij (fun p => p + (n : Int)) (fun v => v - (n : Int)) (fun v h1 h2 h3 => ?_) (fun p h1 h2 h3 => ?_)
  · have := s_hat_p hn S (v - (n : Int))
    rw [show v - (n : Int) + (n : Int) = v by omega] at this
    exact ⟨by omega, by omega, by rw [← this]; exact h3, by omega⟩
  · exact ⟨by omega, by omega, by rw [s_hat_p hn]; exact h3, by omega⟩
theorem s_on_lb {n i u : Nat} (h1 : 1 ≤ i) (h2 : i ≤ n) (hu : u < n) : s_on n i u = s_lb n ((i : Int) + (u : Int)) := by
  unfold s_on
  by_cases h : i + u ≤ n
  · rw [if_pos h]
    have := (s_lb_1 (n := n) (w := i + u) (by omega) h).1
    rw [show ((i + u : Nat) : Int) = (i : Int) + (u : Int) by omega] at this
    exact this.symm
  · rw [if_neg h]
    have := (s_lb_at (n := n) (w := i + u - n) (v := (i : Int) + (u : Int)) (z := (n : Int)) (by omega) (by omega) (by omega) ⟨1, by rw [Int.mul_one]⟩ (by omega)).1
    exact this.symm
theorem s_al_go {s o i n : Nat} (h1 : 1 ≤ i) (h2 : i ≤ n) : ∀ (f t : Nat) (lead : Int), t + f = n → lead = (s_N (s_hat n s) (i : Int) t : Int) - (s_N (s_hat n o) (i : Int) t : Int) → (s_alGo s o i n f t lead = true ↔ ∀ u, t < u → u ≤ n → s_N (s_hat n s) (i : Int) u ≤ s_N (s_hat n o) (i : Int) u)
  | 0, t, lead, h, hl => ⟨fun _ u h3 h4 => by omega, fun _ => rfl⟩
  | f + 1, t, lead, h, hl => by
    have e1 : s_N (s_hat n s) (i : Int) (t + 1) = s_N (s_hat n s) (i : Int) t + (q_hl s (s_on n i t)).toNat := by
      rw [s_N_s]; unfold s_hat; rw [s_on_lb h1 h2 (by omega)]
    have e2 : s_N (s_hat n o) (i : Int) (t + 1) = s_N (s_hat n o) (i : Int) t + (q_hl o (s_on n i t)).toNat := by
      rw [s_N_s]; unfold s_hat; rw [s_on_lb h1 h2 (by omega)]
    have b1 : ∀ x : Bool, q_b2i x = (x.toNat : Int) := fun x => by cases x <;> rfl
    rw [s_alGo, b1, b1]
    by_cases hc : lead + (((q_hl s (s_on n i t)).toNat : Int) - ((q_hl o (s_on n i t)).toNat : Int)) ≤ 0
    · rw [if_pos hc, s_al_go h1 h2 f (t + 1) _ (by omega) (by omega)]
      refine ⟨fun hh u h3 h4 => ?_, fun hh u h3 h4 => hh u (by omega) h4⟩
      by_cases hu : u = t + 1
      · subst hu; omega
      · exact hh u (by omega) h4
    · rw [if_neg hc]
      refine ⟨fun hh => absurd hh (by decide), fun hh => ?_⟩
      have := hh (t + 1) (by omega) (by omega)
      omega
theorem s_al_N {s o i n : Nat} (h1 : 1 ≤ i) (h2 : i ≤ n) : s_atLeast s o i n = true ↔ ∀ u, u ≤ n → s_N (s_hat n s) (i : Int) u ≤ s_N (s_hat n o) (i : Int) u := by
  unfold s_atLeast
  rw [s_al_go h1 h2 n 0 0 (by omega) rfl]
  refine ⟨fun h u hu => ?_, fun h u _ hu => h u hu⟩
  by_cases h0 : u = 0
  · subst h0; exact Nat.le_refl _
  · exact h u (by omega) hu
/-- the necklace round the circle -/
theorem s_nk_hat {n i : Nat} {F : Nat → Nat} (h : s_ok n F) (h1 : 1 ≤ i) (h2 : i ≤ n) {v : Int} (v1 : (i : Int) ≤ v) (v2 : v < (i : Int) + (n : Int)) : s_hat n (s_nk n F i) v = decide (s_gg n F v < (i : Int)) := by
  have h0 := h.1
  have r := s_lb_rg (n := n) (by omega) v
  obtain ⟨m, rfl⟩ : ∃ m, i = m + 1 := ⟨i - 1, by omega⟩
  have hb : s_bq n v = v - (s_lb n v : Int) := rfl
  obtain ⟨k, hk⟩ := s_bq_mul (n := n) v (by omega)
  have sx := s_src_of h r.1 r.2
  have ab := s_src_bd h r.1 r.2
  unfold s_hat
  rw [Bool.eq_iff_iff, s_nk_hl h m (by omega) _ r.1 r.2, decide_eq_true_iff]
  unfold s_gg s_nkF
  have hk01 : k = 0 ∨ k = 1 := by
    have q1 : (n : Int) * k < (n : Int) * 2 := by omega
    have q2 : (n : Int) * (-1) < (n : Int) * k := by omega
    have := Int.lt_of_mul_lt_mul_left q1 (by omega)
    have := Int.lt_of_mul_lt_mul_left q2 (by omega)
    omega
  rcases hk01 with hk0 | hk0
  · rw [hk0, Int.mul_zero] at hk
    rw [if_pos (show m < s_lb n v by omega)]
    by_cases hr : n < F (s_src n F n (s_lb n v))
    · rw [if_pos hr]; omega
    · rw [if_neg hr]; omega
  · rw [hk0, Int.mul_one] at hk
    rw [if_neg (show ¬ m < s_lb n v by omega)]
    by_cases hr : n < F (s_src n F n (s_lb n v))
    · rw [if_pos hr]; omega
    · rw [if_neg hr]; omega
theorem s_nk_N {n i : Nat} {F : Nat → Nat} (h : s_ok n F) (h1 : 1 ≤ i) (h2 : i ≤ n) {t : Nat} (ht : t ≤ n) : s_N (s_hat n (s_nk n F i)) (i : Int) t = s_rk n F (i : Int) t :=
  s_N_congr fun v v1 v2 => s_nk_hat h h1 h2 v1 (by omega)
theorem s_hat_pc {n S : Nat} (hn : n ≤ 8) (h0 : 0 < n) (hS : S < 2 ^ n) : s_N (s_hat n S) 1 n = q_pc S := by
  have e : s_N (s_hat n S) 1 n = s_pcTo S n := by
    rw [← s_sum_pc]
    refine s_sum_congr n fun i h1 h2 => ?_
    unfold s_hat
    rw [show (1 : Int) + (i : Int) - 1 = (i : Int) by omega, (s_lb_1 h1 h2).1]
  rw [e, ← s_pcTo_8]
  have := s_pcTo_top (s := S) (i := n) (fun w w1 w2 => s_hln hS w1) (8 - n) (by omega)
  rw [show n + (8 - n) = 8 by omega] at this
  exact this.symm
theorem s_hat_all {n S : Nat} (h0 : 0 < n) : ∀ (u : Nat), s_N (s_hat n S) (1 + (u : Int)) n = s_N (s_hat n S) 1 n
  | 0 => by rw [show (1 : Int) + ((0 : Nat) : Int) = 1 by omega]
  | u + 1 => by
    have ih := s_hat_all (S := S) h0 u
    have e1 := s_N_add (s_hat n S) (1 + (u : Int)) 1 (n - 1)
    have e2 := s_N_add (s_hat n S) (1 + (u : Int) + 1) (n - 1) 1
    rw [show 1 + (n - 1) = n by omega] at e1
    rw [show n - 1 + 1 = n by omega] at e2
    have e3 : s_N (s_hat n S) (1 + (u : Int)) 1 = (s_hat n S (1 + (u : Int))).toNat := by rw [s_N_s, s_N_0]; simp
    have e4 : s_N (s_hat n S) (1 + (u : Int) + 1 + ((n - 1 : Nat) : Int)) 1 = (s_hat n S (1 + (u : Int))).toNat := by
      rw [s_N_s, s_N_0, show (1 : Int) + (u : Int) + 1 + ((n - 1 : Nat) : Int) + ((0 : Nat) : Int) = 1 + (u : Int) + (n : Int) by omega, s_hat_p h0]; simp
    rw [show (1 : Int) + ((u + 1 : Nat) : Int) = 1 + (u : Int) + 1 by omega]
    rw [show (1 : Int) + (u : Int) + ((1 : Nat) : Int) = 1 + (u : Int) + 1 by omega] at e1
    omega
/-- what a basis is, by counts -/
theorem s_bas_N {n S : Nat} {F : Nat → Nat} (h : s_ok n F) (hS : S < 2 ^ n) : s_bas n F S = true ↔ s_N (s_hat n S) 1 n = q_pc (s_n1 n F n) ∧ ∀ i, 1 ≤ i → i ≤ n → ∀ t, t ≤ n → s_N (s_hat n S) (i : Int) t ≤ s_rk n F (i : Int) t := by
  have h0 := h.1
  have hn := h.2.1
  have al : ∀ f, f ≤ n → (s_alN n F S f = true ↔ ∀ i, n - f < i → i ≤ n → ∀ t, t ≤ n → s_N (s_hat n S) (i : Int) t ≤ s_rk n F (i : Int) t) := by
    intro f
    induction f with
    | zero => intro _; exact ⟨fun _ i h1 h2 => by omega, fun _ => rfl⟩
    | succ f ih =>
      intro hf
      rw [s_alN, Bool.and_eq_true, ih (by omega), s_al_N (by omega) (by omega)]
      refine ⟨fun ⟨k1, k2⟩ i h1 h2 t ht => ?_, fun k => ⟨fun u hu => ?_, fun i h1 h2 => k i (by omega) h2⟩⟩
      · by_cases hi : i = n - f
        · subst hi
          have := k1 t ht
          rw [s_nk_N h (by omega) (by omega) ht] at this
          exact this
        · exact k2 i (by omega) h2 t ht
      · rw [s_nk_N h (by omega) (by omega) hu]
        exact k (n - f) (by omega) (by omega) u hu
  unfold s_bas s_isSet
  rw [Bool.and_eq_true, Bool.and_eq_true, decide_eq_true_iff, Int.toNat_natCast, beq_iff_eq, al n (Nat.le_refl n), s_hat_pc hn (by omega) hS]
  refine ⟨fun ⟨⟨_, k1⟩, k2⟩ => ⟨k1, fun i h1 h2 => k2 i (by omega) h2⟩, fun ⟨k1, k2⟩ => ⟨⟨⟨by omega, by omega, by omega⟩, k1⟩, fun i h1 h2 => k2 i (by omega) h2⟩⟩
