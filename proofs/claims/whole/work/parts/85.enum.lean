/-! howMany: all leaves weighed at once, and fast -/
def s_lw (n : Nat) (W : (Nat → Nat) → Nat) : Nat → (Nat → Nat) → Nat
  | 0, T => W T
  | r + 1, T => s_cntL (fun v => if s_free n T v 1 (n - r - 1) then s_lw n W r (s_put T (n - r) v) else 0) (n - r) (n + 1)
theorem s_cntL_congr {f g : Nat → Nat} : ∀ k v, (∀ x, v ≤ x → x < v + k → f x = g x) → s_cntL f v k = s_cntL g v k
  | 0, _, _ => rfl
  | k + 1, v, h => by
    unfold s_cntL
    rw [h v (Nat.le_refl _) (by omega), s_cntL_congr k (v + 1) (fun x h1 h2 => h x (by omega) (by omega))]
theorem s_lv_lw (n : Nat) (Q : (Nat → Nat) → Bool) : ∀ r T, s_lv n Q r T = s_lw n (fun T => (Q T).toNat) r T
  | 0, T => rfl
  | r + 1, T => by
    unfold s_lv s_lw
    refine s_cntL_congr _ _ (fun x _ _ => ?_)
    split
    · exact s_lv_lw n Q r _
    · rfl
theorem s_lw_congr {n : Nat} {W V : (Nat → Nat) → Nat} (h : ∀ T, (∀ k, 1 ≤ k → k ≤ n → k ≤ T k ∧ T k ≤ k + n) → W T = V T) : ∀ r T, r ≤ n → (∀ k, 1 ≤ k → k ≤ n - r → k ≤ T k ∧ T k ≤ k + n) → s_lw n W r T = s_lw n V r T
  | 0, T, _, hT => h T hT
  | r + 1, T, hr, hT => by
    unfold s_lw
    refine s_cntL_congr _ _ (fun x x1 x2 => ?_)
    split
    · refine s_lw_congr h r _ (by omega) (fun k k1 k2 => ?_)
      unfold s_put
      split
      · omega
      · exact hT k k1 (by omega)
    · rfl
theorem s_cntL_add (f g : Nat → Nat) : ∀ k v, s_cntL (fun x => f x + g x) v k = s_cntL f v k + s_cntL g v k
  | 0, _ => rfl
  | k + 1, v => by
    unfold s_cntL
    rw [s_cntL_add f g k (v + 1)]; omega
theorem s_cntL_mul (f : Nat → Nat) (c : Nat) : ∀ k v, s_cntL (fun x => f x * c) v k = s_cntL f v k * c
  | 0, _ => (Nat.zero_mul c).symm
  | k + 1, v => by
    unfold s_cntL
    rw [s_cntL_mul f c k (v + 1), Nat.add_mul]
theorem s_cntL_zero : ∀ k v, s_cntL (fun _ => 0) v k = 0
  | 0, _ => rfl
  | k + 1, v => by unfold s_cntL; rw [s_cntL_zero k (v + 1)]
def s_dig (f : Nat → Nat) (B : Nat) : Nat → Nat
  | 0 => 0
  | m + 1 => s_dig f B m + f m * B ^ m
theorem s_cntL_dig (f : Nat → Nat → Nat) (B : Nat) : ∀ m k v, s_cntL (fun x => s_dig (fun c => f c x) B m) v k = s_dig (fun c => s_cntL (f c) v k) B m
  | 0, k, v => s_cntL_zero k v
  | m + 1, k, v => by
    show s_cntL (fun x => s_dig (fun c => f c x) B m + f m x * B ^ m) v k = _
    rw [s_cntL_add, s_cntL_dig f B m, s_cntL_mul]
    rfl
theorem s_dig_congr {f g : Nat → Nat} (B : Nat) : ∀ m, (∀ c, c < m → f c = g c) → s_dig f B m = s_dig g B m
  | 0, _ => rfl
  | m + 1, h => by
    unfold s_dig
    rw [s_dig_congr B m (fun c hc => h c (by omega)), h m (by omega)]
theorem s_dig_0 (B : Nat) : ∀ m, s_dig (fun _ => 0) B m = 0
  | 0 => rfl
  | m + 1 => by unfold s_dig; rw [s_dig_0 B m, Nat.zero_mul]
theorem s_lw_dig (n B m : Nat) (f : Nat → (Nat → Nat) → Nat) : ∀ r T, s_lw n (fun T => s_dig (fun c => f c T) B m) r T = s_dig (fun c => s_lw n (f c) r T) B m
  | 0, T => rfl
  | r + 1, T => by
    have e : s_lw n (fun T => s_dig (fun c => f c T) B m) (r + 1) T = s_cntL (fun v => s_dig (fun c => if s_free n T v 1 (n - r - 1) then s_lw n (f c) r (s_put T (n - r) v) else 0) B m) (n - r) (n + 1) := by
      show s_cntL (fun v => if s_free n T v 1 (n - r - 1) then s_lw n (fun T => s_dig (fun c => f c T) B m) r (s_put T (n - r) v) else 0) (n - r) (n + 1) = _
      refine s_cntL_congr _ _ (fun x _ _ => ?_)
      by_cases h : s_free n T x 1 (n - r - 1) = true
      · rw [if_pos h, s_lw_dig n B m f r]
        exact s_dig_congr B m (fun c _ => (if_pos h).symm)
      · rw [if_neg h, s_dig_congr B m (g := fun _ => 0) (fun c _ => if_neg h), s_dig_0]
    rw [e, s_cntL_dig]
    rfl
theorem s_dig_lt {f : Nat → Nat} {B : Nat} : ∀ m, (∀ c, c < m → f c < B) → s_dig f B m < B ^ m
  | 0, _ => by show 0 < B ^ 0; rw [Nat.pow_zero]; decide
  | m + 1, h => by
    have h1 := s_dig_lt m (fun c hc => h c (by omega))
    have h2 := h m (by omega)
    have h3 : (f m + 1) * B ^ m ≤ B * B ^ m := Nat.mul_le_mul_right _ h2
    unfold s_dig
    rw [Nat.pow_succ, Nat.mul_comm (B ^ m) B]
    rw [Nat.add_mul, Nat.one_mul] at h3
    omega
theorem s_dig_inj {f g : Nat → Nat} {B : Nat} : ∀ m, (∀ c, c < m → f c < B) → (∀ c, c < m → g c < B) → s_dig f B m = s_dig g B m → ∀ c, c < m → f c = g c
  | 0, _, _, _, c, hc => absurd hc (by omega)
  | m + 1, hf, hg, h, c, hc => by
    have h1 := s_dig_lt m (fun c hc => hf c (Nat.lt_succ_of_lt hc))
    have h2 := s_dig_lt m (fun c hc => hg c (Nat.lt_succ_of_lt hc))
    unfold s_dig at h
    have hB : 0 < B ^ m := by omega
    have e1 : (s_dig f B m + f m * B ^ m) / B ^ m = f m := by rw [Nat.add_mul_div_right _ _ hB, Nat.div_eq_of_lt h1, Nat.zero_add]
    have e2 : (s_dig g B m + g m * B ^ m) / B ^ m = g m := by rw [Nat.add_mul_div_right _ _ hB, Nat.div_eq_of_lt h2, Nat.zero_add]
    have e3 : f m = g m := by rw [← e1, ← e2, h]
    by_cases hq : c = m
    · subst hq; exact e3
    · rw [e3] at h
      exact s_dig_inj m (fun c hc => hf c (by omega)) (fun c hc => hg c (by omega)) (Nat.add_right_cancel h) c (by omega)
theorem s_dig_one (B : Nat) {x : Nat} : ∀ m, s_dig (fun c => if x = c then 1 else 0) B m = if x < m then B ^ x else 0
  | 0 => by rw [if_neg (by omega)]; rfl
  | m + 1 => by
    unfold s_dig
    rw [s_dig_one B m]
    by_cases h : x = m
    · subst h; rw [if_neg (by omega), if_pos rfl, if_pos (by omega)]; omega
    · rw [if_neg h]
      by_cases h2 : x < m
      · rw [if_pos h2, if_pos (by omega)]; omega
      · rw [if_neg h2, if_neg (by omega)]; omega
theorem s_lw_le (n : Nat) (W : (Nat → Nat) → Nat) (hW : ∀ T, W T ≤ 1) : ∀ r T, s_lw n W r T ≤ (n + 1) ^ r
  | 0, T => hW T
  | r + 1, T => by
    refine Nat.le_trans (s_cntL_le (B := (n + 1) ^ r) (fun v => ?_) (n + 1) (n - r)) ?_
    · split
      · exact s_lw_le n W hW r _
      · exact Nat.zero_le _
    · rw [Nat.pow_succ, Nat.mul_comm]; exact Nat.le_refl _
/-! the fast search -/
def s_cn (n : Nat) (T : Nat → Nat) (v : Nat) : Nat → Nat
  | 0 => 0
  | k + 1 => s_cn n T v k + ((bif Nat.blt v (T (k + 1)) then 1 else 0) + (bif Nat.blt (T (k + 1) + n) v then 1 else 0))
def s_cnL (n v : Nat) : List Nat → Nat
  | [] => 0
  | u :: t => s_cnL n v t + ((bif Nat.blt v u then 1 else 0) + (bif Nat.blt (u + n) v then 1 else 0))
def s_frL (n v : Nat) : List Nat → Bool
  | [] => true
  | u :: t => bif Nat.beq (v % n) (u % n) then false else s_frL n v t
def s_pre (T : Nat → Nat) : Nat → List Nat
  | 0 => []
  | m + 1 => T (m + 1) :: s_pre T m
def s_en (n : Nat) : Nat → List Nat → Nat → Nat
  | 0, _, c => 2 ^ (22 * c)
  | r + 1, L, c => s_cntL (fun v => bif s_frL n v L then s_en n r (v :: L) (c + (s_cnL n v L + bif Nat.blt n v then 64 else 0)) else 0) (n - r) (n + 1)
def s_cd (n : Nat) (T : Nat → Nat) : Nat → Nat
  | 0 => 0
  | m + 1 => s_cd n T m + (s_cn n T (T (m + 1)) m + bif Nat.blt n (T (m + 1)) then 64 else 0)
theorem s_cnL_pre (n v : Nat) (T : Nat → Nat) : ∀ m, s_cnL n v (s_pre T m) = s_cn n T v m
  | 0 => rfl
  | m + 1 => by
    show s_cnL n v (s_pre T m) + _ = s_cn n T v m + _
    rw [s_cnL_pre n v T m]
theorem s_free_last (n v : Nat) (T : Nat → Nat) : ∀ f j, s_free n T v j (f + 1) = (s_free n T v j f && !decide (v % n = T (j + f) % n))
  | 0, j => by
    show (!decide (v % n = T j % n) && true) = (true && !decide (v % n = T (j + 0) % n))
    rw [Bool.and_true, Bool.true_and, Nat.add_zero]
  | f + 1, j => by
    show (!decide (v % n = T j % n) && s_free n T v (j + 1) (f + 1)) = ((!decide (v % n = T j % n) && s_free n T v (j + 1) f) && _)
    rw [s_free_last n v T f (j + 1), show j + 1 + f = j + (f + 1) by omega, Bool.and_assoc]
theorem s_frL_pre (n v : Nat) (T : Nat → Nat) : ∀ m, s_frL n v (s_pre T m) = s_free n T v 1 m
  | 0 => rfl
  | m + 1 => by
    rw [s_free_last, show 1 + m = m + 1 by omega]
    show (bif Nat.beq (v % n) (T (m + 1) % n) then false else s_frL n v (s_pre T m)) = _
    rw [s_frL_pre n v T m]
    by_cases h : v % n = T (m + 1) % n
    · rw [h, Nat.beq_refl, decide_eq_true rfl, Bool.not_true, Bool.and_false]; rfl
    · have hb : Nat.beq (v % n) (T (m + 1) % n) = false := Bool.eq_false_iff.mpr (fun hc => h (Nat.eq_of_beq_eq_true hc))
      rw [hb, decide_eq_false h, Bool.not_false, Bool.and_true]; rfl
theorem s_pre_put (T : Nat → Nat) (i v : Nat) : ∀ m, m < i → s_pre (s_put T i v) m = s_pre T m
  | 0, _ => rfl
  | m + 1, h => by
    show s_put T i v (m + 1) :: _ = T (m + 1) :: _
    rw [s_pre_put T i v m (by omega)]
    unfold s_put
    rw [if_neg (by omega)]
theorem s_cn_put (n : Nat) (T : Nat → Nat) (i v x : Nat) : ∀ m, m < i → s_cn n (s_put T i v) x m = s_cn n T x m
  | 0, _ => rfl
  | m + 1, h => by
    unfold s_cn
    rw [s_cn_put n T i v x m (by omega)]
    unfold s_put
    rw [if_neg (by omega)]
theorem s_cd_put (n : Nat) (T : Nat → Nat) (i v : Nat) : ∀ m, m < i → s_cd n (s_put T i v) m = s_cd n T m
  | 0, _ => rfl
  | m + 1, h => by
    unfold s_cd
    rw [s_cd_put n T i v m (by omega), s_cn_put n T i v _ m (by omega)]
    unfold s_put
    rw [if_neg (by omega)]
theorem s_en_lw (n : Nat) : ∀ r T, r ≤ n → s_en n r (s_pre T (n - r)) (s_cd n T (n - r)) = s_lw n (fun T => 2 ^ (22 * s_cd n T n)) r T
  | 0, T, _ => rfl
  | r + 1, T, h => by
    unfold s_en s_lw
    refine s_cntL_congr _ _ (fun v _ _ => ?_)
    have e1 := s_frL_pre n v T (n - (r + 1))
    have e2 := s_cnL_pre n v T (n - (r + 1))
    have e3 := s_en_lw n r (s_put T (n - r) v) (by omega)
    have e4 : s_pre (s_put T (n - r) v) (n - r) = v :: s_pre T (n - (r + 1)) := by
      have := s_pre_put T (n - r) v (n - (r + 1)) (by omega)
      rw [← this]
      have e : n - r = (n - (r + 1)) + 1 := by omega
      rw [e]
      show s_put T (n - (r + 1) + 1) v (n - (r + 1) + 1) :: _ = _
      rw [show s_put T (n - (r + 1) + 1) v (n - (r + 1) + 1) = v from if_pos rfl]
    have e5 : s_cd n (s_put T (n - r) v) (n - r) = s_cd n T (n - (r + 1)) + (s_cn n T v (n - (r + 1)) + bif Nat.blt n v then 64 else 0) := by
      have h1 := s_cd_put n T (n - r) v (n - (r + 1)) (by omega)
      have h2 := s_cn_put n T (n - r) v v (n - (r + 1)) (by omega)
      rw [← h1, ← h2]
      have e : n - r = (n - (r + 1)) + 1 := by omega
      rw [e]
      show _ + (s_cn n _ (s_put T (n - (r + 1) + 1) v (n - (r + 1) + 1)) _ + _) = _
      rw [show s_put T (n - (r + 1) + 1) v (n - (r + 1) + 1) = v from if_pos rfl]
    rw [e4, e5] at e3
    rw [show n - r - 1 = n - (r + 1) by omega, e1, e2, ← e3]
    cases s_free n T v 1 (n - (r + 1)) <;> rfl
theorem s_cn_sum (n : Nat) (T : Nat → Nat) (v : Nat) : ∀ m, s_cn n T v m = s_sum (fun k => (decide (v < T k)).toNat + (decide (T k + n < v)).toNat) m
  | 0 => rfl
  | m + 1 => by
    show s_cn n T v m + _ = s_sum _ m + _
    rw [s_cn_sum n T v m]
    have hb : ∀ a b : Nat, (bif Nat.blt a b then 1 else 0) = (decide (a < b)).toNat := by
      intro a b
      by_cases h : a < b
      · rw [show Nat.blt a b = true from Nat.ble_eq_true_of_le h, decide_eq_true h]; rfl
      · rw [show Nat.blt a b = false from Bool.eq_false_iff.mpr (fun hc => h (Nat.le_of_ble_eq_true hc)), decide_eq_false h]; rfl
    rw [hb, hb]
theorem s_cd_sum (n : Nat) (T : Nat → Nat) : ∀ m, s_cd n T m = 64 * s_abv T n m + s_sum (fun u => s_cn n T (T u) (u - 1)) m
  | 0 => rfl
  | m + 1 => by
    show s_cd n T m + _ = 64 * (s_abv T n m + _) + (s_sum _ m + s_cn n T (T (m + 1)) (m + 1 - 1))
    rw [s_cd_sum n T m, show m + 1 - 1 = m by omega]
    by_cases h : n < T (m + 1)
    · rw [show Nat.blt n (T (m + 1)) = true from Nat.ble_eq_true_of_le h, if_pos h]
      show _ + (_ + 64) = _
      omega
    · rw [show Nat.blt n (T (m + 1)) = false from Bool.eq_false_iff.mpr (fun hc => h (Nat.le_of_ble_eq_true hc)), if_neg h]
      show _ + (_ + 0) = _
      omega
theorem s_sum_part (g : Nat → Nat) {m : Nat} : ∀ f, s_sum (fun v => if v ≤ m then g v else 0) (m + f) = s_sum g m
  | 0 => s_sum_congr m (fun v _ h => if_pos h)
  | f + 1 => by
    show s_sum (fun v => if v ≤ m then g v else 0) (m + f) + _ = _
    rw [s_sum_part g f]
    show s_sum g m + (if m + f + 1 ≤ m then g (m + f + 1) else 0) = _
    rw [if_neg (by omega), Nat.add_zero]
theorem s_cd_inv {n : Nat} {T : Nat → Nat} (hn : n ≤ 8) (h1 : 1 ≤ n) (hT : ∀ k, 1 ≤ k → k ≤ n → k ≤ T k ∧ T k ≤ k + n) : s_cd n T n = 64 * s_abv T n n + s_inv T n := by
  rw [s_cd_sum, s_inv_sum ⟨hn, hT⟩ h1]
  congr 1
  unfold s_I1 s_I2
  rw [s_sum_swap (fun u v => (decide (u < v) && decide (T v < T u)).toNat) n n, ← s_sum_add]
  refine s_sum_congr n (fun u u1 u2 => ?_)
  rw [s_cn_sum, ← s_sum_part (m := u - 1) _ (n - (u - 1)), show u - 1 + (n - (u - 1)) = n by omega, ← s_sum_add]
  refine s_sum_congr n (fun v v1 v2 => ?_)
  have b1 := hT u u1 u2
  have b2 := hT v v1 v2
  by_cases h : v ≤ u - 1
  · rw [if_pos h, decide_eq_true (show v < u by omega), Bool.true_and]
  · rw [if_neg h, decide_eq_false (show ¬ v < u by omega), Bool.false_and, decide_eq_false (show ¬ T v + n < T u by omega)]; rfl
/-- the counts out of the one number -/
theorem s_how_cnt {n size : Nat} {dim : Int} {lit : Nat → Nat} (hn : n ≤ 7) (h2 : 1 ≤ n) (hs : size ≤ n) (hd : 0 ≤ dim) (hl : ∀ c, c < 512 → lit c < 2 ^ 22) (hx : s_en n n [] 0 = s_dig lit (2 ^ 22) 512) : s_lv n (s_Q n size dim) n (fun _ => 0) = if dim ≤ ((size * (n - size) : Nat) : Int) then lit (64 * size + (size * (n - size) - dim.toNat)) else 0 := by
  have hsz : size * (n - size) ≤ 12 := by
    have : ∀ a : Nat, a ≤ 7 → ∀ c : Nat, c ≤ 7 → a + c ≤ 7 → a * c ≤ 12 := by decide
    exact this size (by omega) (n - size) (by omega) (by omega)
  have total : s_dig (fun c => s_lw n (fun T => if s_cd n T n = c then 1 else 0) n (fun _ => 0)) (2 ^ 22) 512 = s_dig lit (2 ^ 22) 512 := by
    rw [← hx, ← s_lw_dig]
    have e := s_en_lw n n (fun _ => 0) (Nat.le_refl n)
    rw [Nat.sub_self] at e
    refine Eq.trans ?_ e.symm
    refine s_lw_congr (fun T hT => ?_) n _ (Nat.le_refl n) (fun k k1 k2 => by omega)
    rw [s_dig_one, Nat.pow_mul, if_pos]
    have hc := s_cd_inv (by omega) h2 hT
    have h3 := s_inv_le T n (by omega)
    have h4 := s_abv_le T n n
    omega
  have each := s_dig_inj 512 (fun c _ => Nat.lt_of_le_of_lt (s_lw_le n _ (fun T => by split <;> omega) n _) (Nat.lt_of_le_of_lt (Nat.le_trans (Nat.pow_le_pow_left (show n + 1 ≤ 8 by omega) n) (Nat.pow_le_pow_right (by decide) hn)) (show 8 ^ 7 < 2 ^ 22 by decide))) hl total
  rw [s_lv_lw]
  by_cases h : dim ≤ ((size * (n - size) : Nat) : Int)
  · rw [if_pos h, ← each _ (by omega)]
    refine s_lw_congr (fun T hT => ?_) n _ (Nat.le_refl n) (fun k k1 k2 => by omega)
    have hc := s_cd_inv (by omega) h2 hT
    have h3 := s_inv_le T n (by omega)
    unfold s_Q
    by_cases hq : s_abv T n n = size ∧ ((size * (n - size) : Nat) : Int) - (s_inv T n : Int) = dim
    · rw [decide_eq_true hq, if_pos (by omega)]; rfl
    · rw [decide_eq_false hq, if_neg (by omega)]; rfl
  · rw [if_neg h]
    have e : s_lw n (fun T => (s_Q n size dim T).toNat) n (fun _ => 0) = s_lw n (fun T => s_dig (fun _ => 0) 1 0) n (fun _ => 0) := by
      refine s_lw_congr (fun T hT => ?_) n _ (Nat.le_refl n) (fun k k1 k2 => by omega)
      unfold s_Q
      rw [decide_eq_false (by omega)]; rfl
    rw [e, s_lw_dig n 1 0 (fun _ _ => 0)]
    rfl
