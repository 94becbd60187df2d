/-! howMany: the model tries all -/
def s_free (n : Nat) (T : Nat → Nat) (v : Nat) : Nat → Nat → Bool
  | _, 0 => true
  | j, f + 1 => !decide (v % n = T j % n) && s_free n T v (j + 1) f
def s_abv (T : Nat → Nat) (n : Nat) : Nat → Nat
  | 0 => 0
  | m + 1 => s_abv T n m + (if n < T (m + 1) then 1 else 0)
def s_Q (n size : Nat) (dim : Int) (T : Nat → Nat) : Bool := decide (s_abv T n n = size ∧ ((size * (n - size) : Nat) : Int) - (s_inv T n : Int) = dim)
def s_cntL (f : Nat → Nat) : Nat → Nat → Nat
  | _, 0 => 0
  | v, g + 1 => f v + s_cntL f (v + 1) g
def s_put (T : Nat → Nat) (i v : Nat) (k : Nat) : Nat := if k = i then v else T k
def s_lv (n : Nat) (Q : (Nat → Nat) → Bool) : Nat → (Nat → Nat) → Nat
  | 0, T => (Q T).toNat
  | r + 1, T => s_cntL (fun v => if s_free n T v 1 (n - r - 1) then s_lv n Q r (s_put T (n - r) v) else 0) (n - r) (n + 1)
theorem s_cntL_le {f : Nat → Nat} {B : Nat} (h : ∀ v, f v ≤ B) : ∀ g v, s_cntL f v g ≤ g * B
  | 0, v => Nat.zero_le _
  | g + 1, v => by
    have := s_cntL_le h g (v + 1)
    have := h v
    unfold s_cntL
    rw [Nat.succ_mul]; omega
theorem s_lv_le (n : Nat) (Q : (Nat → Nat) → Bool) : ∀ r T, s_lv n Q r T ≤ (n + 1) ^ r
  | 0, T => by
    show (Q T).toNat ≤ 1
    cases Q T <;> decide
  | r + 1, T => by
    refine Nat.le_trans (s_cntL_le (B := (n + 1) ^ r) (fun v => ?_) (n + 1) (n - r)) ?_
    · split
      · exact s_lv_le n Q r _
      · exact Nat.zero_le _
    · rw [Nat.pow_succ, Nat.mul_comm]; exact Nat.le_refl _
theorem s_remd : ∀ n : Nat, n < 8 → 0 < n → ∀ a : Nat, a < 16 → ∀ c : Nat, c < 16 → (q_rem (q_w ((a : Int) - (c : Int))) (n : Int) = 0 ↔ a % n = c % n) := by decide +kernel
theorem c_Md_isFreeGo {n i v : Nat} {T : Nat → Nat} (hn : n < 8) (h0 : 0 < n) (hi : i ≤ n) (hv : v < 16) (hT : ∀ k, 1 ≤ k → k < i → T k < 16) {d : qD} {b : Nat} (eT : ∀ k, 1 ≤ k → k < i → d.1 t_mTried 0 k = (T k : Int)) (ev : d.1 t_mTried 0 i = (v : Int)) : ∀ (f j : Nat), j + f = i → 1 ≤ j → q_Ev m_Md_isFree 2 [q_r t_Md 0, q_i (i : Int), q_i (n : Int), q_i (j : Int)] [] (q_mk d b) (q_i (q_b2i (s_free n T v j f)), q_mk d b)
  | 0, j, hf, h1 => e_Md_isFree_2 ⟨fun _ => ⟨by decide, by decide, rfl⟩, fun hh => by omega⟩
  | f + 1, j, hf, h1 => by
    refine e_Md_isFree_2 ⟨fun hh => by omega, fun _ => ⟨by omega, by omega, by omega, by omega, by omega, ?_⟩⟩
    rw [Int.toNat_natCast, Int.toNat_natCast, ev, eT j h1 (by omega)]
    have hr := s_remd n hn h0 v hv (T j) (hT j h1 (by omega))
    unfold s_free
    by_cases hq : v % n = T j % n
    · rw [decide_eq_true hq]
      exact ⟨fun hh => absurd (hr.mpr hq) hh, fun _ => ⟨by decide, by decide, rfl⟩⟩
    · rw [decide_eq_false hq]
      refine ⟨fun _ => ?_, fun hh => absurd (hr.mp hh) hq⟩
      rw [q_wS (by omega)]
      exact c_Md_isFreeGo hn h0 hi hv hT eT ev f (j + 1) (by omega) (by omega)
theorem s_abv_le (T : Nat → Nat) (n : Nat) : ∀ m, s_abv T n m ≤ m
  | 0 => Nat.le_refl _
  | m + 1 => by
    have := s_abv_le T n m
    unfold s_abv
    split <;> omega
theorem c_Md_isOneGo {n size : Nat} {dim : Int} {T : Nat → Nat} (hn : n < 8) (hs : size ≤ n) (hd : 0 ≤ dim) (hd2 : dim < 2147483648) (hT : ∀ k, 1 ≤ k → k ≤ n → T k < 16) {d : qD} {b : Nat} (eT : s_row (d.1 t_mTried 0) n T) : ∀ (f m : Nat), m + f = n → q_Ev m_Md_isOne 4 [q_r t_Md 0, q_i (n : Int), q_i (size : Int), q_i dim, q_i (s_abv T n m : Int), q_i ((m + 1 : Nat) : Int)] [] (q_mk d b) (q_i (q_b2i (s_Q n size dim T)), q_mk d b)
  | 0, m, hf => by
    have hm : m = n := by omega
    subst hm
    have hiv := s_inv_le T m (by omega)
    have hab := s_abv_le T m m
    have hsz : size * (m - size) ≤ 7 * 7 := Nat.mul_le_mul (by omega) (by omega)
    have no : ¬ (s_abv T m m = size ∧ ((size * (m - size) : Nat) : Int) - (s_inv T m : Int) = dim) → q_Ev m_Md_isOne 38 [none, none, none, none, none, none] [] (q_mk d b) (q_i (q_b2i (s_Q m size dim T)), q_mk d b) := by
      intro h
      unfold s_Q
      rw [decide_eq_false h]
      exact e_Md_isOne_38 (e_Md_isOne_39 ⟨by decide, by decide, rfl⟩)
    refine e_Md_isOne_4 ⟨fun _ => ⟨fun hh => no (fun hc => hh (by rw [hc.1])), fun hh => ⟨_, _, c_Md_inv_t (by omega) (fun k k1 k2 => by have := hT k k1 k2; omega) eT, ?_⟩⟩, fun hh => by omega⟩
    have ew : q_w ((size : Int) * (q_w ((m : Int) - (size : Int)))) = ((size * (m - size) : Nat) : Int) := by
      rw [q_wD hs (by omega), ← Int.natCast_mul, q_w_id (by omega) (by omega)]
    have ew2 : q_w (((size * (m - size) : Nat) : Int) - (s_inv T m : Int)) = ((size * (m - size) : Nat) : Int) - (s_inv T m : Int) := q_w_id (by omega) (by omega)
    rw [ew]
    refine e_Md_isOne_33 ⟨fun h2 => no (fun hc => h2 (by rw [ew2]; exact hc.2)), fun h2 => ?_⟩
    rw [ew2] at h2
    unfold s_Q
    rw [decide_eq_true ⟨by omega, h2⟩]
    exact e_Md_isOne_39 ⟨by decide, by decide, rfl⟩
  | f + 1, m, hf => by
    have hab := s_abv_le T n m
    have k := c_Md_isOneGo hn hs hd hd2 hT (b := b) eT f (m + 1) (by omega)
    have go : ∀ z : Nat, s_abv T n (m + 1) = s_abv T n m + z → z ≤ 1 → q_Ev m_Md_isOne 17 [q_r t_Md 0, q_i (n : Int), q_i (size : Int), q_i dim, none, q_i ((m + 1 : Nat) : Int)] [.inl (z : Int), .inl (s_abv T n m : Int)] (q_mk d b) (q_i (q_b2i (s_Q n size dim T)), q_mk d b) := by
      intro z hz hz1
      refine e_Md_isOne_17 ?_
      rw [q_wS (by omega), q_w_id (by omega) (by omega)]
      rw [hz] at k
      exact k
    refine e_Md_isOne_4 ⟨fun hh => by omega, fun _ => ⟨by omega, by omega, ?_⟩⟩
    rw [Int.toNat_natCast, eT (m + 1) (by omega) (by omega)]
    refine ⟨fun hh => go 0 ?_ (by omega), fun hh => go 1 ?_ (by omega)⟩
    · show s_abv T n m + _ = _
      rw [if_neg (by omega)]
    · show s_abv T n m + _ = _
      rw [if_pos (by omega)]
theorem c_Md_isOne {n size : Nat} {dim : Int} {T : Nat → Nat} (hn : n < 8) (hs : size ≤ n) (hd : 0 ≤ dim) (hd2 : dim < 2147483648) (hT : ∀ k, 1 ≤ k → k ≤ n → T k < 16) {d : qD} {b : Nat} (eT : s_row (d.1 t_mTried 0) n T) : q_Ev m_Md_isOne 0 [q_r t_Md 0, q_i (n : Int), q_i (size : Int), q_i dim, none, none] [] (q_mk d b) (q_i (q_b2i (s_Q n size dim T)), q_mk d b) := e_Md_isOne_0 (c_Md_isOneGo hn hs hd hd2 hT eT n 0 (by omega))
/-- one level of the search -/
theorem c_Md_howLevel {n size : Nat} {dim : Int} (hn : n < 8) (h2 : 2 ≤ n) (hs : size ≤ n) (hd : 0 ≤ dim) (hd2 : dim < 2147483648) {b : Nat} : ∀ (r : Nat), r < n → ∀ (g v : Nat) (T : Nat → Nat) (d : qD) (m : Nat), v + g = n - r + n + 1 → n - r ≤ v → (∀ k, 1 ≤ k → k < n - r → T k < 16) → (∀ k, 1 ≤ k → k < n - r → d.1 t_mTried 0 k = (T k : Int)) → d.1 t_mTried 0 (n - r) = (v : Int) - 1 → m + s_cntL (fun v => if s_free n T v 1 (n - r - 1) then s_lv n (s_Q n size dim) r (s_put T (n - r) v) else 0) v g < 2147483648 → ∃ d', q_ag [t_mTried] d d' ∧ (∀ k, 1 ≤ k → k < n - r → d'.1 t_mTried 0 k = (T k : Int)) ∧ ∀ res, q_Ev m_Md_howMany 26 [q_r t_Md 0, q_i (n : Int), q_i (size : Int), q_i dim, q_i ((m + s_cntL (fun v => if s_free n T v 1 (n - r - 1) then s_lv n (s_Q n size dim) r (s_put T (n - r) v) else 0) v g : Nat) : Int), q_i ((n - r - 1 : Nat) : Int)] [] (q_mk d' b) res → q_Ev m_Md_howMany 26 [q_r t_Md 0, q_i (n : Int), q_i (size : Int), q_i dim, q_i (m : Int), q_i ((n - r : Nat) : Int)] [] (q_mk d b) res := by
  intro r
  induction r with
  | zero =>
    intro hr g
    induction g with
    | zero =>
      intro v T d m hv hv2 hT eT ev hm
      refine ⟨q_sI d t_mTried 0 (n - 0) (v : Int), q_ag_sI (by decide), fun k k1 k2 => by rw [q_sI_at, q_up_ne _ _ (by omega)]; exact eT k k1 k2, fun res hres => e_Md_howMany_26 ⟨fun hh => by omega, fun _ => ⟨by omega, by omega, by omega, by omega, by omega, by omega, fun hh => ?_, fun hh => ?_⟩⟩⟩
      · rw [Int.toNat_natCast, ev, show (v : Int) - 1 + 1 = (v : Int) by omega, q_w_id (by omega) (by omega), q_sI_at, q_up_at, q_w_id (by omega) (by omega)] at hh
        omega
      · rw [Int.toNat_natCast, ev, show (v : Int) - 1 + 1 = (v : Int) by omega, q_w_id (x := (v : Int)) (by omega) (by omega), show ((n - 0 : Nat) : Int) + (-1) = ((n - 0 : Nat) : Int) - ((1 : Nat) : Int) by omega, q_wD (by omega) (by omega)]
        exact hres
    | succ g ih =>
      intro v T d m hv hv2 hT eT ev hm
      have hT' : ∀ k, 1 ≤ k → k ≤ n → s_put T n v k < 16 := by
        intro k k1 k2
        unfold s_put
        split
        · omega
        · exact hT k k1 (by omega)
      have eP : ∀ d1 : qD, d1 = q_sI d t_mTried 0 n (v : Int) → s_row (d1.1 t_mTried 0) n (s_put T n v) := by
        intro d1 hd1 k k1 k2
        subst hd1
        rw [q_sI_at]
        unfold s_put
        by_cases hk : k = n
        · subst hk; rw [q_up_at, if_pos rfl]
        · rw [q_up_ne _ _ hk, if_neg hk]; exact eT k k1 (by omega)
      have fr := c_Md_isFreeGo (n := n) (i := n) (v := v) (T := T) hn (by omega) (Nat.le_refl _) (by omega) hT (d := q_sI d t_mTried 0 n (v : Int)) (b := b) (fun k k1 k2 => by rw [q_sI_at, q_up_ne _ _ (by omega)]; exact eT k k1 k2) (by rw [q_sI_at, q_up_at]) (n - 1) 1 (by omega) (by omega)
      have hc : s_cntL (fun v => if s_free n T v 1 (n - 0 - 1) then s_lv n (s_Q n size dim) 0 (s_put T (n - 0) v) else 0) v (g + 1) = (if s_free n T v 1 (n - 1) then (s_Q n size dim (s_put T n v)).toNat else 0) + s_cntL (fun v => if s_free n T v 1 (n - 0 - 1) then s_lv n (s_Q n size dim) 0 (s_put T (n - 0) v) else 0) (v + 1) g := rfl
      rw [hc] at hm ⊢
      obtain ⟨d', a, o, k⟩ := ih (v + 1) T (q_sI d t_mTried 0 n (v : Int)) (m + (if s_free n T v 1 (n - 1) then (s_Q n size dim (s_put T n v)).toNat else 0)) (by omega) (by omega) hT (fun k k1 k2 => by rw [q_sI_at, q_up_ne _ _ (by omega)]; exact eT k k1 k2) (by rw [show n - 0 = n from rfl, q_sI_at, q_up_at]; omega) (by omega)
      refine ⟨d', q_ag_tr (q_ag_sI (by decide)) a, o, fun res hres => e_Md_howMany_26 ⟨fun hh => by omega, fun _ => ⟨by omega, by omega, by omega, by omega, by omega, by omega, fun hh => ?_, fun hh => ?_⟩⟩⟩
      · rw [Int.toNat_natCast, ev, show (v : Int) - 1 + 1 = (v : Int) by omega, q_w_id (by omega) (by omega)]
        refine ⟨_, _, e_Md_isFree_0 fr, ?_⟩
        have k2 := k res (by rw [Nat.add_assoc]; exact hres)
        by_cases hf : s_free n T v 1 (n - 1) = true
        · rw [if_pos hf] at k2
          rw [hf]
          refine e_Md_howMany_50 ⟨fun _ => ⟨fun hx => absurd rfl hx, fun _ => ⟨_, _, c_Md_isOne hn hs hd hd2 hT' (eP _ rfl), ?_⟩⟩, fun hx => absurd hx (by decide)⟩
          cases hQ : s_Q n size dim (s_put T n v) with
          | true =>
            rw [hQ] at k2
            refine e_Md_howMany_61 ⟨fun hx => absurd hx (by decide), fun _ => e_Md_howMany_65 ?_⟩
            rw [if_pos hf, hQ] at hm
            rw [q_wS (by simp only [Bool.toNat_true] at hm; omega)]
            exact k2
          | false =>
            rw [hQ] at k2
            refine e_Md_howMany_61 ⟨fun _ => e_Md_howMany_65 ?_, fun hx => absurd rfl hx⟩
            rw [Int.add_zero, q_w_id (by omega) (by omega)]
            exact k2
        · rw [if_neg hf] at k2
          rw [Bool.eq_false_iff.mpr hf]
          exact e_Md_howMany_50 ⟨fun hx => absurd rfl hx, fun _ => k2⟩
      · rw [Int.toNat_natCast, ev, show (v : Int) - 1 + 1 = (v : Int) by omega, q_w_id (by omega) (by omega), q_sI_at, q_up_at, q_w_id (by omega) (by omega)] at hh
        omega
  | succ r ihr =>
    intro hr g
    induction g with
    | zero =>
      intro v T d m hv hv2 hT eT ev hm
      refine ⟨q_sI d t_mTried 0 (n - (r + 1)) (v : Int), q_ag_sI (by decide), fun k k1 k2 => by rw [q_sI_at, q_up_ne _ _ (by omega)]; exact eT k k1 k2, fun res hres => e_Md_howMany_26 ⟨fun hh => by omega, fun _ => ⟨by omega, by omega, by omega, by omega, by omega, by omega, fun hh => ?_, fun hh => ?_⟩⟩⟩
      · rw [Int.toNat_natCast, ev, show (v : Int) - 1 + 1 = (v : Int) by omega, q_w_id (by omega) (by omega), q_sI_at, q_up_at, q_w_id (by omega) (by omega)] at hh
        omega
      · rw [Int.toNat_natCast, ev, show (v : Int) - 1 + 1 = (v : Int) by omega, q_w_id (x := (v : Int)) (by omega) (by omega), show ((n - (r + 1) : Nat) : Int) + (-1) = ((n - (r + 1) : Nat) : Int) - ((1 : Nat) : Int) by omega, q_wD (by omega) (by omega)]
        exact hres
    | succ g ih =>
      intro v T d m hv hv2 hT eT ev hm
      have fr := c_Md_isFreeGo (n := n) (i := n - (r + 1)) (v := v) (T := T) hn (by omega) (by omega) (by omega) hT (d := q_sI d t_mTried 0 (n - (r + 1)) (v : Int)) (b := b) (fun k k1 k2 => by rw [q_sI_at, q_up_ne _ _ (by omega)]; exact eT k k1 k2) (by rw [q_sI_at, q_up_at]) (n - (r + 1) - 1) 1 (by omega) (by omega)
      have hc : s_cntL (fun v => if s_free n T v 1 (n - (r + 1) - 1) then s_lv n (s_Q n size dim) (r + 1) (s_put T (n - (r + 1)) v) else 0) v (g + 1) = (if s_free n T v 1 (n - (r + 1) - 1) then s_lv n (s_Q n size dim) (r + 1) (s_put T (n - (r + 1)) v) else 0) + s_cntL (fun v => if s_free n T v 1 (n - (r + 1) - 1) then s_lv n (s_Q n size dim) (r + 1) (s_put T (n - (r + 1)) v) else 0) (v + 1) g := rfl
      rw [hc] at hm ⊢
      by_cases hf : s_free n T v 1 (n - (r + 1) - 1) = true
      · rw [if_pos hf] at hm ⊢
        have el : s_lv n (s_Q n size dim) (r + 1) (s_put T (n - (r + 1)) v) = s_cntL (fun w => if s_free n (s_put T (n - (r + 1)) v) w 1 (n - r - 1) then s_lv n (s_Q n size dim) r (s_put (s_put T (n - (r + 1)) v) (n - r) w) else 0) (n - r) (n + 1) := rfl
        obtain ⟨d1, a1, o1, k1⟩ := ihr (by omega) (n + 1) (n - r) (s_put T (n - (r + 1)) v) (q_sI (q_sI d t_mTried 0 (n - (r + 1)) (v : Int)) t_mTried 0 (n - r) ((n - r : Nat) - 1 : Int)) m (by omega) (Nat.le_refl _) (fun k x1 x2 => by
          unfold s_put
          split
          · omega
          · exact hT k x1 (by omega)) (fun k x1 x2 => by
          rw [q_sI_at, q_up_ne _ _ (by omega), q_sI_at]
          unfold s_put
          by_cases hk : k = n - (r + 1)
          · rw [hk, q_up_at, if_pos rfl]
          · rw [q_up_ne _ _ hk, if_neg hk]; exact eT k x1 (by omega)) (by rw [q_sI_at, q_up_at]) (by rw [← el]; omega)
        rw [← el] at k1
        obtain ⟨d', a, o, k⟩ := ih (v + 1) T d1 (m + s_lv n (s_Q n size dim) (r + 1) (s_put T (n - (r + 1)) v)) (by omega) (by omega) hT (fun k x1 x2 => by
          rw [o1 k x1 (by omega)]
          unfold s_put
          rw [if_neg (by omega)]) (by
          rw [o1 _ (by omega) (by omega)]
          unfold s_put
          rw [if_pos rfl]; omega) (by omega)
        refine ⟨d', q_ag_tr (q_ag_sI (by decide)) (q_ag_tr (q_ag_sI (by decide)) (q_ag_tr a1 a)), o, fun res hres => e_Md_howMany_26 ⟨fun hh => by omega, fun _ => ⟨by omega, by omega, by omega, by omega, by omega, by omega, fun hh => ?_, fun hh => ?_⟩⟩⟩
        · rw [Int.toNat_natCast, ev, show (v : Int) - 1 + 1 = (v : Int) by omega, q_w_id (by omega) (by omega)]
          refine ⟨_, _, e_Md_isFree_0 fr, ?_⟩
          rw [hf]
          refine e_Md_howMany_50 ⟨fun _ => ⟨fun _ => ?_, fun hx => by omega⟩, fun hx => absurd hx (by decide)⟩
          have e1 : q_w (((n - (r + 1) : Nat) : Int) + 1) = ((n - r : Nat) : Int) := by rw [q_wS (by omega), show n - (r + 1) + 1 = n - r by omega]
          rw [e1, q_w_id (x := ((n - r : Nat) : Int) - 1) (by omega) (by omega), Int.toNat_natCast]
          refine ⟨by omega, by omega, k1 res ?_⟩
          rw [show n - r - 1 = n - (r + 1) by omega]
          exact k res (by rw [Nat.add_assoc]; exact hres)
        · rw [Int.toNat_natCast, ev, show (v : Int) - 1 + 1 = (v : Int) by omega, q_w_id (by omega) (by omega), q_sI_at, q_up_at, q_w_id (by omega) (by omega)] at hh
          omega
      · rw [if_neg hf] at hm ⊢
        obtain ⟨d', a, o, k⟩ := ih (v + 1) T (q_sI d t_mTried 0 (n - (r + 1)) (v : Int)) m (by omega) (by omega) hT (fun k x1 x2 => by rw [q_sI_at, q_up_ne _ _ (by omega)]; exact eT k x1 x2) (by rw [q_sI_at, q_up_at]; omega) (by omega)
        refine ⟨d', q_ag_tr (q_ag_sI (by decide)) a, o, fun res hres => e_Md_howMany_26 ⟨fun hh => by omega, fun _ => ⟨by omega, by omega, by omega, by omega, by omega, by omega, fun hh => ?_, fun hh => ?_⟩⟩⟩
        · rw [Int.toNat_natCast, ev, show (v : Int) - 1 + 1 = (v : Int) by omega, q_w_id (by omega) (by omega)]
          refine ⟨_, _, e_Md_isFree_0 fr, ?_⟩
          rw [Bool.eq_false_iff.mpr hf]
          exact e_Md_howMany_50 ⟨fun hx => absurd rfl hx, fun _ => k res (by rw [← Nat.zero_add (s_cntL _ _ _)]; exact hres)⟩
        · rw [Int.toNat_natCast, ev, show (v : Int) - 1 + 1 = (v : Int) by omega, q_w_id (by omega) (by omega), q_sI_at, q_up_at, q_w_id (by omega) (by omega)] at hh
          omega
def s_howA (x y z : Int) : Int := if 2 ≤ x ∧ x ≤ 7 ∧ 0 ≤ y ∧ y ≤ x ∧ 0 ≤ z then (s_lv x.toNat (s_Q x.toNat y.toNat z) x.toNat (fun _ => 0) : Int) else -1
theorem c_Md_howMany {x y z : Int} (hx : q_can x) (hy : q_can y) (hz : q_can z) {d : qD} {b : Nat} : ∃ d', q_Ev m_Md_howMany 0 [q_r t_Md 0, q_i x, q_i y, q_i z, none, none] [] (q_mk d b) (q_i (s_howA x y z), q_mk d' b) ∧ q_ag [t_mTried] d d' := by
  have hz2 := (q_can_iff.mp hz).2
  have st : ∀ r, (¬ (2 ≤ x ∧ x ≤ 7) → q_Ev m_Md_howMany 15 [none, none, none, none, none, none] [] (q_mk d b) r) → ((2 ≤ x ∧ x ≤ 7) → ¬ (0 ≤ y ∧ y ≤ x) → q_Ev m_Md_howMany 15 [none, none, none, none, none, none] [] (q_mk d b) r) → ((2 ≤ x ∧ x ≤ 7) → (0 ≤ y ∧ y ≤ x) → q_Ev m_Md_howMany 12 [q_r t_Md 0, q_i x, q_i y, q_i z, none, none] [.inl 1] (q_mk d b) r) → q_Ev m_Md_howMany 0 [q_r t_Md 0, q_i x, q_i y, q_i z, none, none] [] (q_mk d b) r := by
    intro r k1 k2 k3
    refine e_Md_howMany_0 ?_
    rw [q_l2, q_l7]
    refine ⟨_, _, c_Md_isIn hx (q_can_s (by decide) (by decide)) (q_can_s (by decide) (by decide)), e_Md_howMany_5 ⟨fun hh => k1 (of_decide_eq_false (q_b2i_f hh)), fun hh => ?_⟩⟩
    have h1 := of_decide_eq_true (q_b2i_t hh)
    rw [q_l0]
    refine ⟨_, _, c_Md_isIn hy (q_can_s (by decide) (by decide)) hx, ?_⟩
    by_cases h2 : 0 ≤ y ∧ y ≤ x
    · rw [decide_eq_true h2]; exact k3 h1 h2
    · rw [decide_eq_false h2]
      exact e_Md_howMany_12 ⟨fun _ => k2 h1 h2, fun hx => absurd rfl hx⟩
  unfold s_howA
  by_cases h : 2 ≤ x ∧ x ≤ 7 ∧ 0 ≤ y ∧ y ≤ x ∧ 0 ≤ z
  · rw [if_pos h]
    obtain ⟨n, rfl⟩ : ∃ k : Nat, x = (k : Int) := ⟨x.toNat, by omega⟩
    obtain ⟨size, rfl⟩ : ∃ k : Nat, y = (k : Int) := ⟨y.toNat, by omega⟩
    rw [Int.toNat_natCast, Int.toNat_natCast]
    have hlv := s_lv_le n (s_Q n size z) n (fun _ => 0)
    have hp : (n + 1) ^ n ≤ 8 ^ 7 := Nat.le_trans (Nat.pow_le_pow_left (by omega) n) (Nat.pow_le_pow_right (by decide) (by omega))
    have el : s_lv n (s_Q n size z) n (fun _ => 0) = s_cntL (fun v => if s_free n (fun _ => 0) v 1 (n - (n - 1) - 1) then s_lv n (s_Q n size z) (n - 1) (s_put (fun _ => 0) (n - (n - 1)) v) else 0) (n - (n - 1)) (n + 1) := by
      obtain ⟨k, rfl⟩ : ∃ k, n = k + 1 := ⟨n - 1, by omega⟩
      rfl
    obtain ⟨d', a, _, k⟩ := c_Md_howLevel (n := n) (size := size) (dim := z) (by omega) (by omega) (by omega) (by omega) hz2 (b := b) (n - 1) (by omega) (n + 1) (n - (n - 1)) (fun _ => 0) (q_sI d t_mTried 0 1 0) 0 (by omega) (Nat.le_refl _) (fun k k1 k2 => by omega) (fun k k1 k2 => by omega) (by rw [show n - (n - 1) = 1 by omega, q_sI_at, q_up_at]; rfl) (by rw [← el]; omega)
    rw [← el] at k
    refine ⟨d', st _ (fun hh => by omega) (fun _ hh => by omega) (fun _ _ => e_Md_howMany_12 ⟨fun hh => absurd hh (by decide), fun _ => ⟨fun _ => ⟨by decide, by decide, ?_⟩, fun hh => by omega⟩⟩), q_ag_tr (q_ag_sI (by decide)) a⟩
    have := k (q_i (s_lv n (s_Q n size z) n (fun _ => 0) : Int), q_mk d' b) (e_Md_howMany_26 ⟨fun _ => by rw [Nat.zero_add], fun hh => by omega⟩)
    rw [show n - (n - 1) = 1 by omega] at this
    exact this
  · rw [if_neg h]
    refine ⟨d, st _ (fun _ => e_Md_howMany_15 rfl) (fun _ _ => e_Md_howMany_15 rfl) (fun h1 h2 => e_Md_howMany_12 ⟨fun hh => absurd hh (by decide), fun _ => ⟨fun hh => by omega, fun _ => e_Md_howMany_15 rfl⟩⟩), q_ag_refl _ _⟩
