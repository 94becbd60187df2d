/-! words for contracts; the class's queries of a cell -/
abbrev q_r (t c : Nat) : Option qV := some (.inr (.inr (t, c)))
abbrev q_i (x : Int) : Option qV := some (.inl x)
theorem q_sI_ne (d : qD) {t i k t' i' : Nat} (v : Int) (h : t' ≠ t) : (q_sI d t i k v).1 t' i' = d.1 t' i' := by rw [q_sI_row]; exact q_sR_ne _ _ h
theorem q_sI_at (d : qD) (t i k : Nat) (v : Int) : (q_sI d t i k v).1 t i = q_up (d.1 t i) k v := by rw [q_sI_row]; exact q_sR_row _ _ _ _
theorem q_sI_ni (d : qD) {t i k t' i' : Nat} (v : Int) (h : i' ≠ i) : (q_sI d t i k v).1 t' i' = d.1 t' i' := by rw [q_sI_row]; exact q_sR_ni _ _ h
theorem q_hl_dif (a c l : Nat) : q_hl (q_dif a c) l = (q_hl a l && !q_hl c l) := q_dif_bit a c (l - 1)
theorem q_hl_or (a c l : Nat) : q_hl (a ||| c) l = (q_hl a l || q_hl c l) := Nat.testBit_or a c (l - 1)
theorem q_hl_and (a c l : Nat) : q_hl (a &&& c) l = (q_hl a l && q_hl c l) := Nat.testBit_and a c (l - 1)
theorem s_ext {s t : Nat} (hs : s < 256) (ht : t < 256) (h : ∀ l, 1 ≤ l → l ≤ 8 → q_hl s l = q_hl t l) : s = t := by
  refine Nat.eq_of_testBit_eq fun i => ?_
  by_cases hi : i < 8
  · have := h (i + 1) (by omega) (by omega)
    unfold q_hl at this
    exact this
  · rw [Nat.testBit_lt_two_pow (Nat.lt_of_lt_of_le hs (show 2 ^ 8 ≤ 2 ^ i from Nat.pow_le_pow_right (by decide) (by omega))), Nat.testBit_lt_two_pow (Nat.lt_of_lt_of_le ht (show 2 ^ 8 ≤ 2 ^ i from Nat.pow_le_pow_right (by decide) (by omega)))]
theorem s_ltn {n s : Nat} (hs : s < 256) (h : ∀ l, 1 ≤ l → l ≤ 8 → n < l → q_hl s l = false) : s < 2 ^ n := by
  refine Nat.lt_pow_two_of_testBit s fun i hi => ?_
  by_cases h8 : i < 8
  · have := h (i + 1) (by omega) (by omega) (by omega)
    unfold q_hl at this
    exact this
  · exact Nat.testBit_lt_two_pow (Nat.lt_of_lt_of_le hs (show 2 ^ 8 ≤ 2 ^ i from Nat.pow_le_pow_right (by decide) (by omega)))
theorem s_hln {n s l : Nat} (hs : s < 2 ^ n) (h : n < l) : q_hl s l = false := by
  unfold q_hl
  exact Nat.testBit_lt_two_pow (Nat.lt_of_lt_of_le hs (Nat.pow_le_pow_right (by decide) (by omega)))
theorem s_with_ltn {n s l : Nat} (hs : s < 2 ^ n) (h1 : 1 ≤ l) (hl : l ≤ n) : s_with s l < 2 ^ n :=
  Nat.or_lt_two_pow hs (Nat.pow_lt_pow_right (by decide) (by omega))
theorem s_wo_ltn {n s l : Nat} (hs : s < 2 ^ n) : s_wo s l < 2 ^ n := q_dif_lt hs
theorem s_drop_cons {L R : List Nat} {k s : Nat} (h : L.drop k = s :: R) : k < L.length ∧ L.getD k 0 = s ∧ L.drop (k + 1) = R := by
  have hk : k < L.length := by
    by_cases hk : k < L.length
    · exact hk
    · rw [List.drop_eq_nil_of_le (by omega)] at h; cases h
  rw [List.drop_eq_getElem_cons hk] at h
  injection h with h1 h2
  refine ⟨hk, ?_, h2⟩
  rw [List.getD_eq_getElem?_getD, List.getElem?_eq_getElem hk]
  exact h1
theorem s_drop_nil {L : List Nat} {k : Nat} (h : L.drop k = []) : L.length ≤ k := List.drop_eq_nil_iff.mp h
/-- basis, as asked of any number -/
def s_isBx (n : Nat) (B : Nat → Bool) (x : Int) : Bool := decide (0 < n ∧ 0 ≤ x ∧ x < ((2 ^ n : Nat) : Int)) && B x.toNat
theorem s_isBx_nat {n s : Nat} {B : Nat → Bool} (h0 : 0 < n) (hB : B s = true → s < 2 ^ n) : s_isBx n B (s : Int) = B s := by
  unfold s_isBx
  rw [Int.toNat_natCast]
  cases hb : B s
  · rw [Bool.and_false]
  · have := hB hb
    rw [decide_eq_true (show 0 < n ∧ 0 ≤ (s : Int) ∧ (s : Int) < ((2 ^ n : Nat) : Int) from ⟨h0, by omega, by omega⟩)]; rfl
theorem c_Ce_isBasis {n : Nat} {B : Nat → Bool} {x : Int} (hn : n ≤ 8) {d : qD} {b : Nat} (e0 : d.1 t_Ce 0 0 = (n : Int)) (eB : ∀ j, j < 256 → d.1 t_inB 0 j = q_b2i (B j)) : q_Ev m_Ce_isBasis 0 [q_r t_Ce 0, q_i x] [] (q_mk d b) (q_i (q_b2i (s_isBx n B x)), q_mk d b) := by
  have hp := s_p8 hn
  refine e_Ce_isBasis_0 ⟨_, _, c_Ce_areLabels hn e0, e_Ce_isBasis_3 ⟨fun h => ?_, fun h => ?_⟩⟩
  · unfold s_isBx
    rw [q_b2i_f h, Bool.false_and]
    exact e_Ce_isBasis_11 (e_Ce_isBasis_12 ⟨by decide, by decide, rfl⟩)
  · have ht := q_b2i_t h
    unfold s_isBx
    rw [ht, Bool.true_and]
    have h2 := of_decide_eq_true ht
    rw [eB x.toNat (by omega)]
    refine ⟨by omega, by omega, fun h3 => ?_, fun h3 => ?_⟩
    · rw [q_b2i_f h3]
      exact e_Ce_isBasis_11 (e_Ce_isBasis_12 ⟨by decide, by decide, rfl⟩)
    · rw [q_b2i_t h3]
      exact e_Ce_isBasis_12 ⟨by decide, by decide, rfl⟩
/-- the most labels that a basis has in common with a set -/
def s_rank (L : List Nat) (x m : Nat) : Nat := match L with
  | [] => m
  | s :: R => s_rank R x (if m < q_pc (s &&& x) then q_pc (s &&& x) else m)
theorem c_Ce_rankGo {L : List Nat} {x : Nat} (hx : x < 256) (hL : L.length ≤ 70) (hL2 : ∀ s ∈ L, s < 256) {d : qD} {b : Nat} (e3 : d.1 t_Ce 0 3 = (L.length : Int)) (eL : s_lst (d.1 t_bl 0) L) : ∀ (R : List Nat) (k m : Nat), L.drop k = R → k ≤ L.length → q_Ev m_Ce_rankOf 4 [q_r t_Ce 0, q_i (x : Int), q_i (m : Int), q_i (k : Int)] [] (q_mk d b) (q_i (s_rank R x m : Int), q_mk d b)
  | [], k, m, h, hk => by
    have := s_drop_nil h
    exact e_Ce_rankOf_4 ⟨fun _ => rfl, fun h2 => by omega⟩
  | s :: R, k, m, h, hk => by
    obtain ⟨h1, h2, h3⟩ := s_drop_cons h
    have hs : s < 256 := hL2 s (by rw [← List.take_append_drop k L, h]; simp)
    have hx2 : s &&& x < 256 := Nat.lt_of_le_of_lt Nat.and_le_left hs
    refine e_Ce_rankOf_4 ⟨fun h2 => by omega, fun _ => ⟨by omega, by omega, ?_⟩⟩
    rw [Int.toNat_natCast, eL k h1, h2, q_and_nat (by omega) (by omega)]
    refine ⟨_, _, c_J_bitCount hx2, e_Ce_rankOf_16 ?_⟩
    rw [q_wS (by omega), s_rank]
    have : q_max (m : Int) (q_pc (s &&& x) : Int) = ((if m < q_pc (s &&& x) then q_pc (s &&& x) else m : Nat) : Int) := by
      unfold q_max
      by_cases hq : m < q_pc (s &&& x)
      · rw [if_pos hq, if_pos (by omega)]
      · rw [if_neg hq, if_neg (by omega)]
    rw [this]
    exact c_Ce_rankGo hx hL hL2 e3 eL R (k + 1) _ h3 (by omega)
theorem c_Ce_rankOf {L : List Nat} {x : Nat} (hx : x < 256) (hL : L.length ≤ 70) (hL2 : ∀ s ∈ L, s < 256) {d : qD} {b : Nat} (e3 : d.1 t_Ce 0 3 = (L.length : Int)) (eL : s_lst (d.1 t_bl 0) L) : q_Ev m_Ce_rankOf 0 [q_r t_Ce 0, q_i (x : Int), none, none] [] (q_mk d b) (q_i (s_rank L x 0 : Int), q_mk d b) :=
  e_Ce_rankOf_0 (c_Ce_rankGo hx hL hL2 e3 eL L 0 0 rfl (by omega))
/-- the least label that goes for another: fuel, from -/
def s_exch (B : Nat → Bool) (one o l : Nat) : Nat → Nat → Int
  | 0, _ => -2
  | f + 1, c => if q_hl o c && !q_hl one c && B (s_with (s_wo one l) c) then (c : Int) else s_exch B one o l f (c + 1)
theorem c_Ce_leastExchangeGo {n one o l : Nat} {B : Nat → Bool} (hn : n ≤ 8) (h1 : one < 2 ^ n) (ho : o < 2 ^ n) (hl1 : 1 ≤ l) (hl : l ≤ n) (hB : ∀ s, B s = true → s < 2 ^ n) {d : qD} {b : Nat} (e0 : d.1 t_Ce 0 0 = (n : Int)) (eB : ∀ j, j < 256 → d.1 t_inB 0 j = q_b2i (B j)) : ∀ (f c : Nat), c + f = n + 1 → 1 ≤ c → q_Ev m_Ce_leastExchange 2 [q_r t_Ce 0, q_i (one : Int), q_i (o : Int), q_i (l : Int), q_i (c : Int)] [] (q_mk d b) (q_i (s_exch B one o l f c), q_mk d b)
  | 0, c, h, hc => by
    refine e_Ce_leastExchange_2 ⟨fun _ => rfl, fun h2 => ?_⟩
    rw [e0] at h2; omega
  | f + 1, c, h, hc => by
    have hp := s_p8 hn
    have hpc := s_p2 (l := c) (by omega)
    have hpl := s_p2 (l := l) (by omega)
    have hdl : q_dif o one < 256 := q_dif_lt (k := 8) (by omega)
    have hwl : q_dif one (2 ^ (l - 1)) < 256 := q_dif_lt (k := 8) (by omega)
    have nx : q_Ev m_Ce_leastExchange 28 [q_r t_Ce 0, q_i (one : Int), q_i (o : Int), q_i (l : Int), q_i (c : Int)] [] (q_mk d b) (q_i (s_exch B one o l f (c + 1)), q_mk d b) := by
      refine e_Ce_leastExchange_28 ?_
      rw [q_wS (by omega)]
      exact c_Ce_leastExchangeGo hn h1 ho hl1 hl hB e0 eB f (c + 1) (by omega) (by omega)
    rw [s_exch]
    refine e_Ce_leastExchange_2 ⟨fun h2 => ?_, fun _ => ?_⟩
    · rw [e0] at h2; omega
    · rw [q_andn_nat (by omega) (by omega)]
      refine ⟨_, _, c_Se_holds (by omega) hc (by omega), e_Ce_leastExchange_13 ⟨fun h2 => ?_, fun h2 => ⟨_, _, c_Se_only hl1 (by omega), e_Ce_leastExchange_18 ⟨_, _, c_Se_only hc (by omega), e_Ce_leastExchange_23 ?_⟩⟩⟩⟩
      · have := q_b2i_f h2
        rw [q_hl_dif] at this
        rw [this, Bool.false_and]
        exact nx
      · have := q_b2i_t h2
        rw [q_hl_dif] at this
        rw [this, Bool.true_and, q_andn_nat (by omega) (by omega), q_or_nat (by omega) (by omega)]
        refine ⟨_, _, c_Ce_isBasis hn e0 eB, ?_⟩
        rw [s_isBx_nat (by omega) (hB _)]
        refine e_Ce_leastExchange_25 ⟨fun h3 => ?_, fun h3 => ?_⟩
        · rw [show B (s_with (s_wo one l) c) = false from q_b2i_f h3, if_neg (by decide)]; exact nx
        · rw [show B (s_with (s_wo one l) c) = true from q_b2i_t h3, if_pos rfl]
theorem c_Ce_leastExchange {n one o l : Nat} {B : Nat → Bool} (hn : n ≤ 8) (h1 : one < 2 ^ n) (ho : o < 2 ^ n) (hl1 : 1 ≤ l) (hl : l ≤ n) (hB : ∀ s, B s = true → s < 2 ^ n) {d : qD} {b : Nat} (e0 : d.1 t_Ce 0 0 = (n : Int)) (eB : ∀ j, j < 256 → d.1 t_inB 0 j = q_b2i (B j)) : q_Ev m_Ce_leastExchange 0 [q_r t_Ce 0, q_i (one : Int), q_i (o : Int), q_i (l : Int), none] [] (q_mk d b) (q_i (s_exch B one o l n 1), q_mk d b) :=
  e_Ce_leastExchange_0 (c_Ce_leastExchangeGo hn h1 ho hl1 hl hB e0 eB n 1 (by omega) (by omega))
/-- is a set of the necklace: fuel, from -/
def s_ofN (K : Nat → Nat) (x : Int) : Nat → Nat → Bool
  | 0, _ => false
  | f + 1, i => if (K i : Int) = x then true else s_ofN K x f (i + 1)
theorem c_Ce_isOfNecklaceGo {n : Nat} {K : Nat → Nat} {x : Int} (hn : n ≤ 8) {d : qD} {b : Nat} (e0 : d.1 t_Ce 0 0 = (n : Int)) (eN : s_row (d.1 t_nl 0) n K) : ∀ (f i : Nat), i + f = n + 1 → 1 ≤ i → q_Ev m_Ce_isOfNecklace 2 [q_r t_Ce 0, q_i x, q_i (i : Int)] [] (q_mk d b) (q_i (q_b2i (s_ofN K x f i)), q_mk d b)
  | 0, i, h, h1 => by
    refine e_Ce_isOfNecklace_2 ⟨fun _ => ⟨by decide, by decide, rfl⟩, fun h2 => ?_⟩
    rw [e0] at h2; omega
  | f + 1, i, h, h1 => by
    rw [s_ofN]
    refine e_Ce_isOfNecklace_2 ⟨fun h2 => ?_, fun _ => ⟨by omega, by omega, ?_⟩⟩
    · rw [e0] at h2; omega
    · rw [Int.toNat_natCast, eN i h1 (by omega)]
      refine ⟨fun h2 => ?_, fun h2 => ?_⟩
      · rw [if_neg h2, q_wS (by omega)]
        exact c_Ce_isOfNecklaceGo hn e0 eN f (i + 1) (by omega) (by omega)
      · rw [if_pos h2]; exact ⟨by decide, by decide, rfl⟩
theorem c_Ce_isOfNecklace {n : Nat} {K : Nat → Nat} {x : Int} (hn : n ≤ 8) {d : qD} {b : Nat} (e0 : d.1 t_Ce 0 0 = (n : Int)) (eN : s_row (d.1 t_nl 0) n K) : q_Ev m_Ce_isOfNecklace 0 [q_r t_Ce 0, q_i x, none] [] (q_mk d b) (q_i (q_b2i (s_ofN K x n 1)), q_mk d b) :=
  e_Ce_isOfNecklace_0 (c_Ce_isOfNecklaceGo hn e0 eN n 1 (by omega) (by omega))
/-- how many + -/
def s_pls (P : Nat → Nat) : Nat → Nat
  | 0 => 0
  | i + 1 => s_pls P i + q_pc (P (i + 1))
theorem s_pls_le (P : Nat → Nat) : ∀ i, s_pls P i ≤ 8 * i
  | 0 => Nat.le_refl 0
  | i + 1 => by have := s_pls_le P i; have := q_pc_le (P (i + 1)); rw [s_pls]; omega
theorem c_Di_plusGo {c n : Nat} {P : Nat → Nat} (hn : n ≤ 8) (hP : ∀ i, 1 ≤ i → i ≤ n → P i < 256) {d : qD} {b : Nat} (e0 : d.1 t_Di c 0 = (n : Int)) (eP : s_row (d.1 t_plus c) n P) : ∀ (f i : Nat), i + f = n → q_Ev m_Di_plusCount 4 [q_r t_Di c, q_i (s_pls P i : Int), q_i ((i + 1 : Nat) : Int)] [] (q_mk d b) (q_i (s_pls P n : Int), q_mk d b)
  | 0, i, h => by
    refine e_Di_plusCount_4 ⟨fun _ => ?_, fun h2 => ?_⟩
    · rw [show i = n by omega]
    · rw [e0] at h2; omega
  | f + 1, i, h => by
    refine e_Di_plusCount_4 ⟨fun h2 => ?_, fun _ => ⟨by omega, by omega, ?_⟩⟩
    · rw [e0] at h2; omega
    · have h1 := s_pls_le P i
      have h2 := q_pc_le (P (i + 1))
      rw [Int.toNat_natCast, eP (i + 1) (by omega) (by omega)]
      refine ⟨_, _, c_J_bitCount (hP _ (by omega) (by omega)), e_Di_plusCount_14 ?_⟩
      rw [q_wS (by omega), q_w_id (by omega) (by omega), show (s_pls P i : Int) + (q_pc (P (i + 1)) : Int) = (s_pls P (i + 1) : Int) by rw [s_pls]; omega]
      exact c_Di_plusGo hn hP e0 eP f (i + 1) (by omega)
theorem c_Ce_dimension {n : Nat} {P : Nat → Nat} (hn : n ≤ 8) (hP : ∀ i, 1 ≤ i → i ≤ n → P i < 256) {d : qD} {b : Nat} (e0 : d.1 t_Di 1 0 = (n : Int)) (eP : s_row (d.1 t_plus 1) n P) : q_Ev m_Ce_dimension 0 [q_r t_Ce 0] [] (q_mk d b) (q_i (s_pls P n : Int), q_mk d b) :=
  e_Ce_dimension_0 ⟨_, _, e_Di_plusCount_0 (c_Di_plusGo hn hP e0 eP n 0 (by omega)), e_Ce_dimension_3 rfl⟩
/-- loops (0 further), coloops (n further) -/
def s_fix (F : Nat → Nat) (m : Nat) : Nat → Nat
  | 0 => 0
  | i + 1 => if F (i + 1) = i + 1 + m then s_with (s_fix F m i) (i + 1) else s_fix F m i
theorem s_fix_lt (F : Nat → Nat) (m : Nat) : ∀ i, i ≤ 8 → s_fix F m i < 256
  | 0, _ => (show (0 : Nat) < 256 from Nat.zero_lt_succ _)
  | i + 1, h => by
    have := s_fix_lt F m i (by omega)
    rw [s_fix]; split
    · exact s_with_lt this h
    · exact this
theorem c_Ce_fixedGo {n m : Nat} {F : Nat → Nat} (hn : n ≤ 8) (hm : m ≤ 8) {d : qD} {b : Nat} (e0 : d.1 t_Ce 0 0 = (n : Int)) (eF : s_row (d.1 t_img 0) n F) : ∀ (f i : Nat), i + f = n → q_Ev m_Ce_fixedLabels 4 [q_r t_Ce 0, q_i (m : Int), q_i (s_fix F m i : Int), q_i ((i + 1 : Nat) : Int)] [] (q_mk d b) (q_i (s_fix F m n : Int), q_mk d b)
  | 0, i, h => by
    refine e_Ce_fixedLabels_4 ⟨fun _ => ?_, fun h2 => ?_⟩
    · rw [show i = n by omega]
    · rw [e0] at h2; omega
  | f + 1, i, h => by
    have hlt := s_fix_lt F m i (by omega)
    have hpp := s_p2 (l := i + 1) (by omega)
    refine e_Ce_fixedLabels_4 ⟨fun h2 => ?_, fun _ => ⟨by omega, by omega, ?_⟩⟩
    · rw [e0] at h2; omega
    · rw [Int.toNat_natCast, eF (i + 1) (by omega) (by omega), show q_w (((i + 1 : Nat) : Int) + (m : Int)) = ((i + 1 + m : Nat) : Int) by rw [q_w_id (by omega) (by omega)]; omega]
      refine ⟨fun h2 => e_Ce_fixedLabels_21 ?_, fun h2 => ⟨_, _, c_Se_only (by omega) (by omega), e_Ce_fixedLabels_19 (e_Ce_fixedLabels_21 ?_)⟩⟩
      · have := c_Ce_fixedGo hn hm (b := b) e0 eF f (i + 1) (by omega)
        rw [s_fix, if_neg (by omega)] at this
        rw [q_wS (by omega)]; exact this
      · have := c_Ce_fixedGo hn hm (b := b) e0 eF f (i + 1) (by omega)
        rw [s_fix, if_pos (by omega)] at this
        rw [q_wS (by omega), q_or_nat (by omega) (by omega)]; exact this
theorem c_Ce_fixedLabels {n m : Nat} {F : Nat → Nat} (hn : n ≤ 8) (hm : m ≤ 8) {d : qD} {b : Nat} (e0 : d.1 t_Ce 0 0 = (n : Int)) (eF : s_row (d.1 t_img 0) n F) : q_Ev m_Ce_fixedLabels 0 [q_r t_Ce 0, q_i (m : Int), none, none] [] (q_mk d b) (q_i (s_fix F m n : Int), q_mk d b) :=
  e_Ce_fixedLabels_0 (c_Ce_fixedGo hn hm e0 eF n 0 (by omega))
/-- where a label comes from: fuel, from -/
def s_org (n : Nat) (F : Nat → Nat) (l : Nat) : Nat → Nat → Int
  | 0, _ => (l : Int)
  | f + 1, i => if F i = l then (i : Int) else if F i = l + n then (i : Int) - (n : Int) else s_org n F l f (i + 1)
theorem c_Ce_originGo {n l : Nat} {F : Nat → Nat} (hn : n ≤ 8) (hl : l ≤ 8) {d : qD} {b : Nat} (e0 : d.1 t_Ce 0 0 = (n : Int)) (eF : s_row (d.1 t_img 0) n F) : ∀ (f i : Nat), i + f = n + 1 → 1 ≤ i → q_Ev m_Ce_origin 2 [q_r t_Ce 0, q_i (l : Int), q_i (i : Int)] [] (q_mk d b) (q_i (s_org n F l f i), q_mk d b)
  | 0, i, h, h1 => by
    refine e_Ce_origin_2 ⟨fun _ => rfl, fun h2 => ?_⟩
    rw [e0] at h2; omega
  | f + 1, i, h, h1 => by
    rw [s_org]
    refine e_Ce_origin_2 ⟨fun h2 => ?_, fun _ => ⟨by omega, by omega, ?_⟩⟩
    · rw [e0] at h2; omega
    · rw [Int.toNat_natCast, eF i h1 (by omega), e0, show q_w ((l : Int) + (n : Int)) = ((l + n : Nat) : Int) by rw [q_w_id (by omega) (by omega)]; omega]
      refine ⟨fun h2 => ⟨by omega, by omega, fun h3 => ?_, fun h3 => ?_⟩, fun h2 => ?_⟩
      · rw [if_neg (by omega), if_neg (by omega), q_wS (by omega)]
        exact c_Ce_originGo hn hl e0 eF f (i + 1) (by omega) (by omega)
      · rw [if_neg (by omega), if_pos (by omega), q_w_id (by omega) (by omega)]
      · rw [if_pos (by omega)]
theorem c_Ce_origin {n l : Nat} {F : Nat → Nat} (hn : n ≤ 8) (hl : l ≤ 8) {d : qD} {b : Nat} (e0 : d.1 t_Ce 0 0 = (n : Int)) (eF : s_row (d.1 t_img 0) n F) : q_Ev m_Ce_origin 0 [q_r t_Ce 0, q_i (l : Int), none] [] (q_mk d b) (q_i (s_org n F l n 1), q_mk d b) :=
  e_Ce_origin_0 (c_Ce_originGo hn hl e0 eF n 1 (by omega) (by omega))
