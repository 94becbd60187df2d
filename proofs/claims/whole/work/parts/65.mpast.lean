/-! the model's past -/
def s_bit (x : Int) (t : Nat) : Bool := (Int32.ofInt x).toBitVec.getLsbD t
theorem s_1bit : ∀ i : Nat, (1 : Int32).toBitVec.getLsbD i = decide (i = 0) := by
  intro i
  show (1#32).getLsbD i = decide (i = 0)
  rw [BitVec.getLsbD_one]
  simp
theorem s_bit_get {x : Int} {t : Nat} (ht : t < 32) : q_and (q_shr x (t : Int)) 1 = q_b2i (s_bit x t) := by
  unfold q_and q_shr s_bit
  rw [q_ofI]
  generalize Int32.ofInt x = y
  have h := q_shs ht
  have e : ((y >>> (Int32.ofInt (t : Int) &&& 31)) &&& Int32.ofInt 1) = if y.toBitVec.getLsbD t then 1 else 0 := by
    apply Int32.toBitVec_inj.mp
    refine BitVec.eq_of_getLsbD_eq fun i hi => ?_
    rw [Int32.toBitVec_and, BitVec.getLsbD_and, Int32.toBitVec_shiftRight]
    unfold BitVec.sshiftRight'
    rw [h, BitVec.getLsbD_sshiftRight, show (Int32.ofInt 1).toBitVec.getLsbD i = decide (i = 0) from s_1bit i]
    by_cases h0 : i = 0
    · subst h0
      cases hb : y.toBitVec.getLsbD t
      · simp [ht, hb]
      · simp [ht, hb]
    · rw [decide_eq_false h0, Bool.and_false]
      cases hb : y.toBitVec.getLsbD t
      · simp
      · simp only [if_true]
        rw [s_1bit i, decide_eq_false h0]
  rw [e]
  cases y.toBitVec.getLsbD t <;> rfl
theorem s_bit_set {x : Int} {t t0 : Nat} (ht : t < 32) (h0 : t0 < 32) : s_bit (q_or x (q_shl 1 (t0 : Int))) t = (s_bit x t || decide (t = t0)) := by
  have hs : ∀ a : Nat, a < 32 → ∀ c : Nat, c < 32 → (Int32.ofInt (q_shl 1 (a : Int))).toBitVec.getLsbD c = decide (c = a) := by decide +kernel
  unfold s_bit q_or
  rw [q_ofI, Int32.toBitVec_or, BitVec.getLsbD_or, hs t0 h0 t ht]
theorem s_bit_0 (t : Nat) : s_bit 0 t = false := by
  unfold s_bit
  show (0#32).getLsbD t = false
  exact BitVec.getLsbD_zero
theorem s_dr32 : ∀ a : Nat, a < 256 → q_div (a : Int) 32 = ((a / 32 : Nat) : Int) ∧ q_rem (a : Int) 32 = ((a % 32 : Nat) : Int) := by decide +kernel
/-- one row of what was -/
def s_wa (x : Nat) (h : s_H) (g : Nat → Int) : Prop := g (20 * x) = (h.1 : Int) ∧ (∀ i, 1 ≤ i → i ≤ h.1 → g (20 * x + i) = (h.2.1 i : Int)) ∧ ∀ j, j < 256 → s_bit (g (20 * x + 12 + j / 32)) (j % 32) = h.2.2 j
theorem s_wa_of {x : Nat} {h : s_H} {g g' : Nat → Int} (hn : h.1 ≤ 8) (e : s_wa x h g) (hg : ∀ k, 20 * x ≤ k → k < 20 * x + 20 → g' k = g k) : s_wa x h g' := by
  obtain ⟨e1, e2, e3⟩ := e
  refine ⟨by rw [hg _ (by omega) (by omega), e1], fun i h1 h2 => by rw [hg _ (by omega) (by omega), e2 i h1 h2], fun j hj => by rw [hg _ (by omega) (by omega), e3 j hj]⟩
theorem s_wa_dn {x : Nat} {h : s_H} {g g' : Nat → Int} (hn : h.1 ≤ 8) (e : s_wa (x + 1) h g) (hg : ∀ k, 20 * x ≤ k → k < 20 * x + 20 → g' k = g (k + 20)) : s_wa x h g' := by
  obtain ⟨e1, e2, e3⟩ := e
  refine ⟨?_, fun i h1 h2 => ?_, fun j hj => ?_⟩
  · rw [hg _ (by omega) (by omega), show 20 * x + 20 = 20 * (x + 1) by omega, e1]
  · rw [hg _ (by omega) (by omega), show 20 * x + i + 20 = 20 * (x + 1) + i by omega, e2 i h1 h2]
  · rw [hg _ (by omega) (by omega), show 20 * x + 12 + j / 32 + 20 = 20 * (x + 1) + 12 + j / 32 by omega, e3 j hj]
def s_mP (Hs : List s_H) (d : qD) : Prop := Hs.length ≤ 20 ∧ d.1 t_Md 0 20 = (Hs.length : Int) ∧ ∀ (k : Nat) (h : s_H), Hs[k]? = some h → s_wa (Hs.length - 1 - k) h (d.1 t_mWas 0)
theorem c_Md_wasDown {g : Nat → Int} {u : Int} {b : Nat} : ∀ (f m : Nat) (d : qD), m + f = 400 → 20 ≤ m → d.1 t_Md 0 20 = 20 → (∀ k, k < 400 → d.1 t_mWas 0 k = if k < m - 20 then g (k + 20) else g k) → ∃ d', q_ag [t_Md, t_mWas] d d' ∧ d'.1 t_Md 0 = q_up (d.1 t_Md 0) 20 19 ∧ (∀ k, k < 380 → d'.1 t_mWas 0 k = g (k + 20)) ∧ ∀ r, q_Ev m_Md_keepsAct 27 [q_r t_Md 0, none, none] [] (q_mk d' b) r → q_Ev m_Md_keepsAct 6 [q_r t_Md 0, q_i (m : Int), none] [] (q_mk d b) r
  | 0, m, d, h, hm, e20, eg => by
    refine ⟨q_sI d t_Md 0 20 19, q_ag_sI (by decide), q_sI_at _ _ _ _ _, fun k hk => ?_, fun r hr => e_Md_keepsAct_6 ⟨fun _ => ?_, fun h2 => by omega⟩⟩
    · rw [q_sI_ne _ _ (by decide), eg k (by omega), if_pos (by omega)]
    · rw [e20]; exact hr
  | f + 1, m, d, h, hm, e20, eg => by
    have em : q_w ((m : Int) - 20) = ((m - 20 : Nat) : Int) := by rw [q_w_id (by omega) (by omega)]; omega
    have egm := eg m (by omega)
    rw [if_neg (by omega)] at egm
    obtain ⟨d', a, r1, r2, r3⟩ := c_Md_wasDown (g := g) (u := u) (b := b) f (m + 1) (q_sI d t_mWas 0 (m - 20) (g m)) (by omega) (by omega) (by rw [q_sI_ne _ _ (by decide), e20]) (by
      intro k hk
      rw [q_sI_at]
      by_cases hq : k = m - 20
      · rw [hq, q_up_at, if_pos (by omega), show m - 20 + 20 = m by omega]
      · rw [q_up_ne _ _ hq, eg k hk]
        by_cases hk2 : k < m - 20
        · rw [if_pos hk2, if_pos (by omega)]
        · rw [if_neg hk2, if_neg (by omega)])
    refine ⟨d', q_ag_tr (q_ag_sI (by decide)) a, by rw [r1, q_sI_ne _ _ (by decide)], r2, fun r hr => e_Md_keepsAct_6 ⟨fun h2 => by omega, fun _ => ?_⟩⟩
    rw [em, q_wS (by omega), Int.toNat_natCast, Int.toNat_natCast, egm]
    exact ⟨by omega, by omega, by omega, by omega, r3 r hr⟩
theorem c_Md_wasF {n x : Nat} {F : Nat → Nat} (hn : n ≤ 8) (hx : x < 20) {b : Nat} : ∀ (f i : Nat) (d : qD), i + f = n → d.1 t_Md 0 10 = (n : Int) → s_row (d.1 t_mF 0) n F → (∀ k, 1 ≤ k → k ≤ i → d.1 t_mWas 0 (20 * x + k) = (F k : Int)) → ∃ d', q_ag [t_mWas] d d' ∧ (∀ k, 1 ≤ k → k ≤ n → d'.1 t_mWas 0 (20 * x + k) = (F k : Int)) ∧ (∀ k, (k ≤ 20 * x ∨ 20 * x + n < k) → d'.1 t_mWas 0 k = d.1 t_mWas 0 k) ∧ ∀ r, q_Ev m_Md_keepsAct 58 [q_r t_Md 0, q_i ((20 * x : Nat) : Int), q_i 0] [] (q_mk d' b) r → q_Ev m_Md_keepsAct 40 [q_r t_Md 0, q_i ((20 * x : Nat) : Int), q_i ((i + 1 : Nat) : Int)] [] (q_mk d b) r
  | 0, i, d, h, e0, eF, eg => by
    refine ⟨d, q_ag_refl _ _, fun k h1 h2 => eg k h1 (by omega), fun _ _ => rfl, fun r hr => e_Md_keepsAct_40 ⟨fun _ => hr, fun h2 => ?_⟩⟩
    rw [e0] at h2; omega
  | f + 1, i, d, h, e0, eF, eg => by
    have em : q_w (((20 * x : Nat) : Int) + ((i + 1 : Nat) : Int)) = ((20 * x + (i + 1) : Nat) : Int) := by rw [q_w_id (by omega) (by omega)]; omega
    obtain ⟨d', a, r1, r2, r3⟩ := c_Md_wasF (F := F) hn hx (b := b) f (i + 1) (q_sI d t_mWas 0 (20 * x + (i + 1)) (F (i + 1) : Int)) (by omega) (by rw [q_sI_ne _ _ (by decide), e0]) (by rw [q_sI_ne _ _ (by decide)]; exact eF) (by
      intro k h1 h2
      rw [q_sI_at]
      by_cases hq : k = i + 1
      · subst hq; rw [q_up_at]
      · rw [q_up_ne _ _ (by omega)]; exact eg k h1 (by omega))
    refine ⟨d', q_ag_tr (q_ag_sI (by decide)) a, r1, fun k hk => ?_, fun r hr => e_Md_keepsAct_40 ⟨fun h2 => ?_, fun _ => ⟨by omega, by omega, ?_⟩⟩⟩
    · rw [r2 k hk, q_sI_at, q_up_ne _ _ (by omega)]
    · rw [e0] at h2; omega
    · rw [em, q_wS (by omega), Int.toNat_natCast, Int.toNat_natCast, eF (i + 1) (by omega) (by omega)]
      exact ⟨by omega, by omega, r3 r hr⟩
theorem c_Md_was0 {x : Nat} (hx : x < 20) {b : Nat} : ∀ (f i : Nat) (d : qD), i + f = 8 → (∀ k, k < i → d.1 t_mWas 0 (20 * x + 12 + k) = 0) → ∃ d', q_ag [t_mWas] d d' ∧ (∀ k, k < 8 → d'.1 t_mWas 0 (20 * x + 12 + k) = 0) ∧ (∀ k, (k < 20 * x + 12 ∨ 20 * x + 20 ≤ k) → d'.1 t_mWas 0 k = d.1 t_mWas 0 k) ∧ ∀ r, q_Ev m_Md_keepsAct 74 [q_r t_Md 0, q_i ((20 * x : Nat) : Int), q_i 0] [] (q_mk d' b) r → q_Ev m_Md_keepsAct 58 [q_r t_Md 0, q_i ((20 * x : Nat) : Int), q_i (i : Int)] [] (q_mk d b) r
  | 0, i, d, h, eg => ⟨d, q_ag_refl _ _, fun k hk => eg k (by omega), fun _ _ => rfl, fun r hr => e_Md_keepsAct_58 ⟨fun _ => hr, fun h2 => by omega⟩⟩
  | f + 1, i, d, h, eg => by
    have em : q_w ((q_w (((20 * x : Nat) : Int) + 12)) + (i : Int)) = ((20 * x + 12 + i : Nat) : Int) := by
      rw [show q_w (((20 * x : Nat) : Int) + 12) = ((20 * x + 12 : Nat) : Int) by rw [q_w_id (by omega) (by omega)]; omega, q_w_id (by omega) (by omega)]; omega
    obtain ⟨d', a, r1, r2, r3⟩ := c_Md_was0 hx (b := b) f (i + 1) (q_sI d t_mWas 0 (20 * x + 12 + i) 0) (by omega) (by
      intro k hk
      rw [q_sI_at]
      by_cases hq : k = i
      · subst hq; rw [q_up_at]
      · rw [q_up_ne _ _ (by omega)]; exact eg k (by omega))
    refine ⟨d', q_ag_tr (q_ag_sI (by decide)) a, r1, fun k hk => ?_, fun r hr => e_Md_keepsAct_58 ⟨fun h2 => by omega, fun _ => ?_⟩⟩
    · rw [r2 k hk, q_sI_at, q_up_ne _ _ (by omega)]
    · rw [em, q_wS (by omega), Int.toNat_natCast]
      exact ⟨by omega, by omega, r3 r hr⟩
theorem c_Md_wasC {x u : Nat} {c : Nat → Bool} (hx : x < 20) (hu : u < 20) {b : Nat} : ∀ (f m : Nat) (d : qD), m + f = 256 → d.1 t_Md 0 20 = (u : Int) → (∀ j, j < 256 → d.1 t_mInC 0 j = q_b2i (c j)) → (∀ j, j < 256 → s_bit (d.1 t_mWas 0 (20 * x + 12 + j / 32)) (j % 32) = (decide (j < m) && c j)) → ∃ d', q_Ev m_Md_keepsAct 74 [q_r t_Md 0, q_i ((20 * x : Nat) : Int), q_i (m : Int)] [] (q_mk d b) (none, q_mk d' b) ∧ q_ag [t_Md, t_mWas] d d' ∧ d'.1 t_Md 0 = q_up (d.1 t_Md 0) 20 ((u + 1 : Nat) : Int) ∧ (∀ j, j < 256 → s_bit (d'.1 t_mWas 0 (20 * x + 12 + j / 32)) (j % 32) = c j) ∧ (∀ k, (k < 20 * x + 12 ∨ 20 * x + 20 ≤ k) → d'.1 t_mWas 0 k = d.1 t_mWas 0 k)
  | 0, m, d, h, e20, ec, eg => by
    refine ⟨q_sI d t_Md 0 20 ((u + 1 : Nat) : Int), e_Md_keepsAct_74 ⟨fun _ => ?_, fun h2 => by omega⟩, q_ag_sI (by decide), q_sI_at _ _ _ _ _, fun j hj => ?_, fun k _ => by rw [q_sI_ne _ _ (by decide)]⟩
    · rw [e20, q_wS (by omega)]
    · rw [q_sI_ne _ _ (by decide), eg j hj, decide_eq_true (by omega), Bool.true_and]
  | f + 1, m, d, h, e20, ec, eg => by
    have hd := s_dr32 m (by omega)
    by_cases hc : c m = true
    · have em : q_w ((q_w (((20 * x : Nat) : Int) + 12)) + (q_div (m : Int) 32)) = ((20 * x + 12 + m / 32 : Nat) : Int) := by
        rw [hd.1, show q_w (((20 * x : Nat) : Int) + 12) = ((20 * x + 12 : Nat) : Int) by rw [q_w_id (by omega) (by omega)]; omega, q_w_id (by omega) (by omega)]; omega
      obtain ⟨d', v, a, r1, r2, r3⟩ := c_Md_wasC hx hu (b := b) f (m + 1) (q_sI d t_mWas 0 (20 * x + 12 + m / 32) (q_or (d.1 t_mWas 0 (20 * x + 12 + m / 32)) (q_shl 1 ((m % 32 : Nat) : Int)))) (by omega) (by rw [q_sI_ne _ _ (by decide), e20]) (by rw [q_sI_ne _ _ (by decide)]; exact ec) (by
        intro j hj
        rw [q_sI_at]
        by_cases hq : j / 32 = m / 32
        · rw [hq, q_up_at, s_bit_set (Nat.mod_lt _ (by decide)) (Nat.mod_lt _ (by decide)), ← hq, eg j hj]
          by_cases hjm : j = m
          · subst hjm; rw [decide_eq_true rfl, Bool.or_true, decide_eq_true (show j < j + 1 by omega), hc]; rfl
          · rw [decide_eq_false (show ¬ j % 32 = m % 32 by omega), Bool.or_false]
            congr 1
            exact decide_eq_decide.mpr ⟨fun h => by omega, fun h => by omega⟩
        · rw [q_up_ne _ _ (by omega), eg j hj]
          congr 1
          exact decide_eq_decide.mpr ⟨fun h => by omega, fun h => by omega⟩)
      refine ⟨d', e_Md_keepsAct_74 ⟨fun h2 => by omega, fun _ => ⟨by omega, by omega, ?_⟩⟩, q_ag_tr (q_ag_sI (by decide)) a, by rw [r1, q_sI_ne _ _ (by decide)], r2, fun k hk => ?_⟩
      · rw [Int.toNat_natCast, ec m (by omega), hc]
        refine ⟨fun h2 => absurd h2 (by decide), fun _ => ?_⟩
        rw [em, hd.2, Int.toNat_natCast]
        refine ⟨by decide, by omega, by omega, by decide, by omega, by omega, e_Md_keepsAct_100 ?_⟩
        rw [q_wS (by omega)]; exact v
      · rw [r3 k hk, q_sI_at, q_up_ne _ _ (by omega)]
    · have hc2 : c m = false := by simpa using hc
      obtain ⟨d', v, a, r1, r2, r3⟩ := c_Md_wasC hx hu (b := b) f (m + 1) d (by omega) e20 ec (by
        intro j hj
        rw [eg j hj]
        by_cases hjm : j = m
        · subst hjm; rw [hc2, Bool.and_false, Bool.and_false]
        · congr 1
          exact decide_eq_decide.mpr ⟨fun h => by omega, fun h => by omega⟩)
      refine ⟨d', e_Md_keepsAct_74 ⟨fun h2 => by omega, fun _ => ⟨by omega, by omega, ?_⟩⟩, a, r1, r2, r3⟩
      rw [Int.toNat_natCast, ec m (by omega), hc2]
      refine ⟨fun _ => e_Md_keepsAct_100 ?_, fun h2 => absurd rfl h2⟩
      rw [q_wS (by omega)]; exact v
theorem c_Md_keeps27 {n x : Nat} {F : Nat → Nat} {c : Nat → Bool} (hn : n ≤ 8) (hx : x < 20) {d : qD} {b : Nat} (e0 : d.1 t_Md 0 10 = (n : Int)) (e20 : d.1 t_Md 0 20 = (x : Int)) (eF : s_row (d.1 t_mF 0) n F) (ec : ∀ j, j < 256 → d.1 t_mInC 0 j = q_b2i (c j)) : ∃ d', q_Ev m_Md_keepsAct 27 [q_r t_Md 0, none, none] [] (q_mk d b) (none, q_mk d' b) ∧ q_ag [t_Md, t_mWas] d d' ∧ d'.1 t_Md 0 = q_up (d.1 t_Md 0) 20 ((x + 1 : Nat) : Int) ∧ s_wa x (n, F, c) (d'.1 t_mWas 0) ∧ (∀ k, k < 20 * x → d'.1 t_mWas 0 k = d.1 t_mWas 0 k) := by
  have em : q_w (20 * (x : Int)) = ((20 * x : Nat) : Int) := by rw [q_w_id (by omega) (by omega)]; omega
  obtain ⟨d1, a1, f1, o1, k1⟩ := c_Md_wasF (F := F) hn hx (b := b) n 0 (q_sI d t_mWas 0 (20 * x) (n : Int)) (by omega) (by rw [q_sI_ne _ _ (by decide), e0]) (by rw [q_sI_ne _ _ (by decide)]; exact eF) (fun k h1 h2 => by omega)
  obtain ⟨d2, a2, z2, o2, k2⟩ := c_Md_was0 hx (b := b) 8 0 d1 rfl (fun k hk => by omega)
  obtain ⟨d3, v3, a3, g3, c3, o3⟩ := c_Md_wasC (c := c) hx hx (b := b) 256 0 d2 rfl (by rw [a2.1 t_Md (by decide), a1.1 t_Md (by decide), q_sI_ne _ _ (by decide), e20]) (by rw [a2.1 t_mInC (by decide), a1.1 t_mInC (by decide), q_sI_ne _ _ (by decide)]; exact ec) (by
    intro j hj
    rw [z2 (j / 32) (by omega), s_bit_0, decide_eq_false (by omega), Bool.false_and])
  refine ⟨d3, e_Md_keepsAct_27 ?_, q_ag_tr (q_ag_sI (by decide)) (q_ag_tr (q_ag_up a1 (by decide)) (q_ag_tr (q_ag_up a2 (by decide)) a3)), ?_, ⟨?_, fun i h1 h2 => ?_, c3⟩, fun k hk => ?_⟩
  · rw [e20, em, e0, Int.toNat_natCast]
    exact ⟨by omega, by omega, k1 _ (k2 _ v3)⟩
  · rw [g3, a2.1 t_Md (by decide), a1.1 t_Md (by decide), q_sI_ne _ _ (by decide)]
  · rw [o3 _ (by omega), o2 _ (by omega), o1 _ (by omega), q_sI_at, q_up_at]
  · have h2 : i ≤ n := h2
    rw [o3 _ (by omega), o2 _ (by omega), f1 i h1 h2]
  · rw [o3 k (by omega), o2 k (by omega), o1 k (by omega), q_sI_at, q_up_ne _ _ (by omega)]
theorem c_Md_keepsAct {n : Nat} {F : Nat → Nat} {c : Nat → Bool} {Hs : List s_H} (hn : n ≤ 8) (hH : ∀ h ∈ Hs, h.1 ≤ 8) {d : qD} {b : Nat} (e0 : d.1 t_Md 0 10 = (n : Int)) (eF : s_row (d.1 t_mF 0) n F) (ec : ∀ j, j < 256 → d.1 t_mInC 0 j = q_b2i (c j)) (eP : s_mP Hs d) : ∃ (d' : qD) (u : Nat), q_Ev m_Md_keepsAct 0 [q_r t_Md 0, none, none] [] (q_mk d b) (none, q_mk d' b) ∧ q_ag [t_Md, t_mWas] d d' ∧ d'.1 t_Md 0 = q_up (d.1 t_Md 0) 20 (u : Int) ∧ s_mP ((n, F, c) :: Hs.take 19) d' := by
  obtain ⟨hl, e20, ew⟩ := eP
  by_cases h20 : Hs.length = 20
  · obtain ⟨d1, a1, g1, w1, k1⟩ := c_Md_wasDown (g := d.1 t_mWas 0) (u := 0) (b := b) 380 20 d (by omega) (by omega) (by rw [e20, h20]; rfl) (fun k hk => by rw [if_neg (by omega)])
    obtain ⟨d2, v2, a2, g2, w2, o2⟩ := c_Md_keeps27 (n := n) (F := F) (c := c) (x := 19) hn (by omega) (d := d1) (b := b) (by rw [g1, q_up_ne _ _ (by decide), e0]) (by rw [g1, q_up_at]; rfl) (by rw [a1.1 t_mF (by decide)]; exact eF) (by rw [a1.1 t_mInC (by decide)]; exact ec)
    have hlen : ((n, F, c) :: Hs.take 19).length = 20 := by rw [List.length_cons, List.length_take]; omega
    refine ⟨d2, 20, e_Md_keepsAct_0 ⟨fun h => absurd (by rw [e20, h20]; rfl) h, fun _ => k1 _ v2⟩, q_ag_tr a1 a2, ?_, by omega, ?_, fun k h hk => ?_⟩
    · rw [g2, g1]
      funext y
      by_cases hy : y = 20
      · subst hy; rw [q_up_at, q_up_at]
      · rw [q_up_ne _ _ hy, q_up_ne _ _ hy, q_up_ne _ _ hy]
    · rw [g2, q_up_at, hlen]
    · rw [hlen]
      match k, hk with
      | 0, hk =>
        injection hk with hk
        subst hk
        exact w2
      | k + 1, hk =>
        rw [List.getElem?_cons_succ, List.getElem?_take] at hk
        by_cases hk19 : k < 19
        · rw [if_pos hk19] at hk
          have hm : h ∈ Hs := List.mem_of_getElem? hk
          have := ew k h hk
          rw [h20] at this
          refine s_wa_dn (hH h hm) (x := 20 - 1 - (k + 1)) (g := d.1 t_mWas 0) ?_ (fun z h1 h2 => ?_)
          · rw [show 20 - 1 - (k + 1) + 1 = 20 - 1 - k by omega]; exact this
          · rw [o2 z (by omega), w1 z (by omega)]
        · rw [if_neg hk19] at hk; cases hk
  · have htk : Hs.take 19 = Hs := List.take_of_length_le (by omega)
    obtain ⟨d2, v2, a2, g2, w2, o2⟩ := c_Md_keeps27 (n := n) (F := F) (c := c) (x := Hs.length) hn (by omega) (d := d) (b := b) e0 e20 eF ec
    rw [htk]
    refine ⟨d2, Hs.length + 1, e_Md_keepsAct_0 ⟨fun _ => v2, fun h => ?_⟩, a2, g2, by rw [List.length_cons]; omega, ?_, fun k h hk => ?_⟩
    · rw [e20] at h; omega
    · rw [g2, q_up_at, List.length_cons]
    · rw [List.length_cons]
      match k, hk with
      | 0, hk =>
        injection hk with hk
        subst hk
        rw [show Hs.length + 1 - 1 - 0 = Hs.length by omega]
        exact w2
      | k + 1, hk =>
        rw [List.getElem?_cons_succ] at hk
        have hkl : k < Hs.length := by
          by_cases hkl : k < Hs.length
          · exact hkl
          · rw [List.getElem?_eq_none (by omega)] at hk; cases hk
        have hm : h ∈ Hs := List.mem_of_getElem? hk
        rw [show Hs.length + 1 - 1 - (k + 1) = Hs.length - 1 - k by omega]
        exact s_wa_of (hH h hm) (ew k h hk) (fun z h1 h2 => o2 z (by omega))
