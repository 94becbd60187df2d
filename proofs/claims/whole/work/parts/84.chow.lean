/-! howMany: the class's tables -/
def s_flipOk : Prop := ∀ (d : qD) (b : Nat), b < 2 → q_Ev m_Cs_flip 0 [q_r t_Cs 0, none] [] (q_mk d b) (none, q_mk d (1 - b))
def s_tb (T : Nat → Nat → Int) (d : qD) (b : Nat) : Prop := ∀ s k, s < 16 → k < 13 → d.1 t_tabRow (16 * b + s) k = T s k
def s_pass (T N : Nat → Nat → Int) (p : Nat × Nat × Nat) (s k : Nat) : Int := if s = p.2.1 ∧ p.2.2 ≤ k then q_w (N s k + T p.1 (k - p.2.2)) else N s k
theorem c_Cs_passGo {T N : Nat → Nat → Int} {st nx mo : Nat} (h1 : st < 16) (h2 : nx < 16) (h3 : mo < 13) {b : Nat} (hb : b < 2) : ∀ (f k : Nat) (d : qD), k + mo + f = 13 → s_tb T d b → s_tb (fun s x => if s = nx ∧ mo ≤ x ∧ x < k + mo then q_w (N s x + T st (x - mo)) else N s x) d (1 - b) → ∃ d', q_Ev m_Cs_pass 2 [q_r t_Cs 0, q_i (st : Int), q_i (nx : Int), q_i (mo : Int), q_i (k : Int)] [] (q_mk d b) (none, q_mk d' b) ∧ q_ag [t_tabRow] d d' ∧ s_tb T d' b ∧ s_tb (s_pass T N (st, nx, mo)) d' (1 - b)
  | 0, k, d, hf, eT, eN => by
    refine ⟨d, e_Cs_pass_2 ⟨fun _ => rfl, fun hh => ?_⟩, q_ag_refl _ _, eT, fun s x hs hx => ?_⟩
    · rw [q_w_id (by omega) (by omega)] at hh; omega
    · rw [eN s x hs hx]
      unfold s_pass
      dsimp only
      by_cases hq : s = nx ∧ mo ≤ x
      · rw [if_pos hq, if_pos ⟨hq.1, hq.2, by omega⟩]
      · rw [if_neg hq, if_neg (fun hc => hq ⟨hc.1, hc.2.1⟩)]
  | f + 1, k, d, hf, eT, eN => by
    have ew : q_w ((k : Int) + (mo : Int)) = ((k + mo : Nat) : Int) := by rw [q_w_id (by omega) (by omega)]; omega
    have e1 := eT st k h1 (by omega)
    have e2 := eN nx (k + mo) h2 (by omega)
    dsimp only at e2
    rw [if_neg (by omega)] at e2
    obtain ⟨d', v, a, r1, r2⟩ := c_Cs_passGo (T := T) (N := N) h1 h2 h3 hb f (k + 1) (q_sI d t_tabRow (16 * (1 - b) + nx) (k + mo) (q_w (N nx (k + mo) + T st k))) (by omega) (fun s x hs hx => by
      have hne : 16 * b + s ≠ 16 * (1 - b) + nx := by omega
      rw [q_sI_ni _ _ hne]; exact eT s x hs hx) (fun s x hs hx => by
      by_cases hs2 : s = nx
      · subst hs2
        rw [q_sI_at]
        by_cases hx2 : x = k + mo
        · subst hx2
          rw [q_up_at]
          dsimp only
          rw [if_pos ⟨rfl, by omega, by omega⟩, show k + mo - mo = k by omega]
        · rw [q_up_ne _ _ hx2, eN s x hs hx]
          dsimp only
          by_cases hq : mo ≤ x ∧ x < k + mo
          · rw [if_pos ⟨rfl, hq.1, hq.2⟩, if_pos ⟨rfl, hq.1, by omega⟩]
          · rw [if_neg (fun hc => hq ⟨hc.2.1, hc.2.2⟩), if_neg (fun hc => hq ⟨hc.2.1, by omega⟩)]
      · rw [q_sI_ni _ _ (by omega), eN s x hs hx]
        dsimp only
        rw [if_neg (fun hc => hs2 hc.1), if_neg (fun hc => hs2 hc.1)])
    refine ⟨d', e_Cs_pass_2 ⟨fun hh => ?_, fun _ => ?_⟩, q_ag_tr (q_ag_sI (by decide)) a, r1, r2⟩
    · rw [ew] at hh; omega
    · rw [ew]
      simp only [Int.toNat_natCast]
      rw [e2, e1, q_wS (by omega)]
      exact ⟨by omega, by omega, by omega, by omega, by omega, by omega, by omega, by omega, by omega, by omega, v⟩
theorem c_Cs_pass {T N : Nat → Nat → Int} {st nx mo : Nat} (h1 : st < 16) (h2 : nx < 16) (h3 : mo < 13) {b : Nat} (hb : b < 2) {d : qD} (eT : s_tb T d b) (eN : s_tb N d (1 - b)) : ∃ d', q_Ev m_Cs_pass 0 [q_r t_Cs 0, q_i (st : Int), q_i (nx : Int), q_i (mo : Int), none] [] (q_mk d b) (none, q_mk d' b) ∧ q_ag [t_tabRow] d d' ∧ s_tb T d' b ∧ s_tb (s_pass T N (st, nx, mo)) d' (1 - b) := by
  obtain ⟨d', v, a, r1, r2⟩ := c_Cs_passGo (T := T) (N := N) h1 h2 h3 hb (13 - mo) 0 d (by omega) eT (fun s x hs hx => by dsimp only; rw [if_neg (by omega)]; exact eN s x hs hx)
  exact ⟨d', e_Cs_pass_0 v, a, r1, r2⟩
theorem c_J_fill_tr {c : Nat} {b : Nat} : ∀ (f k : Nat) (d : qD), k + f = 13 → (∀ j, j < k → d.1 t_tabRow c j = 0) → ∃ d', q_Ev m_J_fill 5 [q_r t_tabRow c, q_i 0, q_i (k : Int), q_i 13] [] (q_mk d b) (none, q_mk d' b) ∧ q_ag [t_tabRow] d d' ∧ (∀ j, j < 13 → d'.1 t_tabRow c j = 0) ∧ ∀ c', c' ≠ c → d'.1 t_tabRow c' = d.1 t_tabRow c'
  | 0, k, d, h, e => ⟨d, e_J_fill_tr_5 ⟨fun _ => rfl, fun hh => by omega⟩, q_ag_refl _ _, fun j hj => e j (by omega), fun _ _ => rfl⟩
  | f + 1, k, d, h, e => by
    obtain ⟨d', v, a, r, o⟩ := c_J_fill_tr (c := c) (b := b) f (k + 1) (q_sI d t_tabRow c k 0) (by omega) (fun j hj => by
      rw [q_sI_at]
      by_cases hq : j = k
      · subst hq; rw [q_up_at]
      · rw [q_up_ne _ _ hq]; exact e j (by omega))
    refine ⟨d', e_J_fill_tr_5 ⟨fun hh => by omega, fun _ => ⟨by omega, by omega, ?_⟩⟩, q_ag_tr (q_ag_sI (by decide)) a, r, fun c' hc => by rw [o c' hc, q_sI_ni _ _ hc]⟩
    rw [q_wS (by omega), Int.toNat_natCast]
    exact v
theorem c_Cs_clearGo {T : Nat → Nat → Int} {b : Nat} (hb : b < 2) : ∀ (f s : Nat) (d : qD), s + f = 16 → s_tb T d b → (∀ s' k, s' < s → k < 13 → d.1 t_tabRow (16 * (1 - b) + s') k = 0) → ∃ d', q_Ev m_Cs_clearThen 2 [q_r t_Cs 0, q_i (s : Int)] [] (q_mk d b) (none, q_mk d' b) ∧ q_ag [t_tabRow] d d' ∧ s_tb T d' b ∧ s_tb (fun _ _ => 0) d' (1 - b)
  | 0, s, d, hf, eT, eN => ⟨d, e_Cs_clearThen_2 ⟨fun _ => rfl, fun hh => by omega⟩, q_ag_refl _ _, eT, fun s' k hs hk => eN s' k (by omega) hk⟩
  | f + 1, s, d, hf, eT, eN => by
    obtain ⟨d1, v1, a1, r1, o1⟩ := c_J_fill_tr (c := 16 * (1 - b) + s) (b := b) 13 0 d rfl (fun j hj => by omega)
    obtain ⟨d', v, a, r, r2⟩ := c_Cs_clearGo (T := T) hb f (s + 1) d1 (by omega) (fun s' k hs hk => by rw [o1 _ (by omega)]; exact eT s' k hs hk) (fun s' k hs hk => by
      by_cases hq : s' = s
      · subst hq; exact r1 k hk
      · rw [o1 _ (by omega)]; exact eN s' k (by omega) hk)
    refine ⟨d', e_Cs_clearThen_2 ⟨fun hh => by omega, fun _ => ⟨by omega, by omega, ?_⟩⟩, q_ag_tr a1 a, r, r2⟩
    rw [Int.toNat_natCast]
    refine ⟨_, _, e_J_fill_tr_0 v1, e_Cs_clearThen_11 ?_⟩
    rw [q_wS (by omega)]
    exact v
theorem c_Cs_clearThen {T : Nat → Nat → Int} {b : Nat} (hb : b < 2) {d : qD} (eT : s_tb T d b) : ∃ d', q_Ev m_Cs_clearThen 0 [q_r t_Cs 0, none] [] (q_mk d b) (none, q_mk d' b) ∧ q_ag [t_tabRow] d d' ∧ s_tb T d' b ∧ s_tb (fun _ _ => 0) d' (1 - b) := by
  obtain ⟨d', v, a, r, r2⟩ := c_Cs_clearGo (T := T) hb 16 0 d rfl eT (fun s' k hs _ => by omega)
  exact ⟨d', e_Cs_clearThen_0 v, a, r, r2⟩
def s_hob (x : Nat) : Nat := if x < 2 then 1 else if x < 4 then 2 else if x < 8 then 4 else 8
theorem c_J_highestOneBit {x : Nat} (h1 : 1 ≤ x) (h2 : x < 16) {d : qD} {b : Nat} : q_Ev m_J_highestOneBit 0 [q_i (x : Int)] [] (q_mk d b) (q_i (s_hob x : Int), q_mk d b) := by
  have e1 : ∀ x : Nat, x < 4 → 1 ≤ x → q_and (x : Int) (q_ushr (-2147483648) (q_w (31 - q_ushr (x : Int) 1))) = (s_hob x : Int) := by decide +kernel
  have e2 : ∀ x : Nat, x < 16 → 4 ≤ x → q_and (x : Int) (q_ushr (-2147483648) (q_w (q_w (31 + (-2)) - q_ushr (q_ushr (x : Int) 2) 1))) = (s_hob x : Int) := by decide +kernel
  by_cases h4 : x < 4
  · refine e_J_highestOneBit_0 ⟨_, _, e_J_numberOfLeadingZeros_0 ⟨fun _ => ⟨fun _ => e_J_numberOfLeadingZeros_18 ⟨fun _ => e_J_numberOfLeadingZeros_26 ⟨fun _ => e_J_numberOfLeadingZeros_34 ⟨fun _ => e_J_numberOfLeadingZeros_42 rfl, fun hh => by omega⟩, fun hh => by omega⟩, fun hh => by omega⟩, fun hh => by omega⟩, fun hh => by omega⟩, e_J_highestOneBit_4 ?_⟩
    rw [e1 x h4 h1]
  · refine e_J_highestOneBit_0 ⟨_, _, e_J_numberOfLeadingZeros_0 ⟨fun _ => ⟨fun _ => e_J_numberOfLeadingZeros_18 ⟨fun _ => e_J_numberOfLeadingZeros_26 ⟨fun _ => e_J_numberOfLeadingZeros_34 ⟨fun hh => by omega, fun _ => e_J_numberOfLeadingZeros_42 rfl⟩, fun hh => by omega⟩, fun hh => by omega⟩, fun hh => by omega⟩, fun hh => by omega⟩, e_J_highestOneBit_4 ?_⟩
    rw [e2 x h2 (by omega)]
def s_eL (x : Nat) : List (Nat × Nat × Nat) := if s_hob x ≤ 1 then [] else [(x, (s_hob x / 2) ||| (x &&& (s_hob x / 2 - 1)), 0)]
def s_okC (x p : Nat) : Bool := decide (p = 0) || decide (q_and (q_and (q_and (x : Int) (q_w ((s_hob x : Int) - 1))) (q_xor (p : Int) (-1))) (q_w (-(q_and (p : Int) (q_w (-(p : Int)))))) = 0)
def s_aC (x : Nat) : Nat → Nat → List (Nat × Nat × Nat)
  | _, 0 => []
  | p, f + 1 => (if s_okC x p then [(x, x ||| p, q_pc p)] else []) ++ s_aC x (p + 1) f
def s_run (T : Nat → Nat → Int) : List (Nat × Nat × Nat) → (Nat → Nat → Int) → (Nat → Nat → Int)
  | [], N => N
  | p :: t, N => s_run T t (s_pass T N p)
theorem s_run_app (T : Nat → Nat → Int) : ∀ (L M : List (Nat × Nat × Nat)) (N : Nat → Nat → Int), s_run T (L ++ M) N = s_run T M (s_run T L N)
  | [], M, N => rfl
  | p :: t, M, N => s_run_app T t M _
theorem c_Cs_endLowestRow {T N : Nat → Nat → Int} {x : Nat} (h1 : 1 ≤ x) (h2 : x < 16) {b : Nat} (hb : b < 2) {d : qD} (eT : s_tb T d b) (eN : s_tb N d (1 - b)) : ∃ d', q_Ev m_Cs_endLowestRow 0 [q_r t_Cs 0, q_i (x : Int), none, none] [] (q_mk d b) (none, q_mk d' b) ∧ q_ag [t_tabRow] d d' ∧ s_tb T d' b ∧ s_tb (s_run T (s_eL x) N) d' (1 - b) := by
  have e1 : ∀ x : Nat, x < 16 → 1 < s_hob x → q_or (q_shr (s_hob x : Int) 1) (q_and (x : Int) (q_w ((q_shr (s_hob x : Int) 1) - 1))) = (((s_hob x / 2) ||| (x &&& (s_hob x / 2 - 1)) : Nat) : Int) ∧ ((s_hob x / 2) ||| (x &&& (s_hob x / 2 - 1))) < 16 := by decide +kernel
  unfold s_eL
  by_cases hl : s_hob x ≤ 1
  · rw [if_pos hl]
    exact ⟨d, e_Cs_endLowestRow_0 ⟨_, _, c_J_highestOneBit h1 h2, e_Cs_endLowestRow_2 ⟨fun _ => e_Cs_endLowestRow_21 rfl, fun hh => by omega⟩⟩, q_ag_refl _ _, eT, eN⟩
  · rw [if_neg hl]
    obtain ⟨d', v, a, r1, r2⟩ := c_Cs_pass (T := T) (N := N) (st := x) (nx := (s_hob x / 2) ||| (x &&& (s_hob x / 2 - 1))) (mo := 0) h2 (e1 x h2 (by omega)).2 (by decide) hb eT eN
    refine ⟨d', e_Cs_endLowestRow_0 ⟨_, _, c_J_highestOneBit h1 h2, e_Cs_endLowestRow_2 ⟨fun hh => by omega, fun _ => ⟨none, q_mk d' b, ?_, e_Cs_endLowestRow_21 rfl⟩⟩⟩, a, r1, r2⟩
    rw [(e1 x h2 (by omega)).1]
    exact v
theorem c_Cs_addGo {T : Nat → Nat → Int} {x : Nat} (_h1 : 1 ≤ x) (h2 : x < 16) {b : Nat} (hb : b < 2) : ∀ (f p : Nat) (N : Nat → Nat → Int) (d : qD), p + f = s_hob x → s_tb T d b → s_tb N d (1 - b) → ∃ d', q_Ev m_Cs_addColumn 5 [q_r t_Cs 0, q_i (x : Int), q_i (s_hob x : Int), q_i (p : Int), none] [] (q_mk d b) (none, q_mk d' b) ∧ q_ag [t_tabRow] d d' ∧ s_tb T d' b ∧ s_tb (s_run T (s_aC x p f) N) d' (1 - b)
  | 0, p, N, d, hf, eT, eN => ⟨d, e_Cs_addColumn_5 ⟨fun _ => rfl, fun hh => by omega⟩, q_ag_refl _ _, eT, eN⟩
  | f + 1, p, N, d, hf, eT, eN => by
    have hh8 : s_hob x ≤ 8 := by unfold s_hob; split; · omega
                                 split; · omega
                                 split <;> omega
    have e1 : ∀ x : Nat, x < 16 → ∀ p : Nat, p < 8 → q_or (x : Int) (p : Int) = ((x ||| p : Nat) : Int) ∧ (x ||| p) < 16 := by decide +kernel
    have ew : q_w ((p : Int) + 1) = ((p + 1 : Nat) : Int) := q_wS (by omega)
    have hpc := q_pc_le p
    unfold s_aC
    by_cases hc : s_okC x p = true
    · rw [if_pos hc]
      obtain ⟨d1, v1, a1, r1, r2⟩ := c_Cs_pass (T := T) (N := N) (st := x) (nx := x ||| p) (mo := q_pc p) h2 (e1 x h2 p (by omega)).2 (by omega) hb eT eN
      obtain ⟨d2, v2, a2, r3, r4⟩ := c_Cs_addGo (T := T) _h1 h2 hb f (p + 1) _ d1 (by omega) r1 r2
      have k28 : q_Ev m_Cs_addColumn 28 [q_r t_Cs 0, q_i (x : Int), q_i (s_hob x : Int), q_i (p : Int), none] [] (q_mk d b) (none, q_mk d2 b) := by
        refine e_Cs_addColumn_28 ⟨_, _, c_J_bitCount (by omega), ?_⟩
        rw [(e1 x h2 p (by omega)).1]
        refine e_Cs_addColumn_35 ⟨_, _, v1, e_Cs_addColumn_36 ?_⟩
        rw [ew]; exact v2
      refine ⟨d2, e_Cs_addColumn_5 ⟨fun hh => by omega, fun _ => ⟨fun _ => k28, fun hp => ⟨fun hq => ?_, fun _ => k28⟩⟩⟩, q_ag_tr a1 a2, r3, ?_⟩
      · unfold s_okC at hc
        rw [Bool.or_eq_true, decide_eq_true_eq, decide_eq_true_eq] at hc
        rcases hc with hc | hc
        · omega
        · exact absurd hc hq
      · rw [s_run_app]; exact r4
    · rw [if_neg hc]
      obtain ⟨d2, v2, a2, r3, r4⟩ := c_Cs_addGo (T := T) _h1 h2 hb f (p + 1) N d (by omega) eT eN
      have hc' := Bool.eq_false_iff.mpr hc
      unfold s_okC at hc'
      rw [Bool.or_eq_false_iff, decide_eq_false_iff_not, decide_eq_false_iff_not] at hc'
      refine ⟨d2, e_Cs_addColumn_5 ⟨fun hh => by omega, fun _ => ⟨fun hp => absurd (by omega) hc'.1, fun hp => ⟨fun hq => e_Cs_addColumn_36 ?_, fun hq => absurd hq hc'.2⟩⟩⟩, a2, r3, by rw [List.nil_append]; exact r4⟩
      rw [ew]; exact v2
theorem c_Cs_addColumn {T N : Nat → Nat → Int} {x : Nat} (h1 : 1 ≤ x) (h2 : x < 16) {b : Nat} (hb : b < 2) {d : qD} (eT : s_tb T d b) (eN : s_tb N d (1 - b)) : ∃ d', q_Ev m_Cs_addColumn 0 [q_r t_Cs 0, q_i (x : Int), none, none, none] [] (q_mk d b) (none, q_mk d' b) ∧ q_ag [t_tabRow] d d' ∧ s_tb T d' b ∧ s_tb (s_run T (s_aC x 0 (s_hob x)) N) d' (1 - b) := by
  obtain ⟨d', v, a, r1, r2⟩ := c_Cs_addGo (T := T) h1 h2 hb (s_hob x) 0 N d (by omega) eT eN
  exact ⟨d', e_Cs_addColumn_0 ⟨_, _, c_J_highestOneBit h1 h2, e_Cs_addColumn_2 v⟩, a, r1, r2⟩
def s_all : Nat → Nat → List (Nat × Nat × Nat)
  | _, 0 => []
  | x, f + 1 => s_eL x ++ s_aC x 0 (s_hob x) ++ s_all (x + 1) f
theorem c_Cs_states (hfl : s_flipOk) {T : Nat → Nat → Int} {dim x4 : Int} {b : Nat} (hb : b < 2) : ∀ (f x : Nat) (N : Nat → Nat → Int) (d : qD), x + f = 16 → 1 ≤ x → s_tb T d b → s_tb N d (1 - b) → ∃ d', q_ag [t_tabRow] d d' ∧ s_tb (s_run T (s_all x f) N) d' (1 - b) ∧ ∀ r, q_Ev m_Cs_cells 40 [q_r t_Cs 0, none, none, q_i dim, q_i x4, none] [] (q_mk d' (1 - b)) r → q_Ev m_Cs_cells 27 [q_r t_Cs 0, none, none, q_i dim, q_i x4, q_i (x : Int)] [] (q_mk d b) r
  | 0, x, N, d, hf, h1, eT, eN => ⟨d, q_ag_refl _ _, eN, fun r hr => e_Cs_cells_27 ⟨fun _ => ⟨_, _, hfl d b hb, hr⟩, fun hh => by omega⟩⟩
  | f + 1, x, N, d, hf, h1, eT, eN => by
    obtain ⟨d1, v1, a1, r1, r2⟩ := c_Cs_endLowestRow (T := T) (N := N) h1 (by omega : x < 16) hb eT eN
    obtain ⟨d2, v2, a2, r3, r4⟩ := c_Cs_addColumn (T := T) h1 (by omega : x < 16) hb r1 r2
    obtain ⟨d3, a3, r5, k⟩ := c_Cs_states hfl (dim := dim) (x4 := x4) hb f (x + 1) _ d2 (by omega) (by omega) r3 r4
    refine ⟨d3, q_ag_tr a1 (q_ag_tr a2 a3), ?_, fun r hr => e_Cs_cells_27 ⟨fun hh => by omega, fun _ => ⟨_, _, v1, e_Cs_cells_33 ⟨_, _, v2, e_Cs_cells_36 ?_⟩⟩⟩⟩
    · unfold s_all
      rw [s_run_app, s_run_app]; exact r5
    · rw [q_wS (by omega)]; exact k r hr
/-- one label -/
def s_lab1 (T : Nat → Nat → Int) : Nat → Nat → Int := s_run T (s_all 1 15) (fun _ _ => 0)
def s_labs : Nat → (Nat → Nat → Int) → (Nat → Nat → Int)
  | 0, T => T
  | n + 1, T => s_labs n (s_lab1 T)
theorem c_Cs_labels (hfl : s_flipOk) {dim : Nat} (hd : dim < 13) : ∀ (n : Nat) (T : Nat → Nat → Int) (d : qD) (b : Nat), n < 100 → b < 2 → s_tb T d b → ∃ d' b', b' < 2 ∧ q_ag [t_tabRow] d d' ∧ q_Ev m_Cs_cells 20 [q_r t_Cs 0, none, none, q_i (dim : Int), q_i (n : Int), none] [] (q_mk d b) (q_i (s_labs n T 1 dim), q_mk d' b')
  | 0, T, d, b, _, hb, eT => by
    refine ⟨d, b, hb, q_ag_refl _ _, e_Cs_cells_20 ⟨fun _ => ⟨by decide, by decide, by omega, by omega, ?_⟩, fun hh => by omega⟩⟩
    rw [Int.toNat_natCast, show (1 : Int).toNat = 1 from rfl, eT 1 dim (by decide) hd]
    rfl
  | n + 1, T, d, b, hn, hb, eT => by
    obtain ⟨d1, v1, a1, r1, r2⟩ := c_Cs_clearThen hb eT
    obtain ⟨d2, a2, r3, k⟩ := c_Cs_states hfl (dim := (dim : Int)) (x4 := ((n + 1 : Nat) : Int)) hb 15 1 _ d1 rfl (by decide) r1 r2
    obtain ⟨d3, b3, hb3, a3, v3⟩ := c_Cs_labels hfl hd n _ d2 (1 - b) (by omega) (by omega) r3
    refine ⟨d3, b3, hb3, q_ag_tr a1 (q_ag_tr a2 a3), e_Cs_cells_20 ⟨fun hh => by omega, fun _ => ⟨_, _, v1, e_Cs_cells_25 (k _ (e_Cs_cells_40 ?_))⟩⟩⟩
    rw [show ((n + 1 : Nat) : Int) + (-1) = ((n + 1 : Nat) : Int) - ((1 : Nat) : Int) by omega, q_wD (by omega) (by omega)]
    exact v3
def s_T0 (rows s k : Nat) : Int := if s = 2 ^ rows ∧ k = 0 then 1 else 0
theorem c_Cs_cells (hfl : s_flipOk) {n rows : Nat} {dim : Int} (hn : n < 8) (hr : rows < 4) (hd : 0 ≤ dim) {d : qD} {b : Nat} (hb : b < 2) : ∃ d' b', b' < 2 ∧ q_ag [t_tabRow] d d' ∧ q_Ev m_Cs_cells 0 [q_r t_Cs 0, q_i (n : Int), q_i (rows : Int), q_i dim, none, none] [] (q_mk d b) (q_i (if dim < 13 then s_labs n (s_T0 rows) 1 dim.toNat else 0), q_mk d' b') := by
  by_cases h : dim < 13
  · rw [if_pos h]
    obtain ⟨dm, rfl⟩ : ∃ k : Nat, dim = (k : Int) := ⟨dim.toNat, by omega⟩
    rw [Int.toNat_natCast]
    obtain ⟨d1, v1, a1, _, r2⟩ := c_Cs_clearThen (T := fun s k => d.1 t_tabRow (16 * b + s) k) hb (d := d) (fun s k _ _ => rfl)
    have hp : ∀ r : Nat, r < 4 → q_shl 1 (r : Int) = ((2 ^ r : Nat) : Int) ∧ 2 ^ r < 16 := by decide +kernel
    obtain ⟨d2, b2, hb2, a2, v2⟩ := c_Cs_labels hfl (by omega : dm < 13) n (s_T0 rows) (q_sI d1 t_tabRow (16 * (1 - b) + 2 ^ rows) 0 1) (1 - b) (by omega) (by omega) (fun s k hs hk => by
      unfold s_T0
      by_cases hq : s = 2 ^ rows
      · rw [hq, q_sI_at]
        by_cases hk0 : k = 0
        · rw [hk0, q_up_at, if_pos ⟨rfl, rfl⟩]
        · rw [q_up_ne _ _ hk0, if_neg (fun hc => hk0 hc.2)]
          exact r2 (2 ^ rows) k (hp rows hr).2 hk
      · rw [q_sI_ni _ _ (by omega), if_neg (fun hc => hq hc.1)]
        exact r2 s k hs hk)
    refine ⟨d2, b2, hb2, q_ag_tr a1 (q_ag_tr (q_ag_sI (by decide)) a2), e_Cs_cells_0 ⟨fun _ => ⟨_, _, v1, e_Cs_cells_7 ⟨_, _, hfl d1 b hb, e_Cs_cells_9 ?_⟩⟩, fun hh => by omega⟩⟩
    rw [(hp rows hr).1]
    have := (hp rows hr).2
    generalize 2 ^ rows = w at *
    refine ⟨by omega, by omega, by decide, by decide, ?_⟩
    rw [Int.toNat_natCast]
    exact v2
  · rw [if_neg h]
    exact ⟨d, b, hb, q_ag_refl _ _, e_Cs_cells_0 ⟨fun hh => absurd hh h, fun _ => rfl⟩⟩
def s_howC (x y z : Int) : Int := if 2 ≤ x ∧ x ≤ 7 ∧ 0 ≤ y ∧ y ≤ x ∧ 0 ≤ z then (if z < 13 then s_labs x.toNat (s_T0 (min y.toNat (x.toNat - y.toNat))) 1 z.toNat else 0) else -1
theorem c_GC_howMany (hfl : s_flipOk) {x y z : Int} {d : qD} {b : Nat} (hb : b < 2) : ∃ d' b', b' < 2 ∧ q_ag [t_tabRow] d d' ∧ q_Ev m_GC_howMany 0 [q_r t_GC 0, q_i x, q_i y, q_i z] [] (q_mk d b) (q_i (s_howC x y z), q_mk d' b') := by
  unfold s_howC
  by_cases h : 2 ≤ x ∧ x ≤ 7 ∧ 0 ≤ y ∧ y ≤ x ∧ 0 ≤ z
  · rw [if_pos h]
    obtain ⟨n, rfl⟩ : ∃ k : Nat, x = (k : Int) := ⟨x.toNat, by omega⟩
    obtain ⟨k, rfl⟩ : ∃ k : Nat, y = (k : Int) := ⟨y.toNat, by omega⟩
    rw [Int.toNat_natCast, Int.toNat_natCast]
    obtain ⟨d', b', hb', a, v⟩ := c_Cs_cells hfl (n := n) (rows := min k (n - k)) (dim := z) (by omega) (by omega) (by omega) (d := d) hb
    refine ⟨d', b', hb', a, e_GC_howMany_0 ⟨fun hh => by omega, fun _ => ⟨fun hh => by omega, fun _ => ⟨fun hh => by omega, fun _ => ⟨fun hh => by omega, fun _ => ⟨fun _ => ⟨q_i (if z < 13 then s_labs n (s_T0 (min k (n - k))) 1 z.toNat else 0), q_mk d' b', ?_, e_GC_howMany_25 rfl⟩, fun hh => by omega⟩⟩⟩⟩⟩⟩
    have : q_min (k : Int) (q_w ((n : Int) - (k : Int))) = ((min k (n - k) : Nat) : Int) := by
      rw [q_wD (by omega) (by omega)]
      unfold q_min
      split <;> omega
    rw [this]
    exact v
  · rw [if_neg h]
    have no : q_Ev m_GC_howMany 13 [none, none, none, none] [] (q_mk d b) (q_i (-1), q_mk d b) := e_GC_howMany_13 rfl
    exact ⟨d, b, hb, q_ag_refl _ _, e_GC_howMany_0 ⟨fun _ => no, fun h1 => ⟨fun _ => no, fun h2 => ⟨fun _ => no, fun h3 => ⟨fun _ => no, fun h4 => ⟨fun h5 => absurd ⟨h1, h2, h3, h4, h5⟩ h, fun _ => no⟩⟩⟩⟩⟩⟩
