/-! reading sets: the class's loop -/
abbrev s_TSS : List Nat := [t_Re, t_sets, t_begins, t_reImg]
theorem c_Re_setsGo {sz : Nat} {V : Nat → Int} (hz : sz ≤ 160) {b : Nat} : ∀ (f k p size : Nat) (S G : Nat → Nat) (d : qD), k + f = 9 → k ≤ 8 → p ≤ sz → size ≤ 8 → s_Tp sz V d → d.1 t_Re 0 4 = (p : Int) → d.1 t_Re 0 7 = (k : Int) → d.1 t_Re 0 5 = (size : Int) → s_row (d.1 t_sets 0) k S → s_row (d.1 t_begins 0) k G → (∀ j, 1 ≤ j → j ≤ k → S j < 256 ∧ G j ≤ sz) → ∃ d', q_ag s_TSS d d' ∧ match s_rsets sz V f k p size S G with
    | .inl c => q_Ev m_Re_readSets 3 [q_r t_Re 0] [] (q_mk d b) (q_i (c : Int), q_mk d' b) ∧ 1 ≤ c ∧ c < 2000
    | .inr (n, S', G') => 2 ≤ n ∧ n ≤ 8 ∧ d'.1 t_Re 0 7 = (n : Int) ∧ s_row (d'.1 t_sets 0) n S' ∧ s_row (d'.1 t_begins 0) n G' ∧ (∀ j, 1 ≤ j → j ≤ n → S' j < 256 ∧ G' j ≤ sz) ∧ ∀ r v w2, q_Ev m_Re_faultOfSets 0 [q_r t_Re 0, none, none] [] (q_mk d' b) (v, w2) → q_Ev m_Re_readSets 47 [none] (v.toList ++ []) w2 r → q_Ev m_Re_readSets 3 [q_r t_Re 0] [] (q_mk d b) r
  | 0, k, p, size, S, G, d, hf, hk, _, _, _, _, _, _, _, _, _ => by omega
  | f + 1, k, p, size, S, G, d, hf, hk, hp, hsz, e, e4, e7, e5, eS, eG, hB => by
    unfold s_rsets
    have ft : q_Ev m_Re_fault 0 [q_r t_Re 0, q_i (d.1 t_Re 0 4), q_i 1] [] (q_mk d b) (q_i ((8 * p + 1 : Nat) : Int), q_mk d b) := by
      rw [e4]; exact c_Re_fault (k := 1) (by omega) (by omega)
    by_cases h1 : sz ≤ p
    · rw [if_pos h1]
      by_cases h2 : k < 2
      · rw [if_pos h2]
        refine ⟨d, q_ag_refl _ _, e_Re_readSets_3 ⟨fun _ => ⟨fun hh => ?_, fun _ => ⟨_, _, ft, e_Re_readSets_44 (e_Re_readSets_47 rfl)⟩⟩, fun hh => ?_⟩, by omega, by omega⟩
        · rw [e7] at hh; omega
        · rw [e4, e.1] at hh; omega
      · rw [if_neg h2]
        refine ⟨d, q_ag_refl _ _, by omega, hk, e7, eS, eG, hB, fun r v w2 v1 v2 => e_Re_readSets_3 ⟨fun _ => ⟨fun _ => ⟨_, _, v1, v2⟩, fun hh => ?_⟩, fun hh => ?_⟩⟩
        · rw [e7] at hh; omega
        · rw [e4, e.1] at hh; omega
    · rw [if_neg h1]
      by_cases h8 : k = 8
      · rw [if_pos h8]
        refine ⟨d, q_ag_refl _ _, e_Re_readSets_3 ⟨fun hh => ?_, fun _ => ⟨fun _ => e_Re_readSets_20 ⟨_, _, ft, e_Re_readSets_25 rfl⟩, fun hh => ?_⟩⟩, by omega, by omega⟩
        · rw [e4, e.1] at hh; omega
        · rw [e7] at hh; omega
      · rw [if_neg h8]
        obtain ⟨d1, a1, o7, oJ, hmm⟩ := c_Re_readSet (V := V) (k := k) hz hp (by omega) hsz (b := b) e e4 e5
        have ew : q_w (d.1 t_Re 0 7 + 1) = ((k + 1 : Nat) : Int) := by rw [e7, q_wS (by omega)]
        have f20 : ∀ q : Nat, q ≤ sz → d1.1 t_Re 0 4 = (q : Int) → q_Ev m_Re_readSets 20 [q_r t_Re 0] [] (q_mk d1 b) (q_i ((8 * q + 1 : Nat) : Int), q_mk d1 b) := by
          intro q hq h4
          have ft1 : q_Ev m_Re_fault 0 [q_r t_Re 0, q_i (d1.1 t_Re 0 4), q_i 1] [] (q_mk d1 b) (q_i ((8 * q + 1 : Nat) : Int), q_mk d1 b) := by
            rw [h4]; exact c_Re_fault (k := 1) (by omega) (by omega)
          exact e_Re_readSets_20 ⟨_, _, ft1, e_Re_readSets_25 rfl⟩
        have hm8 : (if k = 0 then 8 else size) ≤ 8 := by split <;> omega
        have bd := s_rset_bd (sz := sz) (V := V) hm8 9 0 0 0 p rfl (by omega) (by decide) hp
        cases hrs : s_rset sz V (if k = 0 then 8 else size) 9 0 0 0 p with
        | inl q =>
          rw [hrs] at hmm
          obtain ⟨m1, m2⟩ := hmm
          have hq := bd.1 q hrs
          rw [← ew] at m1
          refine ⟨d1, q_ag_up a1 (by decide), e_Re_readSets_3 ⟨fun hh => ?_, fun _ => ⟨fun hh => ?_, fun _ => ⟨_, _, m1, e_Re_readSets_19 ⟨fun hx => absurd rfl hx, fun _ => f20 q hq m2⟩⟩⟩⟩, by omega, by omega⟩
          · rw [e4, e.1] at hh; omega
          · rw [e7] at hh; omega
        | inr o =>
          obtain ⟨set, cnt, q⟩ := o
          rw [hrs] at hmm
          obtain ⟨m1, m2, m3, m4, m5⟩ := hmm
          have hq := bd.2 _ hrs
          dsimp only at hq ⊢
          rw [← ew] at m1
          by_cases hg : 0 < cnt ∧ (k = 0 ∨ cnt = size) ∧ s_dgt (s_bt sz V q) = false
          · rw [if_pos hg]
            rw [decide_eq_true hg] at m1
            have hsz2 : (if k = 0 then cnt else size) ≤ 8 := by split <;> omega
            have eT1 : s_Tp sz V d1 := ⟨by rw [a1.1 t_Ta (by decide)]; exact e.1, fun j hj => by rw [a1.1 t_bytes (by decide)]; exact e.2 j hj⟩
            have sk := c_Re_skip (p := q) hz (b := b) hq.2.2.2 eT1 m2
            obtain ⟨d', a, hm⟩ := c_Re_setsGo (V := V) hz (b := b) f (k + 1) (s_sk sz V q) (if k = 0 then cnt else size) (s_put S (k + 1) set) (s_put G (k + 1) p) (q_sI (q_sI d1 t_Re 0 4 (s_sk sz V q : Int)) t_Re 0 7 ((k + 1 : Nat) : Int)) (by omega) (by omega) (s_sk_le hq.2.2.2) hsz2 ⟨by rw [q_sI_ne _ _ (by decide), q_sI_ne _ _ (by decide)]; exact eT1.1, fun j hj => by rw [q_sI_ne _ _ (by decide), q_sI_ne _ _ (by decide)]; exact eT1.2 j hj⟩ (by rw [q_sI_at, q_up_ne _ _ (by decide), q_sI_at, q_up_at]) (by rw [q_sI_at, q_up_at]) (by rw [q_sI_at, q_up_ne _ _ (by decide), q_sI_at, q_up_ne _ _ (by decide)]; exact m5) (fun j j1 j2 => by
              rw [q_sI_ne _ _ (by decide), q_sI_ne _ _ (by decide)]
              unfold s_put
              by_cases hj : j = k + 1
              · rw [if_pos hj, hj]; exact m3
              · rw [if_neg hj, (oJ j hj).1]; exact eS j j1 (by omega)) (fun j j1 j2 => by
              rw [q_sI_ne _ _ (by decide), q_sI_ne _ _ (by decide)]
              unfold s_put
              by_cases hj : j = k + 1
              · rw [if_pos hj, hj]; exact m4
              · rw [if_neg hj, (oJ j hj).2]; exact eG j j1 (by omega)) (fun j j1 j2 => by
              unfold s_put
              by_cases hj : j = k + 1
              · rw [if_pos hj, if_pos hj]; exact ⟨hq.1, by omega⟩
              · rw [if_neg hj, if_neg hj]; exact hB j j1 (by omega))
            have step : ∀ r, q_Ev m_Re_readSets 3 [q_r t_Re 0] [] (q_mk (q_sI (q_sI d1 t_Re 0 4 (s_sk sz V q : Int)) t_Re 0 7 ((k + 1 : Nat) : Int)) b) r → q_Ev m_Re_readSets 3 [q_r t_Re 0] [] (q_mk d b) r := by
              intro r hr
              refine e_Re_readSets_3 ⟨fun hh => ?_, fun _ => ⟨fun hh => ?_, fun _ => ⟨_, _, m1, e_Re_readSets_19 ⟨fun _ => ⟨_, _, sk, e_Re_readSets_28 ?_⟩, fun hx => absurd hx (by decide)⟩⟩⟩⟩
              · rw [e4, e.1] at hh; omega
              · rw [e7] at hh; omega
              · have e7' : (q_sI d1 t_Re 0 4 (s_sk sz V q : Int)).1 t_Re 0 7 = (k : Int) := by
                  rw [q_sI_at, q_up_ne _ _ (by decide), o7]; exact e7
                rw [e7', q_wS (by omega)]
                exact hr
            refine ⟨d', q_ag_tr (q_ag_up a1 (by decide)) (q_ag_tr (q_ag_tr (q_ag_sI (by decide)) (q_ag_sI (by decide))) a), ?_⟩
            cases hrp : s_rsets sz V f (k + 1) (s_sk sz V q) (if k = 0 then cnt else size) (s_put S (k + 1) set) (s_put G (k + 1) p) with
            | inl c => rw [hrp] at hm; exact ⟨step _ hm.1, hm.2⟩
            | inr o =>
              obtain ⟨n, S', G'⟩ := o
              rw [hrp] at hm
              exact ⟨hm.1, hm.2.1, hm.2.2.1, hm.2.2.2.1, hm.2.2.2.2.1, hm.2.2.2.2.2.1, fun r v w2 v1 v2 => step r (hm.2.2.2.2.2.2 r v w2 v1 v2)⟩
          · rw [if_neg hg]
            rw [decide_eq_false hg] at m1
            refine ⟨d1, q_ag_up a1 (by decide), e_Re_readSets_3 ⟨fun hh => ?_, fun _ => ⟨fun hh => ?_, fun _ => ⟨_, _, m1, e_Re_readSets_19 ⟨fun hx => absurd rfl hx, fun _ => f20 q hq.2.2.2 m2⟩⟩⟩⟩, by omega, by omega⟩
            · rw [e4, e.1] at hh; omega
            · rw [e7] at hh; omega
/-! what is wrong with the sets -/
def s_ckR (n : Nat) (S G : Nat → Nat) : Nat → Nat → Option Nat
  | 0, _ => none
  | f + 1, i => if S i &&& (2 ^ n - 1) = S i then s_ckR n S G f (i + 1) else some (8 * (G i + q_pc (S i &&& (2 ^ n - 1))) + 2)
def s_ckB (S G : Nat → Nat) : Nat → Nat → Option Nat
  | 0, _ => none
  | f + 1, i => if s_behind (S (i - 1)) (i - 1) (S i) = true then s_ckB S G f (i + 1) else some (8 * G i + 3)
def s_finN (n : Nat) (S G : Nat → Nat) : s_O := match s_ckR n S G n 1 with
  | some c => .inl c
  | none => match s_ckB S G (n - 1) 2 with
    | some c => .inl c
    | none => if s_behind (S n) n (S 1) = true then .inr (n, fun i => s_step (S i) i (S (i % n + 1)) n) else .inl (8 * G n + 3)
def s_neckO (sz : Nat) (V : Nat → Int) (p : Nat) : s_O := match s_rsets sz V 9 0 p 0 (fun _ => 0) (fun _ => 0) with
  | .inl c => .inl c
  | .inr (n, S, G) => s_finN n S G
/-- sets that stand behind each other all round give a bounded permutation -/
theorem s_behind_hl {s i x : Nat} (hs : s < 256) (hx : x < 256) (h1 : 1 ≤ i) (h8 : i ≤ 8) (h : s_behind s i x = true) : (q_hl s i = true → q_dif x (s_wo s i) ≠ 0 ∧ (∀ l, 1 ≤ l → l ≤ 8 → q_hl x l = ((q_hl s l && !decide (l = i)) || decide (l = s_least (q_dif x (s_wo s i)))))) ∧ (q_hl s i = false → x = s) := by
  unfold s_behind at h
  refine ⟨fun hi => ?_, fun hi => ?_⟩
  · rw [if_pos hi, Bool.and_eq_true, beq_iff_eq, beq_iff_eq] at h
    obtain ⟨hsub, hpc⟩ := h
    have hw : q_dif s (2 ^ (i - 1)) = s_wo s i := rfl
    rw [hw] at hsub
    have hwl : s_wo s i < 256 := s_wo_lt hs
    have hsub' : ∀ l, 1 ≤ l → q_hl (s_wo s i) l = true → q_hl x l = true := by
      intro l l1 hl
      have : q_hl (x &&& s_wo s i) l = true := by rw [hsub]; exact hl
      unfold q_hl at this ⊢
      rw [Nat.testBit_and, Bool.and_eq_true] at this
      exact this.1
    have hpw := s_pc_wo hs h1 h8 hi
    have hd8 : q_dif x (s_wo s i) < 256 := q_dif_lt (k := 8) hx
    have hone : q_pc (q_dif x (s_wo s i)) = 1 := by
      have one : ∀ u v : Bool, (v = true → u = true) → (u && !v).toNat + v.toNat = u.toNat := by decide
      have b := fun k : Nat => one (x.testBit k) ((s_wo s i).testBit k) (fun hh => hsub' (k + 1) (by omega) hh)
      have b0 := b 0
      have b1 := b 1
      have b2 := b 2
      have b3 := b 3
      have b4 := b 4
      have b5 := b 5
      have b6 := b 6
      have b7 := b 7
      unfold q_pc at hpw hpc ⊢
      simp only [q_dif_bit]
      omega
    have single : ∀ y : Nat, y < 256 → q_pc y = 1 → y ≠ 0 ∧ ∀ l : Nat, l < 9 → 1 ≤ l → q_hl y l = decide (l = s_least y) := by decide +kernel
    obtain ⟨g1, g2⟩ := single _ hd8 hone
    refine ⟨g1, fun l l1 l2 => ?_⟩
    have hl := g2 l (by omega) l1
    rw [q_hl_dif] at hl
    rw [← hl, ← s_wo_hl h1 l1]
    cases hq : q_hl (s_wo s i) l with
    | true => rw [hsub' l l1 hq]; rfl
    | false => rw [Bool.not_false, Bool.and_true, Bool.false_or]
  · rw [hi] at h
    simpa using h
