/-! the model's next ones; what is kept -/
theorem c_Md_swCopy {n i j : Nat} {F : Nat → Nat} (hn : n ≤ 8) {b : Nat} : ∀ (f m : Nat) (d : qD), m + f = n → d.1 t_Md 0 10 = (n : Int) → s_row (d.1 t_mF 0) n F → (∀ k, 1 ≤ k → k ≤ m → d.1 t_mOther 0 k = (F k : Int)) → ∃ d', q_ag [t_mOther] d d' ∧ s_row (d'.1 t_mOther 0) n F ∧ ∀ r, q_Ev m_Md_swaps 2 [q_r t_Md 0, q_i (i : Int), q_i (j : Int), q_i ((n + 1 : Nat) : Int), none] [] (q_mk d' b) r → q_Ev m_Md_swaps 2 [q_r t_Md 0, q_i (i : Int), q_i (j : Int), q_i ((m + 1 : Nat) : Int), none] [] (q_mk d b) r
  | 0, m, d, h, e0, eF, eI => by
    have : m = n := by omega
    subst this
    exact ⟨d, q_ag_refl _ _, eI, fun r hr => hr⟩
  | f + 1, m, d, h, e0, eF, eI => by
    obtain ⟨d', a, r1, r2⟩ := c_Md_swCopy (i := i) (j := j) hn (b := b) f (m + 1) (q_sI d t_mOther 0 (m + 1) (F (m + 1) : Int)) (by omega) (by rw [q_sI_ne _ _ (by decide), e0]) (by rw [q_sI_ne _ _ (by decide)]; exact eF) (by
      intro k h1 h2
      rw [q_sI_at]
      by_cases hq : k = m + 1
      · subst hq; rw [q_up_at]
      · rw [q_up_ne _ _ hq]; exact eI k h1 (by omega))
    refine ⟨d', q_ag_tr (q_ag_sI (by decide)) a, r1, fun r hr => e_Md_swaps_2 ⟨fun h2 => ?_, fun _ => ⟨by omega, by omega, by omega, by omega, ?_⟩⟩⟩
    · rw [e0] at h2; omega
    · rw [q_wS (by omega), Int.toNat_natCast, eF (m + 1) (by omega) (by omega)]; exact r2 r hr
theorem c_Md_swChk {n : Nat} {V : Nat → Int} (hn : n ≤ 8) (hV : ∀ k, 1 ≤ k → k ≤ n → -1000 ≤ V k ∧ V k ≤ 1000) {d : qD} {b : Nat} (e0 : d.1 t_Md 0 10 = (n : Int)) (eV : ∀ k, 1 ≤ k → k ≤ n → d.1 t_mOther 0 k = V k) : ∀ (f m : Nat), m + f = n + 1 → 1 ≤ m → ∃ z : Bool, q_Ev m_Md_swaps 62 [q_r t_Md 0, none, none, none, q_i (m : Int)] [] (q_mk d b) (q_i (q_b2i z), q_mk d b) ∧ (z = true ↔ ∀ k, m ≤ k → k ≤ n → (k : Int) ≤ V k ∧ V k ≤ ((k + n : Nat) : Int))
  | 0, m, h, hm => by
    refine ⟨true, e_Md_swaps_62 ⟨fun _ => ⟨by decide, by decide, rfl⟩, fun h2 => ?_⟩, fun _ k h1 h2 => by omega, fun _ => rfl⟩
    rw [e0] at h2; omega
  | f + 1, m, h, hm => by
    have hv := hV m hm (by omega)
    obtain ⟨z, v, hz⟩ := c_Md_swChk hn hV (b := b) e0 eV f (m + 1) (by omega) (by omega)
    have ei := c_Md_isIn (x := V m) (lo := (m : Int)) (hi := ((m + n : Nat) : Int)) (q_can_s (by omega) (by omega)) (q_can_s (by omega) (by omega)) (q_can_s (by omega) (by omega)) (d := d) (b := b)
    have st : ∀ r, q_Ev m_Md_swaps 79 [q_r t_Md 0, none, none, none, q_i (m : Int)] [.inl (q_b2i (decide ((m : Int) ≤ V m ∧ V m ≤ ((m + n : Nat) : Int))))] (q_mk d b) r → q_Ev m_Md_swaps 62 [q_r t_Md 0, none, none, none, q_i (m : Int)] [] (q_mk d b) r := by
      intro r hr
      refine e_Md_swaps_62 ⟨fun h2 => ?_, fun _ => ⟨by omega, by omega, ?_⟩⟩
      · rw [e0] at h2; omega
      · rw [Int.toNat_natCast, eV m hm (by omega), e0, show q_w ((m : Int) + (n : Int)) = ((m + n : Nat) : Int) by rw [q_w_id (by omega) (by omega)]; omega]
        exact ⟨_, _, ei, hr⟩
    by_cases hq : (m : Int) ≤ V m ∧ V m ≤ ((m + n : Nat) : Int)
    · rw [decide_eq_true hq] at st
      refine ⟨z, st _ (e_Md_swaps_79 ⟨fun _ => ?_, fun h2 => absurd h2 (by decide)⟩), ?_⟩
      · rw [q_wS (by omega)]; exact v
      · rw [hz]
        refine ⟨fun h2 k h3 h4 => ?_, fun h2 k h3 h4 => h2 k (by omega) h4⟩
        by_cases hk : k = m
        · subst hk; exact hq
        · exact h2 k (by omega) h4
    · rw [decide_eq_false hq] at st
      refine ⟨false, st _ (e_Md_swaps_79 ⟨fun h2 => absurd rfl h2, fun _ => ⟨by decide, by decide, rfl⟩⟩), fun h2 => absurd h2 (by decide), fun h2 => absurd (h2 m (Nat.le_refl m) (by omega)) hq⟩
theorem c_Md_swaps {n i j : Nat} {F : Nat → Nat} (hb : s_bd n F) (hi : 1 ≤ i) (hin : i ≤ n) (hij : i < j) (hji : j < i + n) {d : qD} {b : Nat} (e0 : d.1 t_Md 0 10 = (n : Int)) (eF : s_row (d.1 t_mF 0) n F) : ∃ d', q_Ev m_Md_swaps 0 [q_r t_Md 0, q_i (i : Int), q_i (j : Int), none, none] [] (q_mk d b) (q_i (q_b2i (s_swOk n F i j)), q_mk d' b) ∧ q_ag [t_mOther] d d' ∧ (s_swOk n F i j = true → s_row (d'.1 t_mOther 0) n (s_swF n F i j)) := by
  have hn := hb.1
  have b1 := hb.2 i hi hin
  obtain ⟨d1, a1, r1, k1⟩ := c_Md_swCopy (i := i) (j := j) hn (b := b) n 0 d (by omega) e0 eF (fun k h1 h2 => by omega)
  have g0 : d1.1 t_Md 0 10 = (n : Int) := by rw [a1.1 t_Md (by decide), e0]
  have gF : s_row (d1.1 t_mF 0) n F := by rw [a1.1 t_mF (by decide)]; exact eF
  have hat := c_Md_at_f hn (G := F) (j := j) (fun i h1 h2 => by have := hb.2 i h1 h2; omega) (d := d1) (b := b) gF (by omega) (by omega)
  have key : ∀ be l : Nat, l + be = j → 1 ≤ l → l ≤ n → l ≠ i → be ≤ 8 → s_at F n j = F l + be → ((if n < j then j - n else j) = l) → ((if n < j then n else 0) = be) → (∀ r, q_Ev m_Md_swaps 60 [q_r t_Md 0, none, none, none, none] [] (q_mk (q_sI (q_sI d1 t_mOther 0 l ((F i : Int) - (be : Int))) t_mOther 0 i (s_at F n j : Int)) b) r → q_Ev m_Md_swaps 22 [q_r t_Md 0, q_i (i : Int), q_i (j : Int), none, none] [.inl (s_at F n j : Int)] (q_mk d1 b) r) → ∃ d', q_Ev m_Md_swaps 0 [q_r t_Md 0, q_i (i : Int), q_i (j : Int), none, none] [] (q_mk d b) (q_i (q_b2i (s_swOk n F i j)), q_mk d' b) ∧ q_ag [t_mOther] d d' ∧ (s_swOk n F i j = true → s_row (d'.1 t_mOther 0) n (s_swF n F i j)) := by
    intro be l hlj hl hln hli hbe hats hlab hbey hgo
    have b2 := hb.2 l hl hln
    have eV : ∀ k, 1 ≤ k → k ≤ n → (q_sI (q_sI d1 t_mOther 0 l ((F i : Int) - (be : Int))) t_mOther 0 i (s_at F n j : Int)).1 t_mOther 0 k = (if k = i then (s_at F n j : Int) else if k = l then (F i : Int) - (be : Int) else (F k : Int)) := by
      intro k h1 h2
      rw [q_sI_at, q_sI_at]
      by_cases hk : k = i
      · subst hk; rw [q_up_at, if_pos rfl]
      · rw [q_up_ne _ _ hk, if_neg hk]
        by_cases hk2 : k = l
        · subst hk2; rw [q_up_at, if_pos rfl]
        · rw [q_up_ne _ _ hk2, if_neg hk2]; exact r1 k h1 h2
    obtain ⟨z, v, hz⟩ := c_Md_swChk hn (V := fun k => if k = i then (s_at F n j : Int) else if k = l then (F i : Int) - (be : Int) else (F k : Int)) (by
      intro k h1 h2
      have b3 := hb.2 k h1 h2
      split
      · omega
      · split <;> omega) (b := b) (by rw [q_sI_ne _ _ (by decide), q_sI_ne _ _ (by decide), g0]) eV n 1 (by omega) (by omega)
    have hzz : z = s_swOk n F i j := by
      rw [Bool.eq_iff_iff, hz]
      unfold s_swOk
      rw [decide_eq_true_iff]
      refine ⟨fun h => ?_, fun h k h1 h2 => ?_⟩
      · have q1 := h i hi hin
        have q2 := h l hl hln
        rw [if_pos rfl] at q1
        rw [if_neg hli, if_pos rfl] at q2
        omega
      · have b3 := hb.2 k h1 h2
        by_cases hk : k = i
        · rw [if_pos hk]; omega
        · rw [if_neg hk]
          by_cases hk2 : k = l
          · rw [if_pos hk2]; omega
          · rw [if_neg hk2]; omega
    rw [← hzz]
    refine ⟨q_sI (q_sI d1 t_mOther 0 l ((F i : Int) - (be : Int))) t_mOther 0 i (s_at F n j : Int), e_Md_swaps_0 (k1 _ (e_Md_swaps_2 ⟨fun _ => ?_, fun h2 => ?_⟩)), q_ag_tr a1 (q_ag_tr (q_ag_sI (by decide)) (q_ag_sI (by decide))), fun hok k h1 h2 => ?_⟩
    · rw [g0]
      exact ⟨_, _, hat, hgo _ (e_Md_swaps_60 v)⟩
    · rw [g0] at h2; omega
    · rw [eV k h1 h2]
      rw [hzz] at hok
      unfold s_swOk at hok
      rw [decide_eq_true_iff] at hok
      unfold s_swF
      rw [hlab, hbey]
      by_cases hk : k = i
      · rw [if_pos hk, if_neg (by omega), if_pos hk]
      · rw [if_neg hk]
        by_cases hk2 : k = l
        · rw [if_pos hk2, if_pos hk2]; omega
        · rw [if_neg hk2, if_neg hk2, if_neg hk]
  by_cases hj : n < j
  · refine key n (j - n) (by omega) (by omega) (by omega) (by omega) hn (by unfold s_at; rw [if_pos hj]) (if_pos hj) (if_pos hj) (fun r hr => e_Md_swaps_22 ⟨fun h2 => ?_, fun _ => ⟨by omega, by omega, ?_⟩⟩)
    · rw [g0] at h2; omega
    · rw [g0, q_wD (by omega) (by omega), Int.toNat_natCast, Int.toNat_natCast, gF i hi hin, q_w_id (by omega) (by omega)]
      exact ⟨by omega, by omega, by omega, by omega, hr⟩
  · refine key 0 j (by omega) (by omega) (by omega) (by omega) (by omega) (by unfold s_at; rw [if_neg hj]; rfl) (if_neg hj) (if_neg hj) (fun r hr => e_Md_swaps_22 ⟨fun _ => ⟨by omega, by omega, by omega, by omega, by omega, by omega, ?_⟩, fun h2 => ?_⟩)
    · rw [Int.toNat_natCast, Int.toNat_natCast, gF i hi hin]
      rw [show (F i : Int) - ((0 : Nat) : Int) = (F i : Int) by omega] at hr
      exact hr
    · rw [g0] at h2; omega
theorem c_Md_nextJ {n i : Nat} {F : Nat → Nat} {more w : Int} (hb : s_bd n F) (hi : 1 ≤ i) (hin : i ≤ n) {b : Nat} : ∀ (f j m : Nat) (d : qD), j + f = i + n → i < j → m + f ≤ 1000 → d.1 t_Md 0 10 = (n : Int) → s_row (d.1 t_mF 0) n F → ∃ d', q_ag [t_mOther] d d' ∧ ((s_hit w m (s_nxJ (s_good n F more) i f j).length ∧ q_Ev m_Md_nextOnes 20 [q_r t_Md 0, q_i w, none, q_i (m : Int), q_i ((s_inv F n : Int) + more), q_i (i : Int), q_i (j : Int)] [] (q_mk d b) (q_i w, q_mk d' b) ∧ s_row (d'.1 t_mOther 0) n (s_nxF n F (s_nxJ (s_good n F more) i f j) (w - (m : Int)).toNat)) ∨ (¬ s_hit w m (s_nxJ (s_good n F more) i f j).length ∧ ∀ r, q_Ev m_Md_nextOnes 12 [q_r t_Md 0, q_i w, none, q_i ((m + (s_nxJ (s_good n F more) i f j).length : Nat) : Int), q_i ((s_inv F n : Int) + more), q_i ((i + 1 : Nat) : Int), none] [] (q_mk d' b) r → q_Ev m_Md_nextOnes 20 [q_r t_Md 0, q_i w, none, q_i (m : Int), q_i ((s_inv F n : Int) + more), q_i (i : Int), q_i (j : Int)] [] (q_mk d b) r)) := by
  have hn := hb.1
  have ein : q_w ((i : Int) + (n : Int)) = ((i + n : Nat) : Int) := by rw [q_w_id (by omega) (by omega)]; omega
  intro f
  induction f with
  | zero =>
    intro j m d h hij hmf e0 eF
    refine ⟨d, q_ag_refl _ _, Or.inr ⟨?_, fun r hr => e_Md_nextOnes_20 ?_⟩⟩
    · unfold s_hit s_nxJ; rw [List.length_nil]; omega
    · rw [e0, ein, q_wS (by omega)]
      exact ⟨fun _ => hr, fun h2 => by omega⟩
  | succ f ih =>
    intro j m d h hij hmf e0 eF
    obtain ⟨d1, v1, a1, r1⟩ := c_Md_swaps hb hi hin hij (by omega) (d := d) (b := b) e0 eF
    have st : ∀ r, q_Ev m_Md_nextOnes 30 [q_r t_Md 0, q_i w, none, q_i (m : Int), q_i ((s_inv F n : Int) + more), q_i (i : Int), q_i (j : Int)] [.inl (q_b2i (s_swOk n F i j))] (q_mk d1 b) r → q_Ev m_Md_nextOnes 20 [q_r t_Md 0, q_i w, none, q_i (m : Int), q_i ((s_inv F n : Int) + more), q_i (i : Int), q_i (j : Int)] [] (q_mk d b) r := by
      intro r hr
      refine e_Md_nextOnes_20 ?_
      rw [e0, ein]
      exact ⟨fun h2 => by omega, fun _ => ⟨_, _, v1, hr⟩⟩
    have g0 : d1.1 t_Md 0 10 = (n : Int) := by rw [a1.1 t_Md (by decide), e0]
    have gF : s_row (d1.1 t_mF 0) n F := by rw [a1.1 t_mF (by decide)]; exact eF
    by_cases hg : s_good n F more i j = true
    · rw [s_nxJ, if_pos hg]
      unfold s_good at hg
      rw [Bool.and_eq_true, decide_eq_true_iff] at hg
      have hrow := r1 hg.1
      have iv := c_Md_inv_o hn (G := s_swF n F i j) (s_swF_le hb hi hin hij (by omega)) (d := d1) (b := b) hrow
      by_cases hw : (m : Int) = w
      · refine ⟨d1, a1, Or.inl ⟨?_, st _ ?_, ?_⟩⟩
        · unfold s_hit; rw [List.length_cons]; omega
        · refine e_Md_nextOnes_30 ⟨fun h2 => ?_, fun _ => ?_⟩
          · rw [hg.1] at h2; exact absurd h2 (by decide)
          · rw [g0]
            exact ⟨_, _, iv, e_Md_nextOnes_36 ⟨fun _ => ⟨fun h2 => absurd hw h2, fun _ => by rw [hw]⟩, fun h2 => absurd hg.2 h2⟩⟩
        · rw [show (w - (m : Int)).toNat = 0 by omega]; exact hrow
      · obtain ⟨d', a, hh⟩ := ih (j + 1) (m + 1) d1 (by omega) (by omega) (by omega) g0 gF
        have st2 : ∀ r, q_Ev m_Md_nextOnes 20 [q_r t_Md 0, q_i w, none, q_i ((m + 1 : Nat) : Int), q_i ((s_inv F n : Int) + more), q_i (i : Int), q_i ((j + 1 : Nat) : Int)] [] (q_mk d1 b) r → q_Ev m_Md_nextOnes 20 [q_r t_Md 0, q_i w, none, q_i (m : Int), q_i ((s_inv F n : Int) + more), q_i (i : Int), q_i (j : Int)] [] (q_mk d b) r := by
          intro r hr
          refine st r (e_Md_nextOnes_30 ⟨fun h2 => ?_, fun _ => ?_⟩)
          · rw [hg.1] at h2; exact absurd h2 (by decide)
          · rw [g0]
            refine ⟨_, _, iv, e_Md_nextOnes_36 ⟨fun _ => ⟨fun _ => e_Md_nextOnes_45 ?_, fun h2 => absurd h2 hw⟩, fun h2 => absurd hg.2 h2⟩⟩
            rw [q_wS (by omega), q_wS (by omega)]; exact hr
        refine ⟨d', q_ag_tr a1 a, ?_⟩
        rcases hh with ⟨q1, q2, q3⟩ | ⟨q1, q2⟩
        · left
          unfold s_hit at q1 ⊢
          rw [List.length_cons]
          refine ⟨by omega, st2 _ q2, ?_⟩
          have e5 : (w - (m : Int)).toNat = (w - ((m + 1 : Nat) : Int)).toNat + 1 := by omega
          unfold s_nxF at q3 ⊢
          rw [e5, List.getD_cons_succ]; exact q3
        · right
          unfold s_hit at q1 ⊢
          rw [List.length_cons]
          refine ⟨by omega, fun r hr => st2 r (q2 r ?_)⟩
          rw [show m + 1 + (s_nxJ (s_good n F more) i f (j + 1)).length = m + ((s_nxJ (s_good n F more) i f (j + 1)).length + 1) by omega]; exact hr
    · rw [s_nxJ, if_neg hg]
      obtain ⟨d', a, hh⟩ := ih (j + 1) m d1 (by omega) (by omega) (by omega) g0 gF
      have st2 : ∀ r, q_Ev m_Md_nextOnes 20 [q_r t_Md 0, q_i w, none, q_i (m : Int), q_i ((s_inv F n : Int) + more), q_i (i : Int), q_i ((j + 1 : Nat) : Int)] [] (q_mk d1 b) r → q_Ev m_Md_nextOnes 20 [q_r t_Md 0, q_i w, none, q_i (m : Int), q_i ((s_inv F n : Int) + more), q_i (i : Int), q_i (j : Int)] [] (q_mk d b) r := by
        intro r hr
        have k45 : q_Ev m_Md_nextOnes 45 [q_r t_Md 0, q_i w, none, q_i (m : Int), q_i ((s_inv F n : Int) + more), q_i (i : Int), q_i (j : Int)] [] (q_mk d1 b) r := by
          refine e_Md_nextOnes_45 ?_
          rw [q_wS (by omega)]; exact hr
        refine st r (e_Md_nextOnes_30 ⟨fun _ => k45, fun h2 => ?_⟩)
        have hok := q_b2i_t h2
        have hrow := r1 hok
        have iv := c_Md_inv_o hn (G := s_swF n F i j) (s_swF_le hb hi hin hij (by omega)) (d := d1) (b := b) hrow
        rw [g0]
        refine ⟨_, _, iv, e_Md_nextOnes_36 ⟨fun h3 => absurd ?_ hg, fun _ => k45⟩⟩
        unfold s_good
        rw [hok, decide_eq_true h3]; rfl
      refine ⟨d', q_ag_tr a1 a, ?_⟩
      rcases hh with ⟨q1, q2, q3⟩ | ⟨q1, q2⟩
      · exact Or.inl ⟨q1, st2 _ q2, q3⟩
      · exact Or.inr ⟨q1, fun r hr => st2 r (q2 r hr)⟩
theorem c_Md_nextI {n : Nat} {F : Nat → Nat} {more w : Int} (hb : s_bd n F) {b : Nat} : ∀ (f i m : Nat) (d : qD), i + f = n + 1 → 1 ≤ i → m + f * n ≤ 900 → d.1 t_Md 0 10 = (n : Int) → s_row (d.1 t_mF 0) n F → ∃ d', q_ag [t_mOther] d d' ∧ ((s_hit w m (s_nxI (s_good n F more) n f i).length ∧ q_Ev m_Md_nextOnes 12 [q_r t_Md 0, q_i w, none, q_i (m : Int), q_i ((s_inv F n : Int) + more), q_i (i : Int), none] [] (q_mk d b) (q_i w, q_mk d' b) ∧ s_row (d'.1 t_mOther 0) n (s_nxF n F (s_nxI (s_good n F more) n f i) (w - (m : Int)).toNat)) ∨ (¬ s_hit w m (s_nxI (s_good n F more) n f i).length ∧ q_Ev m_Md_nextOnes 12 [q_r t_Md 0, q_i w, none, q_i (m : Int), q_i ((s_inv F n : Int) + more), q_i (i : Int), none] [] (q_mk d b) (q_i ((m + (s_nxI (s_good n F more) n f i).length : Nat) : Int), q_mk d' b))) := by
  have hn := hb.1
  intro f
  induction f with
  | zero =>
    intro i m d h hi hmf e0 eF
    refine ⟨d, q_ag_refl _ _, Or.inr ⟨?_, e_Md_nextOnes_12 ⟨fun _ => rfl, fun h2 => ?_⟩⟩⟩
    · unfold s_hit s_nxI; rw [List.length_nil]; omega
    · rw [e0] at h2; omega
  | succ f ih =>
    intro i m d h hi hmf e0 eF
    rw [Nat.succ_mul] at hmf
    have hlen := s_nxJ_len (s_good n F more) i (n - 1) (i + 1)
    have st : ∀ r, q_Ev m_Md_nextOnes 20 [q_r t_Md 0, q_i w, none, q_i (m : Int), q_i ((s_inv F n : Int) + more), q_i (i : Int), q_i ((i + 1 : Nat) : Int)] [] (q_mk d b) r → q_Ev m_Md_nextOnes 12 [q_r t_Md 0, q_i w, none, q_i (m : Int), q_i ((s_inv F n : Int) + more), q_i (i : Int), none] [] (q_mk d b) r := by
      intro r hr
      refine e_Md_nextOnes_12 ⟨fun h2 => ?_, fun _ => ?_⟩
      · rw [e0] at h2; omega
      · rw [q_wS (by omega)]; exact hr
    obtain ⟨d1, a1, hh⟩ := c_Md_nextJ (more := more) (w := w) hb hi (by omega) (b := b) (n - 1) (i + 1) m d (by omega) (by omega) (by omega) e0 eF
    rw [s_nxI]
    generalize hA : s_nxJ (s_good n F more) i (n - 1) (i + 1) = A at hh hlen
    rcases hh with ⟨q1, q2, q3⟩ | ⟨q1, q3⟩
    · refine ⟨d1, a1, Or.inl ⟨?_, st _ q2, ?_⟩⟩
      · unfold s_hit at q1 ⊢; rw [List.length_append]; omega
      · unfold s_hit at q1
        unfold s_nxF at q3 ⊢
        rw [List.getD_eq_getElem?_getD, List.getElem?_append_left (by omega), ← List.getD_eq_getElem?_getD]; exact q3
    · obtain ⟨d', a, hh2⟩ := ih (i + 1) (m + A.length) d1 (by omega) (by omega) (by omega) (by rw [a1.1 t_Md (by decide), e0]) (by rw [a1.1 t_mF (by decide)]; exact eF)
      refine ⟨d', q_ag_tr a1 a, ?_⟩
      rcases hh2 with ⟨p1, p2, p3⟩ | ⟨p1, p3⟩
      · left
        unfold s_hit at q1 p1 ⊢
        rw [List.length_append]
        refine ⟨by omega, st _ (q3 _ p2), ?_⟩
        unfold s_nxF at p3 ⊢
        rw [List.getD_eq_getElem?_getD, List.getElem?_append_right (by omega), ← List.getD_eq_getElem?_getD, show (w - (m : Int)).toNat - A.length = (w - ((m + A.length : Nat) : Int)).toNat by omega]; exact p3
      · right
        unfold s_hit at q1 p1 ⊢
        rw [List.length_append]
        refine ⟨by omega, ?_⟩
        rw [show m + (A.length + (s_nxI (s_good n F more) n f (i + 1)).length) = m + A.length + (s_nxI (s_good n F more) n f (i + 1)).length by omega]
        exact st _ (q3 _ p3)
theorem c_Md_nextOnes {n : Nat} {F : Nat → Nat} {more by' w : Int} (hb : s_bd n F) (hm : more = 1 ∨ more = -1) (hby : by' = -more) {d : qD} {b : Nat} (e0 : d.1 t_Md 0 10 = (n : Int)) (eF : s_row (d.1 t_mF 0) n F) : ∃ d', q_Ev m_Md_nextOnes 0 [q_r t_Md 0, q_i w, q_i by', none, none, none, none] [] (q_mk d b) (q_i (if 0 ≤ w ∧ w < ((s_nx n F more).length : Int) then w else ((s_nx n F more).length : Int)), q_mk d' b) ∧ q_ag [t_mOther] d d' ∧ (0 ≤ w → w < ((s_nx n F more).length : Int) → s_row (d'.1 t_mOther 0) n (s_nxF n F (s_nx n F more) w.toNat)) := by
  have hn := hb.1
  have hnn : n * n ≤ 8 * 8 := Nat.mul_le_mul hn hn
  have iv := c_Md_inv_f hn (G := F) (fun i h1 h2 => by have := hb.2 i h1 h2; omega) (d := d) (b := b) eF
  have hiv := s_inv_le F n hn
  have ew : q_w ((s_inv F n : Int) - by') = (s_inv F n : Int) + more := by
    rw [hby]
    rcases hm with hm | hm <;> (subst hm; rw [q_w_id (by omega) (by omega)]; omega)
  have st : ∀ r, q_Ev m_Md_nextOnes 12 [q_r t_Md 0, q_i w, none, q_i ((0 : Nat) : Int), q_i ((s_inv F n : Int) + more), q_i ((1 : Nat) : Int), none] [] (q_mk d b) r → q_Ev m_Md_nextOnes 0 [q_r t_Md 0, q_i w, q_i by', none, none, none, none] [] (q_mk d b) r := by
    intro r hr
    refine e_Md_nextOnes_0 ?_
    rw [e0]
    refine ⟨_, _, iv, e_Md_nextOnes_7 ?_⟩
    rw [ew]; exact hr
  obtain ⟨d', a, hh⟩ := c_Md_nextI (more := more) (w := w) hb (b := b) n 1 0 d (by omega) (by omega) (by omega) e0 eF
  rcases hh with ⟨q1, q2, q3⟩ | ⟨q1, q2⟩
  · unfold s_hit at q1
    have h1 : 0 ≤ w ∧ w < ((s_nx n F more).length : Int) := by unfold s_nx; omega
    rw [if_pos h1]
    refine ⟨d', st _ q2, a, fun _ _ => ?_⟩
    rw [show (w - ((0 : Nat) : Int)).toNat = w.toNat by omega] at q3
    exact q3
  · unfold s_hit at q1
    have h1 : ¬ (0 ≤ w ∧ w < ((s_nx n F more).length : Int)) := by unfold s_nx; omega
    rw [if_neg h1]
    rw [Nat.zero_add] at q2
    exact ⟨d', st _ q2, a, fun h2 h3 => absurd ⟨h2, h3⟩ h1⟩
theorem c_Md_isNext {n : Nat} {F : Nat → Nat} {more by' w : Int} (hb : s_bd n F) (hw : 0 ≤ w) (hm : more = 1 ∨ more = -1) (hby : by' = -more) {d : qD} {b : Nat} (e0 : d.1 t_Md 0 10 = (n : Int)) (eF : s_row (d.1 t_mF 0) n F) : ∃ d', q_Ev m_Md_isNext 0 [q_r t_Md 0, q_i w, q_i by'] [] (q_mk d b) (q_i (q_b2i (decide (w < ((s_nx n F more).length : Int)))), q_mk d' b) ∧ q_ag [t_mOther] d d' ∧ (w < ((s_nx n F more).length : Int) → s_row (d'.1 t_mOther 0) n (s_nxF n F (s_nx n F more) w.toNat)) := by
  obtain ⟨d1, v1, a1, _⟩ := c_Md_nextOnes (w := -1) hb hm hby (b := b) e0 eF
  rw [if_neg (by omega)] at v1
  by_cases h : w < ((s_nx n F more).length : Int)
  · obtain ⟨d2, v2, a2, r2⟩ := c_Md_nextOnes (w := w) hb hm hby (d := d1) (b := b) (by rw [a1.1 t_Md (by decide), e0]) (by rw [a1.1 t_mF (by decide)]; exact eF)
    rw [if_pos ⟨hw, h⟩] at v2
    rw [decide_eq_true h]
    exact ⟨d2, e_Md_isNext_0 ⟨_, _, v1, e_Md_isNext_5 ⟨fun h2 => by omega, fun _ => ⟨_, _, v2, e_Md_isNext_10 ⟨fun h2 => absurd rfl h2, fun _ => e_Md_isNext_15 ⟨by decide, by decide, rfl⟩⟩⟩⟩⟩, q_ag_tr a1 a2, fun _ => r2 hw h⟩
  · rw [decide_eq_false h]
    exact ⟨d1, e_Md_isNext_0 ⟨_, _, v1, e_Md_isNext_5 ⟨fun _ => e_Md_isNext_14 (e_Md_isNext_15 ⟨by decide, by decide, rfl⟩), fun h2 => by omega⟩⟩, a1, fun h2 => absurd h2 h⟩
theorem c_Md_toldNext {n : Nat} {F : Nat → Nat} {more by' w i : Int} (hb : s_bd n F) (hi : q_can i) (hm : more = 1 ∨ more = -1) (hby : by' = -more) {d : qD} {b : Nat} (e0 : d.1 t_Md 0 10 = (n : Int)) (eF : s_row (d.1 t_mF 0) n F) : ∃ d', q_Ev m_Md_toldNext 0 [q_r t_Md 0, q_i w, q_i i, q_i by', none] [] (q_mk d b) (q_i (s_nextA n F more w i), q_mk d' b) ∧ q_ag [t_mOther] d d' := by
  have hn := hb.1
  have ii := c_Md_isIn (x := i) (lo := 0) (hi := (n : Int)) hi (q_can_s (by decide) (by decide)) (q_can_s (by omega) (by omega)) (d := d) (b := b)
  unfold s_nextA
  by_cases h0 : n = 0
  · rw [if_pos (Or.inl h0)]
    refine ⟨d, e_Md_toldNext_0 ⟨_, _, c_Md_isCell e0, e_Md_toldNext_2 ⟨fun _ => e_Md_toldNext_15 rfl, fun h => ?_⟩⟩, q_ag_refl _ _⟩
    have := of_decide_eq_true (q_b2i_t h); omega
  have st0 : ∀ r, q_Ev m_Md_toldNext 10 [q_r t_Md 0, q_i w, q_i i, q_i by', none] [.inl (q_b2i (decide (0 ≤ i ∧ i ≤ (n : Int))))] (q_mk d b) r → q_Ev m_Md_toldNext 0 [q_r t_Md 0, q_i w, q_i i, q_i by', none] [] (q_mk d b) r := by
    intro r hr
    refine e_Md_toldNext_0 ⟨_, _, c_Md_isCell e0, e_Md_toldNext_2 ⟨fun h => ?_, fun _ => ?_⟩⟩
    · have := of_decide_eq_false (q_b2i_f h); omega
    · rw [q_l0, e0]; exact ⟨_, _, ii, hr⟩
  by_cases h1 : 0 ≤ i ∧ i ≤ (n : Int)
  · rw [if_neg (by omega)]
    rw [decide_eq_true h1] at st0
    by_cases h2 : i = 0
    · rw [if_pos h2]
      obtain ⟨d1, v1, a1, _⟩ := c_Md_nextOnes (w := -1) hb hm hby (b := b) e0 eF
      rw [if_neg (by omega)] at v1
      exact ⟨d1, st0 _ (e_Md_toldNext_10 ⟨fun h => absurd h (by decide), fun _ => ⟨fun _ => e_Md_toldNext_17 ⟨fun h => absurd h2 h, fun _ => e_Md_toldNext_23 ⟨_, _, v1, e_Md_toldNext_25 ⟨fun h => absurd h2 h, fun _ => rfl⟩⟩⟩, fun h => by omega⟩⟩), a1⟩
    · rw [if_neg h2]
      by_cases h3 : w < 0
      · rw [if_pos h3]
        exact ⟨d, st0 _ (e_Md_toldNext_10 ⟨fun h => absurd h (by decide), fun _ => ⟨fun h => by omega, fun _ => ⟨fun h => by omega, fun _ => e_Md_toldNext_15 rfl⟩⟩⟩), q_ag_refl _ _⟩
      · rw [if_neg h3]
        obtain ⟨d1, v1, a1, _⟩ := c_Md_nextOnes (w := w) hb hm hby (b := b) e0 eF
        obtain ⟨d2, v2, a2, r2⟩ := c_Md_isNext (w := w) hb (by omega) hm hby (d := d1) (b := b) (by rw [a1.1 t_Md (by decide), e0]) (by rw [a1.1 t_mF (by decide)]; exact eF)
        have st1 : ∀ r, q_Ev m_Md_toldNext 34 [q_r t_Md 0, none, q_i i, none, none] [.inl (q_b2i (decide (w < ((s_nx n F more).length : Int))))] (q_mk d2 b) r → q_Ev m_Md_toldNext 0 [q_r t_Md 0, q_i w, q_i i, q_i by', none] [] (q_mk d b) r := fun r hr => st0 _ (e_Md_toldNext_10 ⟨fun h => absurd h (by decide), fun _ => ⟨fun h => by omega, fun _ => ⟨fun _ => e_Md_toldNext_17 ⟨fun _ => e_Md_toldNext_23 ⟨_, _, v1, e_Md_toldNext_25 ⟨fun _ => ⟨_, _, v2, hr⟩, fun h => absurd h h2⟩⟩, fun h => absurd h h2⟩, fun h => by omega⟩⟩⟩)
        by_cases h4 : w < ((s_nx n F more).length : Int)
        · rw [if_pos h4]
          rw [decide_eq_true h4] at st1
          refine ⟨d2, st1 _ (e_Md_toldNext_34 ⟨fun h => absurd h (by decide), fun _ => ⟨by omega, by omega, e_Md_toldNext_41 ?_⟩⟩), q_ag_tr a1 a2⟩
          rw [r2 h4 i.toNat (by omega) (by omega)]
        · rw [if_neg h4]
          rw [decide_eq_false h4] at st1
          exact ⟨d2, st1 _ (e_Md_toldNext_34 ⟨fun _ => e_Md_toldNext_41 rfl, fun h => absurd rfl h⟩), q_ag_tr a1 a2⟩
  · rw [if_pos (by omega)]
    rw [decide_eq_false h1] at st0
    exact ⟨d, st0 _ (e_Md_toldNext_10 ⟨fun _ => e_Md_toldNext_15 rfl, fun h => absurd rfl h⟩), q_ag_refl _ _⟩
theorem c_Md_lower {n : Nat} {F : Nat → Nat} {w i : Int} (hb : s_bd n F) (hi : q_can i) {d : qD} {b : Nat} (e0 : d.1 t_Md 0 10 = (n : Int)) (eF : s_row (d.1 t_mF 0) n F) : ∃ d', q_Ev m_Md_lower 0 [q_r t_Md 0, q_i w, q_i i] [] (q_mk d b) (q_i (s_nextA n F 1 w i), q_mk d' b) ∧ q_ag [t_mOther] d d' := by
  obtain ⟨d', v, a⟩ := c_Md_toldNext (more := 1) (by' := -1) (w := w) hb hi (Or.inl rfl) rfl (b := b) e0 eF
  exact ⟨d', e_Md_lower_0 ⟨_, _, v, e_Md_lower_5 rfl⟩, a⟩
theorem c_Md_upper {n : Nat} {F : Nat → Nat} {w i : Int} (hb : s_bd n F) (hi : q_can i) {d : qD} {b : Nat} (e0 : d.1 t_Md 0 10 = (n : Int)) (eF : s_row (d.1 t_mF 0) n F) : ∃ d', q_Ev m_Md_upper 0 [q_r t_Md 0, q_i w, q_i i] [] (q_mk d b) (q_i (s_nextA n F (-1) w i), q_mk d' b) ∧ q_ag [t_mOther] d d' := by
  obtain ⟨d', v, a⟩ := c_Md_toldNext (more := -1) (by' := 1) (w := w) hb hi (Or.inr rfl) rfl (b := b) e0 eF
  exact ⟨d', e_Md_upper_0 ⟨_, _, v, e_Md_upper_5 rfl⟩, a⟩
