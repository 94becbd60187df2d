/-! the model's parts, loops, shelves, count -/
def s_hg (B : Nat → Bool) (x y s : Nat) : Bool := (q_hl s x != q_hl s y) && B (if q_hl s x then s_with (s_wo s x) y else s_with (s_wo s y) x)
theorem c_Md_hangGo {n x y : Nat} {B : Nat → Bool} (hn : n ≤ 8) (hx : 1 ≤ x) (hxn : x ≤ n) (hy : 1 ≤ y) (hyn : y ≤ n) {d : qD} {b : Nat} (eB : ∀ j, j < 256 → d.1 t_mIsB 0 j = q_b2i (B j)) : ∀ (f m : Nat), m + f = 256 → q_Ev m_Md_hang 2 [q_r t_Md 0, q_i (x : Int), q_i (y : Int), q_i (m : Int), none] [] (q_mk d b) (q_i (q_b2i (((List.range' m f).filter B).any (s_hg B x y))), q_mk d b)
  | 0, m, h => e_Md_hang_2 ⟨fun _ => ⟨by decide, by decide, rfl⟩, fun h2 => by omega⟩
  | f + 1, m, h => by
    have nx := c_Md_hangGo hn hx hxn hy hyn (b := b) eB f (m + 1) (by omega)
    have nx41 : q_Ev m_Md_hang 41 [q_r t_Md 0, q_i (x : Int), q_i (y : Int), q_i (m : Int), none] [] (q_mk d b) (q_i (q_b2i (((List.range' (m + 1) f).filter B).any (s_hg B x y))), q_mk d b) := by
      refine e_Md_hang_41 ?_
      rw [q_wS (by omega)]; exact nx
    refine e_Md_hang_2 ⟨fun h2 => by omega, fun _ => ⟨by omega, by omega, ?_⟩⟩
    rw [Int.toNat_natCast, eB m (by omega), s_fl_range']
    refine ⟨fun h2 => ?_, fun h2 => ⟨_, _, c_Md_has (by omega) hx (by omega), e_Md_hang_13 ⟨_, _, c_Md_has (by omega) hy (by omega), e_Md_hang_16 ⟨fun h3 => ⟨_, _, c_Md_has (by omega) hx (by omega), ?_⟩, fun h3 => ?_⟩⟩⟩⟩
    · rw [q_b2i_f h2, if_neg (by decide)]; exact nx41
    · have hne : (q_hl m x != q_hl m y) = true := by
        cases hA : q_hl m x <;> cases hB : q_hl m y <;> rw [hA, hB] at h3 <;> first | rfl | exact absurd rfl h3
      rw [q_b2i_t h2, if_pos rfl, List.any_cons]
      have key : ∀ u v : Nat, 1 ≤ u → u ≤ n → 1 ≤ v → v ≤ n → u + v = x + y → s_hg B x y m = B (s_with (s_wo m u) v) → q_Ev m_Md_hang 25 [q_r t_Md 0, q_i (x : Int), q_i (y : Int), q_i (m : Int), none] [.inl (u : Int)] (q_mk d b) (q_i (q_b2i (s_hg B x y m || ((List.range' (m + 1) f).filter B).any (s_hg B x y))), q_mk d b) := by
        intro u v u1 u2 v1 v2 huv he
        have w1 := s_wo_lt (s := m) (l := u) (by omega)
        have w2 := s_with_lt (s := s_wo m u) (l := v) w1 (by omega)
        have ev : q_w ((q_w ((x : Int) + (y : Int))) - (u : Int)) = (v : Int) := by
          rw [show q_w ((x : Int) + (y : Int)) = (x : Int) + (y : Int) from q_w_id (by omega) (by omega), q_w_id (by omega) (by omega)]; omega
        refine e_Md_hang_25 ⟨_, _, c_Md_without (by omega) u1 (by omega), e_Md_hang_31 ?_⟩
        rw [ev]
        refine ⟨_, _, c_Md_with w1 v1 (by omega), e_Md_hang_37 ?_⟩
        rw [Int.toNat_natCast, eB _ w2, he]
        refine ⟨by omega, by omega, fun h4 => ?_, fun h4 => ?_⟩
        · rw [q_b2i_f h4, Bool.false_or]; exact nx41
        · rw [q_b2i_t h4, Bool.true_or]; exact ⟨by decide, by decide, rfl⟩
      refine e_Md_hang_21 ⟨fun h4 => key y x hy hyn hx hxn (by omega) ?_, fun h4 => key x y hx hxn hy hyn rfl ?_⟩
      · unfold s_hg
        rw [hne, Bool.true_and, q_b2i_f h4, if_neg (by decide)]
      · unfold s_hg
        rw [hne, Bool.true_and, q_b2i_t h4, if_pos rfl]
    · have heq : (q_hl m x != q_hl m y) = false := by
        cases hA : q_hl m x <;> cases hB : q_hl m y <;> rw [hA, hB] at h3 <;> first | rfl | exact absurd h3 (by decide)
      have hz : s_hg B x y m = false := by unfold s_hg; rw [heq, Bool.false_and]
      rw [q_b2i_t h2, if_pos rfl, List.any_cons, hz, Bool.false_or]
      exact nx41
theorem s_hg_EL {n x y : Nat} {F : Nat → Nat} (hn : n ≤ 8) (hx : 1 ≤ x) (hxn : x ≤ n) (hy : 1 ≤ y) (hyn : y ≤ n) : (s_fl (s_bas n F)).any (s_hg (s_bas n F) x y) = s_EL (s_basL n F 256) (s_bas n F) x y := by
  rw [Bool.eq_iff_iff]
  refine ⟨fun h => ?_, fun h => ?_⟩
  · rw [List.any_eq_true] at h
    obtain ⟨s, h1, h2⟩ := h
    unfold s_hg at h2
    rw [Bool.and_eq_true] at h2
    cases hA : q_hl s x
    · cases hB : q_hl s y
      · rw [hA, hB] at h2; exact absurd h2.1 (by decide)
      · rw [hA, if_neg (by decide)] at h2
        refine s_EL_sy hn y x hy hyn hx hxn ?_
        unfold s_EL
        rw [List.any_eq_true]
        exact ⟨s, h1, by rw [hA, hB, h2.2]; rfl⟩
    · cases hB : q_hl s y
      · rw [hA, if_pos rfl] at h2
        unfold s_EL
        rw [List.any_eq_true]
        exact ⟨s, h1, by rw [hA, hB, h2.2]; rfl⟩
      · rw [hA, hB] at h2; exact absurd h2.1 (by decide)
  · unfold s_EL at h
    rw [List.any_eq_true] at h ⊢
    obtain ⟨s, h1, h2⟩ := h
    simp only [Bool.and_eq_true, Bool.not_eq_true'] at h2
    refine ⟨s, h1, ?_⟩
    unfold s_hg
    rw [h2.1, h2.2.1, if_pos rfl, h2.2.2]; rfl
theorem c_Md_hang {n x y : Nat} {F : Nat → Nat} (hn : n ≤ 8) (hx : 1 ≤ x) (hxn : x ≤ n) (hy : 1 ≤ y) (hyn : y ≤ n) {d : qD} {b : Nat} (eB : ∀ j, j < 256 → d.1 t_mIsB 0 j = q_b2i (s_bas n F j)) : q_Ev m_Md_hang 0 [q_r t_Md 0, q_i (x : Int), q_i (y : Int), none, none] [] (q_mk d b) (q_i (q_b2i (s_EL (s_basL n F 256) (s_bas n F) x y)), q_mk d b) := by
  have := c_Md_hangGo hn hx hxn hy hyn (b := b) eB 256 0 rfl
  rw [s_fl_0, s_hg_EL hn hx hxn hy hyn] at this
  exact e_Md_hang_0 this
theorem c_Md_partsRe {n x y p q : Nat} {Q : Nat → Nat} (hn : n ≤ 8) {b : Nat} : ∀ (f i : Nat) (d : qD), i + f = n + 1 → 1 ≤ i → d.1 t_Md 0 10 = (n : Int) → (∀ k, 1 ≤ k → k ≤ n → d.1 t_mPartOf 0 k = ((if k < i then (if Q k = x ∨ Q k = y then (if x < y then x else y) else Q k) else Q k : Nat) : Int)) → ∃ d', q_ag [t_mPartOf] d d' ∧ s_row (d'.1 t_mPartOf 0) n (fun k => if Q k = x ∨ Q k = y then (if x < y then x else y) else Q k) ∧ ∀ r, q_Ev m_Md_laysParts 82 [q_r t_Md 0, q_i (p : Int), q_i (q : Int), none, none, none] [] (q_mk d' b) r → q_Ev m_Md_laysParts 54 [q_r t_Md 0, q_i (p : Int), q_i (q : Int), q_i (x : Int), q_i (y : Int), q_i (i : Int)] [] (q_mk d b) r
  | 0, i, d, h, hi, e0, eQ => by
    refine ⟨d, q_ag_refl _ _, fun k h1 h2 => ?_, fun r hr => e_Md_laysParts_54 ⟨fun _ => hr, fun h2 => ?_⟩⟩
    · rw [eQ k h1 h2, if_pos (show k < i by omega)]
    · rw [e0] at h2; omega
  | f + 1, i, d, h, hi, e0, eQ => by
    have ei := eQ i hi (by omega)
    rw [if_neg (show ¬ i < i by omega)] at ei
    by_cases hq : Q i = x ∨ Q i = y
    · obtain ⟨d', a, r1, r2⟩ := c_Md_partsRe (x := x) (y := y) (p := p) (q := q) (Q := Q) hn (b := b) f (i + 1) (q_sI d t_mPartOf 0 i ((if x < y then x else y : Nat) : Int)) (by omega) (by omega) (by rw [q_sI_ne _ _ (by decide), e0]) (by
        intro k h1 h2
        rw [q_sI_at]
        by_cases hk : k = i
        · subst hk; rw [q_up_at, if_pos (show k < k + 1 by omega), if_pos hq]
        · rw [q_up_ne _ _ hk, eQ k h1 h2]
          by_cases hki : k < i
          · rw [if_pos hki, if_pos (show k < i + 1 by omega)]
          · rw [if_neg hki, if_neg (show ¬ k < i + 1 by omega)])
      have k70 : ∀ r, q_Ev m_Md_laysParts 82 [q_r t_Md 0, q_i (p : Int), q_i (q : Int), none, none, none] [] (q_mk d' b) r → q_Ev m_Md_laysParts 70 [q_r t_Md 0, q_i (p : Int), q_i (q : Int), q_i (x : Int), q_i (y : Int), q_i (i : Int)] [] (q_mk d b) r := by
        intro r hr
        have r2 := r2 r hr
        refine e_Md_laysParts_70 ⟨fun h2 => e_Md_laysParts_79 ⟨by omega, by omega, e_Md_laysParts_80 ?_⟩, fun h2 => e_Md_laysParts_79 ⟨by omega, by omega, e_Md_laysParts_80 ?_⟩⟩
        · rw [if_neg (by omega)] at r2
          rw [q_wS (by omega), Int.toNat_natCast]; exact r2
        · rw [if_pos (by omega)] at r2
          rw [q_wS (by omega), Int.toNat_natCast]; exact r2
      refine ⟨d', q_ag_tr (q_ag_sI (by decide)) a, r1, fun r hr => e_Md_laysParts_54 ⟨fun h2 => ?_, fun _ => ⟨by omega, by omega, ?_⟩⟩⟩
      · rw [e0] at h2; omega
      · rw [Int.toNat_natCast, ei]
        exact ⟨fun _ => k70 r hr, fun h2 => ⟨by omega, by omega, fun h3 => by omega, fun _ => k70 r hr⟩⟩
    · obtain ⟨d', a, r1, r2⟩ := c_Md_partsRe (x := x) (y := y) (p := p) (q := q) (Q := Q) hn (b := b) f (i + 1) d (by omega) (by omega) e0 (by
        intro k h1 h2
        rw [eQ k h1 h2]
        by_cases hk : k = i
        · subst hk; rw [if_neg (show ¬ k < k by omega), if_pos (show k < k + 1 by omega), if_neg hq]
        · by_cases hki : k < i
          · rw [if_pos hki, if_pos (show k < i + 1 by omega)]
          · rw [if_neg hki, if_neg (show ¬ k < i + 1 by omega)])
      refine ⟨d', a, r1, fun r hr => e_Md_laysParts_54 ⟨fun h2 => ?_, fun _ => ⟨by omega, by omega, ?_⟩⟩⟩
      · rw [e0] at h2; omega
      · rw [Int.toNat_natCast, ei]
        refine ⟨fun h2 => by omega, fun _ => ⟨by omega, by omega, fun _ => e_Md_laysParts_80 ?_, fun h3 => by omega⟩⟩
        rw [q_wS (by omega)]; exact r2 r hr
/-- what has been joined so far -/
def s_jn (n : Nat) (E : Nat → Nat → Bool) (D : Nat → Nat → Prop) (q : Nat → Nat) : Prop := (∀ i, 1 ≤ i → i ≤ n → 1 ≤ q i ∧ q i ≤ i ∧ s_conn n E i (q i)) ∧ ∀ x y, 1 ≤ x → x < y → y ≤ n → D x y → E x y = true → q x = q y
theorem c_Md_partsB {n p : Nat} {F : Nat → Nat} (hn : n ≤ 8) (hp : 1 ≤ p) (hpn : p ≤ n) {b : Nat} : ∀ (f y : Nat) (q : Nat → Nat) (d : qD), y + f = n + 1 → p < y → d.1 t_Md 0 10 = (n : Int) → (∀ j, j < 256 → d.1 t_mIsB 0 j = q_b2i (s_bas n F j)) → s_row (d.1 t_mPartOf 0) n q → s_jn n (s_EL (s_basL n F 256) (s_bas n F)) (fun u v => u < p ∨ (u = p ∧ v < y)) q → ∃ (d' : qD) (q' : Nat → Nat), q_ag [t_mPartOf] d d' ∧ s_row (d'.1 t_mPartOf 0) n q' ∧ s_jn n (s_EL (s_basL n F 256) (s_bas n F)) (fun u v => u < p + 1) q' ∧ ∀ r, q_Ev m_Md_laysParts 15 [q_r t_Md 0, q_i ((p + 1 : Nat) : Int), none, none, none, none] [] (q_mk d' b) r → q_Ev m_Md_laysParts 23 [q_r t_Md 0, q_i (p : Int), q_i (y : Int), none, none, none] [] (q_mk d b) r
  | 0, y, q, d, h, hy, e0, eB, eq, hJ => by
    refine ⟨d, q, q_ag_refl _ _, eq, ⟨hJ.1, fun u v h1 h2 h3 h4 => hJ.2 u v h1 h2 h3 (by omega)⟩, fun r hr => e_Md_laysParts_23 ⟨fun _ => ?_, fun h2 => ?_⟩⟩
    · rw [q_wS (by omega)]; exact hr
    · rw [e0] at h2; omega
  | f + 1, y, q, d, h, hy, e0, eB, eq, hJ => by
    have ep := eq p hp hpn
    have ey := eq y (by omega) (by omega)
    have st : ∀ (q1 : Nat → Nat) (d1 : qD), q_ag [t_mPartOf] d d1 → s_row (d1.1 t_mPartOf 0) n q1 → s_jn n (s_EL (s_basL n F 256) (s_bas n F)) (fun u v => u < p ∨ (u = p ∧ v < y + 1)) q1 → (∀ r, q_Ev m_Md_laysParts 82 [q_r t_Md 0, q_i (p : Int), q_i (y : Int), none, none, none] [] (q_mk d1 b) r → q_Ev m_Md_laysParts 23 [q_r t_Md 0, q_i (p : Int), q_i (y : Int), none, none, none] [] (q_mk d b) r) → ∃ (d' : qD) (q' : Nat → Nat), q_ag [t_mPartOf] d d' ∧ s_row (d'.1 t_mPartOf 0) n q' ∧ s_jn n (s_EL (s_basL n F 256) (s_bas n F)) (fun u v => u < p + 1) q' ∧ ∀ r, q_Ev m_Md_laysParts 15 [q_r t_Md 0, q_i ((p + 1 : Nat) : Int), none, none, none, none] [] (q_mk d' b) r → q_Ev m_Md_laysParts 23 [q_r t_Md 0, q_i (p : Int), q_i (y : Int), none, none, none] [] (q_mk d b) r := by
      intro q1 d1 a1 r1 j1 k1
      obtain ⟨d', q', a, r2, j2, k2⟩ := c_Md_partsB hn hp hpn (b := b) f (y + 1) q1 d1 (by omega) (by omega) (by rw [a1.1 t_Md (by decide), e0]) (by rw [a1.1 t_mIsB (by decide)]; exact eB) r1 j1
      refine ⟨d', q', q_ag_tr a1 a, r2, j2, fun r hr => k1 r (e_Md_laysParts_82 ?_)⟩
      rw [q_wS (by omega)]; exact k2 r hr
    have hg := c_Md_hang hn (x := p) (y := y) hp hpn (by omega) (by omega) (b := b) eB
    by_cases hq : q p = q y
    · refine st q d (q_ag_refl _ _) eq ⟨hJ.1, fun u v h1 h2 h3 h4 h5 => ?_⟩ (fun r hr => e_Md_laysParts_23 ⟨fun h2 => ?_, fun _ => ⟨by omega, by omega, by omega, by omega, ?_⟩⟩)
      · by_cases hv : u = p ∧ v = y
        · rw [hv.1, hv.2]; exact hq
        · exact hJ.2 u v h1 h2 h3 (by omega) h5
      · rw [e0] at h2; omega
      · rw [Int.toNat_natCast, Int.toNat_natCast, ep, ey]
        exact ⟨fun _ => hr, fun h2 => absurd (by rw [hq]) h2⟩
    · by_cases hE : s_EL (s_basL n F 256) (s_bas n F) p y = true
      · obtain ⟨d1, a1, r1, k1⟩ := c_Md_partsRe (x := q p) (y := q y) (p := p) (q := y) (Q := q) hn (b := b) n 1 d (by omega) (by omega) e0 (fun k h1 h2 => by rw [eq k h1 h2, if_neg (by omega)])
        have jp := hJ.1 p hp hpn
        have jy := hJ.1 y (by omega) (by omega)
        have hsy := s_EL_sy (F := F) hn
        have cxy : s_conn n (s_EL (s_basL n F 256) (s_bas n F)) (q p) (q y) := s_conn_tr (s_conn_sy hsy hp hpn jp.2.2) (s_conn_tr (s_conn_st (by omega) (by omega) hE) jy.2.2)
        have cyx : s_conn n (s_EL (s_basL n F 256) (s_bas n F)) (q y) (q p) := s_conn_sy hsy jp.1 (by omega) cxy
        refine st _ d1 a1 r1 ⟨fun i h1 h2 => ?_, fun u v h1 h2 h3 h4 h5 => ?_⟩ (fun r hr => e_Md_laysParts_23 ⟨fun h2 => ?_, fun _ => ⟨by omega, by omega, by omega, by omega, ?_⟩⟩)
        · have ji := hJ.1 i h1 h2
          dsimp only
          by_cases hqi : q i = q p ∨ q i = q y
          · rw [if_pos hqi]
            split
            · refine ⟨jp.1, by omega, ?_⟩
              rcases hqi with hqi | hqi
              · rw [← hqi]; exact ji.2.2
              · rw [hqi] at ji; exact s_conn_tr ji.2.2 cyx
            · refine ⟨jy.1, by omega, ?_⟩
              rcases hqi with hqi | hqi
              · rw [hqi] at ji; exact s_conn_tr ji.2.2 cxy
              · rw [← hqi]; exact ji.2.2
          · rw [if_neg hqi]; exact ji
        · dsimp only
          by_cases hv : u = p ∧ v = y
          · rw [hv.1, hv.2, if_pos (Or.inl rfl), if_pos (Or.inr rfl)]
          · rw [hJ.2 u v h1 h2 h3 (by omega) h5]
        · rw [e0] at h2; omega
        · rw [Int.toNat_natCast, Int.toNat_natCast, ep, ey]
          refine ⟨fun h2 => by omega, fun _ => ⟨_, _, hg, ?_⟩⟩
          rw [hE]
          refine e_Md_laysParts_40 ⟨fun _ => ⟨by omega, by omega, by omega, by omega, ?_⟩, fun h2 => absurd h2 (by decide)⟩
          rw [Int.toNat_natCast, Int.toNat_natCast, ep, ey]
          exact k1 r hr
      · have hE2 : s_EL (s_basL n F 256) (s_bas n F) p y = false := by simpa using hE
        refine st q d (q_ag_refl _ _) eq ⟨hJ.1, fun u v h1 h2 h3 h4 h5 => ?_⟩ (fun r hr => e_Md_laysParts_23 ⟨fun h2 => ?_, fun _ => ⟨by omega, by omega, by omega, by omega, ?_⟩⟩)
        · by_cases hv : u = p ∧ v = y
          · rw [hv.1, hv.2] at h5; exact absurd h5 hE
          · exact hJ.2 u v h1 h2 h3 (by omega) h5
        · rw [e0] at h2; omega
        · rw [Int.toNat_natCast, Int.toNat_natCast, ep, ey]
          refine ⟨fun h2 => by omega, fun _ => ⟨_, _, hg, ?_⟩⟩
          rw [hE2]
          exact e_Md_laysParts_40 ⟨fun h2 => absurd rfl h2, fun _ => hr⟩
theorem c_Md_partsA {n : Nat} {F : Nat → Nat} (hn : n ≤ 8) {b : Nat} : ∀ (f p : Nat) (q : Nat → Nat) (d : qD), p + f = n + 1 → 1 ≤ p → d.1 t_Md 0 10 = (n : Int) → (∀ j, j < 256 → d.1 t_mIsB 0 j = q_b2i (s_bas n F j)) → s_row (d.1 t_mPartOf 0) n q → s_jn n (s_EL (s_basL n F 256) (s_bas n F)) (fun u v => u < p) q → ∃ (d' : qD) (q' : Nat → Nat), q_Ev m_Md_laysParts 15 [q_r t_Md 0, q_i (p : Int), none, none, none, none] [] (q_mk d b) (none, q_mk d' b) ∧ q_ag [t_mPartOf] d d' ∧ s_row (d'.1 t_mPartOf 0) n q' ∧ s_jn n (s_EL (s_basL n F 256) (s_bas n F)) (fun _ _ => True) q'
  | 0, p, q, d, h, hp, e0, eB, eq, hJ => by
    refine ⟨d, q, e_Md_laysParts_15 ⟨fun _ => rfl, fun h2 => ?_⟩, q_ag_refl _ _, eq, ⟨hJ.1, fun u v h1 h2 h3 _ => hJ.2 u v h1 h2 h3 (by omega)⟩⟩
    rw [e0] at h2; omega
  | f + 1, p, q, d, h, hp, e0, eB, eq, hJ => by
    obtain ⟨d1, q1, a1, r1, j1, k1⟩ := c_Md_partsB hn hp (by omega) (b := b) (n - p) (p + 1) q d (by omega) (by omega) e0 eB eq ⟨hJ.1, fun u v h1 h2 h3 h4 => hJ.2 u v h1 h2 h3 (by omega)⟩
    obtain ⟨d', q', v, a, r2, j2⟩ := c_Md_partsA hn (b := b) f (p + 1) q1 d1 (by omega) (by omega) (by rw [a1.1 t_Md (by decide), e0]) (by rw [a1.1 t_mIsB (by decide)]; exact eB) r1 j1
    refine ⟨d', q', e_Md_laysParts_15 ⟨fun h2 => ?_, fun _ => ?_⟩, q_ag_tr a1 a, r2, j2⟩
    · rw [e0] at h2; omega
    · rw [q_wS (by omega)]; exact k1 _ v
theorem c_Md_partsI {n : Nat} (hn : n ≤ 8) {b : Nat} : ∀ (f i : Nat) (d : qD), i + f = n → d.1 t_Md 0 10 = (n : Int) → (∀ k, 1 ≤ k → k ≤ i → d.1 t_mPartOf 0 k = (k : Int)) → ∃ d', q_ag [t_mPartOf] d d' ∧ s_row (d'.1 t_mPartOf 0) n (fun k => k) ∧ ∀ r, q_Ev m_Md_laysParts 15 [q_r t_Md 0, q_i 1, none, none, none, none] [] (q_mk d' b) r → q_Ev m_Md_laysParts 2 [q_r t_Md 0, q_i ((i + 1 : Nat) : Int), none, none, none, none] [] (q_mk d b) r
  | 0, i, d, h, e0, e => by
    refine ⟨d, q_ag_refl _ _, fun k h1 h2 => e k h1 (by omega), fun r hr => e_Md_laysParts_2 ⟨fun _ => hr, fun h2 => ?_⟩⟩
    rw [e0] at h2; omega
  | f + 1, i, d, h, e0, e => by
    obtain ⟨d', a, r1, r2⟩ := c_Md_partsI hn (b := b) f (i + 1) (q_sI d t_mPartOf 0 (i + 1) ((i + 1 : Nat) : Int)) (by omega) (by rw [q_sI_ne _ _ (by decide), e0]) (by
      intro k h1 h2
      rw [q_sI_at]
      by_cases hq : k = i + 1
      · subst hq; rw [q_up_at]
      · rw [q_up_ne _ _ hq]; exact e k h1 (by omega))
    refine ⟨d', q_ag_tr (q_ag_sI (by decide)) a, r1, fun r hr => e_Md_laysParts_2 ⟨fun h2 => ?_, fun _ => ⟨by omega, by omega, ?_⟩⟩⟩
    · rw [e0] at h2; omega
    · rw [q_wS (by omega), Int.toNat_natCast]; exact r2 r hr
theorem c_Md_laysParts {n : Nat} {F : Nat → Nat} (hn : n ≤ 8) {d : qD} {b : Nat} (e0 : d.1 t_Md 0 10 = (n : Int)) (eB : ∀ j, j < 256 → d.1 t_mIsB 0 j = q_b2i (s_bas n F j)) : ∃ (d' : qD) (q : Nat → Nat), q_Ev m_Md_laysParts 0 [q_r t_Md 0, none, none, none, none, none] [] (q_mk d b) (none, q_mk d' b) ∧ q_ag [t_mPartOf] d d' ∧ s_row (d'.1 t_mPartOf 0) n q ∧ s_lp n (s_EL (s_basL n F 256) (s_bas n F)) q := by
  obtain ⟨d1, a1, r1, k1⟩ := c_Md_partsI hn (b := b) n 0 d (by omega) e0 (fun k h1 h2 => by omega)
  obtain ⟨d', q, v, a, r2, j2⟩ := c_Md_partsA (F := F) hn (b := b) n 1 (fun k => k) d1 (by omega) (by omega) (by rw [a1.1 t_Md (by decide), e0]) (by rw [a1.1 t_mIsB (by decide)]; exact eB) r1 ⟨fun i h1 h2 => ⟨h1, Nat.le_refl i, s_conn_refl _ _ _⟩, fun u v h1 h2 h3 h4 => by omega⟩
  refine ⟨d', q, e_Md_laysParts_0 (k1 _ v), q_ag_tr a1 a, r2, fun i h1 h2 => ?_⟩
  have ji := j2.1 i h1 h2
  refine ⟨ji.1, ji.2.1, ji.2.2, fun j h3 h4 hc => ?_⟩
  have hsy := s_EL_sy (F := F) hn
  refine (hc (fun y => (1 ≤ y ∧ y ≤ n) ∧ q y = q i) ⟨⟨h1, h2⟩, rfl⟩ (fun x y hx hy hy2 hxy => ⟨⟨hy, hy2⟩, ?_⟩)).2
  rw [← hx.2]
  by_cases hlt : x < y
  · exact (j2.2 x y hx.1.1 hlt hy2 trivial hxy).symm
  · by_cases hlt2 : y < x
    · exact j2.2 y x hy hlt2 hx.1.2 trivial (hsy x y hx.1.1 hx.1.2 hy hy2 hxy)
    · rw [show x = y by omega]
/-- two such agree -/
theorem s_lp_uni {n : Nat} {E : Nat → Nat → Bool} {q q' : Nat → Nat} (h : s_lp n E q) (h' : s_lp n E q') : ∀ i, 1 ≤ i → i ≤ n → q i = q' i := by
  intro i h1 h2
  obtain ⟨a1, a2, a3, a4⟩ := h i h1 h2
  obtain ⟨b1, b2, b3, b4⟩ := h' i h1 h2
  have c1 := (h' (q i) a1 (by omega)).2.1
  rw [b4 (q i) a1 (by omega) a3] at c1
  have c2 := (h (q' i) b1 (by omega)).2.1
  rw [a4 (q' i) b1 (by omega) b3] at c2
  omega
theorem s_cnt_uni {n : Nat} {q q' : Nat → Nat} (h : ∀ i, 1 ≤ i → i ≤ n → q i = q' i) : ∀ i, i ≤ n → s_cnt q i = s_cnt q' i
  | 0, _ => rfl
  | i + 1, hi => by rw [s_cnt, s_cnt, s_cnt_uni h i (by omega), h (i + 1) (by omega) hi]
theorem c_Md_part {n : Nat} {F : Nat → Nat} {x : Int} {q : Nat → Nat} (hn : n ≤ 8) (hq : s_lp n (s_EL (s_basL n F 256) (s_bas n F)) q) {d : qD} {b : Nat} (e0 : d.1 t_Md 0 10 = (n : Int)) (e : 0 < n → s_Mc n F d) : ∃ d', q_Ev m_Md_part 0 [q_r t_Md 0, q_i x] [] (q_mk d b) (q_i (s_partA n q x), q_mk d' b) ∧ q_ag [t_mPartOf] d d' := by
  unfold s_partA
  by_cases h : s_isLab n x = true
  · have h2 := of_decide_eq_true h
    obtain ⟨d', q', v, a, r1, r2⟩ := c_Md_laysParts (F := F) hn (b := b) e0 (e (by omega)).2.2.1
    have hu := s_lp_uni hq r2 x.toNat (by omega) (by omega)
    rw [if_pos h]
    refine ⟨d', e_Md_part_0 ⟨_, _, c_Md_isLabel e0, e_Md_part_3 ⟨fun _ => ⟨_, _, v, e_Md_part_8 ⟨by omega, by omega, ?_⟩⟩, fun h3 => ?_⟩⟩, a⟩
    · rw [r1 x.toNat (by omega) (by omega), hu]
    · rw [h] at h3; exact absurd h3 (by decide)
  · have h2 : s_isLab n x = false := by simpa using h
    rw [if_neg h]
    refine ⟨d, e_Md_part_0 ⟨_, _, c_Md_isLabel e0, e_Md_part_3 ⟨fun h3 => ?_, fun _ => rfl⟩⟩, q_ag_refl _ _⟩
    rw [h2] at h3; exact absurd rfl h3
theorem c_Md_partsCnt {n : Nat} {q : Nat → Nat} (hn : n ≤ 8) {d : qD} {b : Nat} (e0 : d.1 t_Md 0 10 = (n : Int)) (eq : s_row (d.1 t_mPartOf 0) n q) : ∀ (f i : Nat), i + f = n → q_Ev m_Md_parts 6 [q_r t_Md 0, q_i (s_cnt q i : Int), q_i ((i + 1 : Nat) : Int)] [] (q_mk d b) (q_i (s_cnt q n : Int), q_mk d b)
  | 0, i, h => by
    refine e_Md_parts_6 ⟨fun _ => ?_, fun h2 => ?_⟩
    · rw [show i = n by omega]
    · rw [e0] at h2; omega
  | f + 1, i, h => by
    have ih := c_Md_partsCnt hn (b := b) e0 eq f (i + 1) (by omega)
    have hc := s_cnt_le q i
    rw [s_cnt] at ih
    refine e_Md_parts_6 ⟨fun h2 => ?_, fun _ => ⟨by omega, by omega, ?_⟩⟩
    · rw [e0] at h2; omega
    · rw [Int.toNat_natCast, eq (i + 1) (by omega) (by omega)]
      refine ⟨fun h2 => e_Md_parts_20 ?_, fun h2 => e_Md_parts_20 ?_⟩
      · rw [if_neg (by omega)] at ih
        rw [q_wS (by omega), show q_w ((s_cnt q i : Int) + 0) = (s_cnt q i : Int) by rw [q_w_id (by omega) (by omega)]; omega]; exact ih
      · rw [if_pos (by omega)] at ih
        rw [q_wS (by omega), q_wS (by omega)]; exact ih
theorem c_Md_parts {n : Nat} {F : Nat → Nat} {q : Nat → Nat} (hn : n ≤ 8) (hq : s_lp n (s_EL (s_basL n F 256) (s_bas n F)) q) {d : qD} {b : Nat} (e0 : d.1 t_Md 0 10 = (n : Int)) (eB : ∀ j, j < 256 → d.1 t_mIsB 0 j = q_b2i (s_bas n F j)) : ∃ d', q_Ev m_Md_parts 0 [q_r t_Md 0, none, none] [] (q_mk d b) (q_i (s_cnt q n : Int), q_mk d' b) ∧ q_ag [t_mPartOf] d d' := by
  obtain ⟨d', q', v, a, r1, r2⟩ := c_Md_laysParts (F := F) hn (b := b) e0 eB
  rw [s_cnt_uni (s_lp_uni hq r2) n (Nat.le_refl n)]
  exact ⟨d', e_Md_parts_0 ⟨_, _, v, e_Md_parts_2 (c_Md_partsCnt hn (by rw [a.1 t_Md (by decide), e0]) r1 n 0 (by omega))⟩, a⟩
theorem c_Md_loopsGo {n m : Nat} {F : Nat → Nat} {co : Int} (hn : n ≤ 8) (hco : (co = 0 ∧ m = 0) ∨ (co = 1 ∧ m = n)) {d : qD} {b : Nat} (e0 : d.1 t_Md 0 10 = (n : Int)) (eF : s_row (d.1 t_mF 0) n F) : ∀ (f i : Nat), i + f = n → q_Ev m_Md_loops 4 [q_r t_Md 0, q_i co, q_i (s_fix F m i : Int), q_i ((i + 1 : Nat) : Int)] [] (q_mk d b) (q_i (s_fix F m n : Int), q_mk d b)
  | 0, i, h => by
    refine e_Md_loops_4 ⟨fun _ => ?_, fun h2 => ?_⟩
    · rw [show i = n by omega]
    · rw [e0] at h2; omega
  | f + 1, i, h => by
    have ih := c_Md_loopsGo hn hco (b := b) e0 eF f (i + 1) (by omega)
    have hlt := s_fix_lt F m i (by omega)
    rw [s_fix] at ih
    have k20 : q_Ev m_Md_loops 20 [q_r t_Md 0, q_i co, q_i (s_fix F m i : Int), q_i ((i + 1 : Nat) : Int)] [.inl ((i + 1 + m : Nat) : Int), .inl (F (i + 1) : Int)] (q_mk d b) (q_i (s_fix F m n : Int), q_mk d b) := by
      refine e_Md_loops_20 ⟨fun h2 => e_Md_loops_25 ?_, fun h2 => ⟨_, _, c_Md_with hlt (by omega) (by omega), e_Md_loops_24 (e_Md_loops_25 ?_)⟩⟩
      · rw [if_neg (by omega)] at ih
        rw [q_wS (by omega)]; exact ih
      · rw [if_pos (by omega)] at ih
        rw [q_wS (by omega)]; exact ih
    refine e_Md_loops_4 ⟨fun h2 => ?_, fun _ => ⟨by omega, by omega, ?_⟩⟩
    · rw [e0] at h2; omega
    · rw [Int.toNat_natCast, eF (i + 1) (by omega) (by omega), e0]
      refine ⟨fun h2 => ?_, fun h2 => ?_⟩
      · have hm : m = 0 := by omega
        subst hm; exact k20
      · have hm : m = n := by omega
        subst hm
        rw [show q_w (((i + 1 : Nat) : Int) + (m : Int)) = ((i + 1 + m : Nat) : Int) by rw [q_w_id (by omega) (by omega)]; omega]
        exact k20
theorem c_Md_keptGo {S : Nat → Nat × (Nat → Nat)} {d : qD} {b : Nat} (e : ∀ x, x < 4 → d.1 t_mShN 0 x = ((S x).1 : Int)) : ∀ (f i : Nat), i + f = 4 → q_Ev m_Md_kept 4 [q_r t_Md 0, q_i (s_kep S i : Int), q_i (i : Int)] [] (q_mk d b) (q_i (s_kep S 4 : Int), q_mk d b)
  | 0, i, h => by
    refine e_Md_kept_4 ⟨fun _ => ?_, fun h2 => by omega⟩
    rw [show i = 4 by omega]
  | f + 1, i, h => by
    have ih := c_Md_keptGo (b := b) e f (i + 1) (by omega)
    have hlt := s_kep_lt S i (by omega)
    have hp2 : 2 ^ i < 2 ^ 8 := Nat.pow_lt_pow_right (by decide) (by omega)
    rw [s_kep] at ih
    refine e_Md_kept_4 ⟨fun h2 => by omega, fun _ => ⟨by omega, by omega, ?_⟩⟩
    rw [Int.toNat_natCast, e i (by omega)]
    refine ⟨fun h2 => e_Md_kept_18 ?_, fun h2 => e_Md_kept_18 ?_⟩
    · rw [if_neg (by omega)] at ih
      rw [q_wS (by omega), show q_or (s_kep S i : Int) 0 = (s_kep S i : Int) from (q_or_nat (b := 0) (by omega) (by omega)).trans (by rw [Nat.or_zero])]; exact ih
    · rw [if_pos (by omega)] at ih
      rw [q_wS (by omega), q_shl1 _ (by omega), q_or_nat (by omega) (by omega)]; exact ih
/-- the dimension as the model reckons it -/
def s_dimM (n : Nat) (F : Nat → Nat) : Int := ((q_pc (s_n1 n F n) * (n - q_pc (s_n1 n F n)) : Nat) : Int) - (s_inv F n : Int)
theorem s_inv_le (G : Nat → Nat) (n : Nat) (hn : n ≤ 8) : s_inv G n ≤ 56 := by
  have h1 := s_invs_le G n 1 n
  have h2 : n * (n - 1) ≤ 8 * 7 := Nat.mul_le_mul hn (by omega)
  unfold s_inv; omega
theorem c_Md_dim {n : Nat} {F : Nat → Nat} (hb : s_bd n F) (hk : q_pc (s_n1 n F n) ≤ n) {d : qD} {b : Nat} (e0 : d.1 t_Md 0 10 = (n : Int)) (e1 : d.1 t_Md 0 12 = (q_pc (s_n1 n F n) : Int)) (eF : s_row (d.1 t_mF 0) n F) : q_Ev m_Md_dim 0 [q_r t_Md 0] [] (q_mk d b) (q_i (s_dimM n F), q_mk d b) := by
  have hn := hb.1
  have iv := c_Md_inv_f hn (G := F) (fun i h1 h2 => by have := hb.2 i h1 h2; omega) (d := d) (b := b) eF
  have hi := s_inv_le F n hn
  refine e_Md_dim_0 ?_
  rw [e0, e1]
  refine ⟨_, _, iv, e_Md_dim_13 ?_⟩
  have hm : q_pc (s_n1 n F n) * (n - q_pc (s_n1 n F n)) ≤ 8 * 8 := Nat.mul_le_mul (by omega) (by omega)
  rw [q_wD hk (by omega), ← Int.natCast_mul, show q_w ((q_pc (s_n1 n F n) * (n - q_pc (s_n1 n F n)) : Nat) : Int) = ((q_pc (s_n1 n F n) * (n - q_pc (s_n1 n F n)) : Nat) : Int) from q_w_id (by omega) (by omega), q_w_id (by omega) (by omega)]
  rfl
