/-! the model's crossing, cluster, squares -/
def s_yn (z : Option Bool) : Int := match z with
  | none => 0
  | some true => 1
  | some false => 2
theorem c_Md_doCrossGo {s o n : Nat} (hs : s < 256) (ho : o < 256) (hn : n ≤ 8) {d : qD} {b : Nat} (e0 : d.1 t_Md 0 10 = (n : Int)) : ∀ (f l c : Nat) (z : Option Bool) (fi : Int), l + f = n + 1 → 1 ≤ l → c < l → (z = none → fi = 0 ∧ c = 0) → (∀ y, z = some y → (fi = 1 ∨ fi = 2) ∧ (fi = s_yn (some y) ↔ c % 2 = 0)) → q_Ev m_Md_doCross 8 [q_r t_Md 0, q_i (s : Int), q_i (o : Int), q_i (c : Int), q_i fi, q_i (s_yn z), q_i (l : Int), none] [] (q_mk d b) (q_i (q_b2i (decide (3 ≤ s_crGo s o f l c z))), q_mk d b)
  | 0, l, c, z, fi, hl, h1, hc, hz0, hz1 => by
    rw [s_crGo]
    have e1 : ∀ x : Int, (0 : Int) ≤ x → x ≤ 1 → q_w ((c : Int) + x) = (c : Int) + x := fun x h1 h2 => q_w_id (by omega) (by omega)
    refine e_Md_doCross_8 ⟨fun _ => ⟨fun h => e_Md_doCross_60 ?_, fun h => e_Md_doCross_60 ?_⟩, fun h => ?_⟩
    · rw [e1 0 (by decide) (by decide)]
      have hpar : c % 2 = 0 := by
        cases z with
        | none => have := hz0 rfl; omega
        | some y => exact (hz1 y rfl).2.mp h.symm
      refine ⟨fun h2 => e_Md_doCross_68 ?_, fun h2 => e_Md_doCross_68 ?_⟩
      · rw [decide_eq_false (by omega)]; exact ⟨by decide, by decide, rfl⟩
      · rw [decide_eq_true (by omega)]; exact ⟨by decide, by decide, rfl⟩
    · rw [e1 1 (by decide) (by decide)]
      refine ⟨fun h2 => e_Md_doCross_68 ?_, fun h2 => e_Md_doCross_68 ?_⟩
      · rw [decide_eq_false (by omega)]; exact ⟨by decide, by decide, rfl⟩
      · rw [decide_eq_true (by omega)]; exact ⟨by decide, by decide, rfl⟩
    · rw [e0] at h; omega
  | f + 1, l, c, z, fi, hl, h1, hc, hz0, hz1 => by
    refine e_Md_doCross_8 ⟨fun h => ?_, fun _ => ⟨_, _, c_Md_has (by omega) h1 (by omega), e_Md_doCross_15 ⟨_, _, c_Md_has (by omega) h1 (by omega), e_Md_doCross_18 ⟨fun h => ⟨_, _, c_Md_has (by omega) h1 (by omega), ?_⟩, fun h => ?_⟩⟩⟩⟩
    · rw [e0] at h; omega
    · have hne : (q_hl s l != q_hl o l) = true := by
        cases hA : q_hl s l <;> cases hB : q_hl o l <;> rw [hA, hB] at h <;> first | rfl | exact absurd rfl h
      rw [s_crGo, if_pos hne]
      have k28 : q_Ev m_Md_doCross 28 [q_r t_Md 0, q_i (s : Int), q_i (o : Int), q_i (c : Int), q_i fi, q_i (s_yn z), q_i (l : Int), none] [.inl (s_yn (some (q_hl s l)))] (q_mk d b) (q_i (q_b2i (decide (3 ≤ s_crGo s o f (l + 1) (if z.isSome && z != some (q_hl s l) then c + 1 else c) (some (q_hl s l))))), q_mk d b) := by
        have hy0 : s_yn (some (q_hl s l)) ≠ 0 := by cases q_hl s l <;> decide
        have hy12 : s_yn (some (q_hl s l)) = 1 ∨ s_yn (some (q_hl s l)) = 2 := by
          cases q_hl s l
          · exact Or.inr rfl
          · exact Or.inl rfl
        have hyi : ∀ y : Bool, s_yn (some y) = s_yn (some (q_hl s l)) ↔ y = q_hl s l := by
          intro y
          cases hA : q_hl s l <;> cases y <;> decide
        have fin : ∀ (δ : Int) (c' : Nat), q_w ((c : Int) + δ) = (c' : Int) → c' < l + 1 → (if z.isSome && z != some (q_hl s l) then c + 1 else c) = c' → (z = none → c' = 0) → (∀ y, z = some y → (fi = s_yn (some (q_hl s l)) ↔ c' % 2 = 0)) → q_Ev m_Md_doCross 41 [q_r t_Md 0, q_i (s : Int), q_i (o : Int), none, q_i fi, none, q_i (l : Int), q_i (s_yn (some (q_hl s l)))] [.inl δ, .inl (c : Int)] (q_mk d b) (q_i (q_b2i (decide (3 ≤ s_crGo s o f (l + 1) (if z.isSome && z != some (q_hl s l) then c + 1 else c) (some (q_hl s l))))), q_mk d b) := by
          intro δ c' hw hc' he hn0 hn1
          refine e_Md_doCross_41 ⟨fun h5 => e_Md_doCross_48 (e_Md_doCross_51 ?_), fun h5 => e_Md_doCross_48 (e_Md_doCross_51 ?_)⟩
          · rw [hw, q_wS (by omega), he]
            refine c_Md_doCrossGo hs ho hn e0 f (l + 1) c' _ fi (by omega) (by omega) hc' (fun h6 => by cases h6) (fun y hy => ?_)
            injection hy with hy
            cases z with
            | none => exact absurd (hz0 rfl).1 h5
            | some w =>
              have := hz1 w rfl
              rw [← hy]
              exact ⟨this.1, hn1 w rfl⟩
          · rw [hw, q_wS (by omega), he]
            refine c_Md_doCrossGo hs ho hn e0 f (l + 1) c' _ _ (by omega) (by omega) hc' (fun h6 => by cases h6) (fun y hy => ?_)
            injection hy with hy
            rw [← hy]
            refine ⟨hy12, fun _ => ?_, fun _ => rfl⟩
            cases z with
            | none => rw [hn0 rfl]
            | some w =>
              have := (hz1 w rfl).1
              omega
        refine e_Md_doCross_28 ⟨fun _ => ⟨fun h5 => e_Md_doCross_40 ?_, fun h5 => ⟨fun h6 => e_Md_doCross_40 ?_, fun h6 => ?_⟩⟩, fun h5 => absurd h5 hy0⟩
        · have hzn : z = none := by
            cases z with
            | none => rfl
            | some w => cases w <;> exact absurd h5 (by decide)
          refine fin 0 c (by rw [q_w_id (by omega) (by omega)]; omega) (by omega) ?_ (fun _ => (hz0 hzn).2) (fun y hy => by rw [hzn] at hy; cases hy)
          rw [hzn]; rfl
        · cases z with
          | none => exact absurd rfl h5
          | some w =>
            have hw : w = q_hl s l := (hyi w).mp h6.symm
            refine fin 0 c (by rw [q_w_id (by omega) (by omega)]; omega) (by omega) ?_ (fun h7 => by cases h7) (fun y hy => ?_)
            · rw [hw]; exact if_neg (by simp)
            · have := (hz1 w rfl).2
              rw [hw] at this
              exact this
        · cases z with
          | none => exact absurd rfl h5
          | some w =>
            have hw : w ≠ q_hl s l := fun hh => h6 ((hyi w).mpr hh).symm
            refine fin 1 (c + 1) (by rw [q_w_id (by omega) (by omega)]; omega) (by omega) ?_ (fun h7 => by cases h7) (fun y hy => ?_)
            · exact if_pos (by simp [hw])
            · have h8 := (hz1 w rfl).2
              have h9 := (hz1 w rfl).1
              have h10 : s_yn (some w) ≠ s_yn (some (q_hl s l)) := fun hh => hw ((hyi w).mp hh)
              have h11 : s_yn (some w) = 1 ∨ s_yn (some w) = 2 := by
                cases w
                · exact Or.inr rfl
                · exact Or.inl rfl
              omega
      refine e_Md_doCross_24 ⟨fun h2 => ?_, fun h2 => ?_⟩
      · rw [q_b2i_f h2] at k28 ⊢; exact k28
      · rw [q_b2i_t h2] at k28 ⊢; exact k28
    · have heq : (q_hl s l != q_hl o l) = false := by
        cases hA : q_hl s l <;> cases hB : q_hl o l <;> rw [hA, hB] at h <;> first | rfl | exact absurd h (by decide)
      rw [s_crGo, if_neg (by rw [heq]; decide)]
      refine e_Md_doCross_28 ⟨fun h2 => absurd rfl h2, fun _ => e_Md_doCross_51 ?_⟩
      rw [q_wS (by omega)]
      exact c_Md_doCrossGo hs ho hn e0 f (l + 1) c z fi (by omega) (by omega) (by omega) hz0 hz1
theorem c_Md_doCross {s o n : Nat} (hs : s < 256) (ho : o < 256) (hn : n ≤ 8) {d : qD} {b : Nat} (e0 : d.1 t_Md 0 10 = (n : Int)) : q_Ev m_Md_doCross 0 [q_r t_Md 0, q_i (s : Int), q_i (o : Int), none, none, none, none, none] [] (q_mk d b) (q_i (q_b2i (s_cross s o n)), q_mk d b) :=
  e_Md_doCross_0 (c_Md_doCrossGo hs ho hn e0 n 1 0 none 0 (by omega) (by omega) (by omega) (fun _ => ⟨rfl, rfl⟩) (fun y hy => by cases hy))
theorem c_Md_cross {n : Nat} {F : Nat → Nat} {x y : Int} (hn : n ≤ 8) (hx : q_can x) (hy : q_can y) {d : qD} {b : Nat} (e0 : d.1 t_Md 0 10 = (n : Int)) (e : 0 < n → s_Mc n F d) : q_Ev m_Md_cross 0 [q_r t_Md 0, q_i x, q_i y] [] (q_mk d b) (q_i (s_crossA n (q_pc (s_n1 n F n)) x y), q_mk d b) := by
  have hp := s_p8 hn
  unfold s_crossA
  refine e_Md_cross_0 ⟨_, _, c_Md_isSet hn hx e0 (fun h => (e h).1), e_Md_cross_3 ⟨fun h => ?_, fun h => ⟨_, _, c_Md_isSet hn hy e0 (fun h => (e h).1), e_Md_cross_7 ⟨fun h2 => ?_, fun h2 => ?_⟩⟩⟩⟩
  · rw [q_b2i_f h]; exact e_Md_cross_17 (e_Md_cross_18 rfl)
  · rw [q_b2i_t h, q_b2i_f h2]; exact e_Md_cross_17 (e_Md_cross_18 rfl)
  · rw [q_b2i_t h, q_b2i_t h2]
    obtain ⟨h0, s, rfl, hs, _⟩ := s_isSet_of (q_b2i_t h)
    obtain ⟨_, t, rfl, ht, _⟩ := s_isSet_of (q_b2i_t h2)
    rw [Int.toNat_natCast, Int.toNat_natCast]
    refine ⟨_, _, c_Md_doCross (by omega) (by omega) hn e0, e_Md_cross_12 ⟨fun h3 => ?_, fun h3 => ?_⟩⟩
    · rw [q_b2i_f h3]; exact e_Md_cross_18 rfl
    · rw [q_b2i_t h3]; exact e_Md_cross_18 rfl
theorem c_Md_crossesNoneGo {s n : Nat} {c : Nat → Bool} (hs : s < 256) (hn : n ≤ 8) {d : qD} {b : Nat} (e0 : d.1 t_Md 0 10 = (n : Int)) (ec : ∀ j, j < 256 → d.1 t_mInC 0 j = q_b2i (c j)) : ∀ (f m : Nat), m + f = 256 → q_Ev m_Md_crossesNone 2 [q_r t_Md 0, q_i (s : Int), q_i (m : Int)] [] (q_mk d b) (q_i (q_b2i (((List.range' m f).filter c).all (fun t => !s_cross s t n))), q_mk d b)
  | 0, m, h => e_Md_crossesNone_2 ⟨fun _ => ⟨by decide, by decide, rfl⟩, fun h2 => by omega⟩
  | f + 1, m, h => by
    refine e_Md_crossesNone_2 ⟨fun h2 => by omega, fun _ => ⟨by omega, by omega, ?_⟩⟩
    have nx := c_Md_crossesNoneGo hs hn (b := b) e0 ec f (m + 1) (by omega)
    rw [Int.toNat_natCast, ec m (by omega), s_fl_range']
    refine ⟨fun h2 => e_Md_crossesNone_17 ?_, fun h2 => ⟨_, _, c_Md_doCross hs (by omega) hn e0, ?_⟩⟩
    · rw [q_b2i_f h2, if_neg (by decide), q_wS (by omega)]; exact nx
    · rw [q_b2i_t h2, if_pos rfl, List.all_cons]
      refine e_Md_crossesNone_14 ⟨fun h3 => e_Md_crossesNone_17 ?_, fun h3 => ?_⟩
      · rw [q_b2i_f h3, q_wS (by omega)]; exact nx
      · rw [q_b2i_t h3]; exact ⟨by decide, by decide, rfl⟩
theorem c_Md_crossesNone {s n : Nat} {c : Nat → Bool} (hs : s < 256) (hn : n ≤ 8) {d : qD} {b : Nat} (e0 : d.1 t_Md 0 10 = (n : Int)) (ec : ∀ j, j < 256 → d.1 t_mInC 0 j = q_b2i (c j)) : q_Ev m_Md_crossesNone 0 [q_r t_Md 0, q_i (s : Int), none] [] (q_mk d b) (q_i (q_b2i ((s_fl c).all (fun t => !s_cross s t n))), q_mk d b) := by
  have := c_Md_crossesNoneGo hs hn (b := b) e0 ec 256 0 rfl
  rw [s_fl_0] at this
  exact e_Md_crossesNone_0 this
/-- one place of a row of truths laid anew -/
theorem s_inC_ins {g : Nat → Int} {c : Nat → Bool} {s : Nat} (h : ∀ j, j < 256 → g j = q_b2i (c j)) : ∀ j, j < 256 → q_up g s 1 j = q_b2i (s_ins c s j) := by
  intro j hj
  unfold s_ins
  by_cases hq : j = s
  · subst hq; rw [q_up_at, beq_self_eq_true]; rfl
  · rw [q_up_ne _ _ hq, beq_false_of_ne hq, Bool.false_or]; exact h j hj
theorem c_Md_clearC {b : Nat} : ∀ (f m : Nat) (d : qD), m + f = 256 → (∀ j, j < m → d.1 t_mInC 0 j = 0) → ∃ d', q_ag [t_mInC] d d' ∧ (∀ j, j < 256 → d'.1 t_mInC 0 j = 0) ∧ ∀ r, q_Ev m_Md_laysCluster 14 [q_r t_Md 0, q_i 1] [] (q_mk d' b) r → q_Ev m_Md_laysCluster 2 [q_r t_Md 0, q_i (m : Int)] [] (q_mk d b) r
  | 0, m, d, h, e => ⟨d, q_ag_refl _ _, fun j hj => e j (by omega), fun r hr => e_Md_laysCluster_2 ⟨fun _ => hr, fun h2 => by omega⟩⟩
  | f + 1, m, d, h, e => by
    obtain ⟨d', a, r1, r2⟩ := c_Md_clearC (b := b) f (m + 1) (q_sI d t_mInC 0 m 0) (by omega) (by
      intro j hj
      rw [q_sI_at]
      by_cases hq : j = m
      · subst hq; rw [q_up_at]
      · rw [q_up_ne _ _ hq]; exact e j (by omega))
    refine ⟨d', q_ag_tr (q_ag_sI (by decide)) a, r1, fun r hr => e_Md_laysCluster_2 ⟨fun h2 => by omega, fun _ => ⟨by omega, by omega, ?_⟩⟩⟩
    rw [q_wS (by omega), Int.toNat_natCast, show q_nar 3 0 = 0 from q_nar3 false]
    exact r2 r hr
theorem c_Md_layCN {n : Nat} {K : Nat → Nat} (hn : n ≤ 8) (hK : ∀ i, 1 ≤ i → i ≤ n → K i < 256) {b : Nat} : ∀ (f i : Nat) (d : qD), i + f = n → d.1 t_Md 0 10 = (n : Int) → s_row (d.1 t_mNeck 0) n K → (∀ j, j < 256 → d.1 t_mInC 0 j = q_b2i (s_cN K i j)) → ∃ d', q_ag [t_mInC] d d' ∧ (∀ j, j < 256 → d'.1 t_mInC 0 j = q_b2i (s_cN K n j)) ∧ ∀ r, q_Ev m_Md_laysCluster 30 [q_r t_Md 0, q_i 0] [] (q_mk d' b) r → q_Ev m_Md_laysCluster 14 [q_r t_Md 0, q_i ((i + 1 : Nat) : Int)] [] (q_mk d b) r
  | 0, i, d, h, e0, eN, e => by
    have : i = n := by omega
    subst this
    refine ⟨d, q_ag_refl _ _, e, fun r hr => e_Md_laysCluster_14 ⟨fun _ => hr, fun h2 => ?_⟩⟩
    rw [e0] at h2; omega
  | f + 1, i, d, h, e0, eN, e => by
    have hk := hK (i + 1) (by omega) (by omega)
    obtain ⟨d', a, r1, r2⟩ := c_Md_layCN hn hK (b := b) f (i + 1) (q_sI d t_mInC 0 (K (i + 1)) 1) (by omega) (by rw [q_sI_ne _ _ (by decide), e0]) (by rw [q_sI_ne _ _ (by decide)]; exact eN) (by rw [q_sI_at]; exact s_inC_ins e)
    refine ⟨d', q_ag_tr (q_ag_sI (by decide)) a, r1, fun r hr => e_Md_laysCluster_14 ⟨fun h2 => ?_, fun _ => ⟨by omega, by omega, ?_⟩⟩⟩
    · rw [e0] at h2; omega
    · rw [q_wS (by omega), Int.toNat_natCast, eN (i + 1) (by omega) (by omega), Int.toNat_natCast, show q_nar 3 1 = 1 from q_nar3 true]
      exact ⟨by omega, by omega, r2 r hr⟩
theorem c_Md_layCB {n : Nat} {B : Nat → Bool} (hn : n ≤ 8) {b : Nat} : ∀ (f m : Nat) (c : Nat → Bool) (d : qD), m + f = 256 → d.1 t_Md 0 10 = (n : Int) → (∀ j, j < 256 → d.1 t_mIsB 0 j = q_b2i (B j)) → (∀ j, j < 256 → d.1 t_mInC 0 j = q_b2i (c j)) → ∃ d', q_Ev m_Md_laysCluster 30 [q_r t_Md 0, q_i (m : Int)] [] (q_mk d b) (none, q_mk d' b) ∧ q_ag [t_mInC] d d' ∧ ∀ j, j < 256 → d'.1 t_mInC 0 j = q_b2i (s_cB n ((List.range' m f).filter B) c j)
  | 0, m, c, d, h, e0, eB, e => ⟨d, e_Md_laysCluster_30 ⟨fun _ => rfl, fun h2 => by omega⟩, q_ag_refl _ _, e⟩
  | f + 1, m, c, d, h, e0, eB, e => by
    have hw : q_w ((m : Int) + 1) = ((m + 1 : Nat) : Int) := q_wS (by omega)
    by_cases hB : B m = true
    · rw [s_fl_range', if_pos hB]
      unfold s_cB
      by_cases hx : (s_fl c).all (fun t => !s_cross m t n) = true
      · rw [if_pos hx]
        by_cases hc : c m = true
        · rw [s_ins_same hc]
          obtain ⟨d', v, a, r⟩ := c_Md_layCB hn (b := b) f (m + 1) c d (by omega) e0 eB e
          refine ⟨d', e_Md_laysCluster_30 ⟨fun h2 => by omega, fun _ => ⟨by omega, by omega, ?_⟩⟩, a, r⟩
          rw [Int.toNat_natCast, eB m (by omega), e m (by omega), hB, hc]
          exact ⟨fun h2 => absurd h2 (by decide), fun _ => ⟨by omega, by omega, fun _ => e_Md_laysCluster_52 (by rw [hw]; exact v), fun h2 => absurd h2 (by decide)⟩⟩
        · have hc2 : c m = false := by simpa using hc
          obtain ⟨d', v, a, r⟩ := c_Md_layCB hn (b := b) f (m + 1) (s_ins c m) (q_sI d t_mInC 0 m 1) (by omega) (by rw [q_sI_ne _ _ (by decide), e0]) (by rw [q_sI_ne _ _ (by decide)]; exact eB) (by rw [q_sI_at]; exact s_inC_ins e)
          refine ⟨d', e_Md_laysCluster_30 ⟨fun h2 => by omega, fun _ => ⟨by omega, by omega, ?_⟩⟩, q_ag_tr (q_ag_sI (by decide)) a, r⟩
          rw [Int.toNat_natCast, eB m (by omega), e m (by omega), hB, hc2]
          refine ⟨fun h2 => absurd h2 (by decide), fun _ => ⟨by omega, by omega, fun h2 => absurd rfl h2, fun _ => ⟨_, _, c_Md_crossesNone (by omega) hn e0 e, ?_⟩⟩⟩
          rw [hx]
          refine e_Md_laysCluster_46 ⟨fun h2 => absurd h2 (by decide), fun _ => ⟨by omega, by omega, e_Md_laysCluster_52 ?_⟩⟩
          rw [hw, Int.toNat_natCast, show q_nar 3 1 = 1 from q_nar3 true]; exact v
      · rw [if_neg hx]
        have hx2 : (s_fl c).all (fun t => !s_cross m t n) = false := by simpa using hx
        obtain ⟨d', v, a, r⟩ := c_Md_layCB hn (b := b) f (m + 1) c d (by omega) e0 eB e
        refine ⟨d', e_Md_laysCluster_30 ⟨fun h2 => by omega, fun _ => ⟨by omega, by omega, ?_⟩⟩, a, r⟩
        rw [Int.toNat_natCast, eB m (by omega), e m (by omega), hB]
        refine ⟨fun h2 => absurd h2 (by decide), fun _ => ⟨by omega, by omega, fun _ => e_Md_laysCluster_52 (by rw [hw]; exact v), fun _ => ⟨_, _, c_Md_crossesNone (by omega) hn e0 e, ?_⟩⟩⟩
        rw [hx2]
        exact e_Md_laysCluster_46 ⟨fun _ => e_Md_laysCluster_52 (by rw [hw]; exact v), fun h2 => absurd rfl h2⟩
    · have hB2 : B m = false := by simpa using hB
      rw [s_fl_range', if_neg hB]
      obtain ⟨d', v, a, r⟩ := c_Md_layCB hn (b := b) f (m + 1) c d (by omega) e0 eB e
      refine ⟨d', e_Md_laysCluster_30 ⟨fun h2 => by omega, fun _ => ⟨by omega, by omega, ?_⟩⟩, a, r⟩
      rw [Int.toNat_natCast, eB m (by omega), hB2]
      exact ⟨fun _ => e_Md_laysCluster_52 (by rw [hw]; exact v), fun h2 => absurd rfl h2⟩
theorem c_Md_laysCluster {n : Nat} {F : Nat → Nat} (hb : s_bd n F) {d : qD} {b : Nat} (e0 : d.1 t_Md 0 10 = (n : Int)) (eN : s_row (d.1 t_mNeck 0) n (s_nk n F)) (eB : ∀ j, j < 256 → d.1 t_mIsB 0 j = q_b2i (s_bas n F j)) : ∃ d', q_Ev m_Md_laysCluster 0 [q_r t_Md 0, none] [] (q_mk d b) (none, q_mk d' b) ∧ q_ag [t_mInC] d d' ∧ ∀ j, j < 256 → d'.1 t_mInC 0 j = q_b2i (s_clus n F j) := by
  have hn := hb.1
  obtain ⟨d1, a1, r1, k1⟩ := c_Md_clearC (b := b) 256 0 d rfl (fun j hj => by omega)
  obtain ⟨d2, a2, r2, k2⟩ := c_Md_layCN hn (K := s_nk n F) (fun i h1 h2 => by
    obtain ⟨m, rfl⟩ : ∃ m, i = m + 1 := ⟨i - 1, by omega⟩
    exact s_nk_lt hb m (by omega)) (b := b) n 0 d1 (by omega) (by rw [a1.1 t_Md (by decide), e0]) (by rw [a1.1 t_mNeck (by decide)]; exact eN) (fun j hj => by rw [r1 j hj]; rfl)
  obtain ⟨d3, v3, a3, r3⟩ := c_Md_layCB hn (B := s_bas n F) (b := b) 256 0 (s_cN (s_nk n F) n) d2 rfl (by rw [a2.1 t_Md (by decide), a1.1 t_Md (by decide), e0]) (by rw [a2.1 t_mIsB (by decide), a1.1 t_mIsB (by decide)]; exact eB) r2
  refine ⟨d3, e_Md_laysCluster_0 (k1 _ (k2 _ v3)), q_ag_tr a1 (q_ag_tr a2 a3), ?_⟩
  rw [s_fl_0] at r3
  exact r3
theorem c_Md_isOfNeckGo {n : Nat} {K : Nat → Nat} {x : Int} (hn : n ≤ 8) {d : qD} {b : Nat} (e0 : d.1 t_Md 0 10 = (n : Int)) (eN : s_row (d.1 t_mNeck 0) n K) : ∀ (f i : Nat), i + f = n + 1 → 1 ≤ i → q_Ev m_Md_isOfNeck 2 [q_r t_Md 0, q_i x, q_i (i : Int)] [] (q_mk d b) (q_i (q_b2i (s_ofN K x f i)), q_mk d b)
  | 0, i, h, h1 => by
    refine e_Md_isOfNeck_2 ⟨fun _ => ⟨by decide, by decide, rfl⟩, fun h2 => ?_⟩
    rw [e0] at h2; omega
  | f + 1, i, h, h1 => by
    rw [s_ofN]
    refine e_Md_isOfNeck_2 ⟨fun h2 => ?_, fun _ => ⟨by omega, by omega, ?_⟩⟩
    · rw [e0] at h2; omega
    · rw [Int.toNat_natCast, eN i h1 (by omega)]
      refine ⟨fun h2 => ?_, fun h2 => ?_⟩
      · rw [if_neg h2, q_wS (by omega)]
        exact c_Md_isOfNeckGo hn e0 eN f (i + 1) (by omega) (by omega)
      · rw [if_pos h2]; exact ⟨by decide, by decide, rfl⟩
theorem c_Md_isThere {cl : Nat → Bool} {x u v : Nat} (hx : x < 256) (hu : 1 ≤ u) (hu2 : u ≤ 8) (hv : 1 ≤ v) (hv2 : v ≤ 8) {d : qD} {b : Nat} (ec : ∀ j, j < 256 → d.1 t_mInC 0 j = q_b2i (cl j)) : q_Ev m_Md_isThere 0 [q_r t_Md 0, q_i (x : Int), q_i (u : Int), q_i (v : Int)] [] (q_mk d b) (q_i (q_b2i (cl (s_with (s_wo x u) v))), q_mk d b) := by
  have h1 := s_wo_lt (l := u) hx
  have h2 := s_with_lt (l := v) h1 hv2
  refine e_Md_isThere_0 ⟨_, _, c_Md_without hx hu hu2, e_Md_isThere_5 ⟨_, _, c_Md_with h1 hv hv2, e_Md_isThere_7 ?_⟩⟩
  rw [Int.toNat_natCast, ec _ h2]
  exact ⟨by omega, by omega, q_b2i_nn _, q_b2i_lt _, rfl⟩
theorem s_wo_eq {x a c : Nat} (hx : x < 256) (ha : 1 ≤ a) (ha8 : a ≤ 8) (hc : 1 ≤ c) (hac : a ≠ c) (h : q_hl x a = true) : s_wo x c = s_with (s_wo (s_wo x a) c) a := by
  refine s_ext (s_wo_lt hx) (s_with_lt (s_wo_lt (s_wo_lt hx)) ha8) fun l hl hl2 => ?_
  rw [s_wo_hl hc hl, s_with_hl ha hl, s_wo_hl hc hl, s_wo_hl ha hl]
  by_cases q1 : l = a
  · subst q1; rw [h, decide_eq_false hac]; simp
  · rw [decide_eq_false q1]; simp
theorem s_wo_eq2 {x a c : Nat} (hx : x < 256) (ha : 1 ≤ a) (hc : 1 ≤ c) (hc8 : c ≤ 8) (hac : a ≠ c) (h : q_hl x c = true) : s_wo x a = s_with (s_wo (s_wo x a) c) c := by
  refine s_ext (s_wo_lt hx) (s_with_lt (s_wo_lt (s_wo_lt hx)) hc8) fun l hl hl2 => ?_
  rw [s_wo_hl ha hl, s_with_hl hc hl, s_wo_hl hc hl, s_wo_hl ha hl]
  by_cases q1 : l = c
  · subst q1; rw [h, decide_eq_false (fun hh => hac hh.symm)]; simp
  · rw [decide_eq_false q1]; simp
theorem s_with_comm (e u v : Nat) : s_with (s_with e u) v = s_with (s_with e v) u := by
  unfold s_with
  rw [Nat.or_assoc, Nat.or_assoc, Nat.or_comm (2 ^ (u - 1))]
def s_o1 (o : Option Nat) : Int := match o with
  | some v => (v : Int)
  | none => -1
theorem s_fst_none {h : Nat → Option Nat} : ∀ (f i : Nat), (∀ j, i ≤ j → j < i + f → h j = none) → s_fst h f i = none
  | 0, _, _ => rfl
  | f + 1, i, e => by
    rw [s_fst, e i (Nat.le_refl i) (by omega)]
    exact s_fst_none f (i + 1) (fun j h1 h2 => e j (by omega) (by omega))
theorem c_Md_squareByD {n x a c y : Nat} {cl : Nat → Bool} (hn : n ≤ 8) (hx : x < 256) (ha : 1 ≤ a) (hay : a < y) (hyc : y < c) (hc : c ≤ n) (xa : q_hl x a = true) (xc : q_hl x c = true) (xy : q_hl x y = false) (c1 : cl (s_with (s_wo x c) y) = true) (c2 : cl (s_with (s_wo x a) y) = true) {d : qD} {b : Nat} (e0 : d.1 t_Md 0 10 = (n : Int)) (ec : ∀ j, j < 256 → d.1 t_mInC 0 j = q_b2i (cl j)) {r : Option qV × qW} : ∀ (f z : Nat), z + f = n + 1 → 1 ≤ z → (∀ v, s_fst (s_mvd cl x (s_wo (s_wo x a) c) a c y) f z = some v → r = (q_i (v : Int), q_mk d b)) → (s_fst (s_mvd cl x (s_wo (s_wo x a) c) a c y) f z = none → q_Ev m_Md_squareBy 65 [q_r t_Md 0, q_i (x : Int), q_i (a : Int), q_i (c : Int), q_i (y : Int), none] [] (q_mk d b) r) → q_Ev m_Md_squareBy 26 [q_r t_Md 0, q_i (x : Int), q_i (a : Int), q_i (c : Int), q_i (y : Int), q_i (z : Int)] [] (q_mk d b) r
  | 0, z, h, hz, h1, h2 => by
    refine e_Md_squareBy_26 ⟨fun _ => h2 rfl, fun h3 => ?_⟩
    rw [e0] at h3; omega
  | f + 1, z, h, hz, h1, h2 => by
    rw [s_fst] at h1 h2
    have k1 := s_wo_eq hx ha (by omega) (by omega) (show a ≠ c by omega) xa
    have k2 := s_wo_eq2 hx ha (show 1 ≤ c by omega) (by omega) (show a ≠ c by omega) xc
    have g1 := s_wo_lt (l := a) hx
    have g2 := s_wo_lt (l := c) g1
    have g3 := s_with_lt (l := y) g2 (by omega)
    have nx : s_mvd cl x (s_wo (s_wo x a) c) a c y z = none → q_Ev m_Md_squareBy 63 [q_r t_Md 0, q_i (x : Int), q_i (a : Int), q_i (c : Int), q_i (y : Int), q_i (z : Int)] [] (q_mk d b) r := by
      intro hno
      rw [hno] at h1 h2
      refine e_Md_squareBy_63 ?_
      rw [q_wS (by omega)]
      exact c_Md_squareByD hn hx ha hay hyc hc xa xc xy c1 c2 e0 ec f (z + 1) (by omega) (by omega) h1 h2
    have hdef : s_mvd cl x (s_wo (s_wo x a) c) a c y z = if (decide (z < a) || decide (c < z)) && (!q_hl x z && (cl (s_with (s_wo x a) z) && cl (s_with (s_wo x c) z))) then some (s_with (s_with (s_wo (s_wo x a) c) y) z) else none := by
      unfold s_mvd s_crn
      rw [xy, ← k1, s_with_comm (s_wo (s_wo x a) c) y c, ← k2, c1, c2, Bool.not_false, Bool.true_and, Bool.true_and, Bool.true_and]
    rw [hdef] at h1 nx
    have k41 : (z < a ∨ c < z) → q_hl x z = false → q_Ev m_Md_squareBy 41 [q_r t_Md 0, q_i (x : Int), q_i (a : Int), q_i (c : Int), q_i (y : Int), q_i (z : Int)] [] (q_mk d b) r := by
      intro ho xz
      have ho2 : (decide (z < a) || decide (c < z)) = true := by rw [Bool.or_eq_true, decide_eq_true_iff, decide_eq_true_iff]; exact ho
      rw [ho2, xz, Bool.not_false, Bool.true_and, Bool.true_and] at h1 nx
      refine e_Md_squareBy_41 ⟨_, _, c_Md_isThere hx ha (by omega) hz (by omega) ec, e_Md_squareBy_46 ⟨fun h3 => nx ?_, fun h3 => ⟨_, _, c_Md_isThere hx (by omega) (by omega) hz (by omega) ec, e_Md_squareBy_52 ⟨fun h4 => nx ?_, fun h4 => ?_⟩⟩⟩⟩
      · rw [q_b2i_f h3]; rfl
      · rw [q_b2i_f h4, Bool.and_false]; rfl
      · rw [q_b2i_t h3, q_b2i_t h4] at h1
        exact ⟨_, _, c_Md_without hx ha (by omega), e_Md_squareBy_56 ⟨_, _, c_Md_without g1 (by omega) (by omega), e_Md_squareBy_58 ⟨_, _, c_Md_with g2 (by omega) (by omega), e_Md_squareBy_60 ⟨_, _, c_Md_with g3 hz (by omega), e_Md_squareBy_62 (h1 _ rfl)⟩⟩⟩⟩
    refine e_Md_squareBy_26 ⟨fun h3 => ?_, fun _ => ⟨_, _, c_Md_has (by omega) hz (by omega), e_Md_squareBy_33 ⟨fun h3 => nx ?_, fun h3 => ?_⟩⟩⟩
    · rw [e0] at h3; omega
    · rw [q_b2i_t h3, Bool.not_true, Bool.false_and, Bool.and_false]; rfl
    · have xz := q_b2i_f h3
      have hza : z ≠ a := fun hh => by rw [hh, xa] at xz; exact absurd xz (by decide)
      have hzc : z ≠ c := fun hh => by rw [hh, xc] at xz; exact absurd xz (by decide)
      refine ⟨fun h4 => k41 (by omega) xz, fun h4 => ⟨fun h5 => k41 (by omega) xz, fun h5 => nx ?_⟩⟩
      rw [decide_eq_false (show ¬ z < a by omega), decide_eq_false (show ¬ c < z by omega)]; rfl
theorem c_Md_squareByB {n x a c : Nat} {cl : Nat → Bool} (hn : n ≤ 8) (hx : x < 256) (ha : 1 ≤ a) (hc : c ≤ n) (xa : q_hl x a = true) (xc : q_hl x c = true) {d : qD} {b : Nat} (e0 : d.1 t_Md 0 10 = (n : Int)) (ec : ∀ j, j < 256 → d.1 t_mInC 0 j = q_b2i (cl j)) : ∀ (f y : Nat), f = c - y → a < y → q_Ev m_Md_squareBy 4 [q_r t_Md 0, q_i (x : Int), q_i (a : Int), q_i (c : Int), q_i (y : Int), none] [] (q_mk d b) (q_i (s_o1 (s_fst (fun y => s_fst (s_mvd cl x (s_wo (s_wo x a) c) a c y) n 1) f y)), q_mk d b)
  | 0, y, h, hy => e_Md_squareBy_4 ⟨fun _ => rfl, fun h3 => by omega⟩
  | f + 1, y, h, hy => by
    have k1 := s_wo_eq hx ha (by omega) (by omega) (show a ≠ c by omega) xa
    have k2 := s_wo_eq2 hx ha (show 1 ≤ c by omega) (by omega) (show a ≠ c by omega) xc
    have nx : s_fst (s_mvd cl x (s_wo (s_wo x a) c) a c y) n 1 = none → q_Ev m_Md_squareBy 65 [q_r t_Md 0, q_i (x : Int), q_i (a : Int), q_i (c : Int), q_i (y : Int), none] [] (q_mk d b) (q_i (s_o1 (s_fst (fun y => s_fst (s_mvd cl x (s_wo (s_wo x a) c) a c y) n 1) (f + 1) y)), q_mk d b) := by
      intro hno
      rw [s_fst, hno]
      refine e_Md_squareBy_65 ?_
      rw [q_wS (by omega)]
      exact c_Md_squareByB hn hx ha hc xa xc e0 ec f (y + 1) (by omega) (by omega)
    refine e_Md_squareBy_4 ⟨fun h3 => by omega, fun _ => ⟨_, _, c_Md_has (by omega) (by omega) (by omega), e_Md_squareBy_10 ⟨fun h3 => nx (s_fst_none _ _ fun z _ _ => ?_), fun h3 => ⟨_, _, c_Md_isThere hx (by omega) (by omega) (by omega) (by omega) ec, e_Md_squareBy_16 ⟨fun h4 => nx (s_fst_none _ _ fun z _ _ => ?_), fun h4 => ⟨_, _, c_Md_isThere hx ha (by omega) (by omega) (by omega) ec, e_Md_squareBy_22 ⟨fun h5 => ?_, fun h5 => nx (s_fst_none _ _ fun z _ _ => ?_)⟩⟩⟩⟩⟩⟩⟩
    · unfold s_mvd
      rw [q_b2i_t h3, Bool.not_true, Bool.false_and, Bool.and_false]; rfl
    · unfold s_mvd s_crn
      rw [← k1, q_b2i_f h4, Bool.false_and, Bool.and_false, Bool.and_false, Bool.and_false]; rfl
    · refine c_Md_squareByD hn hx ha hy (by omega) hc xa xc (q_b2i_f h3) (q_b2i_t h4) (q_b2i_t h5) e0 ec n 1 (by omega) (by omega) (fun v hv => ?_) nx
      rw [s_fst, hv]; rfl
    · unfold s_mvd s_crn
      rw [s_with_comm _ y c, ← k2, q_b2i_f h5, Bool.false_and, Bool.and_false, Bool.and_false, Bool.and_false, Bool.and_false]; rfl
theorem c_Md_squareBy {n x a c : Nat} {cl : Nat → Bool} (hn : n ≤ 8) (hx : x < 256) (ha : 1 ≤ a) (hac : a < c) (hc : c ≤ n) (xa : q_hl x a = true) (xc : q_hl x c = true) {d : qD} {b : Nat} (e0 : d.1 t_Md 0 10 = (n : Int)) (ec : ∀ j, j < 256 → d.1 t_mInC 0 j = q_b2i (cl j)) : q_Ev m_Md_squareBy 0 [q_r t_Md 0, q_i (x : Int), q_i (a : Int), q_i (c : Int), none, none] [] (q_mk d b) (q_i (s_o1 (s_mvc n cl x a c)), q_mk d b) := by
  refine e_Md_squareBy_0 ?_
  rw [q_wS (by omega)]
  exact c_Md_squareByB hn hx ha hc xa xc e0 ec (c - a - 1) (a + 1) (by omega) (by omega)
theorem c_Md_squareAtC {n x a : Nat} {cl : Nat → Bool} (hn : n ≤ 8) (hx : x < 256) (ha : 1 ≤ a) (han : a ≤ n) {d : qD} {b : Nat} (e0 : d.1 t_Md 0 10 = (n : Int)) (ec : ∀ j, j < 256 → d.1 t_mInC 0 j = q_b2i (cl j)) {r : Option qV × qW} : ∀ (f c : Nat), c + f = n + 1 → a < c → (∀ v, s_fst (fun c => if q_hl x a && q_hl x c then s_mvc n cl x a c else none) f c = some v → r = (q_i (v : Int), q_mk d b)) → (s_fst (fun c => if q_hl x a && q_hl x c then s_mvc n cl x a c else none) f c = none → q_Ev m_Md_squareAt 19 [q_r t_Md 0, q_i (x : Int), q_i ((a + 1 : Nat) : Int), none, none] [] (q_mk d b) r) → q_Ev m_Md_squareAt 27 [q_r t_Md 0, q_i (x : Int), q_i (a : Int), q_i (c : Int), none] [] (q_mk d b) r
  | 0, c, h, hc, h1, h2 => by
    refine e_Md_squareAt_27 ⟨fun _ => ?_, fun h3 => ?_⟩
    · rw [q_wS (by omega)]; exact h2 rfl
    · rw [e0] at h3; omega
  | f + 1, c, h, hc, h1, h2 => by
    rw [s_fst] at h1 h2
    have nx : (if q_hl x a && q_hl x c then s_mvc n cl x a c else none) = none → q_Ev m_Md_squareAt 50 [q_r t_Md 0, q_i (x : Int), q_i (a : Int), q_i (c : Int), none] [] (q_mk d b) r := by
      intro hno
      rw [hno] at h1 h2
      refine e_Md_squareAt_50 ?_
      rw [q_wS (by omega)]
      exact c_Md_squareAtC hn hx ha han e0 ec f (c + 1) (by omega) (by omega) h1 h2
    refine e_Md_squareAt_27 ⟨fun h3 => ?_, fun _ => ⟨_, _, c_Md_has (by omega) ha (by omega), e_Md_squareAt_34 ⟨fun h3 => nx ?_, fun h3 => ⟨_, _, c_Md_has (by omega) (by omega) (by omega), e_Md_squareAt_38 ⟨fun h4 => ?_, fun h4 => nx ?_⟩⟩⟩⟩⟩
    · rw [e0] at h3; omega
    · rw [q_b2i_f h3]; rfl
    · have xa := q_b2i_t h3
      have xc := q_b2i_t h4
      rw [xa, xc] at h1 nx
      refine ⟨_, _, c_Md_squareBy hn hx ha hc (by omega) xa xc e0 ec, e_Md_squareAt_45 ?_⟩
      cases hv : s_mvc n cl x a c with
      | none => exact ⟨fun _ => nx hv, fun h5 => absurd h5 (by decide)⟩
      | some v =>
        rw [show (if (true && true) = true then s_mvc n cl x a c else none) = some v from hv] at h1
        exact ⟨fun h5 => absurd h5 (by unfold s_o1; dsimp only; omega), fun _ => h1 v rfl⟩
    · rw [q_b2i_f h4, Bool.and_false]; rfl
theorem c_Md_squareAtA {n x : Nat} {cl : Nat → Bool} (hn : n ≤ 8) (hx : x < 256) {d : qD} {b : Nat} (e0 : d.1 t_Md 0 10 = (n : Int)) (ec : ∀ j, j < 256 → d.1 t_mInC 0 j = q_b2i (cl j)) : ∀ (f a : Nat), a + f = n + 1 → 1 ≤ a → q_Ev m_Md_squareAt 19 [q_r t_Md 0, q_i (x : Int), q_i (a : Int), none, none] [] (q_mk d b) (q_i (s_o1 (s_fst (fun a => s_fst (fun c => if q_hl x a && q_hl x c then s_mvc n cl x a c else none) (n - a - 1) (a + 2)) f a)), q_mk d b)
  | 0, a, h, ha => by
    refine e_Md_squareAt_19 ⟨fun _ => rfl, fun h3 => ?_⟩
    rw [e0] at h3; omega
  | f + 1, a, h, ha => by
    have heq : s_fst (fun c => if q_hl x a && q_hl x c then s_mvc n cl x a c else none) (n - a) (a + 1) = s_fst (fun c => if q_hl x a && q_hl x c then s_mvc n cl x a c else none) (n - a - 1) (a + 2) := by
      by_cases hq : a = n
      · rw [show n - a = 0 by omega]; rfl
      · rw [show n - a = (n - a - 1) + 1 by omega, s_fst]
        have : (if q_hl x a && q_hl x (a + 1) then s_mvc n cl x a (a + 1) else none) = none := by
          split
          · unfold s_mvc
            rw [show a + 1 - a - 1 = 0 by omega]; rfl
          · rfl
        rw [this, show n - a - 1 + 1 - 1 = n - a - 1 by omega]
    refine e_Md_squareAt_19 ⟨fun h3 => ?_, fun _ => ?_⟩
    · rw [e0] at h3; omega
    · rw [q_wS (by omega)]
      refine c_Md_squareAtC hn hx ha (by omega) e0 ec (n - a) (a + 1) (by omega) (by omega) (fun v hv => ?_) (fun hv => ?_)
      · rw [heq] at hv
        rw [s_fst, hv]; rfl
      · rw [heq] at hv
        rw [s_fst, hv]
        exact c_Md_squareAtA hn hx e0 ec f (a + 1) (by omega) (by omega)
theorem c_Md_squareAt {n : Nat} {K : Nat → Nat} {cl : Nat → Bool} {x : Int} (hn : n ≤ 8) (hx : q_can x) {d : qD} {b : Nat} (e0 : d.1 t_Md 0 10 = (n : Int)) (eN : s_row (d.1 t_mNeck 0) n K) (ec : ∀ j, j < 256 → d.1 t_mInC 0 j = q_b2i (cl j)) : q_Ev m_Md_squareAt 0 [q_r t_Md 0, q_i x, none, none, none] [] (q_mk d b) (q_i (s_o1 (s_mvx n K cl x)), q_mk d b) := by
  unfold s_mvx s_in
  refine e_Md_squareAt_0 ?_
  rw [q_l0, q_l255]
  refine ⟨_, _, c_Md_isIn hx (q_can_s (by decide) (by decide)) (q_can_s (by decide) (by decide)), e_Md_squareAt_5 ⟨fun h => ?_, fun h => ?_⟩⟩
  · have h2 := of_decide_eq_false (q_b2i_f h)
    rw [decide_eq_false (show ¬ (0 ≤ x ∧ x < 256) by omega), Bool.false_and, Bool.false_and]
    exact e_Md_squareAt_15 rfl
  · have h2 := of_decide_eq_true (q_b2i_t h)
    rw [decide_eq_true (show 0 ≤ x ∧ x < 256 by omega), Bool.true_and]
    obtain ⟨s, rfl⟩ : ∃ s : Nat, x = (s : Int) := ⟨x.toNat, by omega⟩
    rw [Int.toNat_natCast, ec s (by omega)]
    refine ⟨by omega, by omega, fun h3 => ?_, fun h3 => ⟨_, _, e_Md_isOfNeck_0 (c_Md_isOfNeckGo hn e0 eN n 1 (by omega) (by omega)), e_Md_squareAt_14 ⟨fun h4 => ?_, fun h4 => ?_⟩⟩⟩
    · rw [q_b2i_f h3]; exact e_Md_squareAt_15 rfl
    · rw [q_b2i_t h3, q_b2i_f h4]
      exact c_Md_squareAtA hn (by omega) e0 ec n 1 (by omega) (by omega)
    · rw [q_b2i_t h3, q_b2i_t h4]; exact e_Md_squareAt_15 rfl
theorem s_sqA_filter {P c : Nat → Bool} (h : ∀ s, P s = true → c s = true) (x : Int) : ∀ (L : List Nat) (m : Nat), s_sqA P (L.filter c) x m = s_sqA P L x m
  | [], m => rfl
  | s :: R, m => by
    have i1 := s_sqA_filter h x R m
    have i2 := s_sqA_filter h x R (m + 1)
    by_cases hc : c s = true
    · rw [List.filter_cons_of_pos hc, s_sqA, s_sqA, i1, i2]
    · have hP : P s = false := by
        cases hP : P s
        · rfl
        · exact absurd (h s hP) hc
      rw [List.filter_cons_of_neg hc, i1]
      conv => rhs; rw [s_sqA, hP, if_neg (by decide)]
theorem c_Md_squareGo {n : Nat} {K : Nat → Nat} {c : Nat → Bool} {x : Int} (hn : n ≤ 8) {d : qD} {b : Nat} (e0 : d.1 t_Md 0 10 = (n : Int)) (eN : s_row (d.1 t_mNeck 0) n K) (ec : ∀ j, j < 256 → d.1 t_mInC 0 j = q_b2i (c j)) : ∀ (f i m : Nat), i + f = 256 → m ≤ i → q_Ev m_Md_square 12 [q_r t_Md 0, q_i x, q_i (m : Int), q_i (i : Int)] [] (q_mk d b) (q_i (s_sqA (fun s => (s_mvx n K c (s : Int)).isSome) (List.range' i f) x m), q_mk d b)
  | 0, i, m, h, hm => by
    rw [List.range'_zero, s_sqA]
    refine e_Md_square_12 ⟨fun _ => ⟨fun h2 => ?_, fun h2 => ?_⟩, fun h2 => by omega⟩
    · rw [if_neg h2]; exact e_Md_square_34 rfl
    · rw [if_pos h2]; exact e_Md_square_34 rfl
  | f + 1, i, m, h, hm => by
    rw [List.range'_succ, s_sqA]
    refine e_Md_square_12 ⟨fun h2 => by omega, fun _ => ⟨_, _, c_Md_squareAt hn (q_can_s (by omega) (by omega)) e0 eN ec, e_Md_square_18 ?_⟩⟩
    cases hv : s_mvx n K c (i : Int) with
    | none =>
      refine ⟨fun h2 => absurd h2 (by decide), fun _ => e_Md_square_26 ?_⟩
      rw [q_wS (by omega)]
      exact c_Md_squareGo hn e0 eN ec f (i + 1) m (by omega) (by omega)
    | some v =>
      refine ⟨fun _ => ⟨fun h5 => e_Md_square_26 ?_, fun h5 => ?_⟩, fun h4 => absurd h4 (by unfold s_o1; dsimp only; omega)⟩
      · simp only [Option.isSome_some, if_true]
        rw [q_wS (by omega), q_wS (by omega), if_neg h5]
        exact c_Md_squareGo hn e0 eN ec f (i + 1) (m + 1) (by omega) (by omega)
      · simp only [Option.isSome_some, if_true]
        rw [if_pos h5]
theorem c_Md_square {n : Nat} {K : Nat → Nat} {c : Nat → Bool} {x : Int} (hn : n ≤ 8) {d : qD} {b : Nat} (e0 : d.1 t_Md 0 10 = (n : Int)) (eN : 0 < n → s_row (d.1 t_mNeck 0) n K) (ec : ∀ j, j < 256 → d.1 t_mInC 0 j = q_b2i (c j)) : q_Ev m_Md_square 0 [q_r t_Md 0, q_i x, none, none] [] (q_mk d b) (q_i (s_sqAll n K c x), q_mk d b) := by
  unfold s_sqAll
  refine e_Md_square_0 ⟨_, _, c_Md_isCell e0, e_Md_square_2 ⟨fun h => ?_, fun h => ⟨fun h2 => ?_, fun h2 => ?_⟩⟩⟩
  · have := of_decide_eq_false (q_b2i_f h)
    rw [if_pos (by omega)]; exact e_Md_square_6 rfl
  · have h3 := of_decide_eq_true (q_b2i_t h)
    rw [if_neg (by omega)]
    have := c_Md_squareGo (x := x) hn (b := b) e0 (eN h3) ec 256 0 0 rfl (Nat.le_refl 0)
    rw [← List.range_eq_range', ← s_sqA_filter (c := c)] at this
    · exact this
    · intro s hs
      cases hv : s_mvx n K c (s : Int) with
      | none => rw [hv] at hs; exact absurd hs (by decide)
      | some v =>
        obtain ⟨t, ht, _, h5, _⟩ := s_mvx_of hv
        have : s = t := by omega
        rw [this]; exact h5
  · rw [if_pos (by omega)]; exact e_Md_square_6 rfl
