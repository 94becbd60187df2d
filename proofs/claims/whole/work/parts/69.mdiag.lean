/-! the model lays a cell's diagram -/
theorem c_Md_shape0 {fs n : Nat} {b : Nat} : ∀ (f k : Nat) (d : qD), k + f = 81 → (∀ m, m < k → d.1 t_mBoxes 0 m = 0) → ∃ d', q_ag [t_mBoxes] d d' ∧ (∀ m, m < 81 → d'.1 t_mBoxes 0 m = 0) ∧ ∀ r, q_Ev m_Md_laysShape 14 [q_r t_Md 0, q_i (fs : Int), q_i (n : Int), q_i 1, none] [] (q_mk d' b) r → q_Ev m_Md_laysShape 2 [q_r t_Md 0, q_i (fs : Int), q_i (n : Int), q_i (k : Int), none] [] (q_mk d b) r
  | 0, k, d, h, e => ⟨d, q_ag_refl _ _, fun m hm => e m (by omega), fun r hr => e_Md_laysShape_2 ⟨fun _ => hr, fun h2 => by omega⟩⟩
  | f + 1, k, d, h, e => by
    obtain ⟨d', a, r1, r2⟩ := c_Md_shape0 (fs := fs) (n := n) (b := b) f (k + 1) (q_sI d t_mBoxes 0 k 0) (by omega) (by
      intro m hm
      rw [q_sI_at]
      by_cases hq : m = k
      · subst hq; rw [q_up_at]
      · rw [q_up_ne _ _ hq]; exact e m (by omega))
    refine ⟨d', q_ag_tr (q_ag_sI (by decide)) a, r1, fun r hr => e_Md_laysShape_2 ⟨fun h2 => by omega, fun _ => ⟨by omega, by omega, ?_⟩⟩⟩
    rw [q_wS (by omega), Int.toNat_natCast]; exact r2 r hr
/-- the shape so far -/
def s_shp (n fs i j : Nat) (g : Nat → Int) : Prop := ∀ u v, 1 ≤ u → u ≤ n → 1 ≤ v → v ≤ n → g (9 * u + v) = if (u < i ∨ (u = i ∧ v < j)) ∧ s_box fs u v = true then 1 else 0
theorem c_Md_shapeJ {fs n i : Nat} (hn : n ≤ 8) (hf : fs < 256) (hi : 1 ≤ i) (hin : i ≤ n) {b : Nat} : ∀ (f j : Nat) (d : qD), j + f = n + 1 → i < j → s_shp n fs i j (d.1 t_mBoxes 0) → ∃ d', q_ag [t_mBoxes] d d' ∧ s_shp n fs (i + 1) 0 (d'.1 t_mBoxes 0) ∧ ∀ r, q_Ev m_Md_laysShape 14 [q_r t_Md 0, q_i (fs : Int), q_i (n : Int), q_i ((i + 1 : Nat) : Int), none] [] (q_mk d' b) r → q_Ev m_Md_laysShape 21 [q_r t_Md 0, q_i (fs : Int), q_i (n : Int), q_i (i : Int), q_i (j : Int)] [] (q_mk d b) r
  | 0, j, d, h, hj, e => by
    refine ⟨d, q_ag_refl _ _, fun u v h1 h2 h3 h4 => ?_, fun r hr => e_Md_laysShape_21 ⟨fun _ => ?_, fun h2 => by omega⟩⟩
    · rw [e u v h1 h2 h3 h4]
      congr 1
      exact propext ⟨fun hh => ⟨by omega, hh.2⟩, fun hh => ⟨by omega, hh.2⟩⟩
    · rw [q_wS (by omega)]; exact hr
  | f + 1, j, d, h, hj, e => by
    have st : ∀ d1, s_shp n fs i (j + 1) (d1.1 t_mBoxes 0) → q_ag [t_mBoxes] d d1 → (∀ r, q_Ev m_Md_laysShape 41 [q_r t_Md 0, q_i (fs : Int), q_i (n : Int), q_i (i : Int), q_i (j : Int)] [] (q_mk d1 b) r → q_Ev m_Md_laysShape 21 [q_r t_Md 0, q_i (fs : Int), q_i (n : Int), q_i (i : Int), q_i (j : Int)] [] (q_mk d b) r) → ∃ d', q_ag [t_mBoxes] d d' ∧ s_shp n fs (i + 1) 0 (d'.1 t_mBoxes 0) ∧ ∀ r, q_Ev m_Md_laysShape 14 [q_r t_Md 0, q_i (fs : Int), q_i (n : Int), q_i ((i + 1 : Nat) : Int), none] [] (q_mk d' b) r → q_Ev m_Md_laysShape 21 [q_r t_Md 0, q_i (fs : Int), q_i (n : Int), q_i (i : Int), q_i (j : Int)] [] (q_mk d b) r := by
      intro d1 e1 a1 k1
      obtain ⟨d', a, r1, r2⟩ := c_Md_shapeJ hn hf hi hin (b := b) f (j + 1) d1 (by omega) (by omega) e1
      refine ⟨d', q_ag_tr a1 a, r1, fun r hr => k1 r (e_Md_laysShape_41 ?_)⟩
      rw [q_wS (by omega)]; exact r2 r hr
    have h1 := c_Md_has (s := fs) (l := i) (by omega) hi (by omega) (d := d) (b := b)
    have h2 := c_Md_has (s := fs) (l := j) (by omega) (by omega) (by omega) (d := d) (b := b)
    by_cases hbx : s_box fs i j = true
    · obtain ⟨_, hr, hc⟩ := s_box_rc hbx
      refine st (q_sI d t_mBoxes 0 (9 * i + j) 1) (fun u v u1 u2 v1 v2 => ?_) (q_ag_sI (by decide)) (fun r hr2 => e_Md_laysShape_21 ⟨fun hh => by omega, fun _ => ⟨_, _, h1, e_Md_laysShape_27 ⟨fun hh => ?_, fun _ => ⟨_, _, h2, e_Md_laysShape_31 ⟨fun hh => ?_, fun _ => ?_⟩⟩⟩⟩⟩)
      · rw [q_sI_at]
        by_cases hq : 9 * u + v = 9 * i + j
        · have hui : u = i := by omega
          have hvj : v = j := by omega
          rw [hq, q_up_at, hui, hvj, if_pos ⟨by omega, hbx⟩]
        · rw [q_up_ne _ _ hq, e u v u1 u2 v1 v2]
          congr 1
          exact propext ⟨fun hh => ⟨by omega, hh.2⟩, fun hh => ⟨by omega, hh.2⟩⟩
      · rw [hr] at hh; exact absurd hh (by decide)
      · rw [hc] at hh; exact absurd rfl hh
      · rw [s_9 (by omega) (by omega), Int.toNat_natCast]
        exact ⟨by omega, by omega, hr2⟩
    · refine st d (fun u v u1 u2 v1 v2 => ?_) (q_ag_refl _ _) (fun r hr2 => e_Md_laysShape_21 ⟨fun hh => by omega, fun _ => ⟨_, _, h1, e_Md_laysShape_27 ⟨fun _ => hr2, fun hh => ⟨_, _, h2, e_Md_laysShape_31 ⟨fun _ => hr2, fun hh2 => ?_⟩⟩⟩⟩⟩)
      · rw [e u v u1 u2 v1 v2]
        congr 1
        refine propext ⟨fun hh => ⟨by omega, hh.2⟩, fun hh => ⟨?_, hh.2⟩⟩
        by_cases hq : u = i ∧ v = j
        · rw [hq.1, hq.2] at hh; exact absurd hh.2 hbx
        · omega
      · refine absurd ?_ hbx
        unfold s_box
        rw [decide_eq_true hj, q_b2i_t hh, q_b2i_f hh2]; rfl
theorem c_Md_shapeI {fs n : Nat} (hn : n ≤ 8) (hf : fs < 256) {b : Nat} : ∀ (f i : Nat) (d : qD), i + f = n + 1 → 1 ≤ i → s_shp n fs i 0 (d.1 t_mBoxes 0) → ∃ d', q_Ev m_Md_laysShape 14 [q_r t_Md 0, q_i (fs : Int), q_i (n : Int), q_i (i : Int), none] [] (q_mk d b) (none, q_mk d' b) ∧ q_ag [t_mBoxes] d d' ∧ s_shp n fs (n + 1) 0 (d'.1 t_mBoxes 0)
  | 0, i, d, h, hi, e => by
    have : i = n + 1 := by omega
    subst this
    exact ⟨d, e_Md_laysShape_14 ⟨fun _ => rfl, fun h2 => by omega⟩, q_ag_refl _ _, e⟩
  | f + 1, i, d, h, hi, e => by
    obtain ⟨d1, a1, r1, k1⟩ := c_Md_shapeJ hn hf hi (show i ≤ n by omega) (b := b) (n - i) (i + 1) d (by omega) (by omega) (fun u v u1 u2 v1 v2 => by
      rw [e u v u1 u2 v1 v2]
      congr 1
      refine propext ⟨fun hh => ⟨by omega, hh.2⟩, fun hh => ⟨?_, hh.2⟩⟩
      have := (s_box_rc hh.2).1
      omega)
    obtain ⟨d', v, a, r2⟩ := c_Md_shapeI hn hf (b := b) f (i + 1) d1 (by omega) (by omega) r1
    refine ⟨d', e_Md_laysShape_14 ⟨fun h2 => by omega, fun _ => ?_⟩, q_ag_tr a1 a, r2⟩
    rw [q_wS (by omega)]; exact k1 _ v
theorem c_Md_laysShape {fs n : Nat} (hn : n ≤ 8) (hf : fs < 256) {d : qD} {b : Nat} : ∃ d', q_Ev m_Md_laysShape 0 [q_r t_Md 0, q_i (fs : Int), q_i (n : Int), none, none] [] (q_mk d b) (none, q_mk d' b) ∧ q_ag [t_mBoxes] d d' ∧ s_Bx n fs (fun _ => 0) d' := by
  obtain ⟨d1, a1, r1, k1⟩ := c_Md_shape0 (fs := fs) (n := n) (b := b) 81 0 d rfl (fun m hm => by omega)
  obtain ⟨d', v, a, r2⟩ := c_Md_shapeI hn hf (b := b) n 1 d1 (by omega) (by omega) (fun u v u1 u2 v1 v2 => by
    rw [r1 _ (by omega), if_neg (fun hh => by omega)])
  refine ⟨d', e_Md_laysShape_0 (k1 _ v), q_ag_tr a1 a, fun i j i1 i2 j1 j2 => ?_⟩
  rw [r2 i j i1 i2 j1 j2]
  unfold s_bxv
  rw [show q_hl 0 j = false from Nat.zero_testBit _]
  by_cases hq : s_box fs i j = true
  · rw [if_pos ⟨by omega, hq⟩, if_pos hq]; rfl
  · rw [if_neg (fun hh => hq hh.2), if_neg hq]
/-- the diagram with what the thresholds of a kind join -/
def s_dg (n : Nat) (F : Nat → Nat) (D : Nat → Nat → Prop) (g : Nat → Int) : Prop := ∀ i j, 1 ≤ i → i ≤ n → 1 ≤ j → j ≤ n → (s_box (s_n1 n F n) i j = true → (g (9 * i + j) = 2 ∧ ∃ m, m < n ∧ D m i ∧ s_mt n F m i j) ∨ (g (9 * i + j) = 1 ∧ ¬ ∃ m, m < n ∧ D m i ∧ s_mt n F m i j)) ∧ (s_box (s_n1 n F n) i j = false → g (9 * i + j) = 0)
theorem s_dg_box {n i j : Nat} {F : Nat → Nat} {D : Nat → Nat → Prop} {d : qD} (hn : n ≤ 8) (hi : 1 ≤ i) (hin : i ≤ n) (hj : 1 ≤ j) (hjn : j ≤ n) {b : Nat} (e : s_dg n F D (d.1 t_mBoxes 0)) : q_Ev m_Md_isBox 0 [q_r t_Md 0, q_i (i : Int), q_i (j : Int)] [] (q_mk d b) (q_i (q_b2i (s_box (s_n1 n F n) i j)), q_mk d b) := by
  have := e i j hi hin hj hjn
  refine e_Md_isBox_0 ?_
  rw [s_9 (by omega) (by omega), Int.toNat_natCast]
  refine ⟨by omega, by omega, fun h => ?_, fun h => ?_⟩
  · cases hb : s_box (s_n1 n F n) i j
    · exact e_Md_isBox_12 ⟨by decide, by decide, rfl⟩
    · rcases this.1 hb with ⟨h1, _⟩ | ⟨h1, _⟩ <;> omega
  · cases hb : s_box (s_n1 n F n) i j
    · have := this.2 hb; omega
    · exact e_Md_isBox_12 ⟨by decide, by decide, rfl⟩
theorem c_Md_hookFind {n m hh : Nat} {F : Nat → Nat} {b : Nat} (hn : n ≤ 8) (hc : s_come n F m < 256) {d : qD} {x1 : Int} : ∀ (f j t : Nat), j + f = t → 1 ≤ j → t ≤ n → q_hl (s_come n F m) t = true → (∀ l, j ≤ l → l < t → q_hl (s_come n F m) l = false) → ∀ r, (∃ v w2, q_Ev m_Md_isBox 0 [q_r t_Md 0, q_i (hh : Int), q_i (t : Int)] [] (q_mk d b) (v, w2) ∧ q_Ev m_Md_laysDiagram 60 [q_r t_Md 0, q_i x1, q_i (s_gone n F m : Int), q_i (s_come n F m : Int), q_i (t : Int), q_i (hh : Int)] (v.toList ++ []) w2 r) → q_Ev m_Md_laysDiagram 50 [q_r t_Md 0, q_i x1, q_i (s_gone n F m : Int), q_i (s_come n F m : Int), q_i (j : Int), q_i (hh : Int)] [] (q_mk d b) r
  | 0, j, t, h, hj, ht, hct, hno, r, hr => by
    have : j = t := by omega
    subst this
    have hb := c_Md_has (s := s_come n F m) (l := j) (by omega) hj (by omega) (d := d) (b := b)
    rw [hct] at hb
    exact e_Md_laysDiagram_50 ⟨_, _, hb, e_Md_laysDiagram_53 ⟨fun _ => hr, fun h2 => absurd h2 (by decide)⟩⟩
  | f + 1, j, t, h, hj, ht, hct, hno, r, hr => by
    have hb := c_Md_has (s := s_come n F m) (l := j) (by omega) hj (by omega) (d := d) (b := b)
    rw [hno j (Nat.le_refl j) (by omega)] at hb
    refine e_Md_laysDiagram_50 ⟨_, _, hb, e_Md_laysDiagram_53 ⟨fun h2 => absurd rfl h2, fun _ => ?_⟩⟩
    rw [q_wS (by omega)]
    exact c_Md_hookFind hn hc f (j + 1) t (by omega) (by omega) ht hct (fun l h1 h2 => hno l (by omega) h2) r hr
theorem s_nextCome {s : Nat} : ∀ (f j c : Nat), s_pcTo s (j - 1) = c → 1 ≤ j → c < s_pcTo s (j - 1 + f) → ∃ t, j ≤ t ∧ t ≤ j - 1 + f ∧ q_hl s t = true ∧ s_pcTo s t = c + 1 ∧ ∀ l, j ≤ l → l < t → q_hl s l = false
  | 0, j, c, h, hj, hlt => by rw [Nat.add_zero, h] at hlt; omega
  | f + 1, j, c, h, hj, hlt => by
    have hs := s_pcTo_s s (j - 1)
    rw [show j - 1 + 1 = j by omega] at hs
    by_cases hq : q_hl s j = true
    · rw [hq] at hs
      exact ⟨j, Nat.le_refl j, by omega, hq, by rw [hs, h]; rfl, fun l h1 h2 => by omega⟩
    · have hq2 : q_hl s j = false := by simpa using hq
      rw [hq2] at hs
      obtain ⟨t, t1, t2, t3, t4, t5⟩ := s_nextCome f (j + 1) c (by rw [show j + 1 - 1 = j by omega, hs, h]; rfl) (by omega) (by rw [show j + 1 - 1 + f = j - 1 + (f + 1) by omega]; exact hlt)
      refine ⟨t, by omega, by omega, t3, t4, fun l h1 h2 => ?_⟩
      by_cases hl : l = j
      · rw [hl]; exact hq2
      · exact t5 l (by omega) h2
theorem c_Md_hookH {n m : Nat} {F : Nat → Nat} (h : s_ok n F) (hm : m < n) (hm1 : 1 ≤ m) {b : Nat} : ∀ (k j : Nat) (d : qD), k ≤ n → 1 ≤ j → s_pcTo (s_come n F m) (j - 1) + s_pcTo (s_gone n F m) k = s_pcTo (s_gone n F m) 8 → s_dg n F (fun m' i => m' < m ∨ (m' = m ∧ k < i)) (d.1 t_mBoxes 0) → ∃ d', q_ag [t_mBoxes] d d' ∧ s_dg n F (fun m' _ => m' < m + 1) (d'.1 t_mBoxes 0) ∧ ∀ r, q_Ev m_Md_laysDiagram 10 [q_r t_Md 0, q_i ((m + 2 : Nat) : Int), none, none, none, none] [] (q_mk d' b) r → q_Ev m_Md_laysDiagram 43 [q_r t_Md 0, q_i ((m + 1 : Nat) : Int), q_i (s_gone n F m : Int), q_i (s_come n F m : Int), q_i (j : Int), q_i (k : Int)] [] (q_mk d b) r := by
  have hb := s_ok_bd h
  have hn := hb.1
  have hp := s_p8 hn
  have hg8 := s_gone_lt hb m
  have hc8 := s_come_lt hb hm
  obtain ⟨g3, g4, k3, k4, k5⟩ := s_cnts h hm
  intro k
  induction k with
  | zero =>
    intro j d hk hj hcnt e
    refine ⟨d, q_ag_refl _ _, ?_, fun r hr => e_Md_laysDiagram_43 ⟨fun _ => ?_, fun h2 => by omega⟩⟩
    · intro u v u1 u2 v1 v2
      have := e u v u1 u2 v1 v2
      refine ⟨fun hbx => ?_, this.2⟩
      have e2 : (∃ m', m' < n ∧ m' < m + 1 ∧ s_mt n F m' u v) ↔ (∃ m', m' < n ∧ (m' < m ∨ (m' = m ∧ 0 < u)) ∧ s_mt n F m' u v) :=
        ⟨fun ⟨m', a1, a2, a3⟩ => ⟨m', a1, by omega, a3⟩, fun ⟨m', a1, a2, a3⟩ => ⟨m', a1, by omega, a3⟩⟩
      rw [e2]
      exact this.1 hbx
    · rw [q_wS (by omega)]; exact hr
  | succ k ih =>
    intro j d hk hj hcnt e
    have gs := s_pcTo_s (s_gone n F m) k
    have hh := c_Md_has (s := s_gone n F m) (l := k + 1) (by omega) (by omega) (by omega) (d := d) (b := b)
    have dn : q_w (((k + 1 : Nat) : Int) + (-1)) = (k : Int) := by rw [q_w_id (by omega) (by omega)]; omega
    by_cases hg : q_hl (s_gone n F m) (k + 1) = true
    · rw [hg] at hh gs
      rw [Bool.toNat_true] at gs
      have gle := g3 (k + 1) (by omega)
      have hgk := (s_gone_hl h hm (show 1 ≤ k + 1 by omega) hk).mp hg
      have hjn : j - 1 ≤ n := by
        by_cases hq : j - 1 ≤ n
        · exact hq
        · have := s_pcTo_mono (s_come n F m) (j - 1 - n) n
          rw [show n + (j - 1 - n) = j - 1 by omega, k5] at this
          omega
      obtain ⟨t, t1, t2, t3, t4, t5⟩ := s_nextCome (s := s_come n F m) (n - (j - 1)) j (s_pcTo (s_come n F m) (j - 1)) rfl hj (by rw [show j - 1 + (n - (j - 1)) = n by omega, k5]; omega)
      have htn : t ≤ n := by omega
      have hct := (s_come_hl h hm (show 1 ≤ t by omega) htn).mp t3
      have hbx : s_box (s_n1 n F n) (k + 1) t = true := (s_box_iff h (by omega) (by omega) htn).mpr ⟨hgk.1, hct.1⟩
      have hmt : s_mt n F m (k + 1) t := ⟨hg, t3, by rw [show k + 1 - 1 = k by omega]; omega⟩
      have uniq : ∀ v, 1 ≤ v → v ≤ n → s_mt n F m (k + 1) v → v = t := by
        intro v v1 v2 ⟨_, q2, q3⟩
        rw [show k + 1 - 1 = k by omega] at q3
        have hv := s_pcTo_s (s_come n F m) (v - 1)
        have htt := s_pcTo_s (s_come n F m) (t - 1)
        rw [show v - 1 + 1 = v by omega, q2, Bool.toNat_true] at hv
        rw [show t - 1 + 1 = t by omega, t3, Bool.toNat_true] at htt
        by_cases hlt : v < t
        · have := s_pcTo_mono (s_come n F m) (t - 1 - v) v
          rw [show v + (t - 1 - v) = t - 1 by omega] at this
          omega
        · by_cases hlt2 : t < v
          · have := s_pcTo_mono (s_come n F m) (v - 1 - t) t
            rw [show t + (v - 1 - t) = v - 1 by omega] at this
            omega
          · omega
      obtain ⟨d', a, r1, r2⟩ := ih (t + 1) (q_sI d t_mBoxes 0 (9 * (k + 1) + t) 2) (by omega) (by omega) (by rw [show t + 1 - 1 = t by omega]; omega) (by
        intro u v u1 u2 v1 v2
        rw [q_sI_at]
        have eu := e u v u1 u2 v1 v2
        by_cases hq : 9 * u + v = 9 * (k + 1) + t
        · have hu : u = k + 1 := by omega
          have hv : v = t := by omega
          rw [hq, q_up_at, hu, hv]
          exact ⟨fun _ => Or.inl ⟨rfl, m, hm, Or.inr ⟨rfl, by omega⟩, hmt⟩, fun hf => by rw [hbx] at hf; exact absurd hf (by decide)⟩
        · rw [q_up_ne _ _ hq]
          refine ⟨fun hbx2 => ?_, eu.2⟩
          have e2 : (∃ m', m' < n ∧ (m' < m ∨ (m' = m ∧ k < u)) ∧ s_mt n F m' u v) ↔ (∃ m', m' < n ∧ (m' < m ∨ (m' = m ∧ k + 1 < u)) ∧ s_mt n F m' u v) := by
            refine ⟨fun ⟨m', a1, a2, a3⟩ => ⟨m', a1, ?_, a3⟩, fun ⟨m', a1, a2, a3⟩ => ⟨m', a1, by omega, a3⟩⟩
            by_cases hx : m' = m ∧ u = k + 1
            · rw [hx.1, hx.2] at a3
              have := uniq v v1 v2 a3
              exfalso; apply hq; rw [hx.2, this]
            · omega
          rw [e2]
          exact eu.1 hbx2)
      refine ⟨d', q_ag_tr (q_ag_sI (by decide)) a, r1, fun r hr => e_Md_laysDiagram_43 ⟨fun h2 => by omega, fun _ => ⟨_, _, hh, e_Md_laysDiagram_48 ⟨fun _ => ?_, fun h2 => absurd h2 (by decide)⟩⟩⟩⟩
      have ib := s_dg_box (i := k + 1) (j := t) hn (by omega) hk (by omega) htn (b := b) e
      rw [hbx] at ib
      refine c_Md_hookFind hn (by omega) (t - j) j t (by omega) hj htn t3 t5 r ⟨_, _, ib, e_Md_laysDiagram_60 ⟨fun h2 => absurd h2 (by decide), fun _ => ?_⟩⟩
      rw [s_9 (by omega) (by omega), Int.toNat_natCast]
      refine ⟨by omega, by omega, e_Md_laysDiagram_70 (e_Md_laysDiagram_71 ?_)⟩
      rw [dn, q_wS (by omega)]
      exact r2 r hr
    · have hg2 : q_hl (s_gone n F m) (k + 1) = false := by simpa using hg
      rw [hg2] at hh gs
      rw [Bool.toNat_false] at gs
      obtain ⟨d', a, r1, r2⟩ := ih j d (by omega) hj (by omega) (by
        intro u v u1 u2 v1 v2
        have eu := e u v u1 u2 v1 v2
        refine ⟨fun hbx2 => ?_, eu.2⟩
        have e2 : (∃ m', m' < n ∧ (m' < m ∨ (m' = m ∧ k < u)) ∧ s_mt n F m' u v) ↔ (∃ m', m' < n ∧ (m' < m ∨ (m' = m ∧ k + 1 < u)) ∧ s_mt n F m' u v) := by
          refine ⟨fun ⟨m', a1, a2, a3⟩ => ⟨m', a1, ?_, a3⟩, fun ⟨m', a1, a2, a3⟩ => ⟨m', a1, by omega, a3⟩⟩
          by_cases hx : m' = m ∧ u = k + 1
          · rw [hx.1, hx.2] at a3
            exact absurd a3.1 hg
          · omega
        rw [e2]
        exact eu.1 hbx2)
      refine ⟨d', a, r1, fun r hr => e_Md_laysDiagram_43 ⟨fun h2 => by omega, fun _ => ⟨_, _, hh, e_Md_laysDiagram_48 ⟨fun h2 => absurd rfl h2, fun _ => e_Md_laysDiagram_71 ?_⟩⟩⟩⟩
      rw [dn]
      exact r2 r hr
theorem c_Md_hooks {n : Nat} {F : Nat → Nat} (h : s_ok n F) {b : Nat} : ∀ (f m : Nat) (d : qD), m + f = n → 1 ≤ m → d.1 t_Md 0 10 = (n : Int) → s_row (d.1 t_mNeck 0) n (s_nk n F) → s_dg n F (fun m' _ => m' < m) (d.1 t_mBoxes 0) → ∃ d', q_ag [t_mBoxes] d d' ∧ s_dg n F (fun m' _ => m' < n) (d'.1 t_mBoxes 0) ∧ ∀ r, q_Ev m_Md_laysDiagram 10 [q_r t_Md 0, q_i ((n + 1 : Nat) : Int), none, none, none, none] [] (q_mk d' b) r → q_Ev m_Md_laysDiagram 10 [q_r t_Md 0, q_i ((m + 1 : Nat) : Int), none, none, none, none] [] (q_mk d b) r
  | 0, m, d, hm, h1, e0, eN, e => by
    have : m = n := by omega
    subst this
    exact ⟨d, q_ag_refl _ _, e, fun r hr => hr⟩
  | f + 1, m, d, hm, h1, e0, eN, e => by
    have hb := s_ok_bd h
    have hn := hb.1
    have hp := s_p8 hn
    obtain ⟨g3, g4, k3, k4, k5⟩ := s_cnts h (show m < n by omega)
    obtain ⟨d1, a1, r1, k1⟩ := c_Md_hookH h (show m < n by omega) h1 (b := b) n 1 d (Nat.le_refl n) (Nat.le_refl 1) (by rw [g4 n (by omega) (Nat.le_refl n), show (1 : Nat) - 1 = 0 from rfl, k4 0 (by omega)]; omega) (by
      intro u v u1 u2 v1 v2
      have eu := e u v u1 u2 v1 v2
      refine ⟨fun hbx2 => ?_, eu.2⟩
      have e2 : (∃ m', m' < n ∧ (m' < m ∨ (m' = m ∧ n < u)) ∧ s_mt n F m' u v) ↔ (∃ m', m' < n ∧ m' < m ∧ s_mt n F m' u v) :=
        ⟨fun ⟨m', a1, a2, a3⟩ => ⟨m', a1, by omega, a3⟩, fun ⟨m', a1, a2, a3⟩ => ⟨m', a1, by omega, a3⟩⟩
      rw [e2]
      exact eu.1 hbx2)
    obtain ⟨d', a, r2, k2⟩ := c_Md_hooks h (b := b) f (m + 1) d1 (by omega) (by omega) (by rw [a1.1 t_Md (by decide), e0]) (by rw [a1.1 t_mNeck (by decide)]; exact eN) r1
    have l1 : s_nk n F 1 < 2 ^ n := s_nk_ltn hb 0 (by omega)
    have l2 := s_nk_ltn hb m (by omega)
    refine ⟨d', q_ag_tr a1 a, r2, fun r hr => e_Md_laysDiagram_10 ⟨fun h2 => ?_, fun _ => ⟨by decide, by decide, by omega, by omega, by omega, by omega, by decide, by decide, ?_⟩⟩⟩
    · rw [e0] at h2; omega
    · rw [show (1 : Int).toNat = 1 from rfl, Int.toNat_natCast, eN 1 (by omega) (by omega), eN (m + 1) (by omega) (by omega), q_andn_nat (by omega) (by omega), q_andn_nat (by omega) (by omega), e0]
      exact k1 r (k2 r hr)
theorem c_Md_laysDiagram {n : Nat} {F : Nat → Nat} (h : s_ok n F) {d : qD} {b : Nat} (e0 : d.1 t_Md 0 10 = (n : Int)) (eF : s_row (d.1 t_mF 0) n F) (eN : s_row (d.1 t_mNeck 0) n (s_nk n F)) : ∃ d', q_Ev m_Md_laysDiagram 0 [q_r t_Md 0, none, none, none, none, none] [] (q_mk d b) (none, q_mk d' b) ∧ q_ag [t_mBoxes] d d' ∧ s_Bx n (s_n1 n F n) (s_plus n F) d' := by
  have hb := s_ok_bd h
  have hn := hb.1
  have h2 := h.1
  have hlt := s_n1_lt hb n (Nat.le_refl n)
  obtain ⟨d1, v1, a1, r1⟩ := c_Md_laysShape (fs := s_n1 n F n) hn hlt (d := d) (b := b)
  obtain ⟨d2, a2, r2, k2⟩ := c_Md_hooks h (b := b) (n - 1) 1 d1 (by omega) (Nat.le_refl 1) (by rw [a1.1 t_Md (by decide), e0]) (by rw [a1.1 t_mNeck (by decide)]; exact eN) (by
    intro i j i1 i2 j1 j2
    have := r1 i j i1 i2 j1 j2
    unfold s_bxv at this
    rw [show q_hl 0 j = false from Nat.zero_testBit _] at this
    refine ⟨fun hbx => Or.inr ⟨?_, fun ⟨m', q1, q2, q3⟩ => ?_⟩, fun hbx => ?_⟩
    · rw [this, if_pos hbx]; rfl
    · have := (s_gone_hl h q1 i1 i2).mp q3.1
      omega
    · rw [this, hbx]; rfl)
  have r3 : s_Bx n (s_n1 n F n) (s_plus n F) d2 := by
    intro i j i1 i2 j1 j2
    have eu := r2 i j i1 i2 j1 j2
    unfold s_bxv
    cases hbx : s_box (s_n1 n F n) i j
    · exact eu.2 hbx
    · have hij := (s_box_rc hbx).1
      rw [if_pos rfl]
      rcases eu.1 hbx with ⟨g1, m', q1, q2, q3⟩ | ⟨g1, g2⟩
      · rw [if_pos ((s_plus_mt h i1 i2 j1).mpr ⟨hij, j2, hbx, m', q1, q3⟩)]; exact g1
      · rw [if_neg (fun hh => g2 (by
          obtain ⟨_, _, _, m', q1, q2⟩ := (s_plus_mt h i1 i2 j1).mp hh
          exact ⟨m', q1, q1, q2⟩))]; exact g1
  have e20 : d2.1 t_Md 0 10 = (n : Int) := by rw [a2.1 t_Md (by decide), a1.1 t_Md (by decide), e0]
  refine ⟨d2, e_Md_laysDiagram_0 ⟨by decide, by decide, ?_⟩, q_ag_tr a1 a2, r3⟩
  rw [show (1 : Int).toNat = 1 from rfl, eN 1 (by omega) (by omega), e0, s_nk_1]
  refine ⟨_, _, v1, e_Md_laysDiagram_8 (k2 _ (e_Md_laysDiagram_10 ⟨fun _ => ⟨_, _, e_Md_isOwnDiagram_0 (c_Md_isOwnGo h e20 (by rw [a2.1 t_mF (by decide), a1.1 t_mF (by decide)]; exact eF) (by rw [a2.1 t_mNeck (by decide), a1.1 t_mNeck (by decide), eN 1 (by omega) (by omega), s_nk_1]) r3 n 1 (by omega) (by omega)), e_Md_laysDiagram_77 ⟨fun _ => e_Md_laysDiagram_80 rfl, fun hh => absurd hh (by decide)⟩⟩, fun hh => ?_⟩))⟩
  rw [e20] at hh; omega
