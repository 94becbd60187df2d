/-! drawFor as a whole -/
/-- who comes out at a label, of the first i -/
def s_src (n : Nat) (F : Nat → Nat) : Nat → Nat → Nat
  | 0, _ => 0
  | i + 1, w => if w = s_tg n (F (i + 1)) then i + 1 else s_src n F i w
def s_sur (n : Nat) (F : Nat → Nat) : Prop := ∀ w, 1 ≤ w → w ≤ n → ∃ i, 1 ≤ i ∧ i ≤ n ∧ s_tg n (F i) = w
/-- the + of a cell's diagram, by rows -/
def s_plus (n : Nat) (F : Nat → Nat) (i : Nat) : Nat := s_dp (s_n1 n F n) n (s_src n F n) i
theorem c_Di_drawGo {c n : Nat} {F : Nat → Nat} (hb : s_bd n F) {b : Nat} : ∀ (f i : Nat) (d : qD), i + f = n → d.1 t_Di c 0 = (n : Int) → s_row (d.1 t_img 0) n F → (∀ w, (∃ k, 1 ≤ k ∧ k ≤ i ∧ s_tg n (F k) = w) → d.1 t_atLeft c w = (s_src n F i w : Int) ∧ d.1 t_atTop c w = (s_src n F i w : Int)) → ∃ d', (∀ r, q_Ev m_Di_drawFor 48 [some (.inr (.inr (t_Di, c))), none, some (.inl 1), none, none] [] (q_mk d' b) r → q_Ev m_Di_drawFor 10 [some (.inr (.inr (t_Di, c))), some (.inr (.inr (t_Ce, 0))), some (.inl ((i + 1 : Nat) : Int)), none, none] [] (q_mk d b) r) ∧ q_ag [t_atLeft, t_atTop] d d' ∧ (∀ w, (∃ k, 1 ≤ k ∧ k ≤ n ∧ s_tg n (F k) = w) → d'.1 t_atLeft c w = (s_src n F n w : Int) ∧ d'.1 t_atTop c w = (s_src n F n w : Int)) := by
  intro f
  have hn := hb.1
  induction f with
  | zero =>
    intro i d hi e0 eF hw
    have : i = n := by omega
    subst this
    refine ⟨d, fun r h => e_Di_drawFor_10 ⟨fun _ => h, fun h2 => ?_⟩, q_ag_refl _ _, hw⟩
    rw [e0] at h2; omega
  | succ f ih =>
    intro i d hi e0 eF hw
    have hB := hb.2 (i + 1) (by omega) (by omega)
    have ht := s_tg_le hb (i := i + 1) (by omega) (by omega)
    have hF := eF (i + 1) (by omega) (by omega)
    obtain ⟨d', v, a, r⟩ := ih (i + 1) (q_sI (q_sI d t_atLeft c (s_tg n (F (i + 1))) ((i + 1 : Nat) : Int)) t_atTop c (s_tg n (F (i + 1))) ((i + 1 : Nat) : Int)) (by omega)
      (by rw [q_sI_row, q_sR_ne _ _ (by decide), q_sI_row, q_sR_ne _ _ (by decide), e0])
      (by rw [q_sI_row, q_sR_ne _ _ (by decide), q_sI_row, q_sR_ne _ _ (by decide)]; exact eF)
      (by
        intro w hk
        rw [q_sI_row (t := t_atTop), q_sR_row, q_sR_ne _ _ (by decide), q_sI_row, q_sR_row, q_sR_ne _ _ (by decide)]
        by_cases hq : w = s_tg n (F (i + 1))
        · subst hq
          rw [q_up_at, q_up_at, s_src, if_pos rfl]
          exact ⟨rfl, rfl⟩
        · rw [q_up_ne _ _ hq, q_up_ne _ _ hq, s_src, if_neg hq]
          obtain ⟨k, h1, h2, h3⟩ := hk
          refine hw w ⟨k, h1, ?_, h3⟩
          by_cases hk1 : k = i + 1
          · subst hk1; exact absurd h3.symm hq
          · omega)
    refine ⟨d', fun r h => ?_, q_ag_tr (q_ag_tr (q_ag_sI (by decide)) (q_ag_sI (by decide))) a, r⟩
    have k33 : q_Ev m_Di_drawFor 33 [some (.inr (.inr (t_Di, c))), some (.inr (.inr (t_Ce, 0))), some (.inl ((i + 1 : Nat) : Int)), none, none] [.inl (s_tg n (F (i + 1)) : Int)] (q_mk d b) r := by
      refine e_Di_drawFor_33 ⟨by omega, by omega, by omega, by omega, ?_⟩
      rw [q_wS (by omega), Int.toNat_natCast]
      exact v r h
    refine e_Di_drawFor_10 ⟨fun h2 => ?_, fun _ => ⟨by omega, by omega, ?_⟩⟩
    · rw [e0] at h2; omega
    · rw [Int.toNat_natCast, hF, e0]
      refine ⟨fun h2 => ⟨by omega, by omega, ?_⟩, fun h2 => ⟨by omega, by omega, ?_⟩⟩
      · rw [s_tg, if_neg (by omega)] at k33; exact k33
      · rw [s_tg, if_pos (by omega)] at k33
        rw [q_wD (by omega) (by omega)]; exact k33
theorem c_Di_drawFor {c n : Nat} {F : Nat → Nat} (hb : s_bd n F) (hs : s_sur n F) {d : qD} {b : Nat} (e0 : d.1 t_Ce 0 0 = (n : Int)) (eF : s_row (d.1 t_img 0) n F) (eN : d.1 t_nl 0 1 = (s_n1 n F n : Int)) : ∃ d', q_Ev m_Di_drawFor 0 [some (.inr (.inr (t_Di, c))), some (.inr (.inr (t_Ce, 0))), none, none, none] [] (q_mk d b) (none, q_mk d' b) ∧ q_ag [t_Di, t_plus, t_atLeft, t_atTop] d d' ∧ d'.1 t_Di c 0 = (n : Int) ∧ d'.1 t_Di c 1 = (s_n1 n F n : Int) ∧ (∀ k, 1 ≤ k → k ≤ n → d'.1 t_plus c k = (s_plus n F k : Int)) ∧ (∀ c', c' ≠ c → d'.1 t_plus c' = d.1 t_plus c' ∧ d'.1 t_Di c' = d.1 t_Di c') := by
  have hn := hb.1
  have hlt := s_n1_lt hb n (Nat.le_refl n)
  obtain ⟨d1, v1, a1, x0, x1, xp, xc⟩ := c_Di_clear (c := c) (x := (n : Int)) (y := (s_n1 n F n : Int)) (d := d) (b := b)
  obtain ⟨d2, v2, a2, w2⟩ := c_Di_drawGo (c := c) hb (b := b) n 0 d1 (by omega) x0 (by rw [a1.1 t_img (by decide)]; exact eF) (by
    intro w hk
    obtain ⟨k, h1, h2, _⟩ := hk
    omega)
  obtain ⟨d3, v3, a3, p3, c3⟩ := c_Di_drawRows (c := c) (x := s_src n F n) hlt hn (b := b) n 0 d2 (by omega) (by rw [a2.1 t_Di (by decide), x0]) (by rw [a2.1 t_Di (by decide), x1]) (fun k h1 h2 => by omega) (fun k _ h2 => by rw [a2.1 t_plus (by decide)]; exact xp k h2) (by
    intro w h1 h2
    have := w2 w (hs w h1 h2)
    exact ⟨fun _ => this.1, fun _ => this.2⟩)
  refine ⟨d3, e_Di_drawFor_0 ⟨by decide, by decide, ?_⟩, q_ag_tr (q_ag_up a1 (by decide)) (q_ag_tr (q_ag_up a2 (by decide)) (q_ag_up a3 (by decide))), ?_, ?_, p3, fun c' hc => ⟨?_, ?_⟩⟩
  · rw [e0, show (1 : Int).toNat = 1 from rfl, eN]
    exact ⟨_, _, v1, e_Di_drawFor_8 (v2 _ v3)⟩
  · rw [a3.1 t_Di (by decide), a2.1 t_Di (by decide), x0]
  · rw [a3.1 t_Di (by decide), a2.1 t_Di (by decide), x1]
  · rw [c3 c' hc, a2.1 t_plus (by decide), (xc c' hc).1]
  · rw [a3.1 t_Di (by decide), a2.1 t_Di (by decide), (xc c' hc).2]
