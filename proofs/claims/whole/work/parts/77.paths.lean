/-! ways: path counts forwards and backwards; the class's rows of path counts -/
def s_U (f : Nat → Int64) : Nat → Int64
  | 0 => 0
  | m + 1 => s_U f m + f (m + 1)
def s_D (f : Nat → Int64) (n : Nat) : Nat → Int64
  | 0 => 0
  | c + 1 => s_D f n c + f (n - c)
def s_cut (p : Nat → Bool) (v : Nat → Int64) (k : Nat) : Int64 := if p k then v k else 0
def s_fw (P : Nat → Nat → Bool) (a : Nat) : Nat → Nat → Int64
  | 0 => fun _ => 0
  | i + 1 => fun j => if P (i + 1) j then (if i + 1 = a then 1 else 0) + s_U (s_cut (P (i + 1)) (s_fw P a i)) j else s_fw P a i j
def s_bw (P : Nat → Nat → Bool) (n e : Nat) : Nat → Nat → Int64
  | 0 => fun j => if j = e then 1 else 0
  | m + 1 => fun j => if P (n - m) j then s_D (s_cut (P (n - m)) (s_bw P n e m)) n (n - j + 1) else s_bw P n e m j
def s_pt (P : Nat → Nat → Bool) (n i e : Nat) : Int64 := s_D (s_cut (P i) (s_bw P n e (n - i))) n n
theorem s_U_congr {f g : Nat → Int64} : ∀ m, (∀ k, 1 ≤ k → k ≤ m → f k = g k) → s_U f m = s_U g m
  | 0, _ => rfl
  | m + 1, h => by unfold s_U; rw [s_U_congr m (fun k h1 h2 => h k h1 (by omega)), h (m + 1) (by omega) (by omega)]
theorem s_D_zero {f : Nat → Int64} {n : Nat} : ∀ c, c ≤ n → (∀ k, n - c < k → k ≤ n → f k = 0) → s_D f n c = 0
  | 0, _, _ => rfl
  | c + 1, hc, h => by unfold s_D; rw [s_D_zero c (by omega) (fun k h1 h2 => h k (by omega) h2), h (n - c) (by omega) (by omega)]; rfl
theorem s_D_ext {f : Nat → Int64} {n c : Nat} : ∀ g, c + g ≤ n → (∀ k, 1 ≤ k → k ≤ n - c → f k = 0) → s_D f n (c + g) = s_D f n c
  | 0, _, _ => rfl
  | g + 1, hg, h => by
    show s_D f n (c + g) + f (n - (c + g)) = _
    rw [s_D_ext g (by omega) h, h _ (by omega) (by omega), Int64.add_zero]
theorem s_dual {p : Nat → Bool} {c0 : Int64} {v w v' w' : Nat → Int64} {n : Nat} (hv : ∀ j, 1 ≤ j → j ≤ n → v' j = if p j then c0 + s_U (s_cut p v) j else v j) (hw : ∀ j, 1 ≤ j → j ≤ n → w' j = if p j then s_D (s_cut p w) n (n - j + 1) else w j) : ∀ j, j ≤ n → s_U (fun k => v' k * w k) j + (c0 + s_U (s_cut p v) j) * s_D (s_cut p w) n (n - j) = c0 * s_D (s_cut p w) n n + s_U (fun k => v k * w' k) j
  | 0, _ => by
    show (0 : Int64) + (c0 + 0) * s_D (s_cut p w) n n = c0 * s_D (s_cut p w) n n + 0
    grind
  | j + 1, h => by
    have ih := s_dual hv hw j (by omega)
    have a1 := hv (j + 1) (by omega) h
    have a2 := hw (j + 1) (by omega) h
    have e1 : s_D (s_cut p w) n (n - j) = s_D (s_cut p w) n (n - (j + 1)) + s_cut p w (j + 1) := by
      have : n - j = (n - (j + 1)) + 1 := by omega
      rw [this]
      show _ + s_cut p w (n - (n - (j + 1))) = _
      rw [show n - (n - (j + 1)) = j + 1 by omega]
    rw [show n - (j + 1) + 1 = n - j by omega] at a2
    show (s_U (fun k => v' k * w k) j + v' (j + 1) * w (j + 1)) + (c0 + (s_U (s_cut p v) j + s_cut p v (j + 1))) * s_D (s_cut p w) n (n - (j + 1)) = c0 * s_D (s_cut p w) n n + (s_U (fun k => v k * w' k) j + v (j + 1) * w' (j + 1))
    have u1 : s_U (s_cut p v) (j + 1) = s_U (s_cut p v) j + s_cut p v (j + 1) := rfl
    rw [u1] at a1
    rw [e1] at ih a2
    unfold s_cut at *
    by_cases hp : p (j + 1) = true
    · simp only [hp, if_true] at a1 a2 ih ⊢
      rw [a1, a2]
      grind
    · simp only [hp] at a1 a2 ih ⊢
      simp only [Bool.false_eq_true, if_false] at a1 a2 ih ⊢
      rw [a1, a2]
      grind
theorem s_fw_bw {P : Nat → Nat → Bool} {n a e : Nat} (ha : 1 ≤ a) : ∀ i, i ≤ n → s_U (fun j => s_fw P a i j * s_bw P n e (n - i) j) n = if a ≤ i then s_pt P n a e else 0
  | 0, _ => by
    rw [if_neg (by omega)]
    have : ∀ m, s_U (fun j => s_fw P a 0 j * s_bw P n e (n - 0) j) m = 0 := by
      intro m
      induction m with
      | zero => rfl
      | succ m ih =>
        show s_U (fun j => s_fw P a 0 j * s_bw P n e (n - 0) j) m + (0 : Int64) * _ = 0
        rw [ih]; grind
    exact this n
  | i + 1, h => by
    have ih := s_fw_bw (P := P) (n := n) (e := e) ha i (by omega)
    have dd := s_dual (p := P (i + 1)) (c0 := if i + 1 = a then 1 else 0) (v := s_fw P a i) (w := s_bw P n e (n - (i + 1))) (v' := s_fw P a (i + 1)) (w' := s_bw P n e (n - i)) (n := n) (fun j _ _ => rfl) (fun j _ _ => by
      rw [show n - i = (n - (i + 1)) + 1 by omega]
      show (if P (n - (n - (i + 1))) j then _ else _) = _
      rw [show n - (n - (i + 1)) = i + 1 by omega]) n (Nat.le_refl _)
    rw [Nat.sub_self, ih] at dd
    have z : s_D (s_cut (P (i + 1)) (s_bw P n e (n - (i + 1)))) n 0 = 0 := rfl
    rw [z] at dd
    by_cases h1 : i + 1 = a
    · rw [if_pos h1, if_neg (by omega)] at dd
      rw [if_pos (by omega)]
      unfold s_pt
      rw [← h1]
      rw [← h1] at dd
      grind
    · rw [if_neg h1] at dd
      by_cases h2 : a ≤ i
      · rw [if_pos h2] at dd; rw [if_pos (by omega)]; grind
      · rw [if_neg h2] at dd; rw [if_neg (by omega)]; grind
theorem s_U_pick {v : Nat → Int64} {e : Nat} (he : 1 ≤ e) : ∀ m, s_U (fun j => v j * (if j = e then 1 else 0)) m = if e ≤ m then v e else 0
  | 0 => by rw [if_neg (by omega)]; rfl
  | m + 1 => by
    show s_U (fun j => v j * (if j = e then 1 else 0)) m + v (m + 1) * (if m + 1 = e then 1 else 0) = _
    rw [s_U_pick he m]
    by_cases h : m + 1 = e
    · rw [if_neg (by omega), if_pos h, if_pos (by omega), ← h]; grind
    · rw [if_neg h]
      by_cases h2 : e ≤ m
      · rw [if_pos h2, if_pos (by omega)]; grind
      · rw [if_neg h2, if_neg (by omega)]; grind
theorem s_fw_pt {P : Nat → Nat → Bool} {n a e : Nat} (ha : 1 ≤ a) (han : a ≤ n) (he : 1 ≤ e) (hen : e ≤ n) : s_fw P a n e = s_pt P n a e := by
  have h := s_fw_bw (P := P) (n := n) (e := e) ha n (Nat.le_refl _)
  rw [if_pos han, Nat.sub_self] at h
  have h2 := s_U_pick (v := s_fw P a n) he n
  rw [if_pos hen] at h2
  rw [← h, ← h2]
  rfl
theorem s_bw_zero {P : Nat → Nat → Bool} {n e : Nat} (hP : ∀ i j, P i j = true → i < j) : ∀ m, m ≤ n → e ≤ n - m → ∀ k, k ≤ n → k ≠ e → s_bw P n e m k = 0
  | 0, _, _, k, _, hk => if_neg hk
  | m + 1, hm, he, k, hkn, hk => by
    have ih := s_bw_zero (P := P) (n := n) (e := e) hP m (by omega) (by omega)
    show (if P (n - m) k then _ else _) = (0 : Int64)
    by_cases hp : P (n - m) k = true
    · rw [if_pos hp]
      have := hP _ _ hp
      refine s_D_zero _ (by omega) (fun k' h1 h2 => ?_)
      unfold s_cut
      split
      · rename_i hp2
        have := hP _ _ hp2
        exact ih k' h2 (by omega)
      · rfl
    · rw [if_neg hp]; exact ih k hkn hk
theorem s_pt_zero {P : Nat → Nat → Bool} {n i e : Nat} (hP : ∀ i j, P i j = true → i < j) (hi : i ≤ n) (he : e ≤ i) : s_pt P n i e = 0 := by
  refine s_D_zero _ (Nat.le_refl _) (fun k h1 h2 => ?_)
  unfold s_cut
  split
  · rename_i hp
    have := hP _ _ hp
    exact s_bw_zero hP (n - i) (by omega) (by omega) k h2 (by omega)
  · rfl
theorem q_sL_ne {d : qD} {t i t' i' k : Nat} {v : Int64} (h : ¬ (t' = t ∧ i' = i)) : (q_sL d t i k v).2 t' i' = d.2 t' i' := by
  funext k'
  exact if_neg (fun hh => h ⟨hh.1, hh.2.1⟩)
theorem q_sL_at (d : qD) (t i k : Nat) (v : Int64) (k' : Nat) : (q_sL d t i k v).2 t i k' = if k' = k then v else d.2 t i k' := by
  show (if t = t ∧ i = i ∧ k' = k then v else d.2 t i k') = _
  by_cases h : k' = k
  · rw [if_pos ⟨rfl, rfl, h⟩, if_pos h]
  · rw [if_neg (fun hh => h hh.2.2), if_neg h]
/-- the class's picture of a diagram -/
def s_Dg (c n : Nat) (R : Nat → Nat) (d : qD) : Prop := d.1 t_Di c 0 = (n : Int) ∧ ∀ i, 1 ≤ i → i ≤ n → d.1 t_plus c i = (R i : Int)
theorem c_J_fill2_be {c : Nat} {b : Nat} : ∀ (f k : Nat) (d : qD), k + f = 9 → (∀ j, j < k → d.2 t_below c j = 0) → ∃ d', q_Ev m_J_fill2 5 [q_r t_below c, some (.inr (.inl 0)), none, q_i (k : Int), q_i 9] [] (q_mk d b) (none, q_mk d' b) ∧ q_ag [t_below] d d' ∧ d'.1 = d.1 ∧ (∀ j, j < 9 → d'.2 t_below c j = 0)
  | 0, k, d, h, e => ⟨d, e_J_fill2_be_5 ⟨fun _ => rfl, fun hh => by omega⟩, q_ag_refl _ _, rfl, fun j hj => e j (by omega)⟩
  | f + 1, k, d, h, e => by
    obtain ⟨d', v, a, g, r⟩ := c_J_fill2_be (c := c) (b := b) f (k + 1) (q_sL d t_below c k 0) (by omega) (fun j hj => by
      rw [q_sL_at]
      split
      · rfl
      · exact e j (by omega))
    refine ⟨d', e_J_fill2_be_5 ⟨fun hh => by omega, fun _ => ⟨by omega, by omega, ?_⟩⟩, q_ag_tr (q_ag_sL (by decide)) a, g, r⟩
    rw [q_wS (by omega), Int.toNat_natCast]
    exact v
theorem c_J_fill2_mi {c : Nat} {b : Nat} : ∀ (f k : Nat) (d : qD), k + f = 256 → (∀ j, j < k → d.2 t_minors c j = 0) → ∃ d', q_Ev m_J_fill2 5 [q_r t_minors c, some (.inr (.inl 0)), none, q_i (k : Int), q_i 256] [] (q_mk d b) (none, q_mk d' b) ∧ q_ag [t_minors] d d' ∧ d'.1 = d.1 ∧ (∀ j, j < 256 → d'.2 t_minors c j = 0)
  | 0, k, d, h, e => ⟨d, e_J_fill2_mi_5 ⟨fun _ => rfl, fun hh => by omega⟩, q_ag_refl _ _, rfl, fun j hj => e j (by omega)⟩
  | f + 1, k, d, h, e => by
    obtain ⟨d', v, a, g, r⟩ := c_J_fill2_mi (c := c) (b := b) f (k + 1) (q_sL d t_minors c k 0) (by omega) (fun j hj => by
      rw [q_sL_at]
      split
      · rfl
      · exact e j (by omega))
    refine ⟨d', e_J_fill2_mi_5 ⟨fun hh => by omega, fun _ => ⟨by omega, by omega, ?_⟩⟩, q_ag_tr (q_ag_sL (by decide)) a, g, r⟩
    rw [q_wS (by omega), Int.toNat_natCast]
    exact v
/-- one row of path counts -/
theorem c_Di_countRow {c n e i : Nat} {R : Nat → Nat} (hn : n ≤ 8) (hR : ∀ i, 1 ≤ i → i ≤ n → R i < 256) (hP : ∀ i j, q_hl (R i) j = true → i < j) (he : e ≤ 8) (hi : 1 ≤ i) (hin : i ≤ n) {b : Nat} : ∀ (g j : Nat) (d : qD), j = i + g → j ≤ n → s_Dg c n R d → (∀ k, 1 ≤ k → k ≤ n → d.2 t_below c k = if j < k then s_bw (fun a l => q_hl (R a) l) n e (n - i + 1) k else s_bw (fun a l => q_hl (R a) l) n e (n - i) k) → ∃ d', q_ag [t_below] d d' ∧ d'.1 = d.1 ∧ (∀ k, 1 ≤ k → k ≤ n → d'.2 t_below c k = s_bw (fun a l => q_hl (R a) l) n e (n - i + 1) k) ∧ ∀ r, q_Ev m_Di_countPathsTo 12 [q_r t_Di c, q_i (e : Int), q_i ((i - 1 : Nat) : Int), none, none, none] [] (q_mk (q_sL d' t_pathRow (9 * c + i) e (s_pt (fun a l => q_hl (R a) l) n i e)) b) r → q_Ev m_Di_countPathsTo 20 [q_r t_Di c, q_i (e : Int), q_i (i : Int), some (.inr (.inl (s_D (s_cut (fun l => q_hl (R i) l) (s_bw (fun a l => q_hl (R a) l) n e (n - i))) n (n - j)))), none, q_i (j : Int)] [] (q_mk d b) r
  | 0, j, d, hj, hjn, eD, eB => by
    have hz : ∀ k, k ≤ i → q_hl (R i) k = false := fun k hk => Bool.eq_false_iff.mpr (fun hc => by have := hP _ _ hc; omega)
    refine ⟨d, q_ag_refl _ _, rfl, fun k k1 k2 => ?_, fun r hr => e_Di_countPathsTo_20 ⟨fun _ => ⟨by omega, by omega, by omega, by omega, ?_⟩, fun hh => by omega⟩⟩
    · rw [eB k k1 k2]
      by_cases hk : j < k
      · rw [if_pos hk]
      · rw [if_neg hk]
        show _ = if q_hl (R (n - (n - i))) k then _ else _
        rw [show n - (n - i) = i by omega, hz k (by omega), if_neg (by decide)]
    · have ex : s_D (s_cut (fun l => q_hl (R i) l) (s_bw (fun a l => q_hl (R a) l) n e (n - i))) n (n - j) = s_pt (fun a l => q_hl (R a) l) n i e := by
        have := s_D_ext (f := s_cut (fun l => q_hl (R i) l) (s_bw (fun a l => q_hl (R a) l) n e (n - i))) (n := n) (c := n - j) j (by omega) (fun k k1 k2 => by
          show (if q_hl (R i) k = true then _ else (0 : Int64)) = 0
          rw [hz k (by omega), if_neg (by decide)])
        rw [show n - j + j = n by omega] at this
        exact this.symm
      rw [ex, Int.toNat_natCast, Int.toNat_natCast, show (i : Int) + (-1) = (i : Int) - ((1 : Nat) : Int) by omega, q_wD (by omega) (by omega)]
      exact hr
  | g + 1, j, d, hj, hjn, eD, eB => by
    have ew : q_w ((j : Int) + (-1)) = ((j - 1 : Nat) : Int) := by
      rw [show (j : Int) + (-1) = (j : Int) - ((1 : Nat) : Int) by omega, q_wD (by omega) (by omega)]
    have eb : s_D (s_cut (fun l => q_hl (R i) l) (s_bw (fun a l => q_hl (R a) l) n e (n - i))) n (n - (j - 1)) = s_D (s_cut (fun l => q_hl (R i) l) (s_bw (fun a l => q_hl (R a) l) n e (n - i))) n (n - j) + s_cut (fun l => q_hl (R i) l) (s_bw (fun a l => q_hl (R a) l) n e (n - i)) j := by
      rw [show n - (j - 1) = (n - j) + 1 by omega]
      show _ + s_cut _ _ (n - (n - j)) = _
      rw [show n - (n - j) = j by omega]
    have ebw : s_bw (fun a l => q_hl (R a) l) n e (n - i + 1) j = if q_hl (R i) j then s_D (s_cut (fun l => q_hl (R i) l) (s_bw (fun a l => q_hl (R a) l) n e (n - i))) n (n - (j - 1)) else s_bw (fun a l => q_hl (R a) l) n e (n - i) j := by
      show (if q_hl (R (n - (n - i))) j then s_D (s_cut (fun l => q_hl (R (n - (n - i))) l) (s_bw (fun a l => q_hl (R a) l) n e (n - i))) n (n - j + 1) else _) = _
      rw [show n - (n - i) = i by omega, show n - (j - 1) = n - j + 1 by omega]
    have ebj := eB j (by omega) hjn
    rw [if_neg (by omega)] at ebj
    by_cases hp : q_hl (R i) j = true
    · obtain ⟨d', a, g1, r1, k⟩ := c_Di_countRow hn hR hP he hi hin (b := b) g (j - 1) (q_sL d t_below c j (s_D (s_cut (fun l => q_hl (R i) l) (s_bw (fun a l => q_hl (R a) l) n e (n - i))) n (n - (j - 1)))) (by omega) (by omega) eD (fun k k1 k2 => by
        rw [q_sL_at]
        by_cases hk : k = j
        · subst hk; rw [if_pos rfl, if_pos (by omega), ebw, if_pos hp]
        · rw [if_neg hk, eB k k1 k2]
          by_cases hk2 : j < k
          · rw [if_pos hk2, if_pos (by omega)]
          · rw [if_neg hk2, if_neg (by omega)])
      refine ⟨d', q_ag_tr (q_ag_sL (by decide)) a, g1, r1, fun r hr => e_Di_countPathsTo_20 ⟨fun hh => by omega, fun _ => ⟨_, _, c_Di_isPlus (hR i hi hin) (by omega) (by omega) (by omega) (eD.2 i hi hin), e_Di_countPathsTo_27 ⟨fun hh => ?_, fun _ => ⟨by omega, by omega, by omega, by omega, e_Di_countPathsTo_40 ?_⟩⟩⟩⟩⟩
      · rw [hp] at hh; exact absurd hh (by decide)
      · rw [Int.toNat_natCast, ebj, ew]
        have k' := k r hr
        rw [eb, s_cut, if_pos hp] at k'
        exact k'
    · obtain ⟨d', a, g1, r1, k⟩ := c_Di_countRow hn hR hP he hi hin (b := b) g (j - 1) d (by omega) (by omega) eD (fun k k1 k2 => by
        rw [eB k k1 k2]
        by_cases hk : k = j
        · subst hk; rw [if_neg (by omega), if_pos (by omega), ebw, if_neg hp]
        · by_cases hk2 : j < k
          · rw [if_pos hk2, if_pos (by omega)]
          · rw [if_neg hk2, if_neg (by omega)])
      refine ⟨d', a, g1, r1, fun r hr => e_Di_countPathsTo_20 ⟨fun hh => by omega, fun _ => ⟨_, _, c_Di_isPlus (hR i hi hin) (by omega) (by omega) (by omega) (eD.2 i hi hin), e_Di_countPathsTo_27 ⟨fun _ => e_Di_countPathsTo_40 ?_, fun hh => ?_⟩⟩⟩⟩
      · rw [ew]
        have k' := k r hr
        rw [eb, s_cut, if_neg hp, Int64.add_zero] at k'
        exact k'
      · rw [Bool.eq_false_iff.mpr hp] at hh; exact absurd rfl hh
theorem c_Di_countRows {c n e : Nat} {R : Nat → Nat} (hn : n ≤ 8) (hR : ∀ i, 1 ≤ i → i ≤ n → R i < 256) (hP : ∀ i j, q_hl (R i) j = true → i < j) (he : e ≤ 8) {b : Nat} : ∀ (i : Nat) (d : qD), i ≤ n → s_Dg c n R d → (∀ k, 1 ≤ k → k ≤ n → d.2 t_below c k = s_bw (fun a l => q_hl (R a) l) n e (n - i) k) → (∀ k, i < k → k ≤ n → d.2 t_pathRow (9 * c + k) e = s_pt (fun a l => q_hl (R a) l) n k e) → ∃ d', q_Ev m_Di_countPathsTo 12 [q_r t_Di c, q_i (e : Int), q_i (i : Int), none, none, none] [] (q_mk d b) (none, q_mk d' b) ∧ q_ag [t_below, t_pathRow] d d' ∧ d'.1 = d.1 ∧ (∀ k, 1 ≤ k → k ≤ n → d'.2 t_pathRow (9 * c + k) e = s_pt (fun a l => q_hl (R a) l) n k e) ∧ ∀ k l, l ≠ e → d'.2 t_pathRow k l = d.2 t_pathRow k l
  | 0, d, _, _, _, eP => ⟨d, e_Di_countPathsTo_12 ⟨fun _ => rfl, fun hh => by omega⟩, q_ag_refl _ _, rfl, fun k k1 k2 => eP k (by omega) k2, fun _ _ _ => rfl⟩
  | i + 1, d, hi, eD, eB, eP => by
    obtain ⟨d1, a1, g1, r1, k1⟩ := c_Di_countRow hn hR hP he (by omega : 1 ≤ i + 1) hi (b := b) (n - (i + 1)) n d (by omega) (Nat.le_refl _) eD (fun k h1 h2 => by rw [if_neg (by omega)]; exact eB k h1 h2)
    obtain ⟨d2, v2, a2, g2, r2, o2⟩ := c_Di_countRows hn hR hP he (b := b) i (q_sL d1 t_pathRow (9 * c + (i + 1)) e (s_pt (fun a l => q_hl (R a) l) n (i + 1) e)) (by omega) (by
      unfold s_Dg
      show d1.1 t_Di c 0 = (n : Int) ∧ ∀ i, 1 ≤ i → i ≤ n → d1.1 t_plus c i = (R i : Int)
      rw [g1]; exact eD) (fun k h1 h2 => by
      rw [q_sL_ne (fun hh => absurd hh.1 (by decide)), r1 k h1 h2, show n - (i + 1) + 1 = n - i by omega]) (fun k h1 h2 => by
      by_cases hk : k = i + 1
      · subst hk; rw [q_sL_at, if_pos rfl]
      · rw [q_sL_ne (by omega), a1.2 t_pathRow (by decide)]; exact eP k (by omega) h2)
    refine ⟨d2, e_Di_countPathsTo_12 ⟨fun hh => by omega, fun _ => ?_⟩, q_ag_tr (q_ag_up a1 (by decide)) (q_ag_tr (q_ag_sL (by decide)) a2), by rw [g2]; exact g1, r2, fun k l hl => ?_⟩
    · rw [eD.1]
      have := k1 _ v2
      rw [Nat.sub_self] at this
      exact this
    · rw [o2 k l hl]
      by_cases hk : k = 9 * c + (i + 1)
      · subst hk; rw [q_sL_at, if_neg hl, a1.2 t_pathRow (by decide)]
      · rw [q_sL_ne (by omega), a1.2 t_pathRow (by decide)]
theorem c_Di_countPathsTo {c n e : Nat} {R : Nat → Nat} (hn : n ≤ 8) (hR : ∀ i, 1 ≤ i → i ≤ n → R i < 256) (hP : ∀ i j, q_hl (R i) j = true → i < j) (he : e ≤ 8) {d : qD} {b : Nat} (eD : s_Dg c n R d) : ∃ d', q_Ev m_Di_countPathsTo 0 [q_r t_Di c, q_i (e : Int), none, none, none, none] [] (q_mk d b) (none, q_mk d' b) ∧ q_ag [t_below, t_pathRow] d d' ∧ d'.1 = d.1 ∧ (∀ k, 1 ≤ k → k ≤ n → d'.2 t_pathRow (9 * c + k) e = s_pt (fun a l => q_hl (R a) l) n k e) ∧ ∀ k l, l ≠ e → d'.2 t_pathRow k l = d.2 t_pathRow k l := by
  obtain ⟨d1, v1, a1, g1, r1⟩ := c_J_fill2_be (c := c) (b := b) 9 0 d rfl (fun j hj => by omega)
  obtain ⟨d2, v2, a2, g2, r2, o2⟩ := c_Di_countRows hn hR hP he (b := b) n (q_sL d1 t_below c e 1) (Nat.le_refl _) (by
    unfold s_Dg
    show d1.1 t_Di c 0 = (n : Int) ∧ ∀ i, 1 ≤ i → i ≤ n → d1.1 t_plus c i = (R i : Int)
    rw [g1]; exact eD) (fun k h1 h2 => by
    rw [q_sL_at, Nat.sub_self, r1 k (by omega)]
    rfl) (fun k h1 h2 => by omega)
  refine ⟨d2, e_Di_countPathsTo_0 ⟨_, _, e_J_fill2_be_0 v1, e_Di_countPathsTo_4 ⟨by omega, by omega, ?_⟩⟩, q_ag_tr (q_ag_up a1 (by decide)) (q_ag_tr (q_ag_sL (by decide)) a2), by rw [g2]; exact g1, r2, fun k l hl => ?_⟩
  · rw [Int.toNat_natCast, g1, eD.1]
    exact v2
  · rw [o2 k l hl, q_sL_ne (fun hh => absurd hh.1 (by decide)), a1.2 t_pathRow (by decide)]
