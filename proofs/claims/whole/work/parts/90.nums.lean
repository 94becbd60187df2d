/-! reading numbers: what is asked, and the class -/
def s_nd (sz : Nat) (V : Nat → Int) (p : Nat) : Nat := if s_dgt (s_bt sz V p) then (if s_dgt (s_bt sz V (p + 1)) then (if s_dgt (s_bt sz V (p + 2)) then 3 else 2) else 1) else 0
def s_nv (sz : Nat) (V : Nat → Int) (p : Nat) : Nat → Nat
  | 0 => 0
  | m + 1 => 10 * s_nv sz V p m + (s_bt sz V (p + m) - 48).toNat
abbrev s_O : Type := Nat ⊕ (Nat × (Nat → Nat))
def s_rp (sz : Nat) (V : Nat → Int) : Nat → Nat → Nat → (Nat → Nat) → (Nat → Nat) → Nat ⊕ (Nat × (Nat → Nat) × (Nat → Nat))
  | 0, _, p, _, _ => .inl (8 * p + 1)
  | f + 1, k, p, F, G => if sz ≤ p then (if k < 2 then .inl (8 * p + 1) else .inr (k, F, G)) else if k = 8 ∨ s_nd sz V p = 0 ∨ s_nd sz V p = 3 then .inl (8 * p + 1) else s_rp sz V f (k + 1) (s_sk sz V (p + s_nd sz V p)) (s_put F (k + 1) (s_nv sz V p (s_nd sz V p))) (s_put G (k + 1) p)
def s_ck1 (F G : Nat → Nat) : Nat → Nat → Option Nat
  | 0, _ => none
  | f + 1, i => if F i = 0 ∨ 16 < F i then some (8 * G i + 2) else s_ck1 F G f (i + 1)
def s_like (n : Nat) (F : Nat → Nat) (i : Nat) : Bool := (List.range' 1 (i - 1)).any (fun j => decide (s_tg n (F j) = s_tg n (F i)))
def s_ck2 (n : Nat) (F G : Nat → Nat) : Nat → Nat → Option Nat
  | 0, _ => none
  | f + 1, i => if F i < i ∨ i + n < F i ∨ s_like n F i = true then some (8 * G i + 3) else s_ck2 n F G f (i + 1)
def s_fin (n : Nat) (F G : Nat → Nat) : s_O := match s_ck1 F G n 1 with
  | some c => .inl c
  | none => match s_ck2 n F G n 1 with
    | some c => .inl c
    | none => .inr (n, F)
def s_perm (sz : Nat) (V : Nat → Int) (p : Nat) : s_O := match s_rp sz V 9 0 p (fun _ => 0) (fun _ => 0) with
  | .inl c => .inl c
  | .inr (n, F, G) => s_fin n F G
theorem s_like_iff {n i : Nat} {F : Nat → Nat} : s_like n F i = true ↔ ∃ j, 1 ≤ j ∧ j < i ∧ s_tg n (F j) = s_tg n (F i) := by
  unfold s_like
  rw [List.any_eq_true]
  constructor
  · rintro ⟨j, h1, h2⟩
    have := List.mem_range'_1.mp h1
    exact ⟨j, by omega, by omega, of_decide_eq_true h2⟩
  · rintro ⟨j, h1, h2, h3⟩
    exact ⟨j, List.mem_range'_1.mpr (by omega), decide_eq_true h3⟩
theorem s_nd_le (sz : Nat) (V : Nat → Int) (p : Nat) : s_nd sz V p ≤ 3 := by
  unfold s_nd
  split
  · split
    · split <;> omega
    · omega
  · omega
theorem s_dgt_lt {sz p : Nat} {V : Nat → Int} (h : s_dgt (s_bt sz V p) = true) : p < sz := by
  refine s_bt_lt (V := V) (fun hc => ?_)
  rw [hc] at h
  exact absurd h (by decide)
theorem s_nd_sz {sz p : Nat} {V : Nat → Int} (hp : p ≤ sz) : p + s_nd sz V p ≤ sz := by
  unfold s_nd
  split
  · rename_i h0
    split
    · rename_i h1
      split
      · rename_i h2
        have := s_dgt_lt h2; omega
      · have := s_dgt_lt h1; omega
    · have := s_dgt_lt h0; omega
  · omega
theorem s_dgt_of {x : Int} (h : s_dgt x = true) : 48 ≤ x ∧ x ≤ 57 := of_decide_eq_true h
theorem s_nv_le {sz : Nat} {V : Nat → Int} {p : Nat} : ∀ m, m ≤ 3 → (∀ j, j < m → s_dgt (s_bt sz V (p + j)) = true) → s_nv sz V p m ≤ 999 ∧ (m ≤ 2 → s_nv sz V p m ≤ 99) ∧ (m ≤ 1 → s_nv sz V p m ≤ 9) ∧ (m ≤ 0 → s_nv sz V p m ≤ 0)
  | 0, _, _ => ⟨Nat.zero_le _, fun _ => Nat.zero_le _, fun _ => Nat.zero_le _, fun _ => Nat.le_refl _⟩
  | m + 1, hm, h => by
    have ih := s_nv_le m (by omega) (fun j hj => h j (by omega))
    have hd := s_dgt_of (h m (by omega))
    unfold s_nv
    refine ⟨?_, fun h2 => ?_, fun h1 => ?_, fun h0 => by omega⟩
    · have := ih.2.1 (by omega); omega
    · have := ih.2.2.1 (by omega); omega
    · have := ih.2.2.2 (by omega); omega
theorem c_Re_numGo {sz p i : Nat} {V : Nat → Int} (hz : sz ≤ 160) (hp : p ≤ sz) {d : qD} {b : Nat} (e : s_Tp sz V d) (e4 : d.1 t_Re 0 4 = (p : Int)) {r : Option qV × qW} (m : Nat) (hm : m ≤ 2) (hd : ∀ j, j < m → s_dgt (s_bt sz V (p + j)) = true) : (s_dgt (s_bt sz V (p + m)) = false → q_Ev m_Re_readNumber 31 [q_r t_Re 0, q_i (i : Int), q_i (m : Int), q_i (s_nv sz V p m : Int)] [] (q_mk d b) r → q_Ev m_Re_readNumber 4 [q_r t_Re 0, q_i (i : Int), q_i (m : Int), q_i (s_nv sz V p m : Int)] [] (q_mk d b) r) ∧ (s_dgt (s_bt sz V (p + m)) = true → q_Ev m_Re_readNumber 4 [q_r t_Re 0, q_i (i : Int), q_i ((m + 1 : Nat) : Int), q_i (s_nv sz V p (m + 1) : Int)] [] (q_mk d b) r → q_Ev m_Re_readNumber 4 [q_r t_Re 0, q_i (i : Int), q_i (m : Int), q_i (s_nv sz V p m : Int)] [] (q_mk d b) r) := by
  have ew : q_w (d.1 t_Re 0 4 + (m : Int)) = ((p + m : Nat) : Int) := by rw [e4, q_w_id (by omega) (by omega)]; omega
  have kd := c_Ta_isDigit (p := p + m) hz (b := b) e
  have ka := c_Ta_at (p := p + m) hz (b := b) e
  rw [← ew] at kd ka
  refine ⟨fun h hr => ?_, fun h hr => ?_⟩
  · rw [h] at kd
    exact e_Re_readNumber_4 ⟨fun hh => by omega, fun _ => ⟨_, _, kd, e_Re_readNumber_14 ⟨fun _ => hr, fun hh => absurd rfl hh⟩⟩⟩
  · rw [h] at kd
    have hv := (s_nv_le m (by omega) hd).2.1 hm
    have hx := s_dgt_of h
    refine e_Re_readNumber_4 ⟨fun hh => by omega, fun _ => ⟨_, _, kd, e_Re_readNumber_14 ⟨fun hh => absurd hh (by decide), fun _ => ⟨_, _, ka, e_Re_readNumber_25 ?_⟩⟩⟩⟩
    have e1 : q_w (q_w (q_w (10 * (s_nv sz V p m : Int)) + s_bt sz V (p + m)) - 48) = (s_nv sz V p (m + 1) : Int) := by
      have : (s_nv sz V p (m + 1) : Int) = 10 * (s_nv sz V p m : Int) + (s_bt sz V (p + m) - 48) := by
        show ((10 * s_nv sz V p m + (s_bt sz V (p + m) - 48).toNat : Nat) : Int) = _
        omega
      rw [q_w_id (x := 10 * (s_nv sz V p m : Int)) (by omega) (by omega), q_w_id (x := 10 * (s_nv sz V p m : Int) + s_bt sz V (p + m)) (by omega) (by omega), q_w_id (by omega) (by omega), this]
      omega
    rw [e1, q_wS (by omega)]
    exact hr
theorem s_nd_dig {sz p : Nat} {V : Nat → Int} : (∀ j, j < s_nd sz V p → s_dgt (s_bt sz V (p + j)) = true) ∧ (s_nd sz V p < 3 → s_dgt (s_bt sz V (p + s_nd sz V p)) = false) := by
  unfold s_nd
  by_cases h0 : s_dgt (s_bt sz V p) = true
  · rw [if_pos h0]
    by_cases h1 : s_dgt (s_bt sz V (p + 1)) = true
    · rw [if_pos h1]
      by_cases h2 : s_dgt (s_bt sz V (p + 2)) = true
      · rw [if_pos h2]
        refine ⟨fun j hj => ?_, fun hh => by omega⟩
        have : j = 0 ∨ j = 1 ∨ j = 2 := by omega
        rcases this with hj | hj | hj <;> subst hj <;> assumption
      · rw [if_neg h2]
        refine ⟨fun j hj => ?_, fun _ => Bool.eq_false_iff.mpr h2⟩
        have : j = 0 ∨ j = 1 := by omega
        rcases this with hj | hj <;> subst hj <;> assumption
    · rw [if_neg h1]
      refine ⟨fun j hj => ?_, fun _ => Bool.eq_false_iff.mpr h1⟩
      have : j = 0 := by omega
      subst this; assumption
  · rw [if_neg h0]
    exact ⟨fun j hj => by omega, fun _ => Bool.eq_false_iff.mpr h0⟩
theorem c_Re_readNumber {sz p i : Nat} {V : Nat → Int} (hz : sz ≤ 160) (hp : p ≤ sz) (_hi : 1 ≤ i) (hi2 : i ≤ 8) {d : qD} {b : Nat} (e : s_Tp sz V d) (e4 : d.1 t_Re 0 4 = (p : Int)) : ((s_nd sz V p = 0 ∨ s_nd sz V p = 3) → q_Ev m_Re_readNumber 0 [q_r t_Re 0, q_i (i : Int), none, none] [] (q_mk d b) (q_i 0, q_mk d b)) ∧ (¬ (s_nd sz V p = 0 ∨ s_nd sz V p = 3) → q_Ev m_Re_readNumber 0 [q_r t_Re 0, q_i (i : Int), none, none] [] (q_mk d b) (q_i 1, q_mk (q_sI (q_sI (q_sI d t_reImg 0 i (s_nv sz V p (s_nd sz V p) : Int)) t_begins 0 i (p : Int)) t_Re 0 4 ((p + s_nd sz V p : Nat) : Int)) b)) := by
  have hnd := s_nd_le sz V p
  have hsz := s_nd_sz (V := V) hp
  obtain ⟨g1, g2⟩ := s_nd_dig (sz := sz) (V := V) (p := p)
  have run : ∀ (m : Nat) (r : Option qV × qW), m ≤ s_nd sz V p → q_Ev m_Re_readNumber 4 [q_r t_Re 0, q_i (i : Int), q_i (m : Int), q_i (s_nv sz V p m : Int)] [] (q_mk d b) r → q_Ev m_Re_readNumber 0 [q_r t_Re 0, q_i (i : Int), none, none] [] (q_mk d b) r := by
    intro m
    induction m with
    | zero => intro r _ h; exact e_Re_readNumber_0 h
    | succ m ih =>
      intro r hm h
      exact ih r (by omega) ((c_Re_numGo hz hp e e4 m (by omega) (fun j hj => g1 j (by omega))).2 (g1 m (by omega)) h)
  have last : ∀ r, q_Ev m_Re_readNumber 31 [q_r t_Re 0, q_i (i : Int), q_i (s_nd sz V p : Int), q_i (s_nv sz V p (s_nd sz V p) : Int)] [] (q_mk d b) r → q_Ev m_Re_readNumber 0 [q_r t_Re 0, q_i (i : Int), none, none] [] (q_mk d b) r := by
    intro r h
    refine run _ r (Nat.le_refl _) ?_
    by_cases h3 : s_nd sz V p < 3
    · exact (c_Re_numGo hz hp e e4 _ (by omega) g1).1 (g2 h3) h
    · exact e_Re_readNumber_4 ⟨fun _ => h, fun hh => by omega⟩
  refine ⟨fun h => last _ ?_, fun h => last _ ?_⟩
  · have no : q_Ev m_Re_readNumber 36 [none, none, none, none] [] (q_mk d b) (q_i 0, q_mk d b) := e_Re_readNumber_36 ⟨by decide, by decide, rfl⟩
    exact e_Re_readNumber_31 ⟨fun _ => no, fun h0 => ⟨fun h3 => by omega, fun _ => no⟩⟩
  · refine e_Re_readNumber_31 ⟨fun hh => by omega, fun _ => ⟨fun _ => ⟨by omega, by omega, by omega, by omega, by decide, by decide, ?_⟩, fun hh => by omega⟩⟩
    rw [e4, Int.toNat_natCast, q_w_id (by omega) (by omega), ← Int.natCast_add]
theorem c_Re_fault {p k : Nat} (hp : p ≤ 1000) (hk : k ≤ 8) {d : qD} {b : Nat} {x : Option qV} : q_Ev m_Re_fault 0 [x, q_i (p : Int), q_i (k : Int)] [] (q_mk d b) (q_i ((8 * p + k : Nat) : Int), q_mk d b) := by
  refine q_Ev_sub (loc := [none, q_i (p : Int), q_i (k : Int)]) ⟨rfl, fun i v hv => ?_⟩ (e_Re_fault_0 ?_)
  · match i, hv with
    | 0, hv => simp at hv
    | i + 1, hv => exact hv
  rw [q_w_id (x := 8 * (p : Int)) (by omega) (by omega), q_w_id (by omega) (by omega)]
  have : 8 * (p : Int) + (k : Int) = ((8 * p + k : Nat) : Int) := by omega
  rw [this]
abbrev s_TR : List Nat := [t_Re, t_reImg, t_begins]
theorem c_Re_numsGo {sz : Nat} {V : Nat → Int} (hz : sz ≤ 160) {b : Nat} : ∀ (f k p : Nat) (F G : Nat → Nat) (d : qD), k + f = 9 → k ≤ 8 → p ≤ sz → s_Tp sz V d → d.1 t_Re 0 4 = (p : Int) → d.1 t_Re 0 7 = (k : Int) → s_row (d.1 t_reImg 0) k F → s_row (d.1 t_begins 0) k G → (∀ j, 1 ≤ j → j ≤ k → F j ≤ 999 ∧ G j ≤ sz) → ∃ d', q_ag s_TR d d' ∧ match s_rp sz V f k p F G with
    | .inl c => q_Ev m_Re_readNumbers 3 [q_r t_Re 0] [] (q_mk d b) (q_i (c : Int), q_mk d' b) ∧ 1 ≤ c ∧ c < 2000
    | .inr (n, F', G') => 2 ≤ n ∧ n ≤ 8 ∧ d'.1 t_Re 0 7 = (n : Int) ∧ s_row (d'.1 t_reImg 0) n F' ∧ s_row (d'.1 t_begins 0) n G' ∧ (∀ j, 1 ≤ j → j ≤ n → F' j ≤ 999 ∧ G' j ≤ sz) ∧ ∀ r v w2, q_Ev m_Re_faultOfNumbers 0 [q_r t_Re 0, none, none, none] [] (q_mk d' b) (v, w2) → q_Ev m_Re_readNumbers 47 [none] (v.toList ++ []) w2 r → q_Ev m_Re_readNumbers 3 [q_r t_Re 0] [] (q_mk d b) r
  | 0, k, p, F, G, d, hf, hk, _, _, _, _, _, _, _ => by omega
  | f + 1, k, p, F, G, d, hf, hk, hp, e, e4, e7, eF, eG, hB => by
    unfold s_rp
    have ft : q_Ev m_Re_fault 0 [q_r t_Re 0, q_i (d.1 t_Re 0 4), q_i 1] [] (q_mk d b) (q_i ((8 * p + 1 : Nat) : Int), q_mk d b) := by
      rw [e4]; exact c_Re_fault (k := 1) (by omega) (by omega)
    by_cases h1 : sz ≤ p
    · rw [if_pos h1]
      by_cases h2 : k < 2
      · rw [if_pos h2]
        refine ⟨d, q_ag_refl _ _, e_Re_readNumbers_3 ⟨fun _ => ⟨fun hh => ?_, fun _ => ⟨_, _, ft, e_Re_readNumbers_44 (e_Re_readNumbers_47 rfl)⟩⟩, fun hh => ?_⟩, by omega, by omega⟩
        · rw [e7] at hh; omega
        · rw [e4, e.1] at hh; omega
      · rw [if_neg h2]
        refine ⟨d, q_ag_refl _ _, by omega, hk, e7, eF, eG, hB, fun r v w2 v1 v2 => e_Re_readNumbers_3 ⟨fun _ => ⟨fun _ => ⟨_, _, v1, v2⟩, fun hh => ?_⟩, fun hh => ?_⟩⟩
        · rw [e7] at hh; omega
        · rw [e4, e.1] at hh; omega
    · rw [if_neg h1]
      have f20 : q_Ev m_Re_readNumbers 20 [q_r t_Re 0] [] (q_mk d b) (q_i ((8 * p + 1 : Nat) : Int), q_mk d b) := e_Re_readNumbers_20 ⟨_, _, ft, e_Re_readNumbers_25 rfl⟩
      by_cases h8 : k = 8
      · rw [if_pos (Or.inl h8)]
        refine ⟨d, q_ag_refl _ _, e_Re_readNumbers_3 ⟨fun hh => ?_, fun _ => ⟨fun _ => f20, fun hh => ?_⟩⟩, by omega, by omega⟩
        · rw [e4, e.1] at hh; omega
        · rw [e7] at hh; omega
      · have rn := c_Re_readNumber (i := k + 1) hz hp (by omega) (by omega) (b := b) e e4
        have ew : q_w (d.1 t_Re 0 7 + 1) = ((k + 1 : Nat) : Int) := by rw [e7, q_wS (by omega)]
        by_cases hd : s_nd sz V p = 0 ∨ s_nd sz V p = 3
        · rw [if_pos (Or.inr hd)]
          have rn1 := rn.1 hd
          rw [← ew] at rn1
          refine ⟨d, q_ag_refl _ _, e_Re_readNumbers_3 ⟨fun hh => ?_, fun _ => ⟨fun _ => f20, fun hh => ⟨_, _, rn1, e_Re_readNumbers_19 ⟨fun hx => absurd rfl hx, fun _ => f20⟩⟩⟩⟩, by omega, by omega⟩
          rw [e4, e.1] at hh; omega
        · rw [if_neg (fun hc => by rcases hc with hc | hc; exact h8 hc; exact hd hc)]
          have hsz := s_nd_sz (V := V) hp
          have hvl := (s_nv_le (s_nd sz V p) (s_nd_le sz V p) s_nd_dig.1).1
          have rn2 := rn.2 hd
          rw [← ew] at rn2
          have eT1 : s_Tp sz V (q_sI (q_sI (q_sI d t_reImg 0 (k + 1) (s_nv sz V p (s_nd sz V p) : Int)) t_begins 0 (k + 1) (p : Int)) t_Re 0 4 ((p + s_nd sz V p : Nat) : Int)) := ⟨by rw [q_sI_ne _ _ (by decide), q_sI_ne _ _ (by decide), q_sI_ne _ _ (by decide)]; exact e.1, fun j hj => by rw [q_sI_ne _ _ (by decide), q_sI_ne _ _ (by decide), q_sI_ne _ _ (by decide)]; exact e.2 j hj⟩
          have sk := c_Re_skip (p := p + s_nd sz V p) hz (b := b) hsz eT1 (by rw [q_sI_at, q_up_at])
          rw [s_sI_twice] at sk
          obtain ⟨d', a, hm⟩ := c_Re_numsGo (V := V) hz (b := b) f (k + 1) (s_sk sz V (p + s_nd sz V p)) (s_put F (k + 1) (s_nv sz V p (s_nd sz V p))) (s_put G (k + 1) p) (q_sI (q_sI (q_sI (q_sI d t_reImg 0 (k + 1) (s_nv sz V p (s_nd sz V p) : Int)) t_begins 0 (k + 1) (p : Int)) t_Re 0 4 (s_sk sz V (p + s_nd sz V p) : Int)) t_Re 0 7 ((k + 1 : Nat) : Int)) (by omega) (by omega) (s_sk_le hsz) ⟨by rw [q_sI_ne _ _ (by decide), q_sI_ne _ _ (by decide), q_sI_ne _ _ (by decide), q_sI_ne _ _ (by decide)]; exact e.1, fun j hj => by rw [q_sI_ne _ _ (by decide), q_sI_ne _ _ (by decide), q_sI_ne _ _ (by decide), q_sI_ne _ _ (by decide)]; exact e.2 j hj⟩ (by rw [q_sI_at, q_up_ne _ _ (by decide), q_sI_at, q_up_at]) (by rw [q_sI_at, q_up_at]) (fun j j1 j2 => by
            rw [q_sI_ne _ _ (by decide), q_sI_ne _ _ (by decide), q_sI_ne _ _ (by decide), q_sI_at]
            unfold s_put
            by_cases hj : j = k + 1
            · rw [hj, q_up_at, if_pos rfl]
            · rw [q_up_ne _ _ hj, if_neg hj]; exact eF j j1 (by omega)) (fun j j1 j2 => by
            rw [q_sI_ne _ _ (by decide), q_sI_ne _ _ (by decide), q_sI_at]
            unfold s_put
            by_cases hj : j = k + 1
            · rw [hj, q_up_at, if_pos rfl]
            · rw [q_up_ne _ _ hj, if_neg hj, q_sI_ne _ _ (by decide)]; exact eG j j1 (by omega)) (fun j j1 j2 => by
            unfold s_put
            by_cases hj : j = k + 1
            · rw [if_pos hj, if_pos hj]; exact ⟨hvl, by omega⟩
            · rw [if_neg hj, if_neg hj]; exact hB j j1 (by omega))
          have step : ∀ r, q_Ev m_Re_readNumbers 3 [q_r t_Re 0] [] (q_mk (q_sI (q_sI (q_sI (q_sI d t_reImg 0 (k + 1) (s_nv sz V p (s_nd sz V p) : Int)) t_begins 0 (k + 1) (p : Int)) t_Re 0 4 (s_sk sz V (p + s_nd sz V p) : Int)) t_Re 0 7 ((k + 1 : Nat) : Int)) b) r → q_Ev m_Re_readNumbers 3 [q_r t_Re 0] [] (q_mk d b) r := by
            intro r hr
            refine e_Re_readNumbers_3 ⟨fun hh => ?_, fun _ => ⟨fun hh => ?_, fun _ => ⟨_, _, rn2, e_Re_readNumbers_19 ⟨fun _ => ⟨_, _, sk, e_Re_readNumbers_28 ?_⟩, fun hx => absurd hx (by decide)⟩⟩⟩⟩
            · rw [e4, e.1] at hh; omega
            · rw [e7] at hh; omega
            · have e7' : (q_sI (q_sI (q_sI d t_reImg 0 (k + 1) (s_nv sz V p (s_nd sz V p) : Int)) t_begins 0 (k + 1) (p : Int)) t_Re 0 4 (s_sk sz V (p + s_nd sz V p) : Int)).1 t_Re 0 7 = (k : Int) := by
                rw [q_sI_at, q_up_ne _ _ (by decide), q_sI_ne _ _ (by decide), q_sI_ne _ _ (by decide)]; exact e7
              rw [e7', q_wS (by omega)]
              exact hr
          refine ⟨d', q_ag_tr (q_ag_tr (q_ag_sI (by decide)) (q_ag_tr (q_ag_sI (by decide)) (q_ag_tr (q_ag_sI (by decide)) (q_ag_sI (by decide))))) a, ?_⟩
          cases hrp : s_rp sz V f (k + 1) (s_sk sz V (p + s_nd sz V p)) (s_put F (k + 1) (s_nv sz V p (s_nd sz V p))) (s_put G (k + 1) p) with
          | inl c => rw [hrp] at hm; exact ⟨step _ hm.1, hm.2⟩
          | inr o =>
            obtain ⟨n, F', G'⟩ := o
            rw [hrp] at hm
            exact ⟨hm.1, hm.2.1, hm.2.2.1, hm.2.2.2.1, hm.2.2.2.2.1, hm.2.2.2.2.2.1, fun r v w2 v1 v2 => step r (hm.2.2.2.2.2.2 r v w2 v1 v2)⟩
