/-! the class's cluster, its squares -/
def s_cN (K : Nat → Nat) : Nat → Nat → Bool
  | 0 => fun _ => false
  | i + 1 => s_ins (s_cN K i) (K (i + 1))
def s_cB (n : Nat) (L : List Nat) (c : Nat → Bool) : Nat → Bool := match L with
  | [] => c
  | s :: R => s_cB n R (if (s_fl c).all (fun t => !s_cross s t n) then s_ins c s else c)
theorem s_cN_pc {K : Nat → Nat} {n k : Nat} (hK : ∀ i, 1 ≤ i → i ≤ n → K i < 256 ∧ q_pc (K i) = k) : ∀ i, i ≤ n → ∀ t, s_cN K i t = true → t < 256 ∧ q_pc t = k
  | 0, _, t, h => absurd (show false = true from h) (by decide)
  | i + 1, hi, t, h => by
    rw [s_cN, s_ins, Bool.or_eq_true] at h
    rcases h with h | h
    · rw [beq_iff_eq] at h; subst h; exact hK (i + 1) (by omega) hi
    · exact s_cN_pc hK i (by omega) t h
theorem s_ins_pc {c : Nat → Bool} {s k : Nat} (h : ∀ t, c t = true → t < 256 ∧ q_pc t = k) (hs : s < 256 ∧ q_pc s = k) : ∀ t, s_ins c s t = true → t < 256 ∧ q_pc t = k := by
  intro t ht
  rw [s_ins, Bool.or_eq_true] at ht
  rcases ht with ht | ht
  · rw [beq_iff_eq] at ht; subst ht; exact hs
  · exact h t ht
theorem s_cB_pc {n k : Nat} : ∀ (L : List Nat) (c : Nat → Bool), (∀ s ∈ L, s < 256 ∧ q_pc s = k) → (∀ t, c t = true → t < 256 ∧ q_pc t = k) → ∀ t, s_cB n L c t = true → t < 256 ∧ q_pc t = k
  | [], c, _, h, t, ht => h t ht
  | s :: R, c, hL, h, t, ht => by
    rw [s_cB] at ht
    refine s_cB_pc R _ (fun u hu => hL u (List.mem_cons_of_mem _ hu)) ?_ t ht
    split
    · exact s_ins_pc h (hL s (List.mem_cons_self ..))
    · exact h
theorem c_Co_layN {w n k : Nat} {K : Nat → Nat} (hn : n ≤ 8) (hk : k ≤ 8) (hK : ∀ i, 1 ≤ i → i ≤ n → K i < 256 ∧ q_pc (K i) = k) {b : Nat} : ∀ (f i : Nat) (d : qD), i + f = n → d.1 t_Ce 0 0 = (n : Int) → s_row (d.1 t_nl 0) n K → s_Co w (s_cN K i) d → ∃ d', (∀ r, q_Ev m_Co_layFor 19 [q_r t_Co w, q_r t_Ce 0, q_i 0] [] (q_mk d' b) r → q_Ev m_Co_layFor 5 [q_r t_Co w, q_r t_Ce 0, q_i ((i + 1 : Nat) : Int)] [] (q_mk d b) r) ∧ q_ag [t_Co, t_coSets] d d' ∧ s_Co w (s_cN K n) d' ∧ ∀ k', k' ≠ w → d'.1 t_coSets k' = d.1 t_coSets k' ∧ d'.1 t_Co k' = d.1 t_Co k'
  | 0, i, d, h, e0, eN, e => by
    have : i = n := by omega
    subst this
    refine ⟨d, fun r hr => e_Co_layFor_5 ⟨fun _ => hr, fun h2 => ?_⟩, q_ag_refl _ _, e, fun _ _ => ⟨rfl, rfl⟩⟩
    rw [e0] at h2; omega
  | f + 1, i, d, h, e0, eN, e => by
    have hKi := hK (i + 1) (by omega) (by omega)
    obtain ⟨d1, v1, a1, e1, o1⟩ := c_Co_add (k := w) (s := K (i + 1)) hKi.1 (s_fl_len hk (fun s hs => (s_ins_pc (s_cN_pc hK i (by omega)) hKi s hs).2)) (d := d) (b := b) e
    obtain ⟨d', v, a, r1, o2⟩ := c_Co_layN hn hk hK (b := b) f (i + 1) d1 (by omega) (by rw [a1.1 t_Ce (by decide), e0]) (by rw [a1.1 t_nl (by decide)]; exact eN) e1
    refine ⟨d', fun r hr => e_Co_layFor_5 ⟨fun h2 => ?_, fun _ => ⟨by omega, by omega, ?_⟩⟩, q_ag_tr a1 a, r1, fun k' hk' => ⟨?_, ?_⟩⟩
    · rw [e0] at h2; omega
    · rw [Int.toNat_natCast, eN (i + 1) (by omega) (by omega)]
      refine ⟨_, _, v1, e_Co_layFor_15 ?_⟩
      rw [q_wS (by omega)]; exact v r hr
    · rw [(o2 k' hk').1, (o1 k' hk').1]
    · rw [(o2 k' hk').2, (o1 k' hk').2]
theorem c_Co_layB {w n k : Nat} {L : List Nat} (hn : n ≤ 8) (hk : k ≤ 8) (hL : L.length ≤ 70) (hL2 : ∀ s ∈ L, s < 256 ∧ q_pc s = k) {b : Nat} : ∀ (R : List Nat) (i : Nat) (c : Nat → Bool) (d : qD), L.drop i = R → i ≤ L.length → (∀ t, c t = true → t < 256 ∧ q_pc t = k) → d.1 t_Ce 0 0 = (n : Int) → d.1 t_Ce 0 3 = (L.length : Int) → s_lst (d.1 t_bl 0) L → s_Co w c d → ∃ d', q_Ev m_Co_layFor 19 [q_r t_Co w, q_r t_Ce 0, q_i (i : Int)] [] (q_mk d b) (none, q_mk d' b) ∧ q_ag [t_Co, t_coSets] d d' ∧ s_Co w (s_cB n R c) d' ∧ ∀ k', k' ≠ w → d'.1 t_coSets k' = d.1 t_coSets k' ∧ d'.1 t_Co k' = d.1 t_Co k'
  | [], i, c, d, h, hi, hc, e0, e3, eL, e => by
    have := s_drop_nil h
    exact ⟨d, e_Co_layFor_19 ⟨fun _ => rfl, fun h2 => by omega⟩, q_ag_refl _ _, e, fun _ _ => ⟨rfl, rfl⟩⟩
  | s :: R, i, c, d, h, hi, hc, e0, e3, eL, e => by
    obtain ⟨h1, h2, h3⟩ := s_drop_cons h
    have hs := hL2 s (by rw [← List.take_append_drop i L, h]; simp)
    have hcl := s_fl_len hk (fun t ht => (hc t ht).2)
    have cn := c_Co_crossesNone (k := w) hn hs.1 hcl (b := b) e
    rw [s_cB]
    by_cases hq : (s_fl c).all (fun t => !s_cross s t n) = true
    · obtain ⟨d1, v1, a1, e1, o1⟩ := c_Co_add (k := w) (s := s) hs.1 (s_fl_len hk (fun t ht => (s_ins_pc hc hs t ht).2)) (d := d) (b := b) e
      obtain ⟨d', v, a, r1, o2⟩ := c_Co_layB (w := w) hn hk hL hL2 (b := b) R (i + 1) (s_ins c s) d1 h3 (by omega) (s_ins_pc hc hs) (by rw [a1.1 t_Ce (by decide), e0]) (by rw [a1.1 t_Ce (by decide), e3]) (by rw [a1.1 t_bl (by decide)]; exact eL) e1
      rw [if_pos hq]
      refine ⟨d', e_Co_layFor_19 ⟨fun h2 => by omega, fun _ => ⟨by omega, by omega, ?_⟩⟩, q_ag_tr a1 a, r1, fun k' hk' => ⟨?_, ?_⟩⟩
      · rw [Int.toNat_natCast, eL i h1, h2, e0]
        refine ⟨_, _, cn, ?_⟩
        rw [hq]
        refine e_Co_layFor_31 ⟨fun h4 => absurd h4 (by decide), fun _ => ⟨by omega, by omega, ?_⟩⟩
        rw [Int.toNat_natCast, eL i h1, h2]
        refine ⟨_, _, v1, e_Co_layFor_38 ?_⟩
        rw [q_wS (by omega)]; exact v
      · rw [(o2 k' hk').1, (o1 k' hk').1]
      · rw [(o2 k' hk').2, (o1 k' hk').2]
    · have hq2 : (s_fl c).all (fun t => !s_cross s t n) = false := by simpa using hq
      obtain ⟨d', v, a, r1, o2⟩ := c_Co_layB (w := w) hn hk hL hL2 (b := b) R (i + 1) c d h3 (by omega) hc e0 e3 eL e
      rw [if_neg hq]
      refine ⟨d', e_Co_layFor_19 ⟨fun h2 => by omega, fun _ => ⟨by omega, by omega, ?_⟩⟩, a, r1, o2⟩
      rw [Int.toNat_natCast, eL i h1, h2, e0]
      refine ⟨_, _, cn, ?_⟩
      rw [hq2]
      refine e_Co_layFor_31 ⟨fun _ => e_Co_layFor_38 ?_, fun h4 => absurd rfl h4⟩
      rw [q_wS (by omega)]; exact v
theorem c_Co_layFor {w n k : Nat} {K : Nat → Nat} {L : List Nat} (hn : n ≤ 8) (hk : k ≤ 8) (hK : ∀ i, 1 ≤ i → i ≤ n → K i < 256 ∧ q_pc (K i) = k) (hL : L.length ≤ 70) (hL2 : ∀ s ∈ L, s < 256 ∧ q_pc s = k) {d : qD} {b : Nat} (e0 : d.1 t_Ce 0 0 = (n : Int)) (e3 : d.1 t_Ce 0 3 = (L.length : Int)) (eN : s_row (d.1 t_nl 0) n K) (eL : s_lst (d.1 t_bl 0) L) : ∃ d', q_Ev m_Co_layFor 0 [q_r t_Co w, q_r t_Ce 0, none] [] (q_mk d b) (none, q_mk d' b) ∧ q_ag [t_Co, t_coSets] d d' ∧ s_Co w (s_cB n L (s_cN K n)) d' ∧ ∀ k', k' ≠ w → d'.1 t_coSets k' = d.1 t_coSets k' ∧ d'.1 t_Co k' = d.1 t_Co k' := by
  have em : s_fl (s_cN K 0) = [] := by
    unfold s_fl
    rw [List.filter_eq_nil_iff]
    intro a _ h
    exact absurd (show false = true from h) (by decide)
  obtain ⟨d1, v1, a1, e1, o1⟩ := c_Co_layN (w := w) hn hk hK (b := b) n 0 (q_sI d t_Co w 1 0) (by omega) (by rw [q_sI_ne _ _ (by decide), e0]) (by rw [q_sI_ne _ _ (by decide)]; exact eN) ⟨by rw [q_sI_at, q_up_at, em]; rfl, by rw [em]; exact fun j hj => absurd hj (Nat.not_lt_zero j)⟩
  obtain ⟨d', v, a, r1, o2⟩ := c_Co_layB (w := w) hn hk hL hL2 (b := b) L 0 (s_cN K n) d1 rfl (by omega) (s_cN_pc hK n (Nat.le_refl n)) (by rw [a1.1 t_Ce (by decide), q_sI_ne _ _ (by decide), e0]) (by rw [a1.1 t_Ce (by decide), q_sI_ne _ _ (by decide), e3]) (by rw [a1.1 t_bl (by decide), q_sI_ne _ _ (by decide)]; exact eL) e1
  refine ⟨d', e_Co_layFor_0 (v1 _ v), q_ag_tr (q_ag_sI (by decide)) (q_ag_tr a1 a), r1, fun k' hk' => ⟨?_, ?_⟩⟩
  · rw [(o2 k' hk').1, (o1 k' hk').1, q_sI_ne _ _ (by decide)]
  · rw [(o2 k' hk').2, (o1 k' hk').2, q_sI_ni _ _ hk']
/-- the first that answers: fuel, from -/
def s_fst (h : Nat → Option Nat) : Nat → Nat → Option Nat
  | 0, _ => none
  | f + 1, i => match h i with
    | some y => some y
    | none => s_fst h f (i + 1)
def s_oi (o : Option Nat) : Int := match o with
  | some v => (v : Int)
  | none => -2
/-- the four corners of a square -/
def s_crn (cl : Nat → Bool) (e a b c d : Nat) : Bool := cl (s_with (s_with e a) b) && (cl (s_with (s_with e b) c) && (cl (s_with (s_with e c) d) && cl (s_with (s_with e a) d)))
theorem c_Co_hasCorners {w : Nat} {cl : Nat → Bool} {e a c x y : Nat} (he : e < 256) (ha : 1 ≤ a) (ha2 : a ≤ 8) (hc : 1 ≤ c) (hc2 : c ≤ 8) (hx : 1 ≤ x) (hx2 : x ≤ 8) (hy : 1 ≤ y) (hy2 : y ≤ 8) (hL : (s_fl cl).length ≤ 70) {d : qD} {b : Nat} (ec : s_Co w cl d) : q_Ev m_Co_hasCorners 0 [q_r t_Co w, q_i (e : Int), q_i (a : Int), q_i (x : Int), q_i (c : Int), q_i (y : Int)] [] (q_mk d b) (q_i (q_b2i (s_crn cl e a x c y)), q_mk d b) := by
  have pa := s_p2 ha2
  have pc := s_p2 hc2
  have px := s_p2 hx2
  have py := s_p2 hy2
  have w1 : ∀ {l}, l ≤ 8 → s_with e l < 256 := fun h => s_with_lt he h
  have w2 : ∀ {l m}, l ≤ 8 → m ≤ 8 → s_with (s_with e l) m < 256 := fun h h2 => s_with_lt (s_with_lt he h) h2
  have cn : ∀ {l m : Nat}, l ≤ 8 → m ≤ 8 → q_Ev m_Co_contains 0 [q_r t_Co w, q_i (s_with (s_with e l) m : Int), none] [] (q_mk d b) (q_i (q_b2i (cl (s_with (s_with e l) m))), q_mk d b) := by
    intro l m hl hm
    have := c_Co_contains (x := (s_with (s_with e l) m : Int)) hL (b := b) ec
    rw [s_in_nat (w2 hl hm)] at this
    exact this
  have no : s_crn cl e a x c y = false → q_Ev m_Co_hasCorners 42 [none, none, none, none, none, none] [] (q_mk d b) (q_i (q_b2i (s_crn cl e a x c y)), q_mk d b) := by
    intro h
    rw [h]
    exact e_Co_hasCorners_42 (e_Co_hasCorners_43 ⟨by decide, by decide, rfl⟩)
  have or2 : ∀ {l m : Nat}, l ≤ 8 → m ≤ 8 → q_or (q_or (e : Int) ((2 ^ (l - 1) : Nat) : Int)) ((2 ^ (m - 1) : Nat) : Int) = (s_with (s_with e l) m : Int) := by
    intro l m hl hm
    have h1 := s_p2 hl
    have h2 := s_p2 hm
    have h3 := w1 hl
    rw [q_or_nat (by omega) (by omega), show e ||| 2 ^ (l - 1) = s_with e l from rfl, q_or_nat (by omega) (by omega)]
    rfl
  unfold s_crn at no ⊢
  refine e_Co_hasCorners_0 ⟨_, _, c_Se_only ha (by omega), e_Co_hasCorners_4 ⟨_, _, c_Se_only hx (by omega), e_Co_hasCorners_7 ?_⟩⟩
  rw [or2 ha2 hx2]
  refine ⟨_, _, cn ha2 hx2, e_Co_hasCorners_9 ⟨fun h => no ?_, fun h => ?_⟩⟩
  · rw [q_b2i_f h, Bool.false_and]
  rw [q_b2i_t h, Bool.true_and] at no ⊢
  refine ⟨_, _, c_Se_only hx (by omega), e_Co_hasCorners_14 ⟨_, _, c_Se_only hc (by omega), e_Co_hasCorners_17 ?_⟩⟩
  rw [or2 hx2 hc2]
  refine ⟨_, _, cn hx2 hc2, e_Co_hasCorners_19 ⟨fun h => no ?_, fun h => ?_⟩⟩
  · rw [q_b2i_f h, Bool.false_and]
  rw [q_b2i_t h, Bool.true_and] at no ⊢
  refine ⟨_, _, c_Se_only hc (by omega), e_Co_hasCorners_24 ⟨_, _, c_Se_only hy (by omega), e_Co_hasCorners_27 ?_⟩⟩
  rw [or2 hc2 hy2]
  refine ⟨_, _, cn hc2 hy2, e_Co_hasCorners_29 ⟨fun h => no ?_, fun h => ?_⟩⟩
  · rw [q_b2i_f h, Bool.false_and]
  rw [q_b2i_t h, Bool.true_and] at no ⊢
  refine ⟨_, _, c_Se_only ha (by omega), e_Co_hasCorners_34 ⟨_, _, c_Se_only hy (by omega), e_Co_hasCorners_37 ?_⟩⟩
  rw [or2 ha2 hy2]
  refine ⟨_, _, cn ha2 hy2, e_Co_hasCorners_39 ⟨fun h => no (q_b2i_f h), fun h => ?_⟩⟩
  rw [q_b2i_t h]
  exact e_Co_hasCorners_43 ⟨by decide, by decide, rfl⟩
/-- the way a square may go, by its last corner -/
def s_mvd (cl : Nat → Bool) (x e a c y z : Nat) : Option Nat := if (decide (z < a) || decide (c < z)) && (!q_hl x y && (!q_hl x z && s_crn cl e a y c z)) then some (s_with (s_with e y) z) else none
def s_mvc (n : Nat) (cl : Nat → Bool) (x a c : Nat) : Option Nat := s_fst (fun y => s_fst (s_mvd cl x (s_wo (s_wo x a) c) a c y) n 1) (c - a - 1) (a + 1)
theorem s_mvd_lt {cl : Nat → Bool} {x e a c y z : Nat} (he : e < 256) (hy : y ≤ 8) (hz : z ≤ 8) {v : Nat} (h : s_mvd cl x e a c y z = some v) : v < 256 := by
  unfold s_mvd at h
  split at h
  · injection h with h; subst h; exact s_with_lt (s_with_lt he hy) hz
  · cases h
theorem c_Co_movedAtD {w n x e a c y : Nat} {cl : Nat → Bool} (hn : n ≤ 8) (hx : x < 256) (he : e < 256) (ha : 1 ≤ a) (hay : a < y) (hyc : y < c) (hc : c ≤ n) (hL : (s_fl cl).length ≤ 70) {d : qD} {b : Nat} (ec : s_Co w cl d) {r : Option qV × qW} : ∀ (f z : Nat), z + f = n + 1 → 1 ≤ z → (∀ v, s_fst (s_mvd cl x e a c y) f z = some v → r = (q_i (v : Int), q_mk d b)) → (s_fst (s_mvd cl x e a c y) f z = none → q_Ev m_Co_movedAt 16 [q_r t_Co w, q_i (x : Int), q_i (a : Int), q_i (c : Int), q_i (n : Int), q_i (e : Int), q_i ((y + 1 : Nat) : Int), none, none] [] (q_mk d b) r) → q_Ev m_Co_movedAt 21 [q_r t_Co w, q_i (x : Int), q_i (a : Int), q_i (c : Int), q_i (n : Int), q_i (e : Int), q_i (y : Int), q_i (z : Int), none] [] (q_mk d b) r
  | 0, z, h, hz, h1, h2 => by
    refine e_Co_movedAt_21 ⟨fun _ => ?_, fun h3 => by omega⟩
    rw [q_wS (by omega)]; exact h2 rfl
  | f + 1, z, h, hz, h1, h2 => by
    rw [s_fst] at h1 h2
    have nx : s_mvd cl x e a c y z = none → q_Ev m_Co_movedAt 60 [q_r t_Co w, q_i (x : Int), q_i (a : Int), q_i (c : Int), q_i (n : Int), q_i (e : Int), q_i (y : Int), q_i (z : Int), none] [] (q_mk d b) r := by
      intro hno
      rw [hno] at h1 h2
      refine e_Co_movedAt_60 ?_
      rw [q_wS (by omega)]
      exact c_Co_movedAtD hn hx he ha hay hyc hc hL ec f (z + 1) (by omega) (by omega) h1 h2
    have k30 : (z < a ∨ c < z) → q_Ev m_Co_movedAt 33 [q_r t_Co w, q_i (x : Int), q_i (a : Int), q_i (c : Int), q_i (n : Int), q_i (e : Int), q_i (y : Int), q_i (z : Int), none] [.inl 1] (q_mk d b) r := by
      intro ho
      have ho2 : (decide (z < a) || decide (c < z)) = true := by rw [Bool.or_eq_true, decide_eq_true_iff, decide_eq_true_iff]; exact ho
      unfold s_mvd at h1 nx
      rw [ho2, Bool.true_and] at h1 nx
      refine e_Co_movedAt_33 ⟨fun h3 => absurd h3 (by decide), fun _ => ⟨_, _, c_Se_holds (by omega) (by omega) (by omega), e_Co_movedAt_39 ⟨fun h3 => nx ?_, fun h3 => ?_⟩⟩⟩
      · rw [q_b2i_t h3, Bool.not_true, Bool.false_and]; rfl
      rw [q_b2i_f h3, Bool.not_false, Bool.true_and] at h1 nx
      refine ⟨_, _, c_Se_holds (by omega) hz (by omega), e_Co_movedAt_43 ⟨fun h3 => nx ?_, fun h3 => ?_⟩⟩
      · rw [q_b2i_t h3, Bool.not_true, Bool.false_and]; rfl
      rw [q_b2i_f h3, Bool.not_false, Bool.true_and] at h1 nx
      refine ⟨_, _, c_Co_hasCorners he ha (by omega) (by omega) (by omega) (by omega) (by omega) hz (by omega) hL ec, e_Co_movedAt_51 ⟨fun h3 => nx ?_, fun h3 => ?_⟩⟩
      · rw [q_b2i_f h3]; rfl
      rw [q_b2i_t h3, if_pos rfl] at h1
      have py := s_p2 (l := y) (by omega)
      have pz := s_p2 (l := z) (by omega)
      have hw := s_with_lt (l := y) he (by omega)
      refine ⟨_, _, c_Se_only (by omega) (by omega), e_Co_movedAt_55 ⟨_, _, c_Se_only hz (by omega), e_Co_movedAt_58 ?_⟩⟩
      rw [q_or_nat (by omega) (by omega), show e ||| 2 ^ (y - 1) = s_with e y from rfl, q_or_nat (by omega) (by omega)]
      exact h1 _ rfl
    refine e_Co_movedAt_21 ⟨fun h3 => by omega, fun _ => ⟨fun h3 => e_Co_movedAt_30 (k30 (by omega)), fun h3 => ⟨fun h4 => ?_, fun h4 => e_Co_movedAt_30 (k30 (by omega))⟩⟩⟩
    refine e_Co_movedAt_33 ⟨fun _ => nx ?_, fun h5 => absurd rfl h5⟩
    unfold s_mvd
    rw [decide_eq_false (by omega), decide_eq_false (by omega)]
    rfl
theorem c_Co_movedAtB {w n x e a c : Nat} {cl : Nat → Bool} (hn : n ≤ 8) (hx : x < 256) (he : e < 256) (ha : 1 ≤ a) (hc : c ≤ n) (hL : (s_fl cl).length ≤ 70) {d : qD} {b : Nat} (ec : s_Co w cl d) : ∀ (f y : Nat), f = c - y → a < y → q_Ev m_Co_movedAt 16 [q_r t_Co w, q_i (x : Int), q_i (a : Int), q_i (c : Int), q_i (n : Int), q_i (e : Int), q_i (y : Int), none, none] [] (q_mk d b) (q_i (s_oi (s_fst (fun y => s_fst (s_mvd cl x e a c y) n 1) f y)), q_mk d b)
  | 0, y, h, hy => e_Co_movedAt_16 ⟨fun _ => rfl, fun h3 => by omega⟩
  | f + 1, y, h, hy => by
    refine e_Co_movedAt_16 ⟨fun h3 => by omega, fun _ => ?_⟩
    refine c_Co_movedAtD hn hx he ha hy (by omega) hc hL ec n 1 (by omega) (by omega) (fun v hv => ?_) (fun hv => ?_)
    · rw [s_fst, hv]; rfl
    · rw [s_fst, hv]
      exact c_Co_movedAtB hn hx he ha hc hL ec f (y + 1) (by omega) (by omega)
theorem c_Co_movedAt {w n x a c : Nat} {cl : Nat → Bool} (hn : n ≤ 8) (hx : x < 256) (ha : 1 ≤ a) (hac : a + 2 ≤ c) (hc : c ≤ n) (hL : (s_fl cl).length ≤ 70) {d : qD} {b : Nat} (ec : s_Co w cl d) : q_Ev m_Co_movedAt 0 [q_r t_Co w, q_i (x : Int), q_i (a : Int), q_i (c : Int), q_i (n : Int), none, none, none, none] [] (q_mk d b) (q_i (s_oi (s_mvc n cl x a c)), q_mk d b) := by
  have pa := s_p2 (l := a) (by omega)
  have pc := s_p2 (l := c) (by omega)
  have h1 := s_wo_lt (l := a) hx
  have h2 := s_wo_lt (l := c) h1
  refine e_Co_movedAt_0 ⟨_, _, c_Se_only ha (by omega), e_Co_movedAt_3 ⟨_, _, c_Se_only (by omega) (by omega), e_Co_movedAt_8 ?_⟩⟩
  rw [q_andn_nat (by omega) (by omega), show q_dif x (2 ^ (a - 1)) = s_wo x a from rfl, q_andn_nat (by omega) (by omega), show q_dif (s_wo x a) (2 ^ (c - 1)) = s_wo (s_wo x a) c from rfl, q_wS (by omega)]
  exact c_Co_movedAtB hn hx h2 ha hc hL ec (c - a - 1) (a + 1) (by omega) (by omega)
/-- the set that a move lays for one -/
def s_mv (n : Nat) (cl : Nat → Bool) (x : Nat) : Option Nat := s_fst (fun a => s_fst (fun c => if q_hl x a && q_hl x c then s_mvc n cl x a c else none) (n - a - 1) (a + 2)) n 1
def s_mvx (n : Nat) (K : Nat → Nat) (cl : Nat → Bool) (x : Int) : Option Nat := if s_in cl x && !s_ofN K x n 1 then s_mv n cl x.toNat else none
theorem c_Co_movedFromC {w n x a : Nat} {cl : Nat → Bool} (hn : n ≤ 8) (hx : x < 256) (ha : 1 ≤ a) (han : a ≤ n) (hL : (s_fl cl).length ≤ 70) {d : qD} {b : Nat} (e0 : d.1 t_Ce 0 0 = (n : Int)) (ec : s_Co w cl d) {r : Option qV × qW} : ∀ (f c : Nat), f = n + 1 - c → a + 2 ≤ c → (∀ v, s_fst (fun c => if q_hl x a && q_hl x c then s_mvc n cl x a c else none) f c = some v → r = (q_i (v : Int), q_mk d b)) → (s_fst (fun c => if q_hl x a && q_hl x c then s_mvc n cl x a c else none) f c = none → q_Ev m_Co_movedFrom 12 [q_r t_Co w, q_i (x : Int), q_r t_Ce 0, q_i ((a + 1 : Nat) : Int), none, none] [] (q_mk d b) r) → q_Ev m_Co_movedFrom 20 [q_r t_Co w, q_i (x : Int), q_r t_Ce 0, q_i (a : Int), q_i (c : Int), none] [] (q_mk d b) r
  | 0, c, h, hc, h1, h2 => by
    refine e_Co_movedFrom_20 ⟨fun _ => ?_, fun h3 => ?_⟩
    · rw [q_wS (by omega)]; exact h2 rfl
    · rw [e0] at h3; omega
  | f + 1, c, h, hc, h1, h2 => by
    rw [s_fst] at h1 h2
    have nx : (if q_hl x a && q_hl x c then s_mvc n cl x a c else none) = none → q_Ev m_Co_movedFrom 45 [q_r t_Co w, q_i (x : Int), q_r t_Ce 0, q_i (a : Int), q_i (c : Int), none] [] (q_mk d b) r := by
      intro hno
      rw [hno] at h1 h2
      refine e_Co_movedFrom_45 ?_
      rw [q_wS (by omega)]
      exact c_Co_movedFromC hn hx ha han hL e0 ec f (c + 1) (by omega) (by omega) h1 h2
    refine e_Co_movedFrom_20 ⟨fun h3 => ?_, fun _ => ⟨_, _, c_Se_holds (by omega) ha (by omega), e_Co_movedFrom_27 ⟨fun h3 => nx ?_, fun h3 => ?_⟩⟩⟩
    · rw [e0] at h3; omega
    · rw [q_b2i_f h3]; rfl
    rw [q_b2i_t h3, Bool.true_and] at h1 nx
    refine ⟨_, _, c_Se_holds (by omega) (by omega) (by omega), e_Co_movedFrom_31 ⟨fun h3 => nx ?_, fun h3 => ?_⟩⟩
    · rw [q_b2i_f h3]; rfl
    rw [q_b2i_t h3, if_pos rfl] at h1 nx
    rw [e0]
    refine ⟨_, _, c_Co_movedAt hn hx ha hc (by omega) hL ec, e_Co_movedFrom_39 ?_⟩
    cases hv : s_mvc n cl x a c with
    | none => exact ⟨fun _ => nx hv, fun h4 => absurd rfl h4⟩
    | some v =>
      rw [hv] at h1
      exact ⟨fun h4 => absurd h4 (by unfold s_oi; dsimp only; omega), fun _ => h1 v rfl⟩
theorem c_Co_movedFromA {w n x : Nat} {cl : Nat → Bool} (hn : n ≤ 8) (hx : x < 256) (hL : (s_fl cl).length ≤ 70) {d : qD} {b : Nat} (e0 : d.1 t_Ce 0 0 = (n : Int)) (ec : s_Co w cl d) : ∀ (f a : Nat), a + f = n + 1 → 1 ≤ a → q_Ev m_Co_movedFrom 12 [q_r t_Co w, q_i (x : Int), q_r t_Ce 0, q_i (a : Int), none, none] [] (q_mk d b) (q_i (s_oi (s_fst (fun a => s_fst (fun c => if q_hl x a && q_hl x c then s_mvc n cl x a c else none) (n - a - 1) (a + 2)) f a)), q_mk d b)
  | 0, a, h, ha => by
    refine e_Co_movedFrom_12 ⟨fun _ => rfl, fun h3 => ?_⟩
    rw [e0] at h3; omega
  | f + 1, a, h, ha => by
    refine e_Co_movedFrom_12 ⟨fun h3 => ?_, fun _ => ?_⟩
    · rw [e0] at h3; omega
    · rw [show q_w ((a : Int) + 2) = ((a + 2 : Nat) : Int) by rw [q_w_id (by omega) (by omega)]; omega]
      refine c_Co_movedFromC hn hx ha (by omega) hL e0 ec (n - a - 1) (a + 2) (by omega) (Nat.le_refl _) (fun v hv => ?_) (fun hv => ?_)
      · rw [s_fst, hv]; rfl
      · rw [s_fst, hv]
        exact c_Co_movedFromA hn hx hL e0 ec f (a + 1) (by omega) (by omega)
theorem c_Co_movedFrom {w n : Nat} {K : Nat → Nat} {cl : Nat → Bool} {x : Int} (hn : n ≤ 8) (hL : (s_fl cl).length ≤ 70) {d : qD} {b : Nat} (e0 : d.1 t_Ce 0 0 = (n : Int)) (eN : s_row (d.1 t_nl 0) n K) (ec : s_Co w cl d) : q_Ev m_Co_movedFrom 0 [q_r t_Co w, q_i x, q_r t_Ce 0, none, none, none] [] (q_mk d b) (q_i (s_oi (s_mvx n K cl x)), q_mk d b) := by
  unfold s_mvx
  refine e_Co_movedFrom_0 ⟨_, _, c_Co_contains hL ec, e_Co_movedFrom_3 ⟨fun h => ?_, fun h => ⟨_, _, c_Ce_isOfNecklace hn e0 eN, e_Co_movedFrom_7 ⟨fun h2 => ?_, fun h2 => ?_⟩⟩⟩⟩
  · rw [q_b2i_f h]; exact e_Co_movedFrom_8 rfl
  · have ht := q_b2i_t h
    rw [ht, q_b2i_f h2]
    unfold s_in at ht
    rw [Bool.and_eq_true, decide_eq_true_iff] at ht
    obtain ⟨s, rfl⟩ : ∃ s : Nat, x = (s : Int) := ⟨x.toNat, by omega⟩
    rw [Int.toNat_natCast]
    exact c_Co_movedFromA hn (by omega) hL e0 ec n 1 (by omega) (by omega)
  · rw [q_b2i_t h, q_b2i_t h2]; exact e_Co_movedFrom_8 rfl
