/-! the class's parts: what hangs together -/
def s_EL (L : List Nat) (B : Nat → Bool) (a l : Nat) : Bool := L.any (fun s => q_hl s a && (!q_hl s l && B (s_with (s_wo s a) l)))
theorem c_Ce_exIn {n a s k : Nat} {B : Nat → Bool} (hn : n ≤ 8) (ha1 : 1 ≤ a) (ha : a ≤ n) (hk : k < 70) (hs : s < 2 ^ n) (hB : ∀ s, B s = true → s < 2 ^ n) {d : qD} {b : Nat} (e0 : d.1 t_Ce 0 0 = (n : Int)) (eB : ∀ j, j < 256 → d.1 t_inB 0 j = q_b2i (B j)) (eL : d.1 t_bl 0 k = (s : Int)) : ∀ (f c fo : Nat), c + f = n + 1 → 1 ≤ c → fo < 2 ^ n → ∃ fo' : Nat, fo' < 2 ^ n ∧ (∀ r, q_Ev m_Ce_exchangeable 52 [q_r t_Ce 0, q_i (a : Int), q_i (fo' : Int), q_i (k : Int), none] [] (q_mk d b) r → q_Ev m_Ce_exchangeable 17 [q_r t_Ce 0, q_i (a : Int), q_i (fo : Int), q_i (k : Int), q_i (c : Int)] [] (q_mk d b) r) ∧ ∀ l, 1 ≤ l → l ≤ 8 → q_hl fo' l = (q_hl fo l || (decide (c ≤ l ∧ l ≤ n) && (!q_hl s l && B (s_with (s_wo s a) l)))) := by
  have hp := s_p8 hn
  intro f
  induction f with
  | zero =>
    intro c fo h h1 hf
    refine ⟨fo, hf, fun r hr => e_Ce_exchangeable_17 ⟨fun _ => hr, fun h2 => ?_⟩, fun l hl hl2 => ?_⟩
    · rw [e0] at h2; omega
    · rw [decide_eq_false (by omega), Bool.false_and, Bool.or_false]
  | succ f ih =>
    intro c fo h h1 hf
    have hpc := s_p2 (l := c) (by omega)
    have hpa := s_p2 (l := a) (by omega)
    have hor : s ||| fo < 256 := Nat.or_lt_two_pow (n := 8) (by omega) (by omega)
    have hwl : q_dif s (2 ^ (a - 1)) < 256 := q_dif_lt (k := 8) (by omega)
    have key : ∀ (fo2 : Nat), fo2 < 2 ^ n → (q_hl fo2 c = (q_hl fo c || (!q_hl s c && B (s_with (s_wo s a) c)))) → (∀ l, 1 ≤ l → l ≠ c → q_hl fo2 l = q_hl fo l) → ∃ fo' : Nat, fo' < 2 ^ n ∧ (∀ r, q_Ev m_Ce_exchangeable 52 [q_r t_Ce 0, q_i (a : Int), q_i (fo' : Int), q_i (k : Int), none] [] (q_mk d b) r → q_Ev m_Ce_exchangeable 50 [q_r t_Ce 0, q_i (a : Int), q_i (fo2 : Int), q_i (k : Int), q_i (c : Int)] [] (q_mk d b) r) ∧ ∀ l, 1 ≤ l → l ≤ 8 → q_hl fo' l = (q_hl fo l || (decide (c ≤ l ∧ l ≤ n) && (!q_hl s l && B (s_with (s_wo s a) l)))) := by
      intro fo2 hf2 hc hne
      obtain ⟨fo', g1, g2, g3⟩ := ih (c + 1) fo2 (by omega) (by omega) hf2
      refine ⟨fo', g1, fun r hr => e_Ce_exchangeable_50 ?_, fun l hl hl2 => ?_⟩
      · rw [q_wS (by omega)]; exact g2 r hr
      · rw [g3 l hl hl2]
        by_cases hq : l = c
        · subst hq
          rw [hc, decide_eq_false (by omega), Bool.false_and, Bool.or_false, decide_eq_true (by omega), Bool.true_and]
        · rw [hne l hl hq]
          congr 2
          exact decide_eq_decide.mpr ⟨fun h => by omega, fun h => by omega⟩
    by_cases hA : q_hl (s ||| fo) c = true
    · obtain ⟨fo', g1, g2, g3⟩ := key fo hf (by
        rw [q_hl_or] at hA
        cases hx : q_hl fo c
        · rw [hx, Bool.or_false] at hA; rw [hA]; rfl
        · rfl) (fun _ _ _ => rfl)
      refine ⟨fo', g1, fun r hr => e_Ce_exchangeable_17 ⟨fun h2 => ?_, fun _ => ⟨by omega, by omega, ?_⟩⟩, g3⟩
      · rw [e0] at h2; omega
      · rw [Int.toNat_natCast, eL, q_or_nat (by omega) (by omega)]
        refine ⟨_, _, c_Se_holds (by omega) h1 (by omega), ?_⟩
        rw [hA]
        exact e_Ce_exchangeable_29 ⟨fun _ => g2 r hr, fun h2 => absurd h2 (by decide)⟩
    · have hA2 : q_hl (s ||| fo) c = false := by simpa using hA
      have hA3 := hA2
      rw [q_hl_or] at hA3
      simp only [Bool.or_eq_false_iff] at hA3
      by_cases hC : B (s_with (s_wo s a) c) = true
      · obtain ⟨fo', g1, g2, g3⟩ := key (s_with fo c) (s_with_ltn hf h1 (by omega)) (by
          rw [s_with_hl h1 h1, hA3.1, hA3.2, hC]; simp) (fun l hl hne => by
          rw [s_with_hl h1 hl, decide_eq_false hne, Bool.or_false])
        refine ⟨fo', g1, fun r hr => e_Ce_exchangeable_17 ⟨fun h2 => ?_, fun _ => ⟨by omega, by omega, ?_⟩⟩, g3⟩
        · rw [e0] at h2; omega
        · rw [Int.toNat_natCast, eL, q_or_nat (by omega) (by omega)]
          refine ⟨_, _, c_Se_holds (by omega) h1 (by omega), ?_⟩
          rw [hA2]
          refine e_Ce_exchangeable_29 ⟨fun h2 => absurd rfl h2, fun _ => ⟨by omega, by omega, _, _, c_Se_only ha1 (by omega), e_Ce_exchangeable_37 ⟨_, _, c_Se_only h1 (by omega), e_Ce_exchangeable_42 ?_⟩⟩⟩
          rw [Int.toNat_natCast, eL, q_andn_nat (by omega) (by omega), q_or_nat (by omega) (by omega)]
          refine ⟨_, _, c_Ce_isBasis hn e0 eB, ?_⟩
          rw [s_isBx_nat (by omega) (hB _), show B (q_dif s (2 ^ (a - 1)) ||| 2 ^ (c - 1)) = true from hC]
          refine e_Ce_exchangeable_44 ⟨fun h2 => absurd h2 (by decide), fun _ => ⟨_, _, c_Se_only h1 (by omega), e_Ce_exchangeable_48 ?_⟩⟩
          rw [q_or_nat (by omega) (by omega)]
          exact g2 r hr
      · have hC2 : B (s_with (s_wo s a) c) = false := by simpa using hC
        obtain ⟨fo', g1, g2, g3⟩ := key fo hf (by rw [hC2, Bool.and_false, Bool.or_false]) (fun _ _ _ => rfl)
        refine ⟨fo', g1, fun r hr => e_Ce_exchangeable_17 ⟨fun h2 => ?_, fun _ => ⟨by omega, by omega, ?_⟩⟩, g3⟩
        · rw [e0] at h2; omega
        · rw [Int.toNat_natCast, eL, q_or_nat (by omega) (by omega)]
          refine ⟨_, _, c_Se_holds (by omega) h1 (by omega), ?_⟩
          rw [hA2]
          refine e_Ce_exchangeable_29 ⟨fun h2 => absurd rfl h2, fun _ => ⟨by omega, by omega, _, _, c_Se_only ha1 (by omega), e_Ce_exchangeable_37 ⟨_, _, c_Se_only h1 (by omega), e_Ce_exchangeable_42 ?_⟩⟩⟩
          rw [Int.toNat_natCast, eL, q_andn_nat (by omega) (by omega), q_or_nat (by omega) (by omega)]
          refine ⟨_, _, c_Ce_isBasis hn e0 eB, ?_⟩
          rw [s_isBx_nat (by omega) (hB _), show B (q_dif s (2 ^ (a - 1)) ||| 2 ^ (c - 1)) = false from hC2]
          exact e_Ce_exchangeable_44 ⟨fun _ => g2 r hr, fun h2 => absurd rfl h2⟩
theorem c_Ce_exGo {n a : Nat} {L : List Nat} {B : Nat → Bool} (hn : n ≤ 8) (ha1 : 1 ≤ a) (ha : a ≤ n) (hL : L.length ≤ 70) (hL2 : ∀ s ∈ L, s < 2 ^ n) (hB : ∀ s, B s = true → s < 2 ^ n) {d : qD} {b : Nat} (e0 : d.1 t_Ce 0 0 = (n : Int)) (e3 : d.1 t_Ce 0 3 = (L.length : Int)) (eB : ∀ j, j < 256 → d.1 t_inB 0 j = q_b2i (B j)) (eL : s_lst (d.1 t_bl 0) L) : ∀ (R : List Nat) (k fo : Nat), L.drop k = R → k ≤ L.length → fo < 2 ^ n → ∃ r : Nat, r < 2 ^ n ∧ q_Ev m_Ce_exchangeable 4 [q_r t_Ce 0, q_i (a : Int), q_i (fo : Int), q_i (k : Int), none] [] (q_mk d b) (q_i (r : Int), q_mk d b) ∧ ∀ l, 1 ≤ l → l ≤ 8 → q_hl r l = (q_hl fo l || (decide (l ≤ n) && s_EL R B a l))
  | [], k, fo, h, hk, hf => by
    have := s_drop_nil h
    exact ⟨fo, hf, e_Ce_exchangeable_4 ⟨fun _ => rfl, fun h2 => by omega⟩, fun l _ _ => by rw [s_EL, List.any_nil, Bool.and_false, Bool.or_false]⟩
  | s :: R, k, fo, h, hk, hf => by
    obtain ⟨h1, h2, h3⟩ := s_drop_cons h
    have hs : s < 2 ^ n := hL2 s (by rw [← List.take_append_drop k L, h]; simp)
    have hp := s_p8 hn
    have es : d.1 t_bl 0 k = (s : Int) := by rw [eL k h1, h2]
    by_cases hA : q_hl s a = true
    · obtain ⟨fo', g1, g2, g3⟩ := c_Ce_exIn hn ha1 ha (k := k) (by omega) hs hB (b := b) e0 eB es n 1 fo (by omega) (by omega) hf
      obtain ⟨r, q1, q2, q3⟩ := c_Ce_exGo hn ha1 ha hL hL2 hB (b := b) e0 e3 eB eL R (k + 1) fo' h3 (by omega) g1
      refine ⟨r, q1, e_Ce_exchangeable_4 ⟨fun h2 => by omega, fun _ => ⟨by omega, by omega, ?_⟩⟩, fun l hl hl2 => ?_⟩
      · rw [Int.toNat_natCast, es]
        refine ⟨_, _, c_Se_holds (by omega) ha1 (by omega), e_Ce_exchangeable_14 ⟨fun h2 => ?_, fun _ => g2 _ (e_Ce_exchangeable_52 ?_)⟩⟩
        · rw [hA] at h2; exact absurd h2 (by decide)
        · rw [q_wS (by omega)]; exact q2
      · rw [q3 l hl hl2, g3 l hl hl2, s_EL, s_EL, List.any_cons, hA, Bool.true_and, Bool.or_assoc]
        congr 1
        rw [show decide (1 ≤ l ∧ l ≤ n) = decide (l ≤ n) from decide_eq_decide.mpr ⟨fun h => by omega, fun h => by omega⟩, ← Bool.and_or_distrib_left]
    · have hA2 : q_hl s a = false := by simpa using hA
      obtain ⟨r, q1, q2, q3⟩ := c_Ce_exGo hn ha1 ha hL hL2 hB (b := b) e0 e3 eB eL R (k + 1) fo h3 (by omega) hf
      refine ⟨r, q1, e_Ce_exchangeable_4 ⟨fun h2 => by omega, fun _ => ⟨by omega, by omega, ?_⟩⟩, fun l hl hl2 => ?_⟩
      · rw [Int.toNat_natCast, es]
        refine ⟨_, _, c_Se_holds (by omega) ha1 (by omega), e_Ce_exchangeable_14 ⟨fun _ => e_Ce_exchangeable_52 ?_, fun h2 => ?_⟩⟩
        · rw [q_wS (by omega)]; exact q2
        · rw [hA2] at h2; exact absurd rfl h2
      · rw [q3 l hl hl2, s_EL, s_EL, List.any_cons, hA2, Bool.false_and, Bool.false_or]
theorem c_Ce_exchangeable {n a : Nat} {L : List Nat} {B : Nat → Bool} (hn : n ≤ 8) (ha1 : 1 ≤ a) (ha : a ≤ n) (hL : L.length ≤ 70) (hL2 : ∀ s ∈ L, s < 2 ^ n) (hB : ∀ s, B s = true → s < 2 ^ n) {d : qD} {b : Nat} (e0 : d.1 t_Ce 0 0 = (n : Int)) (e3 : d.1 t_Ce 0 3 = (L.length : Int)) (eB : ∀ j, j < 256 → d.1 t_inB 0 j = q_b2i (B j)) (eL : s_lst (d.1 t_bl 0) L) : ∃ r : Nat, r < 2 ^ n ∧ q_Ev m_Ce_exchangeable 0 [q_r t_Ce 0, q_i (a : Int), none, none, none] [] (q_mk d b) (q_i (r : Int), q_mk d b) ∧ ∀ l, 1 ≤ l → l ≤ 8 → q_hl r l = (decide (l ≤ n) && s_EL L B a l) := by
  obtain ⟨r, q1, q2, q3⟩ := c_Ce_exGo hn ha1 ha hL hL2 hB (b := b) e0 e3 eB eL L 0 0 rfl (by omega) (Nat.pow_pos (by decide))
  refine ⟨r, q1, e_Ce_exchangeable_0 q2, fun l hl hl2 => ?_⟩
  rw [q3 l hl hl2, show q_hl 0 l = false from Nat.zero_testBit _, Bool.false_or]
/-- to be reached -/
def s_conn (n : Nat) (E : Nat → Nat → Bool) (a c : Nat) : Prop := ∀ P : Nat → Prop, P a → (∀ x y, P x → 1 ≤ y → y ≤ n → E x y = true → P y) → P c
theorem s_conn_refl (n : Nat) (E : Nat → Nat → Bool) (a : Nat) : s_conn n E a a := fun _ h _ => h
theorem s_conn_tr {n : Nat} {E : Nat → Nat → Bool} {a c e : Nat} (h1 : s_conn n E a c) (h2 : s_conn n E c e) : s_conn n E a e := fun P h hs => h2 P (h1 P h hs) hs
theorem s_conn_st {n : Nat} {E : Nat → Nat → Bool} {a c : Nat} (h1 : 1 ≤ c) (h2 : c ≤ n) (h : E a c = true) : s_conn n E a c := fun _ ha hs => hs a c ha h1 h2 h
theorem s_conn_in {n : Nat} {E : Nat → Nat → Bool} {a c : Nat} (h1 : 1 ≤ a) (h2 : a ≤ n) (h : s_conn n E a c) : 1 ≤ c ∧ c ≤ n :=
  h (fun y => 1 ≤ y ∧ y ≤ n) ⟨h1, h2⟩ (fun _ _ _ h3 h4 _ => ⟨h3, h4⟩)
theorem s_conn_sy {n : Nat} {E : Nat → Nat → Bool} (hE : ∀ x y, 1 ≤ x → x ≤ n → 1 ≤ y → y ≤ n → E x y = true → E y x = true) {a c : Nat} (h1 : 1 ≤ a) (h2 : a ≤ n) (h : s_conn n E a c) : s_conn n E c a :=
  (h (fun y => (1 ≤ y ∧ y ≤ n) ∧ s_conn n E y a) ⟨⟨h1, h2⟩, s_conn_refl n E a⟩ (fun x y hx hy hy2 hxy => ⟨⟨hy, hy2⟩, s_conn_tr (s_conn_st hx.1.1 hx.1.2 (hE x y hx.1.1 hx.1.2 hy hy2 hxy)) hx.2⟩)).2
theorem s_pc_with {s l : Nat} (hs : s < 256) (h1 : 1 ≤ l) (hl : l ≤ 8) (h : q_hl s l = false) : q_pc (s_with s l) = q_pc s + 1 := by
  have : ∀ s : Nat, s < 256 → ∀ l : Nat, l < 9 → 1 ≤ l → q_hl s l = false → q_pc (s_with s l) = q_pc s + 1 := by decide +kernel
  exact this s hs l (by omega) h1 h
theorem s_pc_full {n s : Nat} (hn : n ≤ 8) (hs : s < 2 ^ n) (h : q_pc s = n) : s = 2 ^ n - 1 := by
  have : ∀ s : Nat, s < 256 → ∀ n : Nat, n < 9 → s < 2 ^ n → q_pc s = n → s = 2 ^ n - 1 := by decide +kernel
  exact this s (Nat.lt_of_lt_of_le hs (s_p8 hn)) n (by omega) hs h
theorem s_full_hl {n l : Nat} (h1 : 1 ≤ l) (h : l ≤ n) : q_hl (2 ^ n - 1) l = true := by
  unfold q_hl
  rw [Nat.testBit_two_pow_sub_one]
  exact decide_eq_true (by omega)
theorem c_Ce_hangGo {n a : Nat} {L : List Nat} {B : Nat → Bool} (hn : n ≤ 8) (ha1 : 1 ≤ a) (ha : a ≤ n) (hL : L.length ≤ 70) (hL2 : ∀ s ∈ L, s < 2 ^ n) (hB : ∀ s, B s = true → s < 2 ^ n) {d : qD} {b : Nat} (e0 : d.1 t_Ce 0 0 = (n : Int)) (e3 : d.1 t_Ce 0 3 = (L.length : Int)) (eB : ∀ j, j < 256 → d.1 t_inB 0 j = q_b2i (B j)) (eL : s_lst (d.1 t_bl 0) L) : ∀ (f i R Fo : Nat), i + f = n → R < 2 ^ n → Fo < 2 ^ n → q_pc Fo = i → (∀ l, 1 ≤ l → l ≤ 8 → q_hl Fo l = true → q_hl R l = true) → q_hl R a = true → (∀ l, 1 ≤ l → l ≤ 8 → q_hl R l = true → s_conn n (s_EL L B) a l) → (∀ x, 1 ≤ x → x ≤ 8 → q_hl Fo x = true → ∀ y, 1 ≤ y → y ≤ n → s_EL L B x y = true → q_hl R y = true) → ∃ r : Nat, r < 2 ^ n ∧ q_Ev m_Ce_hangingTogether 7 [q_r t_Ce 0, none, q_i (R : Int), q_i (Fo : Int), q_i (i : Int), none] [] (q_mk d b) (q_i (r : Int), q_mk d b) ∧ ∀ l, 1 ≤ l → l ≤ 8 → (q_hl r l = true ↔ s_conn n (s_EL L B) a l) := by
  have hp := s_p8 hn
  have fin : ∀ R Fo : Nat, R < 2 ^ n → R = Fo → q_hl R a = true → (∀ l, 1 ≤ l → l ≤ 8 → q_hl R l = true → s_conn n (s_EL L B) a l) → (∀ x, 1 ≤ x → x ≤ 8 → q_hl Fo x = true → ∀ y, 1 ≤ y → y ≤ n → s_EL L B x y = true → q_hl R y = true) → ∀ l, 1 ≤ l → l ≤ 8 → (q_hl R l = true ↔ s_conn n (s_EL L B) a l) := by
    intro R Fo hR he h1 h2 h3 l hl hl2
    subst he
    refine ⟨h2 l hl hl2, fun hc => ?_⟩
    exact (hc (fun y => (1 ≤ y ∧ y ≤ n) ∧ q_hl R y = true) ⟨⟨ha1, ha⟩, h1⟩ (fun x y hx hy hy2 hxy => ⟨⟨hy, hy2⟩, h3 x hx.1.1 (by omega) hx.2 y hy hy2 hxy⟩)).2
  intro f
  induction f with
  | zero =>
    intro i R Fo hi hR hF hc hsub h1 h2 h3
    have : i = n := by omega
    subst this
    have hfull := s_pc_full hn hF hc
    have heq : R = Fo := by
      refine s_ext (by omega) (by omega) fun l hl hl2 => ?_
      by_cases hl3 : l ≤ i
      · have : q_hl Fo l = true := by rw [hfull]; exact s_full_hl hl hl3
        rw [this, hsub l hl hl2 this]
      · rw [s_hln hR (by omega), s_hln hF (by omega)]
    refine ⟨R, hR, e_Ce_hangingTogether_7 ⟨fun _ => e_Ce_hangingTogether_34 rfl, fun h => ?_⟩, fin R Fo hR heq h1 h2 h3⟩
    rw [e0] at h; omega
  | succ f ih =>
    intro i R Fo hi hR hF hc hsub h1 h2 h3
    by_cases heq : R = Fo
    · refine ⟨R, hR, e_Ce_hangingTogether_7 ⟨fun _ => e_Ce_hangingTogether_34 rfl, fun h => ⟨fun _ => e_Ce_hangingTogether_34 rfl, fun h => ?_⟩⟩, fin R Fo hR heq h1 h2 h3⟩
      exact absurd (by rw [heq]) h
    · have hd : q_dif R Fo < 256 := q_dif_lt (k := 8) (by omega)
      have hd0 : q_dif R Fo ≠ 0 := by
        intro hz
        refine heq (s_ext (by omega) (by omega) fun l hl hl2 => ?_)
        have hzz : q_hl (q_dif R Fo) l = false := by rw [hz]; exact Nat.zero_testBit _
        rw [q_hl_dif] at hzz
        cases hx : q_hl R l
        · cases hy : q_hl Fo l
          · rfl
          · rw [hsub l hl hl2 hy] at hx; exact absurd hx (by decide)
        · rw [hx, Bool.true_and] at hzz
          simpa using hzz.symm
      have hfr := (s_least_hl hd hd0).1
      have hfr8 := s_least_le hd hd0
      have hfr1 := s_least_pos (q_dif R Fo)
      generalize hfm : s_least (q_dif R Fo) = m at hfr hfr8 hfr1
      rw [q_hl_dif, Bool.and_eq_true] at hfr
      have hmn : m ≤ n := by
        by_cases hmn : m ≤ n
        · exact hmn
        · rw [s_hln hR (by omega)] at hfr; exact absurd hfr.1 (by decide)
      have hfo : q_hl Fo m = false := by simpa using hfr.2
      obtain ⟨g, g1, g2, g3⟩ := c_Ce_exchangeable hn hfr1 hmn hL hL2 hB (b := b) e0 e3 eB eL
      have hg3 : ∀ l, 1 ≤ l → l ≤ 8 → q_hl (R ||| g) l = (q_hl R l || (decide (l ≤ n) && s_EL L B m l)) := fun l hl hl2 => by rw [q_hl_or, g3 l hl hl2]
      obtain ⟨r, q1, q2, q3⟩ := ih (i + 1) (R ||| g) (s_with Fo m) (by omega) (Nat.or_lt_two_pow hR g1) (s_with_ltn hF hfr1 hmn) (by rw [s_pc_with (by omega) hfr1 hfr8 hfo, hc])
        (by
          intro l hl hl2 hh
          rw [s_with_hl hfr1 hl, Bool.or_eq_true] at hh
          rw [hg3 l hl hl2, Bool.or_eq_true]
          left
          rcases hh with hh | hh
          · exact hsub l hl hl2 hh
          · rw [of_decide_eq_true hh]; exact hfr.1)
        (by rw [hg3 a ha1 (by omega), h1]; rfl)
        (by
          intro l hl hl2 hh
          rw [hg3 l hl hl2, Bool.or_eq_true, Bool.and_eq_true] at hh
          rcases hh with hh | hh
          · exact h2 l hl hl2 hh
          · exact s_conn_tr (h2 m hfr1 hfr8 hfr.1) (s_conn_st hl (of_decide_eq_true hh.1) hh.2))
        (by
          intro x hx hx2 hh y hy hy2 hxy
          rw [s_with_hl hfr1 hx, Bool.or_eq_true] at hh
          rw [hg3 y hy (by omega), Bool.or_eq_true, Bool.and_eq_true]
          rcases hh with hh | hh
          · exact Or.inl (h3 x hx hx2 hh y hy hy2 hxy)
          · have := of_decide_eq_true hh
            subst this
            exact Or.inr ⟨decide_eq_true hy2, hxy⟩)
      refine ⟨r, q1, e_Ce_hangingTogether_7 ⟨fun h => ?_, fun _ => ⟨fun h => ?_, fun _ => ?_⟩⟩, q3⟩
      · rw [e0] at h; omega
      · exact absurd (by omega) heq
      · rw [q_andn_nat (by omega) (by omega)]
        have hpm := s_p2 hfr8
        refine ⟨_, _, c_Se_least hd, ?_⟩
        rw [hfm]
        refine e_Ce_hangingTogether_20 ⟨_, _, c_Se_only hfr1 (by omega), e_Ce_hangingTogether_24 ⟨_, _, g2, e_Ce_hangingTogether_30 ?_⟩⟩
        rw [q_or_nat (by omega) (by omega), q_or_nat (by omega) (by omega), q_wS (by omega)]
        exact q2
theorem c_Ce_hang {n a : Nat} {L : List Nat} {B : Nat → Bool} (hn : n ≤ 8) (ha1 : 1 ≤ a) (ha : a ≤ n) (hL : L.length ≤ 70) (hL2 : ∀ s ∈ L, s < 2 ^ n) (hB : ∀ s, B s = true → s < 2 ^ n) {d : qD} {b : Nat} (e0 : d.1 t_Ce 0 0 = (n : Int)) (e3 : d.1 t_Ce 0 3 = (L.length : Int)) (eB : ∀ j, j < 256 → d.1 t_inB 0 j = q_b2i (B j)) (eL : s_lst (d.1 t_bl 0) L) : ∃ r : Nat, r < 2 ^ n ∧ q_Ev m_Ce_hangingTogether 0 [q_r t_Ce 0, q_i (a : Int), none, none, none, none] [] (q_mk d b) (q_i (r : Int), q_mk d b) ∧ ∀ l, 1 ≤ l → l ≤ 8 → (q_hl r l = true ↔ s_conn n (s_EL L B) a l) := by
  have hbit : ∀ l, 1 ≤ l → (q_hl (2 ^ (a - 1)) l = true ↔ l = a) := by
    intro l hl
    unfold q_hl
    rw [Nat.testBit_two_pow, decide_eq_true_iff]
    exact ⟨fun h => by omega, fun h => by omega⟩
  obtain ⟨r, q1, q2, q3⟩ := c_Ce_hangGo hn ha1 ha hL hL2 hB (b := b) e0 e3 eB eL n 0 (2 ^ (a - 1)) 0 (by omega) (Nat.pow_lt_pow_right (by decide) (by omega)) (Nat.pow_pos (by decide)) (by decide) (fun l _ _ h => by rw [show q_hl 0 l = false from Nat.zero_testBit _] at h; exact absurd h (by decide)) ((hbit a ha1).mpr rfl) (fun l hl _ h => by rw [(hbit l hl).mp h]; exact s_conn_refl _ _ _) (fun l _ _ h => by rw [show q_hl 0 l = false from Nat.zero_testBit _] at h; exact absurd h (by decide))
  exact ⟨r, q1, e_Ce_hangingTogether_0 ⟨_, _, c_Se_only ha1 (by omega), e_Ce_hangingTogether_2 q2⟩, q3⟩
/-- the least label of what hangs together with a label -/
def s_lp (n : Nat) (E : Nat → Nat → Bool) (q : Nat → Nat) : Prop := ∀ i, 1 ≤ i → i ≤ n → 1 ≤ q i ∧ q i ≤ i ∧ s_conn n E i (q i) ∧ ∀ j, 1 ≤ j → j ≤ n → s_conn n E i j → q j = q i
theorem s_lp_least {n r i : Nat} {E : Nat → Nat → Bool} {q : Nat → Nat} (hn : n ≤ 8) (hq : s_lp n E q) (h1 : 1 ≤ i) (h2 : i ≤ n) (hr : r < 2 ^ n) (h : ∀ l, 1 ≤ l → l ≤ 8 → (q_hl r l = true ↔ s_conn n E i l)) : s_least r = q i := by
  have hp := s_p8 hn
  obtain ⟨a1, a2, a3, a4⟩ := hq i h1 h2
  have hri := (h i h1 (by omega)).mpr (s_conn_refl n E i)
  have hr0 : r ≠ 0 := by
    intro hz
    rw [hz, show q_hl 0 i = false from Nat.zero_testBit _] at hri
    exact absurd hri (by decide)
  have hl := s_least_hl (by omega) hr0
  have hl8 := s_least_le (by omega) hr0
  have hl1 := s_least_pos r
  have hc := (h _ hl1 hl8).mp hl.1
  have hin := s_conn_in h1 h2 hc
  have hle := (hq _ hin.1 hin.2).2.1
  rw [a4 _ hin.1 hin.2 hc] at hle
  by_cases hlt : q i < s_least r
  · have := hl.2 (q i) a1 hlt
    rw [(h (q i) a1 (by omega)).mpr a3] at this
    exact absurd this (by decide)
  · omega
/-- how many are least ones -/
def s_cnt (q : Nat → Nat) : Nat → Nat
  | 0 => 0
  | i + 1 => if q (i + 1) = i + 1 then s_cnt q i + 1 else s_cnt q i
theorem s_cnt_le (q : Nat → Nat) : ∀ i, s_cnt q i ≤ i
  | 0 => Nat.le_refl 0
  | i + 1 => by have := s_cnt_le q i; rw [s_cnt]; split <;> omega
theorem c_Ce_partCountGo {n : Nat} {L : List Nat} {B : Nat → Bool} {q : Nat → Nat} (hn : n ≤ 8) (hL : L.length ≤ 70) (hL2 : ∀ s ∈ L, s < 2 ^ n) (hB : ∀ s, B s = true → s < 2 ^ n) (hE : ∀ x y, 1 ≤ x → x ≤ n → 1 ≤ y → y ≤ n → s_EL L B x y = true → s_EL L B y x = true) (hq : s_lp n (s_EL L B) q) {d : qD} {b : Nat} (e0 : d.1 t_Ce 0 0 = (n : Int)) (e3 : d.1 t_Ce 0 3 = (L.length : Int)) (eB : ∀ j, j < 256 → d.1 t_inB 0 j = q_b2i (B j)) (eL : s_lst (d.1 t_bl 0) L) : ∀ (f i S : Nat), i + f = n → S < 2 ^ n → (∀ l, 1 ≤ l → l ≤ 8 → (q_hl S l = true ↔ l ≤ n ∧ q l < i + 1)) → q_Ev m_Ce_partCount 6 [q_r t_Ce 0, q_i (S : Int), q_i (s_cnt q i : Int), q_i ((i + 1 : Nat) : Int)] [] (q_mk d b) (q_i (s_cnt q n : Int), q_mk d b)
  | 0, i, S, h, hS, hs => by
    refine e_Ce_partCount_6 ⟨fun _ => ?_, fun h2 => ?_⟩
    · rw [show i = n by omega]
    · rw [e0] at h2; omega
  | f + 1, i, S, h, hS, hs => by
    have hp := s_p8 hn
    have hc := s_cnt_le q i
    obtain ⟨a1, a2, a3, a4⟩ := hq (i + 1) (by omega) (by omega)
    refine e_Ce_partCount_6 ⟨fun h2 => ?_, fun _ => ⟨_, _, c_Se_holds (by omega) (by omega) (by omega), ?_⟩⟩
    · rw [e0] at h2; omega
    · by_cases hA : q_hl S (i + 1) = true
      · have hlt := ((hs (i + 1) (by omega) (by omega)).mp hA).2
        have ih := c_Ce_partCountGo hn hL hL2 hB hE hq (b := b) e0 e3 eB eL f (i + 1) S (by omega) hS (by
          intro l hl hl2
          rw [hs l hl hl2]
          refine ⟨fun h => ⟨h.1, by omega⟩, fun h => ⟨h.1, ?_⟩⟩
          by_cases hql : q l = i + 1
          · have h5 := hq l hl h.1
            have h6 := h5.2.2.2 (i + 1) (by omega) (by omega) (by rw [← hql]; exact h5.2.2.1)
            omega
          · omega)
        rw [s_cnt, if_neg (by omega)] at ih
        refine e_Ce_partCount_13 ⟨fun _ => e_Ce_partCount_21 ?_, fun h2 => ?_⟩
        · rw [q_wS (by omega)]; exact ih
        · rw [hA] at h2; exact absurd h2 (by decide)
      · have hA2 : q_hl S (i + 1) = false := by simpa using hA
        have hqi : q (i + 1) = i + 1 := by
          by_cases hlt : q (i + 1) < i + 1
          · exact absurd ((hs (i + 1) (by omega) (by omega)).mpr ⟨by omega, hlt⟩) hA
          · omega
        obtain ⟨g, g1, g2, g3⟩ := c_Ce_hang hn (a := i + 1) (by omega) (by omega) hL hL2 hB (b := b) e0 e3 eB eL
        have ih := c_Ce_partCountGo hn hL hL2 hB hE hq (b := b) e0 e3 eB eL f (i + 1) (S ||| g) (by omega) (Nat.or_lt_two_pow hS g1) (by
          intro l hl hl2
          rw [q_hl_or, Bool.or_eq_true, hs l hl hl2, g3 l hl hl2]
          refine ⟨fun h => ?_, fun h => ?_⟩
          · rcases h with h | h
            · exact ⟨h.1, by omega⟩
            · have hin := s_conn_in (by omega) (by omega) h
              exact ⟨hin.2, by rw [a4 l hin.1 hin.2 h]; omega⟩
          · by_cases hql : q l = i + 1
            · right
              have h5 := hq l hl h.1
              rw [← hql]
              exact s_conn_sy hE hl h.1 h5.2.2.1
            · exact Or.inl ⟨h.1, by omega⟩)
        rw [s_cnt, if_pos hqi] at ih
        refine e_Ce_partCount_13 ⟨fun h2 => ?_, fun _ => ⟨_, _, g2, e_Ce_partCount_18 (e_Ce_partCount_21 ?_)⟩⟩
        · rw [hA2] at h2; exact absurd rfl h2
        · rw [q_wS (by omega), q_wS (by omega), q_or_nat (by omega) (by omega)]; exact ih
theorem c_Ce_partCount {n : Nat} {L : List Nat} {B : Nat → Bool} {q : Nat → Nat} (hn : n ≤ 8) (hL : L.length ≤ 70) (hL2 : ∀ s ∈ L, s < 2 ^ n) (hB : ∀ s, B s = true → s < 2 ^ n) (hE : ∀ x y, 1 ≤ x → x ≤ n → 1 ≤ y → y ≤ n → s_EL L B x y = true → s_EL L B y x = true) (hq : s_lp n (s_EL L B) q) {d : qD} {b : Nat} (e0 : d.1 t_Ce 0 0 = (n : Int)) (e3 : d.1 t_Ce 0 3 = (L.length : Int)) (eB : ∀ j, j < 256 → d.1 t_inB 0 j = q_b2i (B j)) (eL : s_lst (d.1 t_bl 0) L) : q_Ev m_Ce_partCount 0 [q_r t_Ce 0, none, none, none] [] (q_mk d b) (q_i (s_cnt q n : Int), q_mk d b) :=
  e_Ce_partCount_0 (c_Ce_partCountGo hn hL hL2 hB hE hq e0 e3 eB eL n 0 0 (by omega) (Nat.pow_pos (by decide)) (fun l hl hl2 => by
    rw [show q_hl 0 l = false from Nat.zero_testBit _]
    refine ⟨fun h => absurd h (by decide), fun h => ?_⟩
    have := (hq l hl h.1).1
    omega))
