/-! collections of sets in their order -/
def s_fl (c : Nat → Bool) : List Nat := (List.range 256).filter c
def s_Co (k : Nat) (c : Nat → Bool) (d : qD) : Prop := d.1 t_Co k 1 = ((s_fl c).length : Int) ∧ s_lst (d.1 t_coSets k) (s_fl c)
theorem s_Co_of {k : Nat} {c : Nat → Bool} {d d' : qD} (h : s_Co k c d) (h1 : d'.1 t_Co k = d.1 t_Co k) (h2 : d'.1 t_coSets k = d.1 t_coSets k) : s_Co k c d' := by
  unfold s_Co at h ⊢
  rw [h1, h2]; exact h
theorem s_fl_mem {c : Nat → Bool} {s : Nat} : s ∈ s_fl c ↔ s < 256 ∧ c s = true := by
  unfold s_fl; rw [List.mem_filter, List.mem_range]
theorem s_fl_lt {c : Nat → Bool} : ∀ s ∈ s_fl c, s < 256 := fun _ h => (s_fl_mem.mp h).1
theorem s_fl_len {c : Nat → Bool} {k : Nat} (hk : k ≤ 8) (h : ∀ s, c s = true → q_pc s = k) : (s_fl c).length ≤ 70 := by
  have h2 := s_filter_len (p := c) (q := fun s => q_pc s == k) (fun x hx => by rw [h x hx]; exact beq_self_eq_true k) (List.range 256)
  have h3 := s_70 k hk
  unfold s_fl; omega
theorem s_range_split {s : Nat} (hs : s < 256) : List.range 256 = List.range s ++ (s :: List.range' (s + 1) (255 - s)) := by
  rw [List.range_eq_range', List.range_eq_range', ← List.range'_succ, show 255 - s + 1 = 256 - s by omega]
  have := List.range'_append_1 (s := 0) (m := s) (n := 256 - s)
  rw [Nat.zero_add] at this
  rw [this, show s + (256 - s) = 256 by omega]
theorem s_fl_split {c : Nat → Bool} {s : Nat} (hs : s < 256) : s_fl c = (List.range s).filter c ++ ((if c s then [s] else []) ++ (List.range' (s + 1) (255 - s)).filter c) := by
  unfold s_fl
  rw [s_range_split hs, List.filter_append]
  congr 1
  by_cases h : c s = true
  · rw [List.filter_cons_of_pos h, if_pos h]; rfl
  · rw [List.filter_cons_of_neg h, if_neg h]; rfl
def s_ins (c : Nat → Bool) (s : Nat) : Nat → Bool := fun t => t == s || c t
theorem s_ins_same {c : Nat → Bool} {s : Nat} (h : c s = true) : s_ins c s = c := by
  funext t
  unfold s_ins
  by_cases hq : t = s
  · subst hq; rw [h, Bool.or_true]
  · rw [beq_false_of_ne hq, Bool.false_or]
theorem s_fl_ins {c : Nat → Bool} {s : Nat} (hs : s < 256) : s_fl (s_ins c s) = (List.range s).filter c ++ (s :: (List.range' (s + 1) (255 - s)).filter c) := by
  rw [s_fl_split hs, show s_ins c s s = true by unfold s_ins; rw [beq_self_eq_true]; rfl, if_pos rfl]
  congr 1
  · refine List.filter_congr fun x hx => ?_
    have := List.mem_range.mp hx
    unfold s_ins
    rw [beq_false_of_ne (by omega), Bool.false_or]
  · rw [List.singleton_append]
    congr 1
    refine List.filter_congr fun x hx => ?_
    have := List.mem_range'_1.mp hx
    unfold s_ins
    rw [beq_false_of_ne (by omega), Bool.false_or]
/-- is in the collection, asked of any number -/
def s_in (c : Nat → Bool) (x : Int) : Bool := decide (0 ≤ x ∧ x < 256) && c x.toNat
theorem s_in_any (c : Nat → Bool) (x : Int) : (s_fl c).any (fun s => decide ((s : Int) = x)) = s_in c x := by
  rw [Bool.eq_iff_iff, List.any_eq_true]
  unfold s_in
  rw [Bool.and_eq_true, decide_eq_true_iff]
  refine ⟨fun ⟨s, h1, h2⟩ => ?_, fun ⟨h1, h2⟩ => ⟨x.toNat, s_fl_mem.mpr ⟨by omega, h2⟩, decide_eq_true (by omega)⟩⟩
  have h3 := s_fl_mem.mp h1
  have h4 := of_decide_eq_true h2
  subst h4
  exact ⟨by omega, by rw [Int.toNat_natCast]; exact h3.2⟩
theorem s_in_nat {c : Nat → Bool} {s : Nat} (hs : s < 256) : s_in c (s : Int) = c s := by
  unfold s_in
  rw [decide_eq_true (by omega), Int.toNat_natCast, Bool.true_and]
theorem c_Co_containsGo {k : Nat} {L : List Nat} {x : Int} (hL : L.length ≤ 70) {d : qD} {b : Nat} (e1 : d.1 t_Co k 1 = (L.length : Int)) (eL : s_lst (d.1 t_coSets k) L) : ∀ (R : List Nat) (i : Nat), L.drop i = R → i ≤ L.length → q_Ev m_Co_contains 2 [q_r t_Co k, q_i x, q_i (i : Int)] [] (q_mk d b) (q_i (q_b2i (R.any (fun s => decide ((s : Int) = x)))), q_mk d b)
  | [], i, h, hi => by
    have := s_drop_nil h
    exact e_Co_contains_2 ⟨fun _ => ⟨by decide, by decide, rfl⟩, fun h2 => by omega⟩
  | s :: R, i, h, hi => by
    obtain ⟨h1, h2, h3⟩ := s_drop_cons h
    refine e_Co_contains_2 ⟨fun h2 => by omega, fun _ => ⟨by omega, by omega, ?_⟩⟩
    rw [Int.toNat_natCast, eL i h1, h2, List.any_cons]
    refine ⟨fun h4 => ?_, fun h4 => ?_⟩
    · rw [decide_eq_false h4, Bool.false_or, q_wS (by omega)]
      exact c_Co_containsGo hL e1 eL R (i + 1) h3 (by omega)
    · rw [decide_eq_true h4, Bool.true_or]; exact ⟨by decide, by decide, rfl⟩
theorem c_Co_contains {k : Nat} {c : Nat → Bool} {x : Int} (hL : (s_fl c).length ≤ 70) {d : qD} {b : Nat} (e : s_Co k c d) : q_Ev m_Co_contains 0 [q_r t_Co k, q_i x, none] [] (q_mk d b) (q_i (q_b2i (s_in c x)), q_mk d b) := by
  rw [← s_in_any]
  exact e_Co_contains_0 (c_Co_containsGo hL e.1 e.2 (s_fl c) 0 rfl (by omega))
theorem c_Co_crossesNoneGo {k n s : Nat} {L : List Nat} (hn : n ≤ 8) (hs : s < 256) (hL : L.length ≤ 70) (hL2 : ∀ t ∈ L, t < 256) {d : qD} {b : Nat} (e1 : d.1 t_Co k 1 = (L.length : Int)) (eL : s_lst (d.1 t_coSets k) L) : ∀ (R : List Nat) (i : Nat), L.drop i = R → i ≤ L.length → q_Ev m_Co_crossesNone 2 [q_r t_Co k, q_i (s : Int), q_i (n : Int), q_i (i : Int)] [] (q_mk d b) (q_i (q_b2i (R.all (fun t => !s_cross s t n))), q_mk d b)
  | [], i, h, hi => by
    have := s_drop_nil h
    exact e_Co_crossesNone_2 ⟨fun _ => ⟨by decide, by decide, rfl⟩, fun h2 => by omega⟩
  | t :: R, i, h, hi => by
    obtain ⟨h1, h2, h3⟩ := s_drop_cons h
    have ht : t < 256 := hL2 t (by rw [← List.take_append_drop i L, h]; simp)
    refine e_Co_crossesNone_2 ⟨fun h2 => by omega, fun _ => ⟨by omega, by omega, ?_⟩⟩
    rw [Int.toNat_natCast, eL i h1, h2, List.all_cons]
    refine ⟨_, _, c_Se_crossing hs ht hn, e_Co_crossesNone_13 ⟨fun h4 => ?_, fun h4 => ?_⟩⟩
    · rw [q_b2i_f h4, Bool.not_false, Bool.true_and, q_wS (by omega)]
      exact c_Co_crossesNoneGo hn hs hL hL2 e1 eL R (i + 1) h3 (by omega)
    · rw [q_b2i_t h4, Bool.not_true, Bool.false_and]; exact ⟨by decide, by decide, rfl⟩
theorem c_Co_crossesNone {k n s : Nat} {c : Nat → Bool} (hn : n ≤ 8) (hs : s < 256) (hL : (s_fl c).length ≤ 70) {d : qD} {b : Nat} (e : s_Co k c d) : q_Ev m_Co_crossesNone 0 [q_r t_Co k, q_i (s : Int), q_i (n : Int), none] [] (q_mk d b) (q_i (q_b2i ((s_fl c).all (fun t => !s_cross s t n))), q_mk d b) :=
  e_Co_crossesNone_0 (c_Co_crossesNoneGo hn hs hL s_fl_lt e.1 e.2 (s_fl c) 0 rfl (by omega))
/-- a row whose places from one on have moved up -/
def s_sh (g : Nat → Int) (m p : Nat) : Nat → Int := fun x => if p < x ∧ x ≤ m then g (x - 1) else g x
theorem s_sh_top (g : Nat → Int) (m : Nat) : s_sh g m m = g := by
  funext x; exact if_neg (by omega)
theorem s_sh_dn (g : Nat → Int) {m p : Nat} (h : p + 1 ≤ m) : q_up (s_sh g m (p + 1)) (p + 1) (g p) = s_sh g m p := by
  funext x
  by_cases hx : x = p + 1
  · subst hx
    rw [q_up_at]
    unfold s_sh
    rw [if_pos (by omega), show p + 1 - 1 = p by omega]
  · rw [q_up_ne _ _ hx]
    unfold s_sh
    by_cases h2 : p + 1 < x ∧ x ≤ m
    · rw [if_pos h2, if_pos (by omega)]
    · rw [if_neg h2, if_neg (by omega)]
theorem c_Co_shift {k s a m : Nat} {g : Nat → Int} (hm : m < 70) (ha : a ≤ m) (hlo : ∀ j, j < a → g j ≤ (s : Int)) (hhi : ∀ j, a ≤ j → j < m → (s : Int) < g j) {b : Nat} : ∀ (f : Nat) (d : qD), a + f ≤ m → d.1 t_coSets k = s_sh g m (a + f) → ∃ d', q_ag [t_coSets] d d' ∧ d'.1 t_coSets k = s_sh g m a ∧ (∀ k', k' ≠ k → d'.1 t_coSets k' = d.1 t_coSets k') ∧ (∀ r, q_Ev m_Co_add 34 [q_r t_Co k, q_i (s : Int), q_i (a : Int)] [] (q_mk d' b) r → q_Ev m_Co_add 12 [q_r t_Co k, q_i (s : Int), q_i ((a + f : Nat) : Int)] [] (q_mk d b) r) := by
  intro f
  induction f with
  | zero =>
    intro d h e
    refine ⟨d, q_ag_refl _ _, e, fun _ _ => rfl, fun r hr => e_Co_add_12 ⟨fun _ => hr, fun h2 => ?_⟩⟩
    have : q_w (((a + 0 : Nat) : Int) - 1) = ((a - 1 : Nat) : Int) := by rw [q_w_id (by omega) (by omega)]; omega
    rw [this, Int.toNat_natCast, e]
    refine ⟨by omega, by omega, fun _ => hr, fun h3 => ?_⟩
    unfold s_sh at h3
    rw [if_neg (by omega)] at h3
    have := hlo (a - 1) (by omega)
    omega
  | succ f ih =>
    intro d h e
    have h1 : q_w (((a + (f + 1) : Nat) : Int) - 1) = ((a + f : Nat) : Int) := by rw [q_w_id (by omega) (by omega)]; omega
    have h2 : q_w (((a + (f + 1) : Nat) : Int) + (-1)) = ((a + f : Nat) : Int) := by rw [q_w_id (by omega) (by omega)]; omega
    have hg : d.1 t_coSets k (a + f) = g (a + f) := by rw [e]; exact if_neg (by omega)
    obtain ⟨d', q1, q2, q3, q4⟩ := ih (q_sI d t_coSets k (a + (f + 1)) (g (a + f))) (by omega) (by rw [q_sI_at, e]; exact s_sh_dn g (p := a + f) (by omega))
    refine ⟨d', q_ag_tr (q_ag_sI (by decide)) q1, q2, fun k' hk => by rw [q3 k' hk, q_sI_ni _ _ hk], fun r hr => e_Co_add_12 ⟨fun h3 => by omega, fun _ => ?_⟩⟩
    rw [h1, h2, Int.toNat_natCast, Int.toNat_natCast, hg]
    refine ⟨by omega, by omega, fun h3 => ?_, fun _ => ⟨by omega, by omega, by omega, by omega, q4 r hr⟩⟩
    have := hhi (a + f) (by omega) (by omega)
    omega
theorem c_Co_add {k s : Nat} {c : Nat → Bool} (hs : s < 256) (hL : (s_fl (s_ins c s)).length ≤ 70) {d : qD} {b : Nat} (e : s_Co k c d) : ∃ d', q_Ev m_Co_add 0 [q_r t_Co k, q_i (s : Int), none] [] (q_mk d b) (none, q_mk d' b) ∧ q_ag [t_Co, t_coSets] d d' ∧ s_Co k (s_ins c s) d' ∧ ∀ k', k' ≠ k → d'.1 t_coSets k' = d.1 t_coSets k' ∧ d'.1 t_Co k' = d.1 t_Co k' := by
  have sp := s_fl_split (c := c) hs
  have si := s_fl_ins (c := c) hs
  by_cases hc : c s = true
  · rw [s_ins_same hc] at hL ⊢
    refine ⟨d, e_Co_add_0 ⟨fun _ => e_Co_add_8 rfl, fun _ => ⟨_, _, c_Co_contains hL e, e_Co_add_7 ⟨fun h => ?_, fun _ => e_Co_add_8 rfl⟩⟩⟩, q_ag_refl _ _, e, fun _ _ => ⟨rfl, rfl⟩⟩
    rw [s_in_nat hs, hc] at h
    exact absurd h (by decide)
  · have hc2 : c s = false := by simpa using hc
    rw [hc2, if_neg (by decide), List.nil_append] at sp
    generalize hA : (List.range s).filter c = A at sp si
    generalize hB : (List.range' (s + 1) (255 - s)).filter c = B at sp si
    have hm : (s_fl c).length = A.length + B.length := by rw [sp, List.length_append]
    have hm2 : (s_fl (s_ins c s)).length = A.length + B.length + 1 := by rw [si, List.length_append, List.length_cons]; omega
    have gA : ∀ j, j < A.length → d.1 t_coSets k j = ((A.getD j 0 : Nat) : Int) := by
      intro j hj
      rw [e.2 j (by omega), sp, List.getD_eq_getElem?_getD, List.getElem?_append_left hj, ← List.getD_eq_getElem?_getD]
    have gB : ∀ j, j < B.length → d.1 t_coSets k (A.length + j) = ((B.getD j 0 : Nat) : Int) := by
      intro j hj
      rw [e.2 _ (by omega), sp, List.getD_eq_getElem?_getD, List.getElem?_append_right (by omega), show A.length + j - A.length = j by omega, ← List.getD_eq_getElem?_getD]
    have mA : ∀ j, j < A.length → A.getD j 0 < s := by
      intro j hj
      rw [List.getD_eq_getElem?_getD, List.getElem?_eq_getElem hj]
      have : A[j] ∈ (List.range s).filter c := by rw [hA]; exact List.getElem_mem hj
      exact List.mem_range.mp (List.mem_filter.mp this).1
    have mB : ∀ j, j < B.length → s < B.getD j 0 := by
      intro j hj
      rw [List.getD_eq_getElem?_getD, List.getElem?_eq_getElem hj]
      have : B[j] ∈ (List.range' (s + 1) (255 - s)).filter c := by rw [hB]; exact List.getElem_mem hj
      have := (List.mem_range'_1.mp (List.mem_filter.mp this).1).1
      show s < B[j]
      omega
    obtain ⟨d', q1, q2, q3, q4⟩ := c_Co_shift (k := k) (s := s) (a := A.length) (m := A.length + B.length) (g := d.1 t_coSets k) (b := b) (by omega) (by omega) (by
      intro j hj
      rw [gA j hj]
      have := mA j hj
      omega) (by
      intro j hj hj2
      have h1 := gB (j - A.length) (by omega)
      have h2 := mB (j - A.length) (by omega)
      rw [show A.length + (j - A.length) = j by omega] at h1
      omega) B.length d (by omega) (s_sh_top _ _).symm
    have e1 := e.1
    have e1' : d'.1 t_Co k 1 = ((s_fl c).length : Int) := by rw [q1.1 t_Co (by decide), e1]
    refine ⟨q_sI (q_sI d' t_coSets k A.length (s : Int)) t_Co k 1 (((s_fl c).length + 1 : Nat) : Int), e_Co_add_0 ⟨fun h => by omega, fun _ => ⟨_, _, c_Co_contains (by omega) e, e_Co_add_7 ⟨fun _ => ?_, fun h => ?_⟩⟩⟩, ?_, ⟨?_, ?_⟩, fun k' hk => ⟨?_, ?_⟩⟩
    · rw [e1, hm]
      refine q4 _ (e_Co_add_34 ⟨by omega, by omega, ?_⟩)
      rw [e1', Int.toNat_natCast, q_wS (by omega), hm]
    · rw [s_in_nat hs, hc2] at h
      exact absurd rfl h
    · exact q_ag_tr (q_ag_up q1 (by decide)) (q_ag_tr (q_ag_sI (by decide)) (q_ag_sI (by decide)))
    · rw [q_sI_at, q_up_at]; omega
    · rw [q_sI_ne _ _ (by decide), q_sI_at, q2, si]
      intro j hj
      rw [List.length_append, List.length_cons] at hj
      by_cases h1 : j < A.length
      · rw [q_up_ne _ _ (by omega), List.getD_eq_getElem?_getD, List.getElem?_append_left h1, ← List.getD_eq_getElem?_getD]
        unfold s_sh
        rw [if_neg (by omega), gA j h1]
      · by_cases h2 : j = A.length
        · subst h2
          rw [q_up_at, List.getD_eq_getElem?_getD, List.getElem?_append_right (Nat.le_refl _), Nat.sub_self]
          rfl
        · rw [q_up_ne _ _ h2, List.getD_eq_getElem?_getD, List.getElem?_append_right (by omega)]
          unfold s_sh
          rw [if_pos (by omega)]
          have := gB (j - 1 - A.length) (by omega)
          rw [show A.length + (j - 1 - A.length) = j - 1 by omega] at this
          rw [this, show j - A.length = (j - 1 - A.length) + 1 by omega, List.getElem?_cons_succ, List.getD_eq_getElem?_getD]
    · rw [q_sI_ne _ _ (by decide), q_sI_ni _ _ hk, q3 k' hk]
    · rw [q_sI_ni _ _ hk, q_sI_ne _ _ (by decide), q1.1 t_Co (by decide)]
/-- a set taken away -/
def s_del (c : Nat → Bool) (s : Nat) : Nat → Bool := fun t => c t && !(t == s)
theorem s_fl_del (c : Nat → Bool) (s : Nat) : s_fl (s_del c s) = (s_fl c).filter (fun t => !(t == s)) := by
  unfold s_fl s_del
  rw [List.filter_filter]
  exact List.filter_congr fun x _ => Bool.and_comm _ _
theorem c_Co_removeGo {k s : Nat} {L : List Nat} (hL : L.length ≤ 70) {b : Nat} : ∀ (R K : List Nat) (i : Nat) (d : qD), L.drop i = R → i ≤ L.length → K.length ≤ i → d.1 t_Co k 1 = (L.length : Int) → s_lst (d.1 t_coSets k) K → (∀ j, i ≤ j → j < L.length → d.1 t_coSets k j = ((L.getD j 0 : Nat) : Int)) → ∃ d', q_Ev m_Co_remove 4 [q_r t_Co k, q_i (s : Int), q_i (K.length : Int), q_i (i : Int)] [] (q_mk d b) (none, q_mk d' b) ∧ q_ag [t_Co, t_coSets] d d' ∧ d'.1 t_Co k 1 = ((K ++ R.filter (fun t => !(t == s))).length : Int) ∧ s_lst (d'.1 t_coSets k) (K ++ R.filter (fun t => !(t == s))) ∧ ∀ k', k' ≠ k → d'.1 t_coSets k' = d.1 t_coSets k' ∧ d'.1 t_Co k' = d.1 t_Co k'
  | [], K, i, d, h, hi, hK, e1, eK, eL => by
    have := s_drop_nil h
    rw [List.filter_nil, List.append_nil]
    refine ⟨q_sI d t_Co k 1 (K.length : Int), e_Co_remove_4 ⟨fun _ => rfl, fun h2 => by omega⟩, q_ag_sI (by decide), by rw [q_sI_at, q_up_at], by rw [q_sI_ne _ _ (by decide)]; exact eK, fun k' hk => ⟨q_sI_ne _ _ (by decide), q_sI_ni _ _ hk⟩⟩
  | t :: R, K, i, d, h, hi, hK, e1, eK, eL => by
    obtain ⟨h1, h2, h3⟩ := s_drop_cons h
    by_cases hq : t = s
    · subst hq
      obtain ⟨d', q1, q2, q3, q4, q5⟩ := c_Co_removeGo (s := t) hL (b := b) R K (i + 1) d h3 (by omega) (by omega) e1 eK (fun j hj hj2 => eL j (by omega) hj2)
      rw [List.filter_cons_of_neg (by rw [beq_self_eq_true]; decide)]
      refine ⟨d', e_Co_remove_4 ⟨fun h2 => by omega, fun _ => ⟨by omega, by omega, ?_⟩⟩, q2, q3, q4, q5⟩
      rw [Int.toNat_natCast, eL i (Nat.le_refl i) h1, h2]
      refine ⟨fun _ => e_Co_remove_23 ?_, fun h4 => absurd rfl h4⟩
      rw [q_wS (by omega)]; exact q1
    · have hsn := s_lst_snoc (m := t) eK
      obtain ⟨d', q1, q2, q3, q4, q5⟩ := c_Co_removeGo (s := s) hL (b := b) R (K ++ [t]) (i + 1) (q_sI d t_coSets k K.length (t : Int)) h3 (by omega) (by rw [List.length_append]; show K.length + 1 ≤ _; omega) (by rw [q_sI_ne _ _ (by decide), e1]) (by rw [q_sI_at]; exact hsn) (fun j hj hj2 => by rw [q_sI_at, q_up_ne _ _ (by omega)]; exact eL j (by omega) hj2)
      rw [List.filter_cons_of_pos (by rw [beq_false_of_ne hq]; rfl), show K ++ t :: R.filter (fun t => !(t == s)) = (K ++ [t]) ++ R.filter (fun t => !(t == s)) by rw [List.append_assoc]; rfl]
      refine ⟨d', e_Co_remove_4 ⟨fun h2 => by omega, fun _ => ⟨by omega, by omega, ?_⟩⟩, q_ag_tr (q_ag_sI (by decide)) q2, q3, q4, fun k' hk => ⟨?_, ?_⟩⟩
      · rw [Int.toNat_natCast, eL i (Nat.le_refl i) h1, h2]
        refine ⟨fun h4 => absurd (by omega) hq, fun _ => ⟨by omega, by omega, by omega, by omega, e_Co_remove_23 ?_⟩⟩
        rw [q_wS (by omega), Int.toNat_natCast, q_wS (by omega)]
        rw [List.length_append] at q1
        exact q1
      · rw [(q5 k' hk).1, q_sI_ni _ _ hk]
      · rw [(q5 k' hk).2, q_sI_ne _ _ (by decide)]
theorem c_Co_remove {k s : Nat} {c : Nat → Bool} (hL : (s_fl c).length ≤ 70) {d : qD} {b : Nat} (e : s_Co k c d) : ∃ d', q_Ev m_Co_remove 0 [q_r t_Co k, q_i (s : Int), none, none] [] (q_mk d b) (none, q_mk d' b) ∧ q_ag [t_Co, t_coSets] d d' ∧ s_Co k (s_del c s) d' ∧ ∀ k', k' ≠ k → d'.1 t_coSets k' = d.1 t_coSets k' ∧ d'.1 t_Co k' = d.1 t_Co k' := by
  obtain ⟨d', q1, q2, q3, q4, q5⟩ := c_Co_removeGo (k := k) (s := s) hL (b := b) (s_fl c) [] 0 d rfl (by omega) (Nat.le_refl 0) e.1 (fun j hj => absurd hj (Nat.not_lt_zero j)) (fun j _ hj => e.2 j hj)
  refine ⟨d', e_Co_remove_0 q1, q2, ?_, q5⟩
  unfold s_Co
  rw [s_fl_del]
  exact ⟨q3, q4⟩
theorem c_Co_copyGo {k k2 : Nat} {L : List Nat} (hk : k2 ≠ k) (hL : L.length ≤ 70) {b : Nat} : ∀ (f i : Nat) (d : qD), i + f = L.length → d.1 t_Co k 1 = (L.length : Int) → s_lst (d.1 t_coSets k2) L → (∀ j, j < i → d.1 t_coSets k j = ((L.getD j 0 : Nat) : Int)) → ∃ d', q_Ev m_Co_copyFrom 6 [q_r t_Co k, q_r t_Co k2, q_i (i : Int)] [] (q_mk d b) (none, q_mk d' b) ∧ q_ag [t_coSets] d d' ∧ s_lst (d'.1 t_coSets k) L ∧ ∀ k', k' ≠ k → d'.1 t_coSets k' = d.1 t_coSets k'
  | 0, i, d, h, e1, eS, eL => ⟨d, e_Co_copyFrom_6 ⟨fun _ => rfl, fun h2 => by omega⟩, q_ag_refl _ _, fun j hj => eL j (by omega), fun _ _ => rfl⟩
  | f + 1, i, d, h, e1, eS, eL => by
    obtain ⟨d', q1, q2, q3, q4⟩ := c_Co_copyGo hk hL (b := b) f (i + 1) (q_sI d t_coSets k i ((L.getD i 0 : Nat) : Int)) (by omega) (by rw [q_sI_ne _ _ (by decide), e1]) (by rw [q_sI_ni _ _ hk]; exact eS) (by
      intro j hj
      rw [q_sI_at]
      by_cases hq : j = i
      · subst hq; rw [q_up_at]
      · rw [q_up_ne _ _ hq]; exact eL j (by omega))
    refine ⟨d', e_Co_copyFrom_6 ⟨fun h2 => by omega, fun _ => ⟨by omega, by omega, by omega, by omega, ?_⟩⟩, q_ag_tr (q_ag_sI (by decide)) q2, q3, fun k' hk' => by rw [q4 k' hk', q_sI_ni _ _ hk']⟩
    rw [q_wS (by omega), Int.toNat_natCast, eS i (by omega)]
    exact q1
theorem c_Co_copyFrom {k k2 : Nat} {c : Nat → Bool} (hk : k2 ≠ k) (hL : (s_fl c).length ≤ 70) {d : qD} {b : Nat} (e : s_Co k2 c d) : ∃ d', q_Ev m_Co_copyFrom 0 [q_r t_Co k, q_r t_Co k2, none] [] (q_mk d b) (none, q_mk d' b) ∧ q_ag [t_Co, t_coSets] d d' ∧ s_Co k c d' ∧ ∀ k', k' ≠ k → d'.1 t_coSets k' = d.1 t_coSets k' ∧ d'.1 t_Co k' = d.1 t_Co k' := by
  obtain ⟨d', q1, q2, q3, q4⟩ := c_Co_copyGo hk hL (b := b) (s_fl c).length 0 (q_sI d t_Co k 1 ((s_fl c).length : Int)) (by omega) (by rw [q_sI_at, q_up_at]) (by rw [q_sI_ne _ _ (by decide)]; exact e.2) (fun j hj => by omega)
  refine ⟨d', e_Co_copyFrom_0 ?_, q_ag_tr (q_ag_sI (by decide)) (q_ag_up q2 (by decide)), ⟨?_, q3⟩, fun k' hk' => ⟨?_, ?_⟩⟩
  · rw [e.1]; exact q1
  · rw [q2.1 t_Co (by decide), q_sI_at, q_up_at]
  · rw [q4 k' hk', q_sI_ne _ _ (by decide)]
  · rw [q2.1 t_Co (by decide), q_sI_ni _ _ hk']
