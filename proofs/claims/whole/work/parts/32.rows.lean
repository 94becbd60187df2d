/-! rows of static worlds, worlds that agree but for some tags; the tape -/
def q_sR (d : qD) (t i : Nat) (g : Nat → Int) : qD := (fun t' i' k' => if t' = t ∧ i' = i then g k' else d.1 t' i' k', d.2)
def q_up (g : Nat → Int) (k : Nat) (v : Int) : Nat → Int := fun x => if x = k then v else g x
theorem q_sI_row (d : qD) (t i k : Nat) (v : Int) : q_sI d t i k v = q_sR d t i (q_up (d.1 t i) k v) := by
  unfold q_sI q_sR q_up
  congr 1
  funext t' i' k'
  by_cases h : t' = t ∧ i' = i
  · obtain ⟨rfl, rfl⟩ := h
    simp
  · rw [if_neg h, if_neg (fun hh => h ⟨hh.1, hh.2.1⟩)]
theorem q_sR_row (d : qD) (t i : Nat) (g : Nat → Int) : (q_sR d t i g).1 t i = g := by
  funext k; exact if_pos ⟨rfl, rfl⟩
theorem q_sR_ne (d : qD) {t i t' i' : Nat} (g : Nat → Int) (h : t' ≠ t) : (q_sR d t i g).1 t' i' = d.1 t' i' := by
  funext k; exact if_neg (fun hh => h hh.1)
theorem q_sR_ni (d : qD) {t i t' i' : Nat} (g : Nat → Int) (h : i' ≠ i) : (q_sR d t i g).1 t' i' = d.1 t' i' := by
  funext k; exact if_neg (fun hh => h hh.2)
theorem q_sR_sR (d : qD) (t i : Nat) (g g' : Nat → Int) : q_sR (q_sR d t i g) t i g' = q_sR d t i g' := by
  unfold q_sR
  congr 1
  funext t' i' k'
  by_cases h : t' = t ∧ i' = i
  · rw [if_pos h, if_pos h]
  · rw [if_neg h, if_neg h]; exact if_neg h
theorem q_sR_id (d : qD) (t i : Nat) : q_sR d t i (d.1 t i) = d := by
  unfold q_sR
  refine Prod.ext ?_ rfl
  funext t' i' k'
  by_cases h : t' = t ∧ i' = i
  · obtain ⟨rfl, rfl⟩ := h
    simp
  · exact if_neg h
theorem q_up_at (g : Nat → Int) (k : Nat) (v : Int) : q_up g k v k = v := if_pos rfl
theorem q_up_ne (g : Nat → Int) {k x : Nat} (v : Int) (h : x ≠ k) : q_up g k v x = g x := if_neg h
/-- two worlds agree but for some tags -/
def q_ag (S : List Nat) (d d' : qD) : Prop := (∀ t, t ∉ S → ∀ i, d'.1 t i = d.1 t i) ∧ (∀ t, t ∉ S → ∀ i, d'.2 t i = d.2 t i)
theorem q_ag_refl (S : List Nat) (d : qD) : q_ag S d d := ⟨fun _ _ _ => rfl, fun _ _ _ => rfl⟩
theorem q_ag_tr {S : List Nat} {d d' d'' : qD} (h1 : q_ag S d d') (h2 : q_ag S d' d'') : q_ag S d d'' :=
  ⟨fun t ht i => (h2.1 t ht i).trans (h1.1 t ht i), fun t ht i => (h2.2 t ht i).trans (h1.2 t ht i)⟩
theorem q_ag_up {S S' : List Nat} {d d' : qD} (h : q_ag S d d') (hs : ∀ t ∈ S, t ∈ S') : q_ag S' d d' :=
  ⟨fun t ht i => h.1 t (fun hh => ht (hs t hh)) i, fun t ht i => h.2 t (fun hh => ht (hs t hh)) i⟩
theorem q_ag_sR {S : List Nat} {d : qD} {t i : Nat} {g : Nat → Int} (h : t ∈ S) : q_ag S d (q_sR d t i g) :=
  ⟨fun t' ht i' => q_sR_ne d g (fun hh => ht (hh ▸ h)), fun _ _ _ => rfl⟩
theorem q_ag_sI {S : List Nat} {d : qD} {t i k : Nat} {v : Int} (h : t ∈ S) : q_ag S d (q_sI d t i k v) := by
  rw [q_sI_row]; exact q_ag_sR h
theorem q_ag_sL {S : List Nat} {d : qD} {t i k : Nat} {v : Int64} (h : t ∈ S) : q_ag S d (q_sL d t i k v) :=
  ⟨fun _ _ _ => rfl, fun t' ht i' => by
    funext k'
    exact if_neg (fun (hh : t' = t ∧ i' = i ∧ k' = k) => ht (hh.1 ▸ h))⟩
/-- a row with so many places from one on laid anew -/
def s_fed (g : Nat → Int) (sz : Nat) (V : Nat → Int) (k : Nat) : Nat → Int := fun x => if sz ≤ x ∧ x < sz + k then V (x - sz) else g x
theorem s_fed_0 (g : Nat → Int) (sz : Nat) (V : Nat → Int) : s_fed g sz V 0 = g := by
  funext x; exact if_neg (by omega)
theorem s_fed_up (g : Nat → Int) (sz : Nat) (V : Nat → Int) (k : Nat) : q_up (s_fed g sz V k) (sz + k) (V k) = s_fed g sz V (k + 1) := by
  funext x
  unfold q_up s_fed
  by_cases h : x = sz + k
  · subst h
    rw [if_pos rfl, if_pos (by omega), show sz + k - sz = k by omega]
  · rw [if_neg h]
    by_cases h2 : sz ≤ x ∧ x < sz + k
    · rw [if_pos h2, if_pos (by omega)]
    · rw [if_neg h2, if_neg (by omega)]
/-- the 20 bytes of a feed -/
def s_fedV (x1 x2 x3 x4 x5 : Int) (k : Nat) : Int := s_byte (if k < 4 then x1 else if k < 8 then x2 else if k < 12 then x3 else if k < 16 then x4 else x5) (24 - 8 * ((k % 4 : Nat) : Int))
theorem c_Ta_append {x : Int} {g : Nat → Int} {sz k : Nat} {V : Nat → Int} (hz : sz + k ≤ 156) (h0 : V k = s_byte x 24) (h1 : V (k + 1) = s_byte x 16) (h2 : V (k + 2) = s_byte x 8) (h3 : V (k + 3) = s_byte x 0) {d : qD} {b : Nat} (e1 : d.1 t_Ta 0 1 = ((sz + k : Nat) : Int)) (e2 : d.1 t_bytes 0 = s_fed g sz V k) : ∃ d', q_Ev m_Ta_append 0 [some (.inr (.inr (t_Ta, 0))), some (.inl x), none] [] (q_mk d b) (none, q_mk d' b) ∧ q_ag [t_Ta, t_bytes] d d' ∧ d'.1 t_Ta 0 1 = ((sz + (k + 4) : Nat) : Int) ∧ d'.1 t_bytes 0 = s_fed g sz V (k + 4) := by
  have stp : ∀ (d : qD) (k : Nat) (s : Int), sz + k < 160 → 0 ≤ s → s ≤ 24 → d.1 t_Ta 0 1 = ((sz + k : Nat) : Int) → d.1 t_bytes 0 = s_fed g sz V k → V k = s_byte x s → ∃ d', q_ag [t_Ta, t_bytes] d d' ∧ d'.1 t_Ta 0 1 = ((sz + (k + 1) : Nat) : Int) ∧ d'.1 t_bytes 0 = s_fed g sz V (k + 1) ∧ (∀ r, q_Ev m_Ta_append 2 [some (.inr (.inr (t_Ta, 0))), some (.inl x), some (.inl (s - 8))] [] (q_mk d' b) r → q_Ev m_Ta_append 2 [some (.inr (.inr (t_Ta, 0))), some (.inl x), some (.inl s)] [] (q_mk d b) r) := by
    intro d k s hk hs hs2 e1 e2 hV
    refine ⟨q_sI (q_sI d t_bytes 0 (sz + k) (V k)) t_Ta 0 1 ((sz + (k + 1) : Nat) : Int), ?_, ?_, ?_, fun r h => ?_⟩
    · exact q_ag_tr (q_ag_sI (by decide)) (q_ag_sI (by decide))
    · rw [q_sI_row, q_sR_row, q_up_at]
    · rw [q_sI_row, q_sR_ne _ _ (by decide), q_sI_row, q_sR_row, e2, s_fed_up]
    · refine e_Ta_append_2 ⟨fun h5 => by omega, fun _ => ⟨fun h5 => by omega, fun _ => ⟨by omega, by omega, ?_⟩⟩⟩
      rw [e1, show q_w (((sz + k : Nat) : Int) + 1) = ((sz + (k + 1) : Nat) : Int) by rw [q_w_id (by omega) (by omega)]; omega, Int.toNat_natCast, show q_w (s + -8) = s - 8 by rw [q_w_id (by omega) (by omega)]; omega]
      rw [hV] at h
      exact h
  obtain ⟨d1, a1, b1, c1, f1⟩ := stp d k 24 (by omega) (by decide) (by decide) e1 e2 h0
  obtain ⟨d2, a2, b2, c2, f2⟩ := stp d1 (k + 1) 16 (by omega) (by decide) (by decide) b1 c1 h1
  obtain ⟨d3, a3, b3, c3, f3⟩ := stp d2 (k + 2) 8 (by omega) (by decide) (by decide) b2 c2 h2
  obtain ⟨d4, a4, b4, c4, f4⟩ := stp d3 (k + 3) 0 (by omega) (by decide) (by decide) b3 c3 h3
  refine ⟨d4, e_Ta_append_0 (f1 _ (f2 _ (f3 _ (f4 _ ?_)))), q_ag_tr a1 (q_ag_tr a2 (q_ag_tr a3 a4)), b4, c4⟩
  exact e_Ta_append_2 ⟨fun _ => e_Ta_append_26 rfl, fun h => absurd h (by decide)⟩
theorem c_GC_feed {x1 x2 x3 x4 x5 : Int} {sz : Nat} {d : qD} {b : Nat} (e1 : d.1 t_Ta 0 1 = (sz : Int)) (hz : sz ≤ 160) : ∃ d', q_Ev m_GC_feed 0 [some (.inr (.inr (t_GC, 0))), some (.inl x1), some (.inl x2), some (.inl x3), some (.inl x4), some (.inl x5)] [] (q_mk d b) (some (.inl (if sz ≤ 140 then ((sz + 20 : Nat) : Int) else -1)), q_mk d' b) ∧ q_ag [t_Ta, t_bytes] d d' ∧ d'.1 t_Ta 0 1 = ((if sz ≤ 140 then sz + 20 else sz : Nat) : Int) ∧ d'.1 t_bytes 0 = if sz ≤ 140 then s_fed (d.1 t_bytes 0) sz (s_fedV x1 x2 x3 x4 x5) 20 else d.1 t_bytes 0 := by
  by_cases h : sz ≤ 140
  · simp only [if_pos h]
    obtain ⟨d1, v1, a1, b1, c1⟩ := c_Ta_append (x := x1) (g := d.1 t_bytes 0) (sz := sz) (k := 0) (V := s_fedV x1 x2 x3 x4 x5) (by omega) rfl rfl rfl rfl (d := d) (b := b) e1 (s_fed_0 _ _ _).symm
    obtain ⟨d2, v2, a2, b2, c2⟩ := c_Ta_append (x := x2) (g := d.1 t_bytes 0) (sz := sz) (k := 4) (V := s_fedV x1 x2 x3 x4 x5) (by omega) rfl rfl rfl rfl (d := d1) (b := b) b1 c1
    obtain ⟨d3, v3, a3, b3, c3⟩ := c_Ta_append (x := x3) (g := d.1 t_bytes 0) (sz := sz) (k := 8) (V := s_fedV x1 x2 x3 x4 x5) (by omega) rfl rfl rfl rfl (d := d2) (b := b) b2 c2
    obtain ⟨d4, v4, a4, b4, c4⟩ := c_Ta_append (x := x4) (g := d.1 t_bytes 0) (sz := sz) (k := 12) (V := s_fedV x1 x2 x3 x4 x5) (by omega) rfl rfl rfl rfl (d := d3) (b := b) b3 c3
    obtain ⟨d5, v5, a5, b5, c5⟩ := c_Ta_append (x := x5) (g := d.1 t_bytes 0) (sz := sz) (k := 16) (V := s_fedV x1 x2 x3 x4 x5) (by omega) rfl rfl rfl rfl (d := d4) (b := b) b4 c4
    refine ⟨d5, ?_, q_ag_tr a1 (q_ag_tr a2 (q_ag_tr a3 (q_ag_tr a4 a5))), b5, c5⟩
    refine e_GC_feed_0 ⟨fun _ => ⟨_, _, v1, e_GC_feed_15 ⟨_, _, v2, e_GC_feed_20 ⟨_, _, v3, e_GC_feed_25 ⟨_, _, v4, e_GC_feed_30 ⟨_, _, v5, e_GC_feed_35 ?_⟩⟩⟩⟩⟩, fun h2 => ?_⟩
    · rw [b5]
    · rw [e1, q_w_id (by omega) (by omega)] at h2; omega
  · simp only [if_neg h]
    refine ⟨d, ?_, q_ag_refl _ _, e1, rfl⟩
    refine e_GC_feed_0 ⟨fun h2 => ?_, fun h2 => rfl⟩
    rw [e1, q_w_id (by omega) (by omega)] at h2; omega
theorem c_GC_end {x : Int} {sz : Nat} {d : qD} {b : Nat} (e1 : d.1 t_Ta 0 1 = (sz : Int)) : ∃ d', q_Ev m_GC_end 0 [some (.inr (.inr (t_GC, 0))), some (.inl x)] [] (q_mk d b) (some (.inl (if 0 ≤ x ∧ x ≤ sz then x else -1)), q_mk d' b) ∧ q_ag [t_Ta] d d' ∧ d'.1 t_Ta 0 1 = ((if 0 ≤ x ∧ x ≤ sz then x.toNat else sz : Nat) : Int) := by
  by_cases h : 0 ≤ x ∧ x ≤ sz
  · simp only [if_pos h]
    refine ⟨q_sI d t_Ta 0 1 x, ?_, q_ag_sI (by decide), ?_⟩
    · exact e_GC_end_0 ⟨fun h2 => by omega, fun _ => ⟨fun _ => rfl, fun h2 => by omega⟩⟩
    · rw [q_sI_row, q_sR_row, q_up_at]; omega
  · simp only [if_neg h]
    refine ⟨d, ?_, q_ag_refl _ _, e1⟩
    exact e_GC_end_0 ⟨fun _ => e_GC_end_8 rfl, fun h2 => ⟨fun h3 => by omega, fun _ => e_GC_end_8 rfl⟩⟩
