/-! flip; feed and end over the state -/
theorem q_R_b : ∀ t, t ≠ t_Cs → ∀ b b2 i k, q_R b t i k = q_R b2 t i k
  | 0, _, _, _, _, _ => rfl
  | 1, _, _, _, _, _ => rfl
  | 2, _, _, _, _, _ => rfl
  | 3, _, _, _, _, _ => rfl
  | 4, _, _, _, _, _ => rfl
  | 5, _, _, _, _, _ => rfl
  | 6, _, _, _, _, _ => rfl
  | 7, _, _, _, _, _ => rfl
  | 8, _, _, _, _, _ => rfl
  | 9, _, _, _, _, _ => rfl
  | 10, _, _, _, _, _ => rfl
  | 11, _, _, _, _, _ => rfl
  | 12, _, _, _, _, _ => rfl
  | 13, _, _, _, _, _ => rfl
  | 14, _, _, _, _, _ => rfl
  | 15, _, _, _, _, _ => rfl
  | 16, _, _, _, _, _ => rfl
  | 17, _, _, _, _, _ => rfl
  | 18, _, _, _, _, _ => rfl
  | 19, _, _, _, _, _ => rfl
  | 20, _, _, _, _, _ => rfl
  | 21, _, _, _, _, _ => rfl
  | 22, _, _, _, _, _ => rfl
  | 23, _, _, _, _, _ => rfl
  | 24, _, _, _, _, _ => rfl
  | 25, _, _, _, _, _ => rfl
  | 26, _, _, _, _, _ => rfl
  | 27, _, _, _, _, _ => rfl
  | 28, _, _, _, _, _ => rfl
  | 29, _, _, _, _, _ => rfl
  | 30, _, _, _, _, _ => rfl
  | 31, _, _, _, _, _ => rfl
  | 32, _, _, _, _, _ => rfl
  | 33, _, _, _, _, _ => rfl
  | 34, h, _, _, _, _ => absurd rfl h
  | 35, _, _, _, _, _ => rfl
  | 36, _, _, _, _, _ => rfl
  | 37, _, _, _, _, _ => rfl
  | 38, _, _, _, _, _ => rfl
  | 39, _, _, _, _, _ => rfl
  | 40, _, _, _, _, _ => rfl
  | 41, _, _, _, _, _ => rfl
  | 42, _, _, _, _, _ => rfl
  | 43, _, _, _, _, _ => rfl
  | 44, _, _, _, _, _ => rfl
  | 45, _, _, _, _, _ => rfl
  | 46, _, _, _, _, _ => rfl
  | 47, _, _, _, _, _ => rfl
  | 48, _, _, _, _, _ => rfl
  | 49, _, _, _, _, _ => rfl
  | 50, _, _, _, _, _ => rfl
  | 51, _, _, _, _, _ => rfl
  | 52, _, _, _, _, _ => rfl
  | 53, _, _, _, _, _ => rfl
  | 54, _, _, _, _, _ => rfl
  | 55, _, _, _, _, _ => rfl
  | 56, _, _, _, _, _ => rfl
  | 57, _, _, _, _, _ => rfl
  | 58, _, _, _, _, _ => rfl
  | 59, _, _, _, _, _ => rfl
  | 60, _, _, _, _, _ => rfl
  | 61, _, _, _, _, _ => rfl
  | 62, _, _, _, _, _ => rfl
  | 63, _, _, _, _, _ => rfl
  | n + 64, _, b, b2, i, k => by
    have h8 : q_rl_all[(n + 64) / 8]? = none := List.getElem?_eq_none (by
      show 8 ≤ (n + 64) / 8
      omega)
    unfold q_R
    rw [h8]
theorem q_R_flip {d : qD} {b : Nat} (hb : b < 2) : q_setR (q_setR (q_mk d b) t_Cs 0 0 (some (t_tab, 1 - b))) t_Cs 0 1 (some (t_tab, b)) = q_mk d (1 - b) := by
  unfold q_setR q_mk
  refine Prod.ext rfl (Prod.ext rfl ?_)
  funext t i k
  dsimp only
  by_cases ht : t = t_Cs
  · subst ht
    match i, k with
    | 0, 0 => rfl
    | 0, 1 =>
      rw [if_pos ⟨rfl, rfl, rfl⟩]
      show some (t_tab, b) = some (t_tab, 1 - (1 - b))
      rw [show 1 - (1 - b) = b by omega]
    | 0, k + 2 =>
      rw [if_neg (fun h => by have := h.2.2; omega), if_neg (fun h => by have := h.2.2; omega)]
      rfl
    | i + 1, 0 =>
      rw [if_neg (fun h => by have := h.2.1; omega), if_neg (fun h => by have := h.2.1; omega)]
      rfl
    | i + 1, 1 =>
      rw [if_neg (fun h => by have := h.2.1; omega), if_neg (fun h => by have := h.2.1; omega)]
      rfl
    | i + 1, k + 2 =>
      rw [if_neg (fun h => by have := h.2.1; omega), if_neg (fun h => by have := h.2.1; omega)]
      rfl
  · rw [if_neg (fun h => ht h.1), if_neg (fun h => ht h.1)]
    exact q_R_b t ht _ _ _ _
theorem c_Cs_flip : s_flipOk := by
  intro d b hb
  have hw : ((none : Option qV), q_mk d (1 - b)) = (none, q_setR (q_setR (q_mk d b) t_Cs 0 0 (some (t_tab, 1 - b))) t_Cs 0 1 (some (t_tab, b))) := by rw [q_R_flip hb]
  exact q_walk 400 [] hw
def s_feedA (A : s_A) (x1 x2 x3 x4 x5 : Int) : Int × s_A := if A.1.1 ≤ 140 then (((A.1.1 + 20 : Nat) : Int), ((A.1.1 + 20, s_fed A.1.2 A.1.1 (s_fedV x1 x2 x3 x4 x5) 20), A.2)) else (-1, A)
def s_endA (A : s_A) (x : Int) : Int × s_A := if 0 ≤ x ∧ x ≤ A.1.1 then (x, ((x.toNat, A.1.2), A.2)) else (-1, A)
theorem s_feed_val {A : s_A} (hv : s_val A) (x1 x2 x3 x4 x5 : Int) : s_val (s_feedA A x1 x2 x3 x4 x5).2 := by
  unfold s_feedA
  split
  · refine ⟨by show A.1.1 + 20 ≤ 160; omega, fun k => ?_, hv.2.2⟩
    show 0 ≤ s_fed A.1.2 A.1.1 (s_fedV x1 x2 x3 x4 x5) 20 k ∧ s_fed A.1.2 A.1.1 (s_fedV x1 x2 x3 x4 x5) 20 k ≤ 255
    unfold s_fed
    split
    · exact s_byte_rg _ _
    · exact hv.2.1 k
  · exact hv
theorem s_end_val {A : s_A} (hv : s_val A) (x : Int) : s_val (s_endA A x).2 := by
  unfold s_endA
  split
  · exact ⟨by show x.toNat ≤ 160; have := hv.1; omega, hv.2⟩
  · exact hv
theorem s_CL_tape {A : s_A} {z : Nat} {V : Nat → Int} {d d' : qD} (e : s_CL A d) (a : q_ag [t_Ta, t_bytes] d d') (h : d'.1 t_Ta 0 1 = (z : Int) ∧ ∀ k, k < z → d'.1 t_bytes 0 k = V k) : s_CL ((z, V), A.2) d' := by
  have g : ∀ t, t ∉ [t_Ta, t_bytes] → ∀ i, d'.1 t i = d.1 t i := fun t ht i => a.1 t ht i
  obtain ⟨e1, e2, e3, e4, e5⟩ := e
  exact ⟨h, s_Ce_of e2 (g _ (by decide) _) (g _ (by decide) _) (g _ (by decide) _) (g _ (by decide) _) (g _ (by decide) _) (g _ (by decide) _) (g _ (by decide) _), s_Co_of e3 (g _ (by decide) _) (g _ (by decide) _), s_Pa_of e4 (g _ (by decide) _) (fun x _ => ⟨g _ (by decide) _, g _ (by decide) _, g _ (by decide) _, g _ (by decide) _⟩), fun x hx => s_Sh_of (e5 x hx) (g _ (by decide) _) (g _ (by decide) _)⟩
theorem s_MD_tape {A : s_A} {z : Nat} {V : Nat → Int} {v : Int} {d d' : qD} (e : s_MD A d) (a : q_ag [t_Md, t_mTape] d d') (hM : d'.1 t_Md 0 = q_up (d.1 t_Md 0) 1 v) (hv : v = (z : Int)) (h : ∀ k, k < z → q_and (d'.1 t_mTape 0 k) 255 = V k) : s_MD ((z, V), A.2) d' := by
  have g : ∀ t, t ∉ [t_Md, t_mTape] → ∀ i, d'.1 t i = d.1 t i := fun t ht i => a.1 t ht i
  have gM : ∀ k, k ≠ 1 → d'.1 t_Md 0 k = d.1 t_Md 0 k := fun k hk => by rw [hM, q_up_ne _ _ hk]
  obtain ⟨⟨e11, e12, e13, e14⟩, e2, e3, e4, e5⟩ := e
  refine ⟨⟨⟨by rw [hM, q_up_at, hv], h⟩, s_mP_of e12 (gM 20 (by decide)) (g _ (by decide) _), ?_, ?_⟩, ?_, ?_, fun hn => s_Mc_of (e4 hn) (gM 12 (by decide)) (g _ (by decide) _) (g _ (by decide) _) (g _ (by decide) _), ?_⟩
  · rw [g t_mShN (by decide), g t_mShF (by decide)]; exact e13
  · rw [g t_mWords (by decide)]; exact e14
  · rw [gM 10 (by decide)]; exact e2
  · rw [g t_mF (by decide)]; exact e3
  · rw [g t_mInC (by decide)]; exact e5
theorem c_GC_feedA {A : s_A} {x1 x2 x3 x4 x5 : Int} (hv : s_val A) {d : qD} {b : Nat} (e : s_CL A d) : ∃ d', q_Ev m_GC_feed 0 [q_r t_GC 0, q_i x1, q_i x2, q_i x3, q_i x4, q_i x5] [] (q_mk d b) (q_i (s_feedA A x1 x2 x3 x4 x5).1, q_mk d' b) ∧ q_ag [t_Ta, t_bytes] d d' ∧ s_CL (s_feedA A x1 x2 x3 x4 x5).2 d' := by
  obtain ⟨d', v, a, r1, r2⟩ := c_GC_feed (x1 := x1) (x2 := x2) (x3 := x3) (x4 := x4) (x5 := x5) (sz := A.1.1) (d := d) (b := b) e.1.1 hv.1
  refine ⟨d', ?_, a, ?_⟩
  · unfold s_feedA
    by_cases h : A.1.1 ≤ 140
    · rw [if_pos h] at v ⊢; exact v
    · rw [if_neg h] at v ⊢; exact v
  · unfold s_feedA
    by_cases h : A.1.1 ≤ 140
    · rw [if_pos h] at r1 r2 ⊢
      refine s_CL_tape e a ⟨r1, fun k hk => ?_⟩
      rw [r2]
      unfold s_fed
      by_cases hq : A.1.1 ≤ k ∧ k < A.1.1 + 20
      · rw [if_pos hq, if_pos hq]
      · rw [if_neg hq, if_neg hq]
        exact e.1.2 k (by omega)
    · rw [if_neg h] at r1 r2 ⊢
      refine s_CL_tape e a ⟨r1, fun k hk => ?_⟩
      rw [r2]
      exact e.1.2 k hk
theorem c_Md_feedA {A : s_A} {x1 x2 x3 x4 x5 : Int} (hv : s_val A) {d : qD} {b : Nat} (e : s_MD A d) : ∃ d', q_Ev m_Md_feed 0 [q_r t_Md 0, q_i x1, q_i x2, q_i x3, q_i x4, q_i x5, none, none] [] (q_mk d b) (q_i (s_feedA A x1 x2 x3 x4 x5).1, q_mk d' b) ∧ q_ag [t_Md, t_mTape] d d' ∧ s_MD (s_feedA A x1 x2 x3 x4 x5).2 d' := by
  obtain ⟨d', v, a, r1, r2⟩ := c_Md_feed (x1 := x1) (x2 := x2) (x3 := x3) (x4 := x4) (x5 := x5) (sz := A.1.1) (d := d) (b := b) e.1.1.1 hv.1
  refine ⟨d', ?_, a, ?_⟩
  · unfold s_feedA
    by_cases h : A.1.1 ≤ 140
    · rw [if_pos h] at v ⊢; exact v
    · rw [if_neg h] at v ⊢; exact v
  · unfold s_feedA
    by_cases h : A.1.1 ≤ 140
    · rw [if_pos h] at r1 r2 ⊢
      refine s_MD_tape e a r1 rfl (fun k hk => ?_)
      rw [r2]
      unfold s_fed
      by_cases hq : A.1.1 ≤ k ∧ k < A.1.1 + 20
      · rw [if_pos hq, if_pos hq]
        exact s_rawV_eq _ _ _ _ _ _
      · rw [if_neg hq, if_neg hq]
        exact e.1.1.2 k (by omega)
    · rw [if_neg h] at r1 r2 ⊢
      refine s_MD_tape e a r1 rfl (fun k hk => ?_)
      rw [r2]
      exact e.1.1.2 k hk
theorem c_GC_endA {A : s_A} {x : Int} {d : qD} {b : Nat} (e : s_CL A d) : ∃ d', q_Ev m_GC_end 0 [q_r t_GC 0, q_i x] [] (q_mk d b) (q_i (s_endA A x).1, q_mk d' b) ∧ q_ag [t_Ta, t_bytes] d d' ∧ s_CL (s_endA A x).2 d' := by
  obtain ⟨d', v, a, r1⟩ := c_GC_end (x := x) (sz := A.1.1) (d := d) (b := b) e.1.1
  have a2 : q_ag [t_Ta, t_bytes] d d' := q_ag_up a (by decide)
  refine ⟨d', ?_, a2, ?_⟩
  · unfold s_endA
    by_cases h : 0 ≤ x ∧ x ≤ A.1.1
    · rw [if_pos h] at v ⊢; exact v
    · rw [if_neg h] at v ⊢; exact v
  · unfold s_endA
    by_cases h : 0 ≤ x ∧ x ≤ A.1.1
    · rw [if_pos h] at r1 ⊢
      refine s_CL_tape e a2 ⟨r1, fun k hk => ?_⟩
      rw [a.1 t_bytes (by decide)]
      exact e.1.2 k (by omega)
    · rw [if_neg h] at r1 ⊢
      refine s_CL_tape e a2 ⟨r1, fun k hk => ?_⟩
      rw [a.1 t_bytes (by decide)]
      exact e.1.2 k hk
theorem c_Md_endA {A : s_A} {x : Int} (hv : s_val A) (hx : q_can x) {d : qD} {b : Nat} (e : s_MD A d) : ∃ d', q_Ev m_Md_end 0 [q_r t_Md 0, q_i x] [] (q_mk d b) (q_i (s_endA A x).1, q_mk d' b) ∧ q_ag [t_Md, t_mTape] d d' ∧ s_MD (s_endA A x).2 d' := by
  obtain ⟨d', v, r1⟩ := c_Md_end (x := x) (sz := A.1.1) hx (d := d) (b := b) e.1.1.1 hv.1
  have a2 : q_ag [t_Md, t_mTape] d d' := by rw [r1]; exact q_ag_sR (by decide)
  have gM : d'.1 t_Md 0 = q_up (d.1 t_Md 0) 1 ((if 0 ≤ x ∧ x ≤ A.1.1 then x.toNat else A.1.1 : Nat) : Int) := by rw [r1, q_sR_row]
  have gT : d'.1 t_mTape 0 = d.1 t_mTape 0 := by rw [r1, q_sR_ne _ _ (by decide)]
  refine ⟨d', ?_, a2, ?_⟩
  · unfold s_endA
    by_cases h : 0 ≤ x ∧ x ≤ A.1.1
    · rw [if_pos h] at v ⊢; exact v
    · rw [if_neg h] at v ⊢; exact v
  · unfold s_endA
    by_cases h : 0 ≤ x ∧ x ≤ A.1.1
    · rw [if_pos h] at gM ⊢
      refine s_MD_tape e a2 gM rfl (fun k hk => ?_)
      rw [gT]
      exact e.1.1.2 k (by omega)
    · rw [if_neg h] at gM ⊢
      refine s_MD_tape e a2 gM rfl (fun k hk => ?_)
      rw [gT]
      exact e.1.1.2 k hk
theorem s_lp_ex {A : s_A} (hv : s_val A) {d : qD} (e : s_MD A d) : ∃ q, s_lp A.2.1.1 (s_EL (s_basL A.2.1.1 A.2.1.2.1 256) (s_bas A.2.1.1 A.2.1.2.1)) q := by
  by_cases h0 : A.2.1.1 = 0
  · exact ⟨fun _ => 0, fun i h1 h2 => by omega⟩
  · obtain ⟨d', q, _, _, _, r⟩ := c_Md_laysParts (F := A.2.1.2.1) (s_vC_bd hv.2.2.1.1).1.1 (d := d) (b := 0) e.2.1 (e.2.2.2.1 (by omega)).2.2.1
    exact ⟨q, r⟩
