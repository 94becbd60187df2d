/-! reading a fill: one row, the model -/
theorem s_any_congr {l : List Nat} {f g : Nat → Bool} (h : ∀ x, x ∈ l → f x = g x) : l.any f = l.any g := by
  induction l with
  | nil => rfl
  | cons a l ih => rw [List.any_cons, List.any_cons, h a (List.mem_cons_self ..), ih (fun x hx => h x (List.mem_cons_of_mem _ hx))]
theorem s_row1_hi {sz fi i : Nat} {V : Nat → Int} : ∀ (f p q : Nat) (o : Nat × Nat), s_row1 sz V fi i f p q = .inr o → ∀ m, 1 ≤ m → i + f < m → q_hl o.1 m = q_hl p m
  | 0, p, q, o, h, m, _, _ => by
    unfold s_row1 at h
    injection h with h
    rw [← h]
  | f + 1, p, q, o, h, m, m1, hm => by
    unfold s_row1 at h
    by_cases hb : s_box fi i (i + f + 1) = true
    · rw [if_pos hb] at h
      by_cases h43 : s_bt sz V q = 43
      · rw [if_pos h43] at h
        rw [s_row1_hi f _ _ o h m m1 (by omega), s_with_hl (by omega) m1, show decide (m = i + f + 1) = false from decide_eq_false (by omega), Bool.or_false]
      · rw [if_neg h43] at h
        by_cases h48 : s_bt sz V q = 48
        · rw [if_pos h48] at h
          exact s_row1_hi f _ _ o h m m1 (by omega)
        · rw [if_neg h48] at h
          exact absurd h (by simp)
    · rw [if_neg hb] at h
      exact s_row1_hi f _ _ o h m m1 (by omega)
/-- the bits of a row are boxes of it, above a place -/
def s_rb (n fi i lo p : Nat) : Prop := ∀ m, 1 ≤ m → q_hl p m = true → s_box fi i m = true ∧ m ≤ n ∧ lo < m
theorem s_rb_with {n fi i lo p : Nat} (h : s_rb n fi i (lo + 1) p) (hb : s_box fi i (lo + 1) = true) (hn : lo + 1 ≤ n) : s_rb n fi i lo (s_with p (lo + 1)) := by
  intro m m1 hm
  rw [s_with_hl (by omega) m1] at hm
  by_cases hq : m = lo + 1
  · subst hq; exact ⟨hb, hn, by omega⟩
  · rw [decide_eq_false hq, Bool.or_false] at hm
    have := h m m1 hm
    exact ⟨this.1, this.2.1, by omega⟩
theorem s_rb_dn {n fi i lo p : Nat} (h : s_rb n fi i (lo + 1) p) : s_rb n fi i lo p := fun m m1 hm => by
  have := h m m1 hm
  exact ⟨this.1, this.2.1, by omega⟩
theorem s_row1_rb {sz fi i n : Nat} {V : Nat → Int} : ∀ (f p q : Nat) (o : Nat × Nat), i + f ≤ n → s_rb n fi i (i + f) p → s_row1 sz V fi i f p q = .inr o → s_rb n fi i i o.1
  | 0, p, q, o, _, hr, h => by
    unfold s_row1 at h
    injection h with h
    rw [← h]
    exact hr
  | f + 1, p, q, o, hf, hr, h => by
    unfold s_row1 at h
    by_cases hb : s_box fi i (i + f + 1) = true
    · rw [if_pos hb] at h
      by_cases h43 : s_bt sz V q = 43
      · rw [if_pos h43] at h
        exact s_row1_rb f _ _ o (by omega) (s_rb_with hr hb (by omega)) h
      · rw [if_neg h43] at h
        by_cases h48 : s_bt sz V q = 48
        · rw [if_pos h48] at h
          exact s_row1_rb f _ _ o (by omega) (s_rb_dn hr) h
        · rw [if_neg h48] at h
          exact absurd h (by simp)
    · rw [if_neg hb] at h
      exact s_row1_rb f _ _ o (by omega) (s_rb_dn hr) h
/-- what the model asks of a box with 0 while it reads -/
def s_brkM (n fi : Nat) (R : Nat → Nat) (i j : Nat) : Bool := (List.range' 1 (i - 1)).any (fun h => s_pb fi R h j) && (List.range' (j + 1) (n - j)).any (fun m => s_pb fi R i m)
theorem s_rb_hi {n fi i lo p m : Nat} (h : s_rb n fi i lo p) (hm : n < m) : q_hl p m = false := Bool.eq_false_iff.mpr (fun hc => by
  have := (h m (by omega) hc).2.1
  omega)
theorem s_brk_M {n fi i j p p' lo lo' : Nat} {P : Nat → Nat} (h1 : 1 ≤ i) (hij : i < j) (hjn : j ≤ n) (hP : ∀ h, 1 ≤ h → h < i → s_rb n fi h h (P h)) (hp : s_rb n fi i lo p) (hp' : s_rb n fi i lo' p') (h0 : q_hl p j = false) (he : ∀ m, j ≤ m → q_hl p' m = q_hl p m) : s_brk (s_put P i p') i j = s_brkM n fi (s_put P i p) i j := by
  unfold s_brk s_brkM
  have e1 : ∀ z, s_put P i z i = z := fun z => if_pos rfl
  have e2 : ∀ z h, h ≠ i → s_put P i z h = P h := fun z h hh => if_neg hh
  rw [e1, he j (Nat.le_refl j), h0, Bool.not_false, Bool.true_and, s_shr_any (fun m hm => s_rb_hi hp' hm) (by omega) hjn, Bool.and_comm]
  congr 1
  · refine s_any_congr (fun h hh => ?_)
    rw [List.mem_range'_1] at hh
    unfold s_pb
    rw [e2 _ h (by omega), e2 _ h (by omega)]
    cases hq : q_hl (P h) j with
    | false => rw [Bool.and_false]
    | true => rw [(hP h (by omega) (by omega) j (by omega) hq).1]; rfl
  · refine s_any_congr (fun m hm => ?_)
    rw [List.mem_range'_1] at hm
    unfold s_pb
    rw [e1, he m (by omega)]
    cases hq : q_hl p m with
    | false => rw [Bool.and_false]
    | true => rw [(hp m (by omega) hq).1]; rfl
def s_bdOk (x : Int) (o : Option Nat) : Prop := match o with
  | none => x = -1
  | some c => ∃ p : Nat, x = (p : Int) ∧ c = 8 * p + 3 ∧ p ≤ 1000
def s_ofs (o o2 : Option Nat) : Option Nat := match o with
  | none => o2
  | some c => some c
theorem s_Bx_put {n fi i j p : Nat} {P : Nat → Nat} {d : qD} (hn : n ≤ 8) (h1 : 1 ≤ i) (hij : i < j) (hjn : j ≤ n) (hb : s_box fi i j = true) (e : s_Bx n fi (s_put P i p) d) : s_Bx n fi (s_put P i (s_with p j)) (q_sI d t_mBoxes 0 (9 * i + j) 2) := by
  intro i' j' a1 a2 a3 a4
  rw [q_sI_at]
  have e1 : ∀ z, s_put P i z i = z := fun z => if_pos rfl
  have e2 : ∀ z h, h ≠ i → s_put P i z h = P h := fun z h hh => if_neg hh
  by_cases hi : i' = i
  · subst hi
    by_cases hj : j' = j
    · subst hj
      rw [q_up_at]
      unfold s_bxv
      rw [if_pos hb, e1, s_with_hl (by omega) (by omega), decide_eq_true rfl, Bool.or_true, if_pos rfl]
    · rw [q_up_ne _ _ (by omega), e i' j' a1 a2 a3 a4]
      unfold s_bxv
      rw [e1, e1, s_with_hl (by omega) a3, decide_eq_false hj, Bool.or_false]
  · rw [q_up_ne _ _ (by omega), e i' j' a1 a2 a3 a4]
    unfold s_bxv
    rw [e2 _ _ hi, e2 _ _ hi]
theorem s_Bx_ag {n fi : Nat} {P : Nat → Nat} {d : qD} {k : Nat} {v : Int} (e : s_Bx n fi P d) : s_Bx n fi P (q_sI d t_Md 0 k v) := fun i j a1 a2 a3 a4 => by
  rw [q_sI_ne _ _ (by decide)]
  exact e i j a1 a2 a3 a4
theorem c_Md_rowGo {sz n fi i : Nat} {V : Nat → Int} (hz : sz ≤ 160) (hn : n ≤ 8) (h1 : 1 ≤ i) (hi : i ≤ n) {P : Nat → Nat} (hP : ∀ h, 1 ≤ h → h < i → s_rb n fi h h (P h)) {b : Nat} : ∀ (f p q : Nat) (x2 : Int) (o : Option Nat) (d : qD), i + f ≤ n → p < 256 → q ≤ sz → s_rb n fi i (i + f) p → s_bdOk x2 o → s_mT sz V d → d.1 t_Md 0 2 = (q : Int) → d.1 t_Md 0 5 = (n : Int) → s_Bx n fi (s_put P i p) d → ∃ d', s_mk d d' ∧ match s_row1 sz V fi i f p q with
    | .inl q' => q_Ev m_Md_readsFill 112 [q_r t_Md 0, q_i (fi : Int), q_i x2, q_i (i : Int), q_i ((i + f : Nat) : Int)] [] (q_mk d b) (q_i 0, q_mk d' b) ∧ d'.1 t_Md 0 3 = ((8 * q' + 1 : Nat) : Int)
    | .inr (p', q') => d'.1 t_Md 0 2 = (q' : Int) ∧ d'.1 t_Md 0 5 = (n : Int) ∧ s_Bx n fi (s_put P i p') d' ∧ ∃ x2' : Int, s_bdOk x2' (s_ofs o (s_leR fi (s_put P i p') i f q)) ∧ ∀ r, q_Ev m_Md_readsFill 175 [q_r t_Md 0, q_i (fi : Int), q_i x2', q_i (i : Int), none] [] (q_mk d' b) r → q_Ev m_Md_readsFill 112 [q_r t_Md 0, q_i (fi : Int), q_i x2, q_i (i : Int), q_i ((i + f : Nat) : Int)] [] (q_mk d b) r
  | 0, p, q, x2, o, d, hf, hp, hq, hr, hx, e, e2, e5, eB => ⟨d, s_mk_refl _, e2, e5, eB, x2, by
      unfold s_leR
      cases o <;> exact hx, fun r hr => e_Md_readsFill_112 ⟨fun _ => hr, fun hh => by omega⟩⟩
  | f + 1, p, q, x2, o, d, hf, hp, hq, hr, hx, e, e2, e5, eB => by
    have kb := c_Md_byteAt (p := q) hz (b := b) e
    rw [← e2] at kb
    have kx := c_Md_isBox hn h1 hi (show 1 ≤ i + f + 1 by omega) (show i + f + 1 ≤ n by omega) (b := b) eB
    have ew : q_w (((i + (f + 1) : Nat) : Int) + (-1)) = ((i + f : Nat) : Int) := by
      rw [show ((i + (f + 1) : Nat) : Int) + (-1) = ((i + (f + 1) : Nat) : Int) - ((1 : Nat) : Int) by omega, q_wD (by omega) (by omega)]
      congr 1
    have k173 : ∀ (d : qD) (y2 : Int) r, q_Ev m_Md_readsFill 112 [q_r t_Md 0, q_i (fi : Int), q_i y2, q_i (i : Int), q_i ((i + f : Nat) : Int)] [] (q_mk d b) r → q_Ev m_Md_readsFill 173 [q_r t_Md 0, q_i (fi : Int), q_i y2, q_i (i : Int), q_i ((i + (f + 1) : Nat) : Int)] [] (q_mk d b) r := by
      intro d y2 r h
      refine e_Md_readsFill_173 ?_
      rw [ew]; exact h
    by_cases hb : s_box fi i (i + f + 1) = true
    · rw [hb] at kx
      have k167 : ∀ (d : qD) (y2 : Int) r, d.1 t_Md 0 2 = (q : Int) → q_Ev m_Md_readsFill 112 [q_r t_Md 0, q_i (fi : Int), q_i y2, q_i (i : Int), q_i ((i + f : Nat) : Int)] [] (q_mk (q_sI d t_Md 0 2 ((q + 1 : Nat) : Int)) b) r → q_Ev m_Md_readsFill 167 [q_r t_Md 0, q_i (fi : Int), q_i y2, q_i (i : Int), q_i ((i + (f + 1) : Nat) : Int)] [] (q_mk d b) r := by
        intro d y2 r h2 h
        refine e_Md_readsFill_167 ?_
        rw [h2, q_wS (by omega)]
        exact k173 _ _ _ h
      have to125 : ∀ r, q_Ev m_Md_readsFill 125 [q_r t_Md 0, q_i (fi : Int), q_i x2, q_i (i : Int), q_i ((i + (f + 1) : Nat) : Int)] [.inl (s_bt sz V q)] (q_mk d b) r → q_Ev m_Md_readsFill 112 [q_r t_Md 0, q_i (fi : Int), q_i x2, q_i (i : Int), q_i ((i + (f + 1) : Nat) : Int)] [] (q_mk d b) r := fun r h => e_Md_readsFill_112 ⟨fun hh => by omega, fun _ => ⟨_, _, kx, e_Md_readsFill_119 ⟨fun _ => ⟨_, _, kb, h⟩, fun hh => absurd hh (by decide)⟩⟩⟩
      unfold s_row1
      rw [if_pos hb]
      by_cases h43 : s_bt sz V q = 43
      · rw [if_pos h43]
        have hlt := s_bt_lt (V := V) (sz := sz) (p := q) (by rw [h43]; decide)
        have hidx : q_w (q_w (9 * (i : Int)) + ((i + (f + 1) : Nat) : Int)) = ((9 * i + (i + f + 1) : Nat) : Int) := by
          rw [show 9 * (i : Int) = ((9 * i : Nat) : Int) by omega, q_nn _ (by omega), show ((9 * i : Nat) : Int) + ((i + (f + 1) : Nat) : Int) = ((9 * i + (i + f + 1) : Nat) : Int) by omega, q_nn _ (by omega)]
        have m1 : s_mk d (q_sI d t_mBoxes 0 (9 * i + (i + f + 1)) 2) := s_mk_sI (by decide) (fun hh => absurd hh (by decide))
        have m2 : s_mk d (q_sI (q_sI d t_mBoxes 0 (9 * i + (i + f + 1)) 2) t_Md 0 2 ((q + 1 : Nat) : Int)) := s_mk_tr m1 (s_mk_sI (by decide) (fun _ => by omega))
        obtain ⟨d', a, hm⟩ := c_Md_rowGo (V := V) hz hn h1 hi hP (b := b) f (s_with p (i + f + 1)) (q + 1) x2 o (q_sI (q_sI d t_mBoxes 0 (9 * i + (i + f + 1)) 2) t_Md 0 2 ((q + 1 : Nat) : Int)) (by omega) (s_with_lt hp (by omega)) (by omega) (s_rb_with hr hb (by omega)) hx (s_mT_mk e m2) (by rw [q_sI_at, q_up_at]) (by rw [q_sI_at, q_up_ne _ _ (by decide), q_sI_ne _ _ (by decide)]; exact e5) (s_Bx_ag (s_Bx_put hn h1 (by omega) (by omega) hb eB))
        have step : ∀ r, q_Ev m_Md_readsFill 112 [q_r t_Md 0, q_i (fi : Int), q_i x2, q_i (i : Int), q_i ((i + f : Nat) : Int)] [] (q_mk (q_sI (q_sI d t_mBoxes 0 (9 * i + (i + f + 1)) 2) t_Md 0 2 ((q + 1 : Nat) : Int)) b) r → q_Ev m_Md_readsFill 112 [q_r t_Md 0, q_i (fi : Int), q_i x2, q_i (i : Int), q_i ((i + (f + 1) : Nat) : Int)] [] (q_mk d b) r := by
          intro r h
          refine to125 r (e_Md_readsFill_125 ⟨fun _ => e_Md_readsFill_139 ⟨_, _, kb, e_Md_readsFill_143 ⟨fun hh => absurd h43 hh, fun _ => ?_⟩⟩, fun hh => absurd h43 hh⟩)
          rw [hidx, Int.toNat_natCast]
          exact ⟨by omega, by omega, k167 _ _ _ (by rw [q_sI_ne _ _ (by decide)]; exact e2) h⟩
        refine ⟨d', s_mk_tr m2 a, ?_⟩
        cases hrs : s_row1 sz V fi i f (s_with p (i + f + 1)) (q + 1) with
        | inl q' => rw [hrs] at hm; exact ⟨step _ hm.1, hm.2⟩
        | inr oo =>
          obtain ⟨p', q'⟩ := oo
          rw [hrs] at hm
          obtain ⟨g1, g2, g3, x2', g4, g5⟩ := hm
          refine ⟨g1, g2, g3, x2', ?_, fun r h => step r (g5 r h)⟩
          have hbit := s_row1_hi f _ _ _ hrs (i + f + 1) (by omega) (by omega)
          dsimp only at hbit
          rw [s_with_hl (by omega) (by omega), decide_eq_true rfl, Bool.or_true] at hbit
          have hbk : s_brk (s_put P i p') i (i + f + 1) = false := by
            unfold s_brk
            rw [show s_put P i p' i = p' from if_pos rfl, hbit]
            rfl
          unfold s_leR
          rw [if_pos hb, hbk, if_neg (by decide)]
          exact g4
      · rw [if_neg h43]
        by_cases h48 : s_bt sz V q = 48
        · rw [if_pos h48]
          have hlt := s_bt_lt (V := V) (sz := sz) (p := q) (by rw [h48]; decide)
          have m2 : s_mk d (q_sI d t_Md 0 2 ((q + 1 : Nat) : Int)) := s_mk_sI (by decide) (fun _ => by omega)
          have h0 : q_hl p (i + f + 1) = false := Bool.eq_false_iff.mpr (fun hc => by
            have := (hr _ (by omega) hc).2.2
            omega)
          have kle := c_Md_isLe hn h1 hi (show 1 ≤ i + f + 1 by omega) (show i + f + 1 ≤ n by omega) (b := b) eB
          rw [← e5] at kle
          have rcl := fun (y2 : Int) (oy : Option Nat) (hy : s_bdOk y2 oy) => c_Md_rowGo (V := V) hz hn h1 hi hP (b := b) f p (q + 1) y2 oy (q_sI d t_Md 0 2 ((q + 1 : Nat) : Int)) (by omega) hp (by omega) (s_rb_dn hr) hy (s_mT_mk e m2) (by rw [q_sI_at, q_up_at]) (by rw [q_sI_at, q_up_ne _ _ (by decide)]; exact e5) (s_Bx_ag eB)
          have to143 : ∀ r, q_Ev m_Md_readsFill 143 [q_r t_Md 0, q_i (fi : Int), q_i x2, q_i (i : Int), q_i ((i + (f + 1) : Nat) : Int)] [.inl (s_bt sz V q)] (q_mk d b) r → q_Ev m_Md_readsFill 112 [q_r t_Md 0, q_i (fi : Int), q_i x2, q_i (i : Int), q_i ((i + (f + 1) : Nat) : Int)] [] (q_mk d b) r := fun r h => to125 r (e_Md_readsFill_125 ⟨fun hh => absurd hh h43, fun _ => ⟨_, _, kb, e_Md_readsFill_131 ⟨fun _ => e_Md_readsFill_139 ⟨_, _, kb, h⟩, fun hh => absurd h48 hh⟩⟩⟩)
          have fin : ∀ (y2 : Int) (oy : Option Nat), s_bdOk y2 oy → (∀ r, q_Ev m_Md_readsFill 167 [q_r t_Md 0, q_i (fi : Int), q_i y2, q_i (i : Int), q_i ((i + (f + 1) : Nat) : Int)] [] (q_mk d b) r → q_Ev m_Md_readsFill 112 [q_r t_Md 0, q_i (fi : Int), q_i x2, q_i (i : Int), q_i ((i + (f + 1) : Nat) : Int)] [] (q_mk d b) r) → (∀ p' : Nat, s_brk (s_put P i p') i (i + f + 1) = s_brkM n fi (s_put P i p) i (i + f + 1) → ∀ u, s_ofs oy u = s_ofs o (if s_brk (s_put P i p') i (i + f + 1) = true then some (8 * q + 3) else u)) → ∃ d', s_mk d d' ∧ match s_row1 sz V fi i f p (q + 1) with
              | .inl q' => q_Ev m_Md_readsFill 112 [q_r t_Md 0, q_i (fi : Int), q_i x2, q_i (i : Int), q_i ((i + (f + 1) : Nat) : Int)] [] (q_mk d b) (q_i 0, q_mk d' b) ∧ d'.1 t_Md 0 3 = ((8 * q' + 1 : Nat) : Int)
              | .inr (p', q') => d'.1 t_Md 0 2 = (q' : Int) ∧ d'.1 t_Md 0 5 = (n : Int) ∧ s_Bx n fi (s_put P i p') d' ∧ ∃ x2' : Int, s_bdOk x2' (s_ofs o (s_leR fi (s_put P i p') i (f + 1) q)) ∧ ∀ r, q_Ev m_Md_readsFill 175 [q_r t_Md 0, q_i (fi : Int), q_i x2', q_i (i : Int), none] [] (q_mk d' b) r → q_Ev m_Md_readsFill 112 [q_r t_Md 0, q_i (fi : Int), q_i x2, q_i (i : Int), q_i ((i + (f + 1) : Nat) : Int)] [] (q_mk d b) r := by
            intro y2 oy hy st ho
            obtain ⟨d', a, hm⟩ := rcl y2 oy hy
            refine ⟨d', s_mk_tr m2 a, ?_⟩
            cases hrs : s_row1 sz V fi i f p (q + 1) with
            | inl q' => rw [hrs] at hm; exact ⟨st _ (k167 _ _ _ e2 hm.1), hm.2⟩
            | inr oo =>
              obtain ⟨p', q'⟩ := oo
              rw [hrs] at hm
              obtain ⟨g1, g2, g3, x2', g4, g5⟩ := hm
              refine ⟨g1, g2, g3, x2', ?_, fun r h => st r (k167 _ _ _ e2 (g5 r h))⟩
              have hbk := s_brk_M (P := P) (p' := p') h1 (show i < i + f + 1 by omega) (by omega) hP hr (s_row1_rb f p (q + 1) _ (by omega) (s_rb_dn hr) hrs) h0 (fun m hm => s_row1_hi f _ _ _ hrs m (by omega) (by omega))
              rw [ho p' hbk] at g4
              unfold s_leR
              rw [if_pos hb]
              exact g4
          have sk : ∀ y2 : Int, 0 ≤ y2 → True := fun _ _ => trivial
          cases o with
          | some c =>
            obtain ⟨pc, hx1, hx2, hx3⟩ := hx
            refine fin x2 (some c) ⟨pc, hx1, hx2, hx3⟩ (fun r h => to143 r (e_Md_readsFill_143 ⟨fun _ => ⟨fun _ => h, fun hh => by omega⟩, fun hh => absurd hh h43⟩)) (fun p' _ u => rfl)
          | none =>
            have hx' : x2 = -1 := hx
            cases hB : s_brkM n fi (s_put P i p) i (i + f + 1) with
            | false =>
              have hB' := hB
              unfold s_brkM at hB'
              rw [hB'] at kle
              refine fin x2 none hx (fun r h => to143 r (e_Md_readsFill_143 ⟨fun _ => ⟨fun hh => by omega, fun _ => ⟨_, _, kle, e_Md_readsFill_163 ⟨fun _ => h, fun hh => absurd hh (by decide)⟩⟩⟩, fun hh => absurd hh h43⟩)) (fun p' hp' u => ?_)
              rw [hp', hB, if_neg (by decide)]
            | true =>
              have hB' := hB
              unfold s_brkM at hB'
              rw [hB'] at kle
              refine fin (q : Int) (some (8 * q + 3)) ⟨q, rfl, rfl, by omega⟩ (fun r h => to143 r (e_Md_readsFill_143 ⟨fun _ => ⟨fun hh => by omega, fun _ => ⟨_, _, kle, e_Md_readsFill_163 ⟨fun hh => absurd rfl hh, fun _ => ?_⟩⟩⟩, fun hh => absurd hh h43⟩)) (fun p' hp' u => ?_)
              · rw [e2]; exact h
              · rw [hp', hB, if_pos rfl]; rfl
        · rw [if_neg h48]
          have kf := c_Md_fails (p := q) (k := 1) (by omega) (by omega) (d := d) (b := b)
          rw [← e2] at kf
          refine ⟨q_sI d t_Md 0 3 ((8 * q + 1 : Nat) : Int), s_mk_sI (by decide) (fun _ => by omega), to125 _ (e_Md_readsFill_125 ⟨fun hh => absurd hh h43, fun _ => ⟨_, _, kb, e_Md_readsFill_131 ⟨fun hh => absurd hh h48, fun _ => ⟨_, _, kf, e_Md_readsFill_138 ⟨by decide, by decide, ?_⟩⟩⟩⟩⟩), by rw [q_sI_at, q_up_at]⟩
          rfl
    · have hb' := Bool.eq_false_iff.mpr hb
      rw [hb'] at kx
      obtain ⟨d', a, hm⟩ := c_Md_rowGo (V := V) hz hn h1 hi hP (b := b) f p q x2 o d (by omega) hp hq (s_rb_dn hr) hx e e2 e5 eB
      have step : ∀ r, q_Ev m_Md_readsFill 112 [q_r t_Md 0, q_i (fi : Int), q_i x2, q_i (i : Int), q_i ((i + f : Nat) : Int)] [] (q_mk d b) r → q_Ev m_Md_readsFill 112 [q_r t_Md 0, q_i (fi : Int), q_i x2, q_i (i : Int), q_i ((i + (f + 1) : Nat) : Int)] [] (q_mk d b) r := fun r h => e_Md_readsFill_112 ⟨fun hh => by omega, fun _ => ⟨_, _, kx, e_Md_readsFill_119 ⟨fun hh => absurd rfl hh, fun _ => k173 _ _ _ h⟩⟩⟩
      unfold s_row1
      rw [if_neg hb]
      refine ⟨d', a, ?_⟩
      cases hrs : s_row1 sz V fi i f p q with
      | inl q' => rw [hrs] at hm; exact ⟨step _ hm.1, hm.2⟩
      | inr oo =>
        obtain ⟨p', q'⟩ := oo
        rw [hrs] at hm
        obtain ⟨g1, g2, g3, x2', g4, g5⟩ := hm
        refine ⟨g1, g2, g3, x2', ?_, fun r h => step r (g5 r h)⟩
        unfold s_leR
        rw [if_neg hb]
        exact g4
