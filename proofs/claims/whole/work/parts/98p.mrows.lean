/-! reading a fill: all rows, the model -/
theorem s_rowsO_lo {sz n fi : Nat} {V : Nat → Int} : ∀ (f i : Nat) (P G : Nat → Nat) (q : Nat) (o : (Nat → Nat) × (Nat → Nat) × Nat), s_rowsO sz V n fi f i P G q = .inr o → ∀ k, k < i → o.1 k = P k ∧ o.2.1 k = G k
  | 0, i, P, G, q, o, h, k, hk => by
    unfold s_rowsO at h
    injection h with h
    rw [← h]
    exact ⟨rfl, rfl⟩
  | f + 1, i, P, G, q, o, h, k, hk => by
    unfold s_rowsO at h
    by_cases hl : q_hl fi i = true
    · rw [if_pos hl] at h
      cases hr : s_oneRow sz V n fi i q with
      | inl q' => rw [hr] at h; exact absurd h (by simp)
      | inr oo =>
        obtain ⟨Pi, p', q'⟩ := oo
        rw [hr] at h
        have ih := s_rowsO_lo f (i + 1) _ _ _ o h k (by omega)
        rw [ih.1, ih.2]
        exact ⟨if_neg (by omega), if_neg (by omega)⟩
    · rw [if_neg hl] at h
      exact s_rowsO_lo f (i + 1) _ _ _ o h k (by omega)
theorem s_brk_cong {P P2 : Nat → Nat} {i j : Nat} (h1 : 1 ≤ i) (h : ∀ k, 1 ≤ k → k ≤ i → P k = P2 k) : s_brk P i j = s_brk P2 i j := by
  unfold s_brk
  rw [h i h1 (Nat.le_refl i)]
  congr 2
  refine s_any_congr (fun k hk => ?_)
  rw [List.mem_range'_1] at hk
  rw [h k (by omega) (by omega)]
theorem s_leR_cong {fi i : Nat} {P P2 : Nat → Nat} (h1 : 1 ≤ i) (h : ∀ k, 1 ≤ k → k ≤ i → P k = P2 k) : ∀ f p, s_leR fi P i f p = s_leR fi P2 i f p
  | 0, _ => rfl
  | f + 1, p => by
    unfold s_leR
    rw [s_brk_cong h1 h, s_leR_cong h1 h f (p + 1), s_leR_cong h1 h f p]
theorem s_ofs_as (o a c : Option Nat) : s_ofs (s_ofs o a) c = s_ofs o (s_ofs a c) := by
  cases o <;> rfl
theorem s_leO_ofs {n fi : Nat} {P G : Nat → Nat} {f i : Nat} : s_leO n fi P G (f + 1) i = s_ofs (s_leR fi P i (n - i) (G i)) (s_leO n fi P G f (i + 1)) := by
  show (match s_leR fi P i (n - i) (G i) with
    | some c => some c
    | none => s_leO n fi P G f (i + 1)) = _
  cases s_leR fi P i (n - i) (G i) <;> rfl
theorem c_Md_rowsGo {sz n fi : Nat} {V : Nat → Int} (hz : sz ≤ 160) (hn : n ≤ 8) (hfi : fi < 256) {b : Nat} : ∀ (f i q : Nat) (P G : Nat → Nat) (x2 : Int) (o : Option Nat) (d : qD), i + f = n + 1 → 1 ≤ i → q ≤ sz → s_mT sz V d → d.1 t_Md 0 2 = (q : Int) → d.1 t_Md 0 5 = (n : Int) → s_Bx n fi P d → (∀ h, 1 ≤ h → s_rb n fi h h (P h)) → (∀ k, i ≤ k → P k = 0) → (∀ k, P k < 256) → s_bdOk x2 o → ∃ d', s_mk d d' ∧ match s_rowsO sz V n fi f i P G q with
    | .inl q' => q' ≤ sz ∧ q_Ev m_Md_readsFill 81 [q_r t_Md 0, q_i (fi : Int), q_i x2, q_i (i : Int), none] [] (q_mk d b) (q_i 0, q_mk d' b) ∧ d'.1 t_Md 0 3 = ((8 * q' + 1 : Nat) : Int)
    | .inr (P', G', q') => q' ≤ sz ∧ d'.1 t_Md 0 2 = (q' : Int) ∧ d'.1 t_Md 0 5 = (n : Int) ∧ s_Bx n fi P' d' ∧ (∀ k, P' k < 256) ∧ ∃ x2' : Int, s_bdOk x2' (s_ofs o (s_leO n fi P' G' f i)) ∧ ∀ r v w2, q_Ev m_Md_next 0 [q_r t_Md 0] [] (q_mk d' b) (v, w2) → q_Ev m_Md_readsFill 179 [q_r t_Md 0, q_i (fi : Int), q_i x2', none, none] (v.toList ++ []) w2 r → q_Ev m_Md_readsFill 81 [q_r t_Md 0, q_i (fi : Int), q_i x2, q_i (i : Int), none] [] (q_mk d b) r
  | 0, i, q, P, G, x2, o, d, hf, h1, hq, e, e2, e5, eB, hR, hP0, hB, hx => by
    refine ⟨d, s_mk_refl _, hq, e2, e5, eB, hB, x2, ?_, fun r v w2 v1 v2 => e_Md_readsFill_81 ⟨fun _ => ⟨_, _, v1, v2⟩, fun hh => by rw [e5] at hh; omega⟩⟩
    unfold s_leO
    cases o <;> exact hx
  | f + 1, i, q, P, G, x2, o, d, hf, h1, hq, e, e2, e5, eB, hR, hP0, hB, hx => by
    unfold s_rowsO
    have kh := c_Md_has (s := fi) (l := i) (by omega) h1 (by omega) (d := d) (b := b)
    by_cases hl : q_hl fi i = true
    · rw [if_pos hl]
      rw [hl] at kh
      have hs := s_sk_le (V := V) hq
      have nx := c_Md_next hz (b := b) (show q ≤ 1000 by omega) e e2
      have m1 : s_mk d (q_sI d t_Md 0 2 (s_sk sz V q : Int)) := s_mk_sI (by decide) (fun _ => by omega)
      have e21 : (q_sI d t_Md 0 2 (s_sk sz V q : Int)).1 t_Md 0 2 = (s_sk sz V q : Int) := by rw [q_sI_at, q_up_at]
      have to92 : ∀ r, q_Ev m_Md_readsFill 92 [q_r t_Md 0, q_i (fi : Int), q_i x2, q_i (i : Int), none] [.inl (s_bt sz V (s_sk sz V q))] (q_mk (q_sI d t_Md 0 2 (s_sk sz V q : Int)) b) r → q_Ev m_Md_readsFill 81 [q_r t_Md 0, q_i (fi : Int), q_i x2, q_i (i : Int), none] [] (q_mk d b) r := fun r h => e_Md_readsFill_81 ⟨fun hh => by rw [e5] at hh; omega, fun _ => ⟨_, _, kh, e_Md_readsFill_88 ⟨fun _ => ⟨_, _, nx, h⟩, fun hh => absurd hh (by decide)⟩⟩⟩
      unfold s_oneRow
      by_cases h47 : s_bt sz V (s_sk sz V q) = 47
      · rw [if_pos h47]
        have hlt := s_bt_lt (V := V) (sz := sz) (p := s_sk sz V q) (by rw [h47]; decide)
        have hs2 := s_sk_le (V := V) (show s_sk sz V q + 1 ≤ sz by omega)
        have m2 : s_mk d (q_sI d t_Md 0 2 ((s_sk sz V q + 1 : Nat) : Int)) := s_mk_sI (by decide) (fun _ => by omega)
        have nx2 := c_Md_next (p := s_sk sz V q + 1) hz (b := b) (by omega) (s_mT_mk e m2) (by rw [q_sI_at, q_up_at])
        rw [s_sI_twice] at nx2
        have m3 : s_mk d (q_sI d t_Md 0 2 (s_sk sz V (s_sk sz V q + 1) : Int)) := s_mk_sI (by decide) (fun _ => by omega)
        have hput : s_put P i 0 = P := by
          funext k
          unfold s_put
          by_cases hk : k = i
          · rw [if_pos hk, hk, hP0 i (Nat.le_refl i)]
          · rw [if_neg hk]
        have e53 : (q_sI d t_Md 0 2 (s_sk sz V (s_sk sz V q + 1) : Int)).1 t_Md 0 5 = (n : Int) := by rw [q_sI_at, q_up_ne _ _ (by decide)]; exact e5
        obtain ⟨d1, a1, hm⟩ := c_Md_rowGo (V := V) (sz := sz) (fi := fi) (P := P) hz hn h1 (show i ≤ n by omega) (fun h hh _ => hR h hh) (b := b) (n - i) 0 (s_sk sz V (s_sk sz V q + 1)) x2 o (q_sI d t_Md 0 2 (s_sk sz V (s_sk sz V q + 1) : Int)) (by omega) (by decide) hs2 (fun m m1 hm => by
          rw [show q_hl 0 m = false from Nat.zero_testBit _] at hm
          exact absurd hm (by decide)) hx (s_mT_mk e m3) (by rw [q_sI_at, q_up_at]) e53 (by rw [hput]; exact s_Bx_ag eB)
        have to112 : ∀ r, q_Ev m_Md_readsFill 112 [q_r t_Md 0, q_i (fi : Int), q_i x2, q_i (i : Int), q_i ((i + (n - i) : Nat) : Int)] [] (q_mk (q_sI d t_Md 0 2 (s_sk sz V (s_sk sz V q + 1) : Int)) b) r → q_Ev m_Md_readsFill 81 [q_r t_Md 0, q_i (fi : Int), q_i x2, q_i (i : Int), none] [] (q_mk d b) r := by
          intro r h
          refine to92 r (e_Md_readsFill_92 ⟨fun _ => ?_, fun hh => absurd h47 hh⟩)
          rw [e21, q_wS (by omega), s_sI_twice]
          refine ⟨_, _, nx2, e_Md_readsFill_108 ?_⟩
          rw [e53]
          rw [show i + (n - i) = n by omega] at h
          exact h
        cases hr1 : s_row1 sz V fi i (n - i) 0 (s_sk sz V (s_sk sz V q + 1)) with
        | inl q' =>
          rw [hr1] at hm
          have := (s_row1_bd (sz := sz) (fi := fi) (i := i) (V := V) hn (n - i) 0 (s_sk sz V (s_sk sz V q + 1)) (by omega) (by decide) hs2).1 q' hr1
          exact ⟨d1, s_mk_tr m3 a1, this, to112 _ hm.1, hm.2⟩
        | inr oo =>
          obtain ⟨Pi, q'⟩ := oo
          rw [hr1] at hm
          obtain ⟨g1, g2, g3, x2', g4, g5⟩ := hm
          have bd := (s_row1_bd (sz := sz) (fi := fi) (i := i) (V := V) hn (n - i) 0 (s_sk sz V (s_sk sz V q + 1)) (by omega) (by decide) hs2).2 _ hr1
          have hrb := s_row1_rb (n := n) (n - i) 0 (s_sk sz V (s_sk sz V q + 1)) _ (by omega) (fun m m1 hm => by
            rw [show q_hl 0 m = false from Nat.zero_testBit _] at hm
            exact absurd hm (by decide)) hr1
          dsimp only at bd hrb ⊢
          obtain ⟨d', a, hmm⟩ := c_Md_rowsGo (V := V) hz hn hfi (b := b) f (i + 1) q' (s_put P i Pi) (s_put G i (s_sk sz V (s_sk sz V q + 1))) x2' (s_ofs o (s_leR fi (s_put P i Pi) i (n - i) (s_sk sz V (s_sk sz V q + 1)))) d1 (by omega) (by omega) bd.2 (s_mT_mk (s_mT_mk e m3) a1) g1 g2 g3 (fun h hh => by
            unfold s_put
            by_cases hk : h = i
            · rw [if_pos hk, hk]; exact hrb
            · rw [if_neg hk]; exact hR h hh) (fun k hk => by
            unfold s_put
            rw [if_neg (by omega)]
            exact hP0 k (by omega)) (fun k => by
            unfold s_put
            by_cases hk : k = i
            · rw [if_pos hk]; exact bd.1
            · rw [if_neg hk]; exact hB k) g4
          have step : ∀ r, q_Ev m_Md_readsFill 81 [q_r t_Md 0, q_i (fi : Int), q_i x2', q_i ((i + 1 : Nat) : Int), none] [] (q_mk d1 b) r → q_Ev m_Md_readsFill 81 [q_r t_Md 0, q_i (fi : Int), q_i x2, q_i (i : Int), none] [] (q_mk d b) r := by
            intro r h
            refine to112 r (g5 r (e_Md_readsFill_175 ?_))
            rw [q_wS (by omega)]; exact h
          refine ⟨d', s_mk_tr (s_mk_tr m3 a1) a, ?_⟩
          cases hrr : s_rowsO sz V n fi f (i + 1) (s_put P i Pi) (s_put G i (s_sk sz V (s_sk sz V q + 1))) q' with
          | inl q2 => rw [hrr] at hmm; exact ⟨hmm.1, step _ hmm.2.1, hmm.2.2⟩
          | inr o2 =>
            obtain ⟨P', G', q2⟩ := o2
            rw [hrr] at hmm
            obtain ⟨t1, t2, t3, t4, t5, y2, t6, t7⟩ := hmm
            have lo : ∀ k, k < i + 1 → P' k = s_put P i Pi k ∧ G' k = s_put G i (s_sk sz V (s_sk sz V q + 1)) k := fun k hk => s_rowsO_lo f (i + 1) _ _ _ _ hrr k hk
            refine ⟨t1, t2, t3, t4, t5, y2, ?_, fun r v w2 v1 v2 => step r (t7 r v w2 v1 v2)⟩
            rw [s_ofs_as] at t6
            rw [s_leO_ofs, (lo i (by omega)).2, show s_put G i (s_sk sz V (s_sk sz V q + 1)) i = s_sk sz V (s_sk sz V q + 1) from if_pos rfl, s_leR_cong (P2 := s_put P i Pi) h1 (fun k _ k2 => (lo k (by omega)).1)]
            exact t6
      · rw [if_neg h47]
        have kf := c_Md_fails (p := s_sk sz V q) (k := 1) (by omega) (by omega) (d := q_sI d t_Md 0 2 (s_sk sz V q : Int)) (b := b)
        rw [← e21] at kf
        refine ⟨q_sI (q_sI d t_Md 0 2 (s_sk sz V q : Int)) t_Md 0 3 ((8 * s_sk sz V q + 1 : Nat) : Int), s_mk_tr m1 (s_mk_sI (by decide) (fun _ => by omega)), hs, to92 _ (e_Md_readsFill_92 ⟨fun hh => absurd hh h47, fun _ => ⟨_, _, kf, e_Md_readsFill_99 ⟨by decide, by decide, ?_⟩⟩⟩), by rw [q_sI_at, q_up_at]⟩
        rw [e21]
    · rw [if_neg hl]
      have hl' := Bool.eq_false_iff.mpr hl
      rw [hl'] at kh
      obtain ⟨d', a, hmm⟩ := c_Md_rowsGo (V := V) hz hn hfi (b := b) f (i + 1) q P G x2 o d (by omega) (by omega) hq e e2 e5 eB hR (fun k hk => hP0 k (by omega)) hB hx
      have step : ∀ r, q_Ev m_Md_readsFill 81 [q_r t_Md 0, q_i (fi : Int), q_i x2, q_i ((i + 1 : Nat) : Int), none] [] (q_mk d b) r → q_Ev m_Md_readsFill 81 [q_r t_Md 0, q_i (fi : Int), q_i x2, q_i (i : Int), none] [] (q_mk d b) r := by
        intro r h
        refine e_Md_readsFill_81 ⟨fun hh => by rw [e5] at hh; omega, fun _ => ⟨_, _, kh, e_Md_readsFill_88 ⟨fun hh => absurd rfl hh, fun _ => e_Md_readsFill_175 ?_⟩⟩⟩
        rw [q_wS (by omega)]; exact h
      refine ⟨d', a, ?_⟩
      cases hrr : s_rowsO sz V n fi f (i + 1) P G q with
      | inl q2 => rw [hrr] at hmm; exact ⟨hmm.1, step _ hmm.2.1, hmm.2.2⟩
      | inr o2 =>
        obtain ⟨P', G', q2⟩ := o2
        rw [hrr] at hmm
        obtain ⟨t1, t2, t3, t4, t5, y2, t6, t7⟩ := hmm
        refine ⟨t1, t2, t3, t4, t5, y2, ?_, fun r v w2 v1 v2 => step r (t7 r v w2 v1 v2)⟩
        rw [s_leO_ofs, s_leR_no hl']
        exact t6
