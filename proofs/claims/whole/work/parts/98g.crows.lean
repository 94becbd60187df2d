/-! reading a fill: all rows, the class -/
def s_rowsO (sz : Nat) (V : Nat → Int) (n fi : Nat) : Nat → Nat → (Nat → Nat) → (Nat → Nat) → Nat → Nat ⊕ ((Nat → Nat) × (Nat → Nat) × Nat)
  | 0, _, P, G, q => .inr (P, G, q)
  | f + 1, i, P, G, q => if q_hl fi i = true then (match s_oneRow sz V n fi i q with
    | .inl q' => .inl q'
    | .inr (Pi, p', q') => s_rowsO sz V n fi f (i + 1) (s_put P i Pi) (s_put G i p') q') else s_rowsO sz V n fi f (i + 1) P G q
abbrev s_TF : List Nat := [t_Re, t_plus, t_begins]
theorem c_Re_rowsGo {sz n fi : Nat} {V : Nat → Int} (hz : sz ≤ 160) (hn : n ≤ 8) (hfi : fi < 256) {b : Nat} : ∀ (f i q : Nat) (P G : Nat → Nat) (d : qD), i + f = n + 1 → 1 ≤ i → q ≤ sz → s_Tp sz V d → d.1 t_Re 0 4 = (q : Int) → d.1 t_Re 0 7 = (n : Int) → d.1 t_Di 0 1 = (fi : Int) → (∀ k, 1 ≤ k → k ≤ n → d.1 t_plus 0 k = (P k : Int)) → (∀ k, i ≤ k → P k = 0) → (∀ k, 1 ≤ k → k < i → q_hl fi k = true → d.1 t_begins 0 k = (G k : Int)) → (∀ k, P k < 256 ∧ G k ≤ sz) → ∃ d', q_ag s_TF d d' ∧ d'.1 t_Re 0 7 = (n : Int) ∧ (∀ c k, c ≠ 0 → d'.1 t_plus c k = d.1 t_plus c k) ∧ match s_rowsO sz V n fi f i P G q with
    | .inl q' => q' ≤ sz ∧ q_Ev m_Re_readFilling 11 [q_r t_Re 0, q_i (i : Int)] [] (q_mk d b) (q_i ((8 * q' + 1 : Nat) : Int), q_mk d' b)
    | .inr (P', G', q') => q' ≤ sz ∧ d'.1 t_Re 0 4 = (q' : Int) ∧ (∀ k, 1 ≤ k → k ≤ n → d'.1 t_plus 0 k = (P' k : Int)) ∧ (∀ k, 1 ≤ k → k ≤ n → q_hl fi k = true → d'.1 t_begins 0 k = (G' k : Int)) ∧ (∀ k, P' k < 256 ∧ G' k ≤ sz) ∧ ∀ r v w2, q_Ev m_Re_skipBlanks 0 [q_r t_Re 0] [] (q_mk d' b) (v, w2) → q_Ev m_Re_readFilling 35 [q_r t_Re 0, none] (v.toList ++ []) w2 r → q_Ev m_Re_readFilling 11 [q_r t_Re 0, q_i (i : Int)] [] (q_mk d b) r
  | 0, i, q, P, G, d, hf, h1, hq, e, e4, e7, eD, eP, hP0, eG, hB => by
    refine ⟨d, q_ag_refl _ _, e7, fun _ _ _ => rfl, hq, e4, eP, fun k k1 k2 k3 => eG k k1 (by omega) k3, hB, fun r v w2 v1 v2 => e_Re_readFilling_11 ⟨fun _ => ⟨_, _, v1, v2⟩, fun hh => by rw [e7] at hh; omega⟩⟩
  | f + 1, i, q, P, G, d, hf, h1, hq, e, e4, e7, eD, eP, hP0, eG, hB => by
    unfold s_rowsO
    have kh := c_Se_holds (s := fi) (l := i) (by omega) h1 (by omega) (d := d) (b := b)
    rw [← eD] at kh
    by_cases hl : q_hl fi i = true
    · rw [if_pos hl]
      rw [hl] at kh
      obtain ⟨d1, a1, o4, oP, oG, hm⟩ := c_Re_readRow (V := V) (n := n) (i := i) hz hn hfi h1 (by omega) hq (b := b) e e4 e7 eD (by rw [eP i h1 (by omega), hP0 i (Nat.le_refl i)]; rfl)
      have bd := s_oneRow_bd (fi := fi) (i := i) (V := V) hn (by omega : i ≤ n) hq
      have e71 : d1.1 t_Re 0 7 = (n : Int) := by rw [o4 7 (by decide)]; exact e7
      cases hrs : s_oneRow sz V n fi i q with
      | inl q' =>
        rw [hrs] at hm
        have hq' := bd.1 q' hrs
        refine ⟨d1, q_ag_up a1 (by decide), e71, fun c k hc => oP c k (Or.inl hc), hq', e_Re_readFilling_11 ⟨fun hh => by rw [e7] at hh; omega, fun _ => ⟨_, _, kh, e_Re_readFilling_20 ⟨fun hh => absurd hh (by decide), fun _ => ⟨_, _, hm.1, e_Re_readFilling_24 ⟨fun hh => absurd rfl hh, fun _ => ?_⟩⟩⟩⟩⟩⟩
        rw [hm.2]
        exact ⟨_, _, c_Re_fault (k := 1) (by omega) (by omega), e_Re_readFilling_30 rfl⟩
      | inr o =>
        obtain ⟨Pi, p', q'⟩ := o
        rw [hrs] at hm
        obtain ⟨m1, m2, m3, m4⟩ := hm
        have hq' := bd.2 _ hrs
        dsimp only at hq' ⊢
        obtain ⟨d', a, r7, rP, hmm⟩ := c_Re_rowsGo (V := V) hz hn hfi (b := b) f (i + 1) q' (s_put P i Pi) (s_put G i p') d1 (by omega) (by omega) hq'.2.2 ⟨by rw [a1.1 t_Ta (by decide)]; exact e.1, fun j hj => by rw [a1.1 t_bytes (by decide)]; exact e.2 j hj⟩ m2 e71 (by rw [a1.1 t_Di (by decide)]; exact eD) (fun k k1 k2 => by
          unfold s_put
          by_cases hk : k = i
          · rw [if_pos hk, hk]; exact m3
          · rw [if_neg hk, oP 0 k (Or.inr hk)]; exact eP k k1 k2) (fun k hk => by
          unfold s_put
          rw [if_neg (by omega)]
          exact hP0 k (by omega)) (fun k k1 k2 k3 => by
          unfold s_put
          by_cases hk : k = i
          · rw [if_pos hk, hk]; exact m4
          · rw [if_neg hk, oG k hk]; exact eG k k1 (by omega) k3) (fun k => by
          unfold s_put
          by_cases hk : k = i
          · rw [if_pos hk, if_pos hk]; exact ⟨hq'.1, hq'.2.1⟩
          · rw [if_neg hk, if_neg hk]; exact hB k)
        have step : ∀ r, q_Ev m_Re_readFilling 11 [q_r t_Re 0, q_i ((i + 1 : Nat) : Int)] [] (q_mk d1 b) r → q_Ev m_Re_readFilling 11 [q_r t_Re 0, q_i (i : Int)] [] (q_mk d b) r := by
          intro r hr
          refine e_Re_readFilling_11 ⟨fun hh => by rw [e7] at hh; omega, fun _ => ⟨_, _, kh, e_Re_readFilling_20 ⟨fun hh => absurd hh (by decide), fun _ => ⟨_, _, m1, e_Re_readFilling_24 ⟨fun _ => e_Re_readFilling_31 ?_, fun hh => absurd hh (by decide)⟩⟩⟩⟩⟩
          rw [q_wS (by omega)]; exact hr
        refine ⟨d', q_ag_tr (q_ag_up a1 (by decide)) a, r7, fun c k hc => by rw [rP c k hc, oP c k (Or.inl hc)], ?_⟩
        cases hrr : s_rowsO sz V n fi f (i + 1) (s_put P i Pi) (s_put G i p') q' with
        | inl q2 => rw [hrr] at hmm; exact ⟨hmm.1, step _ hmm.2⟩
        | inr o2 =>
          obtain ⟨P', G', q2⟩ := o2
          rw [hrr] at hmm
          exact ⟨hmm.1, hmm.2.1, hmm.2.2.1, hmm.2.2.2.1, hmm.2.2.2.2.1, fun r v w2 v1 v2 => step r (hmm.2.2.2.2.2 r v w2 v1 v2)⟩
    · rw [if_neg hl]
      rw [Bool.eq_false_iff.mpr hl] at kh
      obtain ⟨d', a, r7, rP, hmm⟩ := c_Re_rowsGo (V := V) hz hn hfi (b := b) f (i + 1) q P G d (by omega) (by omega) hq e e4 e7 eD eP (fun k hk => hP0 k (by omega)) (fun k k1 k2 k3 => by
        by_cases hk : k = i
        · subst hk; exact absurd k3 hl
        · exact eG k k1 (by omega) k3) hB
      have step : ∀ r, q_Ev m_Re_readFilling 11 [q_r t_Re 0, q_i ((i + 1 : Nat) : Int)] [] (q_mk d b) r → q_Ev m_Re_readFilling 11 [q_r t_Re 0, q_i (i : Int)] [] (q_mk d b) r := by
        intro r hr
        refine e_Re_readFilling_11 ⟨fun hh => by rw [e7] at hh; omega, fun _ => ⟨_, _, kh, e_Re_readFilling_20 ⟨fun _ => e_Re_readFilling_31 ?_, fun hh => absurd rfl hh⟩⟩⟩
        rw [q_wS (by omega)]; exact hr
      refine ⟨d', a, r7, rP, ?_⟩
      cases hrr : s_rowsO sz V n fi f (i + 1) P G q with
      | inl q2 => rw [hrr] at hmm; exact ⟨hmm.1, step _ hmm.2⟩
      | inr o2 =>
        obtain ⟨P', G', q2⟩ := o2
        rw [hrr] at hmm
        exact ⟨hmm.1, hmm.2.1, hmm.2.2.1, hmm.2.2.2.1, hmm.2.2.2.2.1, fun r v w2 v1 v2 => step r (hmm.2.2.2.2.2 r v w2 v1 v2)⟩
