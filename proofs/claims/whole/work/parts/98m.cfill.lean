/-! reading a fill: the class whole -/
def s_fillO (sz : Nat) (V : Nat → Int) (q : Nat) : s_O := if 2 ≤ (s_path sz V 8 0 0 q).1 ∧ s_pl (s_bt sz V (s_path sz V 8 0 0 q).2.2) = false then (match s_rowsO sz V (s_path sz V 8 0 0 q).1 (s_path sz V 8 0 0 q).2.1 (s_path sz V 8 0 0 q).1 1 (fun _ => 0) (fun _ => 0) (s_path sz V 8 0 0 q).2.2 with
    | .inl q2 => .inl (8 * q2 + 1)
    | .inr (P, G, q2) => if s_sk sz V q2 < sz then .inl (8 * s_sk sz V q2 + 1) else (match s_leO (s_path sz V 8 0 0 q).1 (s_path sz V 8 0 0 q).2.1 P G (s_path sz V 8 0 0 q).1 1 with
      | some c => .inl c
      | none => .inr ((s_path sz V 8 0 0 q).1, s_fF (s_path sz V 8 0 0 q).1 (s_path sz V 8 0 0 q).2.1 P))) else .inl (8 * (s_path sz V 8 0 0 q).2.2 + 1)
theorem s_leR_c {fi i : Nat} {P : Nat → Nat} : ∀ (f p c : Nat), s_leR fi P i f p = some c → 1 ≤ c ∧ c ≤ 8 * (p + f) + 3
  | 0, p, c, h => absurd h (by simp [s_leR])
  | f + 1, p, c, h => by
    unfold s_leR at h
    by_cases hb : s_box fi i (i + f + 1) = true
    · rw [if_pos hb] at h
      by_cases hk : s_brk P i (i + f + 1) = true
      · rw [if_pos hk] at h
        injection h with h
        omega
      · rw [if_neg hk] at h
        have := s_leR_c f (p + 1) c h
        omega
    · rw [if_neg hb] at h
      have := s_leR_c f p c h
      omega
theorem s_leO_c {n fi : Nat} {P G : Nat → Nat} (hn : n ≤ 8) (hG : ∀ k, G k ≤ 160) : ∀ (f i c : Nat), s_leO n fi P G f i = some c → 1 ≤ c ∧ c < 2000
  | 0, i, c, h => absurd h (by simp [s_leO])
  | f + 1, i, c, h => by
    unfold s_leO at h
    cases hr : s_leR fi P i (n - i) (G i) with
    | some c' =>
      rw [hr] at h
      injection h with h
      have := s_leR_c _ _ _ hr
      have := hG i
      omega
    | none =>
      rw [hr] at h
      exact s_leO_c hn hG f (i + 1) c h
theorem c_Re_imgGo {n fi : Nat} {P : Nat → Nat} (hn : n ≤ 8) (hfi : fi < 256) (hP : ∀ k, P k < 256) (hF : ∀ l w, 1 ≤ l → l ≤ n → s_exit n fi (s_nR fi n (fun i j => q_hl (P i) j)) (s_nC fi n (fun i j => q_hl (P i) j)) l w → s_fF n fi P l = s_exF n fi w) {b : Nat} : ∀ (f i : Nat) (d : qD), i + f = n + 1 → 1 ≤ i → d.1 t_Re 0 7 = (n : Int) → d.1 t_Di 0 0 = (n : Int) → d.1 t_Di 0 1 = (fi : Int) → (∀ k, 1 ≤ k → k ≤ n → d.1 t_plus 0 k = (P k : Int)) → (∀ k, 1 ≤ k → k < i → d.1 t_reImg 0 k = (s_fF n fi P k : Int)) → ∃ d', q_Ev m_Re_faultOfBoxes 41 [q_r t_Re 0, q_i (i : Int), none, none] [] (q_mk d b) (q_i 0, q_mk d' b) ∧ q_ag [t_reImg] d d' ∧ s_row (d'.1 t_reImg 0) n (s_fF n fi P)
  | 0, i, d, hf, h1, e7, e0, e1, eP, eI => ⟨d, e_Re_faultOfBoxes_41 ⟨fun _ => rfl, fun hh => by rw [e7] at hh; omega⟩, q_ag_refl _ _, fun k k1 k2 => eI k k1 (by omega)⟩
  | f + 1, i, d, hf, h1, e7, e0, e1, eP, eI => by
    obtain ⟨w, hw, v⟩ := c_Di_imageOf (c := 0) (l := i) hn hfi h1 (by omega) hP (s_net_any n fi (fun i j => q_hl (P i) j)) (b := b) e0 e1 eP
    rw [← hF i w h1 (by omega) hw] at v
    obtain ⟨d', vv, a, r⟩ := c_Re_imgGo hn hfi hP hF (b := b) f (i + 1) (q_sI d t_reImg 0 i (s_fF n fi P i : Int)) (by omega) (by omega) (by rw [q_sI_ne _ _ (by decide)]; exact e7) (by rw [q_sI_ne _ _ (by decide)]; exact e0) (by rw [q_sI_ne _ _ (by decide)]; exact e1) (fun k k1 k2 => by rw [q_sI_ne _ _ (by decide)]; exact eP k k1 k2) (fun k k1 k2 => by
      rw [q_sI_at]
      by_cases hk : k = i
      · rw [hk, q_up_at]
      · rw [q_up_ne _ _ hk]; exact eI k k1 (by omega))
    refine ⟨d', e_Re_faultOfBoxes_41 ⟨fun hh => by rw [e7] at hh; omega, fun _ => ⟨_, _, v, e_Re_faultOfBoxes_52 ⟨by omega, by omega, ?_⟩⟩⟩, q_ag_tr (q_ag_sI (by decide)) a, r⟩
    rw [Int.toNat_natCast, q_wS (by omega)]
    exact vv
abbrev s_TFF : List Nat := [t_Re, t_Di, t_plus, t_begins, t_reImg]
theorem c_Re_readFilling {sz q : Nat} {V : Nat → Int} (hz : sz ≤ 160) (hq : q ≤ sz) {d : qD} {b : Nat} (e : s_Tp sz V d) (e4 : d.1 t_Re 0 4 = (q : Int)) : ∃ d' code, q_Ev m_Re_readFilling 0 [q_r t_Re 0, none] [] (q_mk d b) (q_i code, q_mk d' b) ∧ q_ag s_TFF d d' ∧ (∀ c', c' ≠ 0 → (∀ k, d'.1 t_plus c' k = d.1 t_plus c' k) ∧ d'.1 t_Di c' = d.1 t_Di c') ∧ s_res (s_fillO sz V q) d' code := by
  obtain ⟨d1, v1, a1, r4, r7, D0, D1, cp, co⟩ := c_Re_readPath (V := V) hz hq (b := b) e e4
  have bd := s_path_bd (sz := sz) (V := V) 8 0 0 q rfl (by decide) hq
  unfold s_fillO
  generalize s_path sz V 8 0 0 q = o at *
  obtain ⟨n, fi, q'⟩ := o
  dsimp only at *
  have hn : n ≤ 8 := bd.1
  have hfi : fi < 256 := Nat.lt_of_lt_of_le bd.2.1 (s_p8 hn)
  have hq' : q' ≤ sz := bd.2.2.2
  by_cases hc : 2 ≤ n ∧ s_pl (s_bt sz V q') = false
  · rw [if_pos hc]
    rw [decide_eq_true hc] at v1
    have go : ∀ r, q_Ev m_Re_readFilling 11 [q_r t_Re 0, q_i ((1 : Nat) : Int)] [] (q_mk d1 b) r → q_Ev m_Re_readFilling 0 [q_r t_Re 0, none] [] (q_mk d b) r := fun r hr => e_Re_readFilling_0 ⟨_, _, v1, e_Re_readFilling_2 ⟨fun _ => hr, fun hh => absurd hh (by decide)⟩⟩
    obtain ⟨d2, a2, r72, rP, hm⟩ := c_Re_rowsGo (V := V) hz hn hfi (b := b) n 1 q' (fun _ => 0) (fun _ => 0) d1 (by omega) (Nat.le_refl 1) hq' ⟨by rw [a1.1 t_Ta (by decide)]; exact e.1, fun j hj => by rw [a1.1 t_bytes (by decide)]; exact e.2 j hj⟩ r4 r7 D1 (fun k k1 k2 => by rw [cp k (by omega)]; rfl) (fun _ _ => rfl) (fun k k1 k2 => by omega) (fun _ => ⟨by decide, Nat.zero_le _⟩)
    have a12 : q_ag s_TFF d d2 := q_ag_tr (q_ag_up a1 (by decide)) (q_ag_up a2 (by decide))
    have co2 : ∀ c', c' ≠ 0 → (∀ k, d2.1 t_plus c' k = d.1 t_plus c' k) ∧ d2.1 t_Di c' = d.1 t_Di c' := fun c' h' => ⟨fun k => by rw [rP c' k h', (co c' h').1], by rw [a2.1 t_Di (by decide), (co c' h').2]⟩
    cases hro : s_rowsO sz V n fi n 1 (fun _ => 0) (fun _ => 0) q' with
    | inl q2 =>
      rw [hro] at hm
      exact ⟨d2, _, go _ hm.2, a12, co2, rfl, by omega, by have := hm.1; omega⟩
    | inr o2 =>
      obtain ⟨P, G, q2⟩ := o2
      rw [hro] at hm
      obtain ⟨hq2, e42, eP, eG, hB, cont⟩ := hm
      dsimp only
      have e2T : s_Tp sz V d2 := ⟨by rw [a12.1 t_Ta (by decide)]; exact e.1, fun j hj => by rw [a12.1 t_bytes (by decide)]; exact e.2 j hj⟩
      have sk := c_Re_skip hz (b := b) hq2 e2T e42
      have hs := s_sk_le (V := V) hq2
      have a13 : q_ag s_TFF d (q_sI d2 t_Re 0 4 (s_sk sz V q2 : Int)) := q_ag_tr a12 (q_ag_sI (by decide))
      have co3 : ∀ c', c' ≠ 0 → (∀ k, (q_sI d2 t_Re 0 4 (s_sk sz V q2 : Int)).1 t_plus c' k = d.1 t_plus c' k) ∧ (q_sI d2 t_Re 0 4 (s_sk sz V q2 : Int)).1 t_Di c' = d.1 t_Di c' := fun c' h' => by
        rw [q_sI_ne _ _ (by decide), q_sI_ne _ _ (by decide)]; exact co2 c' h'
      have e43 : (q_sI d2 t_Re 0 4 (s_sk sz V q2 : Int)).1 t_Re 0 4 = (s_sk sz V q2 : Int) := by rw [q_sI_at, q_up_at]
      have e73 : (q_sI d2 t_Re 0 4 (s_sk sz V q2 : Int)).1 t_Re 0 7 = (n : Int) := by rw [q_sI_at, q_up_ne _ _ (by decide)]; exact r72
      have eT3 : (q_sI d2 t_Re 0 4 (s_sk sz V q2 : Int)).1 t_Ta 0 1 = (sz : Int) := by rw [q_sI_ne _ _ (by decide)]; exact e2T.1
      have e03 : (q_sI d2 t_Re 0 4 (s_sk sz V q2 : Int)).1 t_Di 0 0 = (n : Int) := by rw [q_sI_ne _ _ (by decide), a2.1 t_Di (by decide)]; exact D0
      have e13 : (q_sI d2 t_Re 0 4 (s_sk sz V q2 : Int)).1 t_Di 0 1 = (fi : Int) := by rw [q_sI_ne _ _ (by decide), a2.1 t_Di (by decide)]; exact D1
      have eP3 : ∀ k, 1 ≤ k → k ≤ n → (q_sI d2 t_Re 0 4 (s_sk sz V q2 : Int)).1 t_plus 0 k = (P k : Int) := fun k k1 k2 => by rw [q_sI_ne _ _ (by decide)]; exact eP k k1 k2
      have eG3 : ∀ k, 1 ≤ k → k ≤ n → q_hl fi k = true → (q_sI d2 t_Re 0 4 (s_sk sz V q2 : Int)).1 t_begins 0 k = (G k : Int) := fun k k1 k2 k3 => by rw [q_sI_ne _ _ (by decide)]; exact eG k k1 k2 k3
      by_cases hlt : s_sk sz V q2 < sz
      · rw [if_pos hlt]
        have kf := c_Re_fault (p := s_sk sz V q2) (k := 1) (by omega) (by omega) (d := q_sI d2 t_Re 0 4 (s_sk sz V q2 : Int)) (b := b) (x := q_r t_Re 0)
        rw [← e43] at kf
        refine ⟨q_sI d2 t_Re 0 4 (s_sk sz V q2 : Int), ((8 * s_sk sz V q2 + 1 : Nat) : Int), go _ (cont _ _ _ sk (e_Re_readFilling_35 ⟨fun hh => by rw [e43, eT3] at hh; omega, fun _ => ⟨_, _, kf, e_Re_readFilling_46 (e_Re_readFilling_49 ?_)⟩⟩)), a13, co3, rfl, by omega, by omega⟩
        rw [e43]
      · rw [if_neg hlt]
        have hP : ∀ k, P k < 256 := fun k => (hB k).1
        have hG : ∀ k, G k ≤ 160 := fun k => by have := (hB k).2; omega
        cases hle : s_leO n fi P G n 1 with
        | some c =>
          have hcc := s_leO_c hn hG n 1 c hle
          refine ⟨q_sI d2 t_Re 0 4 (s_sk sz V q2 : Int), (c : Int), go _ (cont _ _ _ sk (e_Re_readFilling_35 ⟨fun _ => ⟨_, _, e_Re_faultOfBoxes_0 (c_Re_leAll (r := (q_i (c : Int), q_mk (q_sI d2 t_Re 0 4 (s_sk sz V q2 : Int)) b)) hn hfi hP hG e73 e13 eP3 eG3 n 1 (by omega) (Nat.le_refl 1) (fun c' hc' => ?_) (fun hc' => ?_)), e_Re_readFilling_49 rfl⟩, fun hh => by rw [e43, eT3] at hh; omega⟩)), a13, co3, rfl, hcc.1, hcc.2⟩
          · rw [hle] at hc'; injection hc' with hc'; rw [hc']
          · rw [hle] at hc'; exact absurd hc' (by simp)
        | none =>
          have hx := s_fF_ok (P := P) (fs := fi) hc.1 hn (fun l l1 l2 => by
            obtain ⟨w, hw, _⟩ := c_Di_imageOf (c := 0) (l := l) hn hfi l1 l2 hP (s_net_any n fi (fun i j => q_hl (P i) j)) (b := b) e03 e13 eP3
            exact ⟨w, hw⟩)
          obtain ⟨d4, v4, a4, r⟩ := c_Re_imgGo hn hfi hP hx.2 (b := b) n 1 (q_sI d2 t_Re 0 4 (s_sk sz V q2 : Int)) (by omega) (Nat.le_refl 1) e73 e03 e13 eP3 (fun k k1 k2 => by omega)
          refine ⟨d4, 0, go _ (cont _ _ _ sk (e_Re_readFilling_35 ⟨fun _ => ⟨_, _, e_Re_faultOfBoxes_0 (c_Re_leAll (r := (q_i 0, q_mk d4 b)) hn hfi hP hG e73 e13 eP3 eG3 n 1 (by omega) (Nat.le_refl 1) (fun c' hc' => ?_) (fun _ => v4)), e_Re_readFilling_49 rfl⟩, fun hh => by rw [e43, eT3] at hh; omega⟩)), q_ag_tr a13 (q_ag_up a4 (by decide)), fun c' h' => by
            rw [a4.1 t_plus (by decide), a4.1 t_Di (by decide)]; exact co3 c' h', rfl, by rw [a4.1 t_Re (by decide)]; exact e73, r, hx.1⟩
          rw [hle] at hc'; exact absurd hc' (by simp)
  · rw [if_neg hc]
    rw [decide_eq_false hc] at v1
    have kf := c_Re_fault (p := q') (k := 1) (by omega) (by omega) (d := d1) (b := b) (x := q_r t_Re 0)
    rw [← r4] at kf
    refine ⟨d1, ((8 * q' + 1 : Nat) : Int), e_Re_readFilling_0 ⟨_, _, v1, e_Re_readFilling_2 ⟨fun hh => absurd rfl hh, fun _ => ⟨_, _, kf, e_Re_readFilling_8 ?_⟩⟩⟩, q_ag_up a1 (by decide), fun c' h' => ⟨fun k => by rw [(co c' h').1], (co c' h').2⟩, rfl, by omega, by omega⟩
    rfl
