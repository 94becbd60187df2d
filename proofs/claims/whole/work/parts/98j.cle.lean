/-! reading a fill: LE over all rows, the class -/
theorem c_Re_leAll {n fi : Nat} {P G : Nat → Nat} (hn : n ≤ 8) (hfi : fi < 256) (hP : ∀ k, P k < 256) (hG : ∀ k, G k ≤ 160) {d : qD} {b : Nat} (e7 : d.1 t_Re 0 7 = (n : Int)) (eD : d.1 t_Di 0 1 = (fi : Int)) (eP : ∀ k, 1 ≤ k → k ≤ n → d.1 t_plus 0 k = (P k : Int)) (eG : ∀ k, 1 ≤ k → k ≤ n → q_hl fi k = true → d.1 t_begins 0 k = (G k : Int)) {r : Option qV × qW} : ∀ (f i : Nat), i + f = n + 1 → 1 ≤ i → (∀ c, s_leO n fi P G f i = some c → r = (q_i (c : Int), q_mk d b)) → (s_leO n fi P G f i = none → q_Ev m_Re_faultOfBoxes 41 [q_r t_Re 0, q_i 1, none, none] [] (q_mk d b) r) → q_Ev m_Re_faultOfBoxes 2 [q_r t_Re 0, q_i (i : Int), none, none] [] (q_mk d b) r
  | 0, i, hf, h1, _, k2 => e_Re_faultOfBoxes_2 ⟨fun _ => k2 rfl, fun hh => by rw [e7] at hh; omega⟩
  | f + 1, i, hf, h1, k1, k2 => by
    unfold s_leO at k1 k2
    refine e_Re_faultOfBoxes_2 ⟨fun hh => by rw [e7] at hh; omega, fun _ => ⟨by omega, by omega, ?_⟩⟩
    rw [Int.toNat_natCast, e7]
    by_cases hl : q_hl fi i = true
    · rw [eG i h1 (by omega) hl]
      have hg := hG i
      have go := c_Re_leRow (r := r) hn hfi h1 (by omega) hP (b := b) eD eP (n - i) (G i) (by omega) (by omega) (fun c hc => by rw [hc] at k1; exact k1 c rfl) (fun hc => by
        rw [hc] at k1 k2
        exact c_Re_leAll hn hfi hP hG e7 eD eP eG f (i + 1) (by omega) (by omega) k1 k2)
      rw [show i + (n - i) = n by omega] at go
      exact go
    · have hl' := Bool.eq_false_iff.mpr hl
      rw [s_leR_no hl'] at k1 k2
      have go := c_Re_leNo (r := r) (x := d.1 t_begins 0 i) hn hfi h1 (by omega) hl' (b := b) eD (c_Re_leAll hn hfi hP hG e7 eD eP eG f (i + 1) (by omega) (by omega) k1 k2) (n - i) (by omega)
      rw [show i + (n - i) = n by omega] at go
      exact go
