/-! 'Ev': where the small machine comes to, behind the constructors; and its walk, a proposition that unfolds by itself -/
def q_Ev (mi k : Nat) (loc : qLo) (st : List qV) (w : qW) (r : Option qV × qW) : Prop := ∃ N : Nat, ∀ n, N ≤ n → ∀ E : Nat × Nat, q_run n mi ((q_code mi).drop k) loc st (q_env, E) w = some (r.1, (q_env, E), r.2)
def q_gs (g : qG) (K : Prop) : Prop := match g with
  | [] => K
  | (o, x, y) :: l => q_cond o x y ∧ q_gs l K
def q_sws (x : Int) (ts : List (Int × Nat)) (d : Nat) (K : Nat → Prop) : Prop := match ts with
  | [] => K d
  | (k, t) :: r => (x = k → K t) ∧ (x ≠ k → q_sws x r d K)
def q_mem (k : Nat) (l : List Nat) : Bool := match l with
  | [] => false
  | a :: r => (match Nat.beq k a with
    | true => true
    | false => q_mem k r)
def q_wp (r : Option qV × qW) : Nat → List Nat → Nat → Nat → List qI → qLo → List qV → qW → Prop
  | 0, _, mi, k, _, loc, st, w => q_Ev mi k loc st w r
  | _ + 1, _, _, _, [], _, _, _ => False
  | n + 1, S, mi, k, op :: is, loc, st, w => match q_step mi op loc st q_env w with
    | none => False
    | some (.inl (g, l', s', w')) => q_gs g (match q_mem (k + 1) S with
      | true => q_Ev mi (k + 1) l' s' w' r
      | false => q_wp r n S mi (k + 1) is l' s' w')
    | some (.inr (.inl (t, l', s', w'))) => (match q_mem t S with
      | true => q_Ev mi t l' s' w' r
      | false => q_wp r n S mi t ((q_code mi).drop t) l' s' w')
    | some (.inr (.inr (.inl (o, x, y, t, l', s', w')))) => (q_cond o x y → (match q_mem t S with
      | true => q_Ev mi t l' s' w' r
      | false => q_wp r n S mi t ((q_code mi).drop t) l' s' w')) ∧ (q_cond (q_neg o) x y → (match q_mem (k + 1) S with
      | true => q_Ev mi (k + 1) l' s' w' r
      | false => q_wp r n S mi (k + 1) is l' s' w'))
    | some (.inr (.inr (.inr (.inl (x, ts, d, l', s', w'))))) => q_sws x ts d (fun t => match q_mem t S with
      | true => q_Ev mi t l' s' w' r
      | false => q_wp r n S mi t ((q_code mi).drop t) l' s' w')
    | some (.inr (.inr (.inr (.inr (.inl (m, as, l', s', w')))))) => ∃ (v : Option qV) (w2 : qW), q_Ev m 0 (q_entry (q_ml m) as) [] w' (v, w2) ∧ (match q_mem (k + 1) S with
      | true => q_Ev mi (k + 1) l' (v.toList ++ s') w2 r
      | false => q_wp r n S mi (k + 1) is l' (v.toList ++ s') w2)
    | some (.inr (.inr (.inr (.inr (.inr (g, v, w')))))) => q_gs g (r = (v, w'))
theorem q_condb_iff {o : Jvm.ClassFile.Cond} {x y : Int} : q_condb o x y = true ↔ q_cond o x y := by
  cases o <;> simp [q_condb, q_cond]
theorem q_neg_iff {o : Jvm.ClassFile.Cond} {x y : Int} : q_cond (q_neg o) x y ↔ ¬ q_cond o x y := by
  cases o <;> simp [q_neg, q_cond] <;> omega
theorem q_gs_iff {g : qG} {K : Prop} : q_gs g K ↔ (g.all (fun q => q_condb q.1 q.2.1 q.2.2) = true ∧ K) := by
  induction g with
  | nil => simp [q_gs]
  | cons a l ih =>
    obtain ⟨o, x, y⟩ := a
    simp only [q_gs, ih, List.all_cons, Bool.and_eq_true, q_condb_iff, and_assoc]
theorem q_sws_spec {x : Int} {d : Nat} {K : Nat → Prop} : ∀ {ts : List (Int × Nat)}, q_sws x ts d K → K (q_swt x ts d)
  | [], h => h
  | (k, t) :: r, h => by
    unfold q_swt
    by_cases hx : x = k
    · rw [if_pos hx]; exact h.1 hx
    · rw [if_neg hx]; exact q_sws_spec (h.2 hx)
theorem q_new_none {mi : Nat} {op : qI} {st : List qV} {E : qE} {loc : qLo} {env : qR → Option (Nat × Nat)} {w : qW} {a : _} (h : q_step mi op loc st env w = some a) : q_new op st E w = none := by
  obtain ⟨i, a, b, c, z, ts⟩ := op
  cases i <;> first | rfl | (simp [q_step] at h)
theorem q_run_succ (n mi : Nat) (op : qI) (is : List qI) (loc : qLo) (st : List qV) (E : qE) (w : qW) : q_run (n + 1) mi (op :: is) loc st E w = match q_new op st E w with
    | some (s', E', w') => q_run n mi is loc s' E' w'
    | none => match q_step mi op loc st E.1 w with
      | none => none
      | some (.inl (g, l', s', w')) => if g.all (fun q => q_condb q.1 q.2.1 q.2.2) = true then q_run n mi is l' s' E w' else none
      | some (.inr (.inl (t, l', s', w'))) => q_run n mi ((q_code mi).drop t) l' s' E w'
      | some (.inr (.inr (.inl (o, x, y, t, l', s', w')))) => if q_condb o x y = true then q_run n mi ((q_code mi).drop t) l' s' E w' else q_run n mi is l' s' E w'
      | some (.inr (.inr (.inr (.inl (x, ts, d, l', s', w'))))) => q_run n mi ((q_code mi).drop (q_swt x ts d)) l' s' E w'
      | some (.inr (.inr (.inr (.inr (.inl (m, as, l', s', w')))))) => (match q_run n m (q_code m) (q_entry (q_ml m) as) [] E w' with
        | none => none
        | some (v, E', w2) => q_run n mi is l' (v.toList ++ s') E' w2)
      | some (.inr (.inr (.inr (.inr (.inr (g, v, w')))))) => if g.all (fun q => q_condb q.1 q.2.1 q.2.2) = true then some (v, E, w') else none := rfl
/-- one step's effect on Ev -/
theorem q_ev_step {r : Option qV × qW} {mi k : Nat} {op : qI} {is : List qI} {loc : qLo} {st : List qV} {w : qW} (hd : (q_code mi).drop k = op :: is) (h : match q_step mi op loc st q_env w with
    | none => False
    | some (.inl (g, l', s', w')) => q_gs g (q_Ev mi (k + 1) l' s' w' r)
    | some (.inr (.inl (t, l', s', w'))) => q_Ev mi t l' s' w' r
    | some (.inr (.inr (.inl (o, x, y, t, l', s', w')))) => (q_cond o x y → q_Ev mi t l' s' w' r) ∧ (q_cond (q_neg o) x y → q_Ev mi (k + 1) l' s' w' r)
    | some (.inr (.inr (.inr (.inl (x, ts, d, l', s', w'))))) => q_Ev mi (q_swt x ts d) l' s' w' r
    | some (.inr (.inr (.inr (.inr (.inl (m, as, l', s', w')))))) => ∃ (v : Option qV) (w2 : qW), q_Ev m 0 (q_entry (q_ml m) as) [] w' (v, w2) ∧ q_Ev mi (k + 1) l' (v.toList ++ s') w2 r
    | some (.inr (.inr (.inr (.inr (.inr (g, v, w')))))) => q_gs g (r = (v, w'))) : q_Ev mi k loc st w r := by
  have hd1 : (q_code mi).drop (k + 1) = is := by
    have := congrArg (List.drop 1) hd
    rw [List.drop_drop] at this
    simpa using this
  cases hs : q_step mi op loc st q_env w with
  | none => rw [hs] at h; exact h.elim
  | some a =>
    rw [hs] at h
    have hn : ∀ E, q_new op st E w = none := fun E => q_new_none hs
    rcases a with ⟨g, l', s', w'⟩ | ⟨t, l', s', w'⟩ | ⟨o, x, y, t, l', s', w'⟩ | ⟨x, ts, d, l', s', w'⟩ | ⟨m, as, l', s', w'⟩ | ⟨g, v, w'⟩
    · obtain ⟨h1, N, h2⟩ := q_gs_iff.mp h
      refine ⟨N + 1, fun n hn1 E => ?_⟩
      obtain ⟨n, rfl⟩ : ∃ j, n = j + 1 := ⟨n - 1, by omega⟩
      rw [hd, q_run_succ, hn, hs]
      dsimp only
      rw [if_pos h1, ← hd1]
      exact h2 n (by omega) E
    · obtain ⟨N, h2⟩ := h
      refine ⟨N + 1, fun n hn1 E => ?_⟩
      obtain ⟨n, rfl⟩ : ∃ j, n = j + 1 := ⟨n - 1, by omega⟩
      rw [hd, q_run_succ, hn, hs]
      exact h2 n (by omega) E
    · by_cases hc : q_cond o x y
      · obtain ⟨N, h2⟩ := h.1 hc
        refine ⟨N + 1, fun n hn1 E => ?_⟩
        obtain ⟨n, rfl⟩ : ∃ j, n = j + 1 := ⟨n - 1, by omega⟩
        rw [hd, q_run_succ, hn, hs]
        dsimp only
        rw [if_pos (q_condb_iff.mpr hc)]
        exact h2 n (by omega) E
      · obtain ⟨N, h2⟩ := h.2 (q_neg_iff.mpr hc)
        refine ⟨N + 1, fun n hn1 E => ?_⟩
        obtain ⟨n, rfl⟩ : ∃ j, n = j + 1 := ⟨n - 1, by omega⟩
        rw [hd, q_run_succ, hn, hs]
        dsimp only
        rw [if_neg (fun q => hc (q_condb_iff.mp q)), ← hd1]
        exact h2 n (by omega) E
    · obtain ⟨N, h2⟩ := h
      refine ⟨N + 1, fun n hn1 E => ?_⟩
      obtain ⟨n, rfl⟩ : ∃ j, n = j + 1 := ⟨n - 1, by omega⟩
      rw [hd, q_run_succ, hn, hs]
      exact h2 n (by omega) E
    · obtain ⟨v, w2, ⟨N1, h1⟩, N, h2⟩ := h
      refine ⟨max N1 N + 1, fun n hn1 E => ?_⟩
      obtain ⟨n, rfl⟩ : ∃ j, n = j + 1 := ⟨n - 1, by omega⟩
      rw [hd, q_run_succ, hn, hs]
      dsimp only
      have e1 := h1 n (by omega) E
      rw [List.drop_zero] at e1
      rw [e1]
      dsimp only
      rw [← hd1]
      exact h2 n (by omega) E
    · refine ⟨1, fun n hn1 E => ?_⟩
      obtain ⟨n, rfl⟩ : ∃ j, n = j + 1 := ⟨n - 1, by omega⟩
      rw [hd, q_run_succ, hn, hs]
      obtain ⟨h1, h2⟩ := q_gs_iff.mp h
      subst h2
      dsimp only
      rw [if_pos h1]
theorem q_wp_sound {r : Option qV × qW} : ∀ (n : Nat) (S : List Nat) (mi k : Nat) (is : List qI) (loc : qLo) (st : List qV) (w : qW), (q_code mi).drop k = is → q_wp r n S mi k is loc st w → q_Ev mi k loc st w r
  | 0, _, _, _, _, _, _, _, _, h => h
  | n + 1, _, _, _, [], _, _, _, _, h => h.elim
  | n + 1, S, mi, k, op :: is, loc, st, w, hd, h => by
    have hd1 : (q_code mi).drop (k + 1) = is := by
      have := congrArg (List.drop 1) hd
      rw [List.drop_drop] at this
      simpa using this
    have key1 : ∀ l' s' w', (match q_mem (k + 1) S with
      | true => q_Ev mi (k + 1) l' s' w' r
      | false => q_wp r n S mi (k + 1) is l' s' w') → q_Ev mi (k + 1) l' s' w' r := by
      intro l' s' w' h
      cases hq : q_mem (k + 1) S with
      | true => rw [hq] at h; exact h
      | false => rw [hq] at h; exact q_wp_sound n S mi (k + 1) is l' s' w' hd1 h
    have key2 : ∀ t l' s' w', (match q_mem t S with
      | true => q_Ev mi t l' s' w' r
      | false => q_wp r n S mi t ((q_code mi).drop t) l' s' w') → q_Ev mi t l' s' w' r := by
      intro t l' s' w' h
      cases hq : q_mem t S with
      | true => rw [hq] at h; exact h
      | false => rw [hq] at h; exact q_wp_sound n S mi t _ l' s' w' rfl h
    refine q_ev_step hd ?_
    unfold q_wp at h
    cases hs : q_step mi op loc st q_env w with
    | none => rw [hs] at h; exact h
    | some a =>
      rw [hs] at h
      rcases a with ⟨g, l', s', w'⟩ | ⟨t, l', s', w'⟩ | ⟨o, x, y, t, l', s', w'⟩ | ⟨x, ts, d, l', s', w'⟩ | ⟨m, as, l', s', w'⟩ | ⟨g, v, w'⟩
      · exact q_gs_iff.mpr ⟨(q_gs_iff.mp h).1, key1 _ _ _ (q_gs_iff.mp h).2⟩
      · exact key2 _ _ _ _ h
      · exact ⟨fun hc => key2 _ _ _ _ (h.1 hc), fun hc => key1 _ _ _ (h.2 hc)⟩
      · exact key2 _ _ _ _ (q_sws_spec h)
      · obtain ⟨v, w2, h1, h2⟩ := h
        exact ⟨v, w2, h1, key1 _ _ _ h2⟩
      · exact h
theorem q_go (n : Nat) (S : List Nat) {r : Option qV × qW} {mi k : Nat} {loc : qLo} {st : List qV} {w : qW} (h : q_wp r n S mi k ((q_code mi).drop k) loc st w) : q_Ev mi k loc st w r := q_wp_sound n S mi k _ loc st w rfl h
