/-! locals that nobody reads may be forgotten; the walk with stops -/
def q_sub (l l' : qLo) : Prop := l.length = l'.length ∧ ∀ (i : Nat) (v : qV), l[i]? = some (some v) → l'[i]? = some (some v)
theorem q_sub_set {l l' : qLo} (h : q_sub l l') (k : Nat) (v : Option qV) : q_sub (l.set k v) (l'.set k v) := by
  refine ⟨by rw [List.length_set, List.length_set]; exact h.1, fun i u hi => ?_⟩
  by_cases hk : k = i
  · subst hk
    by_cases hl : k < l.length
    · rw [List.getElem?_set_self hl] at hi
      rw [List.getElem?_set_self (by rw [← h.1]; exact hl)]
      exact hi
    · rw [List.getElem?_eq_none (by rw [List.length_set]; omega)] at hi
      cases hi
  · rw [List.getElem?_set_ne hk] at hi
    rw [List.getElem?_set_ne hk]
    exact h.2 i u hi
theorem q_sub_clr {l l' : qLo} (h : q_sub l l') (k : Nat) (v : Option qV) : q_sub ((q_clr l k).set k v) ((q_clr l' k).set k v) := by
  refine q_sub_set ⟨by rw [q_clr_len, q_clr_len]; exact h.1, fun i u hi => ?_⟩ k v
  obtain ⟨h1, h2⟩ := q_clr_at hi
  have h3 := h.2 i u h1
  unfold q_clr
  split
  · exact h3
  · rename_i j
    split
    · rename_i y hy
      by_cases hj : j = i
      · subst hj
        rw [h3] at hy
        cases hy
        exact absurd ⟨rfl, rfl⟩ h2
      · rw [List.getElem?_set_ne hj]
        exact h3
    · exact h3
/-- two steps that differ in what is known of the locals alone -/
def q_actS (a b : qA) : Prop := match a with
  | none => True
  | some (.inl (g, l, s, w)) => ∃ l2, b = some (.inl (g, l2, s, w)) ∧ q_sub l l2
  | some (.inr (.inl (t, l, s, w))) => ∃ l2, b = some (.inr (.inl (t, l2, s, w))) ∧ q_sub l l2
  | some (.inr (.inr (.inl (o, x, y, t, l, s, w)))) => ∃ l2, b = some (.inr (.inr (.inl (o, x, y, t, l2, s, w)))) ∧ q_sub l l2
  | some (.inr (.inr (.inr (.inl (x, ts, d, l, s, w))))) => ∃ l2, b = some (.inr (.inr (.inr (.inl (x, ts, d, l2, s, w))))) ∧ q_sub l l2
  | some (.inr (.inr (.inr (.inr (.inl (m, as, l, s, w)))))) => ∃ l2, b = some (.inr (.inr (.inr (.inr (.inl (m, as, l2, s, w)))))) ∧ q_sub l l2
  | some (.inr (.inr (.inr (.inr (.inr (g, v, w)))))) => b = some (.inr (.inr (.inr (.inr (.inr (g, v, w))))))
theorem q_step_sub {mi : Nat} {op : qI} {loc loc' : qLo} {st : List qV} {env : qR → Option (Nat × Nat)} {w : qW} (h : q_sub loc loc') : q_actS (q_step mi op loc st env w) (q_step mi op loc' st env w) := by
  obtain ⟨i, a, b, c, z, ts⟩ := op
  have ld : ∀ (k : Nat) (g : qV → Bool), q_actS (q_ld loc k st w g) (q_ld loc' k st w g) := fun k g => by
    unfold q_ld
    split
    · rename_i v hv
      rw [h.2 k v hv]
      dsimp only
      split
      · exact ⟨_, rfl, h⟩
      · trivial
    · trivial
  have s1 : ∀ (k : Nat) (g : qV → Bool), q_actS (q_st1 loc k st w g) (q_st1 loc' k st w g) := fun k g => by
    unfold q_st1
    rw [h.1]
    split
    · split
      · exact ⟨_, rfl, q_sub_clr h _ _⟩
      · trivial
    · trivial
  have s2 : ∀ (k : Nat), q_actS (q_st2 loc k st w) (q_st2 loc' k st w) := fun k => by
    unfold q_st2
    rw [h.1]
    split
    · split
      · exact ⟨_, rfl, q_sub_set (q_sub_clr h _ _) _ _⟩
      · trivial
    · trivial
  have ic : ∀ (k : Nat) (n : Int), q_actS (q_inc loc k n st w) (q_inc loc' k n st w) := fun k n => by
    unfold q_inc
    split
    · rename_i x hx
      rw [h.2 k _ hx]
      exact ⟨_, rfl, q_sub_set h _ _⟩
    · trivial
  cases i
  case iload k => exact ld _ _
  case iload_n k => exact ld _ _
  case lload k => exact ld _ _
  case lload_n k => exact ld _ _
  case aload k => exact ld _ _
  case aload_n k => exact ld _ _
  case istore k => exact s1 _ _
  case istore_n k => exact s1 _ _
  case astore k => exact s1 _ _
  case astore_n k => exact s1 _ _
  case lstore k => exact s2 _
  case lstore_n k => exact s2 _
  case iinc k n => exact ic _ _
  all_goals first | trivial | exact ⟨_, rfl, h⟩ | skip
  all_goals dsimp only [q_step]
  all_goals first | (unfold q_bin; split <;> first | trivial | exact ⟨_, rfl, h⟩) | (unfold q_dv; split <;> first | trivial | exact ⟨_, rfl, h⟩) | (unfold q_binL; split <;> first | trivial | exact ⟨_, rfl, h⟩) | (unfold q_un; split <;> first | trivial | exact ⟨_, rfl, h⟩) | (unfold q_unL; split <;> first | trivial | exact ⟨_, rfl, h⟩) | (unfold q_if1; split <;> first | trivial | exact ⟨_, rfl, h⟩) | (unfold q_if2; split <;> first | trivial | exact ⟨_, rfl, h⟩) | (unfold q_swi; split <;> first | trivial | exact ⟨_, rfl, h⟩) | (unfold q_dup; repeat' split) | (unfold q_dup2; repeat' split) | (unfold q_pop; repeat' split) | (unfold q_get; repeat' split) | (unfold q_put; repeat' split) | (unfold q_ald; repeat' split) | (unfold q_ast; repeat' split) | (unfold q_lld; repeat' split) | (unfold q_lst; repeat' split) | (unfold q_rld; repeat' split) | (unfold q_rst; repeat' split) | (unfold q_len; repeat' split) | (unfold q_inv; repeat' split) | (unfold q_ret; repeat' split) | (unfold q_retL; repeat' split) | (unfold q_retR; repeat' split) | (repeat' split)
  all_goals first | trivial | exact ⟨_, rfl, h⟩ | rfl
theorem q_run_sub : ∀ (n mi : Nat) (is : List qI) (loc loc' : qLo) (st : List qV) (E : qE) (w : qW) (r : Option qV × qE × qW), q_sub loc loc' → q_run n mi is loc st E w = some r → q_run n mi is loc' st E w = some r
  | 0, _, _, _, _, _, _, _, _, _, h => by cases h
  | _ + 1, _, [], _, _, _, _, _, _, _, h => by cases h
  | n + 1, mi, op :: is, loc, loc', st, E, w, r, hs, h => by
    rw [q_run_succ] at h ⊢
    cases hn : q_new op st E w with
    | some x =>
      obtain ⟨s', E2, w2⟩ := x
      rw [hn] at h
      exact q_run_sub n _ _ _ _ _ _ _ _ hs h
    | none =>
      rw [hn] at h
      dsimp only at h ⊢
      have ha := q_step_sub (mi := mi) (op := op) (st := st) (env := E.1) (w := w) hs
      cases hq : q_step mi op loc st E.1 w with
      | none => rw [hq] at h; cases h
      | some act =>
        rw [hq] at h ha
        rcases act with ⟨g, l', s', w'⟩ | ⟨t, l', s', w'⟩ | ⟨o, x, y, t, l', s', w'⟩ | ⟨x, ts, d, l', s', w'⟩ | ⟨m, as, l', s', w'⟩ | ⟨g, v, w'⟩
        · obtain ⟨l2, e1, e2⟩ := ha
          rw [e1]
          dsimp only at h ⊢
          split at h
          · rename_i hg
            rw [if_pos hg]
            exact q_run_sub n _ _ _ _ _ _ _ _ e2 h
          · cases h
        · obtain ⟨l2, e1, e2⟩ := ha
          rw [e1]
          exact q_run_sub n _ _ _ _ _ _ _ _ e2 h
        · obtain ⟨l2, e1, e2⟩ := ha
          rw [e1]
          dsimp only at h ⊢
          split at h
          · rename_i hg
            rw [if_pos hg]
            exact q_run_sub n _ _ _ _ _ _ _ _ e2 h
          · rename_i hg
            rw [if_neg hg]
            exact q_run_sub n _ _ _ _ _ _ _ _ e2 h
        · obtain ⟨l2, e1, e2⟩ := ha
          rw [e1]
          exact q_run_sub n _ _ _ _ _ _ _ _ e2 h
        · obtain ⟨l2, e1, e2⟩ := ha
          rw [e1]
          dsimp only at h ⊢
          split at h
          · cases h
          · rename_i v E3 w3 hc
            exact q_run_sub n _ _ _ _ _ _ _ _ e2 h
        · rw [show q_step mi op loc' st E.1 w = _ from ha]
          exact h
theorem q_Ev_sub {mi k : Nat} {loc loc' : qLo} {st : List qV} {w : qW} {r : Option qV × qW} (hs : q_sub loc loc') (h : q_Ev mi k loc st w r) : q_Ev mi k loc' st w r := by
  obtain ⟨N, h⟩ := h
  exact ⟨N, fun n hn E => q_run_sub _ _ _ _ _ _ _ _ _ hs (h n hn E)⟩
/-- some locals forgotten -/
def q_fgt (ks : List Nat) (l : qLo) : qLo := match ks with
  | [] => l
  | k :: r => q_fgt r (l.set k none)
theorem q_fgt_sub : ∀ (ks : List Nat) (l : qLo), q_sub (q_fgt ks l) l
  | [], l => ⟨rfl, fun _ _ h => h⟩
  | k :: r, l => by
    have h := q_fgt_sub r (l.set k none)
    refine ⟨h.1.trans (List.length_set ..), fun i v hi => ?_⟩
    have h2 := h.2 i v hi
    by_cases hk : k = i
    · subst hk
      by_cases hl : k < l.length
      · rw [List.getElem?_set_self hl] at h2; cases h2
      · rw [List.getElem?_eq_none (by rw [List.length_set]; omega)] at h2; cases h2
    · rw [List.getElem?_set_ne hk] at h2
      exact h2
/-- at a stop, what is forgotten there -/
def q_stp (k : Nat) (S : List (Nat × List Nat)) : Option (List Nat) := match S with
  | [] => none
  | (a, ks) :: r => (match Nat.beq k a with
    | true => some ks
    | false => q_stp k r)
def q_wk (r : Option qV × qW) : Nat → List (Nat × List Nat) → Nat → Nat → List qI → qLo → List qV → qW → Prop
  | 0, _, mi, k, _, loc, st, w => q_Ev mi k loc st w r
  | _ + 1, _, _, _, [], _, _, _ => False
  | n + 1, S, mi, k, op :: is, loc, st, w => match q_step mi op loc st q_env w with
    | none => False
    | some (.inl (g, l', s', w')) => q_gs g (match q_stp (k + 1) S with
      | some ks => q_Ev mi (k + 1) (q_fgt ks l') s' w' r
      | none => q_wk r n S mi (k + 1) is l' s' w')
    | some (.inr (.inl (t, l', s', w'))) => (match q_stp t S with
      | some ks => q_Ev mi t (q_fgt ks l') s' w' r
      | none => q_wk r n S mi t ((q_code mi).drop t) l' s' w')
    | some (.inr (.inr (.inl (o, x, y, t, l', s', w')))) => (q_cond o x y → (match q_stp t S with
      | some ks => q_Ev mi t (q_fgt ks l') s' w' r
      | none => q_wk r n S mi t ((q_code mi).drop t) l' s' w')) ∧ (q_cond (q_neg o) x y → (match q_stp (k + 1) S with
      | some ks => q_Ev mi (k + 1) (q_fgt ks l') s' w' r
      | none => q_wk r n S mi (k + 1) is l' s' w'))
    | some (.inr (.inr (.inr (.inl (x, ts, d, l', s', w'))))) => q_sws x ts d (fun t => match q_stp t S with
      | some ks => q_Ev mi t (q_fgt ks l') s' w' r
      | none => q_wk r n S mi t ((q_code mi).drop t) l' s' w')
    | some (.inr (.inr (.inr (.inr (.inl (m, as, l', s', w')))))) => ∃ (v : Option qV) (w2 : qW), q_Ev m 0 (q_entry (q_ml m) as) [] w' (v, w2) ∧ (match q_stp (k + 1) S with
      | some ks => q_Ev mi (k + 1) (q_fgt ks l') (v.toList ++ s') w2 r
      | none => q_wk r n S mi (k + 1) is l' (v.toList ++ s') w2)
    | some (.inr (.inr (.inr (.inr (.inr (g, v, w')))))) => q_gs g (r = (v, w'))
theorem q_wk_sound {r : Option qV × qW} : ∀ (n : Nat) (S : List (Nat × List Nat)) (mi k : Nat) (is : List qI) (loc : qLo) (st : List qV) (w : qW), (q_code mi).drop k = is → q_wk r n S mi k is loc st w → q_Ev mi k loc st w r
  | 0, _, _, _, _, _, _, _, _, h => h
  | n + 1, _, _, _, [], _, _, _, _, h => h.elim
  | n + 1, S, mi, k, op :: is, loc, st, w, hd, h => by
    have hd1 : (q_code mi).drop (k + 1) = is := by
      have := congrArg (List.drop 1) hd
      rw [List.drop_drop] at this
      simpa using this
    have key1 : ∀ l' s' w', (match q_stp (k + 1) S with
      | some ks => q_Ev mi (k + 1) (q_fgt ks l') s' w' r
      | none => q_wk r n S mi (k + 1) is l' s' w') → q_Ev mi (k + 1) l' s' w' r := by
      intro l' s' w' h
      cases hq : q_stp (k + 1) S with
      | some ks => rw [hq] at h; exact q_Ev_sub (q_fgt_sub ks l') h
      | none => rw [hq] at h; exact q_wk_sound n S mi (k + 1) is l' s' w' hd1 h
    have key2 : ∀ t l' s' w', (match q_stp t S with
      | some ks => q_Ev mi t (q_fgt ks l') s' w' r
      | none => q_wk r n S mi t ((q_code mi).drop t) l' s' w') → q_Ev mi t l' s' w' r := by
      intro t l' s' w' h
      cases hq : q_stp t S with
      | some ks => rw [hq] at h; exact q_Ev_sub (q_fgt_sub ks l') h
      | none => rw [hq] at h; exact q_wk_sound n S mi t _ l' s' w' rfl h
    refine q_ev_step hd ?_
    unfold q_wk at h
    cases hs : q_step mi op loc st q_env w with
    | none => rw [hs] at h; exact h
    | some a =>
      rw [hs] at h
      rcases a with ⟨g, l', s', w'⟩ | ⟨t, l', s', w'⟩ | ⟨o, x, y, t, l', s', w'⟩ | ⟨x, ts, d, l', s', w'⟩ | ⟨m, as, l', s', w'⟩ | ⟨g, v, w'⟩
      · exact q_gs_iff.mpr ⟨(q_gs_iff.mp h).1, key1 _ _ _ (q_gs_iff.mp h).2⟩
      · exact key2 _ _ _ _ h
      · exact ⟨fun hc => key2 _ _ _ _ (h.1 hc), fun hc => key1 _ _ _ (h.2 hc)⟩
      · exact key2 _ _ _ _ (q_sws_spec h)
      · obtain ⟨v, w2, h1, h2⟩ := h
        exact ⟨v, w2, h1, key1 _ _ _ h2⟩
      · exact h
theorem q_walk (n : Nat) (S : List (Nat × List Nat)) {r : Option qV × qW} {mi k : Nat} {loc : qLo} {st : List qV} {w : qW} (h : q_wk r n S mi k ((q_code mi).drop k) loc st w) : q_Ev mi k loc st w r := q_wk_sound n S mi k _ loc st w rfl h
/-! worlds in the static phase -/
abbrev qD : Type := (Nat → Nat → Nat → Int) × (Nat → Nat → Nat → Int64)
def q_mk (d : qD) (b : Nat) : qW := (d.1, d.2, q_R b)
def q_sI (d : qD) (t i k : Nat) (v : Int) : qD := (fun t' i' k' => if t' = t ∧ i' = i ∧ k' = k then v else d.1 t' i' k', d.2)
def q_sL (d : qD) (t i k : Nat) (v : Int64) : qD := (d.1, fun t' i' k' => if t' = t ∧ i' = i ∧ k' = k then v else d.2 t' i' k')
