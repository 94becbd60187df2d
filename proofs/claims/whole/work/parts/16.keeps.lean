/-! what a run keeps: the counts grow, the script stays -/
def q_e1 (E : qR → Option (Nat × Nat)) : Prop := ∀ i kn, E (1, i) = some kn → kn.1 = 99
def q_scr (w w2 : qW) : Prop := ∀ i k, w2.1 1 i k = w.1 1 i k
theorem q_scr_rfl (w : qW) : q_scr w w := fun _ _ => rfl
theorem q_scr_set {w : qW} {t i j : Nat} {x : Int} (h : t ≠ 1) : q_scr w (q_setI w t i j x) := fun i' k => by
  unfold q_setI
  dsimp only
  rw [if_neg (fun z => h z.1.symm)]
/-- the world that a step leaves -/
def q_actW (act : qA) (P : qW → Prop) : Prop := match act with
  | none => True
  | some (.inl (_, _, _, w')) => P w'
  | some (.inr (.inl (_, _, _, w'))) => P w'
  | some (.inr (.inr (.inl (_, _, _, _, _, _, w')))) => P w'
  | some (.inr (.inr (.inr (.inl (_, _, _, _, _, w'))))) => P w'
  | some (.inr (.inr (.inr (.inr (.inl (_, _, _, _, w')))))) => P w'
  | some (.inr (.inr (.inr (.inr (.inr (_, _, w')))))) => P w'
theorem q_put_scr {a b c : Nat} {loc : qLo} {st : List qV} {env : qR → Option (Nat × Nat)} {w : qW} (he : q_e1 env) : q_actW (q_put a b c loc st env w) (q_scr w) := by
  unfold q_put
  split
  · rename_i v t i s
    split
    · rename_i c' h0
      have ht : t ≠ 1 := fun z => by subst z; exact absurd (he i _ h0) (by simp)
      split
      · split
        · exact q_scr_set ht
        · split
          · split
            · exact q_scr_rfl w
            · trivial
          · trivial
        · trivial
      · trivial
    · trivial
  · trivial
theorem q_ast_scr {k : Nat} {loc : qLo} {st : List qV} {env : qR → Option (Nat × Nat)} {w : qW} (hk : k < 3) (he : q_e1 env) : q_actW (q_ast k loc st env w) (q_scr w) := by
  unfold q_ast
  split
  · rename_i x j t i s
    split
    · rename_i k' n h0
      split
      · rename_i hb
        have ht : t ≠ 1 := fun z => by
          subst z
          have h9 : k' = 99 := he i _ h0
          subst h9
          simp only [Bool.or_eq_true, Nat.beq_eq, Bool.and_eq_true] at hb
          omega
        exact q_scr_set ht
      · trivial
    · trivial
  · trivial
theorem q_step_scr {mi : Nat} {op : qI} {loc : qLo} {st : List qV} {env : qR → Option (Nat × Nat)} {w : qW} (he : q_e1 env) : q_actW (q_step mi op loc st env w) (q_scr w) := by
  obtain ⟨i, a, b, c, z, ts⟩ := op
  cases i
  case putfield => exact q_put_scr he
  case iastore => exact q_ast_scr (by decide) he
  case bastore => exact q_ast_scr (by decide) he
  all_goals first | trivial | exact q_scr_rfl w | skip
  all_goals dsimp only [q_step]
  all_goals first | (unfold q_ld; split <;> (try split) <;> first | trivial | exact q_scr_rfl w) | (unfold q_st1; split <;> (try split) <;> first | trivial | exact q_scr_rfl w) | (unfold q_st2; split <;> (try split) <;> first | trivial | exact q_scr_rfl w) | (unfold q_inc; split <;> first | trivial | exact q_scr_rfl w) | (unfold q_bin; split <;> first | trivial | exact q_scr_rfl w) | (unfold q_dv; split <;> first | trivial | exact q_scr_rfl w) | (unfold q_binL; split <;> first | trivial | exact q_scr_rfl w) | (unfold q_un; split <;> first | trivial | exact q_scr_rfl w) | (unfold q_unL; split <;> first | trivial | exact q_scr_rfl w) | (unfold q_if1; split <;> first | trivial | exact q_scr_rfl w) | (unfold q_if2; split <;> first | trivial | exact q_scr_rfl w) | (unfold q_swi; split <;> first | trivial | exact q_scr_rfl w) | (unfold q_dup; split <;> (try split) <;> first | trivial | exact q_scr_rfl w) | (unfold q_dup2; split <;> (try split) <;> first | trivial | exact q_scr_rfl w) | (unfold q_pop; split <;> (try split) <;> first | trivial | exact q_scr_rfl w) | (unfold q_get; repeat' split) | (unfold q_ald; repeat' split) | (unfold q_lld; repeat' split) | (unfold q_lst; repeat' split) | (unfold q_rld; repeat' split) | (unfold q_rst; repeat' split) | (unfold q_len; repeat' split) | (unfold q_inv; repeat' split) | (unfold q_ret; repeat' split) | (unfold q_retL; repeat' split) | (unfold q_retR; repeat' split) | (repeat' split)
  all_goals first | trivial | exact q_scr_rfl w | exact (fun _ _ => rfl)
theorem q_new_scr {op : qI} {st s' : List qV} {E E1 : qE} {w w1 : qW} (h : q_new op st E w = some (s', E1, w1)) (he : q_e1 E.1) : q_scr w w1 ∧ q_e1 E1.1 ∧ E1.1 (1, 0) = E.1 (1, 0) ∧ E.2.1 ≤ E1.2.1 ∧ E.2.2 ≤ E1.2.2 := by
  have hk0 : ∀ j k, q_kset E.1 (0, j) k (1, 0) = E.1 (1, 0) := fun j k => by
    unfold q_kset
    rw [if_neg (by simp)]
  obtain ⟨i, a, b, c, z, ts⟩ := op
  have hk : ∀ j k, q_e1 (q_kset E.1 (0, j) k) := fun j k i kn hh => by
    unfold q_kset at hh
    rw [if_neg (by simp)] at hh
    exact he i kn hh
  cases i
  case new =>
    simp only [q_new, Option.some.injEq, Prod.mk.injEq] at h
    obtain ⟨-, rfl, rfl⟩ := h
    exact ⟨q_scr_rfl w, hk E.2.1 (0, a), hk0 E.2.1 (0, a), by dsimp only; omega, by dsimp only; omega⟩
  case newarray =>
    dsimp only [q_new] at h
    split at h
    · split at h
      · cases h
        rename_i n r hg
        exact ⟨q_scr_rfl w, hk E.2.1 (a, n.toNat), hk0 E.2.1 (a, n.toNat), by dsimp only; omega, by dsimp only; omega⟩
      · cases h
    · cases h
  case anewarray =>
    dsimp only [q_new] at h
    split at h
    · split at h
      · cases h
        rename_i n r hg
        exact ⟨q_scr_rfl w, hk E.2.1 (5 + a, n.toNat), hk0 E.2.1 (5 + a, n.toNat), by dsimp only; omega, by dsimp only; omega⟩
      · cases h
    · cases h
  case multianewarray =>
    dsimp only [q_new] at h
    split at h
    · split at h
      · cases h
        refine ⟨fun _ _ => rfl, fun i kn hh => ?_, ?_, by dsimp only; omega, by dsimp only; omega⟩
        · dsimp only at hh
          unfold q_rows at hh
          rw [if_neg (by simp)] at hh
          exact hk _ _ i kn hh
        · dsimp only
          unfold q_rows
          rw [if_neg (by simp)]
          exact hk0 _ _
      · cases h
    · cases h
  all_goals cases h
theorem q_run_keeps : ∀ (n mi : Nat) (is : List qI) (loc : qLo) (st : List qV) (E : qE) (w : qW) (ov : Option qV) (E1 : qE) (w1 : qW), q_run n mi is loc st E w = some (ov, E1, w1) → q_e1 E.1 → q_scr w w1 ∧ q_e1 E1.1 ∧ E1.1 (1, 0) = E.1 (1, 0) ∧ E.2.1 ≤ E1.2.1 ∧ E.2.2 ≤ E1.2.2
  | 0, _, _, _, _, _, _, _, _, _, h, _ => by cases h
  | _ + 1, _, [], _, _, _, _, _, _, _, h, _ => by cases h
  | n + 1, mi, op :: is, loc, st, E, w, ov, E1, w1, h, he => by
    rw [q_run_succ] at h
    cases hn : q_new op st E w with
    | some x =>
      obtain ⟨s', E2, w2⟩ := x
      rw [hn] at h
      obtain ⟨a1, a2, a5, a3, a4⟩ := q_new_scr hn he
      obtain ⟨b1, b2, b5, b3, b4⟩ := q_run_keeps n _ _ _ _ _ _ _ _ _ h a2
      exact ⟨fun i k => (b1 i k).trans (a1 i k), b2, b5.trans a5, by omega, by omega⟩
    | none =>
      rw [hn] at h
      dsimp only at h
      have hs := q_step_scr (mi := mi) (op := op) (loc := loc) (st := st) (w := w) he
      cases hq : q_step mi op loc st E.1 w with
      | none => rw [hq] at h; cases h
      | some act =>
        rw [hq] at h hs
        rcases act with ⟨g, l', s', w'⟩ | ⟨t, l', s', w'⟩ | ⟨o, x, y, t, l', s', w'⟩ | ⟨x, ts, d, l', s', w'⟩ | ⟨m, as, l', s', w'⟩ | ⟨g, v, w'⟩
        · dsimp only at h
          split at h
          · obtain ⟨b1, b2, b5, b3, b4⟩ := q_run_keeps n _ _ _ _ _ _ _ _ _ h he
            exact ⟨fun i k => (b1 i k).trans (hs i k), b2, b5, b3, b4⟩
          · cases h
        · obtain ⟨b1, b2, b5, b3, b4⟩ := q_run_keeps n _ _ _ _ _ _ _ _ _ h he
          exact ⟨fun i k => (b1 i k).trans (hs i k), b2, b5, b3, b4⟩
        · dsimp only at h
          split at h
          · obtain ⟨b1, b2, b5, b3, b4⟩ := q_run_keeps n _ _ _ _ _ _ _ _ _ h he
            exact ⟨fun i k => (b1 i k).trans (hs i k), b2, b5, b3, b4⟩
          · obtain ⟨b1, b2, b5, b3, b4⟩ := q_run_keeps n _ _ _ _ _ _ _ _ _ h he
            exact ⟨fun i k => (b1 i k).trans (hs i k), b2, b5, b3, b4⟩
        · obtain ⟨b1, b2, b5, b3, b4⟩ := q_run_keeps n _ _ _ _ _ _ _ _ _ h he
          exact ⟨fun i k => (b1 i k).trans (hs i k), b2, b5, b3, b4⟩
        · dsimp only at h
          split at h
          · cases h
          · rename_i v E3 w3 hc
            obtain ⟨c1, c2, c5, c3, c4⟩ := q_run_keeps n _ _ _ _ _ _ _ _ _ hc he
            obtain ⟨b1, b2, b5, b3, b4⟩ := q_run_keeps n _ _ _ _ _ _ _ _ _ h c2
            exact ⟨fun i k => (b1 i k).trans ((c1 i k).trans (hs i k)), b2, b5.trans c5, by omega, by omega⟩
        · dsimp only at h
          split at h
          · cases h
            exact ⟨hs, he, rfl, Nat.le_refl _, Nat.le_refl _⟩
          · cases h
