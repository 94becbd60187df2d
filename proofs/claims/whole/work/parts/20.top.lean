/-! the law's beginning is walked; from its loop on it is the small machine's, with its own names of the objects -/
def q_p1E : qE := match q_p1 with
  | some (_, _, _, E, _) => E
  | none => (fun _ => none, 0, 0)
def q_p1w : qW := match q_p1 with
  | some (_, _, _, _, w) => w
  | none => q_w00
theorem q_p1_facts : q_p1 = some (10, [some (.inr (.inr (1, 0))), some (.inr (.inr (0, q_perm (t_GC, 0)))), some (.inr (.inr (0, q_perm (t_Md, 0)))), some (.inl 0)], [], q_p1E, q_p1w) ∧ q_p1E.2.1 = 197 ∧ q_p1E.2.2 = 5573 ∧ ∀ r ∈ q_refs, q_p1E.1 (0, q_perm r) = q_env r ∧ q_p1r q_p1w r = true := by
  have h := q_p1_ok
  unfold q_p1ok at h
  unfold q_p1E q_p1w
  cases hq : q_p1 with
  | none => rw [hq] at h; cases h
  | some x =>
    obtain ⟨k, loc, st, E, w⟩ := x
    rw [hq] at h
    simp only [Bool.and_eq_true, decide_eq_true_eq] at h
    obtain ⟨rfl, rfl, rfl, h1, h2, h3⟩ := h
    refine ⟨rfl, h1, h2, fun r hr => ?_⟩
    have := List.all_eq_true.mp h3 r hr
    rw [Bool.and_eq_true, decide_eq_true_eq] at this
    exact this
theorem q_perm_lt {r : qR} (hr : r ∈ q_refs) : q_perm r < 197 ∧ q_permI[q_perm r]? = some r := by
  have := List.all_eq_true.mp q_perm_ok r hr
  rw [Bool.and_eq_true, decide_eq_true_eq, decide_eq_true_eq] at this
  exact this
theorem q_perm_inj {r r' : qR} (hr : r ∈ q_refs) (hr' : r' ∈ q_refs) (h : q_perm r = q_perm r') : r = r' := by
  have h1 := (q_perm_lt hr).2
  rw [h, (q_perm_lt hr').2] at h1
  exact (Option.some.inj h1).symm
/-- the world at the law's loop, for a script -/
def q_ws0 (xs : Nat → Int32) (L : Nat) : qW := (fun t i k => if t = 0 then 0 else if t = 1 then (if i = 0 then (if k < L then (xs k).toInt else 0) else if i = 1 ∧ k = 0 then (L : Int) else 0) else q_p1w.1 0 (q_perm (t, i)) k, fun t i k => if t = 0 then 0 else q_p1w.2.1 0 (q_perm (t, i)) k, q_R 0)
def q_refsok : Bool := q_refs.all (fun r => decide (2 ≤ r.1) && (decide (r.1 < 59) && (match q_env r with
  | some kn => decide ((kn.1 = 0 ∧ kn.2 < 12) ∨ ((kn.1 = 1 ∨ kn.1 = 2 ∨ kn.1 = 3 ∨ kn.1 = 4 ∨ kn.1 = 5 ∨ kn.1 = 6 ∨ kn.1 = 11 ∨ kn.1 = 15) ∧ kn.2 ≤ 1000)) && ((List.range (if 5 ≤ kn.1 then kn.2 else 28)).all (fun k => match q_R 0 r.1 r.2 k with
    | some r' => decide (r' ∈ q_refs)
    | none => true) && decide (kn.1 < 5 → r.1 ≠ t_shelves ∧ r.1 ≠ t_paths ∧ r.1 ≠ t_ring ∧ r.1 ≠ t_tab))
  | none => false)))
theorem q_refs_ok : q_refsok = true := by decide +kernel
theorem q_refs_nd : q_refs.Nodup := by decide +kernel
theorem q_R_hi : ∀ t, t < 59 → t ≠ t_shelves → t ≠ t_paths → t ≠ t_ring → t ≠ t_tab → ∀ i k, q_R 0 t i (k + 28) = none
  | 0, _, _, _, _, _, _, _ => rfl
  | 1, _, _, _, _, _, _, _ => rfl
  | 2, _, _, _, _, _, _, _ => rfl
  | 3, _, _, _, _, _, _, _ => rfl
  | 4, _, h1, h2, h3, h4, _, _ => by first | exact absurd rfl h1 | exact absurd rfl h2 | exact absurd rfl h3 | exact absurd rfl h4
  | 5, _, _, _, _, _, _, _ => rfl
  | 6, _, _, _, _, _, _, _ => rfl
  | 7, _, _, _, _, _, _, _ => rfl
  | 8, _, _, _, _, _, _, _ => rfl
  | 9, _, _, _, _, _, _, _ => rfl
  | 10, _, _, _, _, _, _, _ => rfl
  | 11, _, _, _, _, _, _, _ => rfl
  | 12, _, _, _, _, _, _, _ => rfl
  | 13, _, _, _, _, _, _, _ => rfl
  | 14, _, _, _, _, _, _, _ => rfl
  | 15, _, _, _, _, _, _, _ => rfl
  | 16, _, _, _, _, _, _, _ => rfl
  | 17, _, _, _, _, _, _, _ => rfl
  | 18, _, h1, h2, h3, h4, _, _ => by first | exact absurd rfl h1 | exact absurd rfl h2 | exact absurd rfl h3 | exact absurd rfl h4
  | 19, _, _, _, _, _, _, _ => rfl
  | 20, _, _, _, _, _, _, _ => rfl
  | 21, _, _, _, _, _, _, _ => rfl
  | 22, _, _, _, _, _, _, _ => rfl
  | 23, _, _, _, _, _, _, _ => rfl
  | 24, _, _, _, _, _, _, _ => rfl
  | 25, _, _, _, _, _, _, _ => rfl
  | 26, _, _, _, _, _, _, _ => rfl
  | 27, _, _, _, _, _, _, _ => rfl
  | 28, _, _, _, _, _, _, _ => rfl
  | 29, _, _, _, _, _, _, _ => rfl
  | 30, _, _, _, _, _, _, _ => rfl
  | 31, _, h1, h2, h3, h4, _, _ => by first | exact absurd rfl h1 | exact absurd rfl h2 | exact absurd rfl h3 | exact absurd rfl h4
  | 32, _, _, _, _, _, _, _ => rfl
  | 33, _, _, _, _, _, _, _ => rfl
  | 34, _, _, _, _, _, _, _ => rfl
  | 35, _, h1, h2, h3, h4, _, _ => by first | exact absurd rfl h1 | exact absurd rfl h2 | exact absurd rfl h3 | exact absurd rfl h4
  | 36, _, _, _, _, _, _, _ => rfl
  | 37, _, _, _, _, _, _, _ => rfl
  | 38, _, _, _, _, _, _, _ => rfl
  | 39, _, _, _, _, _, _, _ => rfl
  | 40, _, _, _, _, _, _, _ => rfl
  | 41, _, _, _, _, _, _, _ => rfl
  | 42, _, _, _, _, _, _, _ => rfl
  | 43, _, _, _, _, _, _, _ => rfl
  | 44, _, _, _, _, _, _, _ => rfl
  | 45, _, _, _, _, _, _, _ => rfl
  | 46, _, _, _, _, _, _, _ => rfl
  | 47, _, _, _, _, _, _, _ => rfl
  | 48, _, _, _, _, _, _, _ => rfl
  | 49, _, _, _, _, _, _, _ => rfl
  | 50, _, _, _, _, _, _, _ => rfl
  | 51, _, _, _, _, _, _, _ => rfl
  | 52, _, _, _, _, _, _, _ => rfl
  | 53, _, _, _, _, _, _, _ => rfl
  | 54, _, _, _, _, _, _, _ => rfl
  | 55, _, _, _, _, _, _, _ => rfl
  | 56, _, _, _, _, _, _, _ => rfl
  | 57, _, _, _, _, _, _, _ => rfl
  | 58, _, _, _, _, _, _, _ => rfl
  | n + 59, h, _, _, _, _, _, _ => absurd h (by omega)
theorem q_refs_at {r : qR} (hr : r ∈ q_refs) : 2 ≤ r.1 ∧ ∃ kn, q_env r = some kn ∧ q_kok kn ∧ ∀ k r', q_R 0 r.1 r.2 k = some r' → (5 ≤ kn.1 → k < kn.2) → r' ∈ q_refs := by
  have h := List.all_eq_true.mp q_refs_ok r hr
  simp only [Bool.and_eq_true, decide_eq_true_eq] at h
  obtain ⟨h1, h2, h3⟩ := h
  refine ⟨h1, ?_⟩
  cases he : q_env r with
  | none => rw [he] at h3; cases h3
  | some kn =>
    rw [he] at h3
    simp only [Bool.and_eq_true, decide_eq_true_eq] at h3
    obtain ⟨g1, g2, g3⟩ := h3
    refine ⟨kn, rfl, g1, fun k r' hk h5 => ?_⟩
    by_cases hb : 5 ≤ kn.1
    · have := List.all_eq_true.mp g2 k (List.mem_range.mpr (by rw [if_pos hb]; exact h5 hb))
      rw [hk] at this
      exact of_decide_eq_true this
    · by_cases hk28 : k < 28
      · have := List.all_eq_true.mp g2 k (List.mem_range.mpr (by rw [if_neg hb]; exact hk28))
        rw [hk] at this
        exact of_decide_eq_true this
      · obtain ⟨n1, n2, n3, n4⟩ := g3 (by omega)
        have := q_R_hi r.1 h2 n1 n2 n3 n4 r.2 (k - 28)
        rw [show k - 28 + 28 = k by omega, hk] at this
        cases this
theorem q_V_s {xs : Nat → Int32} {L : Nat} (hL : L ≤ 3072) (hc : ∀ t i k, q_can (q_p1w.1 t i k)) : q_V q_refs (q_env, 0, 0) (q_ws0 xs L) := by
  refine ⟨fun r hr => ?_, fun t i k => ?_, fun r hr kn he k r' hk h5 => ?_, fun j hj => ?_, fun j _ k => ⟨rfl, rfl, rfl⟩, fun kn he => ?_, fun i hi => ?_, fun j hj => absurd hj (Nat.not_lt_zero _)⟩
  · obtain ⟨-, kn, h1, h2, -⟩ := q_refs_at hr
    exact ⟨kn, h1, h2⟩
  · unfold q_ws0
    dsimp only
    split
    · exact q_can_0
    · split
      · split
        · split
          · exact q_can_i _
          · exact q_can_0
        · split
          · exact q_can_iff.mpr ⟨by omega, by omega⟩
          · exact q_can_0
      · exact hc _ _ _
  · obtain ⟨-, kn', h1, h2, h3⟩ := q_refs_at hr
    dsimp only at he
    rw [he] at h1
    cases h1
    exact h3 k r' hk h5
  · have := (q_refs_at hj).1
    dsimp only at this
    omega
  · have : q_env (1, 0) = some (99, 0) := rfl
    dsimp only at he
    rw [this] at he
    cases he
    rfl
  · have := (q_refs_at hi).1
    dsimp only at this
    omega
def q_ads (ad : qR → Nat) (b : Nat) (r : qR) : Nat := if r.1 = 1 then b else ad (0, q_perm r)
theorem q_cell_s {dA : Nat → ClassId} {xs : Nat → Int32} {L b : Nat} {ad : qR → Nat} {r : qR} (hr : r ∈ q_refs) : q_cell dA q_env (q_ws0 xs L) (q_ads ad b) r = q_cell dA q_p1E.1 q_p1w ad (0, q_perm r) := by
  obtain ⟨-, -, -, hf⟩ := q_p1_facts
  obtain ⟨f1, f2⟩ := hf r hr
  obtain ⟨h2, kn, he, hok, hcl⟩ := q_refs_at hr
  have hn0 : r.1 ≠ 0 := by omega
  have hn1 : r.1 ≠ 1 := by omega
  have e1 : ∀ j, (q_ws0 xs L).1 r.1 r.2 j = q_p1w.1 0 (q_perm r) j := fun j => by
    unfold q_ws0
    dsimp only
    rw [if_neg hn0, if_neg hn1]
  have e2 : ∀ j, (q_ws0 xs L).2.1 r.1 r.2 j = q_p1w.2.1 0 (q_perm r) j := fun j => by
    unfold q_ws0
    dsimp only
    rw [if_neg hn0]
  have e3 : (q_ws0 xs L).2.2 = q_R 0 := rfl
  have eR : ∀ (o : Option qR), (∀ x, o = some x → x ∈ q_refs) → o.map (q_ads ad b) = (o.map (fun x => (0, q_perm x))).map ad := fun o ho => by
    cases o with
    | none => rfl
    | some x =>
      have := (q_refs_at (ho x rfl)).1
      simp only [Option.map_some]
      unfold q_ads
      rw [if_neg (by omega)]
  obtain ⟨kk, n⟩ := kn
  unfold q_p1r at f2
  rw [he] at f2 f1
  unfold q_cell
  rw [f1, he]
  dsimp only
  by_cases h0 : kk = 0
  · subst h0
    rw [if_pos rfl, if_pos rfl]
    refine congrArg (fun z => (Sum.inr (n, z) : va_E)) ?_
    unfold q_flds
    refine List.map_congr_left fun x hx => ?_
    have hx2 : (q_ft n)[x.2]? = some x.1 := by
      have := List.mem_zipIdx_iff_getElem?.mp (show (x.1, x.2) ∈ (q_ft n).zipIdx from hx)
      exact this
    have hlt : x.2 < (q_ft n).length := (List.getElem?_eq_some_iff.mp hx2).1
    have f3 := List.all_eq_true.mp f2 x.2 (List.mem_range.mpr hlt)
    rw [Bool.and_eq_true, decide_eq_true_eq, decide_eq_true_eq] at f3
    unfold q_fv
    split
    · rw [e1]
    · rename_i hne
      have hx12 : x.1 = 2 := by
        have hci : n < 12 := by
          rcases hok with z | z
          · exact z.2
          · dsimp only at z; omega
        obtain ⟨⟨C, T, N⟩, hq⟩ : ∃ q, q_cls[n]? = some q := ⟨_, List.getElem?_eq_getElem (by show n < 12; exact hci)⟩
        exact q_ft_02 hq (by rw [← (q_cls_ok n C T N hq).1]; exact hlt) hx2 hne
      rw [e3, f3.1 (by rw [hx2, hx12]), eR _ (fun y hy => hcl x.2 y hy (fun z => by dsimp only at z; omega))]
  · rw [if_neg h0, if_neg h0]
    by_cases h3 : kk ≤ 3
    · rw [if_pos h3, if_pos h3]
      simp only [e1]
    · rw [if_neg h3, if_neg h3]
      by_cases h4 : kk = 4
      · rw [if_pos h4, if_pos h4]
        simp only [e2]
      · rw [if_neg h4, if_neg h4]
        refine congrArg (fun z => (Sum.inl (dA kk, n, Sum.inr (Sum.inr (Sum.inr (Sum.inr z)))) : va_E)) (funext fun j => ?_)
        by_cases hj : j < n
        · rw [if_pos hj, if_pos hj, e3, eR _ (fun y hy => hcl j y hy (fun _ => hj))]
          have f3 : (List.range n).all (fun b => decide (q_p1w.2.2 0 (q_perm r) b = (q_R 0 r.1 r.2 b).map (fun x => (0, q_perm x)))) = true := by
            split at f2
            · rename_i z; cases z; exact absurd rfl h0
            · rename_i k9 n9 z9 _ z; cases z; rw [if_pos (by omega)] at f2; exact f2
            · cases f2
          rw [of_decide_eq_true (List.all_eq_true.mp f3 j (List.mem_range.mpr hj))]
        · rw [if_neg hj, if_neg hj]
