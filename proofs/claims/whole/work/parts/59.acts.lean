/-! what acts make of a cell is a cell -/
theorem s_fst_some {h : Nat → Option Nat} {v : Nat} : ∀ (f i : Nat), s_fst h f i = some v → ∃ j, i ≤ j ∧ j < i + f ∧ h j = some v
  | 0, i, e => by cases e
  | f + 1, i, e => by
    rw [s_fst] at e
    cases hh : h i with
    | some y => rw [hh] at e; exact ⟨i, Nat.le_refl i, by omega, by rw [hh]; exact e⟩
    | none =>
      rw [hh] at e
      obtain ⟨j, h1, h2, h3⟩ := s_fst_some f (i + 1) e
      exact ⟨j, by omega, by omega, h3⟩
theorem s_mv_ok {n x v : Nat} {cl : Nat → Bool} (hn : n ≤ 8) (hx : x < 2 ^ n) (h : s_mv n cl x = some v) : v < 2 ^ n ∧ q_pc v = q_pc x := by
  have hp := s_p8 hn
  unfold s_mv at h
  obtain ⟨a, a1, a2, h⟩ := s_fst_some _ _ h
  obtain ⟨c, c1, c2, h⟩ := s_fst_some _ _ h
  split at h
  · rename_i hac
    rw [Bool.and_eq_true] at hac
    unfold s_mvc at h
    obtain ⟨y, y1, y2, h⟩ := s_fst_some _ _ h
    obtain ⟨z, z1, z2, h⟩ := s_fst_some _ _ h
    unfold s_mvd at h
    split at h
    · rename_i hk
      injection h with h
      subst h
      simp only [Bool.and_eq_true, Bool.or_eq_true, decide_eq_true_iff, Bool.not_eq_true'] at hk
      obtain ⟨k1, k2, k3, k4⟩ := hk
      have q1 : s_wo x a < 2 ^ n := s_wo_ltn hx
      have q2 : s_wo (s_wo x a) c < 2 ^ n := s_wo_ltn q1
      have q3 : s_with (s_wo (s_wo x a) c) y < 2 ^ n := s_with_ltn q2 (by omega) (by omega)
      refine ⟨s_with_ltn q3 (by omega) (by omega), ?_⟩
      have p1 := s_pc_wo (s := x) (l := a) (by omega) (by omega) (by omega) hac.1
      have hc2 : q_hl (s_wo x a) c = true := by rw [s_wo_hl (by omega) (by omega), hac.2, decide_eq_false (by omega)]; rfl
      have p2 := s_pc_wo (s := s_wo x a) (l := c) (by omega) (by omega) (by omega) hc2
      have hy2 : q_hl (s_wo (s_wo x a) c) y = false := by rw [s_wo_hl (by omega) (by omega), s_wo_hl (by omega) (by omega), k2]; rfl
      have p3 := s_pc_with (s := s_wo (s_wo x a) c) (l := y) (by omega) (by omega) (by omega) hy2
      have hz2 : q_hl (s_with (s_wo (s_wo x a) c) y) z = false := by rw [s_with_hl (by omega) (by omega), s_wo_hl (by omega) (by omega), s_wo_hl (by omega) (by omega), k3, decide_eq_false (show ¬ z = y by omega)]; rfl
      have p4 := s_pc_with (s := s_with (s_wo (s_wo x a) c) y) (l := z) (by omega) (by omega) (by omega) hz2
      omega
    · cases h
  · cases h
theorem s_mvx_of {n v : Nat} {K : Nat → Nat} {cl : Nat → Bool} {x : Int} (h : s_mvx n K cl x = some v) : ∃ s : Nat, x = (s : Int) ∧ s < 256 ∧ cl s = true ∧ s_mv n cl s = some v := by
  unfold s_mvx at h
  split at h
  · rename_i hh
    rw [Bool.and_eq_true] at hh
    have h1 := hh.1
    unfold s_in at h1
    rw [Bool.and_eq_true, decide_eq_true_iff] at h1
    exact ⟨x.toNat, by omega, by omega, h1.2, h⟩
  · cases h
/-- a map of labels that is one to one carries cells to cells -/
theorem s_ok_of {n : Nat} {F G : Nat → Nat} {u r : Nat → Nat} (h : s_ok n F) (hB : ∀ m, 1 ≤ m → m ≤ n → m ≤ G m ∧ G m ≤ m + n) (hu : ∀ m, 1 ≤ m → m ≤ n → 1 ≤ u m ∧ u m ≤ n ∧ s_tg n (G m) = r (s_tg n (F (u m)))) (hr : ∀ s t, 1 ≤ s → s ≤ n → 1 ≤ t → t ≤ n → r s = r t → s = t) (hi : ∀ p q, 1 ≤ p → p < q → q ≤ n → u p ≠ u q) : s_ok n G := by
  refine ⟨h.1, h.2.1, hB, fun p q h1 h2 h3 he => ?_⟩
  have hb := s_ok_bd h
  obtain ⟨p1, p2, p3⟩ := hu p h1 (by omega)
  obtain ⟨q1, q2, q3⟩ := hu q (by omega) h3
  have tp := s_tg_le hb p1 p2
  have tq := s_tg_le hb q1 q2
  have := hr _ _ tp.1 tp.2 tq.1 tq.2 (by rw [← p3, ← q3, he])
  have xp := s_src_at h n (u p) p1 p2 (Nat.le_refl n)
  have xq := s_src_at h n (u q) q1 q2 (Nat.le_refl n)
  rw [this] at xp
  exact hi p q h1 h2 h3 (xp.symm.trans xq)
theorem s_swF_ok {n i j : Nat} {F : Nat → Nat} (h : s_ok n F) (hi : 1 ≤ i) (hin : i ≤ n) (hij : i < j) (hji : j < i + n) (hs : s_swOk n F i j = true) : s_ok n (s_swF n F i j) := by
  unfold s_swOk at hs
  rw [decide_eq_true_iff] at hs
  obtain ⟨s1, s2, s3, s4⟩ := hs
  have key : ∀ l be : Nat, l + be = j → 1 ≤ l → l ≤ n → l ≠ i → (be = 0 ∨ be = n) → s_at F n j = F l + be → (if n < j then j - n else j) = l → (if n < j then n else 0) = be → s_ok n (s_swF n F i j) := by
    intro l be h1 h2 h3 h4 h5 h6 h7 h8
    have bi := h.2.2.1 i hi hin
    have bl := h.2.2.1 l h2 h3
    rw [h6] at s1 s2
    refine s_ok_of (u := fun m => if m = l then i else if m = i then l else m) (r := fun t => t) h ?_ ?_ (fun s t _ _ _ _ e => e) ?_
    · intro m m1 m2
      have bm := h.2.2.1 m m1 m2
      unfold s_swF
      rw [h7, h8, h6]
      split
      · omega
      · split <;> omega
    · intro m m1 m2
      have bm := h.2.2.1 m m1 m2
      unfold s_swF
      rw [h7, h8, h6]
      split
      · refine ⟨hi, hin, ?_⟩
        unfold s_tg
        rcases h5 with h5 | h5
        · subst h5; rfl
        · subst h5; split <;> split <;> omega
      · split
        · refine ⟨h2, h3, ?_⟩
          unfold s_tg
          rcases h5 with h5 | h5
          · subst h5; rfl
          · subst h5
            split <;> split <;> omega
        · exact ⟨m1, m2, rfl⟩
    · intro p q h1 h2 h3
      (repeat' split) <;> omega
  have hn := h.1
  by_cases hj : n < j
  · exact key (j - n) n (by omega) (by omega) (by omega) (by omega) (Or.inr rfl) (by unfold s_at; rw [if_pos hj]) (if_pos hj) (if_pos hj)
  · exact key j 0 (by omega) (by omega) (by omega) (by omega) (Or.inl rfl) (by unfold s_at; rw [if_neg hj]; rfl) (if_neg hj) (if_neg hj)
theorem s_nxJ_mem {g : Nat → Nat → Bool} {i : Nat} {p : Nat × Nat} : ∀ f j, p ∈ s_nxJ g i f j → p.1 = i ∧ j ≤ p.2 ∧ p.2 < j + f ∧ g p.1 p.2 = true
  | 0, j, h => by cases h
  | f + 1, j, h => by
    have tail : p ∈ s_nxJ g i f (j + 1) → p.1 = i ∧ j ≤ p.2 ∧ p.2 < j + (f + 1) ∧ g p.1 p.2 = true := fun hh => by
      obtain ⟨h1, h2, h3, h4⟩ := s_nxJ_mem f (j + 1) hh
      exact ⟨h1, by omega, by omega, h4⟩
    rw [s_nxJ] at h
    split at h
    · rename_i hg
      rcases List.mem_cons.mp h with h | h
      · subst h; exact ⟨rfl, Nat.le_refl j, by show j < j + (f + 1); omega, hg⟩
      · exact tail h
    · exact tail h
theorem s_nxI_mem {g : Nat → Nat → Bool} {n : Nat} {p : Nat × Nat} : ∀ f i, p ∈ s_nxI g n f i → i ≤ p.1 ∧ p.1 < i + f ∧ p.1 < p.2 ∧ p.2 < p.1 + 1 + (n - 1) ∧ g p.1 p.2 = true
  | 0, i, h => by cases h
  | f + 1, i, h => by
    rw [s_nxI, List.mem_append] at h
    rcases h with h | h
    · obtain ⟨h1, h2, h3, h4⟩ := s_nxJ_mem _ _ h
      rw [h1] at h4 ⊢
      exact ⟨Nat.le_refl i, by omega, by omega, by omega, h4⟩
    · obtain ⟨h1, h2, h3, h4, h5⟩ := s_nxI_mem f (i + 1) h
      exact ⟨by omega, by omega, h3, h4, h5⟩
theorem s_nxF_ok {n k : Nat} {F : Nat → Nat} {more : Int} (h : s_ok n F) (hk : k < (s_nx n F more).length) : s_ok n (s_nxF n F (s_nx n F more) k) := by
  have hm : (s_nx n F more).getD k (0, 0) ∈ s_nx n F more := by
    rw [List.getD_eq_getElem?_getD, List.getElem?_eq_getElem hk]
    exact List.getElem_mem hk
  unfold s_nxF
  generalize (s_nx n F more).getD k (0, 0) = p at hm
  unfold s_nx at hm
  obtain ⟨h1, h2, h3, h4, h5⟩ := s_nxI_mem _ _ hm
  unfold s_good at h5
  rw [Bool.and_eq_true] at h5
  have := h.1
  exact s_swF_ok h h1 (by omega) h3 (by omega) h5.1
/-- turned, mirrored, complemented -/
def s_turnF (n : Nat) (F : Nat → Nat) (m : Nat) : Nat := if m = 1 then F n + 1 - n else F (m - 1) + 1
def s_mirF (n : Nat) (F : Nat → Nat) (m : Nat) : Nat := if n < F (s_src n F n (n + 1 - m)) then n + 1 + n - s_src n F n (n + 1 - m) else n + 1 - s_src n F n (n + 1 - m)
def s_comF (n : Nat) (F : Nat → Nat) (m : Nat) : Nat := if n < F (s_src n F n m) then s_src n F n m else s_src n F n m + n
theorem s_turn_ok {n : Nat} {F : Nat → Nat} (h : s_ok n F) : s_ok n (s_turnF n F) := by
  have h0 := h.1
  have bn := h.2.2.1 n (by omega) (by omega)
  refine s_ok_of (u := fun m => if m = 1 then n else m - 1) (r := fun t => if t = n then 1 else t + 1) h ?_ ?_ ?_ ?_
  · intro m m1 m2
    unfold s_turnF
    split
    · omega
    · have := h.2.2.1 (m - 1) (by omega) (by omega)
      omega
  · intro m m1 m2
    unfold s_turnF
    split
    · refine ⟨by omega, by omega, ?_⟩
      unfold s_tg
      by_cases hq : n < F n
      · rw [if_pos hq]
        by_cases hq2 : n < F n + 1 - n
        · rw [if_pos hq2, if_pos (by omega)]; omega
        · rw [if_neg hq2, if_neg (by omega)]; omega
      · rw [if_neg hq, if_neg (show ¬ n < F n + 1 - n by omega), if_pos (by omega)]; omega
    · have := h.2.2.1 (m - 1) (by omega) (by omega)
      refine ⟨by omega, by omega, ?_⟩
      unfold s_tg
      by_cases hq : n < F (m - 1)
      · rw [if_pos hq, if_pos (by omega), if_neg (by omega)]; omega
      · rw [if_neg hq]
        by_cases hq2 : n < F (m - 1) + 1
        · rw [if_pos hq2, if_pos (by omega)]; omega
        · rw [if_neg hq2, if_neg (by omega)]
  · intro s t s1 s2 t1 t2 e
    split at e <;> split at e <;> omega
  · intro p q p1 p2 p3
    split <;> split <;> omega
theorem s_src_inj {n v w : Nat} {F : Nat → Nat} (h : s_ok n F) (h1 : 1 ≤ v) (h2 : v ≤ n) (h3 : 1 ≤ w) (h4 : w ≤ n) (he : s_src n F n v = s_src n F n w) : v = w := by
  have a := (s_src_of h h1 h2).2.2
  have c := (s_src_of h h3 h4).2.2
  rw [he, c] at a
  exact a.symm
theorem s_ok_by {n : Nat} {G y : Nat → Nat} (h0 : 2 ≤ n) (h8 : n ≤ 8) (hB : ∀ m, 1 ≤ m → m ≤ n → m ≤ G m ∧ G m ≤ m + n) (hu : ∀ m, 1 ≤ m → m ≤ n → s_tg n (G m) = y m) (hi : ∀ p q, 1 ≤ p → p < q → q ≤ n → y p ≠ y q) : s_ok n G :=
  ⟨h0, h8, hB, fun p q h1 h2 h3 he => hi p q h1 h2 h3 (by rw [← hu p h1 (by omega), ← hu q (by omega) h3, he])⟩
theorem s_mir_ok {n : Nat} {F : Nat → Nat} (h : s_ok n F) : s_ok n (s_mirF n F) := by
  refine s_ok_by (y := fun m => n + 1 - s_src n F n (n + 1 - m)) h.1 h.2.1 ?_ ?_ ?_
  · intro m m1 m2
    have a := s_src_of h (w := n + 1 - m) (by omega) (by omega)
    have c := s_src_bd h (w := n + 1 - m) (by omega) (by omega)
    unfold s_mirF
    split <;> omega
  · intro m m1 m2
    have a := s_src_of h (w := n + 1 - m) (by omega) (by omega)
    have c := s_src_bd h (w := n + 1 - m) (by omega) (by omega)
    unfold s_mirF s_tg
    split
    · rw [if_pos (by omega)]; omega
    · rw [if_neg (by omega)]
  · intro p q p1 p2 p3 he
    have a := s_src_of h (w := n + 1 - p) (by omega) (by omega)
    have c := s_src_of h (w := n + 1 - q) (by omega) (by omega)
    have := s_src_inj h (v := n + 1 - p) (w := n + 1 - q) (by omega) (by omega) (by omega) (by omega) (by omega)
    omega
theorem s_com_ok {n : Nat} {F : Nat → Nat} (h : s_ok n F) : s_ok n (s_comF n F) := by
  refine s_ok_by (y := fun m => s_src n F n m) h.1 h.2.1 ?_ ?_ ?_
  · intro m m1 m2
    have a := s_src_of h m1 m2
    have c := s_src_bd h m1 m2
    unfold s_comF
    split <;> omega
  · intro m m1 m2
    have a := s_src_of h m1 m2
    unfold s_comF s_tg
    split
    · rw [if_neg (by omega)]
    · rw [if_pos (by omega)]; omega
  · intro p q p1 p2 p3 he
    have := s_src_inj h p1 (by omega) (by omega) p3 he
    omega
theorem s_org_src {n l : Nat} {F : Nat → Nat} (h : s_ok n F) (h1 : 1 ≤ l) (h2 : l ≤ n) : ∀ f i, i + f = n + 1 → 1 ≤ i → i ≤ s_src n F n l → s_org n F l f i = if n < F (s_src n F n l) then (s_src n F n l : Int) - (n : Int) else (s_src n F n l : Int)
  | 0, i, hf, hi, hx => by
    have := s_src_of h h1 h2
    omega
  | f + 1, i, hf, hi, hx => by
    have a := s_src_of h h1 h2
    have c := s_src_bd h h1 h2
    have bi := h.2.2.1 i hi (by omega)
    have xi := s_src_at h n i hi (by omega) (Nat.le_refl n)
    rw [s_org]
    by_cases hq : i = s_src n F n l
    · rw [← hq] at c ⊢
      by_cases hn : n < F i
      · rw [if_pos hn, if_neg (by omega), if_pos (by omega)]
      · rw [if_neg hn, if_pos (by omega)]
    · have ne : s_tg n (F i) ≠ l := fun hh => by rw [hh] at xi; exact hq xi.symm
      unfold s_tg at ne
      split at ne
      · rw [if_neg (by omega), if_neg (by omega)]
        exact s_org_src h h1 h2 f (i + 1) (by omega) (by omega) (by omega)
      · rw [if_neg (by omega), if_neg (by omega)]
        exact s_org_src h h1 h2 f (i + 1) (by omega) (by omega) (by omega)
