/-! the class's neighbours -/
def s_swOk (n : Nat) (F : Nat → Nat) (i j : Nat) : Bool := decide (i ≤ s_at F n j ∧ s_at F n j ≤ i + n ∧ j ≤ F i ∧ F i ≤ j + n)
def s_swF (n : Nat) (F : Nat → Nat) (i j : Nat) : Nat → Nat := fun m => if m = (if n < j then j - n else j) then F i - (if n < j then n else 0) else if m = i then s_at F n j else F m
theorem s_swF_le {n i j : Nat} {F : Nat → Nat} (hb : s_bd n F) (hi : 1 ≤ i) (hin : i ≤ n) (hij : i < j) (hji : j < i + n) : ∀ m, 1 ≤ m → m ≤ n → s_swF n F i j m ≤ 1000 := by
  intro m h1 h2
  have hn := hb.1
  have b1 := hb.2 i hi hin
  have b2 := hb.2 m h1 h2
  unfold s_swF s_at
  by_cases hj : n < j
  · have b3 := hb.2 (j - n) (by omega) (by omega)
    simp only [if_pos hj]
    split
    · omega
    · split <;> omega
  · have b3 := hb.2 j (by omega) (by omega)
    simp only [if_neg hj]
    split
    · omega
    · split <;> omega
theorem c_Ne_swapCopy {n i l : Nat} {F : Nat → Nat} {A C : Int} (hn : n ≤ 8) (hi : 1 ≤ i) (hin : i ≤ n) (hl : 1 ≤ l) (hln : l ≤ n) {b : Nat} : ∀ (f m : Nat) (d : qD), m + f = n → d.1 t_Ce 0 0 = (n : Int) → s_row (d.1 t_img 0) n F → (∀ k, 1 ≤ k → k ≤ m → d.1 t_neImg 0 k = (F k : Int)) → ∃ d', q_Ev m_Ne_swap 49 [q_r t_Ne 0, q_r t_Ce 0, q_i (i : Int), none, none, q_i (l : Int), q_i A, q_i C, q_i ((m + 1 : Nat) : Int)] [] (q_mk d b) (q_i 1, q_mk d' b) ∧ q_ag [t_neImg] d d' ∧ ∀ k, 1 ≤ k → k ≤ n → d'.1 t_neImg 0 k = if k = l then C else if k = i then A else (F k : Int)
  | 0, m, d, h, e0, eF, eI => by
    refine ⟨q_sI (q_sI d t_neImg 0 i A) t_neImg 0 l C, e_Ne_swap_49 ⟨fun _ => ⟨by omega, by omega, by omega, by omega, by decide, by decide, rfl⟩, fun h2 => ?_⟩, q_ag_tr (q_ag_sI (by decide)) (q_ag_sI (by decide)), fun k h1 h2 => ?_⟩
    · rw [e0] at h2; omega
    · rw [q_sI_at, q_sI_at]
      by_cases hk : k = l
      · subst hk; rw [q_up_at, if_pos rfl]
      · rw [q_up_ne _ _ hk, if_neg hk]
        by_cases hk2 : k = i
        · subst hk2; rw [q_up_at, if_pos rfl]
        · rw [q_up_ne _ _ hk2, if_neg hk2]; exact eI k h1 (by omega)
  | f + 1, m, d, h, e0, eF, eI => by
    obtain ⟨d', v, a, r⟩ := c_Ne_swapCopy (A := A) (C := C) hn hi hin hl hln (b := b) f (m + 1) (q_sI d t_neImg 0 (m + 1) (F (m + 1) : Int)) (by omega) (by rw [q_sI_ne _ _ (by decide), e0]) (by rw [q_sI_ne _ _ (by decide)]; exact eF) (by
      intro k h1 h2
      rw [q_sI_at]
      by_cases hq : k = m + 1
      · subst hq; rw [q_up_at]
      · rw [q_up_ne _ _ hq]; exact eI k h1 (by omega))
    refine ⟨d', e_Ne_swap_49 ⟨fun h2 => ?_, fun _ => ⟨by omega, by omega, by omega, by omega, ?_⟩⟩, q_ag_tr (q_ag_sI (by decide)) a, r⟩
    · rw [e0] at h2; omega
    · rw [q_wS (by omega), Int.toNat_natCast, eF (m + 1) (by omega) (by omega)]; exact v
theorem c_Ne_swap {n i j : Nat} {F : Nat → Nat} (hb : s_bd n F) (hi : 1 ≤ i) (hin : i ≤ n) (hij : i < j) (hji : j < i + n) {d : qD} {b : Nat} (e0 : d.1 t_Ce 0 0 = (n : Int)) (eF : s_row (d.1 t_img 0) n F) : ∃ d', q_Ev m_Ne_swap 0 [q_r t_Ne 0, q_r t_Ce 0, q_i (i : Int), q_i (j : Int), none, none, none, none, none] [] (q_mk d b) (q_i (q_b2i (s_swOk n F i j)), q_mk d' b) ∧ q_ag [t_neImg] d d' ∧ (s_swOk n F i j = true → s_row (d'.1 t_neImg 0) n (s_swF n F i j)) := by
  have hn := hb.1
  have b1 := hb.2 i hi hin
  have key : ∀ be l : Nat, l + be = j → 1 ≤ l → l ≤ n → l ≠ i → be ≤ 8 → s_at F n j = F l + be → ((if n < j then j - n else j) = l) → ((if n < j then n else 0) = be) → ∃ d', q_Ev m_Ne_swap 8 [q_r t_Ne 0, q_r t_Ce 0, q_i (i : Int), q_i (j : Int), none, none, none, none, none] [.inl (be : Int)] (q_mk d b) (q_i (q_b2i (s_swOk n F i j)), q_mk d' b) ∧ q_ag [t_neImg] d d' ∧ (s_swOk n F i j = true → s_row (d'.1 t_neImg 0) n (s_swF n F i j)) := by
    intro be l hlj hl hln hli hbe hat hlab hbey
    have b2 := hb.2 l hl hln
    have ew : q_w ((j : Int) - (be : Int)) = (l : Int) := by rw [q_w_id (by omega) (by omega)]; omega
    have eA : q_w ((F l : Int) + (be : Int)) = ((F l + be : Nat) : Int) := by rw [q_w_id (by omega) (by omega)]; omega
    have eC : q_w ((F i : Int) - (be : Int)) = (F i : Int) - (be : Int) := q_w_id (by omega) (by omega)
    have eI : q_w ((i : Int) + (n : Int)) = ((i + n : Nat) : Int) := by rw [q_w_id (by omega) (by omega)]; omega
    have eJ : q_w ((l : Int) + (n : Int)) = ((l + n : Nat) : Int) := by rw [q_w_id (by omega) (by omega)]; omega
    have st : ∀ d' r, q_Ev m_Ne_swap 27 [q_r t_Ne 0, q_r t_Ce 0, q_i (i : Int), none, none, q_i (l : Int), q_i ((F l + be : Nat) : Int), q_i ((F i : Int) - (be : Int)), none] [] (q_mk d b) (r, q_mk d' b) → q_Ev m_Ne_swap 8 [q_r t_Ne 0, q_r t_Ce 0, q_i (i : Int), q_i (j : Int), none, none, none, none, none] [.inl (be : Int)] (q_mk d b) (r, q_mk d' b) := by
      intro d' r h
      refine e_Ne_swap_8 ?_
      rw [ew, Int.toNat_natCast, eF l hl hln, eA]
      refine ⟨by omega, by omega, e_Ne_swap_20 ⟨by omega, by omega, ?_⟩⟩
      rw [Int.toNat_natCast, eF i hi hin, eC]
      exact h
    by_cases hok : s_swOk n F i j = true
    · have h := hok
      unfold s_swOk at h
      rw [decide_eq_true_iff, hat] at h
      obtain ⟨d', v, a, r⟩ := c_Ne_swapCopy (i := i) (l := l) (A := ((F l + be : Nat) : Int)) (C := (F i : Int) - (be : Int)) hn hi hin hl hln (b := b) n 0 d (by omega) e0 eF (fun k h1 h2 => by omega)
      rw [hok]
      refine ⟨d', st _ _ (e_Ne_swap_27 ?_), a, fun _ k h1 h2 => ?_⟩
      · rw [e0, eI]
        refine ⟨fun h3 => by omega, fun _ => ⟨fun h3 => by omega, fun _ => e_Ne_swap_36 ?_⟩⟩
        rw [e0, eJ]
        exact ⟨fun h3 => by omega, fun _ => ⟨fun _ => v, fun h3 => by omega⟩⟩
      · rw [r k h1 h2]
        unfold s_swF
        rw [hlab, hbey, hat]
        by_cases hk : k = l
        · rw [if_pos hk, if_pos hk]; omega
        · rw [if_neg hk, if_neg hk]
          by_cases hk2 : k = i
          · rw [if_pos hk2, if_pos hk2]
          · rw [if_neg hk2, if_neg hk2]
    · have h := hok
      unfold s_swOk at h
      rw [decide_eq_true_iff, hat] at h
      have hf : s_swOk n F i j = false := by simpa using hok
      have no : q_Ev m_Ne_swap 45 [none, none, none, none, none, none, none, none, none] [] (q_mk d b) (q_i (q_b2i (s_swOk n F i j)), q_mk d b) := by
        rw [hf]; exact e_Ne_swap_45 ⟨by decide, by decide, rfl⟩
      refine ⟨d, st _ _ (e_Ne_swap_27 ?_), q_ag_refl _ _, fun h3 => absurd h3 hok⟩
      rw [e0, eI]
      refine ⟨fun _ => no, fun h3 => ⟨fun _ => no, fun h4 => e_Ne_swap_36 ?_⟩⟩
      rw [e0, eJ]
      exact ⟨fun _ => no, fun h5 => ⟨fun h6 => absurd ⟨by omega, by omega, by omega, by omega⟩ h, fun _ => no⟩⟩
  by_cases hj : n < j
  · obtain ⟨d', v, a, r⟩ := key n (j - n) (by omega) (by omega) (by omega) (by omega) hn (by unfold s_at; rw [if_pos hj]) (if_pos hj) (if_pos hj)
    refine ⟨d', e_Ne_swap_0 ⟨fun h => ?_, fun _ => ?_⟩, a, r⟩
    · rw [e0] at h; omega
    · rw [e0]; exact v
  · obtain ⟨d', v, a, r⟩ := key 0 j (by omega) (by omega) (by omega) (by omega) (by omega) (by unfold s_at; rw [if_neg hj]; rfl) (if_neg hj) (if_neg hj)
    refine ⟨d', e_Ne_swap_0 ⟨fun _ => v, fun h => ?_⟩, a, r⟩
    rw [e0] at h; omega
/-- the next ones, in their order -/
def s_good (n : Nat) (F : Nat → Nat) (more : Int) (i j : Nat) : Bool := s_swOk n F i j && decide ((s_inv (s_swF n F i j) n : Int) = (s_inv F n : Int) + more)
def s_nxJ (g : Nat → Nat → Bool) (i : Nat) : Nat → Nat → List (Nat × Nat)
  | 0, _ => []
  | f + 1, j => if g i j then (i, j) :: s_nxJ g i f (j + 1) else s_nxJ g i f (j + 1)
def s_nxI (g : Nat → Nat → Bool) (n : Nat) : Nat → Nat → List (Nat × Nat)
  | 0, _ => []
  | f + 1, i => s_nxJ g i (n - 1) (i + 1) ++ s_nxI g n f (i + 1)
def s_nx (n : Nat) (F : Nat → Nat) (more : Int) : List (Nat × Nat) := s_nxI (s_good n F more) n n 1
def s_nxF (n : Nat) (F : Nat → Nat) (L : List (Nat × Nat)) (k : Nat) : Nat → Nat := s_swF n F (L.getD k (0, 0)).1 (L.getD k (0, 0)).2
theorem s_nxJ_len (g : Nat → Nat → Bool) (i : Nat) : ∀ f j, (s_nxJ g i f j).length ≤ f
  | 0, _ => Nat.le_refl 0
  | f + 1, j => by
    have := s_nxJ_len g i f (j + 1)
    rw [s_nxJ]; split
    · rw [List.length_cons]; omega
    · omega
theorem s_nxI_len (g : Nat → Nat → Bool) (n : Nat) : ∀ f i, (s_nxI g n f i).length ≤ f * n
  | 0, _ => by rw [s_nxI]; simp
  | f + 1, i => by
    have h1 := s_nxJ_len g i (n - 1) (i + 1)
    have h2 := s_nxI_len g n f (i + 1)
    rw [s_nxI, List.length_append, Nat.succ_mul]
    omega
/-- is the wanted one among so many, from the m-th on -/
def s_hit (w : Int) (m len : Nat) : Prop := (m : Int) ≤ w ∧ w < ((m + len : Nat) : Int)
theorem c_Ne_seekJ {n i : Nat} {F : Nat → Nat} {more w : Int} (hb : s_bd n F) (hi : 1 ≤ i) (hin : i ≤ n) (hm : more = 1 ∨ more = -1) {b : Nat} : ∀ (f j m : Nat) (d : qD), j + f = i + n → i < j → m + f ≤ 1000 → d.1 t_Ce 0 0 = (n : Int) → d.1 t_Ce 0 2 = (s_inv F n : Int) → s_row (d.1 t_img 0) n F → d.1 t_Ne 0 1 = (m : Int) → ∃ d', q_ag [t_Ne, t_neImg] d d' ∧ ((s_hit w m (s_nxJ (s_good n F more) i f j).length ∧ q_Ev m_Ne_seek 13 [q_r t_Ne 0, q_r t_Ce 0, q_i more, q_i w, q_i (i : Int), q_i (j : Int)] [] (q_mk d b) (q_i 1, q_mk d' b) ∧ s_row (d'.1 t_neImg 0) n (s_nxF n F (s_nxJ (s_good n F more) i f j) (w - (m : Int)).toNat)) ∨ (¬ s_hit w m (s_nxJ (s_good n F more) i f j).length ∧ d'.1 t_Ne 0 1 = ((m + (s_nxJ (s_good n F more) i f j).length : Nat) : Int) ∧ ∀ r, q_Ev m_Ne_seek 5 [q_r t_Ne 0, q_r t_Ce 0, q_i more, q_i w, q_i ((i + 1 : Nat) : Int), none] [] (q_mk d' b) r → q_Ev m_Ne_seek 13 [q_r t_Ne 0, q_r t_Ce 0, q_i more, q_i w, q_i (i : Int), q_i (j : Int)] [] (q_mk d b) r)) := by
  have hn := hb.1
  have ein : q_w ((i : Int) + (n : Int)) = ((i + n : Nat) : Int) := by rw [q_w_id (by omega) (by omega)]; omega
  intro f
  induction f with
  | zero =>
    intro j m d h hij hmf e0 e2 eF e1
    refine ⟨d, q_ag_refl _ _, Or.inr ⟨?_, ?_, fun r hr => e_Ne_seek_13 ?_⟩⟩
    · unfold s_hit s_nxJ; rw [List.length_nil]; omega
    · rw [e1]; rfl
    · rw [e0, ein, q_wS (by omega)]
      exact ⟨fun _ => hr, fun h2 => by omega⟩
  | succ f ih =>
    intro j m d h hij hmf e0 e2 eF e1
    obtain ⟨d1, v1, a1, r1⟩ := c_Ne_swap hb hi hin hij (by omega) (d := d) (b := b) e0 eF
    have st : ∀ r, q_Ev m_Ne_seek 24 [q_r t_Ne 0, q_r t_Ce 0, q_i more, q_i w, q_i (i : Int), q_i (j : Int)] [.inl (q_b2i (s_swOk n F i j))] (q_mk d1 b) r → q_Ev m_Ne_seek 13 [q_r t_Ne 0, q_r t_Ce 0, q_i more, q_i w, q_i (i : Int), q_i (j : Int)] [] (q_mk d b) r := by
      intro r hr
      refine e_Ne_seek_13 ?_
      rw [e0, ein]
      exact ⟨fun h2 => by omega, fun _ => ⟨_, _, v1, hr⟩⟩
    have g0 : d1.1 t_Ce 0 0 = (n : Int) := by rw [a1.1 t_Ce (by decide), e0]
    have g2 : d1.1 t_Ce 0 2 = (s_inv F n : Int) := by rw [a1.1 t_Ce (by decide), e2]
    have gF : s_row (d1.1 t_img 0) n F := by rw [a1.1 t_img (by decide)]; exact eF
    have g1 : d1.1 t_Ne 0 1 = (m : Int) := by rw [a1.1 t_Ne (by decide), e1]
    have iv0 := s_invs_le F n 1 n
    have ivn : n * (n - 1) ≤ 8 * 7 := Nat.mul_le_mul hn (by omega)
    have ew : q_w ((s_inv F n : Int) + more) = (s_inv F n : Int) + more := by
      unfold s_inv
      rcases hm with hm | hm <;> (subst hm; exact q_w_id (by omega) (by omega))
    by_cases hg : s_good n F more i j = true
    · rw [s_nxJ, if_pos hg]
      unfold s_good at hg
      rw [Bool.and_eq_true, decide_eq_true_iff] at hg
      have hrow := r1 hg.1
      have iv := c_Ce_inv_ne hn (G := s_swF n F i j) (s_swF_le hb hi hin hij (by omega)) (d := d1) (b := b) hrow
      by_cases hw : (m : Int) = w
      · refine ⟨d1, q_ag_up a1 (by decide), Or.inl ⟨?_, st _ ?_, ?_⟩⟩
        · unfold s_hit; rw [List.length_cons]; omega
        · refine e_Ne_seek_24 ⟨fun h2 => ?_, fun _ => ?_⟩
          · rw [hg.1] at h2; exact absurd h2 (by decide)
          · rw [g0]
            refine ⟨_, _, iv, e_Ne_seek_30 ?_⟩
            rw [g2, ew, g1]
            exact ⟨fun h2 => absurd hg.2 h2, fun _ => ⟨fun h2 => absurd hw h2, fun _ => ⟨by decide, by decide, rfl⟩⟩⟩
        · rw [show (w - (m : Int)).toNat = 0 by omega]; exact hrow
      · obtain ⟨d', a, hh⟩ := ih (j + 1) (m + 1) (q_sI d1 t_Ne 0 1 ((m + 1 : Nat) : Int)) (by omega) (by omega) (by omega) (by rw [q_sI_ne _ _ (by decide), g0]) (by rw [q_sI_ne _ _ (by decide), g2]) (by rw [q_sI_ne _ _ (by decide)]; exact gF) (by rw [q_sI_at, q_up_at])
        have st2 : ∀ r, q_Ev m_Ne_seek 13 [q_r t_Ne 0, q_r t_Ce 0, q_i more, q_i w, q_i (i : Int), q_i ((j + 1 : Nat) : Int)] [] (q_mk (q_sI d1 t_Ne 0 1 ((m + 1 : Nat) : Int)) b) r → q_Ev m_Ne_seek 13 [q_r t_Ne 0, q_r t_Ce 0, q_i more, q_i w, q_i (i : Int), q_i (j : Int)] [] (q_mk d b) r := by
          intro r hr
          refine st r (e_Ne_seek_24 ⟨fun h2 => ?_, fun _ => ?_⟩)
          · rw [hg.1] at h2; exact absurd h2 (by decide)
          · rw [g0]
            refine ⟨_, _, iv, e_Ne_seek_30 ?_⟩
            rw [g2, ew, g1]
            refine ⟨fun h2 => absurd hg.2 h2, fun _ => ⟨fun _ => e_Ne_seek_47 ?_, fun h2 => absurd h2 hw⟩⟩
            rw [q_wS (by omega), q_wS (by omega)]; exact hr
        refine ⟨d', q_ag_tr (q_ag_up a1 (by decide)) (q_ag_tr (q_ag_sI (by decide)) a), ?_⟩
        rcases hh with ⟨q1, q2, q3⟩ | ⟨q1, q2, q3⟩
        · left
          unfold s_hit at q1 ⊢
          rw [List.length_cons]
          refine ⟨by omega, st2 _ q2, ?_⟩
          have e5 : (w - (m : Int)).toNat = (w - ((m + 1 : Nat) : Int)).toNat + 1 := by omega
          unfold s_nxF at q3 ⊢
          rw [e5, List.getD_cons_succ]; exact q3
        · right
          unfold s_hit at q1 ⊢
          rw [List.length_cons]
          exact ⟨by omega, by rw [q2]; omega, fun r hr => st2 r (q3 r hr)⟩
    · rw [s_nxJ, if_neg hg]
      obtain ⟨d', a, hh⟩ := ih (j + 1) m d1 (by omega) (by omega) (by omega) g0 g2 gF g1
      have st2 : ∀ r, q_Ev m_Ne_seek 13 [q_r t_Ne 0, q_r t_Ce 0, q_i more, q_i w, q_i (i : Int), q_i ((j + 1 : Nat) : Int)] [] (q_mk d1 b) r → q_Ev m_Ne_seek 13 [q_r t_Ne 0, q_r t_Ce 0, q_i more, q_i w, q_i (i : Int), q_i (j : Int)] [] (q_mk d b) r := by
        intro r hr
        have k47 : q_Ev m_Ne_seek 47 [q_r t_Ne 0, q_r t_Ce 0, q_i more, q_i w, q_i (i : Int), q_i (j : Int)] [] (q_mk d1 b) r := by
          refine e_Ne_seek_47 ?_
          rw [q_wS (by omega)]; exact hr
        refine st r (e_Ne_seek_24 ⟨fun _ => k47, fun h2 => ?_⟩)
        have hok := q_b2i_t h2
        have hrow := r1 hok
        have iv := c_Ce_inv_ne hn (G := s_swF n F i j) (s_swF_le hb hi hin hij (by omega)) (d := d1) (b := b) hrow
        rw [g0]
        refine ⟨_, _, iv, e_Ne_seek_30 ?_⟩
        rw [g2, ew]
        refine ⟨fun _ => k47, fun h3 => absurd ?_ hg⟩
        unfold s_good
        rw [hok, decide_eq_true h3]; rfl
      refine ⟨d', q_ag_tr (q_ag_up a1 (by decide)) a, ?_⟩
      rcases hh with ⟨q1, q2, q3⟩ | ⟨q1, q2, q3⟩
      · exact Or.inl ⟨q1, st2 _ q2, q3⟩
      · exact Or.inr ⟨q1, q2, fun r hr => st2 r (q3 r hr)⟩
theorem c_Ne_seekI {n : Nat} {F : Nat → Nat} {more w : Int} (hb : s_bd n F) (hm : more = 1 ∨ more = -1) {b : Nat} : ∀ (f i m : Nat) (d : qD), i + f = n + 1 → 1 ≤ i → m + f * n ≤ 900 → d.1 t_Ce 0 0 = (n : Int) → d.1 t_Ce 0 2 = (s_inv F n : Int) → s_row (d.1 t_img 0) n F → d.1 t_Ne 0 1 = (m : Int) → ∃ d', q_ag [t_Ne, t_neImg] d d' ∧ ((s_hit w m (s_nxI (s_good n F more) n f i).length ∧ q_Ev m_Ne_seek 5 [q_r t_Ne 0, q_r t_Ce 0, q_i more, q_i w, q_i (i : Int), none] [] (q_mk d b) (q_i 1, q_mk d' b) ∧ s_row (d'.1 t_neImg 0) n (s_nxF n F (s_nxI (s_good n F more) n f i) (w - (m : Int)).toNat)) ∨ (¬ s_hit w m (s_nxI (s_good n F more) n f i).length ∧ d'.1 t_Ne 0 1 = ((m + (s_nxI (s_good n F more) n f i).length : Nat) : Int) ∧ q_Ev m_Ne_seek 5 [q_r t_Ne 0, q_r t_Ce 0, q_i more, q_i w, q_i (i : Int), none] [] (q_mk d b) (q_i 0, q_mk d' b))) := by
  have hn := hb.1
  intro f
  induction f with
  | zero =>
    intro i m d h hi hmf e0 e2 eF e1
    refine ⟨d, q_ag_refl _ _, Or.inr ⟨?_, ?_, e_Ne_seek_5 ⟨fun _ => ⟨by decide, by decide, rfl⟩, fun h2 => ?_⟩⟩⟩
    · unfold s_hit s_nxI; rw [List.length_nil]; omega
    · rw [e1]; rfl
    · rw [e0] at h2; omega
  | succ f ih =>
    intro i m d h hi hmf e0 e2 eF e1
    rw [Nat.succ_mul] at hmf
    have hlen := s_nxJ_len (s_good n F more) i (n - 1) (i + 1)
    have st : ∀ r, q_Ev m_Ne_seek 13 [q_r t_Ne 0, q_r t_Ce 0, q_i more, q_i w, q_i (i : Int), q_i ((i + 1 : Nat) : Int)] [] (q_mk d b) r → q_Ev m_Ne_seek 5 [q_r t_Ne 0, q_r t_Ce 0, q_i more, q_i w, q_i (i : Int), none] [] (q_mk d b) r := by
      intro r hr
      refine e_Ne_seek_5 ⟨fun h2 => ?_, fun _ => ?_⟩
      · rw [e0] at h2; omega
      · rw [q_wS (by omega)]; exact hr
    obtain ⟨d1, a1, hh⟩ := c_Ne_seekJ (w := w) hb hi (by omega) hm (b := b) (n - 1) (i + 1) m d (by omega) (by omega) (by omega) e0 e2 eF e1
    rw [s_nxI]
    generalize hA : s_nxJ (s_good n F more) i (n - 1) (i + 1) = A at hh hlen
    rcases hh with ⟨q1, q2, q3⟩ | ⟨q1, q2, q3⟩
    · refine ⟨d1, a1, Or.inl ⟨?_, st _ q2, ?_⟩⟩
      · unfold s_hit at q1 ⊢; rw [List.length_append]; omega
      · unfold s_hit at q1
        unfold s_nxF at q3 ⊢
        rw [List.getD_eq_getElem?_getD, List.getElem?_append_left (by omega), ← List.getD_eq_getElem?_getD]; exact q3
    · obtain ⟨d', a, hh2⟩ := ih (i + 1) (m + A.length) d1 (by omega) (by omega) (by omega) (by rw [a1.1 t_Ce (by decide), e0]) (by rw [a1.1 t_Ce (by decide), e2]) (by rw [a1.1 t_img (by decide)]; exact eF) q2
      refine ⟨d', q_ag_tr a1 a, ?_⟩
      rcases hh2 with ⟨p1, p2, p3⟩ | ⟨p1, p2, p3⟩
      · left
        unfold s_hit at q1 p1 ⊢
        rw [List.length_append]
        refine ⟨by omega, st _ (q3 _ p2), ?_⟩
        unfold s_nxF at p3 ⊢
        rw [List.getD_eq_getElem?_getD, List.getElem?_append_right (by omega), ← List.getD_eq_getElem?_getD, show (w - (m : Int)).toNat - A.length = (w - ((m + A.length : Nat) : Int)).toNat by omega]; exact p3
      · right
        unfold s_hit at q1 p1 ⊢
        rw [List.length_append]
        exact ⟨by omega, by rw [p2]; omega, st _ (q3 _ p3)⟩
theorem c_Ne_seek {n : Nat} {F : Nat → Nat} {more w : Int} (hb : s_bd n F) (hm : more = 1 ∨ more = -1) {d : qD} {b : Nat} (e0 : d.1 t_Ce 0 0 = (n : Int)) (e2 : d.1 t_Ce 0 2 = (s_inv F n : Int)) (eF : s_row (d.1 t_img 0) n F) : ∃ d', q_ag [t_Ne, t_neImg] d d' ∧ ((s_hit w 0 (s_nx n F more).length ∧ q_Ev m_Ne_seek 0 [q_r t_Ne 0, q_r t_Ce 0, q_i more, q_i w, none, none] [] (q_mk d b) (q_i 1, q_mk d' b) ∧ s_row (d'.1 t_neImg 0) n (s_nxF n F (s_nx n F more) w.toNat)) ∨ (¬ s_hit w 0 (s_nx n F more).length ∧ d'.1 t_Ne 0 1 = ((s_nx n F more).length : Int) ∧ q_Ev m_Ne_seek 0 [q_r t_Ne 0, q_r t_Ce 0, q_i more, q_i w, none, none] [] (q_mk d b) (q_i 0, q_mk d' b))) := by
  have hn := hb.1
  have hnn : n * n ≤ 8 * 8 := Nat.mul_le_mul hn hn
  obtain ⟨d', a, hh⟩ := c_Ne_seekI (w := w) hb hm (b := b) n 1 0 (q_sI d t_Ne 0 1 0) (by omega) (by omega) (by omega) (by rw [q_sI_ne _ _ (by decide), e0]) (by rw [q_sI_ne _ _ (by decide), e2]) (by rw [q_sI_ne _ _ (by decide)]; exact eF) (by rw [q_sI_at, q_up_at]; rfl)
  refine ⟨d', q_ag_tr (q_ag_sI (by decide)) a, ?_⟩
  rcases hh with ⟨q1, q2, q3⟩ | ⟨q1, q2, q3⟩
  · left
    refine ⟨q1, e_Ne_seek_0 q2, ?_⟩
    rw [show (w - ((0 : Nat) : Int)).toNat = w.toNat by omega] at q3
    exact q3
  · right
    rw [Nat.zero_add] at q2
    exact ⟨q1, q2, e_Ne_seek_0 q3⟩
theorem c_Ne_howManyFrom {n : Nat} {F : Nat → Nat} {more : Int} (hb : s_bd n F) (hm : more = 1 ∨ more = -1) {d : qD} {b : Nat} (e0 : d.1 t_Ce 0 0 = (n : Int)) (e2 : d.1 t_Ce 0 2 = (s_inv F n : Int)) (eF : s_row (d.1 t_img 0) n F) : ∃ d', q_Ev m_Ne_howManyFrom 0 [q_r t_Ne 0, q_r t_Ce 0, q_i more] [] (q_mk d b) (q_i ((s_nx n F more).length : Int), q_mk d' b) ∧ q_ag [t_Ne, t_neImg] d d' := by
  obtain ⟨d', a, hh⟩ := c_Ne_seek (w := -1) hb hm (b := b) e0 e2 eF
  rcases hh with ⟨q1, q2, q3⟩ | ⟨q1, q2, q3⟩
  · unfold s_hit at q1; omega
  · refine ⟨d', e_Ne_howManyFrom_0 ⟨_, _, q3, e_Ne_howManyFrom_5 ?_⟩, a⟩
    rw [q2]
