/-! any filling is a network; its exits make a bounded permutation -/
def s_rw (fs : Nat) (p : Nat → Nat → Bool) (i : Nat) (c : Nat → Nat) : Nat → Nat
  | 0 => i
  | t + 1 => if s_box fs i (i + t + 1) = true ∧ p i (i + t + 1) = true then c (i + t + 1) else s_rw fs p i c t
def s_cf (fs n : Nat) (p : Nat → Nat → Bool) : Nat → Nat → Nat
  | 0 => fun j => j
  | f + 1 => fun j => if s_box fs (n - f) j = true ∧ p (n - f) j = true then s_rw fs p (n - f) (s_cf fs n p f) (j - 1 - (n - f)) else s_cf fs n p f j
def s_nR (fs n : Nat) (p : Nat → Nat → Bool) (i j : Nat) : Nat := s_rw fs p i (s_cf fs n p (n - i)) (j - i)
def s_nC (fs n : Nat) (p : Nat → Nat → Bool) (i j : Nat) : Nat := s_cf fs n p (n - i) j
theorem s_cf_own {fs n : Nat} {p : Nat → Nat → Bool} {j : Nat} : ∀ f, f ≤ n → j ≤ n - f + 1 → s_cf fs n p f j = j
  | 0, _, _ => rfl
  | f + 1, hf, h => by
    have ih := s_cf_own (fs := fs) (n := n) (p := p) (j := j) f (by omega) (by omega)
    show (if s_box fs (n - f) j = true ∧ p (n - f) j = true then _ else s_cf fs n p f j) = j
    rw [if_neg (fun hc => by have := (s_box_rc hc.1).1; omega)]
    exact ih
theorem s_net_any (n fs : Nat) (p : Nat → Nat → Bool) : s_net n fs p (s_nR fs n p) (s_nC fs n p) := by
  have rS : ∀ i j, i < j → s_nR fs n p i j = if s_box fs i j = true ∧ p i j = true then s_nC fs n p i j else s_nR fs n p i (j - 1) := by
    intro i j hij
    unfold s_nR s_nC
    obtain ⟨t, rfl⟩ : ∃ t, j = i + t + 1 := ⟨j - i - 1, by omega⟩
    rw [show i + t + 1 - i = t + 1 by omega, show i + t + 1 - 1 - i = t by omega]
    rfl
  have cS : ∀ i j, 1 ≤ i → i < j → j ≤ n → s_nC fs n p (i - 1) j = if s_box fs i j = true ∧ p i j = true then s_nR fs n p i (j - 1) else s_nC fs n p i j := by
    intro i j h1 hij hj
    unfold s_nR s_nC
    rw [show n - (i - 1) = (n - i) + 1 by omega]
    show (if s_box fs (n - (n - i)) j = true ∧ p (n - (n - i)) j = true then s_rw fs p (n - (n - i)) (s_cf fs n p (n - i)) (j - 1 - (n - (n - i))) else s_cf fs n p (n - i) j) = _
    rw [show n - (n - i) = i by omega]
  refine ⟨fun i j h1 hij hj hb => ⟨fun hp => ?_, fun hp => ?_⟩, fun i j h1 hij hj _ hb => ?_, fun i j h1 hij hj _ hb => ?_, fun i h1 hi _ => ?_, fun j h1 hj _ => ?_⟩
  · rw [rS i j hij, cS i j h1 hij hj, if_pos ⟨hb, hp⟩, if_pos ⟨hb, hp⟩]
    exact ⟨rfl, rfl⟩
  · rw [rS i j hij, cS i j h1 hij hj, if_neg (fun hc => by rw [hp] at hc; exact absurd hc.2 (by decide)), if_neg (fun hc => by rw [hp] at hc; exact absurd hc.2 (by decide))]
    exact ⟨rfl, rfl⟩
  · rw [rS i j hij, if_neg (fun hc => by rw [hb] at hc; exact absurd hc.1 (by decide))]
  · rw [cS i j h1 hij hj, if_neg (fun hc => by rw [hb] at hc; exact absurd hc.1 (by decide))]
  · unfold s_nR
    rw [Nat.sub_self]
    rfl
  · unfold s_nC
    exact s_cf_own _ (by omega) (by omega)
def s_exF (n fs : Nat) (w : Nat) : Nat := if q_hl fs w then w + n else w
theorem s_exF_tg {n fs w : Nat} (h1 : 1 ≤ w) (h2 : w ≤ n) : s_tg n (s_exF n fs w) = w := by
  unfold s_exF s_tg
  split <;> split <;> omega
theorem s_exit_uni {n fs l l' w : Nat} {R C : Nat → Nat → Nat} (h : s_exit n fs R C l w) (h' : s_exit n fs R C l' w) : l = l' := by
  cases hq : q_hl fs w with
  | true => rw [← (h.2.2.1 hq).1, ← (h'.2.2.1 hq).1]
  | false => rw [← (h.2.2.2 hq).1, ← (h'.2.2.2 hq).1]
theorem s_exit_ok {n fs : Nat} {R C : Nat → Nat → Nat} {F : Nat → Nat} (h2 : 2 ≤ n) (hn : n ≤ 8) (h : ∀ l, 1 ≤ l → l ≤ n → ∃ w, s_exit n fs R C l w ∧ F l = s_exF n fs w) : s_ok n F := by
  refine ⟨h2, hn, fun l l1 l2 => ?_, fun i j h1 hij hj he => ?_⟩
  · obtain ⟨w, e, hF⟩ := h l l1 l2
    rw [hF]
    unfold s_exF
    cases hq : q_hl fs w with
    | true => have := (e.2.2.1 hq).2; have := e.1; rw [if_pos rfl]; omega
    | false => have := (e.2.2.2 hq).2; have := e.2.1; rw [if_neg (by decide)]; omega
  · obtain ⟨w, e, hF⟩ := h i h1 (by omega)
    obtain ⟨w', e', hF'⟩ := h j (by omega) hj
    rw [hF, hF', s_exF_tg e.1 e.2.1, s_exF_tg e'.1 e'.2.1] at he
    subst he
    have := s_exit_uni e e'
    omega
theorem s_exit_one {n fs l w w' : Nat} {R C : Nat → Nat → Nat} {F : Nat → Nat} (h2 : 2 ≤ n) (hn : n ≤ 8) (h : ∀ l, 1 ≤ l → l ≤ n → ∃ w, s_exit n fs R C l w ∧ F l = s_exF n fs w) (_h1 : 1 ≤ l) (_hl : l ≤ n) (e : s_exit n fs R C l w) (e' : s_exit n fs R C l w') : w = w' := by
  have ok := s_exit_ok h2 hn h
  have sur : ∀ v, 1 ≤ v → v ≤ n → s_exit n fs R C l v → s_tg n (F l) = v := by
    intro v v1 v2 ev
    have hs := s_src_of ok v1 v2
    obtain ⟨u, eu, hFu⟩ := h (s_src n F n v) hs.1 hs.2.1
    have ht := hs.2.2
    rw [hFu, s_exF_tg eu.1 eu.2.1] at ht
    subst ht
    have := s_exit_uni ev eu
    rw [this, hFu, s_exF_tg eu.1 eu.2.1]
  rw [← sur w e.1 e.2.1 e, ← sur w' e'.1 e'.2.1 e']
