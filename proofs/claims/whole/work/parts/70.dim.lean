/-! the dimension: sums, keys, what crosses -/
def s_sum (f : Nat → Nat) : Nat → Nat
  | 0 => 0
  | i + 1 => s_sum f i + f (i + 1)
theorem s_sum_congr {f g : Nat → Nat} : ∀ n, (∀ i, 1 ≤ i → i ≤ n → f i = g i) → s_sum f n = s_sum g n
  | 0, _ => rfl
  | n + 1, h => by rw [s_sum, s_sum, s_sum_congr n (fun i h1 h2 => h i h1 (by omega)), h (n + 1) (by omega) (Nat.le_refl _)]
theorem s_sum_add (f g : Nat → Nat) : ∀ n, s_sum (fun i => f i + g i) n = s_sum f n + s_sum g n
  | 0 => rfl
  | n + 1 => by rw [s_sum, s_sum, s_sum, s_sum_add f g n]; omega
theorem s_sum_0 : ∀ n, s_sum (fun _ => 0) n = 0
  | 0 => rfl
  | n + 1 => by rw [s_sum, s_sum_0 n]
theorem s_sum_one {a c : Nat} (ha : 1 ≤ a) : ∀ n, s_sum (fun i => if i = a then c else 0) n = if a ≤ n then c else 0
  | 0 => by rw [s_sum, if_neg (by omega)]
  | n + 1 => by
    rw [s_sum, s_sum_one ha n]
    by_cases h : a ≤ n
    · rw [if_pos h, if_neg (by omega), if_pos (by omega)]; omega
    · rw [if_neg h]
      by_cases h2 : n + 1 = a
      · rw [if_pos h2, if_pos (by omega)]; omega
      · rw [if_neg h2, if_neg (by omega)]
theorem s_sum_swap (f : Nat → Nat → Nat) (m : Nat) : ∀ n, s_sum (fun i => s_sum (fun j => f i j) m) n = s_sum (fun j => s_sum (fun i => f i j) n) m
  | 0 => by
    show 0 = s_sum (fun _ => 0) m
    rw [s_sum_0]
  | n + 1 => by
    rw [s_sum, s_sum_swap f m n, ← s_sum_add]
    rfl
theorem s_sum_mulr (f : Nat → Nat) (c : Nat) : ∀ n, s_sum f n * c = s_sum (fun i => f i * c) n
  | 0 => by rw [s_sum, s_sum, Nat.zero_mul]
  | n + 1 => by rw [s_sum, s_sum, Nat.add_mul, s_sum_mulr f c n]
theorem s_sum_mull (f : Nat → Nat) (c : Nat) : ∀ n, c * s_sum f n = s_sum (fun i => c * f i) n
  | 0 => by rw [s_sum, s_sum, Nat.mul_zero]
  | n + 1 => by rw [s_sum, s_sum, Nat.mul_add, s_sum_mull f c n]
theorem s_sum_pc (s : Nat) : ∀ n, s_sum (fun i => (q_hl s i).toNat) n = s_pcTo s n
  | 0 => rfl
  | n + 1 => by rw [s_sum, s_sum_pc s n, s_pcTo_s]
theorem s_sum_src {n : Nat} {F : Nat → Nat} (h : s_ok n F) (f : Nat → Nat) : s_sum (fun w => f (s_src n F n w)) n = s_sum f n := by
  have hb := s_ok_bd h
  have e1 : s_sum (fun w => f (s_src n F n w)) n = s_sum (fun w => s_sum (fun i => if i = s_src n F n w then f (s_src n F n w) else 0) n) n := by
    refine s_sum_congr n fun w h1 h2 => ?_
    have := s_src_of h h1 h2
    rw [s_sum_one this.1, if_pos this.2.1]
  rw [e1, s_sum_swap]
  refine s_sum_congr n fun i h1 h2 => ?_
  have ht := s_tg_le hb h1 h2
  have e2 : s_sum (fun w => if i = s_src n F n w then f (s_src n F n w) else 0) n = s_sum (fun w => if w = s_tg n (F i) then f i else 0) n := by
    refine s_sum_congr n fun w w1 w2 => ?_
    by_cases hq : i = s_src n F n w
    · rw [if_pos hq, ← hq]
      have := (s_src_of h w1 w2).2.2
      rw [← hq] at this
      rw [if_pos this.symm]
    · rw [if_neg hq]
      by_cases hw : w = s_tg n (F i)
      · exact absurd (by rw [hw, s_src_at h n i h1 h2 (Nat.le_refl n)]) hq
      · rw [if_neg hw]
  rw [e2, s_sum_one ht.1, if_pos ht.2]
/-! inversions as sums -/
def s_I1 (n : Nat) (F : Nat → Nat) : Nat := s_sum (fun u => s_sum (fun v => (decide (u < v) && decide (F v < F u)).toNat) n) n
def s_I2 (n : Nat) (F : Nat → Nat) : Nat := s_sum (fun u => s_sum (fun v => (decide (F v + n < F u)).toNat) n) n
theorem s_ivA {G : Nat → Nat} {n i : Nat} : ∀ f j, j + f = n + 1 → 1 ≤ j → s_iv G n i j f = s_sum (fun v => (decide (j ≤ v) && decide (G v < G i)).toNat) n
  | 0, j, h, hj => by
    rw [s_iv]
    rw [s_sum_congr (g := fun _ => 0) n (fun v h1 h2 => by rw [decide_eq_false (by omega)]; rfl), s_sum_0]
  | f + 1, j, h, hj => by
    have e : s_sum (fun v => (decide (j ≤ v) && decide (G v < G i)).toNat) n = s_sum (fun v => (if v = j then (if G j < G i then 1 else 0) else 0) + (decide (j + 1 ≤ v) && decide (G v < G i)).toNat) n := by
      refine s_sum_congr n fun v h1 h2 => ?_
      by_cases hq : v = j
      · subst hq
        rw [if_pos rfl, decide_eq_true (Nat.le_refl v), decide_eq_false (show ¬ v + 1 ≤ v by omega)]
        by_cases hg : G v < G i
        · rw [if_pos hg, decide_eq_true hg]; rfl
        · rw [if_neg hg, decide_eq_false hg]; rfl
      · rw [if_neg hq, Nat.zero_add]
        congr 2
        exact decide_eq_decide.mpr ⟨fun h => by omega, fun h => by omega⟩
    rw [e, s_sum_add, s_sum_one hj, if_pos (show j ≤ n by omega), s_iv, s_ivA f (j + 1) (by omega) (by omega)]
    unfold s_at
    rw [if_neg (show ¬ n < j by omega)]
theorem s_ivB {G : Nat → Nat} {n i : Nat} (hi : i ≤ n) : ∀ f j, j + f = n + i → n < j → s_iv G n i j f = s_sum (fun v => (decide (j ≤ v + n) && (decide (v < i) && decide (G v + n < G i))).toNat) n
  | 0, j, h, hj => by
    rw [s_iv]
    rw [s_sum_congr (g := fun _ => 0) n (fun v h1 h2 => by
      by_cases hv : v < i
      · rw [decide_eq_false (show ¬ j ≤ v + n by omega)]; rfl
      · rw [decide_eq_false hv, Bool.false_and, Bool.and_false]; rfl), s_sum_0]
  | f + 1, j, h, hj => by
    have e : s_sum (fun v => (decide (j ≤ v + n) && (decide (v < i) && decide (G v + n < G i))).toNat) n = s_sum (fun v => (if v = j - n then (if G (j - n) + n < G i then 1 else 0) else 0) + (decide (j + 1 ≤ v + n) && (decide (v < i) && decide (G v + n < G i))).toNat) n := by
      refine s_sum_congr n fun v h1 h2 => ?_
      by_cases hq : v = j - n
      · rw [if_pos hq, ← hq, decide_eq_true (show j ≤ v + n by omega), decide_eq_false (show ¬ j + 1 ≤ v + n by omega), decide_eq_true (show v < i by omega)]
        by_cases hg : G v + n < G i
        · rw [if_pos hg, decide_eq_true hg]; rfl
        · rw [if_neg hg, decide_eq_false hg]; rfl
      · rw [if_neg hq, Nat.zero_add]
        congr 2
        exact decide_eq_decide.mpr ⟨fun h => by omega, fun h => by omega⟩
    rw [e, s_sum_add, s_sum_one (show 1 ≤ j - n by omega), if_pos (show j - n ≤ n by omega), s_iv, s_ivB hi f (j + 1) (by omega) (by omega)]
    unfold s_at
    rw [if_pos (show n < j by omega)]
theorem s_invs_sum {G : Nat → Nat} {n : Nat} : ∀ f i, i + f = n + 1 → 1 ≤ i → s_invs G n i f = s_sum (fun u => if i ≤ u then s_iv G n u (u + 1) (n - 1) else 0) n
  | 0, i, h, hi => by
    rw [s_invs, s_sum_congr (g := fun _ => 0) n (fun v h1 h2 => if_neg (by omega)), s_sum_0]
  | f + 1, i, h, hi => by
    have e : s_sum (fun u => if i ≤ u then s_iv G n u (u + 1) (n - 1) else 0) n = s_sum (fun u => (if u = i then s_iv G n i (i + 1) (n - 1) else 0) + (if i + 1 ≤ u then s_iv G n u (u + 1) (n - 1) else 0)) n := by
      refine s_sum_congr n fun u h1 h2 => ?_
      by_cases hq : u = i
      · subst hq; rw [if_pos (Nat.le_refl u), if_pos rfl, if_neg (by omega)]; omega
      · rw [if_neg hq, Nat.zero_add]
        by_cases h3 : i ≤ u
        · rw [if_pos h3, if_pos (by omega)]
        · rw [if_neg h3, if_neg (by omega)]
    rw [e, s_sum_add, s_sum_one hi, if_pos (show i ≤ n by omega), s_invs, s_invs_sum f (i + 1) (by omega) (by omega)]
theorem s_inv_sum {n : Nat} {F : Nat → Nat} (hb : s_bd n F) (h1 : 1 ≤ n) : s_inv F n = s_I1 n F + s_I2 n F := by
  unfold s_inv s_I1 s_I2
  rw [s_invs_sum n 1 (by omega) (Nat.le_refl 1), ← s_sum_add]
  refine s_sum_congr n fun u u1 u2 => ?_
  rw [if_pos u1, show n - 1 = (n - u) + (u - 1) by omega, s_iv_add, s_ivA (n - u) (u + 1) (by omega) (by omega), s_ivB u2 (u - 1) (u + 1 + (n - u)) (by omega) (by omega)]
  congr 1
  refine s_sum_congr n fun v v1 v2 => ?_
  have bu := hb.2 u u1 u2
  have bv := hb.2 v v1 v2
  rw [decide_eq_true (show u + 1 + (n - u) ≤ v + n by omega), Bool.true_and]
  by_cases hg : F v + n < F u
  · rw [decide_eq_true hg, decide_eq_true (show v < u by omega)]; rfl
  · rw [decide_eq_false hg, Bool.and_false]
/-! rows and columns beyond a label; keys -/
def s_ro (n fs w : Nat) : Nat := s_pcTo fs n - s_pcTo fs w
def s_ga (n fs w : Nat) : Nat := (n - w) - s_ro n fs w
theorem s_pcTo_up (s : Nat) : ∀ f i, s_pcTo s (i + f) ≤ s_pcTo s i + f
  | 0, i => Nat.le_refl _
  | f + 1, i => by
    have := s_pcTo_up s f i
    have h2 : (q_hl s (i + f + 1)).toNat ≤ 1 := by cases q_hl s (i + f + 1) <;> decide
    rw [show i + (f + 1) = (i + f) + 1 by omega, s_pcTo_s]; omega
theorem s_rg {n fs w : Nat} (hw : w < n) : s_ro n fs w + s_ga n fs w = n - w ∧ s_ro n fs (w + 1) + s_ga n fs (w + 1) = n - (w + 1) ∧ s_ro n fs w = s_ro n fs (w + 1) + (q_hl fs (w + 1)).toNat ∧ s_ga n fs w + (q_hl fs (w + 1)).toNat = s_ga n fs (w + 1) + 1 := by
  have h1 := s_pcTo_mono fs (n - (w + 1)) (w + 1)
  have h2 := s_pcTo_up fs (n - (w + 1)) (w + 1)
  have h3 := s_pcTo_s fs w
  have h4 : (q_hl fs (w + 1)).toNat ≤ 1 := by cases q_hl fs (w + 1) <;> decide
  rw [show w + 1 + (n - (w + 1)) = n by omega] at h1 h2
  unfold s_ga s_ro
  omega
theorem s_rg_n (n fs : Nat) : s_ro n fs n = 0 ∧ s_ga n fs n = 0 := by
  unfold s_ga s_ro; omega
theorem s_rg_mono {n fs : Nat} : ∀ f u, u + f ≤ n → s_ro n fs (u + f) ≤ s_ro n fs u ∧ s_ga n fs (u + f) ≤ s_ga n fs u
  | 0, u, _ => ⟨Nat.le_refl _, Nat.le_refl _⟩
  | f + 1, u, h => by
    have ih := s_rg_mono (n := n) (fs := fs) f u (by omega)
    have := s_rg (n := n) (fs := fs) (w := u + f) (by omega)
    have h4 : (q_hl fs (u + f + 1)).toNat ≤ 1 := by cases q_hl fs (u + f + 1) <;> decide
    rw [show u + (f + 1) = u + f + 1 by omega]
    omega
theorem s_rg_lt {n fs u w : Nat} (h : u < w) (hw : w ≤ n) : (q_hl fs w = true → s_ro n fs w + 1 ≤ s_ro n fs u ∧ s_ga n fs w ≤ s_ga n fs u) ∧ (q_hl fs w = false → s_ga n fs w + 1 ≤ s_ga n fs u ∧ s_ro n fs w ≤ s_ro n fs u) := by
  have m := s_rg_mono (n := n) (fs := fs) (w - 1 - u) u (by omega)
  have s := s_rg (n := n) (fs := fs) (w := w - 1) (by omega)
  rw [show u + (w - 1 - u) = w - 1 by omega] at m
  rw [show w - 1 + 1 = w by omega] at s
  refine ⟨fun hr => ?_, fun hr => ?_⟩
  · rw [hr, Bool.toNat_true] at s; omega
  · rw [hr, Bool.toNat_false] at s; omega
theorem s_rg_n2 {n fs w : Nat} (hw : w ≤ n) : s_ro n fs w + s_ga n fs w = n - w := by
  by_cases h : w = n
  · subst h
    have := s_rg_n w fs
    omega
  · exact (s_rg (by omega)).1
def s_key (n fs i j w : Nat) : Nat := if w < i then n - w + 1 else if q_hl fs w = true then (if w = i then s_ro n fs i + s_ga n fs j + 1 else s_ro n fs w + 1) else s_ro n fs i + s_ga n fs w + 1 + (if q_hl fs i = true ∧ w ≤ j then 1 else 0)
theorem s_key_box {n fs i j : Nat} (hi : 1 ≤ i) (hij : i < j) (hj : j ≤ n) (hr : q_hl fs i = true) (hc : q_hl fs j = false) : s_key n fs i (j - 1) i = s_key n fs i j j ∧ s_key n fs i (j - 1) j = s_key n fs i j i ∧ s_key n fs i j j = s_key n fs i j i + 1 ∧ ∀ w, 1 ≤ w → w ≤ n → w ≠ i → w ≠ j → s_key n fs i (j - 1) w = s_key n fs i j w ∧ s_key n fs i j w ≠ s_key n fs i j i ∧ s_key n fs i j w ≠ s_key n fs i j j := by
  have sj := s_rg (n := n) (fs := fs) (w := j - 1) (by omega)
  rw [show j - 1 + 1 = j by omega, hc, Bool.toNat_false] at sj
  have gi := s_rg_n2 (n := n) (fs := fs) (w := i) (by omega)
  have gj := (s_rg_lt (fs := fs) hij hj).2 hc
  have e1 : s_key n fs i j i = s_ro n fs i + s_ga n fs j + 1 := by unfold s_key; rw [if_neg (by omega), if_pos hr, if_pos rfl]
  have e2 : s_key n fs i j j = s_ro n fs i + s_ga n fs j + 2 := by unfold s_key; rw [if_neg (by omega), if_neg (by rw [hc]; decide), if_pos ⟨hr, Nat.le_refl j⟩]
  have e3 : s_key n fs i (j - 1) i = s_ro n fs i + s_ga n fs (j - 1) + 1 := by unfold s_key; rw [if_neg (by omega), if_pos hr, if_pos rfl]
  have e4 : s_key n fs i (j - 1) j = s_ro n fs i + s_ga n fs j + 1 := by unfold s_key; rw [if_neg (by omega), if_neg (by rw [hc]; decide), if_neg (by omega)]
  refine ⟨by omega, by omega, by omega, fun w w1 w2 w3 w4 => ?_⟩
  rw [e1, e2]
  unfold s_key
  by_cases q1 : w < i
  · rw [if_pos q1, if_pos q1]; omega
  · rw [if_neg q1, if_neg q1]
    by_cases q2 : q_hl fs w = true
    · have gw := (s_rg_lt (fs := fs) (show i < w by omega) w2).1 q2
      rw [if_pos q2, if_pos q2, if_neg w3, if_neg w3]; omega
    · have q3 : q_hl fs w = false := by simpa using q2
      rw [if_neg q2, if_neg q2]
      by_cases q4 : w ≤ j
      · have gw := (s_rg_lt (fs := fs) (show w < j by omega) hj).2 hc
        rw [if_pos ⟨hr, by omega⟩, if_pos ⟨hr, q4⟩]; omega
      · have gw := (s_rg_lt (fs := fs) (show j < w by omega) w2).2 q3
        rw [if_neg (by omega), if_neg (by omega)]; omega
theorem s_key_no {n fs i j w : Nat} (hi : 1 ≤ i) (hij : i < j) (hj : j ≤ n) (hno : ¬ (q_hl fs i = true ∧ q_hl fs j = false)) : s_key n fs i (j - 1) w = s_key n fs i j w := by
  have sj := s_rg (n := n) (fs := fs) (w := j - 1) (by omega)
  rw [show j - 1 + 1 = j by omega] at sj
  unfold s_key
  by_cases q1 : w < i
  · rw [if_pos q1, if_pos q1]
  · rw [if_neg q1, if_neg q1]
    by_cases q2 : q_hl fs w = true
    · rw [if_pos q2, if_pos q2]
      by_cases q3 : w = i
      · rw [if_pos q3, if_pos q3]
        have hj2 : q_hl fs j = true := by
          cases hq : q_hl fs j
          · exact absurd ⟨by rw [← q3]; exact q2, hq⟩ hno
          · rfl
        rw [hj2, Bool.toNat_true] at sj
        omega
      · rw [if_neg q3, if_neg q3]
    · rw [if_neg q2, if_neg q2]
      by_cases hr : q_hl fs i = true
      · have hwj : w ≠ j := fun hh => hno ⟨hr, by rw [hh] at q2; simpa using q2⟩
        by_cases q4 : w ≤ j
        · rw [if_pos ⟨hr, by omega⟩, if_pos ⟨hr, q4⟩]
        · rw [if_neg (by omega), if_neg (by omega)]
      · rw [if_neg (fun hh => hr hh.1), if_neg (fun hh => hr hh.1)]
theorem s_key_next {n fs i w : Nat} (hi : 1 ≤ i) (hin : i < n) (h2 : w ≤ n) : s_key n fs (i + 1) n w = s_key n fs i i w := by
  have si := s_rg (n := n) (fs := fs) (w := i) hin
  have gi := s_rg_n2 (n := n) (fs := fs) (w := i) (by omega)
  have gn := s_rg_n n fs
  unfold s_key
  by_cases q1 : w < i
  · rw [if_pos (by omega), if_pos q1]
  · rw [if_neg q1]
    by_cases q2 : w = i
    · rw [if_pos (by omega), q2]
      by_cases hr : q_hl fs i = true
      · rw [if_pos hr, if_pos rfl]; omega
      · rw [if_neg hr, if_neg (fun hh => hr hh.1)]; omega
    · rw [if_neg (by omega)]
      by_cases hr : q_hl fs w = true
      · rw [if_pos hr, if_pos hr, if_neg q2]
        by_cases q3 : w = i + 1
        · rw [if_pos q3, q3]; omega
        · rw [if_neg q3]
      · rw [if_neg hr, if_neg hr, if_neg (show ¬ (q_hl fs i = true ∧ w ≤ i) from fun hh => by omega)]
        by_cases hr1 : q_hl fs (i + 1) = true
        · rw [if_pos ⟨hr1, h2⟩]
          rw [hr1, Bool.toNat_true] at si
          omega
        · have hr2 : q_hl fs (i + 1) = false := by simpa using hr1
          rw [if_neg (fun hh => hr1 hh.1)]
          rw [hr2, Bool.toNat_false] at si
          omega
theorem s_key_end {n fs w : Nat} (h1 : 1 ≤ w) (h2 : w ≤ n) : s_key n fs n n w = n - w + 1 := by
  have gn := s_rg_n n fs
  unfold s_key
  by_cases q1 : w < n
  · rw [if_pos q1]
  · have : w = n := by omega
    subst this
    rw [if_neg q1]
    by_cases hr : q_hl fs w = true
    · rw [if_pos hr, if_pos rfl]; omega
    · rw [if_neg hr, if_neg (fun hh => hr hh.1)]; omega
theorem s_key_0 {n fs w : Nat} (h1 : 1 ≤ w) (h2 : w ≤ n) : s_key n fs 1 n w = if q_hl fs w = true then s_ro n fs w + 1 else s_ro n fs 0 + s_ga n fs w + 1 := by
  have gn := s_rg_n n fs
  have s1 := s_rg (n := n) (fs := fs) (w := 0) (by omega)
  unfold s_key
  rw [if_neg (by omega)]
  by_cases hr : q_hl fs w = true
  · rw [if_pos hr, if_pos hr]
    by_cases q : w = 1
    · rw [if_pos q, q]; omega
    · rw [if_neg q]
  · rw [if_neg hr, if_neg hr]
    by_cases hr1 : q_hl fs 1 = true
    · rw [if_pos ⟨hr1, h2⟩]
      rw [show (0 : Nat) + 1 = 1 from rfl, hr1, Bool.toNat_true] at s1
      omega
    · have hr2 : q_hl fs 1 = false := by simpa using hr1
      rw [if_neg (fun hh => hr1 hh.1)]
      rw [show (0 : Nat) + 1 = 1 from rfl, hr2, Bool.toNat_false] at s1
      omega
/-! pairs in order -/
def s_asc (n : Nat) (p : Nat → Nat) : Nat := s_sum (fun u => s_sum (fun v => (decide (u < v) && decide (p u < p v)).toNat) n) n
theorem s_asc_congr {n : Nat} {p q : Nat → Nat} (h : ∀ u v, 1 ≤ u → u < v → v ≤ n → (p u < p v ↔ q u < q v)) : s_asc n p = s_asc n q := by
  refine s_sum_congr n fun u u1 u2 => s_sum_congr n fun v v1 v2 => ?_
  by_cases huv : u < v
  · rw [decide_eq_true huv, Bool.true_and, Bool.true_and, decide_eq_decide.mpr (h u v u1 huv v2)]
  · rw [decide_eq_false huv, Bool.false_and, Bool.false_and]
theorem s_asc_sw {n a c : Nat} {p q : Nat → Nat} (ha : 1 ≤ a) (hac : a < c) (hc : c ≤ n) (hp : p c = p a + 1) (hq1 : q a = p c) (hq2 : q c = p a) (hq : ∀ u, 1 ≤ u → u ≤ n → u ≠ a → u ≠ c → q u = p u ∧ p u ≠ p a ∧ p u ≠ p c) : s_asc n p = s_asc n q + 1 := by
  have e : s_asc n p = s_sum (fun u => s_sum (fun v => (decide (u < v) && decide (q u < q v)).toNat + (if v = c then (if u = a then 1 else 0) else 0)) n) n := by
    refine s_sum_congr n fun u u1 u2 => s_sum_congr n fun v v1 v2 => ?_
    have hu := hq u u1 u2
    have hv := hq v v1 v2
    by_cases huv : u < v
    · rw [decide_eq_true huv, Bool.true_and, Bool.true_and]
      by_cases k1 : v = c
      · rw [if_pos k1, k1]
        by_cases k2 : u = a
        · rw [if_pos k2, k2, decide_eq_true (show p a < p c by omega), decide_eq_false (show ¬ q a < q c by omega)]; rfl
        · rw [if_neg k2, Nat.add_zero]
          have := hu k2 (by omega)
          rw [decide_eq_decide.mpr (show p u < p c ↔ q u < q c by omega)]
      · rw [if_neg k1, Nat.add_zero]
        by_cases k2 : v = a
        · rw [k2]
          have := hu (by omega) (by omega)
          rw [decide_eq_decide.mpr (show p u < p a ↔ q u < q a by omega)]
        · have h3 := hv k2 k1
          by_cases k3 : u = a
          · rw [k3, decide_eq_decide.mpr (show p a < p v ↔ q a < q v by omega)]
          · by_cases k4 : u = c
            · rw [k4, decide_eq_decide.mpr (show p c < p v ↔ q c < q v by omega)]
            · have h4 := hu k3 k4
              rw [h3.1, h4.1]
    · rw [decide_eq_false huv, Bool.false_and, Bool.false_and]
      by_cases k1 : v = c
      · rw [if_pos k1, if_neg (by omega)]; rfl
      · rw [if_neg k1]; rfl
  rw [e, s_sum_congr (g := fun u => s_sum (fun v => (decide (u < v) && decide (q u < q v)).toNat) n + (if u = a then 1 else 0)) n (fun u u1 u2 => by rw [s_sum_add, s_sum_one (show 1 ≤ c by omega), if_pos hc]), s_sum_add, s_sum_one ha, if_pos (by omega)]
  rfl
