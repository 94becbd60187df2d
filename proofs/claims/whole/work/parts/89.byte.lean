/-! reading: bytes, blanks, letters, digits, on both sides -/
def s_bt (sz : Nat) (V : Nat → Int) (p : Nat) : Int := if p < sz then V p else -1
def s_skf (B : Nat → Int) : Nat → Nat → Nat
  | 0, p => p
  | f + 1, p => if B p = 32 then s_skf B f (p + 1) else p
def s_sk (sz : Nat) (V : Nat → Int) (p : Nat) : Nat := s_skf (s_bt sz V) (sz - p) p
theorem s_bt_no {sz p : Nat} {V : Nat → Int} (h : sz ≤ p) : s_bt sz V p = -1 := if_neg (by omega)
theorem s_bt_lt {sz p : Nat} {V : Nat → Int} (h : s_bt sz V p ≠ -1) : p < sz := by
  by_cases hq : p < sz
  · exact hq
  · exact absurd (s_bt_no (by omega)) h
theorem s_sk_y {sz p : Nat} {V : Nat → Int} (h : s_bt sz V p = 32) : s_sk sz V p = s_sk sz V (p + 1) := by
  have hp := s_bt_lt (V := V) (sz := sz) (p := p) (by rw [h]; decide)
  unfold s_sk
  rw [show sz - p = (sz - (p + 1)) + 1 by omega]
  exact if_pos h
theorem s_sk_n {sz p : Nat} {V : Nat → Int} (h : s_bt sz V p ≠ 32) : s_sk sz V p = p := by
  unfold s_sk
  cases sz - p with
  | zero => rfl
  | succ f => exact if_neg h
theorem s_sk_gen {sz : Nat} {V : Nat → Int} : ∀ (f p : Nat), sz - p = f → p ≤ s_sk sz V p ∧ (p ≤ sz → s_sk sz V p ≤ sz) ∧ s_bt sz V (s_sk sz V p) ≠ 32 := by
  intro f
  induction f with
  | zero =>
    intro p h
    have h2 : s_bt sz V p ≠ 32 := by rw [s_bt_no (by omega)]; decide
    rw [s_sk_n h2]
    exact ⟨Nat.le_refl _, fun h => h, h2⟩
  | succ f ih =>
    intro p h
    by_cases h2 : s_bt sz V p = 32
    · rw [s_sk_y h2]
      have := ih (p + 1) (by omega)
      exact ⟨by omega, fun _ => this.2.1 (by omega), this.2.2⟩
    · rw [s_sk_n h2]
      exact ⟨Nat.le_refl _, fun h => h, h2⟩
theorem s_sk_ge {sz : Nat} {V : Nat → Int} (p : Nat) : p ≤ s_sk sz V p := (s_sk_gen _ p rfl).1
theorem s_sk_le {sz : Nat} {V : Nat → Int} {p : Nat} (h : p ≤ sz) : s_sk sz V p ≤ sz := (s_sk_gen _ p rfl).2.1 h
theorem s_sk_nb {sz : Nat} {V : Nat → Int} (p : Nat) : s_bt sz V (s_sk sz V p) ≠ 32 := (s_sk_gen _ p rfl).2.2
theorem s_sk_sk {sz : Nat} {V : Nat → Int} (p : Nat) : s_sk sz V (s_sk sz V p) = s_sk sz V p := s_sk_n (s_sk_nb p)
def s_dgt (x : Int) : Bool := decide (48 ≤ x ∧ x ≤ 57)
def s_ltr (x : Int) : Bool := decide (97 ≤ x ∧ x ≤ 122)
/-- the class's tape -/
def s_Tp (sz : Nat) (V : Nat → Int) (d : qD) : Prop := d.1 t_Ta 0 1 = (sz : Int) ∧ ∀ k, k < sz → d.1 t_bytes 0 k = V k
theorem c_Ta_at {sz p : Nat} {V : Nat → Int} (hz : sz ≤ 160) {d : qD} {b : Nat} (e : s_Tp sz V d) : q_Ev m_Ta_at 0 [q_r t_Ta 0, q_i (p : Int)] [] (q_mk d b) (q_i (s_bt sz V p), q_mk d b) := by
  unfold s_bt
  refine e_Ta_at_0 ⟨fun hh => by omega, fun _ => ⟨fun hh => ?_, fun hh => ?_⟩⟩
  · rw [e.1] at hh
    rw [if_neg (by omega)]
    exact e_Ta_at_11 (e_Ta_at_12 rfl)
  · rw [e.1] at hh
    rw [if_pos (by omega), Int.toNat_natCast, e.2 p (by omega)]
    exact ⟨by omega, by omega, e_Ta_at_12 rfl⟩
theorem c_Ta_isDigit {sz p : Nat} {V : Nat → Int} (hz : sz ≤ 160) {d : qD} {b : Nat} (e : s_Tp sz V d) : q_Ev m_Ta_isDigit 0 [q_r t_Ta 0, q_i (p : Int)] [] (q_mk d b) (q_i (q_b2i (s_dgt (s_bt sz V p))), q_mk d b) := by
  have no : ¬ (48 ≤ s_bt sz V p ∧ s_bt sz V p ≤ 57) → q_Ev m_Ta_isDigit 12 [none, none] [] (q_mk d b) (q_i (q_b2i (s_dgt (s_bt sz V p))), q_mk d b) := by
    intro h
    unfold s_dgt
    rw [decide_eq_false h]
    exact e_Ta_isDigit_12 (e_Ta_isDigit_13 ⟨by decide, by decide, rfl⟩)
  refine e_Ta_isDigit_0 ⟨_, _, c_Ta_at hz e, e_Ta_isDigit_3 ⟨fun hh => no (by omega), fun h1 => ⟨_, _, c_Ta_at hz e, e_Ta_isDigit_8 ⟨fun hh => no (by omega), fun h2 => ?_⟩⟩⟩⟩
  unfold s_dgt
  rw [decide_eq_true ⟨h1, h2⟩]
  exact e_Ta_isDigit_13 ⟨by decide, by decide, rfl⟩
theorem c_Ta_isSmallLetter {sz p : Nat} {V : Nat → Int} (hz : sz ≤ 160) {d : qD} {b : Nat} (e : s_Tp sz V d) : q_Ev m_Ta_isSmallLetter 0 [q_r t_Ta 0, q_i (p : Int)] [] (q_mk d b) (q_i (q_b2i (s_ltr (s_bt sz V p))), q_mk d b) := by
  have no : ¬ (97 ≤ s_bt sz V p ∧ s_bt sz V p ≤ 122) → q_Ev m_Ta_isSmallLetter 12 [none, none] [] (q_mk d b) (q_i (q_b2i (s_ltr (s_bt sz V p))), q_mk d b) := by
    intro h
    unfold s_ltr
    rw [decide_eq_false h]
    exact e_Ta_isSmallLetter_12 (e_Ta_isSmallLetter_13 ⟨by decide, by decide, rfl⟩)
  refine e_Ta_isSmallLetter_0 ⟨_, _, c_Ta_at hz e, e_Ta_isSmallLetter_3 ⟨fun hh => no (by omega), fun h1 => ⟨_, _, c_Ta_at hz e, e_Ta_isSmallLetter_8 ⟨fun hh => no (by omega), fun h2 => ?_⟩⟩⟩⟩
  unfold s_ltr
  rw [decide_eq_true ⟨h1, h2⟩]
  exact e_Ta_isSmallLetter_13 ⟨by decide, by decide, rfl⟩
theorem c_Re_skipBlanks {sz : Nat} {V : Nat → Int} (hz : sz ≤ 160) {b : Nat} : ∀ (f p : Nat) (d : qD), sz - p = f → p ≤ sz → s_Tp sz V d → d.1 t_Re 0 4 = (p : Int) → q_Ev m_Re_skipBlanks 0 [q_r t_Re 0] [] (q_mk d b) (none, q_mk (q_sI d t_Re 0 4 (s_sk sz V p : Int)) b) := by
  have same : ∀ (d : qD) (p : Nat), d.1 t_Re 0 4 = (p : Int) → q_sI d t_Re 0 4 (p : Int) = d := by
    intro d p h
    refine Prod.ext ?_ rfl
    funext t i k
    show (if t = t_Re ∧ i = 0 ∧ k = 4 then (p : Int) else d.1 t i k) = d.1 t i k
    by_cases hq : t = t_Re ∧ i = 0 ∧ k = 4
    · rw [if_pos hq, hq.1, hq.2.1, hq.2.2, h]
    · rw [if_neg hq]
  intro f
  induction f with
  | zero =>
    intro p d hf hp e e4
    have hps : p = sz := by omega
    rw [s_sk_n (by rw [s_bt_no (by omega)]; decide), same d p e4]
    refine e_Re_skipBlanks_0 ⟨fun _ => e_Re_skipBlanks_20 rfl, fun hh => ?_⟩
    rw [e4, e.1] at hh; omega
  | succ f ih =>
    intro p d hf hp e e4
    have k := c_Ta_at (p := p) hz (b := b) e
    refine e_Re_skipBlanks_0 ⟨fun hh => ?_, fun _ => ⟨_, _, by rw [e4]; exact k, ?_⟩⟩
    · rw [e4, e.1] at hh; omega
    · by_cases h : s_bt sz V p = 32
      · rw [h]
        refine e_Re_skipBlanks_11 ⟨fun hh => absurd rfl hh, fun _ => ?_⟩
        rw [e4, q_wS (by omega), s_sk_y h]
        have hz2 := ih (p + 1) (q_sI d t_Re 0 4 ((p + 1 : Nat) : Int)) (by omega) (by omega) ⟨by rw [q_sI_ne _ _ (by decide)]; exact e.1, fun k hk => by rw [q_sI_ne _ _ (by decide)]; exact e.2 k hk⟩ (by rw [q_sI_at, q_up_at])
        have twice : q_sI (q_sI d t_Re 0 4 ((p + 1 : Nat) : Int)) t_Re 0 4 (s_sk sz V (p + 1) : Int) = q_sI d t_Re 0 4 (s_sk sz V (p + 1) : Int) := by
          refine Prod.ext ?_ rfl
          funext t i k
          show (if t = t_Re ∧ i = 0 ∧ k = 4 then _ else (if t = t_Re ∧ i = 0 ∧ k = 4 then _ else d.1 t i k)) = (if t = t_Re ∧ i = 0 ∧ k = 4 then _ else d.1 t i k)
          by_cases hq : t = t_Re ∧ i = 0 ∧ k = 4
          · rw [if_pos hq, if_pos hq]
          · rw [if_neg hq, if_neg hq, if_neg hq]
        rw [twice] at hz2
        exact hz2
      · rw [s_sk_n h, same d p e4]
        exact e_Re_skipBlanks_11 ⟨fun _ => e_Re_skipBlanks_20 rfl, fun hh => absurd hh h⟩
theorem c_Re_skip {sz p : Nat} {V : Nat → Int} (hz : sz ≤ 160) {d : qD} {b : Nat} (hp : p ≤ sz) (e : s_Tp sz V d) (e4 : d.1 t_Re 0 4 = (p : Int)) : q_Ev m_Re_skipBlanks 0 [q_r t_Re 0] [] (q_mk d b) (none, q_mk (q_sI d t_Re 0 4 (s_sk sz V p : Int)) b) := c_Re_skipBlanks hz _ p d rfl hp e e4
/-- the model's tape -/
def s_mT (sz : Nat) (V : Nat → Int) (d : qD) : Prop := d.1 t_Md 0 1 = (sz : Int) ∧ ∀ k, k < sz → q_and (d.1 t_mTape 0 k) 255 = V k
theorem c_Md_byteAt {sz p : Nat} {V : Nat → Int} (hz : sz ≤ 160) {d : qD} {b : Nat} (e : s_mT sz V d) : q_Ev m_Md_byteAt 0 [q_r t_Md 0, q_i (p : Int)] [] (q_mk d b) (q_i (s_bt sz V p), q_mk d b) := by
  unfold s_bt
  refine e_Md_byteAt_0 ⟨fun hh => ?_, fun hh => ?_⟩
  · rw [e.1] at hh
    rw [if_neg (by omega)]
    exact e_Md_byteAt_12 rfl
  · rw [e.1] at hh
    rw [if_pos (by omega), Int.toNat_natCast, e.2 p (by omega)]
    exact ⟨by omega, by omega, e_Md_byteAt_12 rfl⟩
theorem c_Md_isDigit {x : Int} {d : qD} {b : Nat} : q_Ev m_Md_isDigit 0 [q_i x] [] (q_mk d b) (q_i (q_b2i (s_dgt x)), q_mk d b) := by
  have no : ¬ (48 ≤ x ∧ x ≤ 57) → q_Ev m_Md_isDigit 8 [none] [] (q_mk d b) (q_i (q_b2i (s_dgt x)), q_mk d b) := by
    intro h
    unfold s_dgt
    rw [decide_eq_false h]
    exact e_Md_isDigit_8 (e_Md_isDigit_9 ⟨by decide, by decide, rfl⟩)
  refine e_Md_isDigit_0 ⟨fun hh => no (by omega), fun h1 => ⟨fun hh => no (by omega), fun h2 => ?_⟩⟩
  unfold s_dgt
  rw [decide_eq_true ⟨h1, h2⟩]
  exact e_Md_isDigit_9 ⟨by decide, by decide, rfl⟩
theorem c_Md_isLetter {x : Int} {d : qD} {b : Nat} : q_Ev m_Md_isLetter 0 [q_i x] [] (q_mk d b) (q_i (q_b2i (s_ltr x)), q_mk d b) := by
  have no : ¬ (97 ≤ x ∧ x ≤ 122) → q_Ev m_Md_isLetter 8 [none] [] (q_mk d b) (q_i (q_b2i (s_ltr x)), q_mk d b) := by
    intro h
    unfold s_ltr
    rw [decide_eq_false h]
    exact e_Md_isLetter_8 (e_Md_isLetter_9 ⟨by decide, by decide, rfl⟩)
  refine e_Md_isLetter_0 ⟨fun hh => no (by omega), fun h1 => ⟨fun hh => no (by omega), fun h2 => ?_⟩⟩
  unfold s_ltr
  rw [decide_eq_true ⟨h1, h2⟩]
  exact e_Md_isLetter_9 ⟨by decide, by decide, rfl⟩
theorem s_sI_same {d : qD} {t i k : Nat} {v : Int} (h : d.1 t i k = v) : q_sI d t i k v = d := by
  refine Prod.ext ?_ rfl
  funext t' i' k'
  show (if t' = t ∧ i' = i ∧ k' = k then v else d.1 t' i' k') = d.1 t' i' k'
  by_cases hq : t' = t ∧ i' = i ∧ k' = k
  · rw [if_pos hq, hq.1, hq.2.1, hq.2.2, h]
  · rw [if_neg hq]
theorem s_sI_twice (d : qD) (t i k : Nat) (u v : Int) : q_sI (q_sI d t i k u) t i k v = q_sI d t i k v := by
  refine Prod.ext ?_ rfl
  funext t' i' k'
  show (if t' = t ∧ i' = i ∧ k' = k then v else (if t' = t ∧ i' = i ∧ k' = k then u else d.1 t' i' k')) = (if t' = t ∧ i' = i ∧ k' = k then v else d.1 t' i' k')
  by_cases hq : t' = t ∧ i' = i ∧ k' = k
  · rw [if_pos hq, if_pos hq]
  · rw [if_neg hq, if_neg hq, if_neg hq]
theorem c_Md_nextGo {sz : Nat} {V : Nat → Int} (hz : sz ≤ 160) {b : Nat} : ∀ (f p : Nat) (d : qD), sz - p = f → p ≤ 1000 → s_mT sz V d → d.1 t_Md 0 2 = (p : Int) → q_Ev m_Md_next 0 [q_r t_Md 0] [] (q_mk d b) (q_i (s_bt sz V (s_sk sz V p)), q_mk (q_sI d t_Md 0 2 (s_sk sz V p : Int)) b) := by
  have stop : ∀ (p : Nat) (d : qD), s_mT sz V d → d.1 t_Md 0 2 = (p : Int) → s_bt sz V p ≠ 32 → q_Ev m_Md_next 0 [q_r t_Md 0] [] (q_mk d b) (q_i (s_bt sz V (s_sk sz V p)), q_mk (q_sI d t_Md 0 2 (s_sk sz V p : Int)) b) := by
    intro p d e e2 h
    rw [s_sk_n h, s_sI_same e2]
    have k := c_Md_byteAt (p := p) hz (b := b) e
    rw [← e2] at k
    exact e_Md_next_0 ⟨_, _, k, e_Md_next_4 ⟨fun _ => ⟨_, _, k, e_Md_next_17 rfl⟩, fun hh => absurd hh h⟩⟩
  intro f
  induction f with
  | zero =>
    intro p d hf hp e e2
    exact stop p d e e2 (by rw [s_bt_no (by omega)]; decide)
  | succ f ih =>
    intro p d hf hp e e2
    by_cases h : s_bt sz V p = 32
    · have k := c_Md_byteAt (p := p) hz (b := b) e
      rw [h, ← e2] at k
      rw [s_sk_y h]
      refine e_Md_next_0 ⟨_, _, k, e_Md_next_4 ⟨fun hh => absurd rfl hh, fun _ => ?_⟩⟩
      rw [e2, q_wS (by omega)]
      have := ih (p + 1) (q_sI d t_Md 0 2 ((p + 1 : Nat) : Int)) (by omega) (by have := s_bt_lt (V := V) (sz := sz) (p := p) (by rw [h]; decide); omega) ⟨by rw [q_sI_at, q_up_ne _ _ (by decide)]; exact e.1, fun k hk => by rw [q_sI_ne _ _ (by decide)]; exact e.2 k hk⟩ (by rw [q_sI_at, q_up_at])
      rw [s_sI_twice] at this
      exact this
    · exact stop p d e e2 h
theorem c_Md_next {sz p : Nat} {V : Nat → Int} (hz : sz ≤ 160) {d : qD} {b : Nat} (hp : p ≤ 1000) (e : s_mT sz V d) (e2 : d.1 t_Md 0 2 = (p : Int)) : q_Ev m_Md_next 0 [q_r t_Md 0] [] (q_mk d b) (q_i (s_bt sz V (s_sk sz V p)), q_mk (q_sI d t_Md 0 2 (s_sk sz V p : Int)) b) := c_Md_nextGo hz _ p d rfl hp e e2
