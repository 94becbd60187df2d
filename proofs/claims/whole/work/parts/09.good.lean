/-! what a state of the small machine promises of the Statement's machine; one step after another -/
def q_St (D : va_G) (dA : Nat → ClassId) (A : Nat → Prop) (H0 H : Heap) (locs : List Loc) (ad : qR → Nat) (rs : List qR) (E : qE) (w : qW) : Prop := q_V rs E w ∧ va_P D q_cls (q_ws dA E.1 w ad rs) H ∧ va_D A (q_ws dA E.1 w ad rs) ∧ va_S A H0 H locs
def q_Lk (ad : qR → Nat) (rs : List qR) (loc : qLo) (ls : Array Slot) (nL : Nat) : Prop := loc.length ≤ nL ∧ ls.size = nL ∧ lv_wf ls ∧ ∀ (i : Nat) (v : qV), loc[i]? = some (some v) → q_vok rs v ∧ ls[i]? = some (.val (q_m ad v))
def q_Sc (mi : Nat) (s : State) (A : Nat → Prop) (H0 : Heap) (ad : qR → Nat) (env : qR → Option (Nat × Nat)) (w : qW) : Prop := mi = 0 → ∃ (b L : Nat) (xs : Nat → Int32), va_X b L xs s H0 ∧ b < H0.size ∧ ¬ A b ∧ ad (1, 0) = b ∧ L ≤ 3072 ∧ (env (1, 0) ≠ none → (∀ k, k < L → w.1 1 0 k = (xs k).toInt) ∧ w.1 1 1 0 = (L : Int))
def q_ret1 (mi pc : Nat) (rs : List qR) (ov : Option qV) : Prop := match ov with
  | none => decode (q_cc mi) pc = .ok (.return_, 1) ∧ q_rtT mi = none
  | some (.inl x) => decode (q_cc mi) pc = .ok (.ireturn, 1) ∧ q_can x ∧ (q_rtT mi = some .int ∨ (q_rtT mi = some .boolean ∧ (x = 0 ∨ x = 1)))
  | some (.inr (.inl _)) => decode (q_cc mi) pc = .ok (.lreturn, 1) ∧ q_rtT mi = some .long
  | some (.inr (.inr r)) => decode (q_cc mi) pc = .ok (.areturn, 1) ∧ q_old rs r ∧ ∃ C, q_rtT mi = some (.object C)
def q_K (p : Program) (l : Launch) (e : Env) (R : Room) (s : State) (m : MethodId) (args : Array Value) (below : List Frame) (meth : Method) (c : Code) (D : va_G) (dA : Nat → ClassId) (A : Nat → Prop) (H0 : Heap) (Q : State → Prop) (mi : Nat) (ov : Option qV) (E' : qE) (w' : qW) (ad : qR → Nat) (rs : List qR) (cells slots : Nat) : Prop :=
  ∀ (ad' : qR → Nat) (rs' : List qR) (H' : Heap) (locs' : List Loc) (ls' : Array Slot) (pc : Nat), q_St D dA A H0 H' locs' ad' rs' E' w' → (∀ r, q_old rs r → ad' r = ad r) → (∀ r ∈ rs, r ∈ rs') → q_ret1 mi pc rs' ov → W p l e R s m args below meth c H' locs' cells slots Q (F0 m pc ls' (ov.toList.map (q_m ad')))
def q_pcA (mi k : Nat) : Nat := (q_pcs mi).getD k 0
def q_Good (p : Program) (l : Launch) (e : Env) (R : Room) (s : State) (m : MethodId) (args : Array Value) (below : List Frame) (meth : Method) (c : Code) (D : va_G) (dA : Nat → ClassId) (A : Nat → Prop) (H0 : Heap) (Q : State → Prop) (mi : Nat) (ov : Option qV) (E' : qE) (w' : qW) (pc : Nat) (loc : qLo) (st : List qV) (E : qE) (w : qW) : Prop :=
  ∀ (ad : qR → Nat) (rs : List qR) (H : Heap) (locs : List Loc) (ls : Array Slot) (cells slots : Nat), q_St D dA A H0 H locs ad rs E w → q_Lk ad rs loc ls (q_ml mi) → (∀ v ∈ st, q_vok rs v) → q_Sc mi s A H0 ad E.1 w → cells + (E'.2.1 - E.2.1) ≤ R.cells → slots + (E'.2.2 - E.2.2) ≤ R.slots → E.2.1 ≤ E'.2.1 ∧ E.2.2 ≤ E'.2.2 →
  q_K p l e R s m args below meth c D dA A H0 Q mi ov E' w' ad rs (cells + (E'.2.1 - E.2.1)) (slots + (E'.2.2 - E.2.2)) → W p l e R s m args below meth c H locs cells slots Q (F0 m pc ls (st.map (q_m ad)))
def q_Cx (p : Program) (R : Room) (s : State) (m : MethodId) (args : Array Value) (meth : Method) (c : Code) (mi : Nat) : Prop :=
  p.tables.exec = Jvm.exec ∧ c.code = q_cc mi ∧ c.maxLocals = q_ml mi ∧ s.vm.findClass (q_y mi).cls = some m.cls ∧ (∀ w ∈ q_W, w.before args s = true) ∧ ((q_y mi).name = "<init>" → meth.name = "<init>") ∧ q_fr mi ≤ R.frames ∧ q_lo mi ≤ R.locals
theorem q_Lk_ld {ad : qR → Nat} {rs : List qR} {loc : qLo} {ls : Array Slot} {nL i : Nat} {v : qV} (h : q_Lk ad rs loc ls nL) (hi : loc[i]? = some (some v)) : q_vok rs v ∧ ls[i]? = some (.val (q_m ad v)) := h.2.2.2 i v hi
/-- the known locals as a list -/
def q_LL (ad : qR → Nat) (loc : qLo) : List (Nat × Value) := loc.zipIdx.filterMap (fun q => q.1.map (fun v => (q.2, q_m ad v)))
theorem q_LL_mem {ad : qR → Nat} {loc : qLo} {i : Nat} {u : Value} : (i, u) ∈ q_LL ad loc ↔ ∃ v, loc[i]? = some (some v) ∧ u = q_m ad v := by
  unfold q_LL
  rw [List.mem_filterMap]
  constructor
  · rintro ⟨⟨o, j⟩, h1, h2⟩
    rw [List.mem_zipIdx_iff_getElem?] at h1
    cases o with
    | none => simp at h2
    | some v =>
      simp only [Option.map_some, Option.some.injEq, Prod.mk.injEq] at h2
      exact ⟨v, by rw [← h2.1]; exact h1, h2.2.symm⟩
  · rintro ⟨v, h1, h2⟩
    exact ⟨(some v, i), by rw [List.mem_zipIdx_iff_getElem?]; exact h1, by rw [h2]; rfl⟩
theorem q_Lk_has {ad : qR → Nat} {rs : List qR} {loc : qLo} {ls : Array Slot} {nL : Nat} (h : q_Lk ad rs loc ls nL) : lv_has ls nL (q_LL ad loc) := ⟨h.2.1, h.2.2.1, fun q hq => by
  obtain ⟨v, h1, h2⟩ := q_LL_mem.mp (show (q.1, q.2) ∈ _ from hq)
  rw [h2]
  exact (h.2.2.2 q.1 v h1).2⟩
theorem q_m_cat (ad : qR → Nat) (v : qV) : (q_m ad v).category = q_cat v := by
  rcases v with x | x | x <;> rfl
theorem q_clr_at {loc : qLo} {k i : Nat} {v : qV} (h : (q_clr loc k)[i]? = some (some v)) : loc[i]? = some (some v) ∧ ¬ (i + 1 = k ∧ q_cat v = 2) := by
  unfold q_clr at h
  split at h
  · exact ⟨h, fun z => by omega⟩
  · rename_i j
    split at h
    · rename_i y hy
      by_cases hj : j = i
      · subst hj
        by_cases hl : j < loc.length
        · rw [List.getElem?_set_self hl] at h; cases h
        · rw [List.getElem?_eq_none (by simp; omega)] at h; cases h
      · rw [List.getElem?_set_ne hj] at h
        exact ⟨h, fun z => hj (by omega)⟩
    · rename_i hno
      refine ⟨h, fun z => ?_⟩
      obtain ⟨z1, z2⟩ := z
      have : i = j := by omega
      subst this
      rcases v with x | x | x
      · cases z2
      · exact hno _ h
      · cases z2
theorem q_clr_len (loc : qLo) (k : Nat) : (q_clr loc k).length = loc.length := by
  unfold q_clr
  split
  · rfl
  · split
    · simp
    · rfl
theorem q_Lk_st1 {ad : qR → Nat} {rs : List qR} {loc : qLo} {ls' : Array Slot} {nL k : Nat} {v : qV} (hlen : loc.length ≤ nL) (hok : ∀ (i : Nat) (u : qV), loc[i]? = some (some u) → q_vok rs u) (hv : q_vok rs v) (h : lv_has ls' nL ((k, q_m ad v) :: (q_LL ad loc).filter (fun q => !(q.1 == k) && !(q.1 + 1 == k && q.2.category == 2)))) : q_Lk ad rs ((q_clr loc k).set k (some v)) ls' nL := by
  refine ⟨by rw [List.length_set, q_clr_len]; exact hlen, h.1, h.2.1, fun i u hi => ?_⟩
  by_cases hik : k = i
  · subst hik
    by_cases hl : k < (q_clr loc k).length
    · rw [List.getElem?_set_self hl] at hi
      cases hi
      exact ⟨hv, h.2.2 _ List.mem_cons_self⟩
    · rw [List.getElem?_eq_none (by rw [List.length_set]; omega)] at hi
      cases hi
  · rw [List.getElem?_set_ne hik] at hi
    obtain ⟨h1, h2⟩ := q_clr_at hi
    refine ⟨hok i u h1, h.2.2 (i, q_m ad u) (List.mem_cons_of_mem _ (List.mem_filter.mpr ⟨q_LL_mem.mpr ⟨u, h1, rfl⟩, ?_⟩))⟩
    simp only [q_m_cat, Bool.and_eq_true, Bool.not_eq_true', beq_eq_false_iff_ne, Bool.and_eq_false_imp, beq_iff_eq]
    exact ⟨fun z => hik z.symm, fun z z2 => h2 ⟨z, z2⟩⟩
theorem q_Lk_st2 {ad : qR → Nat} {rs : List qR} {loc : qLo} {ls' : Array Slot} {nL k : Nat} {v : qV} (hlen : loc.length ≤ nL) (hok : ∀ (i : Nat) (u : qV), loc[i]? = some (some u) → q_vok rs u) (hv : q_vok rs v) (h : lv_has ls' nL ((k, q_m ad v) :: (q_LL ad loc).filter (fun q => !(q.1 == k) && (!(q.1 == k + 1) && !(q.1 + 1 == k && q.2.category == 2))))) : q_Lk ad rs (((q_clr loc k).set k (some v)).set (k + 1) none) ls' nL := by
  refine ⟨by rw [List.length_set, List.length_set, q_clr_len]; exact hlen, h.1, h.2.1, fun i u hi => ?_⟩
  by_cases hi1 : k + 1 = i
  · subst hi1
    by_cases hl : k + 1 < ((q_clr loc k).set k (some v)).length
    · rw [List.getElem?_set_self hl] at hi; cases hi
    · rw [List.getElem?_eq_none (by rw [List.length_set]; omega)] at hi; cases hi
  rw [List.getElem?_set_ne hi1] at hi
  by_cases hik : k = i
  · subst hik
    by_cases hl : k < (q_clr loc k).length
    · rw [List.getElem?_set_self hl] at hi
      cases hi
      exact ⟨hv, h.2.2 _ List.mem_cons_self⟩
    · rw [List.getElem?_eq_none (by rw [List.length_set]; omega)] at hi
      cases hi
  · rw [List.getElem?_set_ne hik] at hi
    obtain ⟨h1, h2⟩ := q_clr_at hi
    refine ⟨hok i u h1, h.2.2 (i, q_m ad u) (List.mem_cons_of_mem _ (List.mem_filter.mpr ⟨q_LL_mem.mpr ⟨u, h1, rfl⟩, ?_⟩))⟩
    simp only [q_m_cat, Bool.and_eq_true, Bool.not_eq_true', beq_eq_false_iff_ne, Bool.and_eq_false_imp, beq_iff_eq]
    exact ⟨fun z => hik z.symm, fun z => hi1 z.symm, fun z z2 => h2 ⟨z, z2⟩⟩
/-! the numbers -/
theorem q_e_add (x y : Int) : Int32.ofInt (q_w (x + y)) = Int32.ofInt x + Int32.ofInt y := by unfold q_w; rw [Int32.ofInt_toInt, Int32.ofInt_add]
theorem q_e_sub (x y : Int) : Int32.ofInt (q_w (x - y)) = Int32.ofInt x - Int32.ofInt y := by unfold q_w; rw [Int32.ofInt_toInt, Int32.ofInt_sub]
theorem q_e_mul (x y : Int) : Int32.ofInt (q_w (x * y)) = Int32.ofInt x * Int32.ofInt y := by unfold q_w; rw [Int32.ofInt_toInt, Int32.ofInt_mul]
theorem q_e_neg (x : Int) : Int32.ofInt (q_w (-x)) = -Int32.ofInt x := by unfold q_w; rw [Int32.ofInt_toInt, Int32.ofInt_neg]
theorem q_e_eq {x y : Int} (hx : q_can x) (hy : q_can y) : Int32.ofInt x = Int32.ofInt y ↔ x = y := ⟨fun h => by rw [← hx, ← hy, h], fun h => by rw [h]⟩
theorem q_e_le {x y : Int} (hx : q_can x) (hy : q_can y) : Int32.ofInt x ≤ Int32.ofInt y ↔ x ≤ y := by rw [Int32.le_iff_toInt_le, hx, hy]
theorem q_e_lt {x y : Int} (hx : q_can x) (hy : q_can y) : Int32.ofInt x < Int32.ofInt y ↔ x < y := by rw [Int32.lt_iff_toInt_lt, hx, hy]
theorem q_can_0 : q_can 0 := rfl
