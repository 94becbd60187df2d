/-! what the small machine's state is in the Statement's machine -/
def q_m (ad : qR → Nat) (v : qV) : Value := match v with
  | .inl x => .int (Int32.ofInt x)
  | .inr (.inl y) => .long y
  | .inr (.inr r) => .ref (ad r)
def q_can (x : Int) : Prop := (Int32.ofInt x).toInt = x
def q_old (rs : List qR) (r : qR) : Prop := r ∈ rs ∨ r = (1, 0)
def q_vok (rs : List qR) (v : qV) : Prop := match v with
  | .inl x => q_can x
  | .inr (.inl _) => True
  | .inr (.inr r) => q_old rs r
/-- a kind that stands in the tables -/
def q_kok (k : Nat × Nat) : Prop := (k.1 = 0 ∧ k.2 < 12) ∨ ((k.1 = 1 ∨ k.1 = 2 ∨ k.1 = 3 ∨ k.1 = 4 ∨ k.1 = 5 ∨ k.1 = 6 ∨ k.1 = 11 ∨ k.1 = 15) ∧ k.2 ≤ 1000)
def q_V (rs : List qR) (E : qE) (w : qW) : Prop :=
  (∀ r ∈ rs, ∃ kn, E.1 r = some kn ∧ q_kok kn) ∧ (∀ t i k, q_can (w.1 t i k)) ∧
  (∀ r ∈ rs, ∀ kn, E.1 r = some kn → ∀ k r', w.2.2 r.1 r.2 k = some r' → (5 ≤ kn.1 → k < kn.2) → r' ∈ rs) ∧
  (∀ j, (0, j) ∈ rs → j < E.2.1) ∧ (∀ j, E.2.1 ≤ j → ∀ k, w.1 0 j k = 0 ∧ w.2.1 0 j k = 0 ∧ w.2.2 0 j k = none) ∧
  (∀ kn, E.1 (1, 0) = some kn → kn.1 = 99) ∧ (∀ i, (1, i) ∉ rs) ∧ ∀ j, j < E.2.1 → (0, j) ∈ rs
def q_fv (w : qW) (ad : qR → Nat) (r : qR) (b c : Nat) : Value := match c with
  | 0 => .int (Int32.ofInt (w.1 r.1 r.2 b))
  | _ => va_rf ((w.2.2 r.1 r.2 b).map ad)
def q_flds (w : qW) (ad : qR → Nat) (r : qR) (c : Nat) : List Value := (q_ft c).zipIdx.map (fun q => q_fv w ad r q.2 q.1)
def q_cell (dA : Nat → ClassId) (env : qR → Option (Nat × Nat)) (w : qW) (ad : qR → Nat) (r : qR) : va_E := match env r with
  | some (k, n) => if k = 0 then .inr (n, q_flds w ad r n) else if k ≤ 3 then .inl (dA k, n, .inl (fun j => Int32.ofInt (w.1 r.1 r.2 j))) else if k = 4 then .inl (dA k, n, .inr (.inl (fun j => w.2.1 r.1 r.2 j))) else .inl (dA k, n, .inr (.inr (.inr (.inr (fun j => if j < n then (w.2.2 r.1 r.2 j).map ad else none)))))
  | none => .inr (0, [])
def q_ws (dA : Nat → ClassId) (env : qR → Option (Nat × Nat)) (w : qW) (ad : qR → Nat) (rs : List qR) : va_W := rs.map (fun r => (ad r, q_cell dA env w ad r))
def q_kty (k : Nat) : FieldType := match k with
  | 1 => .int
  | 2 => .byte
  | 3 => .boolean
  | 4 => .long
  | 5 => .array .int
  | 6 => .array .long
  | 11 => .object "GrassCells$Moment"
  | _ => .object "GrassCells$Shelf"
def q_tys (dA : Nat → ClassId) : List (ClassId × FieldType) := [(dA 1, .int), (dA 2, .byte), (dA 3, .boolean), (dA 4, .long), (dA 5, .array .int), (dA 6, .array .long), (dA 11, .object "GrassCells$Moment"), (dA 15, .object "GrassCells$Shelf")]
theorem q_tys_at (dA : Nat → ClassId) {k : Nat} (h : k = 1 ∨ k = 2 ∨ k = 3 ∨ k = 4 ∨ k = 5 ∨ k = 6 ∨ k = 11 ∨ k = 15) : ∃ t0 : Nat, (q_tys dA)[t0]? = some (dA k, q_kty k) := by
  rcases h with rfl | rfl | rfl | rfl | rfl | rfl | rfl | rfl
  · exact ⟨0, rfl⟩
  · exact ⟨1, rfl⟩
  · exact ⟨2, rfl⟩
  · exact ⟨3, rfl⟩
  · exact ⟨4, rfl⟩
  · exact ⟨5, rfl⟩
  · exact ⟨6, rfl⟩
  · exact ⟨7, rfl⟩
theorem q_ws_at {dA : Nat → ClassId} {env : qR → Option (Nat × Nat)} {w : qW} {ad : qR → Nat} {rs : List qR} {r : qR} (h : r ∈ rs) : ∃ q0 : Nat, rs[q0]? = some r ∧ (q_ws dA env w ad rs)[q0]? = some (ad r, q_cell dA env w ad r) := by
  obtain ⟨i, hi⟩ := List.getElem?_of_mem h
  exact ⟨i, hi, by unfold q_ws; rw [List.getElem?_map, hi]; rfl⟩
/-- a change of one cell -/
theorem q_ws_set {A : Nat → Prop} {dA : Nat → ClassId} {env : qR → Option (Nat × Nat)} {w w' : qW} {ad : qR → Nat} {rs : List qR} {r : qR} {q0 : Nat} {e : va_E} (hD : va_D A (q_ws dA env w ad rs)) (h0 : rs[q0]? = some r) (he : e = q_cell dA env w' ad r) (ho : ∀ r', r' ≠ r → q_cell dA env w' ad r' = q_cell dA env w ad r') : (q_ws dA env w ad rs).set q0 (ad r, e) = q_ws dA env w' ad rs := by
  subst he
  have hinj : ∀ i, rs[i]? = some r → i = q0 := by
    intro i hi
    exact hD.1 i q0 (ad r, q_cell dA env w ad r) (ad r, q_cell dA env w ad r) (by unfold q_ws; rw [List.getElem?_map, hi]; rfl) (by unfold q_ws; rw [List.getElem?_map, h0]; rfl) rfl
  have hlt : q0 < (q_ws dA env w ad rs).length := by unfold q_ws; rw [List.length_map]; exact (List.getElem?_eq_some_iff.mp h0).1
  refine List.ext_getElem? fun i => ?_
  by_cases hi : i = q0
  · subst hi
    rw [List.getElem?_set_self hlt]
    unfold q_ws
    rw [List.getElem?_map, h0]
    rfl
  · rw [List.getElem?_set_ne (Ne.symm hi)]
    unfold q_ws
    rw [List.getElem?_map, List.getElem?_map]
    cases hr : rs[i]? with
    | none => rfl
    | some r' =>
      have hne : r' ≠ r := fun z => hi (hinj i (by rw [hr, z]))
      simp only [Option.map_some, ho r' hne]
theorem q_can_w (x : Int) : q_can (q_w x) := by unfold q_can q_w; rw [Int32.ofInt_toInt]
theorem q_can_i (x : Int32) : q_can x.toInt := by unfold q_can; rw [Int32.ofInt_toInt]
theorem q_ofI (x : Int32) : Int32.ofInt x.toInt = x := Int32.ofInt_toInt x
theorem q_can_iff {x : Int} : q_can x ↔ -2147483648 ≤ x ∧ x < 2147483648 := by
  unfold q_can
  rw [Int32.toInt_ofInt]
  show x.bmod 4294967296 = x ↔ _
  have h3 := Int.le_bmod (x := x) (m := 4294967296) (by decide)
  have h4 := Int.bmod_lt (x := x) (m := 4294967296) (by decide)
  constructor
  · intro h
    omega
  · intro ⟨h1, h2⟩
    exact Int.bmod_eq_of_le (by omega) (by omega)
theorem q_w_id {x : Int} (h1 : -2147483648 ≤ x) (h2 : x < 2147483648) : q_w x = x := q_can_iff.mpr ⟨h1, h2⟩
theorem q_toI {x : Int} (h : q_can x) : (Int32.ofInt x).toInt = x := h
/-- an index within -/
theorem q_in {j : Int} {n : Nat} (hc : q_can j) (h0 : 0 ≤ j) (h1 : j < n) : vp_in (Int32.ofInt j) n := by
  rw [vp_in_iff, q_toI hc]
  exact ⟨h0, h1⟩
theorem q_ixn {j : Int} (hc : q_can j) : (Int32.ofInt j).toNatClampNeg = j.toNat := by
  rw [← q_toI hc, Int32.ofInt_toInt]
  rfl
theorem q_at_mem {i : Nat} {w : Cond} (h : q_at i w = true) : w ∈ lw_tbl := by
  unfold q_at at h
  have h1 := List.mem_of_getElem? (of_decide_eq_true h)
  unfold lw_tbl
  unfold q_seg at h1
  split at h1
  · exact List.mem_append_left _ h1
  all_goals refine List.mem_append_right _ ?_
  all_goals unfold tables_1
  all_goals simp only [List.mem_append]
  all_goals simp_all
/-- a word that goes over calls by itself; one that the contracts carry -/
def q_isN (w : Cond) : Bool := match w with
  | .methodLinkNest _ _ _ _ => true
  | .arrayOver _ => true
  | _ => false
def q_T : List Cond := lw_tbl.filter goodWord
def q_N : List Cond := lw_tbl.filter q_isN
/-- the words that a step may use -/
def q_W : List Cond := q_T ++ q_N
theorem q_at_T {i : Nat} {w : Cond} (h : q_at i w = true) (hg : goodWord w = true) : w ∈ q_W := List.mem_append_left _ (List.mem_filter.mpr ⟨q_at_mem h, hg⟩)
theorem q_at_N {i : Nat} {w : Cond} (h : q_at i w = true) (hg : q_isN w = true) : w ∈ q_W := List.mem_append_right _ (List.mem_filter.mpr ⟨q_at_mem h, hg⟩)
theorem q_cls_W {ci : Nat} {C : String} {T : u_T} {N : Nat} (h : q_cls[ci]? = some (C, T, N)) : ∀ w ∈ u_ws C T N, w ∈ q_W := by
  intro w hw
  refine List.mem_append_left _ (List.mem_filter.mpr ⟨(q_cls_ok ci C T N h).2.1 w hw, ?_⟩)
  unfold u_ws at hw
  obtain ⟨k, -, rfl⟩ := List.mem_map.mp hw
  unfold u_lay
  split <;> rfl
/-! more cells: what is made -/
theorem q_cell_ext {dA : Nat → ClassId} {env env' : qR → Option (Nat × Nat)} {w w' : qW} {ad ad' : qR → Nat} {rs : List qR} {E : qE} (hV : q_V rs E w) (hE : E.1 = env) (he : ∀ r ∈ rs, env' r = env r) (ha : ∀ r ∈ rs, ad' r = ad r) (hw : ∀ r ∈ rs, ∀ k, w'.1 r.1 r.2 k = w.1 r.1 r.2 k ∧ w'.2.1 r.1 r.2 k = w.2.1 r.1 r.2 k ∧ w'.2.2 r.1 r.2 k = w.2.2 r.1 r.2 k) : ∀ r ∈ rs, q_cell dA env' w' ad' r = q_cell dA env w ad r := by
  intro r hr
  obtain ⟨⟨k, n⟩, hk, hok⟩ := hV.1 r hr
  rw [hE] at hk
  have hcl := hV.2.2.1 r hr (k, n) (by rw [hE]; exact hk)
  unfold q_cell
  rw [he r hr, hk]
  dsimp only
  by_cases h0 : k = 0
  · rw [if_pos h0, if_pos h0]
    have : q_flds w' ad' r n = q_flds w ad r n := by
      unfold q_flds
      refine List.map_congr_left fun q _ => ?_
      unfold q_fv
      split
      · rw [(hw r hr _).1]
      · rw [(hw r hr _).2.2]
        cases hq : w.2.2 r.1 r.2 q.2 with
        | none => rfl
        | some r' =>
          have := hcl q.2 r' hq (fun h5 => by dsimp only at h5; omega)
          simp only [Option.map_some, ha r' this]
    rw [this]
  · rw [if_neg h0, if_neg h0]
    by_cases h3 : k ≤ 3
    · rw [if_pos h3, if_pos h3]
      simp only [(hw r hr _).1]
    · rw [if_neg h3, if_neg h3]
      by_cases h4 : k = 4
      · rw [if_pos h4, if_pos h4]
        simp only [(hw r hr _).2.1]
      · rw [if_neg h4, if_neg h4]
        have : (fun j => if j < n then (w'.2.2 r.1 r.2 j).map ad' else none) = (fun j => if j < n then (w.2.2 r.1 r.2 j).map ad else none) := by
          funext j
          by_cases hj : j < n
          · rw [if_pos hj, if_pos hj, (hw r hr j).2.2]
            cases hq : w.2.2 r.1 r.2 j with
            | none => rfl
            | some r' =>
              have := hcl j r' hq (fun _ => hj)
              simp only [Option.map_some, ha r' this]
          · rw [if_neg hj, if_neg hj]
        rw [this]
theorem q_ws_ext {dA : Nat → ClassId} {env env' : qR → Option (Nat × Nat)} {w w' : qW} {ad ad' : qR → Nat} {rs : List qR} {E : qE} (hV : q_V rs E w) (hE : E.1 = env) (he : ∀ r ∈ rs, env' r = env r) (ha : ∀ r ∈ rs, ad' r = ad r) (hw : ∀ r ∈ rs, ∀ k, w'.1 r.1 r.2 k = w.1 r.1 r.2 k ∧ w'.2.1 r.1 r.2 k = w.2.1 r.1 r.2 k ∧ w'.2.2 r.1 r.2 k = w.2.2 r.1 r.2 k) : q_ws dA env' w' ad' rs = q_ws dA env w ad rs := by
  unfold q_ws
  refine List.map_congr_left fun r hr => ?_
  rw [ha r hr, q_cell_ext hV hE he ha hw r hr]
