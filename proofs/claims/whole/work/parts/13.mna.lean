/-! begun with the rows of claim/NAMES.whole for new T[n][m]; then that step of the small machine -/
/-- f, but v at every address of l -/
def vr_up {α : Type} (f : Nat → α) (l : List Nat) (v : α) : Nat → α := fun a => if a ∈ l then v else f a
theorem vr_up_in {α : Type} {f : Nat → α} {l : List Nat} {v : α} {a : Nat} (h : a ∈ l) : vr_up f l v a = v := if_pos h
theorem vr_up_ne {α : Type} {f : Nat → α} {l : List Nat} {v : α} {a : Nat} (h : a ∉ l) : vr_up f l v a = f a := if_neg h
theorem vr_rows {L l : List Nat} {f : Nat → va_E} {e : va_E} (h : ∀ a, a ∈ l → a ∉ L) : va_pl L f ++ l.map (fun a => (a, e)) = va_pl (L ++ l) (vr_up f l e) := by
  unfold va_pl
  rw [List.map_append]
  congr 1
  · apply List.map_congr_left
    intro a ha
    rw [vr_up_ne (fun q => h a q ha)]
  · apply List.map_congr_left
    intro a ha
    rw [vr_up_in ha]
theorem vr_lay {X rows : va_W} {x : Nat × va_E} {pl : va_W} {D : va_G} {cl : List vw_C} {H : Heap} (hP : va_P D cl (((X ++ pl) ++ [x]) ++ rows) H) : va_P D cl ((X ++ [x]) ++ (pl ++ rows)) H := by
  rw [List.append_assoc (X ++ pl)] at hP
  have h := va_P.swap hP
  rw [← List.append_assoc X] at h
  have h2 := va_P.swap h
  rw [List.append_assoc (X ++ [x])] at h2
  exact h2
theorem vr_layD {X rows : va_W} {x : Nat × va_E} {pl : va_W} {A : Nat → Prop} (hD : va_D A (((X ++ pl) ++ [x]) ++ rows)) : va_D A ((X ++ [x]) ++ (pl ++ rows)) := by
  rw [List.append_assoc (X ++ pl)] at hD
  have h := va_D.swap hD
  rw [← List.append_assoc X] at h
  have h2 := va_D.swap h
  rw [List.append_assoc (X ++ [x])] at h2
  exact h2
theorem vr_outer (c : ClassId) (N h0 : Nat) : ∀ i : Nat, Jvm.Free.Multi.outerC c N h0 i = arrV c N (fun j => va_rf (if j < i then some (h0 + 1 + j) else none))
  | 0 => by
    show ({ cls := c, slots := Array.replicate N .null, vm := .none } : Cell) = _
    rw [arrV_new]
    refine congrArg (arrV c N) (funext fun j => ?_)
    simp [va_rf]
  | i + 1 => by
    show (Jvm.Free.Multi.outerC c N h0 i).setSlot i (.ref (h0 + 1 + i)) = _
    rw [vr_outer c N h0 i, arrV_store]
    refine congrArg (arrV c N) (funext fun j => ?_)
    by_cases e : j = i
    · subst e
      simp [updV, va_rf]
    · by_cases h : j < i
      · simp [updV, e, h, Nat.lt_succ_of_lt h]
      · simp [updV, e, h, show ¬ j < i + 1 by omega]
section VGM
variable {p : Program} {l : Launch} {e : Env} {R : Room} {s : State} {m : MethodId} {args : Array Value} {below : List Frame} {meth : Method} {c : Code} {H : Heap} {locs : List Loc} {cells slots : Nat} {Q : State → Prop}
variable {cc : ByteArray} {pc : Nat} {ls : Array Slot} {rest : List Value} {D : va_G} {cl : List vw_C} {A : Nat → Prop} {a : Nat} {tys : List (ClassId × FieldType)} {ws : va_W} {H0 : Heap}
theorem va_mna {X : va_W} {L : List Nat} {f : Nat → va_E} {cc : ByteArray} (hexec : p.tables.exec = Jvm.exec) (hb : c.code = cc) {own : String} {index : Nat} {ty : FieldType} {cy : ClassId} (hown : s.vm.findClass own = some m.cls) (hclink : (Cond.classLink own index ("[" ++ (FieldType.array ty).toString)).before args s = true) (hover : (Cond.arrayOver (.array ty)).before args s = true) (harr : (Cond.arrayClass ty).before args s = true) (hcy : s.vm.findClass (FieldType.array ty).toString = some cy)
    (hK : va_K D cl tys s) (hP : va_P D cl (X ++ va_pl L f) H) (hD : va_D A (X ++ va_pl L f)) (hS : va_S A H0 H locs) (hA : ∀ q, H0.size ≤ q → A q) {n k : Int32} {N' K' : Nat} {z : vp_A} (hn : ¬ n < 0) (hk : ¬ k < 0) (hN : n.toNatClampNeg = N') (hM : k.toNatClampNeg = K')
    (hb1 : N' * 4 ≤ 536870912) (hb2 : K' * componentBytes ty ≤ 536870912) (hb3 : K' ≤ 536870912) (hdf : fits ty (defaultValue ty) = true) (hdd : (defaultValue ty).isDefault = true) (hcells : cells + (1 + N') ≤ R.cells) (hslots : slots + (N' + N' * K') ≤ R.slots) (hz : ∀ c : ClassId, Jvm.Free.Multi.innerC c K' (defaultValue ty) = vp_cell c z) (hdg : decode cc pc = .ok (.multianewarray index 2, 4))
    (kk : ∀ (q : Nat) (r : Nat → Nat) (cA : ClassId) (H1 : Heap), (∀ i j : Nat, i < N' → j < N' → r i = r j → i = j) → (∀ i : Nat, i < N' → r i ∉ L) → va_K D cl (tys ++ [(cA, .array ty)]) s →
      va_P D cl ((X ++ [(q, .inl (cA, N', .inr (.inr (.inr (.inr (fun i => if i < N' then some (r i) else none))))))]) ++ va_pl (L ++ (List.range N').map r) (vr_up f ((List.range N').map r) (.inl (cy, z)))) H1 → va_D A ((X ++ [(q, .inl (cA, N', .inr (.inr (.inr (.inr (fun i => if i < N' then some (r i) else none))))))]) ++ va_pl (L ++ (List.range N').map r) (vr_up f ((List.range N').map r) (.inl (cy, z)))) → va_S A H0 H1 locs →
      W p l e R s m args below meth c H1 locs (cells + 1 + N') (slots + N' + N' * K') Q (F0 m (pc + 4) ls (.ref q :: rest))) : W p l e R s m args below meth c H locs cells slots Q (F0 m pc ls (.int k :: .int n :: rest)) := by
  subst hN
  subst hM
  intro T hT Xs
  obtain ⟨vm₁, cA, comp, -, fA, fC, hO, -, X', step⟩ := Xs.multianewarray2F hexec hown hclink hover harr (g := F0 m pc ls (.int k :: .int n :: rest)) rfl (by rw [hb]; exact hdg) rfl hn hk hb1 hb2 hb3 hdf hdd hcells hslots
  have ec : some cy = some comp := hcy.symm.trans fC
  cases ec
  generalize hF : Jvm.Free.Multi.fill (T.setVm vm₁) cA cy n.toNatClampNeg k.toNatClampNeg (defaultValue ty) n.toNatClampNeg = F at X' step
  have hTh : (T.setVm vm₁).heap = H := hT
  obtain ⟨f1, f2, -, -⟩ := Jvm.Free.Multi.fill_facts (T.setVm vm₁) cA cy n.toNatClampNeg k.toNatClampNeg (defaultValue ty) n.toNatClampNeg
  rw [hF, hTh] at f1 f2
  have hold : ∀ x : Nat, x < H.size → F.heap[x]? = H[x]? := fun x hx => by
    have := Jvm.Free.Multi.fill_old (T.setVm vm₁) cA cy n.toNatClampNeg k.toNatClampNeg (defaultValue ty) (a := x) (by rw [hTh]; exact hx) n.toNatClampNeg
    rw [hF, hTh] at this
    exact this
  have hrow : ∀ j : Nat, j < n.toNatClampNeg → F.heap[H.size + 1 + j]? = some (vp_cell cy z) := fun j hj => by
    have := Jvm.Free.Multi.fill_inner (T.setVm vm₁) cA cy n.toNatClampNeg k.toNatClampNeg (defaultValue ty) n.toNatClampNeg j hj
    rw [hF, hTh, hz] at this
    exact this
  have hout : Jvm.Free.Multi.outerC cA n.toNatClampNeg H.size n.toNatClampNeg = vp_cell cA (n.toNatClampNeg, .inr (.inr (.inr (.inr (fun i => if i < n.toNatClampNeg then some (H.size + 1 + i) else none))))) := by
    rw [vp_cell_q]
    exact vr_outer cA n.toNatClampNeg H.size n.toNatClampNeg
  rw [hout] at f2
  have hlt : ∀ a, a ∈ L → a < H.size := fun a ha => by
    obtain ⟨k9, hk9⟩ := va_pl_get (X := X) (f := f) ha
    exact (hP k9 _ hk9).lt
  have hnl : ∀ i : Nat, i < n.toNatClampNeg → H.size + 1 + i ∉ L := fun i _ h => by
    have := hlt _ h
    omega
  have hnm : ∀ a, a ∈ (List.range n.toNatClampNeg).map (fun i => H.size + 1 + i) → a ∉ L := fun a ha h => by
    obtain ⟨i, -, rfl⟩ := List.mem_map.mp ha
    have := hlt _ h
    omega
  have hP0 : va_P D cl (X ++ va_pl L f) F.heap := hP.kept (fun k9 x hx => hold x.1 ((hP k9 x hx).lt))
  have hP1 : va_P D cl ((X ++ va_pl L f) ++ [(H.size, .inl (cA, n.toNatClampNeg, .inr (.inr (.inr (.inr (fun i => if i < n.toNatClampNeg then some (H.size + 1 + i) else none))))))]) F.heap := hP0.app (fun k9 x hx => by
    have h0 : k9 < 1 := (List.getElem?_eq_some_iff.mp hx).1
    rw [show k9 = 0 by omega] at hx
    cases hx
    exact f2)
  have hP2 : va_P D cl (((X ++ va_pl L f) ++ [(H.size, .inl (cA, n.toNatClampNeg, .inr (.inr (.inr (.inr (fun i => if i < n.toNatClampNeg then some (H.size + 1 + i) else none))))))]) ++ ((List.range n.toNatClampNeg).map (fun i => H.size + 1 + i)).map (fun a => (a, .inl (cy, z)))) F.heap := hP1.app (fun k9 x hx => by
    obtain ⟨a, ha, rfl⟩ := List.mem_map.mp (List.mem_of_getElem? hx)
    obtain ⟨i, hi, rfl⟩ := List.mem_map.mp ha
    exact hrow i (List.mem_range.mp hi))
  have hD2 : va_D A (((X ++ va_pl L f) ++ [(H.size, .inl (cA, n.toNatClampNeg, .inr (.inr (.inr (.inr (fun i => if i < n.toNatClampNeg then some (H.size + 1 + i) else none))))))]) ++ ((List.range n.toNatClampNeg).map (fun i => H.size + 1 + i)).map (fun a => (a, .inl (cy, z)))) := by
    have hD1 := hD.push (e := .inl (cA, n.toNatClampNeg, .inr (.inr (.inr (.inr (fun i => if i < n.toNatClampNeg then some (H.size + 1 + i) else none)))))) hP rfl (hA _ hS.1)
    generalize hW1 : (X ++ va_pl L f) ++ [(H.size, .inl (cA, n.toNatClampNeg, .inr (.inr (.inr (.inr (fun i => if i < n.toNatClampNeg then some (H.size + 1 + i) else none))))))] = W1 at hD1 hP1 ⊢
    have hle : ∀ (k9 : Nat) (x : Nat × va_E), W1[k9]? = some x → x.1 ≤ H.size := fun k9 x hx => by
      rw [← hW1] at hx
      by_cases hl : k9 < (X ++ va_pl L f).length
      · rw [List.getElem?_append_left hl] at hx
        exact Nat.le_of_lt ((hP k9 x hx).lt)
      · rw [List.getElem?_append_right (by omega)] at hx
        have h0 : k9 - (X ++ va_pl L f).length < 1 := (List.getElem?_eq_some_iff.mp hx).1
        rw [show k9 - (X ++ va_pl L f).length = 0 by omega] at hx
        cases hx
        exact Nat.le_refl _
    have hr : ∀ (k9 : Nat) (x : Nat × va_E), (((List.range n.toNatClampNeg).map (fun i => H.size + 1 + i)).map (fun a => ((a, .inl (cy, z)) : Nat × va_E)))[k9]? = some x → x.1 = H.size + 1 + k9 := fun k9 x hx => by
      rw [List.getElem?_map, List.getElem?_map] at hx
      by_cases h9 : k9 < n.toNatClampNeg
      · rw [List.getElem?_range h9] at hx
        cases hx
        rfl
      · have hn0 : (List.range n.toNatClampNeg)[k9]? = none := List.getElem?_eq_none (by rw [List.length_range]; omega)
        rw [hn0] at hx
        cases hx
    refine ⟨fun i j x y hi hj hxy => ?_, fun k9 x hx => ?_⟩
    · by_cases h1 : i < W1.length <;> by_cases h2 : j < W1.length
      · rw [List.getElem?_append_left h1] at hi
        rw [List.getElem?_append_left h2] at hj
        exact hD1.1 i j x y hi hj hxy
      · rw [List.getElem?_append_left h1] at hi
        rw [List.getElem?_append_right (by omega)] at hj
        have := hle _ _ hi
        have := hr _ _ hj
        omega
      · rw [List.getElem?_append_right (by omega)] at hi
        rw [List.getElem?_append_left h2] at hj
        have := hle _ _ hj
        have := hr _ _ hi
        omega
      · rw [List.getElem?_append_right (by omega)] at hi hj
        have := hr _ _ hi
        have := hr _ _ hj
        omega
    · by_cases h1 : k9 < W1.length
      · rw [List.getElem?_append_left h1] at hx
        exact hD1.2 k9 x hx
      · rw [List.getElem?_append_right (by omega)] at hx
        have := hr _ _ hx
        exact hA _ (by have := hS.1; omega)
  have hAr : ArrOfT s cA (.array ty) := fun N9 z9 => by
    obtain ⟨-, k9, hk9, cm9, hkk9⟩ := (hO 0 0 0).1
    exact ⟨(fun q hq => by cases hq), k9, hk9, cm9, hkk9⟩
  have hK2 : va_K D cl (tys ++ [(cA, .array ty)]) s := ⟨hK.1, fun k9 x hx => by
    by_cases hl : k9 < tys.length
    · rw [List.getElem?_append_left hl] at hx
      exact hK.2 k9 x hx
    · rw [List.getElem?_append_right (by omega)] at hx
      have h0 : k9 - tys.length < 1 := (List.getElem?_eq_some_iff.mp hx).1
      rw [show k9 - tys.length = 0 by omega] at hx
      cases hx
      exact ⟨hAr, fA⟩⟩
  obtain ⟨t, a1, b1⟩ := kk H.size (fun i => H.size + 1 + i) cA F.heap (fun i j _ _ h => by have h9 : H.size + 1 + i = H.size + 1 + j := h; omega) hnl hK2 (by rw [← vr_rows hnm]; exact vr_lay hP2) (by rw [← vr_rows hnm]; exact vr_layD hD2) ⟨by rw [f1]; have := hS.1; omega, fun x h1 h2 => (hold x (Nat.lt_of_lt_of_le h1 hS.1)).trans (hS.2.1 x h1 h2), hS.2.2⟩ F rfl X'
  refine ⟨t, step t ?_, b1⟩
  have e : T.heap.size = H.size := by rw [hT]
  rw [e]
  exact a1
end VGM
section QM
variable {p : Program} {l : Launch} {e : Env} {R : Room} {s : State} {m : MethodId} {args : Array Value} {below : List Frame} {meth : Method} {c : Code} {D : va_G} {dA : Nat → ClassId} {A : Nat → Prop} {H0 : Heap} {Q : State → Prop} {mi : Nat} {ov : Option qV} {E' E : qE} {w' w : qW} {pc : Nat} {loc : qLo} {st : List qV}
/-- the address function behind a row of rows -/
def q_adm (ad : qR → Nat) (nx n q : Nat) (r : Nat → Nat) : qR → Nat := fun x => if x = (0, nx) then q else if x.1 = 0 ∧ nx + 1 ≤ x.2 ∧ x.2 < nx + 1 + n then r (x.2 - (nx + 1)) else ad x
def q_newr (nx n : Nat) : List qR := (0, nx) :: (List.range n).map (fun i => (0, nx + 1 + i))
def q_envm (E : qR → Option (Nat × Nat)) (nx kk n kb m : Nat) : qR → Option (Nat × Nat) := q_rows (q_kset E (0, nx) (kk, n)) (nx + 1) n (kb, m)
theorem q_newr_mem {nx n : Nat} {x : qR} : x ∈ q_newr nx n ↔ x.1 = 0 ∧ nx ≤ x.2 ∧ x.2 < nx + 1 + n := by
  obtain ⟨t, j⟩ := x
  unfold q_newr
  rw [List.mem_cons, List.mem_map]
  constructor
  · rintro (h | ⟨i, h1, h2⟩)
    · simp only [Prod.mk.injEq] at h
      dsimp only
      omega
    · rw [List.mem_range] at h1
      simp only [Prod.mk.injEq] at h2
      dsimp only
      omega
  · rintro ⟨h1, h2, h3⟩
    dsimp only at h1 h2 h3
    subst h1
    by_cases hj : j = nx
    · left; rw [hj]
    · right; exact ⟨j - (nx + 1), List.mem_range.mpr (by omega), by simp only [Prod.mk.injEq, true_and]; omega⟩
theorem q_envm_old {E : qR → Option (Nat × Nat)} {nx kk n kb m : Nat} {x : qR} (h : ¬ (x.1 = 0 ∧ nx ≤ x.2)) : q_envm E nx kk n kb m x = E x := by
  unfold q_envm q_rows q_kset
  rw [if_neg (fun z => h ⟨z.1, by omega⟩), if_neg (fun z => h (by rw [z]; exact ⟨rfl, Nat.le_refl _⟩))]
theorem q_envm_top {E : qR → Option (Nat × Nat)} {nx kk n kb m : Nat} : q_envm E nx kk n kb m (0, nx) = some (kk, n) := by
  unfold q_envm q_rows q_kset
  rw [if_neg (by dsimp only; omega), if_pos rfl]
theorem q_envm_row {E : qR → Option (Nat × Nat)} {nx kk n kb m i : Nat} (hi : i < n) : q_envm E nx kk n kb m (0, nx + 1 + i) = some (kb, m) := by
  unfold q_envm q_rows
  rw [if_pos (by dsimp only; omega)]
theorem q_V_rows {rs : List qR} {E : qE} {w : qW} {kk n kb mm sl : Nat} (hV : q_V rs E w) (hk : q_kok (kk, n)) (hb : q_kok (kb, mm)) (hb5 : kb < 5) : q_V (rs ++ q_newr E.2.1 n) (q_envm E.1 E.2.1 kk n kb mm, E.2.1 + (1 + n), sl) (q_setRs w E.2.1 n) := by
  obtain ⟨v1, v2, v3, v4, v5, v6, v7⟩ := hV
  have hold : ∀ r ∈ rs, ¬ (r.1 = 0 ∧ E.2.1 ≤ r.2) := fun r hr z => by
    have := v4 r.2 (by rw [← z.1]; exact hr)
    omega
  refine ⟨fun r hr => ?_, v2, fun r hr kn he k' r' hr' h5 => ?_, fun j hj => ?_, fun j hj k => ⟨(v5 j (by dsimp only at hj; omega) k).1, (v5 j (by dsimp only at hj; omega) k).2.1, ?_⟩, fun kn he => ?_, fun i hi => ?_, fun j hj => ?_⟩
  · rcases List.mem_append.mp hr with z | z
    · dsimp only
      rw [q_envm_old (hold r z)]
      exact v1 r z
    · obtain ⟨z1, z2, z3⟩ := q_newr_mem.mp z
      obtain ⟨t, j⟩ := r
      dsimp only at z1 z2 z3
      subst z1
      by_cases hj : j = E.2.1
      · subst hj
        exact ⟨_, q_envm_top, hk⟩
      · refine ⟨_, ?_, hb⟩
        have := q_envm_row (E := E.1) (nx := E.2.1) (kk := kk) (kb := kb) (m := mm) (i := j - (E.2.1 + 1)) (n := n) (by omega)
        rw [show E.2.1 + 1 + (j - (E.2.1 + 1)) = j by omega] at this
        exact this
  · rcases List.mem_append.mp hr with z | z
    · dsimp only at he
      rw [q_envm_old (hold r z)] at he
      unfold q_setRs at hr'
      dsimp only at hr'
      rw [if_neg (fun y => hold r z ⟨y.1, by omega⟩)] at hr'
      exact List.mem_append_left _ (v3 r z kn he k' r' hr' h5)
    · unfold q_setRs at hr'
      dsimp only at hr'
      split at hr'
      · rename_i hc
        cases hr'
        exact List.mem_append_right _ (q_newr_mem.mpr ⟨rfl, by dsimp only; omega, by dsimp only; omega⟩)
      · obtain ⟨z1, z2, z3⟩ := q_newr_mem.mp z
        have := (v5 r.2 z2 k').2.2
        rw [← z1] at this
        rw [this] at hr'
        cases hr'
  · dsimp only
    rcases List.mem_append.mp hj with z | z
    · have := v4 j z
      omega
    · obtain ⟨z1, z2, z3⟩ := q_newr_mem.mp z
      dsimp only at z1 z2 z3
      omega
  · unfold q_setRs
    dsimp only at hj ⊢
    rw [if_neg (by omega)]
    exact (v5 j (by omega) k).2.2
  · dsimp only at he
    rw [q_envm_old (by simp)] at he
    exact v6 kn he
  · rcases List.mem_append.mp hi with z | z
    · exact v7.1 i z
    · have := (q_newr_mem.mp z).1
      simp at this
  · by_cases hje : j < E.2.1
    · exact List.mem_append_left _ (v7.2 j hje)
    · exact List.mem_append_right _ (q_newr_mem.mpr ⟨rfl, by dsimp only; omega, by dsimp only at hj ⊢; omega⟩)
theorem q_s_mnaI (hC : q_Cx p R s m args meth c mi) (hK0 : va_K D q_cls (q_tys dA) s) (hA : ∀ q, H0.size ≤ q → A q) {n mm : Int} (h0 : 0 ≤ n) (h1000 : n ≤ 1000) (hm0 : 0 ≤ mm) (hm1000 : mm ≤ 1000) {idx : Nat} (hw1 : Cond.classLink (q_y mi).cls idx ("[" ++ (FieldType.array .int).toString) ∈ q_W) (hw2 : Cond.arrayOver (.array .int) ∈ q_W) (hw3 : Cond.arrayClass .int ∈ q_W) (hm1 : E.2.1 + (1 + n.toNat) ≤ E'.2.1) (hm2 : E.2.2 + (n.toNat + n.toNat * mm.toNat) ≤ E'.2.2) (hdg : decode (q_cc mi) pc = .ok (.multianewarray idx 2, 4)) (k : q_Good p l e R s m args below meth c D dA A H0 Q mi ov E' w' (pc + 4) loc (.inr (.inr (0, E.2.1)) :: st) (q_envm E.1 E.2.1 5 n.toNat 1 mm.toNat, E.2.1 + (1 + n.toNat), E.2.2 + (n.toNat + n.toNat * mm.toNat)) (q_setRs w E.2.1 n.toNat)) : q_Good p l e R s m args below meth c D dA A H0 Q mi ov E' w' pc loc (.inl mm :: .inl n :: st) E w := by
  intro ad rs H locs ls cells slots hSt hL hs0 hSc h1 h2 h3 hK
  obtain ⟨hV, hP, hD, hS⟩ := id hSt
  have hs1 := (List.forall_mem_cons.mp hs0).2
  have hs := (List.forall_mem_cons.mp hs1).2
  have hcn := (List.forall_mem_cons.mp hs1).1
  have hcm := (List.forall_mem_cons.mp hs0).1
  have hV1 := q_V_rows (sl := E.2.2 + (n.toNat + n.toNat * mm.toNat)) (kk := 5) (n := n.toNat) (kb := 1) (mm := mm.toNat) hV (Or.inr ⟨by simp, by dsimp only; omega⟩) (Or.inr ⟨by simp, by dsimp only; omega⟩) (by decide)
  have hold : ∀ r ∈ rs, ¬ (r.1 = 0 ∧ E.2.1 ≤ r.2) := fun r hr z => by
    have := hV.2.2.2.1 r.2 (by rw [← z.1]; exact hr)
    omega
  obtain ⟨t1, ht1⟩ := q_tys_at dA (k := 1) (by decide)
  have hcy : s.vm.findClass (FieldType.array .int).toString = some (dA 1) := (hK0.2 t1 _ ht1).2
  have hz : ∀ i, i < n.toNat → ∀ j, w.1 0 (E.2.1 + 1 + i) j = 0 ∧ w.2.1 0 (E.2.1 + 1 + i) j = 0 := fun i _ j => ⟨(hV.2.2.2.2.1 _ (by omega) j).1, (hV.2.2.2.2.1 _ (by omega) j).2.1⟩
  refine va_mna (X := q_ws dA E.1 w ad rs) (L := []) (f := fun _ => .inr (0, [])) (N' := n.toNat) (K' := mm.toNat) (z := (mm.toNat, .inl (fun _ => 0))) (cy := dA 1) (ty := .int) hC.1 hC.2.1 hC.2.2.2.1 (hC.2.2.2.2.1 _ hw1) (hC.2.2.2.2.1 _ hw2) (hC.2.2.2.2.1 _ hw3) hcy hK0 (by simpa [va_pl] using hP) (by simpa [va_pl] using hD) hS hA (fun z => by have := (q_e_lt hcn q_can_0).mp z; omega) (fun z => by have := (q_e_lt hcm q_can_0).mp z; omega) (q_ixn hcn) (q_ixn hcm) (by omega) (Nat.le_trans (Nat.mul_le_mul_left _ (show componentBytes (.int : FieldType) ≤ 8 by decide)) (by omega)) (by omega) rfl rfl (by omega) (by omega) (fun c => ?_) hdg (fun q r cA H1 hinj _ a0 a1 a2 a3 => ?_)
  · rw [Jvm.Free.Multi.innerC, arrV_new]
    rfl
  · have hcA := q_dA_eq (k := 5) hK0 (by decide) a0
    subst hcA
    have hag : ∀ x, q_old rs x → q_adm ad E.2.1 n.toNat q r x = ad x := fun x hx => by
      unfold q_adm
      rcases hx with y | y
      · rw [if_neg (fun z => hold x y (by rw [z]; exact ⟨rfl, Nat.le_refl _⟩)), if_neg (fun z => hold x y ⟨z.1, by omega⟩)]
      · subst y; rw [if_neg (by simp), if_neg (by simp)]
    have hsub : ∀ x ∈ rs, x ∈ rs ++ q_newr E.2.1 n.toNat := fun x hx => List.mem_append_left _ hx
    have htop : q_adm ad E.2.1 n.toNat q r (0, E.2.1) = q := if_pos rfl
    have hrow : ∀ i, i < n.toNat → q_adm ad E.2.1 n.toNat q r (0, E.2.1 + 1 + i) = r i := fun i hi => by
      unfold q_adm
      rw [if_neg (by simp only [Prod.mk.injEq]; omega), if_pos (by dsimp only; omega)]
      dsimp only
      congr 1
      omega
    have hws : (q_ws dA E.1 w ad rs ++ [(q, .inl (dA 5, n.toNat, .inr (.inr (.inr (.inr (fun i => if i < n.toNat then some (r i) else none))))))]) ++ va_pl ([] ++ (List.range n.toNat).map r) (vr_up (fun _ => .inr (0, [])) ((List.range n.toNat).map r) (.inl (dA 1, mm.toNat, .inl (fun _ => 0)))) = q_ws dA (q_envm E.1 E.2.1 5 n.toNat 1 mm.toNat) (q_setRs w E.2.1 n.toNat) (q_adm ad E.2.1 n.toNat q r) (rs ++ q_newr E.2.1 n.toNat) := by
      rw [List.append_assoc]
      unfold q_ws
      rw [List.map_append]
      congr 1
      · exact (q_ws_ext (dA := dA) (env' := q_envm E.1 E.2.1 5 n.toNat 1 mm.toNat) (w' := q_setRs w E.2.1 n.toNat) (ad' := q_adm ad E.2.1 n.toNat q r) hV rfl (fun x hx => q_envm_old (hold x hx)) (fun x hx => hag x (Or.inl hx)) (fun x hx k => ⟨rfl, rfl, by unfold q_setRs; dsimp only; rw [if_neg (fun z => hold x hx ⟨z.1, by omega⟩)]⟩)).symm
      · unfold q_newr
        rw [List.map_cons, List.singleton_append, htop]
        congr 1
        · congr 1
          rw [q_cell_q (k := 5) (n := n.toNat) q_envm_top (by decide)]
          congr 7
          funext j
          by_cases hj : j < n.toNat
          · rw [if_pos hj, if_pos hj]
            unfold q_setRs
            dsimp only
            rw [if_pos ⟨rfl, rfl, hj⟩, Option.map_some, hrow j hj]
          · rw [if_neg hj, if_neg hj]
        · unfold va_pl
          rw [List.nil_append, List.map_map, List.map_map]
          refine List.map_congr_left fun i hi => ?_
          have hi' := List.mem_range.mp hi
          simp only [Function.comp]
          rw [hrow i hi', vr_up_in (List.mem_map_of_mem hi), q_cell_i (q_envm_row hi') (by simp)]
          congr 5
          funext j
          first | (show _ = Int32.ofInt (w.1 0 (E.2.1 + 1 + i) j); rw [(hz i hi' j).1]; rfl) | (show _ = w.2.1 0 (E.2.1 + 1 + i) j; rw [(hz i hi' j).2])
    rw [hws] at a1 a2
    have he10 : q_envm E.1 E.2.1 5 n.toNat 1 mm.toNat (1, 0) = E.1 (1, 0) := q_envm_old (by simp)
    have hk := k (q_adm ad E.2.1 n.toNat q r) (rs ++ q_newr E.2.1 n.toNat) H1 locs ls (cells + 1 + n.toNat) (slots + n.toNat + n.toNat * mm.toNat) ⟨hV1, a1, a2, a3⟩ (q_Lk_ext hag hsub hL) (List.forall_mem_cons.mpr ⟨Or.inl (List.mem_append_right _ (q_newr_mem.mpr ⟨rfl, Nat.le_refl _, by dsimp only; omega⟩)), fun v hv => q_vok_ext hsub (hs v hv)⟩) (q_Sc_ext hSc (hag _ (Or.inr rfl)) rfl he10) (by dsimp only; omega) (by dsimp only; omega) (by dsimp only; omega) (by
      have e1 : cells + 1 + n.toNat + (E'.2.1 - (E.2.1 + (1 + n.toNat))) = cells + (E'.2.1 - E.2.1) := by omega
      have e2 : slots + n.toNat + n.toNat * mm.toNat + (E'.2.2 - (E.2.2 + (n.toNat + n.toNat * mm.toNat))) = slots + (E'.2.2 - E.2.2) := by omega
      dsimp only
      rw [e1, e2]
      intro ad' rs' H' locs' ls' pc' b1 b2 b3 b4
      exact hK ad' rs' H' locs' ls' pc' b1 (fun x hx => (b2 x (q_old_ext hsub hx)).trans (hag x hx)) (fun x hx => b3 x (hsub x hx)) b4)
    have ev : List.map (q_m (q_adm ad E.2.1 n.toNat q r)) (.inr (.inr (0, E.2.1)) :: st) = .ref q :: st.map (q_m ad) := by
      rw [List.map_cons, q_map_ext hag hs]
      simp only [q_m, htop]
    rw [ev] at hk
    exact hk
theorem q_s_mnaJ (hC : q_Cx p R s m args meth c mi) (hK0 : va_K D q_cls (q_tys dA) s) (hA : ∀ q, H0.size ≤ q → A q) {n mm : Int} (h0 : 0 ≤ n) (h1000 : n ≤ 1000) (hm0 : 0 ≤ mm) (hm1000 : mm ≤ 1000) {idx : Nat} (hw1 : Cond.classLink (q_y mi).cls idx ("[" ++ (FieldType.array .long).toString) ∈ q_W) (hw2 : Cond.arrayOver (.array .long) ∈ q_W) (hw3 : Cond.arrayClass .long ∈ q_W) (hm1 : E.2.1 + (1 + n.toNat) ≤ E'.2.1) (hm2 : E.2.2 + (n.toNat + n.toNat * mm.toNat) ≤ E'.2.2) (hdg : decode (q_cc mi) pc = .ok (.multianewarray idx 2, 4)) (k : q_Good p l e R s m args below meth c D dA A H0 Q mi ov E' w' (pc + 4) loc (.inr (.inr (0, E.2.1)) :: st) (q_envm E.1 E.2.1 6 n.toNat 4 mm.toNat, E.2.1 + (1 + n.toNat), E.2.2 + (n.toNat + n.toNat * mm.toNat)) (q_setRs w E.2.1 n.toNat)) : q_Good p l e R s m args below meth c D dA A H0 Q mi ov E' w' pc loc (.inl mm :: .inl n :: st) E w := by
  intro ad rs H locs ls cells slots hSt hL hs0 hSc h1 h2 h3 hK
  obtain ⟨hV, hP, hD, hS⟩ := id hSt
  have hs1 := (List.forall_mem_cons.mp hs0).2
  have hs := (List.forall_mem_cons.mp hs1).2
  have hcn := (List.forall_mem_cons.mp hs1).1
  have hcm := (List.forall_mem_cons.mp hs0).1
  have hV1 := q_V_rows (sl := E.2.2 + (n.toNat + n.toNat * mm.toNat)) (kk := 6) (n := n.toNat) (kb := 4) (mm := mm.toNat) hV (Or.inr ⟨by simp, by dsimp only; omega⟩) (Or.inr ⟨by simp, by dsimp only; omega⟩) (by decide)
  have hold : ∀ r ∈ rs, ¬ (r.1 = 0 ∧ E.2.1 ≤ r.2) := fun r hr z => by
    have := hV.2.2.2.1 r.2 (by rw [← z.1]; exact hr)
    omega
  obtain ⟨t1, ht1⟩ := q_tys_at dA (k := 4) (by decide)
  have hcy : s.vm.findClass (FieldType.array .long).toString = some (dA 4) := (hK0.2 t1 _ ht1).2
  have hz : ∀ i, i < n.toNat → ∀ j, w.1 0 (E.2.1 + 1 + i) j = 0 ∧ w.2.1 0 (E.2.1 + 1 + i) j = 0 := fun i _ j => ⟨(hV.2.2.2.2.1 _ (by omega) j).1, (hV.2.2.2.2.1 _ (by omega) j).2.1⟩
  refine va_mna (X := q_ws dA E.1 w ad rs) (L := []) (f := fun _ => .inr (0, [])) (N' := n.toNat) (K' := mm.toNat) (z := (mm.toNat, .inr (.inl (fun _ => 0)))) (cy := dA 4) (ty := .long) hC.1 hC.2.1 hC.2.2.2.1 (hC.2.2.2.2.1 _ hw1) (hC.2.2.2.2.1 _ hw2) (hC.2.2.2.2.1 _ hw3) hcy hK0 (by simpa [va_pl] using hP) (by simpa [va_pl] using hD) hS hA (fun z => by have := (q_e_lt hcn q_can_0).mp z; omega) (fun z => by have := (q_e_lt hcm q_can_0).mp z; omega) (q_ixn hcn) (q_ixn hcm) (by omega) (Nat.le_trans (Nat.mul_le_mul_left _ (show componentBytes (.long : FieldType) ≤ 8 by decide)) (by omega)) (by omega) rfl rfl (by omega) (by omega) (fun c => ?_) hdg (fun q r cA H1 hinj _ a0 a1 a2 a3 => ?_)
  · rw [Jvm.Free.Multi.innerC, arrV_new]
    rfl
  · have hcA := q_dA_eq (k := 6) hK0 (by decide) a0
    subst hcA
    have hag : ∀ x, q_old rs x → q_adm ad E.2.1 n.toNat q r x = ad x := fun x hx => by
      unfold q_adm
      rcases hx with y | y
      · rw [if_neg (fun z => hold x y (by rw [z]; exact ⟨rfl, Nat.le_refl _⟩)), if_neg (fun z => hold x y ⟨z.1, by omega⟩)]
      · subst y; rw [if_neg (by simp), if_neg (by simp)]
    have hsub : ∀ x ∈ rs, x ∈ rs ++ q_newr E.2.1 n.toNat := fun x hx => List.mem_append_left _ hx
    have htop : q_adm ad E.2.1 n.toNat q r (0, E.2.1) = q := if_pos rfl
    have hrow : ∀ i, i < n.toNat → q_adm ad E.2.1 n.toNat q r (0, E.2.1 + 1 + i) = r i := fun i hi => by
      unfold q_adm
      rw [if_neg (by simp only [Prod.mk.injEq]; omega), if_pos (by dsimp only; omega)]
      dsimp only
      congr 1
      omega
    have hws : (q_ws dA E.1 w ad rs ++ [(q, .inl (dA 6, n.toNat, .inr (.inr (.inr (.inr (fun i => if i < n.toNat then some (r i) else none))))))]) ++ va_pl ([] ++ (List.range n.toNat).map r) (vr_up (fun _ => .inr (0, [])) ((List.range n.toNat).map r) (.inl (dA 4, mm.toNat, .inr (.inl (fun _ => 0))))) = q_ws dA (q_envm E.1 E.2.1 6 n.toNat 4 mm.toNat) (q_setRs w E.2.1 n.toNat) (q_adm ad E.2.1 n.toNat q r) (rs ++ q_newr E.2.1 n.toNat) := by
      rw [List.append_assoc]
      unfold q_ws
      rw [List.map_append]
      congr 1
      · exact (q_ws_ext (dA := dA) (env' := q_envm E.1 E.2.1 6 n.toNat 4 mm.toNat) (w' := q_setRs w E.2.1 n.toNat) (ad' := q_adm ad E.2.1 n.toNat q r) hV rfl (fun x hx => q_envm_old (hold x hx)) (fun x hx => hag x (Or.inl hx)) (fun x hx k => ⟨rfl, rfl, by unfold q_setRs; dsimp only; rw [if_neg (fun z => hold x hx ⟨z.1, by omega⟩)]⟩)).symm
      · unfold q_newr
        rw [List.map_cons, List.singleton_append, htop]
        congr 1
        · congr 1
          rw [q_cell_q (k := 6) (n := n.toNat) q_envm_top (by decide)]
          congr 7
          funext j
          by_cases hj : j < n.toNat
          · rw [if_pos hj, if_pos hj]
            unfold q_setRs
            dsimp only
            rw [if_pos ⟨rfl, rfl, hj⟩, Option.map_some, hrow j hj]
          · rw [if_neg hj, if_neg hj]
        · unfold va_pl
          rw [List.nil_append, List.map_map, List.map_map]
          refine List.map_congr_left fun i hi => ?_
          have hi' := List.mem_range.mp hi
          simp only [Function.comp]
          rw [hrow i hi', vr_up_in (List.mem_map_of_mem hi), q_cell_l (q_envm_row hi')]
          congr 6
          funext j
          first | (show _ = Int32.ofInt (w.1 0 (E.2.1 + 1 + i) j); rw [(hz i hi' j).1]; rfl) | (show _ = w.2.1 0 (E.2.1 + 1 + i) j; rw [(hz i hi' j).2])
    rw [hws] at a1 a2
    have he10 : q_envm E.1 E.2.1 6 n.toNat 4 mm.toNat (1, 0) = E.1 (1, 0) := q_envm_old (by simp)
    have hk := k (q_adm ad E.2.1 n.toNat q r) (rs ++ q_newr E.2.1 n.toNat) H1 locs ls (cells + 1 + n.toNat) (slots + n.toNat + n.toNat * mm.toNat) ⟨hV1, a1, a2, a3⟩ (q_Lk_ext hag hsub hL) (List.forall_mem_cons.mpr ⟨Or.inl (List.mem_append_right _ (q_newr_mem.mpr ⟨rfl, Nat.le_refl _, by dsimp only; omega⟩)), fun v hv => q_vok_ext hsub (hs v hv)⟩) (q_Sc_ext hSc (hag _ (Or.inr rfl)) rfl he10) (by dsimp only; omega) (by dsimp only; omega) (by dsimp only; omega) (by
      have e1 : cells + 1 + n.toNat + (E'.2.1 - (E.2.1 + (1 + n.toNat))) = cells + (E'.2.1 - E.2.1) := by omega
      have e2 : slots + n.toNat + n.toNat * mm.toNat + (E'.2.2 - (E.2.2 + (n.toNat + n.toNat * mm.toNat))) = slots + (E'.2.2 - E.2.2) := by omega
      dsimp only
      rw [e1, e2]
      intro ad' rs' H' locs' ls' pc' b1 b2 b3 b4
      exact hK ad' rs' H' locs' ls' pc' b1 (fun x hx => (b2 x (q_old_ext hsub hx)).trans (hag x hx)) (fun x hx => b3 x (hsub x hx)) b4)
    have ev : List.map (q_m (q_adm ad E.2.1 n.toNat q r)) (.inr (.inr (0, E.2.1)) :: st) = .ref q :: st.map (q_m ad) := by
      rw [List.map_cons, q_map_ext hag hs]
      simp only [q_m, htop]
    rw [ev] at hk
    exact hk
end QM
