/-! calls: a method's contract is its run in the small machine -/
theorem q_goodIn {ws : List Cond} (h : ∀ w ∈ ws, w ∈ q_T) : GoodIn q_W ws := fun w hw => ⟨List.mem_append_left _ (h w hw), good_of_word (List.mem_filter.mp (h w hw)).2⟩
def q_wsM (mi : Nat) : List Cond := Cond.code (q_y mi) (q_cc mi) (q_ml mi) (q_rtT mi) :: q_T
/-- the words that the contracts carry -/
def q_Nt (U : State) : Prop := ∀ w ∈ q_N, w.before #[] U = true
theorem q_N_kind {w : Cond} (h : w ∈ q_N) : (∃ a i x h, w = .methodLinkNest a i x h) ∨ ∃ ty, w = .arrayOver ty := by
  have h2 := (List.mem_filter.mp h).2
  cases w <;> first | exact Or.inl ⟨_, _, _, _, rfl⟩ | exact Or.inr ⟨_, rfl⟩ | cases h2
theorem q_Nt_use {U : State} {args : Array Value} (h : q_Nt U) : ∀ w ∈ q_N, w.before args U = true := by
  intro w hw
  rcases q_N_kind hw with ⟨a, i, x, h9, rfl⟩ | ⟨ty, rfl⟩
  · exact va_tabs rfl rfl (h _ hw)
  · exact h _ hw
theorem q_Nt_of {U : State} {args : Array Value} (h : ∀ w ∈ q_N, w.before args U = true) : q_Nt U := by
  intro w hw
  rcases q_N_kind hw with ⟨a, i, x, h9, rfl⟩ | ⟨ty, rfl⟩
  · exact va_tabs rfl rfl (h _ hw)
  · exact h _ hw
theorem q_Nt_call {U : State} {g : JFrame} {mk : MethodId} {a : Array Value} (h : q_Nt U) : q_Nt (U.calling g mk a) := by
  intro w hw
  rcases q_N_kind hw with ⟨a9, i, x, h9, rfl⟩ | ⟨ty, rfl⟩
  · exact va_tabs (A := #[]) (u := U) (U := U.calling g mk a) rfl rfl (h _ hw)
  · exact h _ hw
theorem q_AO_spec {t : FieldType} {u : State} (h : (Cond.arrayOver (.array t)).before #[] u = true) : ∃ (comp c : ClassId) (k : Class), u.vm.findClass (FieldType.array t).toString = some comp ∧ (u.vm.classes.findIdx? fun (x : Class) => match x.kind with | .array component _ => component == comp | _ => false) = some c ∧ u.vm.classes[c]? = some k ∧ k.kind = .array comp (.array t) ∧ u.vm.findClass ("[" ++ (FieldType.array t).toString) = some c := by
  unfold Cond.before at h
  simp only [Cond.holds, Cond.value, beq_iff_eq] at h
  cases hc : u.vm.findClass (FieldType.array t).toString with
  | none => simp [hc] at h
  | some comp =>
    simp only [hc, Option.bind_some, Option.bind_eq_some_iff, Option.map_eq_some_iff] at h
    obtain ⟨c, hi, k, hk, hb⟩ := h
    obtain ⟨hlt, hp, -⟩ := Array.findIdx?_eq_some_iff_getElem.mp hi
    have hkk : u.vm.classes[c] = k := (Array.getElem?_eq_some_iff.mp hk).2
    rw [hkk] at hp
    cases hkind : k.kind with
    | array component ty =>
      rw [hkind] at hb hp
      simp at hb hp
      exact ⟨comp, c, k, rfl, hi, hk, by rw [hkind, hp, hb.1], hb.2⟩
    | _ => rw [hkind] at hb; simp at hb
theorem q_AO_moved {t : FieldType} {u U : State} (hvm : u.vm.Alike U.vm) (h : (Cond.arrayOver (.array t)).before #[] u = true) : (Cond.arrayOver (.array t)).before #[] U = true := by
  obtain ⟨comp, c, k, h1, h2, h3, h4, h5⟩ := q_AO_spec h
  obtain ⟨k', hk', he⟩ := hvm.2.2 _ _ h3
  have hi : (U.vm.classes.findIdx? fun (x : Class) => match x.kind with | .array component _ => component == comp | _ => false) = some c := by
    have eb : U.vm.bare = u.vm.bare := by first | exact hvm.bare_eq | exact hvm.bare_eq.symm
    have e1 := va_idx_bare U.vm comp
    rw [eb] at e1
    exact (e1.symm.trans (va_idx_bare u.vm comp)).trans h2
  have hkind : k'.kind = .array comp (.array t) := by rw [he]; exact h4
  have f1 : U.vm.findClass (FieldType.array t).toString = some comp := by rw [hvm.findClass]; exact h1
  have f2 : U.vm.findClass ("[" ++ (FieldType.array t).toString) = some c := by rw [hvm.findClass]; exact h5
  unfold Cond.before Cond.holds
  simp only [Cond.value]
  rw [f1, Option.bind_some]
  refine (congrArg (fun o : Option Nat => (o.bind (fun c => (U.vm.classes[c]?).map fun (k : Class) => match k.kind with | .array _ ty => decide (ty = FieldType.array t) && decide (U.vm.findClass ("[" ++ (FieldType.array t).toString) = some c) | _ => false) == some true)) hi).trans ?_
  simp [hk', hkind, f2]
theorem q_Nt_warm {s U : State} (hW : s.WarmedH U.vm) (h : q_Nt s) : q_Nt U := by
  intro w hw
  have h1 := h w hw
  rcases q_N_kind hw with ⟨a, i, x, h9, rfl⟩ | ⟨ty, rfl⟩
  · exact va_Nw.use rfl (va_Nw.warmM hW (va_Nw.of rfl h1))
  · cases ty with
    | object C => exact va_AO.use (va_AO.moved hW.alike (va_AO.of h1))
    | array t => exact q_AO_moved hW.alike h1
    | _ => simp [Cond.before, Cond.holds, Cond.value] at h1
def q_Pre (D : va_G) (dA : Nat → ClassId) (ad : qR → Nat) (rs : List qR) (E : qE) (w : qW) (sz : Nat) : State → Prop := fun U => U.heap.size = sz ∧ va_P D q_cls (q_ws dA E.1 w ad rs) U.heap ∧ va_K D q_cls (q_tys dA) U ∧ va_D (fun _ => True) (q_ws dA E.1 w ad rs) ∧ q_Nt U
abbrev qS : Type := (qR → Nat) × List qR
def q_B (D : va_G) (dA : Nat → ClassId) (A1 : Nat → Prop) (ad : qR → Nat) (rs : List qR) (E' : qE) (w' : qW) (u : qS) (t : State) : Prop := q_V u.2 E' w' ∧ va_P D q_cls (q_ws dA E'.1 w' u.1 u.2) t.heap ∧ va_K D q_cls (q_tys dA) t ∧ va_D A1 (q_ws dA E'.1 w' u.1 u.2) ∧ (∀ r, q_old rs r → u.1 r = ad r) ∧ ∀ r ∈ rs, r ∈ u.2
def q_Qc (D : va_G) (dA : Nat → ClassId) (A1 : Nat → Prop) (ad : qR → Nat) (rs : List qR) (ov : Option qV) (E' : qE) (w' : qW) : Array Value → State → Outcome → State → Prop := match ov with
  | none => va_Qv (fun _ : qS => True) (q_B D dA A1 ad rs E' w') A1
  | some (.inl x) => va_Qi (fun (r : Int32) (_ : qS) => r = Int32.ofInt x ∧ q_can x) (q_B D dA A1 ad rs E' w') A1
  | some (.inr (.inl y)) => va_Ql (fun (r : Int64) (_ : qS) => r = y) (q_B D dA A1 ad rs E' w') A1
  | some (.inr (.inr r)) => va_Qr (fun u : qS => q_old u.2 r) (fun u a t => q_B D dA A1 ad rs E' w' u t ∧ a = u.1 r) A1
def q_rm (mi : Nat) (E E' : qE) : Room := { frames := q_fr mi, cells := E'.2.1 - E.2.1, slots := E'.2.2 - E.2.2, locals := q_lo mi }
def q_Met (l : Launch) (D : va_G) (dA : Nat → ClassId) (mi : Nat) (as : List qV) (ad : qR → Nat) (rs : List qR) (E : qE) (w : qW) (sz : Nat) (ov : Option qV) (E' : qE) (w' : qW) : Prop := Met l (q_y mi) (q_wsM mi) (q_rm mi E E') (va_Pc (as.map (q_m ad)) (q_Pre D dA ad rs E w sz)) (q_Qc D dA (va_A (q_ws dA E.1 w ad rs) sz) ad rs ov E' w') (E'.2.1 - E.2.1) (E'.2.2 - E.2.2) (va_A (q_ws dA E.1 w ad rs) sz)
theorem q_range_map {α : Type} (l : List α) : (List.range l.length).map (fun i => l[i]?) = l.map some := by
  refine List.ext_getElem? fun i => ?_
  rw [List.getElem?_map, List.getElem?_map]
  by_cases h : i < l.length
  · rw [List.getElem?_range h, List.getElem?_eq_getElem h]
    simp [h]
  · rw [List.getElem?_eq_none (by rw [List.length_range]; omega), List.getElem?_eq_none (by omega)]
    rfl
theorem q_blind {D : va_G} {dA : Nat → ClassId} {as : List Value} {ad : qR → Nat} {rs : List qR} {E : qE} {w : qW} {sz : Nat} : FrameBlind (va_Pc as (q_Pre D dA ad rs E w sz)) := fun a U g mk q => by
  obtain ⟨q0, q1, qP, qK, qD, qN⟩ := q
  exact ⟨q0, q1, qP, va_K.moved (u := U) (U := U.calling g mk a) (Vm.Alike.refl U.vm) qK, qD, q_Nt_call qN⟩
section QC
variable {p : Program} {l : Launch} {e : Env} {R : Room} {s : State} {m : MethodId} {args : Array Value} {below : List Frame} {meth : Method} {c : Code} {D : va_G} {dA : Nat → ClassId} {A : Nat → Prop} {H0 : Heap} {Q : State → Prop} {mi : Nat} {ov : Option qV} {E' E : qE} {w' w : qW} {pc : Nat} {loc : qLo} {st : List qV}
/-- behind a call -/
theorem q_behind {ad : qR → Nat} {rs : List qR} {H : Heap} {locs : List Loc} {ls : Array Slot} {cells slots : Nat} {st0 : List Value} {rest : List qV} {ov1 : Option qV} {E1 : qE} {w1 : qW} {a : Array Value}
    (hK0 : va_K D q_cls (q_tys dA) s) (hA : ∀ q, H0.size ≤ q → A q) (hSt : q_St D dA A H0 H locs ad rs E w) (hL : q_Lk ad rs loc ls (q_ml mi)) (hs : ∀ v ∈ rest, q_vok rs v) (hSc : q_Sc mi s A H0 ad E.1 w) (hw1 : (∀ i k, w1.1 1 i k = w.1 1 i k) ∧ E1.1 (1, 0) = E.1 (1, 0))
    (h1 : cells + (E'.2.1 - E.2.1) ≤ R.cells) (h2 : slots + (E'.2.2 - E.2.2) ≤ R.slots) (h3 : E.2.1 ≤ E1.2.1 ∧ E.2.2 ≤ E1.2.2) (h4 : E1.2.1 ≤ E'.2.1 ∧ E1.2.2 ≤ E'.2.2)
    (hK : q_K p l e R s m args below meth c D dA A H0 Q mi ov E' w' ad rs (cells + (E'.2.1 - E.2.1)) (slots + (E'.2.2 - E.2.2)))
    (hr : va_Run p l e R s m args below meth c H locs cells slots (E1.2.1 - E.2.1) (E1.2.2 - E.2.2) (F0 m pc ls st0) (rest.map (q_m ad)) (q_Qc D dA (va_A (q_ws dA E.1 w ad rs) H.size) ad rs ov1 E1 w1 a) (va_A (q_ws dA E.1 w ad rs) H.size))
    (k : q_Good p l e R s m args below meth c D dA A H0 Q mi ov E' w' (pc + 3) loc (ov1.toList ++ rest) E1 w1) : W p l e R s m args below meth c H locs cells slots Q (F0 m pc ls st0) := by
  obtain ⟨hV, hP, hD, hS⟩ := id hSt
  have hF : ∀ q, va_A (q_ws dA E.1 w ad rs) H.size q → A q := va_free hD hS hA _ (q_range_map _)
  have fin : ∀ (u : qS) (t : State) (H1 : Heap) (locs1 : List Loc), t.heap = H1 → q_B D dA (va_A (q_ws dA E.1 w ad rs) H.size) ad rs E1 w1 u t → va_S A H0 H1 locs1 → (∀ v ∈ ov1.toList, q_vok u.2 v) → W p l e R s m args below meth c H1 locs1 (cells + (E1.2.1 - E.2.1)) (slots + (E1.2.2 - E.2.2)) Q (F0 m (pc + 3) ls ((ov1.toList ++ rest).map (q_m u.1))) := by
    intro u t H1 locs1 ht hB hS1 hov
    obtain ⟨b1, b2, b3, b4, b5, b6⟩ := hB
    rw [ht] at b2
    refine k u.1 u.2 H1 locs1 ls (cells + (E1.2.1 - E.2.1)) (slots + (E1.2.2 - E.2.2)) ⟨b1, b2, b4.weaken (fun _ _ _ h => hF _ h), hS1⟩ (q_Lk_ext b5 b6 hL) (fun v hv => ?_) ?_ (by omega) (by omega) h4 ?_
    · rcases List.mem_append.mp hv with z | z
      · exact hov v z
      · exact q_vok_ext b6 (hs v z)
    · intro hm
      obtain ⟨b, L, xs, a1, a2, a3, a4, a7, a5⟩ := hSc hm
      exact ⟨b, L, xs, a1, a2, a3, by rw [b5 _ (Or.inr rfl)]; exact a4, a7, fun hn => ⟨fun k hk => by rw [hw1.1]; exact (a5 (by rw [← hw1.2]; exact hn)).1 k hk, by rw [hw1.1]; exact (a5 (by rw [← hw1.2]; exact hn)).2⟩⟩
    · have e1 : cells + (E1.2.1 - E.2.1) + (E'.2.1 - E1.2.1) = cells + (E'.2.1 - E.2.1) := by omega
      have e2 : slots + (E1.2.2 - E.2.2) + (E'.2.2 - E1.2.2) = slots + (E'.2.2 - E.2.2) := by omega
      rw [e1, e2]
      intro ad' rs' H' locs' ls' pc' c1 c2 c3 c4
      exact hK ad' rs' H' locs' ls' pc' c1 (fun r hr => (c2 r (q_old_ext b6 hr)).trans (b5 r hr)) (fun r hr => c3 r (b6 r hr)) c4
  have emap : ∀ u : qS, (∀ r, q_old rs r → u.1 r = ad r) → rest.map (q_m u.1) = rest.map (q_m ad) := fun u hu => q_map_ext hu hs
  rcases ov1 with _ | x | y | r
  · refine va_callv (a := a) hr hS (fun q _ h => hF q h) hF (fun u t H1 locs1 ht hvm hp hb hz hk hS1 => ?_)
    have := fin u t H1 locs1 ht hb hS1 (fun v hv => by cases hv)
    rw [show (none : Option qV).toList ++ rest = rest from rfl, emap u hb.2.2.2.2.1] at this
    exact this
  · refine va_calli (a := a) hr hS (fun q _ h => hF q h) hF (fun r u t H1 locs1 ht hvm hp hb hz hk hS1 => ?_)
    have := fin u t H1 locs1 ht hb hS1 (fun v hv => by rw [List.mem_singleton.mp hv]; exact hp.2)
    rw [show (some (.inl x) : Option qV).toList ++ rest = .inl x :: rest from rfl, List.map_cons, emap u hb.2.2.2.2.1] at this
    rw [hp.1]
    exact this
  · refine va_calll (a := a) hr hS (fun q _ h => hF q h) hF (fun r u t H1 locs1 ht hvm hp hb hz hk hS1 => ?_)
    have := fin u t H1 locs1 ht hb hS1 (fun v hv => by rw [List.mem_singleton.mp hv]; trivial)
    rw [show (some (.inr (.inl y)) : Option qV).toList ++ rest = .inr (.inl y) :: rest from rfl, List.map_cons, emap u hb.2.2.2.2.1] at this
    rw [hp]
    exact this
  · refine va_callr (a := a) hr hS (fun q _ h => hF q h) hF (fun u ra t H1 locs1 ht hvm hp hb hz hk hS1 => ?_)
    have := fin u t H1 locs1 ht hb.1 hS1 (fun v hv => by rw [List.mem_singleton.mp hv]; exact hp)
    rw [show (some (.inr (.inr r)) : Option qV).toList ++ rest = .inr (.inr r) :: rest from rfl, List.map_cons, emap u hb.1.2.2.2.2.1] at this
    rw [hb.2]
    exact this
/-- a method's words, as the tables have them -/
def q_MF (a : Nat) : Prop := Cond.code (q_y a) (q_cc a) (q_ml a) (q_rtT a) ∈ q_T ∧ Cond.initialized (q_y a).cls ∈ q_T ∧ ((q_y a).cls ≠ "java/lang/invoke/MethodHandle" ∧ (q_y a).cls ≠ "java/lang/invoke/VarHandle") ∧ (parseMethodDescriptor (q_y a).desc).map (fun d => d.parameters.length) = some (q_np a) ∧ plainName (q_y a).cls = true
theorem q_T_W {w : Cond} (h : w ∈ q_T) : w ∈ q_W := List.mem_append_left _ h
theorem q_wsM_in {a : Nat} (h : q_MF a) : ∀ w ∈ q_wsM a, w ∈ q_T := fun w hw => by
  rcases List.mem_cons.mp hw with z | z
  · rw [z]; exact h.1
  · exact z
theorem q_s_callV (hC : q_Cx p R s m args meth c mi) (hK0 : va_K D q_cls (q_tys dA) s) (hA : ∀ q, H0.size ≤ q → A q) (hN : q_Nt s) {a idx ci : Nat} {C : String} {T : u_T} {N : Nat} {r : qR} {as rest : List qV} {ov1 : Option qV} {E1 : qE} {w1 : qW} (hMF : q_MF a) (hl : Cond.methodLink (q_y mi).cls idx (q_y a) ∈ q_T) (hi : Cond.instanceMethod (q_y a) ∈ q_T) (hse : Cond.selects (q_y a).cls (q_y a) (q_y a) ∈ q_T) (hf : q_fr a + 1 ≤ q_fr mi) (hlo : 8 + (q_ml a + 11) + q_lo a ≤ q_lo mi) (hc : q_cls[ci]? = some (C, T, N)) (hcl : (q_y a).cls = C) (he : E.1 r = some (0, ci)) (hn : as.length = q_np a) (hsum : (rest.map q_cat).sum ≤ 8) (hst : st = as.reverse ++ .inr (.inr r) :: rest) (hdg : decode (q_cc mi) pc = .ok (.invokevirtual idx, 3)) (h3 : E.2.1 ≤ E1.2.1 ∧ E.2.2 ≤ E1.2.2) (h4 : E1.2.1 ≤ E'.2.1 ∧ E1.2.2 ≤ E'.2.2) (hw1 : (∀ i k, w1.1 1 i k = w.1 1 i k) ∧ E1.1 (1, 0) = E.1 (1, 0))
    (hM : ∀ (ad : qR → Nat) (rs : List qR) (sz : Nat), q_V rs E w → (∀ v ∈ (.inr (.inr r) :: as), q_vok rs v) → q_Met l D dA a (.inr (.inr r) :: as) ad rs E w sz ov1 E1 w1) (k : q_Good p l e R s m args below meth c D dA A H0 Q mi ov E' w' (pc + 3) loc (ov1.toList ++ rest) E1 w1) : q_Good p l e R s m args below meth c D dA A H0 Q mi ov E' w' pc loc st E w := by
  subst hst
  intro ad rs H locs ls cells slots hSt hL hs hSc h1 h2 _ hK
  obtain ⟨hV, hP, hD, hS⟩ := id hSt
  have hs1 : ∀ v ∈ as, q_vok rs v := fun v hv => hs v (List.mem_append_left _ (List.mem_reverse.mpr hv))
  have hs2 : q_vok rs (.inr (.inr r)) := hs _ (List.mem_append_right _ List.mem_cons_self)
  have hs3 : ∀ v ∈ rest, q_vok rs v := fun v hv => hs v (List.mem_append_right _ (List.mem_cons_of_mem _ hv))
  have hin := q_rs_of hV hs2 he (by simp)
  obtain ⟨q0, -, hq⟩ := q_ws_at (dA := dA) (env := E.1) (w := w) (ad := ad) hin
  rw [q_cell_o he] at hq
  have hMM := hM ad rs H.size hV (List.forall_mem_cons.mpr ⟨hs2, hs1⟩)
  have estk : ((as.reverse ++ .inr (.inr r) :: rest).map (q_m ad)) = (as.map (q_m ad)).reverse ++ .ref (ad r) :: rest.map (q_m ad) := by
    rw [List.map_append, List.map_reverse, List.map_cons]
    rfl
  rw [estk]
  have hsum' : ((rest.map (q_m ad)).map fun v => v.category).sum ≤ 8 := by
    rw [List.map_map]
    have : (fun v : Value => v.category) ∘ q_m ad = q_cat := funext fun v => q_m_cat ad v
    rw [this]
    exact hsum
  subst hcl
  have hcw := cwV (R := R) (mc := E1.2.1 - E.2.1) (ms := E1.2.2 - E.2.2) (q_np a) hC.2.2.2.2.1 (q_goodIn (ws := wsV (q_y mi).cls idx (q_y a).cls (q_y a) (q_wsM a)) (fun w hw => by
    unfold wsV at hw
    rcases List.mem_append.mp hw with z | z
    · simp only [List.mem_cons, List.not_mem_nil, or_false] at z
      rcases z with rfl | rfl | rfl | rfl
      · exact hl
      · exact hi
      · exact hse
      · exact hMF.2.1
    · exact q_wsM_in hMF w z)) (rm := q_rm a E E1) rfl rfl rfl ⟨rfl, hMF.2.2.1.1, hMF.2.2.1.2, hMF.2.2.2.1⟩ ⟨Nat.le_trans hf hC.2.2.2.2.2.2.1, Nat.le_trans hlo hC.2.2.2.2.2.2.2⟩
  have hrun := va_runV (meth := meth) (e := e) (As := as.map (q_m ad)) (rest := rest.map (q_m ad)) (b := ad r) (g := F0 m pc ls ((as.map (q_m ad)).reverse ++ .ref (ad r) :: rest.map (q_m ad))) (locs := locs) (cells := cells) (slots := slots) (H := H) (below := below) ⟨hC.1, hC.2.1, hC.2.2.1, hC.2.2.2.1, hC.2.2.2.2.1⟩ hMM hcw ⟨q_blind, va_recv hK0 hP (ci := ci) (q0 := q0) hc hq, fun U hU hW => ⟨rfl, by rw [hU], by rw [hU]; exact hP, va_K.moved hW.alike hK0, hD.weaken (fun _ _ _ _ => trivial), q_Nt_warm hW hN⟩⟩ rfl (by rw [List.length_map]; exact hn) hL.2.1 rfl (lv_room hsum') hdg ⟨by omega, by omega⟩
  exact q_behind hK0 hA hSt hL hs3 hSc hw1 h1 h2 h3 h4 hK hrun k
theorem q_s_callS (hC : q_Cx p R s m args meth c mi) (hK0 : va_K D q_cls (q_tys dA) s) (hA : ∀ q, H0.size ≤ q → A q) (hN : q_Nt s) {a idx : Nat} {as rest : List qV} {ov1 : Option qV} {E1 : qE} {w1 : qW} (hMF : q_MF a) (hl : Cond.methodLink (q_y mi).cls idx (q_y a) ∈ q_T) (hi : Cond.static (q_y a) ∈ q_T) (hf : q_fr a + 1 ≤ q_fr mi) (hlo : 8 + (q_ml a + 11) + q_lo a ≤ q_lo mi) (hn : as.length = q_np a) (hsum : (rest.map q_cat).sum ≤ 8) (hst : st = as.reverse ++ rest) (hdg : decode (q_cc mi) pc = .ok (.invokestatic idx, 3)) (h3 : E.2.1 ≤ E1.2.1 ∧ E.2.2 ≤ E1.2.2) (h4 : E1.2.1 ≤ E'.2.1 ∧ E1.2.2 ≤ E'.2.2) (hw1 : (∀ i k, w1.1 1 i k = w.1 1 i k) ∧ E1.1 (1, 0) = E.1 (1, 0))
    (hM : ∀ (ad : qR → Nat) (rs : List qR) (sz : Nat), q_V rs E w → (∀ v ∈ as, q_vok rs v) → q_Met l D dA a as ad rs E w sz ov1 E1 w1) (k : q_Good p l e R s m args below meth c D dA A H0 Q mi ov E' w' (pc + 3) loc (ov1.toList ++ rest) E1 w1) : q_Good p l e R s m args below meth c D dA A H0 Q mi ov E' w' pc loc st E w := by
  subst hst
  intro ad rs H locs ls cells slots hSt hL hs hSc h1 h2 _ hK
  obtain ⟨hV, hP, hD, hS⟩ := id hSt
  have hs1 : ∀ v ∈ as, q_vok rs v := fun v hv => hs v (List.mem_append_left _ (List.mem_reverse.mpr hv))
  have hs3 : ∀ v ∈ rest, q_vok rs v := fun v hv => hs v (List.mem_append_right _ hv)
  have hMM := hM ad rs H.size hV hs1
  have estk : ((as.reverse ++ rest).map (q_m ad)) = (as.map (q_m ad)).reverse ++ rest.map (q_m ad) := by
    rw [List.map_append, List.map_reverse]
  rw [estk]
  have hsum' : ((rest.map (q_m ad)).map fun v => v.category).sum ≤ 8 := by
    rw [List.map_map]
    have : (fun v : Value => v.category) ∘ q_m ad = q_cat := funext fun v => q_m_cat ad v
    rw [this]
    exact hsum
  have hcw := va_cwS (R := R) (mc := E1.2.1 - E.2.1) (ms := E1.2.2 - E.2.2) (q_np a) hC.2.2.2.2.1 (q_goodIn (ws := va_wsS (q_y mi).cls idx (q_y a) (q_wsM a)) (fun w hw => by
    unfold va_wsS at hw
    rcases List.mem_append.mp hw with z | z
    · simp only [List.mem_cons, List.not_mem_nil, or_false] at z
      rcases z with rfl | rfl | rfl
      · exact hl
      · exact hi
      · exact hMF.2.1
    · exact q_wsM_in hMF w z)) (rm := q_rm a E E1) rfl rfl rfl ⟨hMF.2.2.1.1, hMF.2.2.1.2, hMF.2.2.2.1⟩ ⟨Nat.le_trans hf hC.2.2.2.2.2.2.1, Nat.le_trans hlo hC.2.2.2.2.2.2.2⟩
  have hrun := va_runS (meth := meth) (e := e) (As := as.map (q_m ad)) (rest := rest.map (q_m ad)) (g := F0 m pc ls ((as.map (q_m ad)).reverse ++ rest.map (q_m ad))) (locs := locs) (cells := cells) (slots := slots) (H := H) (below := below) ⟨hC.1, hC.2.1, hC.2.2.1, hC.2.2.2.1, hC.2.2.2.2.1⟩ hMM hcw ⟨q_blind, fun U hU hW => ⟨rfl, by rw [hU], by rw [hU]; exact hP, va_K.moved hW.alike hK0, hD.weaken (fun _ _ _ _ => trivial), q_Nt_warm hW hN⟩⟩ rfl (by rw [List.length_map]; exact hn) hL.2.1 rfl (lv_room hsum') hdg ⟨by omega, by omega⟩
  exact q_behind hK0 hA hSt hL hs3 hSc hw1 h1 h2 h3 h4 hK hrun k
theorem q_s_callI (hC : q_Cx p R s m args meth c mi) (hK0 : va_K D q_cls (q_tys dA) s) (hA : ∀ q, H0.size ≤ q → A q) (hN : q_Nt s) {a idx : Nat} {r : qR} {as rest : List qV} {ov1 : Option qV} {E1 : qE} {w1 : qW} (hMF : q_MF a) (hl : Cond.methodLink (q_y mi).cls idx (q_y a) ∈ q_T ∨ Cond.methodLinkNest (q_y mi).cls idx (q_y a) "GrassCells" ∈ q_W) (hi : Cond.instanceMethod (q_y a) ∈ q_T) (hin1 : (q_y a).name = "<init>") (hrt : q_rtT a = none) (hf : q_fr a + 1 ≤ q_fr mi) (hlo : 8 + (q_ml a + 11) + q_lo a ≤ q_lo mi) (hn : as.length = q_np a) (hsum : (rest.map q_cat).sum ≤ 8) (hst : st = as.reverse ++ .inr (.inr r) :: rest) (hdg : decode (q_cc mi) pc = .ok (.invokespecial idx, 3)) (h3 : E.2.1 ≤ E1.2.1 ∧ E.2.2 ≤ E1.2.2) (h4 : E1.2.1 ≤ E'.2.1 ∧ E1.2.2 ≤ E'.2.2) (hw1 : (∀ i k, w1.1 1 i k = w.1 1 i k) ∧ E1.1 (1, 0) = E.1 (1, 0))
    (hM : ∀ (ad : qR → Nat) (rs : List qR) (sz : Nat), q_V rs E w → (∀ v ∈ (.inr (.inr r) :: as), q_vok rs v) → q_Met l D dA a (.inr (.inr r) :: as) ad rs E w sz ov1 E1 w1) (k : q_Good p l e R s m args below meth c D dA A H0 Q mi ov E' w' (pc + 3) loc (ov1.toList ++ rest) E1 w1) : q_Good p l e R s m args below meth c D dA A H0 Q mi ov E' w' pc loc st E w := by
  subst hst
  intro ad rs H locs ls cells slots hSt hL hs hSc h1 h2 _ hK
  obtain ⟨hV, hP, hD, hS⟩ := id hSt
  have hs1 : ∀ v ∈ as, q_vok rs v := fun v hv => hs v (List.mem_append_left _ (List.mem_reverse.mpr hv))
  have hs2 : q_vok rs (.inr (.inr r)) := hs _ (List.mem_append_right _ List.mem_cons_self)
  have hs3 : ∀ v ∈ rest, q_vok rs v := fun v hv => hs v (List.mem_append_right _ (List.mem_cons_of_mem _ hv))
  have hMM := hM ad rs H.size hV (List.forall_mem_cons.mpr ⟨hs2, hs1⟩)
  have estk : ((as.reverse ++ .inr (.inr r) :: rest).map (q_m ad)) = (as.map (q_m ad)).reverse ++ .ref (ad r) :: rest.map (q_m ad) := by
    rw [List.map_append, List.map_reverse, List.map_cons]
    rfl
  rw [estk]
  have hsum' : ((rest.map (q_m ad)).map fun v => v.category).sum ≤ 8 := by
    rw [List.map_map]
    have : (fun v : Value => v.category) ∘ q_m ad = q_cat := funext fun v => q_m_cat ad v
    rw [this]
    exact hsum
  have hwsM : q_wsM a = Cond.code (q_y a) (q_cc a) (q_ml a) none :: q_T := by unfold q_wsM; rw [hrt]
  have hG : GoodIn q_W (q_wsM a) := q_goodIn (q_wsM_in hMF)
  have hts := hC.2.2.2.2.1
  have hrun : va_Run p l e R s m args below meth c H locs cells slots (E1.2.1 - E.2.1) (E1.2.2 - E.2.2) (F0 m pc ls ((as.map (q_m ad)).reverse ++ .ref (ad r) :: rest.map (q_m ad))) (rest.map (q_m ad)) (q_Qc D dA (va_A (q_ws dA E.1 w ad rs) H.size) ad rs ov1 E1 w1 (Value.ref (ad r) :: as.map (q_m ad)).toArray) (va_A (q_ws dA E.1 w ad rs) H.size) := by
    rcases hl with hl | hl
    · have hcw := cwI (R := R) (own := (q_y mi).cls) (index := idx) (mc := E1.2.1 - E.2.1) (ms := E1.2.2 - E.2.2) (q_np a) hts hG hwsM (rm := q_rm a E E1) rfl rfl (hts _ (q_T_W hMF.2.1)) (hts _ (q_T_W hl)) (hts _ (q_T_W hi)) hin1 ⟨hMF.2.2.1.1, hMF.2.2.1.2, hMF.2.2.2.1⟩ ⟨Nat.le_trans hf hC.2.2.2.2.2.2.1, Nat.le_trans hlo hC.2.2.2.2.2.2.2⟩
      exact va_runI (meth := meth) (e := e) (As := as.map (q_m ad)) (rest := rest.map (q_m ad)) (b := ad r) (g := F0 m pc ls ((as.map (q_m ad)).reverse ++ .ref (ad r) :: rest.map (q_m ad))) (locs := locs) (cells := cells) (slots := slots) (H := H) (below := below) ⟨hC.1, hC.2.1, hC.2.2.1, hC.2.2.2.1, hts⟩ hMM hcw ⟨q_blind, fun U hU hW => ⟨rfl, by rw [hU], by rw [hU]; exact hP, va_K.moved hW.alike hK0, hD.weaken (fun _ _ _ _ => trivial), q_Nt_warm hW hN⟩⟩ rfl (by rw [List.length_map]; exact hn) hL.2.1 rfl (lv_room hsum') hdg ⟨by omega, by omega⟩
    · have hcn := va_cnB (R := R) (own := (q_y mi).cls) (index := idx) (host := "GrassCells") (mc := E1.2.1 - E.2.1) (ms := E1.2.2 - E.2.2) (q_np a) hts hG hwsM (rm := q_rm a E E1) rfl rfl (va_Nw.of rfl (hts _ hl)) (hts _ (q_T_W hMF.2.1)) ⟨hMF.2.2.1.1, hMF.2.2.1.2, hMF.2.2.2.1⟩ ⟨Nat.le_trans hf hC.2.2.2.2.2.2.1, Nat.le_trans hlo hC.2.2.2.2.2.2.2⟩
      exact va_runIN (meth := meth) (e := e) (As := as.map (q_m ad)) (rest := rest.map (q_m ad)) (b := ad r) (g := F0 m pc ls ((as.map (q_m ad)).reverse ++ .ref (ad r) :: rest.map (q_m ad))) (locs := locs) (cells := cells) (slots := slots) (H := H) (below := below) ⟨hC.1, hC.2.1, hC.2.2.1, hC.2.2.2.1, hts⟩ hMM ⟨hcn, hin1, hts _ (q_T_W hi)⟩ ⟨q_blind, fun U hU hW => ⟨rfl, by rw [hU], by rw [hU]; exact hP, va_K.moved hW.alike hK0, hD.weaken (fun _ _ _ _ => trivial), q_Nt_warm hW hN⟩⟩ rfl (by rw [List.length_map]; exact hn) hL.2.1 rfl (lv_room hsum') hdg ⟨by omega, by omega⟩
  exact q_behind hK0 hA hSt hL hs3 hSc hw1 h1 h2 h3 h4 hK hrun k
/-! the JDK's methods that a row of the kit tells -/
theorem q_s_objI (hC : q_Cx p R s m args meth c mi) {idx : Nat} {r : qR} (hl : Cond.methodLink (q_y mi).cls idx Lib.objectInit ∈ q_W) (hi : Cond.instanceMethod Lib.objectInit ∈ q_W) (hco : Cond.code Lib.objectInit ⟨#[0xb1]⟩ 1 none ∈ q_W) (hf : 1 ≤ q_fr mi) (hlo : 20 ≤ q_lo mi) (hsum : (st.map q_cat).sum ≤ 8) (hdg : decode (q_cc mi) pc = .ok (.invokespecial idx, 3)) (k : q_Good p l e R s m args below meth c D dA A H0 Q mi ov E' w' (pc + 3) loc st E w) : q_Good p l e R s m args below meth c D dA A H0 Q mi ov E' w' pc loc (.inr (.inr r) :: st) E w := by
  intro ad rs H locs ls cells slots hSt hL hs hSc h1 h2 h3 hK
  have hsum' : ((st.map (q_m ad)).map fun v => v.category).sum ≤ 8 := by
    rw [List.map_map]
    have : (fun v : Value => v.category) ∘ q_m ad = q_cat := funext fun v => q_m_cat ad v
    rw [this]
    exact hsum
  refine W.objInit (g := F0 m pc ls (.ref (ad r) :: st.map (q_m ad))) hC.1 hC.2.1 hC.2.2.2.1 (hC.2.2.2.2.1 _ hl) (hC.2.2.2.2.1 _ hi) (hC.2.2.2.2.1 _ hco) rfl (hL.2.1.trans hC.2.2.1.symm) rfl hdg (Nat.le_trans hf hC.2.2.2.2.2.2.1) ?_ (k ad rs H locs ls cells slots hSt hL (List.forall_mem_cons.mp hs).2 hSc h1 h2 h3 hK)
  show 2 * 0 + _ + 12 ≤ _
  have := hC.2.2.2.2.2.2.2
  omega
theorem q_s_max (hC : q_Cx p R s m args meth c mi) {idx : Nat} {x y : Int} (hl : Cond.methodLink (q_y mi).cls idx Lib.Math.max.name ∈ q_W) (hi : Cond.static Lib.Math.max.name ∈ q_W) (hini : Cond.initialized "java/lang/Math" ∈ q_W) (hco : Cond.code Lib.Math.max.name Lib.Math.max.code 2 (some .int) ∈ q_W) (hf : 1 ≤ q_fr mi) (hlo : 21 ≤ q_lo mi) (hsum : (st.map q_cat).sum ≤ 8) (hdg : decode (q_cc mi) pc = .ok (.invokestatic idx, 3)) (k : q_Good p l e R s m args below meth c D dA A H0 Q mi ov E' w' (pc + 3) loc (.inl (q_max x y) :: st) E w) : q_Good p l e R s m args below meth c D dA A H0 Q mi ov E' w' pc loc (.inl y :: .inl x :: st) E w := by
  intro ad rs H locs ls cells slots hSt hL hs hSc h1 h2 h3 hK
  have hy := (List.forall_mem_cons.mp hs).1
  have hs1 := (List.forall_mem_cons.mp hs).2
  have hx := (List.forall_mem_cons.mp hs1).1
  have hsum' : ((st.map (q_m ad)).map fun v => v.category).sum ≤ 8 := by
    rw [List.map_map]
    have : (fun v : Value => v.category) ∘ q_m ad = q_cat := funext fun v => q_m_cat ad v
    rw [this]
    exact hsum
  have hcan : q_can (q_max x y) := by unfold q_max; split <;> assumption
  have hk := k ad rs H locs ls cells slots hSt hL (List.forall_mem_cons.mpr ⟨hcan, (List.forall_mem_cons.mp hs1).2⟩) hSc h1 h2 h3 hK
  refine va_mmax hC.1 hC.2.1 (hC.2.2.1.trans hL.2.1.symm) hC.2.2.2.1 (hC.2.2.2.2.1 _ hl) (hC.2.2.2.2.1 _ hi) (hC.2.2.2.2.1 _ hini) (hC.2.2.2.2.1 _ hco) (Nat.le_trans hf hC.2.2.2.2.2.2.1) (by have := hC.2.2.2.2.2.2.2; omega) (by omega) (by omega) hdg ?_
  have ev : (if Int32.ofInt x < Int32.ofInt y then Int32.ofInt y else Int32.ofInt x) = Int32.ofInt (q_max x y) := by
    unfold q_max
    by_cases h : x < y
    · rw [if_pos h, if_pos ((q_e_lt hx hy).mpr h)]
    · rw [if_neg h, if_neg (fun z => h ((q_e_lt hx hy).mp z))]
  rw [ev]
  exact hk
theorem q_s_min (hC : q_Cx p R s m args meth c mi) {idx : Nat} {x y : Int} (hl : Cond.methodLink (q_y mi).cls idx Lib.Math.min.name ∈ q_W) (hi : Cond.static Lib.Math.min.name ∈ q_W) (hini : Cond.initialized "java/lang/Math" ∈ q_W) (hco : Cond.code Lib.Math.min.name Lib.Math.min.code 2 (some .int) ∈ q_W) (hf : 1 ≤ q_fr mi) (hlo : 21 ≤ q_lo mi) (hsum : (st.map q_cat).sum ≤ 8) (hdg : decode (q_cc mi) pc = .ok (.invokestatic idx, 3)) (k : q_Good p l e R s m args below meth c D dA A H0 Q mi ov E' w' (pc + 3) loc (.inl (q_min x y) :: st) E w) : q_Good p l e R s m args below meth c D dA A H0 Q mi ov E' w' pc loc (.inl y :: .inl x :: st) E w := by
  intro ad rs H locs ls cells slots hSt hL hs hSc h1 h2 h3 hK
  have hy := (List.forall_mem_cons.mp hs).1
  have hs1 := (List.forall_mem_cons.mp hs).2
  have hx := (List.forall_mem_cons.mp hs1).1
  have hsum' : ((st.map (q_m ad)).map fun v => v.category).sum ≤ 8 := by
    rw [List.map_map]
    have : (fun v : Value => v.category) ∘ q_m ad = q_cat := funext fun v => q_m_cat ad v
    rw [this]
    exact hsum
  have hcan : q_can (q_min x y) := by unfold q_min; split <;> assumption
  have hk := k ad rs H locs ls cells slots hSt hL (List.forall_mem_cons.mpr ⟨hcan, (List.forall_mem_cons.mp hs1).2⟩) hSc h1 h2 h3 hK
  refine va_mmin hC.1 hC.2.1 (hC.2.2.1.trans hL.2.1.symm) hC.2.2.2.1 (hC.2.2.2.2.1 _ hl) (hC.2.2.2.2.1 _ hi) (hC.2.2.2.2.1 _ hini) (hC.2.2.2.2.1 _ hco) (Nat.le_trans hf hC.2.2.2.2.2.2.1) (by have := hC.2.2.2.2.2.2.2; omega) (by omega) (by omega) hdg ?_
  have ev : (if Int32.ofInt y < Int32.ofInt x then Int32.ofInt y else Int32.ofInt x) = Int32.ofInt (q_min x y) := by
    unfold q_min
    by_cases h : y < x
    · rw [if_pos h, if_pos ((q_e_lt hy hx).mpr h)]
    · rw [if_neg h, if_neg (fun z => h ((q_e_lt hy hx).mp z))]
  rw [ev]
  exact hk
theorem q_s_labs (hC : q_Cx p R s m args meth c mi) {idx : Nat} {x : Int64} (hl : Cond.methodLink (q_y mi).cls idx Lib.MathLoose.abs_long.x ∈ q_W) (hi : Cond.static Lib.MathLoose.abs_long.x ∈ q_W) (hini : Cond.initialized "java/lang/Math" ∈ q_W) (hco : Cond.code Lib.MathLoose.abs_long.x Lib.MathLoose.abs_long.code 2 (some .long) ∈ q_W) (hf : 1 ≤ q_fr mi) (hlo : 21 ≤ q_lo mi) (hsum : (st.map q_cat).sum ≤ 8) (hdg : decode (q_cc mi) pc = .ok (.invokestatic idx, 3)) (k : q_Good p l e R s m args below meth c D dA A H0 Q mi ov E' w' (pc + 3) loc (.inr (.inl (q_labs x)) :: st) E w) : q_Good p l e R s m args below meth c D dA A H0 Q mi ov E' w' pc loc (.inr (.inl x) :: st) E w := by
  intro ad rs H locs ls cells slots hSt hL hs hSc h1 h2 h3 hK
  have hs1 := (List.forall_mem_cons.mp hs).2
  have hsum' : ((st.map (q_m ad)).map fun v => v.category).sum ≤ 8 := by
    rw [List.map_map]
    have : (fun v : Value => v.category) ∘ q_m ad = q_cat := funext fun v => q_m_cat ad v
    rw [this]
    exact hsum
  have hk := k ad rs H locs ls cells slots hSt hL (List.forall_mem_cons.mpr ⟨trivial, hs1⟩) hSc h1 h2 h3 hK
  exact va_mabs_long hC.1 hC.2.1 (hC.2.2.1.trans hL.2.1.symm) hC.2.2.2.1 (hC.2.2.2.2.1 _ hl) (hC.2.2.2.2.1 _ hi) (hC.2.2.2.2.1 _ hini) (hC.2.2.2.2.1 _ hco) (Nat.le_trans hf hC.2.2.2.2.2.2.1) (by have := hC.2.2.2.2.2.2.2; omega) (by omega) (by omega) hdg hk
end QC
