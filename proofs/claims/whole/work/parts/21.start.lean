/-! begun with kit/laws/SKELETON.whole; the law from its entry, out of its loop in the small machine -/
def R_law : String := "GrassCellsLaw"
def lw_P (b : Addr) (xs : List Int32) (args : Array Value) (s : State) : Prop := args = #[.ref b] ∧ s.IntsAt b xs ∧ xs.length ≤ 3072 ∧ (Jvm.Cond.and given_1 narrow_1).before args s = true
def lw_Q (_ : Array Value) (s : State) (o : Outcome) (t : State) : Prop := o = .returned (some (.int 1)) ∧ Framed s o t [] 600000 7302250
def lw_Z (below : List Frame) (a : Array Value) (s : State) : State → Prop := fun t => ∃ o, t.status = .running ∧ Ended t below o ∧ lw_Q a s o t
/-- the law's own end, with 1 on the stack, nothing written that was there before, its room as the claim has it -/
theorem lw_ret {p : Program} {l : Launch} {e : Env} {s : State} {m : MethodId} {below : List Frame} {meth : Method} {c : Code} {b : Nat} (hx : p.tables.exec = Jvm.exec) (hb : c.code = code) (hr : meth.sig.returnType = ret) (hlocks : meth.locks = false) {pc : Nat} {H : Heap} {ls : Array Slot} (hdg : decode code pc = .ok (.ireturn, 1)) : W p l e room_1 s m #[Value.ref b] below meth c H [] 600000 7302250 (lw_Z below #[Value.ref b] s) (F0 m pc ls [.int 1]) := by
  intro T hT X
  obtain ⟨fs, hret, hrun, hended, hW, hframe⟩ := X.leave (v := some (.int 1)) (hlocks := hlocks) (fun h => by rw [hr] at h; cases h)
  have hmeth' : T.vm.method? m = some meth := X.method'
  refine ⟨T.setFrames fs, ?_, .returned (some (.int 1)), hrun, hended, rfl, ⟨_, rfl⟩, hW, hframe⟩
  jvm_step X.here [X.here.top, hx, hb, hdg, hmeth', hr, ret, narrow_b1]
  (try refine ⟨rfl, ?_⟩); (try refine ⟨rfl, ?_⟩)
  first | (intro acts; rw [hret _ acts rfl rfl rfl]) | rw [hret _ _ rfl rfl rfl]
  exact Steps.refl _
/-- what holds at the law's entry: the machine, the code, the tables' words (any of lw_tbl by 'hts w (by decide +kernel)'), the script of L ints xs at the cell b, what the Statement gives of the start (any of its parts by flat_of_before) -/
def lw_At (p : Program) (s : State) (m : MethodId) (meth : Method) (c : Code) (b L : Nat) (xs : Nat → Int32) : Prop :=
  p.tables.exec = Jvm.exec ∧ c.code = code ∧ meth.sig.returnType = ret ∧ c.maxLocals = 4 ∧ s.vm.findClass R_law = some m.cls ∧ (∀ w ∈ lw_tbl, w.before #[Value.ref b] s = true) ∧ va_X b L xs s s.heap ∧ b < s.heap.size ∧ meth.locks = false ∧ (Jvm.Cond.and given_1 narrow_1).before #[Value.ref b] s = true

/-- what is due of the small machine: from its loop on the law answers 1 -/
def q_Goal : Prop := ∀ (xs : Nat → Int32) (L : Nat), L ≤ 3072 → ∃ w', q_Ev m_Law_law 10 [some (.inr (.inr (1, 0))), some (.inr (.inr (t_GC, 0))), some (.inr (.inr (t_Md, 0))), some (.inl 0)] [] (q_ws0 xs L) (some (.inl 1), w')
theorem q_arr1 {s : State} {A : Array Value} {ty : FieldType} (hty : ∀ C, ty ≠ .object C) (h : (Cond.arrayClass ty).before A s = true) : ∃ cA, ArrOfT s cA ty ∧ va_RA s cA ty := by
  obtain ⟨cA, kA, comp, h1, h2, h3⟩ := Cond.arrayClass_spec h
  refine ⟨cA, fun n z => ⟨fun k h => (by cases h), kA, h2, comp, h3⟩, ?_⟩
  cases ty with
  | object C => exact absurd rfl (hty C)
  | _ => exact h1
theorem q_arr2 {s : State} {t : FieldType} (h : (Cond.arrayOver (.array t)).before #[] s = true) : ∃ cA, ArrOfT s cA (.array t) ∧ va_RA s cA (.array t) := by
  obtain ⟨comp, c, k, h1, h2, h3, h4, h5⟩ := q_AO_spec h
  exact ⟨c, fun n z => ⟨fun k h => (by cases h), k, h3, comp, h4⟩, h5⟩
theorem q_arr3 {s : State} {C : String} (h : (Cond.arrayOver (.object C)).before #[] s = true) : ∃ cA, ArrOfT s cA (.object C) ∧ va_RA s cA (.object C) := by
  obtain ⟨comp, c, k, h1, h2, h3, h4, h5⟩ := Cond.arrayOver_spec h
  exact ⟨c, fun n z => ⟨fun k h => (by cases h), k, h3, comp, h4⟩, k, comp, h3, h4, h1, h5⟩
theorem q_K_all {s : State} {A : Array Value} (hts : ∀ w ∈ lw_tbl, w.before A s = true) : ∃ (D : va_G) (dA : Nat → ClassId), va_K D q_cls (q_tys dA) s := by
  have hi : ∀ {w : Cond} (i : Nat), q_at i w = true → w.before A s = true := fun i h => hts _ (q_at_mem h)
  have H : ∀ ci : Nat, ∃ (cC : ClassId) (iS : Nat → Nat), ∀ q, q_cls[ci]? = some q → u_Kn s q.1 q.2.1 q.2.2 cC iS := by
    intro ci
    by_cases hlt : ci < 12
    · have hz : ci = 0 ∨ ci = 1 ∨ ci = 2 ∨ ci = 3 ∨ ci = 4 ∨ ci = 5 ∨ ci = 6 ∨ ci = 7 ∨ ci = 8 ∨ ci = 9 ∨ ci = 10 ∨ ci = 11 := by omega
      rcases hz with rfl | rfl | rfl | rfl | rfl | rfl | rfl | rfl | rfl | rfl | rfl | rfl
      · obtain ⟨cC, iS, h⟩ := u_known (C := RX0) (T := TX0) (N := 9) (n := 9) hts iX0 (hi 1112 (by decide +kernel)); exact ⟨cC, iS, fun q hq => by cases hq; exact h⟩
      · obtain ⟨cC, iS, h⟩ := u_known (C := RX1) (T := TX1) (N := 2) (n := 2) hts iX1 (hi 2003 (by decide +kernel)); exact ⟨cC, iS, fun q hq => by cases hq; exact h⟩
      · obtain ⟨cC, iS, h⟩ := u_known (C := RX2) (T := TX2) (N := 2) (n := 2) hts iX2 (hi 1173 (by decide +kernel)); exact ⟨cC, iS, fun q hq => by cases hq; exact h⟩
      · obtain ⟨cC, iS, h⟩ := u_known (C := RX3) (T := TX3) (N := 8) (n := 8) hts iX3 (hi 1049 (by decide +kernel)); exact ⟨cC, iS, fun q hq => by cases hq; exact h⟩
      · obtain ⟨cC, iS, h⟩ := u_known (C := RX4) (T := TX4) (N := 3) (n := 3) hts iX4 (hi 1209 (by decide +kernel)); exact ⟨cC, iS, fun q hq => by cases hq; exact h⟩
      · obtain ⟨cC, iS, h⟩ := u_known (C := RX5) (T := TX5) (N := 2) (n := 2) hts iX5 (hi 1188 (by decide +kernel)); exact ⟨cC, iS, fun q hq => by cases hq; exact h⟩
      · obtain ⟨cC, iS, h⟩ := u_known (C := RX6) (T := TX6) (N := 3) (n := 3) hts iX6 (hi 1202 (by decide +kernel)); exact ⟨cC, iS, fun q hq => by cases hq; exact h⟩
      · obtain ⟨cC, iS, h⟩ := u_known (C := RX7) (T := TX7) (N := 8) (n := 8) hts iX7 (hi 1027 (by decide +kernel)); exact ⟨cC, iS, fun q hq => by cases hq; exact h⟩
      · obtain ⟨cC, iS, h⟩ := u_known (C := RX9) (T := TX9) (N := 4) (n := 4) hts iX9 (hi 2019 (by decide +kernel)); exact ⟨cC, iS, fun q hq => by cases hq; exact h⟩
      · obtain ⟨cC, iS, h⟩ := u_known (C := RX10) (T := TX10) (N := 2) (n := 2) hts iX10 (hi 1033 (by decide +kernel)); exact ⟨cC, iS, fun q hq => by cases hq; exact h⟩
      · obtain ⟨cC, iS, h⟩ := u_known (C := RX11) (T := TX11) (N := 8) (n := 8) hts iX11 (hi 1019 (by decide +kernel)); exact ⟨cC, iS, fun q hq => by cases hq; exact h⟩
      · obtain ⟨cC, iS, h⟩ := u_known (C := RX12) (T := TX12) (N := 28) (n := 28) hts iX12 (hi 4095 (by decide +kernel)); exact ⟨cC, iS, fun q hq => by cases hq; exact h⟩
    · refine ⟨0, fun _ => 0, fun q hq => ?_⟩
      rw [List.getElem?_eq_none (by show 12 ≤ ci; omega)] at hq
      cases hq
  have HA : ∀ k : Nat, ∃ cA : ClassId, (k = 1 ∨ k = 2 ∨ k = 3 ∨ k = 4 ∨ k = 5 ∨ k = 6 ∨ k = 11 ∨ k = 15) → ArrOfT s cA (q_kty k) ∧ va_RA s cA (q_kty k) := by
    intro k
    by_cases hk : k = 1 ∨ k = 2 ∨ k = 3 ∨ k = 4 ∨ k = 5 ∨ k = 6 ∨ k = 11 ∨ k = 15
    · rcases hk with rfl | rfl | rfl | rfl | rfl | rfl | rfl | rfl
      · obtain ⟨cA, h⟩ := q_arr1 (ty := .int) (fun _ => by simp) (hi 1047 (by decide +kernel)); exact ⟨cA, fun _ => h⟩
      · obtain ⟨cA, h⟩ := q_arr1 (ty := .byte) (fun _ => by simp) (hi 4185 (by decide +kernel)); exact ⟨cA, fun _ => h⟩
      · obtain ⟨cA, h⟩ := q_arr1 (ty := .boolean) (fun _ => by simp) (hi 1171 (by decide +kernel)); exact ⟨cA, fun _ => h⟩
      · obtain ⟨cA, h⟩ := q_arr1 (ty := .long) (fun _ => by simp) (hi 1082 (by decide +kernel)); exact ⟨cA, fun _ => h⟩
      · obtain ⟨cA, h⟩ := q_arr2 (t := .int) (hi (w := .arrayOver (.array .int)) 2009 (by decide +kernel)); exact ⟨cA, fun _ => h⟩
      · obtain ⟨cA, h⟩ := q_arr2 (t := .long) (hi (w := .arrayOver (.array .long)) 1055 (by decide +kernel)); exact ⟨cA, fun _ => h⟩
      · obtain ⟨cA, h⟩ := q_arr3 (C := "GrassCells$Moment") (hi (w := .arrayOver (.object "GrassCells$Moment")) 1208 (by decide +kernel)); exact ⟨cA, fun _ => h⟩
      · obtain ⟨cA, h⟩ := q_arr3 (C := "GrassCells$Shelf") (hi (w := .arrayOver (.object "GrassCells$Shelf")) 2018 (by decide +kernel)); exact ⟨cA, fun _ => h⟩
    · exact ⟨0, fun z => absurd z hk⟩
  refine ⟨(fun ci => (H ci).choose, fun ci => (H ci).choose_spec.choose), fun k => (HA k).choose, fun ci q hq => (H ci).choose_spec.choose_spec q hq, fun k q hq => ?_⟩
  have hz : ∀ kk : Nat, (kk = 1 ∨ kk = 2 ∨ kk = 3 ∨ kk = 4 ∨ kk = 5 ∨ kk = 6 ∨ kk = 11 ∨ kk = 15) → ArrOfT s ((HA kk).choose) (q_kty kk) ∧ va_RA s ((HA kk).choose) (q_kty kk) := fun kk h => (HA kk).choose_spec h
  match k, hq with
  | 0, hq => cases hq; exact hz 1 (by simp)
  | 1, hq => cases hq; exact hz 2 (by simp)
  | 2, hq => cases hq; exact hz 3 (by simp)
  | 3, hq => cases hq; exact hz 4 (by simp)
  | 4, hq => cases hq; exact hz 5 (by simp)
  | 5, hq => cases hq; exact hz 6 (by simp)
  | 6, hq => cases hq; exact hz 11 (by simp)
  | 7, hq => cases hq; exact hz 15 (by simp)
  | k + 8, hq => simp [q_tys] at hq
set_option maxRecDepth 100000 in
theorem q_law_start (hGoal : q_Goal) {p : Program} {e : Env} {s : State} {m : MethodId} {below : List Frame} {meth : Method} {c : Code} (l : Launch) (hflags : l.flags = flags0) {b L : Nat} {xs : Nat → Int32} (hL : L ≤ 3072) (C0 : lw_At p s m meth c b L xs) : W p l e room_1 s m #[Value.ref b] below meth c s.heap [] 0 0 (lw_Z below #[Value.ref b] s) (entryFrame m ([Value.ref b] : List Value).toArray 4) := by
  obtain ⟨hx, hb, hr, hml, hown, hts, hX, hbl, hlocks, hgv⟩ := id C0
  obtain ⟨D, dA, hK⟩ := q_K_all hts
  have hA : ∀ q : Nat, s.heap.size ≤ q → (fun q : Nat => s.heap.size ≤ q) q := fun _ h => h
  have hbA : ¬ (fun q : Nat => s.heap.size ≤ q) b := Nat.not_le.mpr hbl
  have hN : q_Nt s := q_Nt_of (fun w hw => hts w (List.mem_filter.mp hw).1)
  have hC : q_Cx p room_1 s m #[Value.ref b] meth c 0 := ⟨hx, hb, hml, hown, fun w hw => by
    rcases List.mem_append.mp hw with z | z
    · exact hts w (List.mem_filter.mp z).1
    · exact hts w (List.mem_filter.mp z).1, fun z => absurd z (by decide), by decide, by decide⟩
  obtain ⟨f1, f2, f3, f4⟩ := q_p1_facts
  have he0 : q_e1 (fun _ => none : qR → Option (Nat × Nat)) := fun _ _ h => by cases h
  -- the law's end
  have fin : ∀ (H : Heap) (locs : List Loc) (ls : Array Slot) (cells slots pc : Nat), va_S (fun q : Nat => s.heap.size ≤ q) s.heap H locs → cells ≤ 600000 → slots ≤ 7302250 → decode code pc = .ok (.ireturn, 1) → W p l e room_1 s m #[Value.ref b] below meth c H locs cells slots (lw_Z below #[Value.ref b] s) (F0 m pc ls [.int 1]) := by
    intro H locs ls cells slots pc hS h1 h2 hdg
    refine va_forget (fun q hq => hS.2.2 q hq) ?_
    refine W.widen (k := 600000) (n := 7302250) h1 h2 ?_
    exact lw_ret hx hb hr hlocks hdg
  -- from the loop on, in the static names
  have hloop : q_Good p l e room_1 s m #[Value.ref b] below meth c D dA (fun q : Nat => s.heap.size ≤ q) s.heap (lw_Z below #[Value.ref b] s) 0 none q_p1E q_p1w (q_pcA 0 10) [some (.inr (.inr (1, 0))), some (.inr (.inr (0, q_perm (t_GC, 0)))), some (.inr (.inr (0, q_perm (t_Md, 0)))), some (.inl 0)] [] q_p1E q_p1w := by
    intro ad rs H locs ls cells slots hSt hLk hs hSc h1 h2 h3 hKK
    obtain ⟨hV, hP, hD, hS⟩ := hSt
    obtain ⟨b9, L9, xs9, hX9, hbl9, hbA9, had9, hL9, -⟩ := hSc rfl
    obtain ⟨w', N, hrun⟩ := hGoal xs9 L9 hL9
    have hr0 := hrun N (Nat.le_refl _) (0, 0)
    have hin : ∀ r ∈ q_refs, (0, q_perm r) ∈ rs := fun r hr => hV.2.2.2.2.2.2.2 _ (by rw [f2]; exact (q_perm_lt hr).1)
    have hads1 : q_ads ad (ad (1, 0)) (1, 0) = ad (1, 0) := rfl
    have hads : ∀ r ∈ q_refs, q_ads ad (ad (1, 0)) r = ad (0, q_perm r) := fun r hr => by
      have := (q_refs_at hr).1
      unfold q_ads
      rw [if_neg (by omega)]
    have hat : ∀ r ∈ q_refs, ∃ i : Nat, rs[i]? = some (0, q_perm r) ∧ (q_ws dA q_p1E.1 q_p1w ad rs)[i]? = some (ad (0, q_perm r), q_cell dA q_p1E.1 q_p1w ad (0, q_perm r)) := fun r hr => q_ws_at (hin r hr)
    have hws : ∀ (k : Nat) (q : Nat × va_E), (q_ws dA q_env (q_ws0 xs9 L9) (q_ads ad (ad (1, 0))) q_refs)[k]? = some q → ∃ r, q_refs[k]? = some r ∧ r ∈ q_refs ∧ q = (ad (0, q_perm r), q_cell dA q_p1E.1 q_p1w ad (0, q_perm r)) := by
      intro k q hq
      unfold q_ws at hq
      rw [List.getElem?_map] at hq
      cases hr : q_refs[k]? with
      | none => rw [hr] at hq; cases hq
      | some r =>
        rw [hr] at hq
        have hm := List.mem_of_getElem? hr
        refine ⟨r, rfl, hm, ?_⟩
        simp only [Option.map_some, Option.some.injEq] at hq
        rw [← hq, hads r hm, q_cell_s hm]
    have hP2 : va_P D q_cls (q_ws dA q_env (q_ws0 xs9 L9) (q_ads ad (ad (1, 0))) q_refs) H := by
      intro k q hq
      obtain ⟨r, -, hm, rfl⟩ := hws k q hq
      obtain ⟨i, -, hi⟩ := hat r hm
      exact hP i _ hi
    have hD2 : va_D (fun q : Nat => s.heap.size ≤ q) (q_ws dA q_env (q_ws0 xs9 L9) (q_ads ad (ad (1, 0))) q_refs) := by
      refine ⟨fun i j x y hi hj hxy => ?_, fun k q hq => ?_⟩
      · obtain ⟨r, hr, hm, rfl⟩ := hws i x hi
        obtain ⟨r', hr', hm', rfl⟩ := hws j y hj
        obtain ⟨i1, g1, g2⟩ := hat r hm
        obtain ⟨i2, g3, g4⟩ := hat r' hm'
        have e1 := hD.1 i1 i2 _ _ g2 g4 hxy
        rw [e1, g3] at g1
        have e2 : q_perm r = q_perm r' := by
          have := Option.some.inj g1
          simp only [Prod.mk.injEq, true_and] at this
          exact this.symm
        have e3 := q_perm_inj hm hm' e2
        subst e3
        have h9 := (List.getElem?_eq_some_iff.mp hr)
        have h8 := (List.getElem?_eq_some_iff.mp hr')
        have hne := List.pairwise_iff_getElem.mp q_refs_nd
        rcases Nat.lt_trichotomy i j with z | z | z
        · exact absurd (h9.2.trans h8.2.symm) (hne i j h9.1 h8.1 z)
        · exact z
        · exact absurd (h8.2.trans h9.2.symm) (hne j i h8.1 h9.1 z)
      · obtain ⟨r, -, hm, rfl⟩ := hws k q hq
        obtain ⟨i, -, hi⟩ := hat r hm
        exact hD.2 i _ hi
    have hlx := hLk.2.2.2
    have hL2 : q_Lk (q_ads ad (ad (1, 0))) q_refs [some (.inr (.inr (1, 0))), some (.inr (.inr (t_GC, 0))), some (.inr (.inr (t_Md, 0))), some (.inl 0)] ls (q_ml 0) := by
      refine ⟨hLk.1, hLk.2.1, hLk.2.2.1, fun i v hi => ?_⟩
      have hGC : (t_GC, 0) ∈ q_refs := by decide +kernel
      have hMd : (t_Md, 0) ∈ q_refs := by decide +kernel
      match i, hi with
      | 0, hi => cases hi; exact ⟨Or.inr rfl, (hlx 0 _ rfl).2⟩
      | 1, hi => cases hi; exact ⟨Or.inl hGC, (hlx 1 _ rfl).2⟩
      | 2, hi => cases hi; exact ⟨Or.inl hMd, (hlx 2 _ rfl).2⟩
      | 3, hi => cases hi; exact ⟨q_can_0, (hlx 3 _ rfl).2⟩
      | i + 4, hi => simp at hi
    have hscr : q_Sc 0 s (fun q : Nat => s.heap.size ≤ q) s.heap (q_ads ad (ad (1, 0))) q_env (q_ws0 xs9 L9) := by
      refine fun _ => ⟨b9, L9, xs9, hX9, hbl9, hbA9, had9, hL9, fun _ => ⟨fun k hk => ?_, rfl⟩⟩
      unfold q_ws0
      dsimp only
      rw [if_neg (by decide), if_pos rfl, if_pos rfl, if_pos hk]
    have hE1 : q_e1 q_env := fun i kn h => by
      have : q_env (1, i) = some (99, 0) := rfl
      rw [this] at h
      cases h
      rfl
    have hgo := q_sound N 0 10 _ _ (q_env, 0, 0) _ _ _ _ (by decide) hE1 hr0 (p := p) (l := l) (e := e) (below := below) (Q := lw_Z below #[Value.ref b] s) hC hK hN hA
    have hst : List.map (q_m ad) [] = List.map (q_m (q_ads ad (ad (1, 0)))) [] := rfl
    rw [hst]
    refine hgo (q_ads ad (ad (1, 0))) q_refs H locs ls cells slots ⟨q_V_s hL9 hV.2.1, hP2, hD2, hS⟩ hL2 (fun v hv => by cases hv) hscr (by show cells + (0 - 0) ≤ _; omega) (by show slots + (0 - 0) ≤ _; omega) ⟨Nat.le_refl _, Nat.le_refl _⟩ ?_
    intro ad' rs' H' locs' ls' pc' c1 c2 c3 c4
    exact fin H' locs' ls' _ _ pc' c1.2.2.2 (by show cells + (0 - 0) ≤ _; have h9 : cells + (q_p1E.2.1 - q_p1E.2.1) ≤ 600000 := h1; omega) (by show slots + (0 - 0) ≤ _; have h9 : slots + (q_p1E.2.2 - q_p1E.2.2) ≤ 7302250 := h2; omega) c4.1
  have hgo := q_part_sound (l := l) (e := e) (below := below) (Q := lw_Z below #[Value.ref b] s) (mi := 0) (by decide) hC hK hN hA 10 0 _ _ _ _ _ _ _ _ _ f1 he0 ⟨Nat.le_refl _, Nat.le_refl _⟩ hloop
  have hpc : q_pcA 0 0 = 0 := by unfold q_pcA; rw [List.getD_eq_getElem?_getD, q_pc0 0 (by decide)]; rfl
  rw [hpc] at hgo
  rw [lg_entry_eq]
  refine hgo (fun _ => b) [] s.heap [] _ 0 0 ⟨?_, fun k q hq => by simp [q_ws] at hq, ⟨fun i j x y hi _ _ => by simp [q_ws] at hi, fun k q hq => by simp [q_ws] at hq⟩, va_S.rf⟩ (q_Lk_entry (by decide) (fun v hv => by rw [List.mem_singleton.mp hv]; exact Or.inr rfl)) (fun v hv => by cases hv) (fun _ => ⟨b, L, xs, hX, hbl, hbA, rfl, hL, fun z => absurd rfl z⟩) (by rw [f2]; decide) (by rw [f3]; decide) ⟨by rw [f2]; decide, by rw [f3]; decide⟩ ?_
  · exact ⟨fun r hr => (by cases hr), fun _ _ _ => q_can_0, fun r hr => (by cases hr), fun j hj => (by cases hj), fun _ _ _ => ⟨rfl, rfl, rfl⟩, fun kn h => (by cases h), fun i hi => (by cases hi), fun j hj => absurd hj (Nat.not_lt_zero _)⟩
  · intro ad' rs' H' locs' ls' pc' c1 c2 c3 c4
    exact absurd c4.2 (by decide)
