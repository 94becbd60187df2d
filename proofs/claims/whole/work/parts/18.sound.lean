/-! every run is sound -/
theorem q_lgsl_len (ad : qR → Nat) : ∀ as : List qV, (lg_sl (as.map (q_m ad))).length = (q_args as).length
  | [] => rfl
  | .inl x :: r => by
    show (lg_sl (_ :: _)).length = _
    unfold lg_sl
    rw [List.flatMap_cons, List.length_append]
    have := q_lgsl_len ad r
    unfold lg_sl at this
    rw [this]
    simp [q_m, Value.category, q_args]
    omega
  | .inr (.inl x) :: r => by
    show (lg_sl (_ :: _)).length = _
    unfold lg_sl
    rw [List.flatMap_cons, List.length_append]
    have := q_lgsl_len ad r
    unfold lg_sl at this
    rw [this]
    simp [q_m, Value.category, q_args]
    omega
  | .inr (.inr x) :: r => by
    show (lg_sl (_ :: _)).length = _
    unfold lg_sl
    rw [List.flatMap_cons, List.length_append]
    have := q_lgsl_len ad r
    unfold lg_sl at this
    rw [this]
    simp [q_m, Value.category, q_args]
    omega
theorem q_args_at (ad : qR → Nat) : ∀ (as : List qV) (off i : Nat) (v : qV), (q_args as)[i]? = some (some v) → v ∈ as ∧ (off + i, q_m ad v) ∈ lv_args off (as.map (q_m ad))
  | [], _, i, v, h => by simp [q_args] at h
  | .inl x :: r, off, i, v, h => by
    cases i with
    | zero =>
      simp only [q_args, List.getElem?_cons_zero, Option.some.injEq] at h
      subst h
      exact ⟨List.mem_cons_self, by rw [List.map_cons]; exact List.mem_cons_self⟩
    | succ i =>
      simp only [q_args, List.getElem?_cons_succ] at h
      obtain ⟨h1, h2⟩ := q_args_at ad r (off + 1) i v h
      refine ⟨List.mem_cons_of_mem _ h1, ?_⟩
      rw [List.map_cons]
      refine List.mem_cons_of_mem _ ?_
      rw [show off + (i + 1) = off + 1 + i by omega]
      exact h2
  | .inr (.inl x) :: r, off, i, v, h => by
    cases i with
    | zero =>
      simp only [q_args, List.getElem?_cons_zero, Option.some.injEq] at h
      subst h
      exact ⟨List.mem_cons_self, by rw [List.map_cons]; exact List.mem_cons_self⟩
    | succ i =>
      cases i with
      | zero => simp [q_args] at h
      | succ i =>
        simp only [q_args, List.getElem?_cons_succ] at h
        obtain ⟨h1, h2⟩ := q_args_at ad r (off + 2) i v h
        refine ⟨List.mem_cons_of_mem _ h1, ?_⟩
        rw [List.map_cons]
        refine List.mem_cons_of_mem _ ?_
        rw [show off + (i + 1 + 1) = off + 2 + i by omega]
        exact h2
  | .inr (.inr x) :: r, off, i, v, h => by
    cases i with
    | zero =>
      simp only [q_args, List.getElem?_cons_zero, Option.some.injEq] at h
      subst h
      exact ⟨List.mem_cons_self, by rw [List.map_cons]; exact List.mem_cons_self⟩
    | succ i =>
      simp only [q_args, List.getElem?_cons_succ] at h
      obtain ⟨h1, h2⟩ := q_args_at ad r (off + 1) i v h
      refine ⟨List.mem_cons_of_mem _ h1, ?_⟩
      rw [List.map_cons]
      refine List.mem_cons_of_mem _ ?_
      rw [show off + (i + 1) = off + 1 + i by omega]
      exact h2
theorem q_entry_at (ad : qR → Nat) {n : Nat} {as : List qV} {i : Nat} {v : qV} (h : (q_entry n as)[i]? = some (some v)) : v ∈ as ∧ (i, q_m ad v) ∈ lv_args 0 (as.map (q_m ad)) := by
  unfold q_entry at h
  by_cases hi : i < (q_args as).length
  · rw [List.getElem?_append_left hi] at h
    have := q_args_at ad as 0 i v h
    rw [Nat.zero_add] at this
    exact this
  · rw [List.getElem?_append_right (by omega), List.getElem?_replicate] at h
    split at h <;> cases h
theorem q_entry_len {n : Nat} {as : List qV} (h : (q_args as).length ≤ n) : (q_entry n as).length = n := by
  unfold q_entry
  rw [List.length_append, List.length_replicate]
  omega
theorem q_Lk_entry {ad : qR → Nat} {rs : List qR} {as : List qV} {n : Nat} (h : (q_args as).length ≤ n) (hv : ∀ v ∈ as, q_vok rs v) : q_Lk ad rs (q_entry n as) ((lg_sl (as.map (q_m ad)) ++ List.replicate (n - (lg_sl (as.map (q_m ad))).length) Slot.unset).toArray) n := by
  have hl := lv_entry (as.map (q_m ad)) (n := n) (by rw [q_lgsl_len]; exact h)
  refine ⟨Nat.le_of_eq (q_entry_len h), hl.1, hl.2.1, fun i v hi => ?_⟩
  obtain ⟨h1, h2⟩ := q_entry_at ad hi
  exact ⟨hv v h1, hl.2.2 _ h2⟩
def q_F (n : Nat) : Prop := ∀ (mi k : Nat) (loc : qLo) (st : List qV) (E : qE) (w : qW) (ov : Option qV) (E' : qE) (w' : qW), mi < 240 → q_e1 E.1 → q_run n mi ((q_code mi).drop k) loc st E w = some (ov, E', w') → ∀ {p : Program} {l : Launch} {e : Env} {R : Room} {s : State} {m : MethodId} {args : Array Value} {below : List Frame} {meth : Method} {c : Code} {D : va_G} {dA : Nat → ClassId} {A : Nat → Prop} {H0 : Heap} {Q : State → Prop}, q_Cx p R s m args meth c mi → va_K D q_cls (q_tys dA) s → q_Nt s → (∀ q, H0.size ≤ q → A q) → q_Good p l e R s m args below meth c D dA A H0 Q mi ov E' w' (q_pcA mi k) loc st E w
theorem q_met_of {n : Nat} (ih : q_F n) {a : Nat} {as : List qV} {E : qE} {w : qW} {ov1 : Option qV} {E1 : qE} {w1 : qW} (ha : a < 240) (hsp : q_isSp a = false) (hle : (q_args as).length ≤ q_ml a) (he : q_e1 E.1) (hrun : q_run n a (q_code a) (q_entry (q_ml a) as) [] E w = some (ov1, E1, w1)) (l : Launch) (D : va_G) (dA : Nat → ClassId) (ad : qR → Nat) (rs : List qR) (sz : Nat) (hV : q_V rs E w) (hok : ∀ v ∈ as, q_vok rs v) : q_Met l D dA a as ad rs E w sz ov1 E1 w1 := by
  have hMF := q_MF_all hsp ha
  have h0 : a ≠ 0 := fun z => by subst z; cases hsp
  unfold q_Met
  refine Met.ofW (cc := q_cc a) (maxL := q_ml a) (ret := q_rtT a) hMF.2.2.2.2 rfl ?_
  intro p e s m args below meth c s₁ B hml hv
  obtain ⟨rfl, hsz, hP, hK, hD0, hN⟩ := hv
  have hr := B.returns
  have hts := atoms_spec (ws := q_wsM a) B.pre
  have hown : s.vm.findClass (q_y a).cls = some m.cls := findClass_of_methodNamed B.named
  have hlocks := B.notSynchronized
  have hin : meth.name = (q_y a).name := (name_of_methodNamed B.named B.method).1
  subst hsz
  have hD := hD0.self (sz := s.heap.size)
  have hA : ∀ q : Nat, s.heap.size ≤ q → va_A (q_ws dA E.1 w ad rs) s.heap.size q := fun q h => Or.inr h
  have hS : va_S (va_A (q_ws dA E.1 w ad rs) s.heap.size) s.heap s.heap [] := va_S.rf
  have hC : q_Cx p (headSpec (q_wsM a) (q_rm a E E1)).room s m (as.map (q_m ad)).toArray meth c a := ⟨B.exec, B.bytes, hml, hown, fun w hw => by
    rcases List.mem_append.mp hw with z | z
    · exact hts w (List.mem_cons_of_mem _ z)
    · exact q_Nt_use hN w z, fun z => hin.trans z, Nat.le_refl _, Nat.le_refl _⟩
  have hkeep := (q_run_keeps n _ _ _ _ _ _ _ _ _ hrun he).2.2.2
  rw [lg_entry_eq]
  have hg := ih a 0 (q_entry (q_ml a) as) [] E w ov1 E1 w1 ha he (by rw [List.drop_zero]; exact hrun) (p := p) (l := l) (e := e) (R := (headSpec (q_wsM a) (q_rm a E E1)).room) (s := s) (m := m) (args := (as.map (q_m ad)).toArray) (below := below) (meth := meth) (c := c) (D := D) (dA := dA) (A := va_A (q_ws dA E.1 w ad rs) s.heap.size) (H0 := s.heap) (Q := MQ below (q_Qc D dA (va_A (q_ws dA E.1 w ad rs) s.heap.size) ad rs ov1 E1 w1) (as.map (q_m ad)).toArray s (E1.2.1 - E.2.1) (E1.2.2 - E.2.2) (va_A (q_ws dA E.1 w ad rs) s.heap.size)) hC hK hN hA
  have hpc : q_pcA a 0 = 0 := by unfold q_pcA; rw [List.getD_eq_getElem?_getD, q_pc0 a ha]; rfl
  rw [hpc] at hg
  refine hg ad rs s.heap [] _ 0 0 ⟨hV, hP, hD, hS⟩ (q_Lk_entry hle hok) (fun v hv => by cases hv) (fun z => absurd z h0) (by show 0 + _ ≤ E1.2.1 - E.2.1; omega) (by show 0 + _ ≤ E1.2.2 - E.2.2; omega) hkeep ?_
  intro ad' rs' H' locs' ls' pc hSt hag hsub hret
  obtain ⟨hV', hP', hD', hS'⟩ := hSt
  rw [Nat.zero_add, Nat.zero_add]
  have hB : ∀ t : State, t.heap = H' → s.WarmedH t.vm → q_B D dA (va_A (q_ws dA E.1 w ad rs) s.heap.size) ad rs E1 w1 (ad', rs') t := fun t ht hW => ⟨hV', by rw [ht]; exact hP', va_K.moved hW.alike hK, hD', hag, hsub⟩
  rcases ov1 with _ | x | y | r
  · obtain ⟨g1, g2⟩ := hret
    exact W.vret B.exec B.bytes (hr.trans g2) (fun t ht hW => ⟨⟨(ad', rs'), rfl, trivial, hB t ht hW⟩, hS'.F ht⟩) hS'.2.2 g1
  · obtain ⟨g1, g2, g3⟩ := hret
    rcases g3 with g3 | ⟨g3, g4⟩
    · exact W.iret B.exec B.bytes (hr.trans g3) (fun t ht hW => ⟨⟨_, (ad', rs'), rfl, ⟨rfl, g2⟩, hB t ht hW⟩, hS'.F ht⟩) hS'.2.2 g1
    · exact W.zret (ty := .boolean) B.exec B.bytes (hr.trans g3) (by rcases g4 with rfl | rfl <;> rfl) (fun t ht hW => ⟨⟨_, (ad', rs'), rfl, ⟨rfl, g2⟩, hB t ht hW⟩, hS'.F ht⟩) hS'.2.2 g1
  · obtain ⟨g1, g2⟩ := hret
    exact W.lret B.exec B.bytes (hr.trans g2) (fun t ht hW => ⟨⟨_, (ad', rs'), rfl, rfl, hB t ht hW⟩, hS'.F ht⟩) hS'.2.2 g1
  · obtain ⟨g1, g2, C, g3⟩ := hret
    exact W.aret (rt := .object C) B.exec B.bytes (hr.trans g3) (Or.inl ⟨C, rfl⟩) (Or.inr ⟨_, rfl⟩) (fun t ht hW => ⟨⟨(ad', rs'), ad' r, rfl, g2, hB t ht hW, rfl⟩, hS'.F ht⟩) hS'.2.2 g1
theorem q_code_big {a : Nat} (h : ¬ a < 240) : q_code a = [] := by
  unfold q_code
  have : q_code_all[a / 16]? = none := List.getElem?_eq_none (by show 15 ≤ a / 16; omega)
  rw [this]
theorem q_run_nil {n mi : Nat} {loc : qLo} {st : List qV} {E : qE} {w : qW} : q_run n mi [] loc st E w = none := by
  cases n <;> rfl
theorem q_pcA_of {mi k pc : Nat} (h : (q_pcs mi)[k]? = some pc) : q_pcA mi k = pc := by
  unfold q_pcA
  rw [List.getD_eq_getElem?_getD, h]
  rfl
section QZ
variable {p : Program} {l : Launch} {e : Env} {R : Room} {s : State} {m : MethodId} {args : Array Value} {below : List Frame} {meth : Method} {c : Code} {D : va_G} {dA : Nat → ClassId} {A : Nat → Prop} {H0 : Heap} {Q : State → Prop} {mi : Nat} {ov : Option qV} {E' E : qE} {w' w : qW} {pc : Nat} {loc : qLo} {st : List qV}
theorem q_new_sound (hC : q_Cx p R s m args meth c mi) (hK0 : va_K D q_cls (q_tys dA) s) (hA : ∀ q, H0.size ≤ q → A q) {op : qI} {h : List Nat} {len : Nat} (hdg : decode (q_cc mi) pc = .ok (op.1, len)) (hlen : q_il op.1 = 0 ∨ len = q_il op.1) (hck : q_ckI mi (q_pcs mi) pc op h = true) {s' : List qV} {E1 : qE} {w1 : qW} (hn : q_new op st E w = some (s', E1, w1)) (h4 : E1.2.1 ≤ E'.2.1 ∧ E1.2.2 ≤ E'.2.2) (k : q_Good p l e R s m args below meth c D dA A H0 Q mi ov E' w' (pc + len) loc s' E1 w1) : q_Good p l e R s m args below meth c D dA A H0 Q mi ov E' w' pc loc st E w := by
  obtain ⟨i, a, b, cc, z, ts⟩ := op
  dsimp only at hdg hlen
  cases i
  case new x =>
    obtain rfl : len = 3 := hlen.resolve_left (by simp [q_il])
    simp only [q_new, Option.some.injEq, Prod.mk.injEq] at hn
    obtain ⟨rfl, rfl, rfl⟩ := hn
    simp only [q_ckI] at hck
    split at hck
    · rename_i C T N hc
      simp only [Bool.and_eq_true, decide_eq_true_eq] at hck
      obtain ⟨rfl, k1, k2, k3⟩ := hck
      have hci : a < 12 := (List.getElem?_eq_some_iff.mp hc).1
      exact q_s_new hC hK0 hA hc hci (q_at_T k1 rfl) (q_at_T k2 rfl) (q_at_T k3 rfl) h4.1 h4.2 hdg k
    · cases hck
  case newarray t =>
    obtain rfl : len = 2 := hlen.resolve_left (by simp [q_il])
    dsimp only [q_new] at hn
    split at hn
    · split at hn
      · rename_i n r hg
        cases hn
        simp only [q_ckI, Bool.and_eq_true] at hck
        obtain ⟨k1, k2⟩ := hck
        have hw := q_at_T k1 rfl
        cases t <;> first | (cases k2; done) | skip
        · have := of_decide_eq_true k2; subst this; exact q_s_newZ hC hK0 hA hg.1 hg.2 hw h4.1 h4.2 hdg k
        · have := of_decide_eq_true k2; subst this; exact q_s_newB hC hK0 hA hg.1 hg.2 hw h4.1 h4.2 hdg k
        · have := of_decide_eq_true k2; subst this; exact q_s_newI hC hK0 hA hg.1 hg.2 hw h4.1 h4.2 hdg k
        · have := of_decide_eq_true k2; subst this; exact q_s_newJ hC hK0 hA hg.1 hg.2 hw h4.1 h4.2 hdg k
      · cases hn
    · cases hn
  case anewarray x =>
    obtain rfl : len = 3 := hlen.resolve_left (by simp [q_il])
    dsimp only [q_new] at hn
    split at hn
    · split at hn
      · rename_i n r hg
        cases hn
        simp only [q_ckI] at hck
        split at hck
        · rename_i C T N hc
          simp only [Bool.and_eq_true, decide_eq_true_eq, Bool.or_eq_true] at hck
          obtain ⟨k1, k2, k3, k4⟩ := hck
          rcases k2 with rfl | rfl
          · cases hc
            exact q_s_newMo hC hK0 hA hg.1 hg.2 (q_at_T k3 rfl) (q_at_N k4 rfl) h4.1 h4.2 hdg k
          · cases hc
            exact q_s_newSh hC hK0 hA hg.1 hg.2 (q_at_T k3 rfl) (q_at_N k4 rfl) h4.1 h4.2 hdg k
        · cases hck
      · cases hn
    · cases hn
  case multianewarray x d =>
    obtain rfl : len = 4 := hlen.resolve_left (by simp [q_il])
    dsimp only [q_new] at hn
    split at hn
    · split at hn
      · rename_i mm n r hg
        cases hn
        simp only [q_ckI, Bool.and_eq_true, decide_eq_true_eq] at hck
        obtain ⟨rfl, hck⟩ := hck
        split at hck
        · simp only [Bool.and_eq_true, decide_eq_true_eq] at hck
          obtain ⟨rfl, k1, k2, k3⟩ := hck
          exact q_s_mnaI hC hK0 hA hg.1 hg.2.1 hg.2.2.1 hg.2.2.2 (q_at_T k1 rfl) (q_at_N k2 rfl) (q_at_T k3 rfl) h4.1 h4.2 hdg k
        · simp only [Bool.and_eq_true, decide_eq_true_eq] at hck
          obtain ⟨rfl, k1, k2, k3⟩ := hck
          exact q_s_mnaJ hC hK0 hA hg.1 hg.2.1 hg.2.2.1 hg.2.2.2 (q_at_T k1 rfl) (q_at_N k2 rfl) (q_at_T k3 rfl) h4.1 h4.2 hdg k
        · cases hck
      · cases hn
    · cases hn
  all_goals cases hn
end QZ
theorem q_sound : ∀ n : Nat, q_F n
  | 0 => fun _ _ _ _ _ _ _ _ _ _ _ h => by cases h
  | n + 1 => by
    have ih := q_sound n
    intro mi k loc st E w ov E' w' hmi he h p l e R s m args below meth c D dA A H0 Q hC hK hN hA
    cases hd : (q_code mi).drop k with
    | nil => rw [hd] at h; cases h
    | cons op is =>
      have hk : (q_code mi)[k]? = some op := by
        have := congrArg (fun l => l[0]?) hd
        simpa [List.getElem?_drop] using this
      have hd1 : (q_code mi).drop (k + 1) = is := by
        have := congrArg (List.drop 1) hd
        rw [List.drop_drop] at this
        simpa using this
      obtain ⟨pc, hh, hpc, hck, len, hdg, hlen, hnext⟩ := q_fact_all hmi hk
      have hck2 := q_ck2_at hmi (List.mem_of_getElem? hk)
      rw [q_pcA_of hpc]
      rw [hd, q_run_succ] at h
      have next : ∀ {l2 s2 E2 w2}, q_run n mi is l2 s2 E2 w2 = some (ov, E', w') → q_e1 E2.1 → q_Good p l e R s m args below meth c D dA A H0 Q mi ov E' w' (pc + len) l2 s2 E2 w2 := by
        intro l2 s2 E2 w2 hr he2
        have hne : k + 1 < (q_code mi).length := by
          rcases Nat.lt_or_ge (k + 1) (q_code mi).length with q | q
          · exact q
          · rw [← hd1, List.drop_eq_nil_of_le q, q_run_nil] at hr
            cases hr
        have := ih mi (k + 1) l2 s2 E2 w2 ov E' w' hmi he2 (by rw [hd1]; exact hr) hC hK hN hA (p := p) (l := l) (e := e) (below := below) (Q := Q)
        rw [q_pcA_of (hnext hne)] at this
        exact this
      have jump : ∀ {t l2 s2 w2}, q_run n mi ((q_code mi).drop t) l2 s2 E w2 = some (ov, E', w') → ∃ tpc, (q_pcs mi)[t]? = some tpc ∧ q_Good p l e R s m args below meth c D dA A H0 Q mi ov E' w' tpc l2 s2 E w2 := by
        intro t l2 s2 w2 hr
        have hne : t < (q_code mi).length := by
          rcases Nat.lt_or_ge t (q_code mi).length with q | q
          · exact q
          · rw [List.drop_eq_nil_of_le q, q_run_nil] at hr
            cases hr
        obtain ⟨tpc, -, htp, -⟩ := q_fact_all hmi (List.getElem?_eq_getElem hne)
        refine ⟨tpc, htp, ?_⟩
        have := ih mi t l2 s2 E w2 ov E' w' hmi he hr hC hK hN hA (p := p) (l := l) (e := e) (below := below) (Q := Q)
        rw [q_pcA_of htp] at this
        exact this
      cases hn : q_new op st E w with
      | some x =>
        obtain ⟨s2, E2, w2⟩ := x
        rw [hn] at h
        obtain ⟨a1, a2, a5, a3, a4⟩ := q_new_scr hn he
        have hkp := q_run_keeps n _ _ _ _ _ _ _ _ _ h a2
        exact q_new_sound hC hK hA hdg hlen hck hn hkp.2.2.2 (next h a2)
      | none =>
        rw [hn] at h
        dsimp only at h
        refine q_step_sound hC hK hN hA hdg hlen hck hck2 ?_
        cases hq : q_step mi op loc st E.1 w with
        | none => rw [hq] at h; cases h
        | some act =>
          rw [hq] at h
          rcases act with ⟨g, l', s', w2⟩ | ⟨t, l', s', w2⟩ | ⟨o, x, y, t, l', s', w2⟩ | ⟨x, ts, d, l', s', w2⟩ | ⟨a, as, l', s', w2⟩ | ⟨g, v, w2⟩
          · dsimp only at h
            split at h
            · rename_i hg
              exact ⟨hg, next h he⟩
            · cases h
          · exact jump h
          · dsimp only at h
            by_cases hc : q_cond o x y
            · rw [if_pos (q_condb_iff.mpr hc)] at h
              exact ⟨fun _ => jump h, fun z => absurd hc z⟩
            · rw [if_neg (fun z => hc (q_condb_iff.mp z))] at h
              exact ⟨fun z => absurd z hc, fun _ => next h he⟩
          · exact jump h
          · dsimp only at h
            split at h
            · cases h
            · rename_i v E3 w3 hcall
              have hk1 := q_run_keeps n _ _ _ _ _ _ _ _ _ hcall he
              have hk2 := q_run_keeps n _ _ _ _ _ _ _ _ _ h hk1.2.1
              have ha : a < 240 := by
                rcases Nat.lt_or_ge a 240 with q | q
                · exact q
                · rw [q_code_big (by omega), q_run_nil] at hcall
                  cases hcall
              exact ⟨v, E3, w3, ⟨ha, fun hsp hle ad rs sz hV hok => q_met_of ih ha hsp hle he hcall l D dA ad rs sz hV hok, hk1.2.2.2, hk2.2.2.2, hk1.1, hk1.2.2.1⟩, next h hk1.2.1⟩
          · dsimp only at h
            split at h
            · rename_i hg
              cases h
              exact ⟨hg, rfl, rfl, rfl⟩
            · cases h
