/-! the steps that make cells -/
theorem q_vok_ext {rs rs1 : List qR} (h : ∀ r ∈ rs, r ∈ rs1) {v : qV} (hv : q_vok rs v) : q_vok rs1 v := by
  rcases v with x | x | x
  · exact hv
  · trivial
  · rcases hv with z | z
    · exact Or.inl (h x z)
    · exact Or.inr z
theorem q_m_ext {rs : List qR} {ad ad1 : qR → Nat} (h : ∀ r, q_old rs r → ad1 r = ad r) {v : qV} (hv : q_vok rs v) : q_m ad1 v = q_m ad v := by
  rcases v with x | x | x
  · rfl
  · rfl
  · exact congrArg Value.ref (h x hv)
theorem q_map_ext {rs : List qR} {ad ad1 : qR → Nat} (h : ∀ r, q_old rs r → ad1 r = ad r) {st : List qV} (hs : ∀ v ∈ st, q_vok rs v) : st.map (q_m ad1) = st.map (q_m ad) := List.map_congr_left fun v hv => q_m_ext h (hs v hv)
theorem q_Lk_ext {rs rs1 : List qR} {ad ad1 : qR → Nat} (h : ∀ r, q_old rs r → ad1 r = ad r) (h2 : ∀ r ∈ rs, r ∈ rs1) {loc : qLo} {ls : Array Slot} {nL : Nat} (hL : q_Lk ad rs loc ls nL) : q_Lk ad1 rs1 loc ls nL := ⟨hL.1, hL.2.1, hL.2.2.1, fun i v hi => ⟨q_vok_ext h2 (hL.2.2.2 i v hi).1, by rw [q_m_ext h (hL.2.2.2 i v hi).1]; exact (hL.2.2.2 i v hi).2⟩⟩
theorem q_Sc_ext {mi : Nat} {s : State} {A : Nat → Prop} {H0 : Heap} {ad ad1 : qR → Nat} {env env1 : qR → Option (Nat × Nat)} {w w2 : qW} (h : q_Sc mi s A H0 ad env w) (ha : ad1 (1, 0) = ad (1, 0)) (hw : w2.1 = w.1) (hE : env1 (1, 0) = env (1, 0)) : q_Sc mi s A H0 ad1 env1 w2 := by
  intro hm
  obtain ⟨b, L, xs, a1, a2, a3, a4, a7, a5⟩ := h hm
  exact ⟨b, L, xs, a1, a2, a3, by rw [ha]; exact a4, a7, fun hn => by rw [hw]; exact a5 (by rw [← hE]; exact hn)⟩
theorem q_old_ext {rs rs1 : List qR} (h : ∀ r ∈ rs, r ∈ rs1) {r : qR} (ho : q_old rs r) : q_old rs1 r := ho.elim (fun z => Or.inl (h r z)) Or.inr
/-- the class of an array of a kind is the one that the tables name -/
theorem q_dA_eq {D : va_G} {dA : Nat → ClassId} {s : State} {cA : ClassId} {k : Nat} (hK0 : va_K D q_cls (q_tys dA) s) (hk : k = 1 ∨ k = 2 ∨ k = 3 ∨ k = 4 ∨ k = 5 ∨ k = 6 ∨ k = 11 ∨ k = 15) (hR : va_K D q_cls (q_tys dA ++ [(cA, q_kty k)]) s) : cA = dA k := by
  obtain ⟨t0, ht⟩ := q_tys_at dA (k := k) hk
  have h1 := (hK0.2 t0 _ ht).2
  have h2 := (hR.2 (q_tys dA).length (cA, q_kty k) (by simp)).2
  rcases hk with rfl | rfl | rfl | rfl | rfl | rfl | rfl | rfl
  · exact Option.some.inj ((show s.vm.findClass _ = some cA from h2).symm.trans (show s.vm.findClass _ = some (dA 1) from h1))
  · exact Option.some.inj ((show s.vm.findClass _ = some cA from h2).symm.trans (show s.vm.findClass _ = some (dA 2) from h1))
  · exact Option.some.inj ((show s.vm.findClass _ = some cA from h2).symm.trans (show s.vm.findClass _ = some (dA 3) from h1))
  · exact Option.some.inj ((show s.vm.findClass _ = some cA from h2).symm.trans (show s.vm.findClass _ = some (dA 4) from h1))
  · exact Option.some.inj ((show s.vm.findClass _ = some cA from h2).symm.trans (show s.vm.findClass _ = some (dA 5) from h1))
  · exact Option.some.inj ((show s.vm.findClass _ = some cA from h2).symm.trans (show s.vm.findClass _ = some (dA 6) from h1))
  · obtain ⟨_, _, _, _, _, z1⟩ := h1
    obtain ⟨_, _, _, _, _, z2⟩ := h2
    exact Option.some.inj (z2.symm.trans z1)
  · obtain ⟨_, _, _, _, _, z1⟩ := h1
    obtain ⟨_, _, _, _, _, z2⟩ := h2
    exact Option.some.inj (z2.symm.trans z1)
/-- one cell more -/
theorem q_V_new {rs : List qR} {E : qE} {w : qW} {k n sl : Nat} (hV : q_V rs E w) (hk : q_kok (k, n)) : q_V (rs ++ [(0, E.2.1)]) (q_kset E.1 (0, E.2.1) (k, n), E.2.1 + 1, sl) w ∧ (0, E.2.1) ∉ rs := by
  obtain ⟨v1, v2, v3, v4, v5, v6, v7⟩ := hV
  have hnew : (0, E.2.1) ∉ rs := fun h => Nat.lt_irrefl _ (v4 _ h)
  refine ⟨⟨fun r hr => ?_, v2, fun r hr kn he k' r' hr' h5 => ?_, fun j hj => ?_, fun j hj => v5 j (by dsimp only at hj; omega), fun kn he => ?_, fun i hi => ?_, fun j hj => ?_⟩, hnew⟩
  · dsimp only [q_kset]
    by_cases hq : r = (0, E.2.1)
    · exact ⟨_, if_pos hq, hk⟩
    · rw [if_neg hq]
      rcases List.mem_append.mp hr with z | z
      · exact v1 r z
      · exact absurd (List.mem_singleton.mp z) hq
  · dsimp only [q_kset] at he
    by_cases hq : r = (0, E.2.1)
    · subst hq
      have := (v5 E.2.1 (Nat.le_refl _) k').2.2
      rw [show (w.2.2 (0, E.2.1).1 (0, E.2.1).2 k') = none from this] at hr'
      cases hr'
    · rw [if_neg hq] at he
      rcases List.mem_append.mp hr with z | z
      · exact List.mem_append_left _ (v3 r z kn he k' r' hr' h5)
      · exact absurd (List.mem_singleton.mp z) hq
  · rcases List.mem_append.mp hj with z | z
    · exact Nat.lt_succ_of_lt (v4 j z)
    · have := List.mem_singleton.mp z
      simp only [Prod.mk.injEq, true_and] at this
      dsimp only
      omega
  · dsimp only [q_kset] at he
    rw [if_neg (by simp)] at he
    exact v6 kn he
  · rcases List.mem_append.mp hi with z | z
    · exact v7.1 i z
    · have := List.mem_singleton.mp z
      simp at this
  · by_cases hje : j = E.2.1
    · subst hje; exact List.mem_append_right _ (List.mem_singleton.mpr rfl)
    · exact List.mem_append_left _ (v7.2 j (by dsimp only at hj; omega))
theorem q_ws_new {dA : Nat → ClassId} {rs : List qR} {E : qE} {w : qW} {ad : qR → Nat} {q : Nat} {k n : Nat} {e : va_E} (hV : q_V rs E w) (hnew : (0, E.2.1) ∉ rs) (he : e = q_cell dA (q_kset E.1 (0, E.2.1) (k, n)) w (fun r => if r = (0, E.2.1) then q else ad r) (0, E.2.1)) : q_ws dA E.1 w ad rs ++ [(q, e)] = q_ws dA (q_kset E.1 (0, E.2.1) (k, n)) w (fun r => if r = (0, E.2.1) then q else ad r) (rs ++ [(0, E.2.1)]) := by
  have hne : ∀ r ∈ rs, r ≠ (0, E.2.1) := fun r hr z => hnew (by rw [← z]; exact hr)
  unfold q_ws
  rw [List.map_append]
  congr 1
  · have := q_ws_ext (dA := dA) (env' := q_kset E.1 (0, E.2.1) (k, n)) (w' := w) (ad' := fun r => if r = (0, E.2.1) then q else ad r) hV rfl (fun r hr => by unfold q_kset; rw [if_neg (hne r hr)]) (fun r hr => if_neg (hne r hr)) (fun r _ k => ⟨rfl, rfl, rfl⟩)
    exact this.symm
  · rw [List.map_singleton, he]
    dsimp only
    rw [if_pos rfl]

section QA
variable {p : Program} {l : Launch} {e : Env} {R : Room} {s : State} {m : MethodId} {args : Array Value} {below : List Frame} {meth : Method} {c : Code} {D : va_G} {dA : Nat → ClassId} {A : Nat → Prop} {H0 : Heap} {Q : State → Prop} {mi : Nat} {ov : Option qV} {E' E : qE} {w' w : qW} {pc : Nat} {loc : qLo} {st : List qV}
theorem q_s_new (hC : q_Cx p R s m args meth c mi) (hK0 : va_K D q_cls (q_tys dA) s) (hA : ∀ q, H0.size ≤ q → A q) {ci idx : Nat} {C : String} {T : u_T} {N : Nat} (hc : q_cls[ci]? = some (C, T, N)) (hci : ci < 12) (hw1 : Cond.classLink (q_y mi).cls idx C ∈ q_W) (hw2 : Cond.instantiable C N ∈ q_W) (hw3 : Cond.initialized C ∈ q_W) (hm1 : E.2.1 + 1 ≤ E'.2.1) (hm2 : E.2.2 + N ≤ E'.2.2) (hdg : decode (q_cc mi) pc = .ok (.new idx, 3)) (k : q_Good p l e R s m args below meth c D dA A H0 Q mi ov E' w' (pc + 3) loc (.inr (.inr (0, E.2.1)) :: st) (q_kset E.1 (0, E.2.1) (0, ci), E.2.1 + 1, E.2.2 + N) w) : q_Good p l e R s m args below meth c D dA A H0 Q mi ov E' w' pc loc (st) E w := by
  intro ad rs H locs ls cells slots hSt hL hs0 hSc h1 h2 h3 hK
  obtain ⟨hV, hP, hD, hS⟩ := id hSt
  have hs : ∀ v ∈ st, q_vok rs v := hs0
  have hkok : q_kok (0, ci) := Or.inl ⟨rfl, hci⟩
  obtain ⟨hV1, hnew⟩ := q_V_new (sl := E.2.2 + N) hV hkok
  have hz : ∀ j, w.1 0 E.2.1 j = 0 ∧ w.2.1 0 E.2.1 j = 0 ∧ w.2.2 0 E.2.1 j = none := fun j => hV.2.2.2.2.1 E.2.1 (Nat.le_refl _) j
  have fin : ∀ (q : Nat) (H1 : Heap), va_P D q_cls (q_ws dA (q_kset E.1 (0, E.2.1) (0, ci)) w (fun r => if r = (0, E.2.1) then q else ad r) (rs ++ [(0, E.2.1)])) H1 → va_D A (q_ws dA (q_kset E.1 (0, E.2.1) (0, ci)) w (fun r => if r = (0, E.2.1) then q else ad r) (rs ++ [(0, E.2.1)])) → va_S A H0 H1 locs → W p l e R s m args below meth c H1 locs (cells + 1) (slots + N) Q (F0 m (pc + 3) ls (.ref q :: st.map (q_m ad))) := by
    intro q H1 a1 a2 a3
    have hag : ∀ r, q_old rs r → (fun r => if r = (0, E.2.1) then q else ad r) r = ad r := fun r hr => if_neg (fun z => by
      rcases hr with y | y
      · exact hnew (by rw [← z]; exact y)
      · rw [y] at z; simp at z)
    have hsub : ∀ r ∈ rs, r ∈ rs ++ [(0, E.2.1)] := fun r hr => List.mem_append_left _ hr
    have hk := k (fun r => if r = (0, E.2.1) then q else ad r) (rs ++ [(0, E.2.1)]) H1 locs ls (cells + 1) (slots + N) ⟨hV1, a1, a2, a3⟩ (q_Lk_ext hag hsub hL) (List.forall_mem_cons.mpr ⟨Or.inl (List.mem_append_right _ (List.mem_singleton.mpr rfl)), fun v hv => q_vok_ext hsub (hs v hv)⟩) (q_Sc_ext hSc (hag _ (Or.inr rfl)) rfl (by simp [q_kset])) (by dsimp only; omega) (by dsimp only; omega) (by dsimp only; omega) (by
      have e1 : cells + 1 + (E'.2.1 - (E.2.1 + 1)) = cells + (E'.2.1 - E.2.1) := by omega
      have e2 : slots + N + (E'.2.2 - (E.2.2 + N)) = slots + (E'.2.2 - E.2.2) := by omega
      dsimp only
      rw [e1, e2]
      intro ad' rs' H' locs' ls' pc' b1 b2 b3 b4
      exact hK ad' rs' H' locs' ls' pc' b1 (fun r hr => (b2 r (q_old_ext hsub hr)).trans (hag r hr)) (fun r hr => b3 r (hsub r hr)) b4)
    have ev : List.map (q_m (fun r => if r = (0, E.2.1) then q else ad r)) (.inr (.inr (0, E.2.1)) :: st) = .ref q :: st.map (q_m ad) := by
      rw [List.map_cons, q_map_ext hag hs]
      simp [q_m]
    rw [ev] at hk
    exact hk
  obtain ⟨c1, c2, c3, ty0, c4, c5⟩ := q_cls_ok ci C T N hc
  refine va_new (ci := ci) (fs := q_flds w ad (0, E.2.1) ci) hC.1 hC.2.1 hC.2.2.2.2.1 (q_cls_W hc) ty0 c4 hC.2.2.2.1 (hC.2.2.2.2.1 _ hw1) (hC.2.2.2.2.1 _ hw2) (hC.2.2.2.2.1 _ hw3) hK0 hP hD hS hA hc (fun j hj => ?_) (by omega) (by omega) hdg (fun q H1 a1 a2 a3 => ?_)
  · unfold vp_V
    rw [List.getD_eq_getElem?_getD]
    rcases c5 j hj with ⟨z1, z2⟩ | ⟨z1, z2⟩
    · rw [q_flds_at z1, z2]
      show _ = Value.int (Int32.ofInt (w.1 0 E.2.1 j))
      rw [(hz j).1]
      rfl
    · rw [q_flds_at z1]
      show _ = va_rf ((w.2.2 0 E.2.1 j).map ad)
      rw [(hz j).2.2]
      cases hh : ty0 j <;> first | rfl | (rw [hh] at z2; cases z2)
  · have e1 : (.inr (ci, q_flds w ad (0, E.2.1) ci) : va_E) = q_cell dA (q_kset E.1 (0, E.2.1) (0, ci)) w (fun r => if r = (0, E.2.1) then q else ad r) (0, E.2.1) := by
      rw [q_cell_o (ci := ci) (by unfold q_kset; rw [if_pos rfl])]
      congr 2
      unfold q_flds
      refine List.map_congr_left fun x _ => ?_
      unfold q_fv
      dsimp only
      rw [(hz x.2).2.2]
      rfl
    rw [q_ws_new (k := 0) (n := ci) hV hnew e1] at a1 a2
    exact fin q H1 a1 a2 a3
theorem q_s_newI (hC : q_Cx p R s m args meth c mi) (hK0 : va_K D q_cls (q_tys dA) s) (hA : ∀ q, H0.size ≤ q → A q) {n : Int} (h0 : 0 ≤ n) (h1000 : n ≤ 1000) (hw : Cond.arrayClass (newarray.typeOf .int) ∈ q_W) (hm1 : E.2.1 + 1 ≤ E'.2.1) (hm2 : E.2.2 + n.toNat ≤ E'.2.2) (hdg : decode (q_cc mi) pc = .ok (.newarray .int, 2)) (k : q_Good p l e R s m args below meth c D dA A H0 Q mi ov E' w' (pc + 2) loc (.inr (.inr (0, E.2.1)) :: st) (q_kset E.1 (0, E.2.1) (1, n.toNat), E.2.1 + 1, E.2.2 + n.toNat) w) : q_Good p l e R s m args below meth c D dA A H0 Q mi ov E' w' pc loc (.inl n :: st) E w := by
  intro ad rs H locs ls cells slots hSt hL hs0 hSc h1 h2 h3 hK
  obtain ⟨hV, hP, hD, hS⟩ := id hSt
  have hs : ∀ v ∈ st, q_vok rs v := (List.forall_mem_cons.mp hs0).2
  have hkok : q_kok (1, n.toNat) := Or.inr ⟨by simp, by dsimp only; omega⟩
  obtain ⟨hV1, hnew⟩ := q_V_new (sl := E.2.2 + n.toNat) hV hkok
  have hz : ∀ j, w.1 0 E.2.1 j = 0 ∧ w.2.1 0 E.2.1 j = 0 ∧ w.2.2 0 E.2.1 j = none := fun j => hV.2.2.2.2.1 E.2.1 (Nat.le_refl _) j
  have fin : ∀ (q : Nat) (H1 : Heap), va_P D q_cls (q_ws dA (q_kset E.1 (0, E.2.1) (1, n.toNat)) w (fun r => if r = (0, E.2.1) then q else ad r) (rs ++ [(0, E.2.1)])) H1 → va_D A (q_ws dA (q_kset E.1 (0, E.2.1) (1, n.toNat)) w (fun r => if r = (0, E.2.1) then q else ad r) (rs ++ [(0, E.2.1)])) → va_S A H0 H1 locs → W p l e R s m args below meth c H1 locs (cells + 1) (slots + n.toNat) Q (F0 m (pc + 2) ls (.ref q :: st.map (q_m ad))) := by
    intro q H1 a1 a2 a3
    have hag : ∀ r, q_old rs r → (fun r => if r = (0, E.2.1) then q else ad r) r = ad r := fun r hr => if_neg (fun z => by
      rcases hr with y | y
      · exact hnew (by rw [← z]; exact y)
      · rw [y] at z; simp at z)
    have hsub : ∀ r ∈ rs, r ∈ rs ++ [(0, E.2.1)] := fun r hr => List.mem_append_left _ hr
    have hk := k (fun r => if r = (0, E.2.1) then q else ad r) (rs ++ [(0, E.2.1)]) H1 locs ls (cells + 1) (slots + n.toNat) ⟨hV1, a1, a2, a3⟩ (q_Lk_ext hag hsub hL) (List.forall_mem_cons.mpr ⟨Or.inl (List.mem_append_right _ (List.mem_singleton.mpr rfl)), fun v hv => q_vok_ext hsub (hs v hv)⟩) (q_Sc_ext hSc (hag _ (Or.inr rfl)) rfl (by simp [q_kset])) (by dsimp only; omega) (by dsimp only; omega) (by dsimp only; omega) (by
      have e1 : cells + 1 + (E'.2.1 - (E.2.1 + 1)) = cells + (E'.2.1 - E.2.1) := by omega
      have e2 : slots + n.toNat + (E'.2.2 - (E.2.2 + n.toNat)) = slots + (E'.2.2 - E.2.2) := by omega
      dsimp only
      rw [e1, e2]
      intro ad' rs' H' locs' ls' pc' b1 b2 b3 b4
      exact hK ad' rs' H' locs' ls' pc' b1 (fun r hr => (b2 r (q_old_ext hsub hr)).trans (hag r hr)) (fun r hr => b3 r (hsub r hr)) b4)
    have ev : List.map (q_m (fun r => if r = (0, E.2.1) then q else ad r)) (.inr (.inr (0, E.2.1)) :: st) = .ref q :: st.map (q_m ad) := by
      rw [List.map_cons, q_map_ext hag hs]
      simp [q_m]
    rw [ev] at hk
    exact hk
  have hcn := (List.forall_mem_cons.mp hs0).1
  have hby : n.toNat * componentBytes (.int : FieldType) ≤ 536870912 := Nat.le_trans (Nat.mul_le_mul_left _ (show componentBytes (.int : FieldType) ≤ 8 by decide)) (by omega)
  refine va_newa (atype := .int) (ty := .int) (N' := n.toNat) (a0 := (n.toNat, .inl (fun j => Int32.ofInt (w.1 0 E.2.1 j)))) hC.1 hC.2.1 (hC.2.2.2.2.1 _ hw) rfl hK0 hP hD hS hA (fun cA => ?_) (fun z => ?_) (q_ixn hcn) hby (by omega) (by omega) hdg (fun q cA H1 a0 a1 a2 a3 => ?_)
  · simp only [(hz _).1]
    rfl
  · have := (q_e_lt hcn q_can_0).mp z
    omega
  · have hcA := q_dA_eq (k := 1) hK0 (by decide) a0
    subst hcA
    rw [q_ws_new (k := 1) (n := n.toNat) hV hnew (q_cell_i (by unfold q_kset; rw [if_pos rfl]) (by decide)).symm] at a1 a2
    exact fin q H1 a1 a2 a3
theorem q_s_newB (hC : q_Cx p R s m args meth c mi) (hK0 : va_K D q_cls (q_tys dA) s) (hA : ∀ q, H0.size ≤ q → A q) {n : Int} (h0 : 0 ≤ n) (h1000 : n ≤ 1000) (hw : Cond.arrayClass (newarray.typeOf .byte) ∈ q_W) (hm1 : E.2.1 + 1 ≤ E'.2.1) (hm2 : E.2.2 + n.toNat ≤ E'.2.2) (hdg : decode (q_cc mi) pc = .ok (.newarray .byte, 2)) (k : q_Good p l e R s m args below meth c D dA A H0 Q mi ov E' w' (pc + 2) loc (.inr (.inr (0, E.2.1)) :: st) (q_kset E.1 (0, E.2.1) (2, n.toNat), E.2.1 + 1, E.2.2 + n.toNat) w) : q_Good p l e R s m args below meth c D dA A H0 Q mi ov E' w' pc loc (.inl n :: st) E w := by
  intro ad rs H locs ls cells slots hSt hL hs0 hSc h1 h2 h3 hK
  obtain ⟨hV, hP, hD, hS⟩ := id hSt
  have hs : ∀ v ∈ st, q_vok rs v := (List.forall_mem_cons.mp hs0).2
  have hkok : q_kok (2, n.toNat) := Or.inr ⟨by simp, by dsimp only; omega⟩
  obtain ⟨hV1, hnew⟩ := q_V_new (sl := E.2.2 + n.toNat) hV hkok
  have hz : ∀ j, w.1 0 E.2.1 j = 0 ∧ w.2.1 0 E.2.1 j = 0 ∧ w.2.2 0 E.2.1 j = none := fun j => hV.2.2.2.2.1 E.2.1 (Nat.le_refl _) j
  have fin : ∀ (q : Nat) (H1 : Heap), va_P D q_cls (q_ws dA (q_kset E.1 (0, E.2.1) (2, n.toNat)) w (fun r => if r = (0, E.2.1) then q else ad r) (rs ++ [(0, E.2.1)])) H1 → va_D A (q_ws dA (q_kset E.1 (0, E.2.1) (2, n.toNat)) w (fun r => if r = (0, E.2.1) then q else ad r) (rs ++ [(0, E.2.1)])) → va_S A H0 H1 locs → W p l e R s m args below meth c H1 locs (cells + 1) (slots + n.toNat) Q (F0 m (pc + 2) ls (.ref q :: st.map (q_m ad))) := by
    intro q H1 a1 a2 a3
    have hag : ∀ r, q_old rs r → (fun r => if r = (0, E.2.1) then q else ad r) r = ad r := fun r hr => if_neg (fun z => by
      rcases hr with y | y
      · exact hnew (by rw [← z]; exact y)
      · rw [y] at z; simp at z)
    have hsub : ∀ r ∈ rs, r ∈ rs ++ [(0, E.2.1)] := fun r hr => List.mem_append_left _ hr
    have hk := k (fun r => if r = (0, E.2.1) then q else ad r) (rs ++ [(0, E.2.1)]) H1 locs ls (cells + 1) (slots + n.toNat) ⟨hV1, a1, a2, a3⟩ (q_Lk_ext hag hsub hL) (List.forall_mem_cons.mpr ⟨Or.inl (List.mem_append_right _ (List.mem_singleton.mpr rfl)), fun v hv => q_vok_ext hsub (hs v hv)⟩) (q_Sc_ext hSc (hag _ (Or.inr rfl)) rfl (by simp [q_kset])) (by dsimp only; omega) (by dsimp only; omega) (by dsimp only; omega) (by
      have e1 : cells + 1 + (E'.2.1 - (E.2.1 + 1)) = cells + (E'.2.1 - E.2.1) := by omega
      have e2 : slots + n.toNat + (E'.2.2 - (E.2.2 + n.toNat)) = slots + (E'.2.2 - E.2.2) := by omega
      dsimp only
      rw [e1, e2]
      intro ad' rs' H' locs' ls' pc' b1 b2 b3 b4
      exact hK ad' rs' H' locs' ls' pc' b1 (fun r hr => (b2 r (q_old_ext hsub hr)).trans (hag r hr)) (fun r hr => b3 r (hsub r hr)) b4)
    have ev : List.map (q_m (fun r => if r = (0, E.2.1) then q else ad r)) (.inr (.inr (0, E.2.1)) :: st) = .ref q :: st.map (q_m ad) := by
      rw [List.map_cons, q_map_ext hag hs]
      simp [q_m]
    rw [ev] at hk
    exact hk
  have hcn := (List.forall_mem_cons.mp hs0).1
  have hby : n.toNat * componentBytes (.byte : FieldType) ≤ 536870912 := Nat.le_trans (Nat.mul_le_mul_left _ (show componentBytes (.byte : FieldType) ≤ 8 by decide)) (by omega)
  refine va_newa (atype := .byte) (ty := .byte) (N' := n.toNat) (a0 := (n.toNat, .inl (fun j => Int32.ofInt (w.1 0 E.2.1 j)))) hC.1 hC.2.1 (hC.2.2.2.2.1 _ hw) rfl hK0 hP hD hS hA (fun cA => ?_) (fun z => ?_) (q_ixn hcn) hby (by omega) (by omega) hdg (fun q cA H1 a0 a1 a2 a3 => ?_)
  · simp only [(hz _).1]
    rfl
  · have := (q_e_lt hcn q_can_0).mp z
    omega
  · have hcA := q_dA_eq (k := 2) hK0 (by decide) a0
    subst hcA
    rw [q_ws_new (k := 2) (n := n.toNat) hV hnew (q_cell_i (by unfold q_kset; rw [if_pos rfl]) (by decide)).symm] at a1 a2
    exact fin q H1 a1 a2 a3
theorem q_s_newZ (hC : q_Cx p R s m args meth c mi) (hK0 : va_K D q_cls (q_tys dA) s) (hA : ∀ q, H0.size ≤ q → A q) {n : Int} (h0 : 0 ≤ n) (h1000 : n ≤ 1000) (hw : Cond.arrayClass (newarray.typeOf .boolean) ∈ q_W) (hm1 : E.2.1 + 1 ≤ E'.2.1) (hm2 : E.2.2 + n.toNat ≤ E'.2.2) (hdg : decode (q_cc mi) pc = .ok (.newarray .boolean, 2)) (k : q_Good p l e R s m args below meth c D dA A H0 Q mi ov E' w' (pc + 2) loc (.inr (.inr (0, E.2.1)) :: st) (q_kset E.1 (0, E.2.1) (3, n.toNat), E.2.1 + 1, E.2.2 + n.toNat) w) : q_Good p l e R s m args below meth c D dA A H0 Q mi ov E' w' pc loc (.inl n :: st) E w := by
  intro ad rs H locs ls cells slots hSt hL hs0 hSc h1 h2 h3 hK
  obtain ⟨hV, hP, hD, hS⟩ := id hSt
  have hs : ∀ v ∈ st, q_vok rs v := (List.forall_mem_cons.mp hs0).2
  have hkok : q_kok (3, n.toNat) := Or.inr ⟨by simp, by dsimp only; omega⟩
  obtain ⟨hV1, hnew⟩ := q_V_new (sl := E.2.2 + n.toNat) hV hkok
  have hz : ∀ j, w.1 0 E.2.1 j = 0 ∧ w.2.1 0 E.2.1 j = 0 ∧ w.2.2 0 E.2.1 j = none := fun j => hV.2.2.2.2.1 E.2.1 (Nat.le_refl _) j
  have fin : ∀ (q : Nat) (H1 : Heap), va_P D q_cls (q_ws dA (q_kset E.1 (0, E.2.1) (3, n.toNat)) w (fun r => if r = (0, E.2.1) then q else ad r) (rs ++ [(0, E.2.1)])) H1 → va_D A (q_ws dA (q_kset E.1 (0, E.2.1) (3, n.toNat)) w (fun r => if r = (0, E.2.1) then q else ad r) (rs ++ [(0, E.2.1)])) → va_S A H0 H1 locs → W p l e R s m args below meth c H1 locs (cells + 1) (slots + n.toNat) Q (F0 m (pc + 2) ls (.ref q :: st.map (q_m ad))) := by
    intro q H1 a1 a2 a3
    have hag : ∀ r, q_old rs r → (fun r => if r = (0, E.2.1) then q else ad r) r = ad r := fun r hr => if_neg (fun z => by
      rcases hr with y | y
      · exact hnew (by rw [← z]; exact y)
      · rw [y] at z; simp at z)
    have hsub : ∀ r ∈ rs, r ∈ rs ++ [(0, E.2.1)] := fun r hr => List.mem_append_left _ hr
    have hk := k (fun r => if r = (0, E.2.1) then q else ad r) (rs ++ [(0, E.2.1)]) H1 locs ls (cells + 1) (slots + n.toNat) ⟨hV1, a1, a2, a3⟩ (q_Lk_ext hag hsub hL) (List.forall_mem_cons.mpr ⟨Or.inl (List.mem_append_right _ (List.mem_singleton.mpr rfl)), fun v hv => q_vok_ext hsub (hs v hv)⟩) (q_Sc_ext hSc (hag _ (Or.inr rfl)) rfl (by simp [q_kset])) (by dsimp only; omega) (by dsimp only; omega) (by dsimp only; omega) (by
      have e1 : cells + 1 + (E'.2.1 - (E.2.1 + 1)) = cells + (E'.2.1 - E.2.1) := by omega
      have e2 : slots + n.toNat + (E'.2.2 - (E.2.2 + n.toNat)) = slots + (E'.2.2 - E.2.2) := by omega
      dsimp only
      rw [e1, e2]
      intro ad' rs' H' locs' ls' pc' b1 b2 b3 b4
      exact hK ad' rs' H' locs' ls' pc' b1 (fun r hr => (b2 r (q_old_ext hsub hr)).trans (hag r hr)) (fun r hr => b3 r (hsub r hr)) b4)
    have ev : List.map (q_m (fun r => if r = (0, E.2.1) then q else ad r)) (.inr (.inr (0, E.2.1)) :: st) = .ref q :: st.map (q_m ad) := by
      rw [List.map_cons, q_map_ext hag hs]
      simp [q_m]
    rw [ev] at hk
    exact hk
  have hcn := (List.forall_mem_cons.mp hs0).1
  have hby : n.toNat * componentBytes (.boolean : FieldType) ≤ 536870912 := Nat.le_trans (Nat.mul_le_mul_left _ (show componentBytes (.boolean : FieldType) ≤ 8 by decide)) (by omega)
  refine va_newa (atype := .boolean) (ty := .boolean) (N' := n.toNat) (a0 := (n.toNat, .inl (fun j => Int32.ofInt (w.1 0 E.2.1 j)))) hC.1 hC.2.1 (hC.2.2.2.2.1 _ hw) rfl hK0 hP hD hS hA (fun cA => ?_) (fun z => ?_) (q_ixn hcn) hby (by omega) (by omega) hdg (fun q cA H1 a0 a1 a2 a3 => ?_)
  · simp only [(hz _).1]
    rfl
  · have := (q_e_lt hcn q_can_0).mp z
    omega
  · have hcA := q_dA_eq (k := 3) hK0 (by decide) a0
    subst hcA
    rw [q_ws_new (k := 3) (n := n.toNat) hV hnew (q_cell_i (by unfold q_kset; rw [if_pos rfl]) (by decide)).symm] at a1 a2
    exact fin q H1 a1 a2 a3
theorem q_s_newJ (hC : q_Cx p R s m args meth c mi) (hK0 : va_K D q_cls (q_tys dA) s) (hA : ∀ q, H0.size ≤ q → A q) {n : Int} (h0 : 0 ≤ n) (h1000 : n ≤ 1000) (hw : Cond.arrayClass (newarray.typeOf .long) ∈ q_W) (hm1 : E.2.1 + 1 ≤ E'.2.1) (hm2 : E.2.2 + n.toNat ≤ E'.2.2) (hdg : decode (q_cc mi) pc = .ok (.newarray .long, 2)) (k : q_Good p l e R s m args below meth c D dA A H0 Q mi ov E' w' (pc + 2) loc (.inr (.inr (0, E.2.1)) :: st) (q_kset E.1 (0, E.2.1) (4, n.toNat), E.2.1 + 1, E.2.2 + n.toNat) w) : q_Good p l e R s m args below meth c D dA A H0 Q mi ov E' w' pc loc (.inl n :: st) E w := by
  intro ad rs H locs ls cells slots hSt hL hs0 hSc h1 h2 h3 hK
  obtain ⟨hV, hP, hD, hS⟩ := id hSt
  have hs : ∀ v ∈ st, q_vok rs v := (List.forall_mem_cons.mp hs0).2
  have hkok : q_kok (4, n.toNat) := Or.inr ⟨by simp, by dsimp only; omega⟩
  obtain ⟨hV1, hnew⟩ := q_V_new (sl := E.2.2 + n.toNat) hV hkok
  have hz : ∀ j, w.1 0 E.2.1 j = 0 ∧ w.2.1 0 E.2.1 j = 0 ∧ w.2.2 0 E.2.1 j = none := fun j => hV.2.2.2.2.1 E.2.1 (Nat.le_refl _) j
  have fin : ∀ (q : Nat) (H1 : Heap), va_P D q_cls (q_ws dA (q_kset E.1 (0, E.2.1) (4, n.toNat)) w (fun r => if r = (0, E.2.1) then q else ad r) (rs ++ [(0, E.2.1)])) H1 → va_D A (q_ws dA (q_kset E.1 (0, E.2.1) (4, n.toNat)) w (fun r => if r = (0, E.2.1) then q else ad r) (rs ++ [(0, E.2.1)])) → va_S A H0 H1 locs → W p l e R s m args below meth c H1 locs (cells + 1) (slots + n.toNat) Q (F0 m (pc + 2) ls (.ref q :: st.map (q_m ad))) := by
    intro q H1 a1 a2 a3
    have hag : ∀ r, q_old rs r → (fun r => if r = (0, E.2.1) then q else ad r) r = ad r := fun r hr => if_neg (fun z => by
      rcases hr with y | y
      · exact hnew (by rw [← z]; exact y)
      · rw [y] at z; simp at z)
    have hsub : ∀ r ∈ rs, r ∈ rs ++ [(0, E.2.1)] := fun r hr => List.mem_append_left _ hr
    have hk := k (fun r => if r = (0, E.2.1) then q else ad r) (rs ++ [(0, E.2.1)]) H1 locs ls (cells + 1) (slots + n.toNat) ⟨hV1, a1, a2, a3⟩ (q_Lk_ext hag hsub hL) (List.forall_mem_cons.mpr ⟨Or.inl (List.mem_append_right _ (List.mem_singleton.mpr rfl)), fun v hv => q_vok_ext hsub (hs v hv)⟩) (q_Sc_ext hSc (hag _ (Or.inr rfl)) rfl (by simp [q_kset])) (by dsimp only; omega) (by dsimp only; omega) (by dsimp only; omega) (by
      have e1 : cells + 1 + (E'.2.1 - (E.2.1 + 1)) = cells + (E'.2.1 - E.2.1) := by omega
      have e2 : slots + n.toNat + (E'.2.2 - (E.2.2 + n.toNat)) = slots + (E'.2.2 - E.2.2) := by omega
      dsimp only
      rw [e1, e2]
      intro ad' rs' H' locs' ls' pc' b1 b2 b3 b4
      exact hK ad' rs' H' locs' ls' pc' b1 (fun r hr => (b2 r (q_old_ext hsub hr)).trans (hag r hr)) (fun r hr => b3 r (hsub r hr)) b4)
    have ev : List.map (q_m (fun r => if r = (0, E.2.1) then q else ad r)) (.inr (.inr (0, E.2.1)) :: st) = .ref q :: st.map (q_m ad) := by
      rw [List.map_cons, q_map_ext hag hs]
      simp [q_m]
    rw [ev] at hk
    exact hk
  have hcn := (List.forall_mem_cons.mp hs0).1
  have hby : n.toNat * componentBytes (.long : FieldType) ≤ 536870912 := Nat.le_trans (Nat.mul_le_mul_left _ (show componentBytes (.long : FieldType) ≤ 8 by decide)) (by omega)
  refine va_newa (atype := .long) (ty := .long) (N' := n.toNat) (a0 := (n.toNat, .inr (.inl (fun j => w.2.1 0 E.2.1 j)))) hC.1 hC.2.1 (hC.2.2.2.2.1 _ hw) rfl hK0 hP hD hS hA (fun cA => ?_) (fun z => ?_) (q_ixn hcn) hby (by omega) (by omega) hdg (fun q cA H1 a0 a1 a2 a3 => ?_)
  · simp only [(hz _).2.1]
    rfl
  · have := (q_e_lt hcn q_can_0).mp z
    omega
  · have hcA := q_dA_eq (k := 4) hK0 (by decide) a0
    subst hcA
    rw [q_ws_new (k := 4) (n := n.toNat) hV hnew (q_cell_l (by unfold q_kset; rw [if_pos rfl])).symm] at a1 a2
    exact fin q H1 a1 a2 a3
theorem q_s_newMo (hC : q_Cx p R s m args meth c mi) (hK0 : va_K D q_cls (q_tys dA) s) (hA : ∀ q, H0.size ≤ q → A q) {n : Int} (h0 : 0 ≤ n) (h1000 : n ≤ 1000) {idx : Nat} (hw1 : Cond.classLink (q_y mi).cls idx "GrassCells$Moment" ∈ q_W) (hw2 : Cond.arrayOver (.object "GrassCells$Moment") ∈ q_W) (hm1 : E.2.1 + 1 ≤ E'.2.1) (hm2 : E.2.2 + n.toNat ≤ E'.2.2) (hdg : decode (q_cc mi) pc = .ok (.anewarray idx, 3)) (k : q_Good p l e R s m args below meth c D dA A H0 Q mi ov E' w' (pc + 3) loc (.inr (.inr (0, E.2.1)) :: st) (q_kset E.1 (0, E.2.1) (11, n.toNat), E.2.1 + 1, E.2.2 + n.toNat) w) : q_Good p l e R s m args below meth c D dA A H0 Q mi ov E' w' pc loc (.inl n :: st) E w := by
  intro ad rs H locs ls cells slots hSt hL hs0 hSc h1 h2 h3 hK
  obtain ⟨hV, hP, hD, hS⟩ := id hSt
  have hs : ∀ v ∈ st, q_vok rs v := (List.forall_mem_cons.mp hs0).2
  have hkok : q_kok (11, n.toNat) := Or.inr ⟨by simp, by dsimp only; omega⟩
  obtain ⟨hV1, hnew⟩ := q_V_new (sl := E.2.2 + n.toNat) hV hkok
  have hz : ∀ j, w.1 0 E.2.1 j = 0 ∧ w.2.1 0 E.2.1 j = 0 ∧ w.2.2 0 E.2.1 j = none := fun j => hV.2.2.2.2.1 E.2.1 (Nat.le_refl _) j
  have fin : ∀ (q : Nat) (H1 : Heap), va_P D q_cls (q_ws dA (q_kset E.1 (0, E.2.1) (11, n.toNat)) w (fun r => if r = (0, E.2.1) then q else ad r) (rs ++ [(0, E.2.1)])) H1 → va_D A (q_ws dA (q_kset E.1 (0, E.2.1) (11, n.toNat)) w (fun r => if r = (0, E.2.1) then q else ad r) (rs ++ [(0, E.2.1)])) → va_S A H0 H1 locs → W p l e R s m args below meth c H1 locs (cells + 1) (slots + n.toNat) Q (F0 m (pc + 3) ls (.ref q :: st.map (q_m ad))) := by
    intro q H1 a1 a2 a3
    have hag : ∀ r, q_old rs r → (fun r => if r = (0, E.2.1) then q else ad r) r = ad r := fun r hr => if_neg (fun z => by
      rcases hr with y | y
      · exact hnew (by rw [← z]; exact y)
      · rw [y] at z; simp at z)
    have hsub : ∀ r ∈ rs, r ∈ rs ++ [(0, E.2.1)] := fun r hr => List.mem_append_left _ hr
    have hk := k (fun r => if r = (0, E.2.1) then q else ad r) (rs ++ [(0, E.2.1)]) H1 locs ls (cells + 1) (slots + n.toNat) ⟨hV1, a1, a2, a3⟩ (q_Lk_ext hag hsub hL) (List.forall_mem_cons.mpr ⟨Or.inl (List.mem_append_right _ (List.mem_singleton.mpr rfl)), fun v hv => q_vok_ext hsub (hs v hv)⟩) (q_Sc_ext hSc (hag _ (Or.inr rfl)) rfl (by simp [q_kset])) (by dsimp only; omega) (by dsimp only; omega) (by dsimp only; omega) (by
      have e1 : cells + 1 + (E'.2.1 - (E.2.1 + 1)) = cells + (E'.2.1 - E.2.1) := by omega
      have e2 : slots + n.toNat + (E'.2.2 - (E.2.2 + n.toNat)) = slots + (E'.2.2 - E.2.2) := by omega
      dsimp only
      rw [e1, e2]
      intro ad' rs' H' locs' ls' pc' b1 b2 b3 b4
      exact hK ad' rs' H' locs' ls' pc' b1 (fun r hr => (b2 r (q_old_ext hsub hr)).trans (hag r hr)) (fun r hr => b3 r (hsub r hr)) b4)
    have ev : List.map (q_m (fun r => if r = (0, E.2.1) then q else ad r)) (.inr (.inr (0, E.2.1)) :: st) = .ref q :: st.map (q_m ad) := by
      rw [List.map_cons, q_map_ext hag hs]
      simp [q_m]
    rw [ev] at hk
    exact hk
  have hcn := (List.forall_mem_cons.mp hs0).1
  have hAO : va_AO "GrassCells$Moment" s := by
    exact va_AO.of (hC.2.2.2.2.1 _ hw2)
  refine va_newq (N' := n.toNat) hC.1 hC.2.1 hC.2.2.2.1 (hC.2.2.2.2.1 _ hw1) hAO hK0 hP hD hS hA (fun z => ?_) (q_ixn hcn) (by omega) (by omega) (by omega) hdg (fun q cA H1 a0 a1 a2 a3 => ?_)
  · have := (q_e_lt hcn q_can_0).mp z
    omega
  · have hcA := q_dA_eq (k := 11) hK0 (by decide) a0
    subst hcA
    have e1 : (.inl (dA 11, n.toNat, .inr (.inr (.inr (.inr (fun _ => none))))) : va_E) = q_cell dA (q_kset E.1 (0, E.2.1) (11, n.toNat)) w (fun r => if r = (0, E.2.1) then q else ad r) (0, E.2.1) := by
      rw [q_cell_q (k := 11) (n := n.toNat) (by unfold q_kset; rw [if_pos rfl]) (by decide)]
      congr 7
      funext j
      dsimp only
      rw [(hz j).2.2]
      simp
    rw [q_ws_new (k := 11) (n := n.toNat) hV hnew e1] at a1 a2
    exact fin q H1 a1 a2 a3
theorem q_s_newSh (hC : q_Cx p R s m args meth c mi) (hK0 : va_K D q_cls (q_tys dA) s) (hA : ∀ q, H0.size ≤ q → A q) {n : Int} (h0 : 0 ≤ n) (h1000 : n ≤ 1000) {idx : Nat} (hw1 : Cond.classLink (q_y mi).cls idx "GrassCells$Shelf" ∈ q_W) (hw2 : Cond.arrayOver (.object "GrassCells$Shelf") ∈ q_W) (hm1 : E.2.1 + 1 ≤ E'.2.1) (hm2 : E.2.2 + n.toNat ≤ E'.2.2) (hdg : decode (q_cc mi) pc = .ok (.anewarray idx, 3)) (k : q_Good p l e R s m args below meth c D dA A H0 Q mi ov E' w' (pc + 3) loc (.inr (.inr (0, E.2.1)) :: st) (q_kset E.1 (0, E.2.1) (15, n.toNat), E.2.1 + 1, E.2.2 + n.toNat) w) : q_Good p l e R s m args below meth c D dA A H0 Q mi ov E' w' pc loc (.inl n :: st) E w := by
  intro ad rs H locs ls cells slots hSt hL hs0 hSc h1 h2 h3 hK
  obtain ⟨hV, hP, hD, hS⟩ := id hSt
  have hs : ∀ v ∈ st, q_vok rs v := (List.forall_mem_cons.mp hs0).2
  have hkok : q_kok (15, n.toNat) := Or.inr ⟨by simp, by dsimp only; omega⟩
  obtain ⟨hV1, hnew⟩ := q_V_new (sl := E.2.2 + n.toNat) hV hkok
  have hz : ∀ j, w.1 0 E.2.1 j = 0 ∧ w.2.1 0 E.2.1 j = 0 ∧ w.2.2 0 E.2.1 j = none := fun j => hV.2.2.2.2.1 E.2.1 (Nat.le_refl _) j
  have fin : ∀ (q : Nat) (H1 : Heap), va_P D q_cls (q_ws dA (q_kset E.1 (0, E.2.1) (15, n.toNat)) w (fun r => if r = (0, E.2.1) then q else ad r) (rs ++ [(0, E.2.1)])) H1 → va_D A (q_ws dA (q_kset E.1 (0, E.2.1) (15, n.toNat)) w (fun r => if r = (0, E.2.1) then q else ad r) (rs ++ [(0, E.2.1)])) → va_S A H0 H1 locs → W p l e R s m args below meth c H1 locs (cells + 1) (slots + n.toNat) Q (F0 m (pc + 3) ls (.ref q :: st.map (q_m ad))) := by
    intro q H1 a1 a2 a3
    have hag : ∀ r, q_old rs r → (fun r => if r = (0, E.2.1) then q else ad r) r = ad r := fun r hr => if_neg (fun z => by
      rcases hr with y | y
      · exact hnew (by rw [← z]; exact y)
      · rw [y] at z; simp at z)
    have hsub : ∀ r ∈ rs, r ∈ rs ++ [(0, E.2.1)] := fun r hr => List.mem_append_left _ hr
    have hk := k (fun r => if r = (0, E.2.1) then q else ad r) (rs ++ [(0, E.2.1)]) H1 locs ls (cells + 1) (slots + n.toNat) ⟨hV1, a1, a2, a3⟩ (q_Lk_ext hag hsub hL) (List.forall_mem_cons.mpr ⟨Or.inl (List.mem_append_right _ (List.mem_singleton.mpr rfl)), fun v hv => q_vok_ext hsub (hs v hv)⟩) (q_Sc_ext hSc (hag _ (Or.inr rfl)) rfl (by simp [q_kset])) (by dsimp only; omega) (by dsimp only; omega) (by dsimp only; omega) (by
      have e1 : cells + 1 + (E'.2.1 - (E.2.1 + 1)) = cells + (E'.2.1 - E.2.1) := by omega
      have e2 : slots + n.toNat + (E'.2.2 - (E.2.2 + n.toNat)) = slots + (E'.2.2 - E.2.2) := by omega
      dsimp only
      rw [e1, e2]
      intro ad' rs' H' locs' ls' pc' b1 b2 b3 b4
      exact hK ad' rs' H' locs' ls' pc' b1 (fun r hr => (b2 r (q_old_ext hsub hr)).trans (hag r hr)) (fun r hr => b3 r (hsub r hr)) b4)
    have ev : List.map (q_m (fun r => if r = (0, E.2.1) then q else ad r)) (.inr (.inr (0, E.2.1)) :: st) = .ref q :: st.map (q_m ad) := by
      rw [List.map_cons, q_map_ext hag hs]
      simp [q_m]
    rw [ev] at hk
    exact hk
  have hcn := (List.forall_mem_cons.mp hs0).1
  have hAO : va_AO "GrassCells$Shelf" s := by
    exact va_AO.of (hC.2.2.2.2.1 _ hw2)
  refine va_newq (N' := n.toNat) hC.1 hC.2.1 hC.2.2.2.1 (hC.2.2.2.2.1 _ hw1) hAO hK0 hP hD hS hA (fun z => ?_) (q_ixn hcn) (by omega) (by omega) (by omega) hdg (fun q cA H1 a0 a1 a2 a3 => ?_)
  · have := (q_e_lt hcn q_can_0).mp z
    omega
  · have hcA := q_dA_eq (k := 15) hK0 (by decide) a0
    subst hcA
    have e1 : (.inl (dA 15, n.toNat, .inr (.inr (.inr (.inr (fun _ => none))))) : va_E) = q_cell dA (q_kset E.1 (0, E.2.1) (15, n.toNat)) w (fun r => if r = (0, E.2.1) then q else ad r) (0, E.2.1) := by
      rw [q_cell_q (k := 15) (n := n.toNat) (by unfold q_kset; rw [if_pos rfl]) (by decide)]
      congr 7
      funext j
      dsimp only
      rw [(hz j).2.2]
      simp
    rw [q_ws_new (k := 15) (n := n.toNat) hV hnew e1] at a1 a2
    exact fin q H1 a1 a2 a3
end QA
