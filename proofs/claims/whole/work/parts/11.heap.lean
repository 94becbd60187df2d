/-! the steps that read and write cells -/
theorem q_rs_of {rs : List qR} {E : qE} {w : qW} {r : qR} {kn : Nat × Nat} (hV : q_V rs E w) (ho : q_old rs r) (he : E.1 r = some kn) (hk : kn.1 ≠ 99) : r ∈ rs := by
  rcases ho with h | h
  · exact h
  · subst h
    exact absurd (hV.2.2.2.2.2.1 kn he) hk
theorem q_kok_of {rs : List qR} {E : qE} {w : qW} {r : qR} {kn : Nat × Nat} (hV : q_V rs E w) (hr : r ∈ rs) (he : E.1 r = some kn) : q_kok kn := by
  obtain ⟨kn', h1, h2⟩ := hV.1 r hr
  rw [he] at h1
  cases h1
  exact h2
theorem q_cell_o {dA : Nat → ClassId} {env : qR → Option (Nat × Nat)} {w : qW} {ad : qR → Nat} {r : qR} {ci : Nat} (he : env r = some (0, ci)) : q_cell dA env w ad r = .inr (ci, q_flds w ad r ci) := by
  unfold q_cell
  rw [he]
  rfl
theorem q_cell_i {dA : Nat → ClassId} {env : qR → Option (Nat × Nat)} {w : qW} {ad : qR → Nat} {r : qR} {k n : Nat} (he : env r = some (k, n)) (hk : k = 1 ∨ k = 2 ∨ k = 3) : q_cell dA env w ad r = .inl (dA k, n, .inl (fun j => Int32.ofInt (w.1 r.1 r.2 j))) := by
  unfold q_cell
  rw [he]
  rcases hk with rfl | rfl | rfl <;> rfl
theorem q_cell_l {dA : Nat → ClassId} {env : qR → Option (Nat × Nat)} {w : qW} {ad : qR → Nat} {r : qR} {n : Nat} (he : env r = some (4, n)) : q_cell dA env w ad r = .inl (dA 4, n, .inr (.inl (fun j => w.2.1 r.1 r.2 j))) := by
  unfold q_cell
  rw [he]
  rfl
theorem q_cell_q {dA : Nat → ClassId} {env : qR → Option (Nat × Nat)} {w : qW} {ad : qR → Nat} {r : qR} {k n : Nat} (he : env r = some (k, n)) (hk : 5 ≤ k) : q_cell dA env w ad r = .inl (dA k, n, .inr (.inr (.inr (.inr (fun j => if j < n then (w.2.2 r.1 r.2 j).map ad else none))))) := by
  unfold q_cell
  rw [he]
  dsimp only
  rw [if_neg (by omega), if_neg (by omega), if_neg (by omega)]
theorem q_flds_at {w : qW} {ad : qR → Nat} {r : qR} {ci b cd : Nat} (hft : (q_ft ci)[b]? = some cd) : (q_flds w ad r ci)[b]? = some (q_fv w ad r b cd) := by
  unfold q_flds
  rw [List.getElem?_map, List.getElem?_zipIdx, hft]
  simp
theorem q_flds_len {w : qW} {ad : qR → Nat} {r : qR} {ci : Nat} : (q_flds w ad r ci).length = (q_ft ci).length := by
  unfold q_flds
  simp
/-- another value in one field -/
theorem q_flds_set {w w2 : qW} {ad : qR → Nat} {r : qR} {ci b cd : Nat} {v : Value} (hft : (q_ft ci)[b]? = some cd) (hv : q_fv w2 ad r b cd = v) (ho : ∀ j cd', j ≠ b → q_fv w2 ad r j cd' = q_fv w ad r j cd') : (q_flds w ad r ci).set b v = q_flds w2 ad r ci := by
  refine List.ext_getElem? fun j => ?_
  by_cases hj : b = j
  · subst hj
    have hl : b < (q_flds w ad r ci).length := by rw [q_flds_len]; exact (List.getElem?_eq_some_iff.mp hft).1
    rw [List.getElem?_set_self hl, q_flds_at hft, hv]
  · rw [List.getElem?_set_ne hj]
    cases hq : (q_ft ci)[j]? with
    | none =>
      have : (q_ft ci).length ≤ j := List.getElem?_eq_none_iff.mp hq
      rw [List.getElem?_eq_none (by rw [q_flds_len]; exact this), List.getElem?_eq_none (by rw [q_flds_len]; exact this)]
    | some cd' => rw [q_flds_at hq, q_flds_at hq, ho j cd' (fun z => hj z.symm)]
theorem q_cell_oth {dA : Nat → ClassId} {env : qR → Option (Nat × Nat)} {w w2 : qW} {ad : qR → Nat} {r : qR} (h : ∀ k, w2.1 r.1 r.2 k = w.1 r.1 r.2 k ∧ w2.2.1 r.1 r.2 k = w.2.1 r.1 r.2 k ∧ w2.2.2 r.1 r.2 k = w.2.2 r.1 r.2 k) : q_cell dA env w2 ad r = q_cell dA env w ad r := by
  have e1 : (fun j => w2.1 r.1 r.2 j) = fun j => w.1 r.1 r.2 j := funext fun j => (h j).1
  have e2 : (fun j => w2.2.1 r.1 r.2 j) = fun j => w.2.1 r.1 r.2 j := funext fun j => (h j).2.1
  have e3 : q_fv w2 ad r = q_fv w ad r := by
    funext b cd
    unfold q_fv
    rw [(h b).1, (h b).2.2]
  unfold q_cell q_flds
  simp only [(h _).1, (h _).2.1, (h _).2.2, e3]
theorem q_setI_ne {w : qW} {r r' : qR} {j : Nat} {x : Int} (h : r' ≠ r) (k : Nat) : (q_setI w r.1 r.2 j x).1 r'.1 r'.2 k = w.1 r'.1 r'.2 k := by
  unfold q_setI
  dsimp only
  rw [if_neg]
  exact fun z => h (Prod.ext z.1 z.2.1)
theorem q_setL_ne {w : qW} {r r' : qR} {j : Nat} {x : Int64} (h : r' ≠ r) (k : Nat) : (q_setL w r.1 r.2 j x).2.1 r'.1 r'.2 k = w.2.1 r'.1 r'.2 k := by
  unfold q_setL
  dsimp only
  rw [if_neg]
  exact fun z => h (Prod.ext z.1 z.2.1)
theorem q_setR_ne {w : qW} {r r' : qR} {j : Nat} {x : Option qR} (h : r' ≠ r) (k : Nat) : (q_setR w r.1 r.2 j x).2.2 r'.1 r'.2 k = w.2.2 r'.1 r'.2 k := by
  unfold q_setR
  dsimp only
  rw [if_neg]
  exact fun z => h (Prod.ext z.1 z.2.1)
theorem q_V_setI {rs : List qR} {E : qE} {w : qW} {r : qR} {j : Nat} {x : Int} (hV : q_V rs E w) (hr : r ∈ rs) (hx : q_can x) : q_V rs E (q_setI w r.1 r.2 j x) := by
  obtain ⟨v1, v2, v3, v4, v5, v6, v7⟩ := hV
  refine ⟨v1, fun t i k => ?_, v3, v4, fun i hi k => ⟨?_, (v5 i hi k).2⟩, v6, v7⟩
  · unfold q_setI
    dsimp only
    split
    · exact hx
    · exact v2 t i k
  · unfold q_setI
    dsimp only
    rw [if_neg]
    · exact (v5 i hi k).1
    · rintro ⟨z1, z2, -⟩
      have := v4 i (by rw [z1, z2]; exact hr)
      omega
theorem q_V_setL {rs : List qR} {E : qE} {w : qW} {r : qR} {j : Nat} {x : Int64} (hV : q_V rs E w) (hr : r ∈ rs) : q_V rs E (q_setL w r.1 r.2 j x) := by
  obtain ⟨v1, v2, v3, v4, v5, v6, v7⟩ := hV
  refine ⟨v1, v2, v3, v4, fun i hi k => ⟨(v5 i hi k).1, ?_, (v5 i hi k).2.2⟩, v6, v7⟩
  unfold q_setL
  dsimp only
  rw [if_neg]
  · exact (v5 i hi k).2.1
  · rintro ⟨z1, z2, -⟩
    have := v4 i (by rw [z1, z2]; exact hr)
    omega
theorem q_V_setR {rs : List qR} {E : qE} {w : qW} {r x : qR} {j : Nat} (hV : q_V rs E w) (hr : r ∈ rs) (hx : x ∈ rs) : q_V rs E (q_setR w r.1 r.2 j (some x)) := by
  obtain ⟨v1, v2, v3, v4, v5, v6, v7⟩ := hV
  refine ⟨v1, v2, fun r1 h1 kn hk k r' he h5 => ?_, v4, fun i hi k => ⟨(v5 i hi k).1, (v5 i hi k).2.1, ?_⟩, v6, v7⟩
  · unfold q_setR at he
    dsimp only at he
    split at he
    · cases he; exact hx
    · exact v3 r1 h1 kn hk k r' he h5
  · unfold q_setR
    dsimp only
    rw [if_neg]
    · exact (v5 i hi k).2.2
    · rintro ⟨z1, z2, -⟩
      have := v4 i (by rw [z1, z2]; exact hr)
      omega
theorem q_Sc_of {mi : Nat} {s : State} {A : Nat → Prop} {H0 : Heap} {ad : qR → Nat} {env : qR → Option (Nat × Nat)} {w w2 : qW} (h : q_Sc mi s A H0 ad env w) (h0 : ∀ i k, w2.1 1 i k = w.1 1 i k) : q_Sc mi s A H0 ad env w2 := by
  intro hm
  obtain ⟨b, L, xs, a1, a2, a3, a4, a7, a5⟩ := h hm
  exact ⟨b, L, xs, a1, a2, a3, a4, a7, fun hn => ⟨fun k hk => by rw [h0]; exact (a5 hn).1 k hk, by rw [h0]; exact (a5 hn).2⟩⟩
theorem q_setI_sc {rs : List qR} {E : qE} {w : qW} {r : qR} {j : Nat} {x : Int} (hV : q_V rs E w) (hr : r ∈ rs) (i k : Nat) : (q_setI w r.1 r.2 j x).1 1 i k = w.1 1 i k := by
  unfold q_setI
  dsimp only
  rw [if_neg]
  rintro ⟨z1, z2, -⟩
  exact hV.2.2.2.2.2.2.1 r.2 (by rw [z1]; exact hr)

section QH
variable {p : Program} {l : Launch} {e : Env} {R : Room} {s : State} {m : MethodId} {args : Array Value} {below : List Frame} {meth : Method} {c : Code} {D : va_G} {dA : Nat → ClassId} {A : Nat → Prop} {H0 : Heap} {Q : State → Prop} {mi : Nat} {ov : Option qV} {E' E : qE} {w' w : qW} {pc : Nat} {loc : qLo} {st : List qV}
theorem q_s_getI (hC : q_Cx p R s m args meth c mi) (hK0 : va_K D q_cls (q_tys dA) s) {r : qR} {ci b idx cd : Nat} {C : String} {T : u_T} {N : Nat} (hc : q_cls[ci]? = some (C, T, N)) (hb : b < N) (hw : Cond.fieldLink (q_y mi).cls idx C (T b).2.1 (T b).2.2.1 ∈ q_W) (hd : (T b).1 = C) (hft : (q_ft ci)[b]? = some cd) (he : E.1 r = some (0, ci)) (hcd : cd = 0)  (hdg : decode (q_cc mi) pc = .ok (.getfield idx, 3)) (k : q_Good p l e R s m args below meth c D dA A H0 Q mi ov E' w' (pc + 3) loc (.inl (w.1 r.1 r.2 b) :: st) E w) : q_Good p l e R s m args below meth c D dA A H0 Q mi ov E' w' pc loc (.inr (.inr r) :: st) E w := by
  subst hcd
  intro ad rs H locs ls cells slots hSt hL hs hSc h1 h2 h3 hK
  obtain ⟨hV, hP, hD, hS⟩ := id hSt
  have hin := q_rs_of hV (List.forall_mem_cons.mp hs).1 he (by simp)
  obtain ⟨q0, -, hq⟩ := q_ws_at (dA := dA) (env := E.1) (w := w) (ad := ad) hin
  rw [q_cell_o he] at hq
  obtain ⟨c1, c2, c3, c4⟩ := q_cls_ok ci C T N hc
  exact va_get hC.1 hC.2.1 hC.2.2.2.2.1 (q_cls_W hc) hC.2.2.2.1 hK0 hP q0 hq hc b hb (hC.2.2.2.2.1 _ hw) (fun x hx => by rw [hd] at hx; exact hx) (q_flds_at hft) hdg (k ad rs H locs ls cells slots hSt hL (List.forall_mem_cons.mpr ⟨hSt.1.2.1 _ _ _, (List.forall_mem_cons.mp hs).2⟩) hSc h1 h2 h3 hK)
theorem q_s_getR (hC : q_Cx p R s m args meth c mi) (hK0 : va_K D q_cls (q_tys dA) s) {r : qR} {ci b idx cd : Nat} {C : String} {T : u_T} {N : Nat} (hc : q_cls[ci]? = some (C, T, N)) (hb : b < N) (hw : Cond.fieldLink (q_y mi).cls idx C (T b).2.1 (T b).2.2.1 ∈ q_W) (hd : (T b).1 = C) (hft : (q_ft ci)[b]? = some cd) (he : E.1 r = some (0, ci)) (hcd : cd = 2) {r' : qR} (hr : w.2.2 r.1 r.2 b = some r') (hdg : decode (q_cc mi) pc = .ok (.getfield idx, 3)) (k : q_Good p l e R s m args below meth c D dA A H0 Q mi ov E' w' (pc + 3) loc ((.inr (.inr r')) :: st) E w) : q_Good p l e R s m args below meth c D dA A H0 Q mi ov E' w' pc loc (.inr (.inr r) :: st) E w := by
  subst hcd
  intro ad rs H locs ls cells slots hSt hL hs hSc h1 h2 h3 hK
  obtain ⟨hV, hP, hD, hS⟩ := id hSt
  have hin := q_rs_of hV (List.forall_mem_cons.mp hs).1 he (by simp)
  obtain ⟨q0, -, hq⟩ := q_ws_at (dA := dA) (env := E.1) (w := w) (ad := ad) hin
  rw [q_cell_o he] at hq
  obtain ⟨c1, c2, c3, c4⟩ := q_cls_ok ci C T N hc
  have hm : r' ∈ rs := hV.2.2.1 r hin _ he b r' hr (fun h => by simp at h)
  have hf := q_flds_at (w := w) (ad := ad) (r := r) hft
  have ev : q_fv w ad r b 2 = .ref (ad r') := by unfold q_fv; rw [hr]; rfl
  rw [ev] at hf
  exact va_get hC.1 hC.2.1 hC.2.2.2.2.1 (q_cls_W hc) hC.2.2.2.1 hK0 hP q0 hq hc b hb (hC.2.2.2.2.1 _ hw) (fun x hx => by rw [hd] at hx; exact hx) hf hdg (k ad rs H locs ls cells slots hSt hL (List.forall_mem_cons.mpr ⟨Or.inl hm, (List.forall_mem_cons.mp hs).2⟩) hSc h1 h2 h3 hK)
theorem q_s_putI (hC : q_Cx p R s m args meth c mi) (hK0 : va_K D q_cls (q_tys dA) s) {r : qR} {ci b idx cd : Nat} {C : String} {T : u_T} {N : Nat} (hc : q_cls[ci]? = some (C, T, N)) (hb : b < N) (hw : Cond.fieldLink (q_y mi).cls idx C (T b).2.1 (T b).2.2.1 ∈ q_W) (hd : (T b).1 = C) (hft : (q_ft ci)[b]? = some cd) (he : E.1 r = some (0, ci)) (hcd : cd = 0) (hfin : (T b).2.2.2 = false ∨ ((q_y mi).name = "<init>" ∧ C = (q_y mi).cls)) {x : Int} (hdg : decode (q_cc mi) pc = .ok (.putfield idx, 3)) (k : q_Good p l e R s m args below meth c D dA A H0 Q mi ov E' w' (pc + 3) loc st E (q_setI w r.1 r.2 b x)) : q_Good p l e R s m args below meth c D dA A H0 Q mi ov E' w' pc loc (.inl x :: .inr (.inr r) :: st) E w := by
  subst hcd
  intro ad rs H locs ls cells slots hSt hL hs hSc h1 h2 h3 hK
  obtain ⟨hV, hP, hD, hS⟩ := id hSt
  have hs2 := (List.forall_mem_cons.mp hs).2
  have hin := q_rs_of hV (List.forall_mem_cons.mp hs2).1 he (by simp)
  obtain ⟨q0, hq0, hq⟩ := q_ws_at (dA := dA) (env := E.1) (w := w) (ad := ad) hin
  rw [q_cell_o he] at hq
  obtain ⟨c1, c2, c3, ty0, c4, c5⟩ := q_cls_ok ci C T N hc
  have hlen : b < (q_flds w ad r ci).length := by rw [q_flds_len, c1]; exact hb
  have hset : (q_ws dA E.1 w ad rs).set q0 (ad r, .inr (ci, (q_flds w ad r ci).set b (.int (Int32.ofInt x)))) = q_ws dA E.1 (q_setI w r.1 r.2 b x) ad rs := by
    refine q_ws_set hD hq0 ?_ (fun r2 hr2 => q_cell_oth (fun k => ⟨q_setI_ne hr2 k, rfl, rfl⟩))
    rw [q_cell_o he, q_flds_set hft]
    · unfold q_fv q_setI
      simp [va_rf]
    · intro j cd' hj
      unfold q_fv q_setI
      simp [hj]
  have hty : ty0 b = .int := by
    rcases c5 b hb with ⟨z1, z2⟩ | ⟨z1, z2⟩
    · exact z2
    · rw [hft] at z1; cases z1
  have hn : narrow (ty0 b) (.int (Int32.ofInt x)) = .int (Int32.ofInt x) := by rw [hty]; rfl
  have hf : fits (ty0 b) (.int (Int32.ofInt x)) = true := by rw [hty]; rfl
  have fin : ∀ (H1 : Heap) (locs1 : List Loc), va_P D q_cls ((q_ws dA E.1 w ad rs).set q0 (ad r, .inr (ci, (q_flds w ad r ci).set b (.int (Int32.ofInt x))))) H1 → va_D A ((q_ws dA E.1 w ad rs).set q0 (ad r, .inr (ci, (q_flds w ad r ci).set b (.int (Int32.ofInt x))))) → va_S A H0 H1 locs1 → W p l e R s m args below meth c H1 locs1 cells slots Q (F0 m (pc + 3) ls (st.map (q_m ad))) := fun H1 locs1 a1 a2 a3 => k ad rs H1 locs1 ls cells slots ⟨q_V_setI hV hin (List.forall_mem_cons.mp hs).1, by rw [← hset]; exact a1, by rw [← hset]; exact a2, a3⟩ hL (List.forall_mem_cons.mp hs2).2 (q_Sc_of hSc (q_setI_sc hV hin)) h1 h2 h3 hK
  rcases hfin with hfin | ⟨hi, hown⟩
  · exact va_put hC.1 hC.2.1 hC.2.2.2.2.1 (q_cls_W hc) ty0 c4 c3 hC.2.2.2.1 hK0 hP hD hS q0 hq hc b hb (hC.2.2.2.2.1 _ hw) (fun x hx => by rw [hd] at hx; exact hx) hfin (c4 b hb) hn hf hlen hdg fin
  · by_cases hfin : (T b).2.2.2 = true
    · exact va_putF hC.1 hC.2.1 hC.2.2.2.2.1 (q_cls_W hc) ty0 c4 c3 hC.2.2.2.1 hK0 hP hD hS q0 hq hc b hb (hC.2.2.2.2.1 _ hw) (fun x hx => by rw [hd] at hx; exact hx) hfin (hC.2.2.2.2.2.1 hi) (hd.trans hown) (c4 b hb) hn hf hlen hdg fin
    · exact va_put hC.1 hC.2.1 hC.2.2.2.2.1 (q_cls_W hc) ty0 c4 c3 hC.2.2.2.1 hK0 hP hD hS q0 hq hc b hb (hC.2.2.2.2.1 _ hw) (fun x hx => by rw [hd] at hx; exact hx) (by simpa using hfin) (c4 b hb) hn hf hlen hdg fin
theorem q_s_putR (hC : q_Cx p R s m args meth c mi) (hK0 : va_K D q_cls (q_tys dA) s) {r : qR} {ci b idx cd : Nat} {C : String} {T : u_T} {N : Nat} (hc : q_cls[ci]? = some (C, T, N)) (hb : b < N) (hw : Cond.fieldLink (q_y mi).cls idx C (T b).2.1 (T b).2.2.1 ∈ q_W) (hd : (T b).1 = C) (hft : (q_ft ci)[b]? = some cd) (he : E.1 r = some (0, ci)) (hcd : cd = 2) (hfin : (T b).2.2.2 = false ∨ ((q_y mi).name = "<init>" ∧ C = (q_y mi).cls)) {x : qR} {kx : Nat × Nat} (hx : E.1 x = some kx) (hx9 : kx.1 < 99) (hdg : decode (q_cc mi) pc = .ok (.putfield idx, 3)) (k : q_Good p l e R s m args below meth c D dA A H0 Q mi ov E' w' (pc + 3) loc st E (q_setR w r.1 r.2 b (some x))) : q_Good p l e R s m args below meth c D dA A H0 Q mi ov E' w' pc loc (.inr (.inr x) :: .inr (.inr r) :: st) E w := by
  subst hcd
  intro ad rs H locs ls cells slots hSt hL hs hSc h1 h2 h3 hK
  obtain ⟨hV, hP, hD, hS⟩ := id hSt
  have hs2 := (List.forall_mem_cons.mp hs).2
  have hin := q_rs_of hV (List.forall_mem_cons.mp hs2).1 he (by simp)
  have hxin := q_rs_of hV (List.forall_mem_cons.mp hs).1 hx (by omega)
  obtain ⟨q0, hq0, hq⟩ := q_ws_at (dA := dA) (env := E.1) (w := w) (ad := ad) hin
  rw [q_cell_o he] at hq
  obtain ⟨c1, c2, c3, ty0, c4, c5⟩ := q_cls_ok ci C T N hc
  have hlen : b < (q_flds w ad r ci).length := by rw [q_flds_len, c1]; exact hb
  have hset : (q_ws dA E.1 w ad rs).set q0 (ad r, .inr (ci, (q_flds w ad r ci).set b (.ref (ad x)))) = q_ws dA E.1 (q_setR w r.1 r.2 b (some x)) ad rs := by
    refine q_ws_set hD hq0 ?_ (fun r2 hr2 => q_cell_oth (fun k => ⟨rfl, rfl, q_setR_ne hr2 k⟩))
    rw [q_cell_o he, q_flds_set hft]
    · unfold q_fv q_setR
      simp [va_rf]
    · intro j cd' hj
      unfold q_fv q_setR
      simp [hj]
  have hty : (ty0 b).isReference = true := by
    rcases c5 b hb with ⟨z1, z2⟩ | ⟨z1, z2⟩
    · rw [hft] at z1; cases z1
    · exact z2
  have hn : narrow (ty0 b) (.ref (ad x)) = .ref (ad x) := by cases hh : ty0 b <;> first | rfl | (rw [hh] at hty; cases hty)
  have hf : fits (ty0 b) (.ref (ad x)) = true := by cases hh : ty0 b <;> first | rfl | (rw [hh] at hty; cases hty)
  have fin : ∀ (H1 : Heap) (locs1 : List Loc), va_P D q_cls ((q_ws dA E.1 w ad rs).set q0 (ad r, .inr (ci, (q_flds w ad r ci).set b (.ref (ad x))))) H1 → va_D A ((q_ws dA E.1 w ad rs).set q0 (ad r, .inr (ci, (q_flds w ad r ci).set b (.ref (ad x))))) → va_S A H0 H1 locs1 → W p l e R s m args below meth c H1 locs1 cells slots Q (F0 m (pc + 3) ls (st.map (q_m ad))) := fun H1 locs1 a1 a2 a3 => k ad rs H1 locs1 ls cells slots ⟨q_V_setR hV hin hxin, by rw [← hset]; exact a1, by rw [← hset]; exact a2, a3⟩ hL (List.forall_mem_cons.mp hs2).2 (q_Sc_of hSc (fun _ _ => rfl)) h1 h2 h3 hK
  rcases hfin with hfin | ⟨hi, hown⟩
  · exact va_put hC.1 hC.2.1 hC.2.2.2.2.1 (q_cls_W hc) ty0 c4 c3 hC.2.2.2.1 hK0 hP hD hS q0 hq hc b hb (hC.2.2.2.2.1 _ hw) (fun x hx => by rw [hd] at hx; exact hx) hfin (c4 b hb) hn hf hlen hdg fin
  · by_cases hfin : (T b).2.2.2 = true
    · exact va_putF hC.1 hC.2.1 hC.2.2.2.2.1 (q_cls_W hc) ty0 c4 c3 hC.2.2.2.1 hK0 hP hD hS q0 hq hc b hb (hC.2.2.2.2.1 _ hw) (fun x hx => by rw [hd] at hx; exact hx) hfin (hC.2.2.2.2.2.1 hi) (hd.trans hown) (c4 b hb) hn hf hlen hdg fin
    · exact va_put hC.1 hC.2.1 hC.2.2.2.2.1 (q_cls_W hc) ty0 c4 c3 hC.2.2.2.1 hK0 hP hD hS q0 hq hc b hb (hC.2.2.2.2.1 _ hw) (fun x hx => by rw [hd] at hx; exact hx) (by simpa using hfin) (c4 b hb) hn hf hlen hdg fin
theorem q_s_iald (hC : q_Cx p R s m args meth c mi) (hK0 : va_K D q_cls (q_tys dA) s) {r : qR} {n : Nat} {j : Int} (h0 : 0 ≤ j) (hn : j < n) (he : E.1 r = some (1, n)) (hdg : decode (q_cc mi) pc = .ok (.iaload, 1)) (k : q_Good p l e R s m args below meth c D dA A H0 Q mi ov E' w' (pc + 1) loc (.inl (w.1 r.1 r.2 j.toNat) :: st) E w) : q_Good p l e R s m args below meth c D dA A H0 Q mi ov E' w' pc loc (.inl j :: .inr (.inr r) :: st) E w := by
  intro ad rs H locs ls cells slots hSt hL hs hSc h1 h2 h3 hK
  obtain ⟨hV, hP, hD, hS⟩ := id hSt
  have hs2 := (List.forall_mem_cons.mp hs).2
  have hj := (List.forall_mem_cons.mp hs).1
  have hin := q_rs_of hV (List.forall_mem_cons.mp hs2).1 he (by simp)
  obtain ⟨q0, hq0, hq⟩ := q_ws_at (dA := dA) (env := E.1) (w := w) (ad := ad) hin
  obtain ⟨t0, ht⟩ := q_tys_at dA (k := 1) (by decide)
  rw [q_cell_i he (by decide)] at hq
  refine va_iald hC.1 hC.2.1 hK0 hP q0 t0 hq ht (q_in hj h0 hn) hdg ?_
  rw [q_ixn hj]
  exact k ad rs H locs ls cells slots hSt hL (List.forall_mem_cons.mpr ⟨hV.2.1 _ _ _, (List.forall_mem_cons.mp hs2).2⟩) hSc h1 h2 h3 hK
theorem q_s_bald (hC : q_Cx p R s m args meth c mi) (hK0 : va_K D q_cls (q_tys dA) s) {r : qR} {n : Nat} {j : Int} (h0 : 0 ≤ j) (hn : j < n) (he : E.1 r = some (2, n)) (hdg : decode (q_cc mi) pc = .ok (.baload, 1)) (k : q_Good p l e R s m args below meth c D dA A H0 Q mi ov E' w' (pc + 1) loc (.inl (w.1 r.1 r.2 j.toNat) :: st) E w) : q_Good p l e R s m args below meth c D dA A H0 Q mi ov E' w' pc loc (.inl j :: .inr (.inr r) :: st) E w := by
  intro ad rs H locs ls cells slots hSt hL hs hSc h1 h2 h3 hK
  obtain ⟨hV, hP, hD, hS⟩ := id hSt
  have hs2 := (List.forall_mem_cons.mp hs).2
  have hj := (List.forall_mem_cons.mp hs).1
  have hin := q_rs_of hV (List.forall_mem_cons.mp hs2).1 he (by simp)
  obtain ⟨q0, hq0, hq⟩ := q_ws_at (dA := dA) (env := E.1) (w := w) (ad := ad) hin
  obtain ⟨t0, ht⟩ := q_tys_at dA (k := 2) (by decide)
  rw [q_cell_i he (by decide)] at hq
  refine va_bald hC.1 hC.2.1 hK0 hP q0 t0 hq ht (q_in hj h0 hn) hdg ?_
  rw [q_ixn hj]
  exact k ad rs H locs ls cells slots hSt hL (List.forall_mem_cons.mpr ⟨hV.2.1 _ _ _, (List.forall_mem_cons.mp hs2).2⟩) hSc h1 h2 h3 hK
theorem q_s_zald (hC : q_Cx p R s m args meth c mi) (hK0 : va_K D q_cls (q_tys dA) s) {r : qR} {n : Nat} {j : Int} (h0 : 0 ≤ j) (hn : j < n) (he : E.1 r = some (3, n)) (hdg : decode (q_cc mi) pc = .ok (.baload, 1)) (k : q_Good p l e R s m args below meth c D dA A H0 Q mi ov E' w' (pc + 1) loc (.inl (w.1 r.1 r.2 j.toNat) :: st) E w) : q_Good p l e R s m args below meth c D dA A H0 Q mi ov E' w' pc loc (.inl j :: .inr (.inr r) :: st) E w := by
  intro ad rs H locs ls cells slots hSt hL hs hSc h1 h2 h3 hK
  obtain ⟨hV, hP, hD, hS⟩ := id hSt
  have hs2 := (List.forall_mem_cons.mp hs).2
  have hj := (List.forall_mem_cons.mp hs).1
  have hin := q_rs_of hV (List.forall_mem_cons.mp hs2).1 he (by simp)
  obtain ⟨q0, hq0, hq⟩ := q_ws_at (dA := dA) (env := E.1) (w := w) (ad := ad) hin
  obtain ⟨t0, ht⟩ := q_tys_at dA (k := 3) (by decide)
  rw [q_cell_i he (by decide)] at hq
  refine va_zald hC.1 hC.2.1 hK0 hP q0 t0 hq ht (q_in hj h0 hn) hdg ?_
  rw [q_ixn hj]
  exact k ad rs H locs ls cells slots hSt hL (List.forall_mem_cons.mpr ⟨hV.2.1 _ _ _, (List.forall_mem_cons.mp hs2).2⟩) hSc h1 h2 h3 hK
theorem q_s_lald (hC : q_Cx p R s m args meth c mi) (hK0 : va_K D q_cls (q_tys dA) s) {r : qR} {n : Nat} {j : Int} (h0 : 0 ≤ j) (hn : j < n) (he : E.1 r = some (4, n)) (hdg : decode (q_cc mi) pc = .ok (.laload, 1)) (k : q_Good p l e R s m args below meth c D dA A H0 Q mi ov E' w' (pc + 1) loc (.inr (.inl (w.2.1 r.1 r.2 j.toNat)) :: st) E w) : q_Good p l e R s m args below meth c D dA A H0 Q mi ov E' w' pc loc (.inl j :: .inr (.inr r) :: st) E w := by
  intro ad rs H locs ls cells slots hSt hL hs hSc h1 h2 h3 hK
  obtain ⟨hV, hP, hD, hS⟩ := id hSt
  have hs2 := (List.forall_mem_cons.mp hs).2
  have hj := (List.forall_mem_cons.mp hs).1
  have hin := q_rs_of hV (List.forall_mem_cons.mp hs2).1 he (by simp)
  obtain ⟨q0, hq0, hq⟩ := q_ws_at (dA := dA) (env := E.1) (w := w) (ad := ad) hin
  obtain ⟨t0, ht⟩ := q_tys_at dA (k := 4) (by decide)
  rw [q_cell_l he] at hq
  refine va_lald hC.1 hC.2.1 hK0 hP q0 t0 hq ht (q_in hj h0 hn) hdg ?_
  rw [q_ixn hj]
  exact k ad rs H locs ls cells slots hSt hL (List.forall_mem_cons.mpr ⟨trivial, (List.forall_mem_cons.mp hs2).2⟩) hSc h1 h2 h3 hK
theorem q_s_rald (hC : q_Cx p R s m args meth c mi) (hK0 : va_K D q_cls (q_tys dA) s) {r : qR} {n : Nat} {j : Int} (h0 : 0 ≤ j) (hn : j < n) {kd : Nat} {r' : qR} (h5 : 5 ≤ kd) (h9 : kd < 99) (he : E.1 r = some (kd, n)) (hr : w.2.2 r.1 r.2 j.toNat = some r') (hdg : decode (q_cc mi) pc = .ok (.aaload, 1)) (k : q_Good p l e R s m args below meth c D dA A H0 Q mi ov E' w' (pc + 1) loc (.inr (.inr r') :: st) E w) : q_Good p l e R s m args below meth c D dA A H0 Q mi ov E' w' pc loc (.inl j :: .inr (.inr r) :: st) E w := by
  intro ad rs H locs ls cells slots hSt hL hs hSc h1 h2 h3 hK
  obtain ⟨hV, hP, hD, hS⟩ := id hSt
  have hs2 := (List.forall_mem_cons.mp hs).2
  have hj := (List.forall_mem_cons.mp hs).1
  have hin := q_rs_of hV (List.forall_mem_cons.mp hs2).1 he (by dsimp only; omega)
  obtain ⟨q0, hq0, hq⟩ := q_ws_at (dA := dA) (env := E.1) (w := w) (ad := ad) hin
  have hko := q_kok_of hV hin he
  have hk8 : kd = 1 ∨ kd = 2 ∨ kd = 3 ∨ kd = 4 ∨ kd = 5 ∨ kd = 6 ∨ kd = 11 ∨ kd = 15 := by
    rcases hko with ⟨z, -⟩ | ⟨z, -⟩
    · dsimp only at z; omega
    · exact z
  have hrt : (q_kty kd).isReference = true := by
    rcases hk8 with rfl | rfl | rfl | rfl | rfl | rfl | rfl | rfl <;> first | omega | rfl
  obtain ⟨t0, ht⟩ := q_tys_at dA (k := kd) hk8
  have hlt : j.toNat < n := by omega
  have hm : r' ∈ rs := hV.2.2.1 r hin _ he j.toNat r' hr (fun _ => hlt)
  rw [q_cell_q he h5] at hq
  refine W.aald (v := .ref (ad r')) (ty := q_kty kd) hC.1 hC.2.1 (hP q0 _ hq) ((hK0.2 t0 _ ht).1 n (fun j => va_rf (if j < n then (w.2.2 r.1 r.2 j).map ad else none))) hrt (fun q => by cases q) (by show ¬ (_ < 0 ∨ (arrV _ _ _).slots.size ≤ _); rw [arrV_size]; exact q_in hj h0 hn) ?_ rfl rfl hdg (k ad rs H locs ls cells slots hSt hL (List.forall_mem_cons.mpr ⟨Or.inl hm, (List.forall_mem_cons.mp hs2).2⟩) hSc h1 h2 h3 hK)
  show (arrV _ _ _).slots[_]? = _
  rw [q_ixn hj, arrV_read _ _ hlt]
  dsimp only
  rw [if_pos hlt, hr]
  rfl
theorem q_s_iast (hC : q_Cx p R s m args meth c mi) (hK0 : va_K D q_cls (q_tys dA) s) {r : qR} {n : Nat} {j : Int} (h0 : 0 ≤ j) (hn : j < n) {x : Int} (he : E.1 r = some (1, n)) (hdg : decode (q_cc mi) pc = .ok (.iastore, 1)) (k : q_Good p l e R s m args below meth c D dA A H0 Q mi ov E' w' (pc + 1) loc st E (q_setI w r.1 r.2 j.toNat (q_nar 1 x))) : q_Good p l e R s m args below meth c D dA A H0 Q mi ov E' w' pc loc (.inl x :: .inl j :: .inr (.inr r) :: st) E w := by
  intro ad rs H locs ls cells slots hSt hL hs hSc h1 h2 h3 hK
  obtain ⟨hV, hP, hD, hS⟩ := id hSt
  have hs1 := (List.forall_mem_cons.mp hs).2
  have hs2 := (List.forall_mem_cons.mp hs1).2
  have hj := (List.forall_mem_cons.mp hs1).1
  have hx := (List.forall_mem_cons.mp hs).1
  have hin := q_rs_of hV (List.forall_mem_cons.mp hs2).1 he (by simp)
  obtain ⟨q0, hq0, hq⟩ := q_ws_at (dA := dA) (env := E.1) (w := w) (ad := ad) hin
  obtain ⟨t0, ht⟩ := q_tys_at dA (k := 1) (by decide)
  rw [q_cell_i he (by decide)] at hq
  have hnx : q_can (q_nar 1 x) := hx
  have hset : ∀ f : Nat → Int32, f = upd (fun j => Int32.ofInt (w.1 r.1 r.2 j)) (Int32.ofInt j).toNatClampNeg (Int32.ofInt x) → (q_ws dA E.1 w ad rs).set q0 (ad r, .inl (dA 1, n, .inl f)) = q_ws dA E.1 (q_setI w r.1 r.2 j.toNat (q_nar 1 x)) ad rs := by
    intro f hf
    refine q_ws_set hD hq0 ?_ (fun r2 hr2 => q_cell_oth (fun k => ⟨q_setI_ne hr2 k, rfl, rfl⟩))
    rw [q_cell_i he (by decide), hf, q_ixn hj]
    congr 4
    funext i
    unfold upd q_setI q_nar
    by_cases hi : i = j.toNat <;> simp [hi]
  exact va_iast hC.1 hC.2.1 hK0 hP hD hS q0 t0 hq ht (q_in hj h0 hn) hdg (fun H1 locs1 a1 a2 a3 => k ad rs H1 locs1 ls cells slots ⟨q_V_setI hV hin hnx, by rw [← hset _ rfl]; exact a1, by rw [← hset _ rfl]; exact a2, a3⟩ hL (List.forall_mem_cons.mp hs2).2 (q_Sc_of hSc (q_setI_sc hV hin)) h1 h2 h3 hK)
theorem q_s_bast (hC : q_Cx p R s m args meth c mi) (hK0 : va_K D q_cls (q_tys dA) s) {r : qR} {n : Nat} {j : Int} (h0 : 0 ≤ j) (hn : j < n) {x : Int} (he : E.1 r = some (2, n)) (hdg : decode (q_cc mi) pc = .ok (.bastore, 1)) (k : q_Good p l e R s m args below meth c D dA A H0 Q mi ov E' w' (pc + 1) loc st E (q_setI w r.1 r.2 j.toNat (q_nar 2 x))) : q_Good p l e R s m args below meth c D dA A H0 Q mi ov E' w' pc loc (.inl x :: .inl j :: .inr (.inr r) :: st) E w := by
  intro ad rs H locs ls cells slots hSt hL hs hSc h1 h2 h3 hK
  obtain ⟨hV, hP, hD, hS⟩ := id hSt
  have hs1 := (List.forall_mem_cons.mp hs).2
  have hs2 := (List.forall_mem_cons.mp hs1).2
  have hj := (List.forall_mem_cons.mp hs1).1
  have hx := (List.forall_mem_cons.mp hs).1
  have hin := q_rs_of hV (List.forall_mem_cons.mp hs2).1 he (by simp)
  obtain ⟨q0, hq0, hq⟩ := q_ws_at (dA := dA) (env := E.1) (w := w) (ad := ad) hin
  obtain ⟨t0, ht⟩ := q_tys_at dA (k := 2) (by decide)
  rw [q_cell_i he (by decide)] at hq
  have hnx : q_can (q_nar 2 x) := q_can_i _
  have hset : ∀ f : Nat → Int32, f = upd (fun j => Int32.ofInt (w.1 r.1 r.2 j)) (Int32.ofInt j).toNatClampNeg (vp_nar .byte (Int32.ofInt x)) → (q_ws dA E.1 w ad rs).set q0 (ad r, .inl (dA 2, n, .inl f)) = q_ws dA E.1 (q_setI w r.1 r.2 j.toNat (q_nar 2 x)) ad rs := by
    intro f hf
    refine q_ws_set hD hq0 ?_ (fun r2 hr2 => q_cell_oth (fun k => ⟨q_setI_ne hr2 k, rfl, rfl⟩))
    rw [q_cell_i he (by decide), hf, q_ixn hj]
    congr 4
    funext i
    unfold upd q_setI q_nar
    by_cases hi : i = j.toNat <;> simp [hi, q_ofI]
  exact va_bast hC.1 hC.2.1 hK0 hP hD hS q0 t0 hq ht (q_in hj h0 hn) hdg (fun H1 locs1 a1 a2 a3 => k ad rs H1 locs1 ls cells slots ⟨q_V_setI hV hin hnx, by rw [← hset _ rfl]; exact a1, by rw [← hset _ rfl]; exact a2, a3⟩ hL (List.forall_mem_cons.mp hs2).2 (q_Sc_of hSc (q_setI_sc hV hin)) h1 h2 h3 hK)
theorem q_s_zast (hC : q_Cx p R s m args meth c mi) (hK0 : va_K D q_cls (q_tys dA) s) {r : qR} {n : Nat} {j : Int} (h0 : 0 ≤ j) (hn : j < n) {x : Int} (he : E.1 r = some (3, n)) (hdg : decode (q_cc mi) pc = .ok (.bastore, 1)) (k : q_Good p l e R s m args below meth c D dA A H0 Q mi ov E' w' (pc + 1) loc st E (q_setI w r.1 r.2 j.toNat (q_nar 3 x))) : q_Good p l e R s m args below meth c D dA A H0 Q mi ov E' w' pc loc (.inl x :: .inl j :: .inr (.inr r) :: st) E w := by
  intro ad rs H locs ls cells slots hSt hL hs hSc h1 h2 h3 hK
  obtain ⟨hV, hP, hD, hS⟩ := id hSt
  have hs1 := (List.forall_mem_cons.mp hs).2
  have hs2 := (List.forall_mem_cons.mp hs1).2
  have hj := (List.forall_mem_cons.mp hs1).1
  have hx := (List.forall_mem_cons.mp hs).1
  have hin := q_rs_of hV (List.forall_mem_cons.mp hs2).1 he (by simp)
  obtain ⟨q0, hq0, hq⟩ := q_ws_at (dA := dA) (env := E.1) (w := w) (ad := ad) hin
  obtain ⟨t0, ht⟩ := q_tys_at dA (k := 3) (by decide)
  rw [q_cell_i he (by decide)] at hq
  have hnx : q_can (q_nar 3 x) := q_can_i _
  have hset : ∀ f : Nat → Int32, f = upd (fun j => Int32.ofInt (w.1 r.1 r.2 j)) (Int32.ofInt j).toNatClampNeg (vp_nar .boolean (Int32.ofInt x)) → (q_ws dA E.1 w ad rs).set q0 (ad r, .inl (dA 3, n, .inl f)) = q_ws dA E.1 (q_setI w r.1 r.2 j.toNat (q_nar 3 x)) ad rs := by
    intro f hf
    refine q_ws_set hD hq0 ?_ (fun r2 hr2 => q_cell_oth (fun k => ⟨q_setI_ne hr2 k, rfl, rfl⟩))
    rw [q_cell_i he (by decide), hf, q_ixn hj]
    congr 4
    funext i
    unfold upd q_setI q_nar
    by_cases hi : i = j.toNat <;> simp [hi, q_ofI]
  exact va_zast hC.1 hC.2.1 hK0 hP hD hS q0 t0 hq ht (q_in hj h0 hn) hdg (fun H1 locs1 a1 a2 a3 => k ad rs H1 locs1 ls cells slots ⟨q_V_setI hV hin hnx, by rw [← hset _ rfl]; exact a1, by rw [← hset _ rfl]; exact a2, a3⟩ hL (List.forall_mem_cons.mp hs2).2 (q_Sc_of hSc (q_setI_sc hV hin)) h1 h2 h3 hK)
theorem q_s_last (hC : q_Cx p R s m args meth c mi) (hK0 : va_K D q_cls (q_tys dA) s) {r : qR} {n : Nat} {j : Int} (h0 : 0 ≤ j) (hn : j < n) {x : Int64} (he : E.1 r = some (4, n)) (hdg : decode (q_cc mi) pc = .ok (.lastore, 1)) (k : q_Good p l e R s m args below meth c D dA A H0 Q mi ov E' w' (pc + 1) loc st E (q_setL w r.1 r.2 j.toNat x)) : q_Good p l e R s m args below meth c D dA A H0 Q mi ov E' w' pc loc (.inr (.inl x) :: .inl j :: .inr (.inr r) :: st) E w := by
  intro ad rs H locs ls cells slots hSt hL hs hSc h1 h2 h3 hK
  obtain ⟨hV, hP, hD, hS⟩ := id hSt
  have hs1 := (List.forall_mem_cons.mp hs).2
  have hs2 := (List.forall_mem_cons.mp hs1).2
  have hj := (List.forall_mem_cons.mp hs1).1
  have hin := q_rs_of hV (List.forall_mem_cons.mp hs2).1 he (by simp)
  obtain ⟨q0, hq0, hq⟩ := q_ws_at (dA := dA) (env := E.1) (w := w) (ad := ad) hin
  obtain ⟨t0, ht⟩ := q_tys_at dA (k := 4) (by decide)
  rw [q_cell_l he] at hq
  have hset : ∀ f : Nat → Int64, f = vp_updL (fun j => w.2.1 r.1 r.2 j) (Int32.ofInt j).toNatClampNeg x → (q_ws dA E.1 w ad rs).set q0 (ad r, .inl (dA 4, n, .inr (.inl f))) = q_ws dA E.1 (q_setL w r.1 r.2 j.toNat x) ad rs := by
    intro f hf
    refine q_ws_set hD hq0 ?_ (fun r2 hr2 => q_cell_oth (fun k => ⟨rfl, q_setL_ne hr2 k, rfl⟩))
    rw [q_cell_l he, hf, q_ixn hj]
    congr 5
    funext i
    unfold vp_updL q_setL
    by_cases hi : i = j.toNat <;> simp [hi]
  exact va_last hC.1 hC.2.1 hK0 hP hD hS q0 t0 hq ht (q_in hj h0 hn) hdg (fun H1 locs1 a1 a2 a3 => k ad rs H1 locs1 ls cells slots ⟨q_V_setL hV hin, by rw [← hset _ rfl]; exact a1, by rw [← hset _ rfl]; exact a2, a3⟩ hL (List.forall_mem_cons.mp hs2).2 (q_Sc_of hSc (fun _ _ => rfl)) h1 h2 h3 hK)
theorem q_s_rast (hC : q_Cx p R s m args meth c mi) (hK0 : va_K D q_cls (q_tys dA) s) {r : qR} {n : Nat} {j : Int} (h0 : 0 ≤ j) (hn : j < n) {x : qR} {kd cx : Nat} (h11 : kd = 11 ∧ cx = 4 ∨ kd = 15 ∧ cx = 8) (he : E.1 r = some (kd, n)) (hx : E.1 x = some (0, cx)) (hdg : decode (q_cc mi) pc = .ok (.aastore, 1)) (k : q_Good p l e R s m args below meth c D dA A H0 Q mi ov E' w' (pc + 1) loc st E (q_setR w r.1 r.2 j.toNat (some x))) : q_Good p l e R s m args below meth c D dA A H0 Q mi ov E' w' pc loc (.inr (.inr x) :: .inl j :: .inr (.inr r) :: st) E w := by
  intro ad rs H locs ls cells slots hSt hL hs hSc h1 h2 h3 hK
  obtain ⟨hV, hP, hD, hS⟩ := id hSt
  have hs1 := (List.forall_mem_cons.mp hs).2
  have hs2 := (List.forall_mem_cons.mp hs1).2
  have hj := (List.forall_mem_cons.mp hs1).1
  have hin := q_rs_of hV (List.forall_mem_cons.mp hs2).1 he (by dsimp only; omega)
  have hxin := q_rs_of hV (List.forall_mem_cons.mp hs).1 hx (by simp)
  obtain ⟨q0, hq0, hq⟩ := q_ws_at (dA := dA) (env := E.1) (w := w) (ad := ad) hin
  obtain ⟨qx, -, hqx⟩ := q_ws_at (dA := dA) (env := E.1) (w := w) (ad := ad) hxin
  rw [q_cell_o hx] at hqx
  rw [q_cell_q he (by omega)] at hq
  have hlt : j.toNat < n := by omega
  have hset : ∀ f : Nat → Option Nat, f = va_up (fun j => if j < n then (w.2.2 r.1 r.2 j).map ad else none) (Int32.ofInt j).toNatClampNeg (some (ad x)) → (q_ws dA E.1 w ad rs).set q0 (ad r, .inl (dA kd, n, .inr (.inr (.inr (.inr f))))) = q_ws dA E.1 (q_setR w r.1 r.2 j.toNat (some x)) ad rs := by
    intro f hf
    refine q_ws_set hD hq0 ?_ (fun r2 hr2 => q_cell_oth (fun k => ⟨rfl, rfl, q_setR_ne hr2 k⟩))
    rw [q_cell_q he (by omega), hf, q_ixn hj]
    congr 7
    funext i
    unfold va_up q_setR
    by_cases hi : i = j.toNat
    · subst hi; simp [hlt]
    · simp [hi]
  obtain ⟨t0, ht⟩ := q_tys_at dA (k := kd) (by omega)
  rcases h11 with ⟨rfl, rfl⟩ | ⟨rfl, rfl⟩
  · exact va_astq (r := (RX4, TX4, 3)) hC.1 hC.2.1 hK0 hP hD hS q0 t0 qx 4 hq ht hqx rfl (q_in hj h0 hn) hdg (fun H1 locs1 a1 a2 a3 => k ad rs H1 locs1 ls cells slots ⟨q_V_setR hV hin hxin, by rw [← hset _ rfl]; exact a1, by rw [← hset _ rfl]; exact a2, a3⟩ hL (List.forall_mem_cons.mp hs2).2 (q_Sc_of hSc (fun _ _ => rfl)) h1 h2 h3 hK)
  · exact va_astq (r := (RX9, TX9, 4)) hC.1 hC.2.1 hK0 hP hD hS q0 t0 qx 8 hq ht hqx rfl (q_in hj h0 hn) hdg (fun H1 locs1 a1 a2 a3 => k ad rs H1 locs1 ls cells slots ⟨q_V_setR hV hin hxin, by rw [← hset _ rfl]; exact a1, by rw [← hset _ rfl]; exact a2, a3⟩ hL (List.forall_mem_cons.mp hs2).2 (q_Sc_of hSc (fun _ _ => rfl)) h1 h2 h3 hK)
theorem q_s_alen (hC : q_Cx p R s m args meth c mi) (hK0 : va_K D q_cls (q_tys dA) s) {r : qR} {kd n : Nat} (h0 : kd ≠ 0) (h9 : kd ≠ 99) (he : E.1 r = some (kd, n)) (hdg : decode (q_cc mi) pc = .ok (.arraylength, 1)) (k : q_Good p l e R s m args below meth c D dA A H0 Q mi ov E' w' (pc + 1) loc (.inl n :: st) E w) : q_Good p l e R s m args below meth c D dA A H0 Q mi ov E' w' pc loc (.inr (.inr r) :: st) E w := by
  intro ad rs H locs ls cells slots hSt hL hs hSc h1 h2 h3 hK
  obtain ⟨hV, hP, hD, hS⟩ := id hSt
  have hin := q_rs_of hV (List.forall_mem_cons.mp hs).1 he h9
  obtain ⟨q0, hq0, hq⟩ := q_ws_at (dA := dA) (env := E.1) (w := w) (ad := ad) hin
  have hko := q_kok_of hV hin he
  have hk8 : (kd = 1 ∨ kd = 2 ∨ kd = 3 ∨ kd = 4 ∨ kd = 5 ∨ kd = 6 ∨ kd = 11 ∨ kd = 15) ∧ n ≤ 1000 := by
    rcases hko with ⟨z, -⟩ | z
    · exact absurd z h0
    · exact z
  obtain ⟨t0, ht⟩ := q_tys_at dA (k := kd) hk8.1
  have hcn : q_can n := q_can_iff.mpr ⟨by omega, by omega⟩
  have hv : Int32.ofNat n = Int32.ofInt (n : Int) := rfl
  obtain ⟨x, hx, hxn⟩ : ∃ x : vp_A, q_cell dA E.1 w ad r = .inl (dA kd, x) ∧ x.1 = n := by
    by_cases h4 : kd < 4
    · exact ⟨_, q_cell_i he (by omega), rfl⟩
    · by_cases h5 : kd = 4
      · subst h5; exact ⟨_, q_cell_l he, rfl⟩
      · exact ⟨_, q_cell_q he (by omega), rfl⟩
  rw [hx] at hq
  exact va_alen hC.1 hC.2.1 hK0 hP q0 t0 hq ht (v := Int32.ofInt (n : Int)) (by rw [hxn]; exact hv) hdg (k ad rs H locs ls cells slots hSt hL (List.forall_mem_cons.mpr ⟨hcn, (List.forall_mem_cons.mp hs).2⟩) hSc h1 h2 h3 hK)
theorem q_s_slen (hC : q_Cx p R s m args meth c mi) (hK0 : va_K D q_cls (q_tys dA) s) (h0 : mi = 0) (h9 : E.1 (1, 0) ≠ none) (hdg : decode (q_cc mi) pc = .ok (.arraylength, 1)) (k : q_Good p l e R s m args below meth c D dA A H0 Q mi ov E' w' (pc + 1) loc (.inl (w.1 1 1 0) :: st) E w) : q_Good p l e R s m args below meth c D dA A H0 Q mi ov E' w' pc loc (.inr (.inr (1, 0)) :: st) E w := by
  intro ad rs H locs ls cells slots hSt hL hs hSc h1 h2 h3 hK
  obtain ⟨b, L, xs, a1, a2, a3, a4, a7, a56⟩ := hSc h0
  obtain ⟨a5, a6⟩ := a56 h9
  have hcn : q_can (w.1 1 1 0) := hSt.1.2.1 _ _ _
  have := k ad rs H locs ls cells slots hSt hL (List.forall_mem_cons.mpr ⟨hcn, (List.forall_mem_cons.mp hs).2⟩) hSc h1 h2 h3 hK
  show W p l e R s m args below meth c H locs cells slots Q (F0 m pc ls (.ref (ad (1, 0)) :: st.map (q_m ad)))
  rw [a4]
  refine va_slen hC.1 hC.2.1 a1 a2 a3 hSt.2.2.2 hdg ?_
  have e : (Int32.ofNat L) = Int32.ofInt (w.1 1 1 0) := by rw [a6]; rfl
  rw [e]
  exact this
theorem q_s_sld (hC : q_Cx p R s m args meth c mi) (hK0 : va_K D q_cls (q_tys dA) s) (h0 : mi = 0) (h9 : E.1 (1, 0) ≠ none) {j : Int} (hj0 : 0 ≤ j) (hjn : j < w.1 1 1 0) (hdg : decode (q_cc mi) pc = .ok (.iaload, 1)) (k : q_Good p l e R s m args below meth c D dA A H0 Q mi ov E' w' (pc + 1) loc (.inl (w.1 1 0 j.toNat) :: st) E w) : q_Good p l e R s m args below meth c D dA A H0 Q mi ov E' w' pc loc (.inl j :: .inr (.inr (1, 0)) :: st) E w := by
  intro ad rs H locs ls cells slots hSt hL hs hSc h1 h2 h3 hK
  obtain ⟨b, L, xs, a1, a2, a3, a4, a7, a56⟩ := hSc h0
  obtain ⟨a5, a6⟩ := a56 h9
  have hj := (List.forall_mem_cons.mp hs).1
  have hs2 := (List.forall_mem_cons.mp hs).2
  have := k ad rs H locs ls cells slots hSt hL (List.forall_mem_cons.mpr ⟨hSt.1.2.1 _ _ _, (List.forall_mem_cons.mp hs2).2⟩) hSc h1 h2 h3 hK
  show W p l e R s m args below meth c H locs cells slots Q (F0 m pc ls (.int (Int32.ofInt j) :: .ref (ad (1, 0)) :: st.map (q_m ad)))
  rw [a4]
  rw [a6] at hjn
  refine va_sld hC.1 hC.2.1 a1 a2 a3 hSt.2.2.2 (q_in hj hj0 hjn) hdg ?_
  have e : xs (Int32.ofInt j).toNatClampNeg = Int32.ofInt (w.1 1 0 j.toNat) := by rw [q_ixn hj, a5 _ (by omega), q_ofI]
  rw [e]
  exact this
end QH
