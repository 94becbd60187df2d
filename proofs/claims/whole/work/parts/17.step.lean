/-! a step is sound -/
def q_act (G : Nat → qLo → List qV → qE → qW → Prop) (M : Nat → List qV → qW → Option qV → qE → qW → Prop) (mi pc len : Nat) (E : qE) (ov : Option qV) (E' : qE) (w' : qW) (act : qA) : Prop := match act with
  | none => False
  | some (.inl (g, l', s', w2)) => g.all (fun q => q_condb q.1 q.2.1 q.2.2) = true ∧ G (pc + len) l' s' E w2
  | some (.inr (.inl (t, l', s', w2))) => ∃ tpc, (q_pcs mi)[t]? = some tpc ∧ G tpc l' s' E w2
  | some (.inr (.inr (.inl (o, x, y, t, l', s', w2)))) => (q_cond o x y → ∃ tpc, (q_pcs mi)[t]? = some tpc ∧ G tpc l' s' E w2) ∧ (¬ q_cond o x y → G (pc + len) l' s' E w2)
  | some (.inr (.inr (.inr (.inl (x, ts, d, l', s', w2))))) => ∃ tpc, (q_pcs mi)[q_swt x ts d]? = some tpc ∧ G tpc l' s' E w2
  | some (.inr (.inr (.inr (.inr (.inl (a, as, l', s', w2)))))) => ∃ ov1 E1 w1, M a as w2 ov1 E1 w1 ∧ G (pc + len) l' (ov1.toList ++ s') E1 w1
  | some (.inr (.inr (.inr (.inr (.inr (g, v, w2)))))) => g.all (fun q => q_condb q.1 q.2.1 q.2.2) = true ∧ ov = v ∧ E' = E ∧ w' = w2
theorem q_tg_at {pcs : List Nat} {pc : Nat} {off : Int} {a tpc : Nat} (h : q_tg pcs pc off a = true) (ht : pcs[a]? = some tpc) : (pc : Int) + off = (tpc : Int) := by
  unfold q_tg at h
  rw [ht] at h
  exact of_decide_eq_true h
theorem q_tsw_at {pcs : List Nat} {pc : Nat} : ∀ {offs : List Int} {lo : Int} {ts : List (Int × Nat)} {x : Int} {d tpc : Nat}, q_tsw pcs pc lo offs ts = true → pcs[q_swt x ts d]? = some tpc → (lo ≤ x ∧ x < lo + offs.length ∧ ∃ off, offs[(x - lo).toNat]? = some off ∧ (pc : Int) + off = (tpc : Int)) ∨ ((x < lo ∨ lo + offs.length ≤ x) ∧ q_swt x ts d = d)
  | [], lo, [], x, d, tpc, _, _ => Or.inr ⟨by simp only [List.length_nil]; omega, rfl⟩
  | [], _, _ :: _, _, _, _, h, _ => by simp [q_tsw] at h
  | _ :: _, _, [], _, _, _, h, _ => by simp [q_tsw] at h
  | o :: os, lo, (k, a) :: r, x, d, tpc, h, ht => by
    unfold q_tsw at h
    simp only [Bool.and_eq_true, decide_eq_true_eq] at h
    obtain ⟨rfl, h1, h2⟩ := h
    unfold q_swt at ht ⊢
    by_cases hx : x = k
    · rw [if_pos hx] at ht
      refine Or.inl ⟨by omega, by simp only [List.length_cons]; omega, o, ?_, q_tg_at h1 ht⟩
      rw [show (x - k).toNat = 0 by omega]
      rfl
    · rw [if_neg hx] at ht ⊢
      rcases q_tsw_at h2 ht with ⟨a1, a2, off, a3, a4⟩ | ⟨a1, a2⟩
      · refine Or.inl ⟨by omega, by simp only [List.length_cons]; omega, off, ?_, a4⟩
        rw [show (x - k).toNat = (x - (k + 1)).toNat + 1 by omega, List.getElem?_cons_succ]
        exact a3
      · exact Or.inr ⟨by simp only [List.length_cons]; omega, a2⟩
theorem q_lsw_at {pcs : List Nat} {pc : Nat} {df : Int} {d : Nat} (hd : q_tg pcs pc df d = true) : ∀ {ps : List (Int × Int)} {ts : List (Int × Nat)} {x : Int} {tpc : Nat}, q_lsw pcs pc ps ts = true → pcs[q_swt x ts d]? = some tpc → (pc : Int) + Op.lookupswitch.offset ps df x = (tpc : Int)
  | [], [], x, tpc, _, ht => q_tg_at hd ht
  | [], _ :: _, _, _, h, _ => by simp [q_lsw] at h
  | _ :: _, [], _, _, h, _ => by simp [q_lsw] at h
  | (k0, o) :: os, (k, a) :: r, x, tpc, h, ht => by
    unfold q_lsw at h
    simp only [Bool.and_eq_true, decide_eq_true_eq] at h
    obtain ⟨rfl, h1, h2⟩ := h
    unfold q_swt at ht
    unfold Op.lookupswitch.offset
    by_cases hx : x = k
    · rw [if_pos hx] at ht
      rw [if_pos hx.symm]
      exact q_tg_at h1 ht
    · rw [if_neg hx] at ht
      rw [if_neg (fun z => hx z.symm)]
      exact q_lsw_at hd h2 ht
/-- which methods a call may name -/
def q_ck2 (op : qI) : Bool := match op with
  | (i, a, b, c, _, _) => match i with
    | .invokevirtual _ => !(q_isSp a) && (Nat.blt 0 c && Nat.blt c 13)
    | .invokestatic _ => !(Nat.beq c 0) || !(q_isSp a)
    | .invokespecial _ => (Nat.beq c 98 && Nat.beq b 1) || (!(q_isSp a) && (Nat.blt 0 c && Nat.blt c 13))
    | _ => true
theorem q_ck2_all : ((List.range 240).all fun mi => (q_code mi).all q_ck2) = true := by decide +kernel
theorem q_ck2_at {mi : Nat} {op : qI} (h : mi < 240) (ho : op ∈ q_code mi) : q_ck2 op = true := List.all_eq_true.mp (List.all_eq_true.mp q_ck2_all mi (List.mem_range.mpr h)) op ho
theorem q_cat_of {v : qV} (h : q_isL v = false) : q_cat v = 1 := by
  rcases v with x | x | x
  · rfl
  · cases h
  · rfl
theorem q_tgd {pcs : List Nat} {pc : Nat} {off : Int} {a : Nat} (h : q_tg pcs pc off a = true) : (pc : Int) + off = ((pcs.getD a 0 : Nat) : Int) := by
  unfold q_tg at h
  split at h
  · rename_i t ht
    rw [List.getD_eq_getElem?_getD, ht]
    exact of_decide_eq_true h
  · cases h
theorem q_tgG {P : Nat → Prop} {pcs : List Nat} {a : Nat} (h : ∃ tpc, pcs[a]? = some tpc ∧ P tpc) : P (pcs.getD a 0) := by
  obtain ⟨t, h1, h2⟩ := h
  rw [List.getD_eq_getElem?_getD, h1]
  exact h2
theorem q_fld_at {own : String} {k a b c h : Nat} {put : Bool} {nm : String} (hh : q_fld own k a b c h put nm = true) : ∃ (C : String) (T : u_T) (N : Nat), q_cls[a]? = some (C, T, N) ∧ b < N ∧ Cond.fieldLink own k C (T b).2.1 (T b).2.2.1 ∈ q_W ∧ (T b).1 = C ∧ (q_ft a)[b]? = some c ∧ (put = true → (T b).2.2.2 = false ∨ (nm = "<init>" ∧ C = own)) := by
  unfold q_fld at hh
  split at hh
  · rename_i C T N hc
    simp only [Bool.and_eq_true, decide_eq_true_eq, Bool.or_eq_true, Bool.not_eq_true'] at hh
    obtain ⟨h1, h2, h3, h4, h5⟩ := hh
    refine ⟨C, T, N, hc, h1, q_at_T h2 rfl, h3, h4, fun hp => ?_⟩
    rcases h5 with z | z | z
    · rw [hp] at z; cases z
    · exact Or.inl z
    · exact Or.inr z
  · cases hh
theorem q_ft_02 {a b c : Nat} {C : String} {T : u_T} {N : Nat} (hc : q_cls[a]? = some (C, T, N)) (hb : b < N) (hf : (q_ft a)[b]? = some c) (h0 : c ≠ 0) : c = 2 := by
  obtain ⟨-, -, -, ty0, -, h5⟩ := q_cls_ok a C T N hc
  rcases h5 b hb with ⟨z, -⟩ | ⟨z, -⟩
  · rw [hf] at z; cases z; exact absurd rfl h0
  · rw [hf] at z; cases z; rfl
theorem q_gd {j n : Int} (h : [(Jvm.ClassFile.Cond.ge, j, (0 : Int)), (Jvm.ClassFile.Cond.lt, j, n)].all (fun q => q_condb q.1 q.2.1 q.2.2) = true) : 0 ≤ j ∧ j < n := by
  simpa [q_condb] using h
theorem q_kok_c {rs : List qR} {E : qE} {w : qW} {x : qR} {c : Nat} (hV : q_V rs E w) (ho : q_vok rs (.inr (.inr x))) (he : E.1 x = some (0, c)) : c < 12 := by
  have hin := q_rs_of hV ho he (by simp)
  rcases q_kok_of hV hin he with z | z
  · exact z.2
  · dsimp only at z; omega
theorem q_kok_r {rs : List qR} {E : qE} {w : qW} {r : qR} {k n c : Nat} (hV : q_V rs E w) (hin : r ∈ rs) (he : E.1 r = some (k, n)) (hk : k = 7 + c) (hc : c < 12) : k = 11 ∧ c = 4 ∨ k = 15 ∧ c = 8 := by
  rcases q_kok_of hV hin he with z | z
  · dsimp only at z; omega
  · dsimp only at z; omega
theorem q_room_at {mi a : Nat} (h : q_room mi a = true) : q_fr a + 1 ≤ q_fr mi ∧ 8 + (q_ml a + 11) + q_lo a ≤ q_lo mi := by
  unfold q_room at h
  simpa using h
theorem q_at_TT {i : Nat} {w : Cond} (h : q_at i w = true) (hg : goodWord w = true) : w ∈ q_T := List.mem_filter.mpr ⟨q_at_mem h, hg⟩
theorem q_take_rev {st as : List qV} {b n : Nat} (hb : b ≤ st.length) (hta : (st.take b).reverse = as) : st = as.reverse ++ st.drop b ∧ as.length = b := by
  constructor
  · rw [← hta, List.reverse_reverse, List.take_append_drop]
  · rw [← hta, List.length_reverse, List.length_take]; omega
theorem q_take_rev1 {st as : List qV} {b : Nat} {r : qR} (hb : b ≤ st.length) (hta : (st.take b).reverse = .inr (.inr r) :: as) : st = as.reverse ++ .inr (.inr r) :: st.drop b ∧ as.length + 1 = b := by
  obtain ⟨h1, h2⟩ := q_take_rev (n := 0) hb hta
  refine ⟨?_, by simpa using h2⟩
  rw [List.reverse_cons, List.append_assoc] at h1
  exact h1
section QT
variable {p : Program} {l : Launch} {e : Env} {R : Room} {s : State} {m : MethodId} {args : Array Value} {below : List Frame} {meth : Method} {c : Code} {D : va_G} {dA : Nat → ClassId} {A : Nat → Prop} {H0 : Heap} {Q : State → Prop} {mi : Nat} {ov : Option qV} {E' E : qE} {w' w : qW} {pc : Nat} {loc : qLo} {st : List qV}
theorem q_s_iinc2 (hC : q_Cx p R s m args meth c mi) {i : Nat} {n x : Int} (hi : loc[i]? = some (some (.inl x))) (hdg : decode (q_cc mi) pc = .ok (.iinc i n, 3)) (k : q_Good p l e R s m args below meth c D dA A H0 Q mi ov E' w' (pc + 3) (loc.set i (some (.inl (q_w (x + n))))) st E w) : q_Good p l e R s m args below meth c D dA A H0 Q mi ov E' w' pc loc st E w := by
  intro ad rs H locs ls cells slots hSt hL hs hSc h1 h2 h3 hK
  have hcl : q_clr loc i = loc := by
    unfold q_clr
    split
    · rfl
    · rename_i j
      split
      · rename_i y hy
        have a1 := (hL.2.2.2 j _ hy).2
        have a2 := (hL.2.2.2 (j + 1) _ hi).2
        have a3 := hL.2.2.1.1 j _ a1 rfl
        rw [a2] at a3
        cases a3
      · rfl
  exact q_s_iinc hC hi hdg (by rw [hcl]; exact k) ad rs H locs ls cells slots hSt hL hs hSc h1 h2 h3 hK
def q_MM (l : Launch) (D : va_G) (dA : Nat → ClassId) (E E' : qE) : Nat → List qV → qW → Option qV → qE → qW → Prop := fun a as w2 ov1 E1 w1 => a < 240 ∧ (q_isSp a = false → (q_args as).length ≤ q_ml a → ∀ (ad : qR → Nat) (rs : List qR) (sz : Nat), q_V rs E w2 → (∀ v ∈ as, q_vok rs v) → q_Met l D dA a as ad rs E w2 sz ov1 E1 w1) ∧ (E.2.1 ≤ E1.2.1 ∧ E.2.2 ≤ E1.2.2) ∧ (E1.2.1 ≤ E'.2.1 ∧ E1.2.2 ≤ E'.2.2) ∧ (q_scr w2 w1 ∧ E1.1 (1, 0) = E.1 (1, 0))
theorem q_s_tsw (hC : q_Cx p R s m args meth c mi) {x : Int} {d lo hi : Int} {offs : Array Int} {len a tpc : Nat} {ts : List (Int × Nat)} (hd : q_tg (q_pcs mi) pc d a = true) (ho : q_tsw (q_pcs mi) pc lo offs.toList ts = true) (hh : hi + 1 = lo + (offs.size : Int)) (ht : (q_pcs mi)[q_swt x ts a]? = some tpc) (hdg : decode (q_cc mi) pc = .ok (.tableswitch d lo hi offs, len)) (k : q_Good p l e R s m args below meth c D dA A H0 Q mi ov E' w' tpc loc st E w) : q_Good p l e R s m args below meth c D dA A H0 Q mi ov E' w' pc loc (.inl x :: st) E w := by
  intro ad rs H locs ls cells slots hSt hL hs hSc h1 h2 h3 hK
  have hx := q_toI (List.forall_mem_cons.mp hs).1
  have hk := k ad rs H locs ls cells slots hSt hL (List.forall_mem_cons.mp hs).2 hSc h1 h2 h3 hK
  rcases q_tsw_at ho ht with ⟨a1, a2, off, a3, a4⟩ | ⟨a1, a2⟩
  · rw [Array.length_toList] at a2
    exact lv_tableIn hC.1 hC.2.1 hdg (by rw [hx]; omega) (by rw [hx]; omega) (by rw [hx, ← Array.getElem?_toList]; exact a3) a4 hk
  · rw [Array.length_toList] at a1
    rw [a2] at ht
    exact lv_tableOut hC.1 hC.2.1 hdg (by rw [hx]; omega) (q_tg_at hd ht) hk
theorem q_s_lsw (hC : q_Cx p R s m args meth c mi) {x : Int} {d : Int} {ps : Array (Int × Int)} {len a tpc : Nat} {ts : List (Int × Nat)} (hd : q_tg (q_pcs mi) pc d a = true) (ho : q_lsw (q_pcs mi) pc ps.toList ts = true) (hp : (ps.toList.zip (ps.toList.drop 1)).all (fun (a, next) => a.1 < next.1) = true) (ht : (q_pcs mi)[q_swt x ts a]? = some tpc) (hdg : decode (q_cc mi) pc = .ok (.lookupswitch d ps, len)) (k : q_Good p l e R s m args below meth c D dA A H0 Q mi ov E' w' tpc loc st E w) : q_Good p l e R s m args below meth c D dA A H0 Q mi ov E' w' pc loc (.inl x :: st) E w := by
  intro ad rs H locs ls cells slots hSt hL hs hSc h1 h2 h3 hK
  have hx := q_toI (List.forall_mem_cons.mp hs).1
  have hk := k ad rs H locs ls cells slots hSt hL (List.forall_mem_cons.mp hs).2 hSc h1 h2 h3 hK
  exact lv_lookup hC.1 hC.2.1 hdg hp rfl (by rw [hx]; exact q_lsw_at hd ho ht) hk
theorem q_ret_of (ov1 : Option qV) (h : ∀ rs, (∀ v ∈ st, q_vok rs v) → q_ret1 mi pc rs ov1) (hst : st = ov1.toList) (h1 : ov = ov1) (h2 : E' = E) (h3 : w' = w) : q_Good p l e R s m args below meth c D dA A H0 Q mi ov E' w' pc loc st E w := by
  subst h1; subst h2; subst h3; subst hst
  intro ad rs H locs ls cells slots hSt hL hs hSc h1 h2 h3 hK
  have := hK ad rs H locs ls pc hSt (fun _ _ => rfl) (fun _ h => h) (h rs hs)
  rw [Nat.sub_self, Nat.sub_self] at this
  exact this
set_option maxHeartbeats 4000000 in
theorem q_step_sound (hC : q_Cx p R s m args meth c mi) (hK0 : va_K D q_cls (q_tys dA) s) (hN : q_Nt s) (hA : ∀ q, H0.size ≤ q → A q) {op : qI} {h : List Nat} {len : Nat} (hdg : decode (q_cc mi) pc = .ok (op.1, len)) (hlen : q_il op.1 = 0 ∨ len = q_il op.1) (hck : q_ckI mi (q_pcs mi) pc op h = true) (hck2 : q_ck2 op = true) (ha : q_act (q_Good p l e R s m args below meth c D dA A H0 Q mi ov E' w') (q_MM l D dA E E') mi pc len E ov E' w' (q_step mi op loc st E.1 w)) : q_Good p l e R s m args below meth c D dA A H0 Q mi ov E' w' pc loc st E w := by
  obtain ⟨i, a, b, cc, z, ts⟩ := op
  dsimp only at hdg hlen
  cases i
  case iconst n =>
    obtain rfl : len = 1 := hlen.resolve_left (by simp [q_il])
    simp only [q_ckI, Bool.and_eq_true, decide_eq_true_eq] at hck
    exact q_s_iconst hC hck.1 hck.2 hdg ha.2
  case bipush n =>
    obtain rfl : len = 2 := hlen.resolve_left (by simp [q_il])
    simp only [q_ckI, Bool.and_eq_true, decide_eq_true_eq] at hck
    exact q_s_bipush hC hck.1 hck.2 hdg ha.2
  case sipush n =>
    obtain rfl : len = 3 := hlen.resolve_left (by simp [q_il])
    simp only [q_ckI, Bool.and_eq_true, decide_eq_true_eq] at hck
    exact q_s_sipush hC hck.1 hck.2 hdg ha.2
  case ldc n =>
    obtain rfl : len = 2 := hlen.resolve_left (by simp [q_il])
    simp only [q_ckI, Bool.and_eq_true, decide_eq_true_eq] at hck
    exact q_s_ldc hC (q_at_T hck.1 rfl) hck.2 hdg ha.2
  case ldc_w n =>
    obtain rfl : len = 3 := hlen.resolve_left (by simp [q_il])
    simp only [q_ckI, Bool.and_eq_true, decide_eq_true_eq] at hck
    exact q_s_ldc_w hC (q_at_T hck.1 rfl) hck.2 hdg ha.2
  case lconst n =>
    obtain rfl : len = 1 := hlen.resolve_left (by simp [q_il])
    simp only [q_ckI, Bool.and_eq_true, decide_eq_true_eq] at hck
    exact q_s_lconst hC hck hdg ha.2
  case ldc2_w n =>
    obtain rfl : len = 3 := hlen.resolve_left (by simp [q_il])
    simp only [q_ckI] at hck
    exact q_s_ldc2 hC (q_at_T hck rfl) hdg ha.2
  case iload k =>
    obtain rfl : len = 2 := hlen.resolve_left (by simp [q_il])
    replace ha : q_act (q_Good p l e R s m args below meth c D dA A H0 Q mi ov E' w') (q_MM l D dA E E') mi pc 2 E ov E' w' (q_ld loc k st w q_isI) := ha
    unfold q_ld at ha
    split at ha
    · rename_i v hv
      split at ha
      · rename_i hg
        rcases v with x | x | x <;> first | exact q_s_iload hC hv hdg ha.2 | (cases hg)
      · exact ha.elim
    · exact ha.elim
  case iload_n k =>
    obtain rfl : len = 1 := hlen.resolve_left (by simp [q_il])
    replace ha : q_act (q_Good p l e R s m args below meth c D dA A H0 Q mi ov E' w') (q_MM l D dA E E') mi pc 1 E ov E' w' (q_ld loc (k : Nat) st w q_isI) := ha
    unfold q_ld at ha
    split at ha
    · rename_i v hv
      split at ha
      · rename_i hg
        rcases v with x | x | x <;> first | exact q_s_iload_n hC hv hdg ha.2 | (cases hg)
      · exact ha.elim
    · exact ha.elim
  case lload k =>
    obtain rfl : len = 2 := hlen.resolve_left (by simp [q_il])
    replace ha : q_act (q_Good p l e R s m args below meth c D dA A H0 Q mi ov E' w') (q_MM l D dA E E') mi pc 2 E ov E' w' (q_ld loc k st w q_isL) := ha
    unfold q_ld at ha
    split at ha
    · rename_i v hv
      split at ha
      · rename_i hg
        rcases v with x | x | x <;> first | exact q_s_lload hC hv hdg ha.2 | (cases hg)
      · exact ha.elim
    · exact ha.elim
  case lload_n k =>
    obtain rfl : len = 1 := hlen.resolve_left (by simp [q_il])
    replace ha : q_act (q_Good p l e R s m args below meth c D dA A H0 Q mi ov E' w') (q_MM l D dA E E') mi pc 1 E ov E' w' (q_ld loc (k : Nat) st w q_isL) := ha
    unfold q_ld at ha
    split at ha
    · rename_i v hv
      split at ha
      · rename_i hg
        rcases v with x | x | x <;> first | exact q_s_lload_n hC hv hdg ha.2 | (cases hg)
      · exact ha.elim
    · exact ha.elim
  case aload k =>
    obtain rfl : len = 2 := hlen.resolve_left (by simp [q_il])
    replace ha : q_act (q_Good p l e R s m args below meth c D dA A H0 Q mi ov E' w') (q_MM l D dA E E') mi pc 2 E ov E' w' (q_ld loc k st w q_isR) := ha
    unfold q_ld at ha
    split at ha
    · rename_i v hv
      split at ha
      · rename_i hg
        rcases v with x | x | x <;> first | exact q_s_aload hC hv hdg ha.2 | (cases hg)
      · exact ha.elim
    · exact ha.elim
  case aload_n k =>
    obtain rfl : len = 1 := hlen.resolve_left (by simp [q_il])
    replace ha : q_act (q_Good p l e R s m args below meth c D dA A H0 Q mi ov E' w') (q_MM l D dA E E') mi pc 1 E ov E' w' (q_ld loc (k : Nat) st w q_isR) := ha
    unfold q_ld at ha
    split at ha
    · rename_i v hv
      split at ha
      · rename_i hg
        rcases v with x | x | x <;> first | exact q_s_aload_n hC hv hdg ha.2 | (cases hg)
      · exact ha.elim
    · exact ha.elim
  case istore k =>
    obtain rfl : len = 2 := hlen.resolve_left (by simp [q_il])
    replace ha : q_act (q_Good p l e R s m args below meth c D dA A H0 Q mi ov E' w') (q_MM l D dA E E') mi pc 2 E ov E' w' (q_st1 loc k st w q_isI) := ha
    unfold q_st1 at ha
    split at ha
    · rename_i v r
      split at ha
      · rename_i hg
        rw [Bool.and_eq_true, Nat.blt_eq] at hg
        rcases v with x | x | x <;> first | exact q_s_istore hC hg.2 hdg ha.2 | (cases hg.1)
      · exact ha.elim
    · exact ha.elim
  case istore_n k =>
    obtain rfl : len = 1 := hlen.resolve_left (by simp [q_il])
    replace ha : q_act (q_Good p l e R s m args below meth c D dA A H0 Q mi ov E' w') (q_MM l D dA E E') mi pc 1 E ov E' w' (q_st1 loc (k : Nat) st w q_isI) := ha
    unfold q_st1 at ha
    split at ha
    · rename_i v r
      split at ha
      · rename_i hg
        rw [Bool.and_eq_true, Nat.blt_eq] at hg
        rcases v with x | x | x <;> first | exact q_s_istore_n hC hg.2 hdg ha.2 | (cases hg.1)
      · exact ha.elim
    · exact ha.elim
  case astore k =>
    obtain rfl : len = 2 := hlen.resolve_left (by simp [q_il])
    replace ha : q_act (q_Good p l e R s m args below meth c D dA A H0 Q mi ov E' w') (q_MM l D dA E E') mi pc 2 E ov E' w' (q_st1 loc k st w q_isR) := ha
    unfold q_st1 at ha
    split at ha
    · rename_i v r
      split at ha
      · rename_i hg
        rw [Bool.and_eq_true, Nat.blt_eq] at hg
        rcases v with x | x | x <;> first | exact q_s_astore hC hg.2 hdg ha.2 | (cases hg.1)
      · exact ha.elim
    · exact ha.elim
  case astore_n k =>
    obtain rfl : len = 1 := hlen.resolve_left (by simp [q_il])
    replace ha : q_act (q_Good p l e R s m args below meth c D dA A H0 Q mi ov E' w') (q_MM l D dA E E') mi pc 1 E ov E' w' (q_st1 loc (k : Nat) st w q_isR) := ha
    unfold q_st1 at ha
    split at ha
    · rename_i v r
      split at ha
      · rename_i hg
        rw [Bool.and_eq_true, Nat.blt_eq] at hg
        rcases v with x | x | x <;> first | exact q_s_astore_n hC hg.2 hdg ha.2 | (cases hg.1)
      · exact ha.elim
    · exact ha.elim
  case lstore k =>
    obtain rfl : len = 2 := hlen.resolve_left (by simp [q_il])
    replace ha : q_act (q_Good p l e R s m args below meth c D dA A H0 Q mi ov E' w') (q_MM l D dA E E') mi pc 2 E ov E' w' (q_st2 loc k st w) := ha
    unfold q_st2 at ha
    split at ha
    · rename_i v r
      split at ha
      · rename_i hg
        rw [Nat.blt_eq] at hg
        exact q_s_lstore hC hg hdg ha.2
      · exact ha.elim
    · exact ha.elim
  case lstore_n k =>
    obtain rfl : len = 1 := hlen.resolve_left (by simp [q_il])
    replace ha : q_act (q_Good p l e R s m args below meth c D dA A H0 Q mi ov E' w') (q_MM l D dA E E') mi pc 1 E ov E' w' (q_st2 loc (k : Nat) st w) := ha
    unfold q_st2 at ha
    split at ha
    · rename_i v r
      split at ha
      · rename_i hg
        rw [Nat.blt_eq] at hg
        exact q_s_lstore_n hC hg hdg ha.2
      · exact ha.elim
    · exact ha.elim
  case iinc k n =>
    obtain rfl : len = 3 := hlen.resolve_left (by simp [q_il])
    replace ha : q_act (q_Good p l e R s m args below meth c D dA A H0 Q mi ov E' w') (q_MM l D dA E E') mi pc 3 E ov E' w' (q_inc loc k n st w) := ha
    unfold q_inc at ha
    split at ha
    · rename_i x hx
      exact q_s_iinc2 hC hx hdg ha.2
    · exact ha.elim
  case iadd =>
    obtain rfl : len = 1 := hlen.resolve_left (by simp [q_il])
    replace ha : q_act (q_Good p l e R s m args below meth c D dA A H0 Q mi ov E' w') (q_MM l D dA E E') mi pc 1 E ov E' w' (q_bin loc st w (fun x y => q_w (x + y))) := ha
    unfold q_bin at ha
    split at ha
    · exact q_s_iadd hC hdg ha.2
    · exact ha.elim
  case isub =>
    obtain rfl : len = 1 := hlen.resolve_left (by simp [q_il])
    replace ha : q_act (q_Good p l e R s m args below meth c D dA A H0 Q mi ov E' w') (q_MM l D dA E E') mi pc 1 E ov E' w' (q_bin loc st w (fun x y => q_w (x - y))) := ha
    unfold q_bin at ha
    split at ha
    · exact q_s_isub hC hdg ha.2
    · exact ha.elim
  case imul =>
    obtain rfl : len = 1 := hlen.resolve_left (by simp [q_il])
    replace ha : q_act (q_Good p l e R s m args below meth c D dA A H0 Q mi ov E' w') (q_MM l D dA E E') mi pc 1 E ov E' w' (q_bin loc st w (fun x y => q_w (x * y))) := ha
    unfold q_bin at ha
    split at ha
    · exact q_s_imul hC hdg ha.2
    · exact ha.elim
  case iand =>
    obtain rfl : len = 1 := hlen.resolve_left (by simp [q_il])
    replace ha : q_act (q_Good p l e R s m args below meth c D dA A H0 Q mi ov E' w') (q_MM l D dA E E') mi pc 1 E ov E' w' (q_bin loc st w (q_and)) := ha
    unfold q_bin at ha
    split at ha
    · exact q_s_iand hC hdg ha.2
    · exact ha.elim
  case ior =>
    obtain rfl : len = 1 := hlen.resolve_left (by simp [q_il])
    replace ha : q_act (q_Good p l e R s m args below meth c D dA A H0 Q mi ov E' w') (q_MM l D dA E E') mi pc 1 E ov E' w' (q_bin loc st w (q_or)) := ha
    unfold q_bin at ha
    split at ha
    · exact q_s_ior hC hdg ha.2
    · exact ha.elim
  case ixor =>
    obtain rfl : len = 1 := hlen.resolve_left (by simp [q_il])
    replace ha : q_act (q_Good p l e R s m args below meth c D dA A H0 Q mi ov E' w') (q_MM l D dA E E') mi pc 1 E ov E' w' (q_bin loc st w (q_xor)) := ha
    unfold q_bin at ha
    split at ha
    · exact q_s_ixor hC hdg ha.2
    · exact ha.elim
  case ishl =>
    obtain rfl : len = 1 := hlen.resolve_left (by simp [q_il])
    replace ha : q_act (q_Good p l e R s m args below meth c D dA A H0 Q mi ov E' w') (q_MM l D dA E E') mi pc 1 E ov E' w' (q_bin loc st w (q_shl)) := ha
    unfold q_bin at ha
    split at ha
    · exact q_s_ishl hC hdg ha.2
    · exact ha.elim
  case ishr =>
    obtain rfl : len = 1 := hlen.resolve_left (by simp [q_il])
    replace ha : q_act (q_Good p l e R s m args below meth c D dA A H0 Q mi ov E' w') (q_MM l D dA E E') mi pc 1 E ov E' w' (q_bin loc st w (q_shr)) := ha
    unfold q_bin at ha
    split at ha
    · exact q_s_ishr hC hdg ha.2
    · exact ha.elim
  case iushr =>
    obtain rfl : len = 1 := hlen.resolve_left (by simp [q_il])
    replace ha : q_act (q_Good p l e R s m args below meth c D dA A H0 Q mi ov E' w') (q_MM l D dA E E') mi pc 1 E ov E' w' (q_bin loc st w (q_ushr)) := ha
    unfold q_bin at ha
    split at ha
    · exact q_s_iushr hC hdg ha.2
    · exact ha.elim
  case idiv =>
    obtain rfl : len = 1 := hlen.resolve_left (by simp [q_il])
    replace ha : q_act (q_Good p l e R s m args below meth c D dA A H0 Q mi ov E' w') (q_MM l D dA E E') mi pc 1 E ov E' w' (q_dv loc st w (q_div)) := ha
    unfold q_dv at ha
    split at ha
    · exact q_s_idiv hC (by simpa [q_condb] using ha.1) hdg ha.2
    · exact ha.elim
  case irem =>
    obtain rfl : len = 1 := hlen.resolve_left (by simp [q_il])
    replace ha : q_act (q_Good p l e R s m args below meth c D dA A H0 Q mi ov E' w') (q_MM l D dA E E') mi pc 1 E ov E' w' (q_dv loc st w (q_rem)) := ha
    unfold q_dv at ha
    split at ha
    · exact q_s_irem hC (by simpa [q_condb] using ha.1) hdg ha.2
    · exact ha.elim
  case ineg =>
    obtain rfl : len = 1 := hlen.resolve_left (by simp [q_il])
    replace ha : q_act (q_Good p l e R s m args below meth c D dA A H0 Q mi ov E' w') (q_MM l D dA E E') mi pc 1 E ov E' w' (q_un loc st w (fun x => .inl (q_w (-x)))) := ha
    unfold q_un at ha
    split at ha
    · exact q_s_ineg hC hdg ha.2
    · exact ha.elim
  case i2b =>
    obtain rfl : len = 1 := hlen.resolve_left (by simp [q_il])
    replace ha : q_act (q_Good p l e R s m args below meth c D dA A H0 Q mi ov E' w') (q_MM l D dA E E') mi pc 1 E ov E' w' (q_un loc st w (fun x => .inl (q_i2b x))) := ha
    unfold q_un at ha
    split at ha
    · exact q_s_i2b hC hdg ha.2
    · exact ha.elim
  case i2l =>
    obtain rfl : len = 1 := hlen.resolve_left (by simp [q_il])
    replace ha : q_act (q_Good p l e R s m args below meth c D dA A H0 Q mi ov E' w') (q_MM l D dA E E') mi pc 1 E ov E' w' (q_un loc st w (fun x => .inr (.inl (q_i2l x)))) := ha
    unfold q_un at ha
    split at ha
    · exact q_s_i2l hC hdg ha.2
    · exact ha.elim
  case lneg =>
    obtain rfl : len = 1 := hlen.resolve_left (by simp [q_il])
    replace ha : q_act (q_Good p l e R s m args below meth c D dA A H0 Q mi ov E' w') (q_MM l D dA E E') mi pc 1 E ov E' w' (q_unL loc st w (fun x => .inr (.inl (-x)))) := ha
    unfold q_unL at ha
    split at ha
    · exact q_s_lneg hC hdg ha.2
    · exact ha.elim
  case ladd =>
    obtain rfl : len = 1 := hlen.resolve_left (by simp [q_il])
    replace ha : q_act (q_Good p l e R s m args below meth c D dA A H0 Q mi ov E' w') (q_MM l D dA E E') mi pc 1 E ov E' w' (q_binL loc st w (fun x y => .inr (.inl (x + y)))) := ha
    unfold q_binL at ha
    split at ha
    · exact q_s_ladd hC hdg ha.2
    · exact ha.elim
  case lsub =>
    obtain rfl : len = 1 := hlen.resolve_left (by simp [q_il])
    replace ha : q_act (q_Good p l e R s m args below meth c D dA A H0 Q mi ov E' w') (q_MM l D dA E E') mi pc 1 E ov E' w' (q_binL loc st w (fun x y => .inr (.inl (x - y)))) := ha
    unfold q_binL at ha
    split at ha
    · exact q_s_lsub hC hdg ha.2
    · exact ha.elim
  case lmul =>
    obtain rfl : len = 1 := hlen.resolve_left (by simp [q_il])
    replace ha : q_act (q_Good p l e R s m args below meth c D dA A H0 Q mi ov E' w') (q_MM l D dA E E') mi pc 1 E ov E' w' (q_binL loc st w (fun x y => .inr (.inl (x * y)))) := ha
    unfold q_binL at ha
    split at ha
    · exact q_s_lmul hC hdg ha.2
    · exact ha.elim
  case lcmp =>
    obtain rfl : len = 1 := hlen.resolve_left (by simp [q_il])
    replace ha : q_act (q_Good p l e R s m args below meth c D dA A H0 Q mi ov E' w') (q_MM l D dA E E') mi pc 1 E ov E' w' (q_binL loc st w (fun x y => .inl (q_lcmp x y))) := ha
    unfold q_binL at ha
    split at ha
    · exact q_s_lcmp hC hdg ha.2
    · exact ha.elim
  case dup =>
    obtain rfl : len = 1 := hlen.resolve_left (by simp [q_il])
    replace ha : q_act (q_Good p l e R s m args below meth c D dA A H0 Q mi ov E' w') (q_MM l D dA E E') mi pc 1 E ov E' w' (q_dup loc st w) := ha
    unfold q_dup at ha
    split at ha
    · rename_i v r
      split at ha
      · exact ha.elim
      · rename_i hb
        exact q_s_dup hC (q_cat_of hb) hdg ha.2
    · exact ha.elim
  case pop =>
    obtain rfl : len = 1 := hlen.resolve_left (by simp [q_il])
    replace ha : q_act (q_Good p l e R s m args below meth c D dA A H0 Q mi ov E' w') (q_MM l D dA E E') mi pc 1 E ov E' w' (q_pop loc st w) := ha
    unfold q_pop at ha
    split at ha
    · rename_i v r
      split at ha
      · exact ha.elim
      · rename_i hb
        exact q_s_pop hC (q_cat_of hb) hdg ha.2
    · exact ha.elim
  case dup2 =>
    obtain rfl : len = 1 := hlen.resolve_left (by simp [q_il])
    replace ha : q_act (q_Good p l e R s m args below meth c D dA A H0 Q mi ov E' w') (q_MM l D dA E E') mi pc 1 E ov E' w' (q_dup2 loc st w) := ha
    unfold q_dup2 at ha
    split at ha
    · rename_i v u r
      split at ha
      · exact ha.elim
      · rename_i hb
        rw [Bool.or_eq_false_iff] at hb
        exact q_s_dup2 hC (q_cat_of hb.1) (q_cat_of hb.2) hdg ha.2
    · exact ha.elim
  case ifCond o off =>
    obtain rfl : len = 3 := hlen.resolve_left (by simp [q_il])
    replace ha : q_act (q_Good p l e R s m args below meth c D dA A H0 Q mi ov E' w') (q_MM l D dA E E') mi pc 3 E ov E' w' (q_if1 o a loc st w) := ha
    simp only [q_ckI] at hck
    unfold q_if1 at ha
    split at ha
    · cases o
      case eq => exact q_s_if_eq hC hdg (tgt := (q_pcs mi).getD a 0) (q_tgd hck) (fun q => q_tgG (ha.1 q)) (fun q => ha.2 q)
      case ne => exact q_s_if_ne hC hdg (tgt := (q_pcs mi).getD a 0) (q_tgd hck) (fun q => q_tgG (ha.1 q)) (fun q => ha.2 q)
      case lt => exact q_s_if_lt hC hdg (tgt := (q_pcs mi).getD a 0) (q_tgd hck) (fun q => q_tgG (ha.1 q)) (fun q => ha.2 q)
      case ge => exact q_s_if_ge hC hdg (tgt := (q_pcs mi).getD a 0) (q_tgd hck) (fun q => q_tgG (ha.1 q)) (fun q => ha.2 q)
      case gt => exact q_s_if_gt hC hdg (tgt := (q_pcs mi).getD a 0) (q_tgd hck) (fun q => q_tgG (ha.1 q)) (fun q => ha.2 q)
      case le => exact q_s_if_le hC hdg (tgt := (q_pcs mi).getD a 0) (q_tgd hck) (fun q => q_tgG (ha.1 q)) (fun q => ha.2 q)
    · exact ha.elim
  case if_icmp o off =>
    obtain rfl : len = 3 := hlen.resolve_left (by simp [q_il])
    replace ha : q_act (q_Good p l e R s m args below meth c D dA A H0 Q mi ov E' w') (q_MM l D dA E E') mi pc 3 E ov E' w' (q_if2 o a loc st w) := ha
    simp only [q_ckI] at hck
    unfold q_if2 at ha
    split at ha
    · cases o
      case eq => exact q_s_icmp_eq hC hdg (tgt := (q_pcs mi).getD a 0) (q_tgd hck) (fun q => q_tgG (ha.1 q)) (fun q => ha.2 q)
      case ne => exact q_s_icmp_ne hC hdg (tgt := (q_pcs mi).getD a 0) (q_tgd hck) (fun q => q_tgG (ha.1 q)) (fun q => ha.2 q)
      case lt => exact q_s_icmp_lt hC hdg (tgt := (q_pcs mi).getD a 0) (q_tgd hck) (fun q => q_tgG (ha.1 q)) (fun q => ha.2 q)
      case ge => exact q_s_icmp_ge hC hdg (tgt := (q_pcs mi).getD a 0) (q_tgd hck) (fun q => q_tgG (ha.1 q)) (fun q => ha.2 q)
      case gt => exact q_s_icmp_gt hC hdg (tgt := (q_pcs mi).getD a 0) (q_tgd hck) (fun q => q_tgG (ha.1 q)) (fun q => ha.2 q)
      case le => exact q_s_icmp_le hC hdg (tgt := (q_pcs mi).getD a 0) (q_tgd hck) (fun q => q_tgG (ha.1 q)) (fun q => ha.2 q)
    · exact ha.elim
  case goto off =>
    obtain rfl : len = 3 := hlen.resolve_left (by simp [q_il])
    simp only [q_ckI] at hck
    obtain ⟨tpc, h1, h2⟩ := ha
    exact q_s_goto hC hdg (q_tg_at hck h1) h2
  case tableswitch d lo hi offs =>
    replace ha : q_act (q_Good p l e R s m args below meth c D dA A H0 Q mi ov E' w') (q_MM l D dA E E') mi pc len E ov E' w' (q_swi ts a loc st w) := ha
    simp only [q_ckI, Bool.and_eq_true, decide_eq_true_eq] at hck
    unfold q_swi at ha
    split at ha
    · obtain ⟨tpc, h1, h2⟩ := ha
      exact q_s_tsw hC hck.1 hck.2.1 hck.2.2 h1 hdg h2
    · exact ha.elim
  case lookupswitch d ps =>
    replace ha : q_act (q_Good p l e R s m args below meth c D dA A H0 Q mi ov E' w') (q_MM l D dA E E') mi pc len E ov E' w' (q_swi ts a loc st w) := ha
    simp only [q_ckI, Bool.and_eq_true] at hck
    unfold q_swi at ha
    split at ha
    · obtain ⟨tpc, h1, h2⟩ := ha
      exact q_s_lsw hC hck.1 hck.2.1 hck.2.2 h1 hdg h2
    · exact ha.elim
  case getfield k =>
    obtain rfl : len = 3 := hlen.resolve_left (by simp [q_il])
    replace ha : q_act (q_Good p l e R s m args below meth c D dA A H0 Q mi ov E' w') (q_MM l D dA E E') mi pc 3 E ov E' w' (q_get a b cc loc st E.1 w) := ha
    simp only [q_ckI] at hck
    obtain ⟨C, T, N, f1, f2, f3, f4, f5, -⟩ := q_fld_at hck
    unfold q_get at ha
    split at ha
    · split at ha
      · rename_i hev
        split at ha
        · rename_i hb
          rw [Nat.beq_eq] at hb
          subst hb
          split at ha
          · exact q_s_getI hC hK0 f1 f2 f3 f4 f5 hev rfl hdg ha.2
          · split at ha
            · rename_i hne _ r1 hr1
              have hcd : cc = 2 := q_ft_02 f1 f2 f5 (fun z => hne z)
              exact q_s_getR hC hK0 f1 f2 f3 f4 f5 hev hcd hr1 hdg ha.2
            · exact ha.elim
        · exact ha.elim
      · exact ha.elim
    · exact ha.elim
  case putfield k =>
    obtain rfl : len = 3 := hlen.resolve_left (by simp [q_il])
    replace ha : q_act (q_Good p l e R s m args below meth c D dA A H0 Q mi ov E' w') (q_MM l D dA E E') mi pc 3 E ov E' w' (q_put a b cc loc st E.1 w) := ha
    simp only [q_ckI] at hck
    obtain ⟨C, T, N, f1, f2, f3, f4, f5, f6⟩ := q_fld_at hck
    have f6 := f6 rfl
    unfold q_put at ha
    split at ha
    · split at ha
      · rename_i hev
        split at ha
        · rename_i hb
          rw [Nat.beq_eq] at hb
          subst hb
          split at ha
          · exact q_s_putI hC hK0 f1 f2 f3 f4 f5 hev rfl f6 hdg ha.2
          · split at ha
            · rename_i hx
              split at ha
              · rename_i h9
                rw [Nat.blt_eq] at h9
                exact q_s_putR hC hK0 f1 f2 f3 f4 f5 hev rfl f6 hx h9 hdg ha.2
              · exact ha.elim
            · exact ha.elim
          · exact ha.elim
        · exact ha.elim
      · exact ha.elim
    · exact ha.elim
  case iaload =>
    obtain rfl : len = 1 := hlen.resolve_left (by simp [q_il])
    replace ha : q_act (q_Good p l e R s m args below meth c D dA A H0 Q mi ov E' w') (q_MM l D dA E E') mi pc 1 E ov E' w' (q_ald mi 1 loc st E.1 w) := ha
    unfold q_ald at ha
    split at ha
    · rename_i j t i s1
      split at ha
      · rename_i k9 n9 hev
        split at ha
        · rename_i h99
          split at ha
          · rename_i hb
            simp only [Bool.and_eq_true, Nat.beq_eq] at hb
            obtain ⟨hb1, hb2, hb3, hb4⟩ := hb
            subst hb3; subst hb4
            have hg := q_gd ha.1
            exact q_s_sld hC hK0 hb1 (by rw [hev]; simp) hg.1 hg.2 hdg ha.2
          · exact ha.elim
        · split at ha
          · rename_i hb
            have hg := q_gd ha.1
            have hk : k9 = 1 := by simpa using hb
            subst hk
            exact q_s_iald hC hK0 hg.1 hg.2 hev hdg ha.2
          · exact ha.elim
      · exact ha.elim
    · exact ha.elim
  case baload =>
    obtain rfl : len = 1 := hlen.resolve_left (by simp [q_il])
    replace ha : q_act (q_Good p l e R s m args below meth c D dA A H0 Q mi ov E' w') (q_MM l D dA E E') mi pc 1 E ov E' w' (q_ald mi 2 loc st E.1 w) := ha
    unfold q_ald at ha
    split at ha
    · rename_i j t i s1
      split at ha
      · rename_i k9 n9 hev
        split at ha
        · rename_i h99
          split at ha
          · rename_i hb
            simp only [Bool.and_eq_true, Nat.beq_eq] at hb
            obtain ⟨hb1, hb2, hb3, hb4⟩ := hb
            subst hb3; subst hb4
            have hg := q_gd ha.1
            exact absurd hb2 (by decide)
          · exact ha.elim
        · split at ha
          · rename_i hb
            have hg := q_gd ha.1
            have hk : k9 = 2 ∨ k9 = 3 := by simpa using hb
            rcases hk with rfl | rfl
            · exact q_s_bald hC hK0 hg.1 hg.2 hev hdg ha.2
            · exact q_s_zald hC hK0 hg.1 hg.2 hev hdg ha.2
          · exact ha.elim
      · exact ha.elim
    · exact ha.elim
  case iastore =>
    obtain rfl : len = 1 := hlen.resolve_left (by simp [q_il])
    replace ha : q_act (q_Good p l e R s m args below meth c D dA A H0 Q mi ov E' w') (q_MM l D dA E E') mi pc 1 E ov E' w' (q_ast 1 loc st E.1 w) := ha
    unfold q_ast at ha
    split at ha
    · split at ha
      · rename_i k9 n9 hev
        split at ha
        · rename_i hb
          have hg := q_gd ha.1
          have hk : k9 = 1 := by simpa using hb
          subst hk
          exact q_s_iast hC hK0 hg.1 hg.2 hev hdg ha.2
        · exact ha.elim
      · exact ha.elim
    · exact ha.elim
  case bastore =>
    obtain rfl : len = 1 := hlen.resolve_left (by simp [q_il])
    replace ha : q_act (q_Good p l e R s m args below meth c D dA A H0 Q mi ov E' w') (q_MM l D dA E E') mi pc 1 E ov E' w' (q_ast 2 loc st E.1 w) := ha
    unfold q_ast at ha
    split at ha
    · split at ha
      · rename_i k9 n9 hev
        split at ha
        · rename_i hb
          have hg := q_gd ha.1
          have hk : k9 = 2 ∨ k9 = 3 := by simpa using hb
          rcases hk with rfl | rfl
          · exact q_s_bast hC hK0 hg.1 hg.2 hev hdg ha.2
          · exact q_s_zast hC hK0 hg.1 hg.2 hev hdg ha.2
        · exact ha.elim
      · exact ha.elim
    · exact ha.elim
  case laload =>
    obtain rfl : len = 1 := hlen.resolve_left (by simp [q_il])
    replace ha : q_act (q_Good p l e R s m args below meth c D dA A H0 Q mi ov E' w') (q_MM l D dA E E') mi pc 1 E ov E' w' (q_lld loc st E.1 w) := ha
    unfold q_lld at ha
    split at ha
    · split at ha
      · rename_i hev
        have hg := q_gd ha.1
        exact q_s_lald hC hK0 hg.1 hg.2 hev hdg ha.2
      · exact ha.elim
    · exact ha.elim
  case lastore =>
    obtain rfl : len = 1 := hlen.resolve_left (by simp [q_il])
    replace ha : q_act (q_Good p l e R s m args below meth c D dA A H0 Q mi ov E' w') (q_MM l D dA E E') mi pc 1 E ov E' w' (q_lst loc st E.1 w) := ha
    unfold q_lst at ha
    split at ha
    · split at ha
      · rename_i hev
        have hg := q_gd ha.1
        exact q_s_last hC hK0 hg.1 hg.2 hev hdg ha.2
      · exact ha.elim
    · exact ha.elim
  case aaload =>
    obtain rfl : len = 1 := hlen.resolve_left (by simp [q_il])
    replace ha : q_act (q_Good p l e R s m args below meth c D dA A H0 Q mi ov E' w') (q_MM l D dA E E') mi pc 1 E ov E' w' (q_rld loc st E.1 w) := ha
    unfold q_rld at ha
    split at ha
    · split at ha
      · rename_i hev
        split at ha
        · rename_i hb
          rw [Bool.and_eq_true, Nat.ble_eq, Nat.blt_eq] at hb
          split at ha
          · rename_i hr
            have hg := q_gd ha.1
            exact q_s_rald hC hK0 hg.1 hg.2 hb.1 hb.2 hev hr hdg ha.2
          · exact ha.elim
        · exact ha.elim
      · exact ha.elim
    · exact ha.elim
  case aastore =>
    obtain rfl : len = 1 := hlen.resolve_left (by simp [q_il])
    replace ha : q_act (q_Good p l e R s m args below meth c D dA A H0 Q mi ov E' w') (q_MM l D dA E E') mi pc 1 E ov E' w' (q_rst loc st E.1 w) := ha
    intro ad rs H locs ls cells slots hSt hL hs hSc g1 g2 g3 hK
    unfold q_rst at ha
    split at ha
    · split at ha
      · rename_i k9 n9 c9 hev hex
        split at ha
        · rename_i hb
          rw [Nat.beq_eq] at hb
          have hg := q_gd ha.1
          have hin := q_rs_of hSt.1 (hs _ (List.mem_cons_of_mem _ (List.mem_cons_of_mem _ List.mem_cons_self))) hev (fun z => by have := q_kok_c hSt.1 (hs _ List.mem_cons_self) hex; dsimp only at z; omega)
          have h11 := q_kok_r hSt.1 hin hev hb (q_kok_c hSt.1 (hs _ List.mem_cons_self) hex)
          exact q_s_rast hC hK0 hg.1 hg.2 h11 hev hex hdg ha.2 ad rs H locs ls cells slots hSt hL hs hSc g1 g2 g3 hK
        · exact ha.elim
      · exact ha.elim
    · exact ha.elim
  case arraylength =>
    obtain rfl : len = 1 := hlen.resolve_left (by simp [q_il])
    replace ha : q_act (q_Good p l e R s m args below meth c D dA A H0 Q mi ov E' w') (q_MM l D dA E E') mi pc 1 E ov E' w' (q_len mi loc st E.1 w) := ha
    unfold q_len at ha
    split at ha
    · rename_i t i s1
      split at ha
      · rename_i k9 n9 hev
        split at ha
        · split at ha
          · rename_i hb
            simp only [Bool.and_eq_true, Nat.beq_eq] at hb
            obtain ⟨hb1, hb2, hb3⟩ := hb
            subst hb2; subst hb3
            exact q_s_slen hC hK0 hb1 (by rw [hev]; simp) hdg ha.2
          · exact ha.elim
        · rename_i h99
          split at ha
          · exact ha.elim
          · rename_i h0
            exact q_s_alen hC hK0 (fun z => by subst z; cases h0) (fun z => by subst z; cases h99) hev hdg ha.2
      · exact ha.elim
    · exact ha.elim
  case invokevirtual k =>
    obtain rfl : len = 3 := hlen.resolve_left (by simp [q_il])
    replace ha : q_act (q_Good p l e R s m args below meth c D dA A H0 Q mi ov E' w') (q_MM l D dA E E') mi pc 3 E ov E' w' (q_inv a b cc loc st E.1 w) := ha
    simp only [q_ckI, Bool.and_eq_true, decide_eq_true_eq] at hck
    obtain ⟨k0, k1, k2, k3, k4, k5, k6⟩ := hck
    simp only [q_ck2, Bool.and_eq_true, Bool.not_eq_true', Nat.blt_eq] at hck2
    unfold q_inv at ha
    split at ha
    · rename_i hb
      rw [Bool.and_eq_true, Bool.and_eq_true, Nat.ble_eq, Nat.ble_eq, Nat.ble_eq] at hb
      obtain ⟨hb1, hb2, hb3⟩ := hb
      have hb := And.intro hb1 hb2
      split at ha
      · omega
      · omega
      · omega
      · omega
      · omega
      · rename_i c1 _ _ _ _ _
        dsimp only at k6
        split at k6
        · rename_i C T N hcl
          have k6 := of_decide_eq_true k6
          split at ha
          · rename_i t i as hta
            split at ha
            · rename_i c2 hev
              split at ha
              · rename_i hbq
                rw [Nat.beq_eq] at hbq
                subst hbq
                obtain ⟨ov1, E1, w1, ⟨m1, m2, m3, m4, m5⟩, hG⟩ := ha
                obtain ⟨hst, hln⟩ := q_take_rev1 hb.1 hta
                have hkr := q_room_at k5
                exact q_s_callV hC hK0 hA hN (q_MF_all hck2.1 m1) (q_at_TT k1 rfl) (q_at_TT k2 rfl) (q_at_TT k3 rfl) hkr.1 hkr.2 hcl k6 hev (by omega) hb.2 hst hdg m3 m4 m5 (m2 hck2.1 (by rw [← hta]; exact hb3)) hG
              · exact ha.elim
            · exact ha.elim
          · exact ha.elim
        · cases k6
    · exact ha.elim
  case invokestatic k =>
    obtain rfl : len = 3 := hlen.resolve_left (by simp [q_il])
    replace ha : q_act (q_Good p l e R s m args below meth c D dA A H0 Q mi ov E' w') (q_MM l D dA E E') mi pc 3 E ov E' w' (q_inv a b cc loc st E.1 w) := ha
    simp only [q_ck2, Bool.or_eq_true, Bool.not_eq_true'] at hck2
    unfold q_inv at ha
    split at ha
    · rename_i hb
      rw [Bool.and_eq_true, Bool.and_eq_true, Nat.ble_eq, Nat.ble_eq, Nat.ble_eq] at hb
      obtain ⟨hb1, hb2, hb3⟩ := hb
      have hb := And.intro hb1 hb2
      split at ha
      · simp only [q_ckI, Bool.and_eq_true, decide_eq_true_eq] at hck
        obtain ⟨k0, k1, k2, k3, k4⟩ := hck
        obtain ⟨ov1, E1, w1, ⟨m1, m2, m3, m4, m5⟩, hG⟩ := ha
        have hkr := q_room_at k4
        obtain ⟨hst, hln⟩ := q_take_rev (n := 0) hb.1 rfl
        have hsp : q_isSp a = false := by
          rcases hck2 with z | z
          · cases z
          · exact z
        exact q_s_callS hC hK0 hA hN (q_MF_all hsp m1) (q_at_TT k1 rfl) (q_at_TT k2 rfl) hkr.1 hkr.2 (by omega) hb.2 hst hdg m3 m4 m5 (m2 hsp hb3) hG
      · simp only [q_ckI, Bool.and_eq_true, decide_eq_true_eq] at hck
        obtain ⟨k0, k1, k2, k3, k4, k5⟩ := hck
        split at ha
        · subst k4
          exact q_s_max hC (q_at_T k0 rfl) (q_at_T k1 rfl) (q_at_T k2 rfl) (q_at_T k3 rfl) k5.1 k5.2 hb.2 hdg ha.2
        · exact ha.elim
      · simp only [q_ckI, Bool.and_eq_true, decide_eq_true_eq] at hck
        obtain ⟨k0, k1, k2, k3, k4, k5⟩ := hck
        split at ha
        · subst k4
          exact q_s_min hC (q_at_T k0 rfl) (q_at_T k1 rfl) (q_at_T k2 rfl) (q_at_T k3 rfl) k5.1 k5.2 hb.2 hdg ha.2
        · exact ha.elim
      · simp only [q_ckI, Bool.and_eq_true, decide_eq_true_eq] at hck
        obtain ⟨k0, k1, k2, k3, k4, k5⟩ := hck
        split at ha
        · subst k4
          exact q_s_labs hC (q_at_T k0 rfl) (q_at_T k1 rfl) (q_at_T k2 rfl) (q_at_T k3 rfl) k5.1 k5.2 hb.2 hdg ha.2
        · exact ha.elim
      · simp [q_ckI] at hck
      · rename_i c1 n1 n2 n3 n4
        simp only [q_ckI] at hck
        split at hck
        · rename_i q; exact absurd q (Nat.succ_ne_zero _)
        · rename_i q; exact absurd (Nat.succ.inj q) n1
        · rename_i q; exact absurd (Nat.succ.inj q) n2
        · rename_i q; exact absurd (Nat.succ.inj q) n3
        · cases hck
    · exact ha.elim
  case invokespecial k =>
    obtain rfl : len = 3 := hlen.resolve_left (by simp [q_il])
    replace ha : q_act (q_Good p l e R s m args below meth c D dA A H0 Q mi ov E' w') (q_MM l D dA E E') mi pc 3 E ov E' w' (q_inv a b cc loc st E.1 w) := ha
    simp only [q_ck2, Bool.or_eq_true, Bool.and_eq_true, Bool.not_eq_true', Nat.blt_eq, Nat.beq_eq] at hck2
    simp only [q_ckI] at hck
    unfold q_inv at ha
    split at ha
    · rename_i hb
      rw [Bool.and_eq_true, Bool.and_eq_true, Nat.ble_eq, Nat.ble_eq, Nat.ble_eq] at hb
      obtain ⟨hb1, hb2, hb3⟩ := hb
      have hb := And.intro hb1 hb2
      split at ha
      · split at hck
        · rename_i z; cases z
        · rename_i z; simp only [Bool.and_eq_true, decide_eq_true_eq] at hck; exact absurd rfl hck.2.2.2.2.2.2.1
      · omega
      · omega
      · omega
      · split at ha
        · rename_i r0 s0
          split at hck
          · simp only [Bool.and_eq_true, decide_eq_true_eq] at hck
            obtain ⟨k0, k1, k2, k3, k4⟩ := hck
            have hb1 : b = 1 := by
              rcases hck2 with z | z
              · exact z.2
              · omega
            subst hb1
            have hs8 : (s0.map q_cat).sum ≤ 8 := hb.2
            exact q_s_objI hC (q_at_T k1 rfl) (q_at_T k2 rfl) (q_at_T k3 rfl) k4.1 k4.2 hs8 hdg ha.2
          · rename_i z; cases z
        · exact ha.elim
      · rename_i c1 n1 n2 n3 n4
        split at hck
        · rename_i z; rw [Nat.beq_eq] at z; exact absurd (Nat.succ.inj z) n4
        · simp only [Bool.and_eq_true, decide_eq_true_eq] at hck
          obtain ⟨k0, k1, k2, k3, k4, k5, k6, k7⟩ := hck
          split at ha
          · rename_i t i as hta
            split at ha
            · rename_i c2 hev
              split at ha
              · rename_i hbq
                obtain ⟨ov1, E1, w1, ⟨m1, m2, m3, m4, m5⟩, hG⟩ := ha
                obtain ⟨hst, hln⟩ := q_take_rev1 hb.1 hta
                have hkr := q_room_at k4
                have hsp : q_isSp a = false := by
                  rcases hck2 with z | z
                  · exact absurd (Nat.succ.inj z.1) n4
                  · exact z.1
                have hl : Cond.methodLink (q_y mi).cls k (q_y a) ∈ q_T ∨ Cond.methodLinkNest (q_y mi).cls k (q_y a) "GrassCells" ∈ q_W := by
                  split at k7
                  · exact Or.inl (q_at_TT k7 rfl)
                  · exact Or.inr (q_at_N k7 rfl)
                exact q_s_callI hC hK0 hA hN (q_MF_all hsp m1) hl (q_at_TT k1 rfl) k2 k5 hkr.1 hkr.2 (by omega) hb.2 hst hdg m3 m4 m5 (m2 hsp (by rw [← hta]; exact hb3)) hG
              · exact ha.elim
            · exact ha.elim
          · exact ha.elim
    · exact ha.elim
  case ireturn =>
    obtain rfl : len = 1 := hlen.resolve_left (by simp [q_il])
    replace ha : q_act (q_Good p l e R s m args below meth c D dA A H0 Q mi ov E' w') (q_MM l D dA E E') mi pc 1 E ov E' w' (q_ret a st w) := ha
    simp only [q_ckI] at hck
    unfold q_ret at ha
    split at ha
    · rename_i x
      split at ha
      · obtain ⟨g1, g2, g3, g4⟩ := ha
        have hck := of_decide_eq_true hck
        exact q_ret_of (some (.inl x)) (fun rs hs => ⟨hdg, hs _ List.mem_cons_self, Or.inl hck⟩) rfl g2 g3 g4
      · rename_i hne
        obtain ⟨g1, g2, g3, g4⟩ := ha
        have hg := q_gd g1
        split at hck
        · exact absurd rfl hne
        · have hck := of_decide_eq_true hck
          exact q_ret_of (some (.inl x)) (fun rs hs => ⟨hdg, hs _ List.mem_cons_self, Or.inr ⟨hck, by omega⟩⟩) rfl g2 g3 g4
    · exact ha.elim
  case lreturn =>
    obtain rfl : len = 1 := hlen.resolve_left (by simp [q_il])
    replace ha : q_act (q_Good p l e R s m args below meth c D dA A H0 Q mi ov E' w') (q_MM l D dA E E') mi pc 1 E ov E' w' (q_retL st w) := ha
    simp only [q_ckI, decide_eq_true_eq] at hck
    unfold q_retL at ha
    split at ha
    · rename_i x
      obtain ⟨g1, g2, g3, g4⟩ := ha
      exact q_ret_of (some (.inr (.inl x))) (fun rs hs => ⟨hdg, hck⟩) rfl g2 g3 g4
    · exact ha.elim
  case areturn =>
    obtain rfl : len = 1 := hlen.resolve_left (by simp [q_il])
    replace ha : q_act (q_Good p l e R s m args below meth c D dA A H0 Q mi ov E' w') (q_MM l D dA E E') mi pc 1 E ov E' w' (q_retR st w) := ha
    simp only [q_ckI] at hck
    unfold q_retR at ha
    split at ha
    · rename_i x
      obtain ⟨g1, g2, g3, g4⟩ := ha
      split at hck
      · rename_i C hC2
        exact q_ret_of (some (.inr (.inr x))) (fun rs hs => ⟨hdg, hs _ List.mem_cons_self, C, hC2⟩) rfl g2 g3 g4
      · cases hck
    · exact ha.elim
  case return_ =>
    obtain rfl : len = 1 := hlen.resolve_left (by simp [q_il])
    simp only [q_ckI, decide_eq_true_eq] at hck
    dsimp only [q_step] at ha
    split at ha
    · obtain ⟨g1, g2, g3, g4⟩ := ha
      exact q_ret_of none (fun rs hs => ⟨hdg, hck⟩) rfl g2 g3 g4
    · exact ha.elim
  all_goals exact ha.elim
end QT
