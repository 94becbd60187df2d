/-! printed by wip/whole/steps.py: a lemma an instruction -/
section QS
variable {p : Program} {l : Launch} {e : Env} {R : Room} {s : State} {m : MethodId} {args : Array Value} {below : List Frame} {meth : Method} {c : Code} {D : va_G} {dA : Nat → ClassId} {A : Nat → Prop} {H0 : Heap} {Q : State → Prop} {mi : Nat} {ov : Option qV} {E' E : qE} {w' w : qW} {pc : Nat} {loc : qLo} {st : List qV}
/-- a step that changes the stack alone -/
theorem q_push {n : Nat} {s1 s2 : List qV} (hr : ∀ (ad : qR → Nat) (rs : List qR) (H : Heap) (locs : List Loc) (ls : Array Slot) (cells slots : Nat), q_Lk ad rs loc ls (q_ml mi) → (∀ v ∈ s1, q_vok rs v) → (W p l e R s m args below meth c H locs cells slots Q (F0 m (pc + n) ls (s2.map (q_m ad))) → W p l e R s m args below meth c H locs cells slots Q (F0 m pc ls (s1.map (q_m ad)))) ∧ ∀ v ∈ s2, q_vok rs v) (k : q_Good p l e R s m args below meth c D dA A H0 Q mi ov E' w' (pc + n) loc s2 E w) : q_Good p l e R s m args below meth c D dA A H0 Q mi ov E' w' pc loc s1 E w := by
  intro ad rs H locs ls cells slots hSt hL hs hSc h1 h2 h3 hK
  obtain ⟨a, b⟩ := hr ad rs H locs ls cells slots hL hs
  exact a (k ad rs H locs ls cells slots hSt hL b hSc h1 h2 h3 hK)
/-- a step that changes the locals -/
theorem q_pushL {n : Nat} {s1 s2 : List qV} {loc2 : qLo} (hr : ∀ (ad : qR → Nat) (rs : List qR) (H : Heap) (locs : List Loc) (ls : Array Slot) (cells slots : Nat), q_Lk ad rs loc ls (q_ml mi) → (∀ v ∈ s1, q_vok rs v) → ((∀ ls2 : Array Slot, q_Lk ad rs loc2 ls2 (q_ml mi) → W p l e R s m args below meth c H locs cells slots Q (F0 m (pc + n) ls2 (s2.map (q_m ad)))) → W p l e R s m args below meth c H locs cells slots Q (F0 m pc ls (s1.map (q_m ad)))) ∧ ∀ v ∈ s2, q_vok rs v) (k : q_Good p l e R s m args below meth c D dA A H0 Q mi ov E' w' (pc + n) loc2 s2 E w) : q_Good p l e R s m args below meth c D dA A H0 Q mi ov E' w' pc loc s1 E w := by
  intro ad rs H locs ls cells slots hSt hL hs hSc h1 h2 h3 hK
  obtain ⟨a, b⟩ := hr ad rs H locs ls cells slots hL hs
  exact a (fun ls2 hL2 => k ad rs H locs ls2 cells slots hSt hL2 b hSc h1 h2 h3 hK)
/-- a branch -/
theorem q_pushB {s1 s2 : List qV} {P : Prop} {t f : Nat} (hr : ∀ (ad : qR → Nat) (rs : List qR) (H : Heap) (locs : List Loc) (ls : Array Slot) (cells slots : Nat), q_Lk ad rs loc ls (q_ml mi) → (∀ v ∈ s1, q_vok rs v) → ((P → W p l e R s m args below meth c H locs cells slots Q (F0 m t ls (s2.map (q_m ad)))) → (¬ P → W p l e R s m args below meth c H locs cells slots Q (F0 m f ls (s2.map (q_m ad)))) → W p l e R s m args below meth c H locs cells slots Q (F0 m pc ls (s1.map (q_m ad)))) ∧ ∀ v ∈ s2, q_vok rs v) (k1 : P → q_Good p l e R s m args below meth c D dA A H0 Q mi ov E' w' t loc s2 E w) (k2 : ¬ P → q_Good p l e R s m args below meth c D dA A H0 Q mi ov E' w' f loc s2 E w) : q_Good p l e R s m args below meth c D dA A H0 Q mi ov E' w' pc loc s1 E w := by
  intro ad rs H locs ls cells slots hSt hL hs hSc h1 h2 h3 hK
  obtain ⟨a, b⟩ := hr ad rs H locs ls cells slots hL hs
  exact a (fun h => k1 h ad rs H locs ls cells slots hSt hL b hSc h1 h2 h3 hK) (fun h => k2 h ad rs H locs ls cells slots hSt hL b hSc h1 h2 h3 hK)
theorem q_s_iconst (hC : q_Cx p R s m args meth c mi) {n z : Int} (hv : Int32.ofInt n = Int32.ofInt z) (hz : q_can z) (hdg : decode (q_cc mi) pc = .ok (.iconst n, 1)) (k : q_Good p l e R s m args below meth c D dA A H0 Q mi ov E' w' (pc + 1) loc (.inl z :: st) E w) : q_Good p l e R s m args below meth c D dA A H0 Q mi ov E' w' pc loc (st) E w := by
  refine q_push (n := 1) (fun ad rs H locs ls cells slots hL hs => ⟨fun h => ?_, ?_⟩) k
  · exact lv_iconst hC.1 hC.2.1 hdg hv h
  · exact List.forall_mem_cons.mpr ⟨hz, hs⟩
theorem q_s_bipush (hC : q_Cx p R s m args meth c mi) {n z : Int} (hv : (Int8.ofInt n).toInt32 = Int32.ofInt z) (hz : q_can z) (hdg : decode (q_cc mi) pc = .ok (.bipush n, 2)) (k : q_Good p l e R s m args below meth c D dA A H0 Q mi ov E' w' (pc + 2) loc (.inl z :: st) E w) : q_Good p l e R s m args below meth c D dA A H0 Q mi ov E' w' pc loc (st) E w := by
  refine q_push (n := 2) (fun ad rs H locs ls cells slots hL hs => ⟨fun h => ?_, ?_⟩) k
  · exact lv_bipush hC.1 hC.2.1 hdg hv h
  · exact List.forall_mem_cons.mpr ⟨hz, hs⟩
theorem q_s_sipush (hC : q_Cx p R s m args meth c mi) {n z : Int} (hv : (Int16.ofInt n).toInt32 = Int32.ofInt z) (hz : q_can z) (hdg : decode (q_cc mi) pc = .ok (.sipush n, 3)) (k : q_Good p l e R s m args below meth c D dA A H0 Q mi ov E' w' (pc + 3) loc (.inl z :: st) E w) : q_Good p l e R s m args below meth c D dA A H0 Q mi ov E' w' pc loc (st) E w := by
  refine q_push (n := 3) (fun ad rs H locs ls cells slots hL hs => ⟨fun h => ?_, ?_⟩) k
  · exact lv_sipush hC.1 hC.2.1 hdg hv h
  · exact List.forall_mem_cons.mpr ⟨hz, hs⟩
theorem q_s_ldc (hC : q_Cx p R s m args meth c mi) {i : Nat} {z : Int} (hw : Cond.constant (q_y mi).cls i (Int32.ofInt z) ∈ q_W) (hz : q_can z) (hdg : decode (q_cc mi) pc = .ok (.ldc i, 2)) (k : q_Good p l e R s m args below meth c D dA A H0 Q mi ov E' w' (pc + 2) loc (.inl z :: st) E w) : q_Good p l e R s m args below meth c D dA A H0 Q mi ov E' w' pc loc (st) E w := by
  refine q_push (n := 2) (fun ad rs H locs ls cells slots hL hs => ⟨fun h => ?_, ?_⟩) k
  · exact lv_ldc hC.1 hC.2.1 hC.2.2.2.1 (hC.2.2.2.2.1 _ hw) hdg h
  · exact List.forall_mem_cons.mpr ⟨hz, hs⟩
theorem q_s_ldc_w (hC : q_Cx p R s m args meth c mi) {i : Nat} {z : Int} (hw : Cond.constant (q_y mi).cls i (Int32.ofInt z) ∈ q_W) (hz : q_can z) (hdg : decode (q_cc mi) pc = .ok (.ldc_w i, 3)) (k : q_Good p l e R s m args below meth c D dA A H0 Q mi ov E' w' (pc + 3) loc (.inl z :: st) E w) : q_Good p l e R s m args below meth c D dA A H0 Q mi ov E' w' pc loc (st) E w := by
  refine q_push (n := 3) (fun ad rs H locs ls cells slots hL hs => ⟨fun h => ?_, ?_⟩) k
  · exact lv_ldcw hC.1 hC.2.1 hC.2.2.2.1 (hC.2.2.2.2.1 _ hw) hdg h
  · exact List.forall_mem_cons.mpr ⟨hz, hs⟩
theorem q_s_lconst (hC : q_Cx p R s m args meth c mi) {n : Fin 2} {z : Int64} (hv : Int64.ofNat (n : Nat) = z) (hdg : decode (q_cc mi) pc = .ok (.lconst n, 1)) (k : q_Good p l e R s m args below meth c D dA A H0 Q mi ov E' w' (pc + 1) loc (.inr (.inl z) :: st) E w) : q_Good p l e R s m args below meth c D dA A H0 Q mi ov E' w' pc loc (st) E w := by
  refine q_push (n := 1) (fun ad rs H locs ls cells slots hL hs => ⟨fun h => ?_, ?_⟩) k
  · exact lv_lconst hC.1 hC.2.1 hdg hv h
  · exact List.forall_mem_cons.mpr ⟨trivial, hs⟩
theorem q_s_ldc2 (hC : q_Cx p R s m args meth c mi) {i : Nat} {z : Int64} (hw : Cond.constantLong (q_y mi).cls i z ∈ q_W) (hdg : decode (q_cc mi) pc = .ok (.ldc2_w i, 3)) (k : q_Good p l e R s m args below meth c D dA A H0 Q mi ov E' w' (pc + 3) loc (.inr (.inl z) :: st) E w) : q_Good p l e R s m args below meth c D dA A H0 Q mi ov E' w' pc loc (st) E w := by
  refine q_push (n := 3) (fun ad rs H locs ls cells slots hL hs => ⟨fun h => ?_, ?_⟩) k
  · exact lv_ldc2 hC.1 hC.2.1 hC.2.2.2.1 (hC.2.2.2.2.1 _ hw) hdg h
  · exact List.forall_mem_cons.mpr ⟨trivial, hs⟩
theorem q_s_iload (hC : q_Cx p R s m args meth c mi) {i : Nat} {x : Int} (hi : loc[i]? = some (some (.inl x))) (hdg : decode (q_cc mi) pc = .ok (.iload i, 2)) (k : q_Good p l e R s m args below meth c D dA A H0 Q mi ov E' w' (pc + 2) loc (.inl x :: st) E w) : q_Good p l e R s m args below meth c D dA A H0 Q mi ov E' w' pc loc (st) E w := by
  refine q_push (n := 2) (fun ad rs H locs ls cells slots hL hs => ⟨fun h => ?_, ?_⟩) k
  · exact lv_iload hC.1 hC.2.1 hdg (q_Lk_ld hL hi).2 h
  · exact List.forall_mem_cons.mpr ⟨(q_Lk_ld hL hi).1, hs⟩
theorem q_s_iload_n (hC : q_Cx p R s m args meth c mi) {i : Fin 4} {x : Int} (hi : loc[(i : Nat)]? = some (some (.inl x))) (hdg : decode (q_cc mi) pc = .ok (.iload_n i, 1)) (k : q_Good p l e R s m args below meth c D dA A H0 Q mi ov E' w' (pc + 1) loc (.inl x :: st) E w) : q_Good p l e R s m args below meth c D dA A H0 Q mi ov E' w' pc loc (st) E w := by
  refine q_push (n := 1) (fun ad rs H locs ls cells slots hL hs => ⟨fun h => ?_, ?_⟩) k
  · exact lv_iload_n hC.1 hC.2.1 hdg rfl (q_Lk_ld hL hi).2 h
  · exact List.forall_mem_cons.mpr ⟨(q_Lk_ld hL hi).1, hs⟩
theorem q_s_lload (hC : q_Cx p R s m args meth c mi) {i : Nat} {x : Int64} (hi : loc[i]? = some (some (.inr (.inl x)))) (hdg : decode (q_cc mi) pc = .ok (.lload i, 2)) (k : q_Good p l e R s m args below meth c D dA A H0 Q mi ov E' w' (pc + 2) loc (.inr (.inl x) :: st) E w) : q_Good p l e R s m args below meth c D dA A H0 Q mi ov E' w' pc loc (st) E w := by
  refine q_push (n := 2) (fun ad rs H locs ls cells slots hL hs => ⟨fun h => ?_, ?_⟩) k
  · exact lv_lload hC.1 hC.2.1 hdg (q_Lk_ld hL hi).2 h
  · exact List.forall_mem_cons.mpr ⟨(q_Lk_ld hL hi).1, hs⟩
theorem q_s_lload_n (hC : q_Cx p R s m args meth c mi) {i : Fin 4} {x : Int64} (hi : loc[(i : Nat)]? = some (some (.inr (.inl x)))) (hdg : decode (q_cc mi) pc = .ok (.lload_n i, 1)) (k : q_Good p l e R s m args below meth c D dA A H0 Q mi ov E' w' (pc + 1) loc (.inr (.inl x) :: st) E w) : q_Good p l e R s m args below meth c D dA A H0 Q mi ov E' w' pc loc (st) E w := by
  refine q_push (n := 1) (fun ad rs H locs ls cells slots hL hs => ⟨fun h => ?_, ?_⟩) k
  · exact lv_lload_n hC.1 hC.2.1 hdg rfl (q_Lk_ld hL hi).2 h
  · exact List.forall_mem_cons.mpr ⟨(q_Lk_ld hL hi).1, hs⟩
theorem q_s_aload (hC : q_Cx p R s m args meth c mi) {i : Nat} {x : qR} (hi : loc[i]? = some (some (.inr (.inr x)))) (hdg : decode (q_cc mi) pc = .ok (.aload i, 2)) (k : q_Good p l e R s m args below meth c D dA A H0 Q mi ov E' w' (pc + 2) loc (.inr (.inr x) :: st) E w) : q_Good p l e R s m args below meth c D dA A H0 Q mi ov E' w' pc loc (st) E w := by
  refine q_push (n := 2) (fun ad rs H locs ls cells slots hL hs => ⟨fun h => ?_, ?_⟩) k
  · exact lv_aload hC.1 hC.2.1 hdg (q_Lk_ld hL hi).2 h
  · exact List.forall_mem_cons.mpr ⟨(q_Lk_ld hL hi).1, hs⟩
theorem q_s_aload_n (hC : q_Cx p R s m args meth c mi) {i : Fin 4} {x : qR} (hi : loc[(i : Nat)]? = some (some (.inr (.inr x)))) (hdg : decode (q_cc mi) pc = .ok (.aload_n i, 1)) (k : q_Good p l e R s m args below meth c D dA A H0 Q mi ov E' w' (pc + 1) loc (.inr (.inr x) :: st) E w) : q_Good p l e R s m args below meth c D dA A H0 Q mi ov E' w' pc loc (st) E w := by
  refine q_push (n := 1) (fun ad rs H locs ls cells slots hL hs => ⟨fun h => ?_, ?_⟩) k
  · exact lv_aload_n hC.1 hC.2.1 hdg rfl (q_Lk_ld hL hi).2 h
  · exact List.forall_mem_cons.mpr ⟨(q_Lk_ld hL hi).1, hs⟩
theorem q_s_iadd (hC : q_Cx p R s m args meth c mi) {x y : Int} (hdg : decode (q_cc mi) pc = .ok (.iadd, 1)) (k : q_Good p l e R s m args below meth c D dA A H0 Q mi ov E' w' (pc + 1) loc (.inl (q_w (x + y)) :: st) E w) : q_Good p l e R s m args below meth c D dA A H0 Q mi ov E' w' pc loc (.inl y :: .inl x :: st) E w := by
  refine q_push (n := 1) (fun ad rs H locs ls cells slots hL hs => ⟨fun h => ?_, ?_⟩) k
  · exact lv_iadd hC.1 hC.2.1 hdg (by rw [← q_e_add]; exact h)
  · exact List.forall_mem_cons.mpr ⟨q_can_w _, (List.forall_mem_cons.mp (List.forall_mem_cons.mp hs).2).2⟩
theorem q_s_isub (hC : q_Cx p R s m args meth c mi) {x y : Int} (hdg : decode (q_cc mi) pc = .ok (.isub, 1)) (k : q_Good p l e R s m args below meth c D dA A H0 Q mi ov E' w' (pc + 1) loc (.inl (q_w (x - y)) :: st) E w) : q_Good p l e R s m args below meth c D dA A H0 Q mi ov E' w' pc loc (.inl y :: .inl x :: st) E w := by
  refine q_push (n := 1) (fun ad rs H locs ls cells slots hL hs => ⟨fun h => ?_, ?_⟩) k
  · exact lv_isub hC.1 hC.2.1 hdg (by rw [← q_e_sub]; exact h)
  · exact List.forall_mem_cons.mpr ⟨q_can_w _, (List.forall_mem_cons.mp (List.forall_mem_cons.mp hs).2).2⟩
theorem q_s_imul (hC : q_Cx p R s m args meth c mi) {x y : Int} (hdg : decode (q_cc mi) pc = .ok (.imul, 1)) (k : q_Good p l e R s m args below meth c D dA A H0 Q mi ov E' w' (pc + 1) loc (.inl (q_w (x * y)) :: st) E w) : q_Good p l e R s m args below meth c D dA A H0 Q mi ov E' w' pc loc (.inl y :: .inl x :: st) E w := by
  refine q_push (n := 1) (fun ad rs H locs ls cells slots hL hs => ⟨fun h => ?_, ?_⟩) k
  · exact lv_imul hC.1 hC.2.1 hdg (by rw [← q_e_mul]; exact h)
  · exact List.forall_mem_cons.mpr ⟨q_can_w _, (List.forall_mem_cons.mp (List.forall_mem_cons.mp hs).2).2⟩
theorem q_e_iand (x y : Int) : Int32.ofInt (q_and x y) = Int32.ofInt x &&& Int32.ofInt y := q_ofI _
theorem q_e_ior (x y : Int) : Int32.ofInt (q_or x y) = Int32.ofInt x ||| Int32.ofInt y := q_ofI _
theorem q_e_ixor (x y : Int) : Int32.ofInt (q_xor x y) = Int32.ofInt x ^^^ Int32.ofInt y := q_ofI _
theorem q_e_ishl (x y : Int) : Int32.ofInt (q_shl x y) = Int32.ofInt x <<< (Int32.ofInt y &&& 31) := q_ofI _
theorem q_e_ishr (x y : Int) : Int32.ofInt (q_shr x y) = Int32.ofInt x >>> (Int32.ofInt y &&& 31) := q_ofI _
theorem q_e_idiv (x y : Int) : Int32.ofInt (q_div x y) = Int32.ofInt x / Int32.ofInt y := q_ofI _
theorem q_e_irem (x y : Int) : Int32.ofInt (q_rem x y) = Int32.ofInt x - Int32.ofInt x / Int32.ofInt y * Int32.ofInt y := q_ofI _
theorem q_s_iand (hC : q_Cx p R s m args meth c mi) {x y : Int} (hdg : decode (q_cc mi) pc = .ok (.iand, 1)) (k : q_Good p l e R s m args below meth c D dA A H0 Q mi ov E' w' (pc + 1) loc (.inl (q_and x y) :: st) E w) : q_Good p l e R s m args below meth c D dA A H0 Q mi ov E' w' pc loc (.inl y :: .inl x :: st) E w := by
  refine q_push (n := 1) (fun ad rs H locs ls cells slots hL hs => ⟨fun h => ?_, ?_⟩) k
  · exact lv_iand hC.1 hC.2.1 hdg (by rw [← q_e_iand]; exact h)
  · exact List.forall_mem_cons.mpr ⟨q_can_i _, (List.forall_mem_cons.mp (List.forall_mem_cons.mp hs).2).2⟩
theorem q_s_ior (hC : q_Cx p R s m args meth c mi) {x y : Int} (hdg : decode (q_cc mi) pc = .ok (.ior, 1)) (k : q_Good p l e R s m args below meth c D dA A H0 Q mi ov E' w' (pc + 1) loc (.inl (q_or x y) :: st) E w) : q_Good p l e R s m args below meth c D dA A H0 Q mi ov E' w' pc loc (.inl y :: .inl x :: st) E w := by
  refine q_push (n := 1) (fun ad rs H locs ls cells slots hL hs => ⟨fun h => ?_, ?_⟩) k
  · exact lv_ior hC.1 hC.2.1 hdg (by rw [← q_e_ior]; exact h)
  · exact List.forall_mem_cons.mpr ⟨q_can_i _, (List.forall_mem_cons.mp (List.forall_mem_cons.mp hs).2).2⟩
theorem q_s_ixor (hC : q_Cx p R s m args meth c mi) {x y : Int} (hdg : decode (q_cc mi) pc = .ok (.ixor, 1)) (k : q_Good p l e R s m args below meth c D dA A H0 Q mi ov E' w' (pc + 1) loc (.inl (q_xor x y) :: st) E w) : q_Good p l e R s m args below meth c D dA A H0 Q mi ov E' w' pc loc (.inl y :: .inl x :: st) E w := by
  refine q_push (n := 1) (fun ad rs H locs ls cells slots hL hs => ⟨fun h => ?_, ?_⟩) k
  · exact lv_ixor hC.1 hC.2.1 hdg (by rw [← q_e_ixor]; exact h)
  · exact List.forall_mem_cons.mpr ⟨q_can_i _, (List.forall_mem_cons.mp (List.forall_mem_cons.mp hs).2).2⟩
theorem q_s_ishl (hC : q_Cx p R s m args meth c mi) {x y : Int} (hdg : decode (q_cc mi) pc = .ok (.ishl, 1)) (k : q_Good p l e R s m args below meth c D dA A H0 Q mi ov E' w' (pc + 1) loc (.inl (q_shl x y) :: st) E w) : q_Good p l e R s m args below meth c D dA A H0 Q mi ov E' w' pc loc (.inl y :: .inl x :: st) E w := by
  refine q_push (n := 1) (fun ad rs H locs ls cells slots hL hs => ⟨fun h => ?_, ?_⟩) k
  · exact lv_ishl hC.1 hC.2.1 hdg (by rw [← q_e_ishl]; exact h)
  · exact List.forall_mem_cons.mpr ⟨q_can_i _, (List.forall_mem_cons.mp (List.forall_mem_cons.mp hs).2).2⟩
theorem q_s_ishr (hC : q_Cx p R s m args meth c mi) {x y : Int} (hdg : decode (q_cc mi) pc = .ok (.ishr, 1)) (k : q_Good p l e R s m args below meth c D dA A H0 Q mi ov E' w' (pc + 1) loc (.inl (q_shr x y) :: st) E w) : q_Good p l e R s m args below meth c D dA A H0 Q mi ov E' w' pc loc (.inl y :: .inl x :: st) E w := by
  refine q_push (n := 1) (fun ad rs H locs ls cells slots hL hs => ⟨fun h => ?_, ?_⟩) k
  · exact lv_ishr hC.1 hC.2.1 hdg (by rw [← q_e_ishr]; exact h)
  · exact List.forall_mem_cons.mpr ⟨q_can_i _, (List.forall_mem_cons.mp (List.forall_mem_cons.mp hs).2).2⟩
theorem q_s_iushr (hC : q_Cx p R s m args meth c mi) {x y : Int} (hdg : decode (q_cc mi) pc = .ok (.iushr, 1)) (k : q_Good p l e R s m args below meth c D dA A H0 Q mi ov E' w' (pc + 1) loc (.inl (q_ushr x y) :: st) E w) : q_Good p l e R s m args below meth c D dA A H0 Q mi ov E' w' pc loc (.inl y :: .inl x :: st) E w := by
  refine q_push (n := 1) (fun ad rs H locs ls cells slots hL hs => ⟨fun h => ?_, ?_⟩) k
  · exact lv_iushr hC.1 hC.2.1 hdg (q_ofI _).symm h
  · exact List.forall_mem_cons.mpr ⟨q_can_i _, (List.forall_mem_cons.mp (List.forall_mem_cons.mp hs).2).2⟩
theorem q_s_idiv (hC : q_Cx p R s m args meth c mi) {x y : Int} (hy : y ≠ 0) (hdg : decode (q_cc mi) pc = .ok (.idiv, 1)) (k : q_Good p l e R s m args below meth c D dA A H0 Q mi ov E' w' (pc + 1) loc (.inl (q_div x y) :: st) E w) : q_Good p l e R s m args below meth c D dA A H0 Q mi ov E' w' pc loc (.inl y :: .inl x :: st) E w := by
  refine q_push (n := 1) (fun ad rs H locs ls cells slots hL hs => ⟨fun h => ?_, ?_⟩) k
  · exact lv_idiv hC.1 hC.2.1 hdg (fun q => hy ((q_e_eq (List.forall_mem_cons.mp hs).1 q_can_0).mp q)) (by rw [← q_e_idiv]; exact h)
  · exact List.forall_mem_cons.mpr ⟨q_can_i _, (List.forall_mem_cons.mp (List.forall_mem_cons.mp hs).2).2⟩
theorem q_s_irem (hC : q_Cx p R s m args meth c mi) {x y : Int} (hy : y ≠ 0) (hdg : decode (q_cc mi) pc = .ok (.irem, 1)) (k : q_Good p l e R s m args below meth c D dA A H0 Q mi ov E' w' (pc + 1) loc (.inl (q_rem x y) :: st) E w) : q_Good p l e R s m args below meth c D dA A H0 Q mi ov E' w' pc loc (.inl y :: .inl x :: st) E w := by
  refine q_push (n := 1) (fun ad rs H locs ls cells slots hL hs => ⟨fun h => ?_, ?_⟩) k
  · exact lv_irem hC.1 hC.2.1 hdg (fun q => hy ((q_e_eq (List.forall_mem_cons.mp hs).1 q_can_0).mp q)) (by rw [← q_e_irem]; exact h)
  · exact List.forall_mem_cons.mpr ⟨q_can_i _, (List.forall_mem_cons.mp (List.forall_mem_cons.mp hs).2).2⟩
theorem q_s_ineg (hC : q_Cx p R s m args meth c mi) {x : Int} (hdg : decode (q_cc mi) pc = .ok (.ineg, 1)) (k : q_Good p l e R s m args below meth c D dA A H0 Q mi ov E' w' (pc + 1) loc (.inl (q_w (-x)) :: st) E w) : q_Good p l e R s m args below meth c D dA A H0 Q mi ov E' w' pc loc (.inl x :: st) E w := by
  refine q_push (n := 1) (fun ad rs H locs ls cells slots hL hs => ⟨fun h => ?_, ?_⟩) k
  · exact lv_ineg hC.1 hC.2.1 hdg (by rw [← q_e_neg]; exact h)
  · exact List.forall_mem_cons.mpr ⟨q_can_w _, (List.forall_mem_cons.mp hs).2⟩
theorem q_s_i2b (hC : q_Cx p R s m args meth c mi) {x : Int} (hdg : decode (q_cc mi) pc = .ok (.i2b, 1)) (k : q_Good p l e R s m args below meth c D dA A H0 Q mi ov E' w' (pc + 1) loc (.inl (q_i2b x) :: st) E w) : q_Good p l e R s m args below meth c D dA A H0 Q mi ov E' w' pc loc (.inl x :: st) E w := by
  refine q_push (n := 1) (fun ad rs H locs ls cells slots hL hs => ⟨fun h => ?_, ?_⟩) k
  · exact lv_i2b hC.1 hC.2.1 hdg (q_ofI _).symm h
  · exact List.forall_mem_cons.mpr ⟨q_can_i _, (List.forall_mem_cons.mp hs).2⟩
theorem q_s_i2l (hC : q_Cx p R s m args meth c mi) {x : Int} (hdg : decode (q_cc mi) pc = .ok (.i2l, 1)) (k : q_Good p l e R s m args below meth c D dA A H0 Q mi ov E' w' (pc + 1) loc (.inr (.inl (q_i2l x)) :: st) E w) : q_Good p l e R s m args below meth c D dA A H0 Q mi ov E' w' pc loc (.inl x :: st) E w := by
  refine q_push (n := 1) (fun ad rs H locs ls cells slots hL hs => ⟨fun h => ?_, ?_⟩) k
  · exact lv_i2l hC.1 hC.2.1 hdg rfl h
  · exact List.forall_mem_cons.mpr ⟨trivial, (List.forall_mem_cons.mp hs).2⟩
theorem q_s_ladd (hC : q_Cx p R s m args meth c mi) {x y : Int64} (hdg : decode (q_cc mi) pc = .ok (.ladd, 1)) (k : q_Good p l e R s m args below meth c D dA A H0 Q mi ov E' w' (pc + 1) loc (.inr (.inl (x + y)) :: st) E w) : q_Good p l e R s m args below meth c D dA A H0 Q mi ov E' w' pc loc (.inr (.inl y) :: .inr (.inl x) :: st) E w := by
  refine q_push (n := 1) (fun ad rs H locs ls cells slots hL hs => ⟨fun h => ?_, ?_⟩) k
  · exact lv_ladd hC.1 hC.2.1 hdg h
  · exact List.forall_mem_cons.mpr ⟨trivial, (List.forall_mem_cons.mp (List.forall_mem_cons.mp hs).2).2⟩
theorem q_s_lsub (hC : q_Cx p R s m args meth c mi) {x y : Int64} (hdg : decode (q_cc mi) pc = .ok (.lsub, 1)) (k : q_Good p l e R s m args below meth c D dA A H0 Q mi ov E' w' (pc + 1) loc (.inr (.inl (x - y)) :: st) E w) : q_Good p l e R s m args below meth c D dA A H0 Q mi ov E' w' pc loc (.inr (.inl y) :: .inr (.inl x) :: st) E w := by
  refine q_push (n := 1) (fun ad rs H locs ls cells slots hL hs => ⟨fun h => ?_, ?_⟩) k
  · exact lv_lsub hC.1 hC.2.1 hdg h
  · exact List.forall_mem_cons.mpr ⟨trivial, (List.forall_mem_cons.mp (List.forall_mem_cons.mp hs).2).2⟩
theorem q_s_lmul (hC : q_Cx p R s m args meth c mi) {x y : Int64} (hdg : decode (q_cc mi) pc = .ok (.lmul, 1)) (k : q_Good p l e R s m args below meth c D dA A H0 Q mi ov E' w' (pc + 1) loc (.inr (.inl (x * y)) :: st) E w) : q_Good p l e R s m args below meth c D dA A H0 Q mi ov E' w' pc loc (.inr (.inl y) :: .inr (.inl x) :: st) E w := by
  refine q_push (n := 1) (fun ad rs H locs ls cells slots hL hs => ⟨fun h => ?_, ?_⟩) k
  · exact lv_lmul hC.1 hC.2.1 hdg h
  · exact List.forall_mem_cons.mpr ⟨trivial, (List.forall_mem_cons.mp (List.forall_mem_cons.mp hs).2).2⟩
theorem q_s_lneg (hC : q_Cx p R s m args meth c mi) {x : Int64} (hdg : decode (q_cc mi) pc = .ok (.lneg, 1)) (k : q_Good p l e R s m args below meth c D dA A H0 Q mi ov E' w' (pc + 1) loc (.inr (.inl (-x)) :: st) E w) : q_Good p l e R s m args below meth c D dA A H0 Q mi ov E' w' pc loc (.inr (.inl x) :: st) E w := by
  refine q_push (n := 1) (fun ad rs H locs ls cells slots hL hs => ⟨fun h => ?_, ?_⟩) k
  · exact lv_lneg hC.1 hC.2.1 hdg h
  · exact List.forall_mem_cons.mpr ⟨trivial, (List.forall_mem_cons.mp hs).2⟩
theorem q_s_lcmp (hC : q_Cx p R s m args meth c mi) {x y : Int64} (hdg : decode (q_cc mi) pc = .ok (.lcmp, 1)) (k : q_Good p l e R s m args below meth c D dA A H0 Q mi ov E' w' (pc + 1) loc (.inl (q_lcmp x y) :: st) E w) : q_Good p l e R s m args below meth c D dA A H0 Q mi ov E' w' pc loc (.inr (.inl y) :: .inr (.inl x) :: st) E w := by
  refine q_push (n := 1) (fun ad rs H locs ls cells slots hL hs => ⟨fun h => ?_, ?_⟩) k
  · exact W.lcmp hC.1 hC.2.1 hdg (by rw [← q_ofI (lg_cmp x y)]; exact h)
  · exact List.forall_mem_cons.mpr ⟨q_can_i _, (List.forall_mem_cons.mp (List.forall_mem_cons.mp hs).2).2⟩
theorem q_s_dup (hC : q_Cx p R s m args meth c mi) {v : qV} (hv : q_cat v = 1) (hdg : decode (q_cc mi) pc = .ok (.dup, 1)) (k : q_Good p l e R s m args below meth c D dA A H0 Q mi ov E' w' (pc + 1) loc (v :: v :: st) E w) : q_Good p l e R s m args below meth c D dA A H0 Q mi ov E' w' pc loc (v :: st) E w := by
  refine q_push (n := 1) (fun ad rs H locs ls cells slots hL hs => ⟨fun h => ?_, ?_⟩) k
  · exact lv_dup hC.1 hC.2.1 hdg ((q_m_cat ad v).trans hv) h
  · exact List.forall_mem_cons.mpr ⟨(List.forall_mem_cons.mp hs).1, hs⟩
theorem q_s_pop (hC : q_Cx p R s m args meth c mi) {v : qV} (hv : q_cat v = 1) (hdg : decode (q_cc mi) pc = .ok (.pop, 1)) (k : q_Good p l e R s m args below meth c D dA A H0 Q mi ov E' w' (pc + 1) loc (st) E w) : q_Good p l e R s m args below meth c D dA A H0 Q mi ov E' w' pc loc (v :: st) E w := by
  refine q_push (n := 1) (fun ad rs H locs ls cells slots hL hs => ⟨fun h => ?_, ?_⟩) k
  · exact lv_pop hC.1 hC.2.1 hdg ((q_m_cat ad v).trans hv) h
  · exact (List.forall_mem_cons.mp hs).2
theorem q_s_dup2 (hC : q_Cx p R s m args meth c mi) {u v : qV} (hv : q_cat v = 1) (hu : q_cat u = 1) (hdg : decode (q_cc mi) pc = .ok (.dup2, 1)) (k : q_Good p l e R s m args below meth c D dA A H0 Q mi ov E' w' (pc + 1) loc (v :: u :: v :: u :: st) E w) : q_Good p l e R s m args below meth c D dA A H0 Q mi ov E' w' pc loc (v :: u :: st) E w := by
  refine q_push (n := 1) (fun ad rs H locs ls cells slots hL hs => ⟨fun h => ?_, ?_⟩) k
  · exact lv_dup2_11 hC.1 hC.2.1 hdg ((q_m_cat ad v).trans hv) ((q_m_cat ad u).trans hu) h
  · exact List.forall_mem_cons.mpr ⟨(List.forall_mem_cons.mp hs).1, List.forall_mem_cons.mpr ⟨(List.forall_mem_cons.mp (List.forall_mem_cons.mp hs).2).1, hs⟩⟩
theorem q_s_istore (hC : q_Cx p R s m args meth c mi) {i : Nat} {x : Int} (hi : i < loc.length) (hdg : decode (q_cc mi) pc = .ok (.istore i, 2)) (k : q_Good p l e R s m args below meth c D dA A H0 Q mi ov E' w' (pc + 2) ((q_clr loc i).set i (some (.inl x))) st E w) : q_Good p l e R s m args below meth c D dA A H0 Q mi ov E' w' pc loc (.inl x :: st) E w := by
  refine q_pushL (n := 2) (fun ad rs H locs ls cells slots hL hs => ⟨fun h => ?_, (List.forall_mem_cons.mp hs).2⟩) k
  · exact lv_istore hC.1 hC.2.1 hdg (q_Lk_has hL) (Nat.lt_of_lt_of_le hi hL.1) rfl (fun ls2 h2 => h ls2 (q_Lk_st1 hL.1 (fun i u hu => (hL.2.2.2 i u hu).1) (v := .inl x) (List.forall_mem_cons.mp hs).1 h2))
theorem q_s_istore_n (hC : q_Cx p R s m args meth c mi) {i : Fin 4} {x : Int} (hi : (i : Nat) < loc.length) (hdg : decode (q_cc mi) pc = .ok (.istore_n i, 1)) (k : q_Good p l e R s m args below meth c D dA A H0 Q mi ov E' w' (pc + 1) ((q_clr loc (i : Nat)).set (i : Nat) (some (.inl x))) st E w) : q_Good p l e R s m args below meth c D dA A H0 Q mi ov E' w' pc loc (.inl x :: st) E w := by
  refine q_pushL (n := 1) (fun ad rs H locs ls cells slots hL hs => ⟨fun h => ?_, (List.forall_mem_cons.mp hs).2⟩) k
  · exact lv_istore_n hC.1 hC.2.1 hdg rfl (q_Lk_has hL) (Nat.lt_of_lt_of_le hi hL.1) rfl (fun ls2 h2 => h ls2 (q_Lk_st1 hL.1 (fun i u hu => (hL.2.2.2 i u hu).1) (v := .inl x) (List.forall_mem_cons.mp hs).1 h2))
theorem q_s_astore (hC : q_Cx p R s m args meth c mi) {i : Nat} {x : qR} (hi : i < loc.length) (hdg : decode (q_cc mi) pc = .ok (.astore i, 2)) (k : q_Good p l e R s m args below meth c D dA A H0 Q mi ov E' w' (pc + 2) ((q_clr loc i).set i (some (.inr (.inr x)))) st E w) : q_Good p l e R s m args below meth c D dA A H0 Q mi ov E' w' pc loc (.inr (.inr x) :: st) E w := by
  refine q_pushL (n := 2) (fun ad rs H locs ls cells slots hL hs => ⟨fun h => ?_, (List.forall_mem_cons.mp hs).2⟩) k
  · exact lv_astore hC.1 hC.2.1 hdg (q_Lk_has hL) (Nat.lt_of_lt_of_le hi hL.1) rfl (fun ls2 h2 => h ls2 (q_Lk_st1 hL.1 (fun i u hu => (hL.2.2.2 i u hu).1) (v := .inr (.inr x)) (List.forall_mem_cons.mp hs).1 h2))
theorem q_s_astore_n (hC : q_Cx p R s m args meth c mi) {i : Fin 4} {x : qR} (hi : (i : Nat) < loc.length) (hdg : decode (q_cc mi) pc = .ok (.astore_n i, 1)) (k : q_Good p l e R s m args below meth c D dA A H0 Q mi ov E' w' (pc + 1) ((q_clr loc (i : Nat)).set (i : Nat) (some (.inr (.inr x)))) st E w) : q_Good p l e R s m args below meth c D dA A H0 Q mi ov E' w' pc loc (.inr (.inr x) :: st) E w := by
  refine q_pushL (n := 1) (fun ad rs H locs ls cells slots hL hs => ⟨fun h => ?_, (List.forall_mem_cons.mp hs).2⟩) k
  · exact lv_astore_n hC.1 hC.2.1 hdg rfl (q_Lk_has hL) (Nat.lt_of_lt_of_le hi hL.1) rfl (fun ls2 h2 => h ls2 (q_Lk_st1 hL.1 (fun i u hu => (hL.2.2.2 i u hu).1) (v := .inr (.inr x)) (List.forall_mem_cons.mp hs).1 h2))
theorem q_s_lstore (hC : q_Cx p R s m args meth c mi) {i : Nat} {x : Int64} (hi : i + 1 < loc.length) (hdg : decode (q_cc mi) pc = .ok (.lstore i, 2)) (k : q_Good p l e R s m args below meth c D dA A H0 Q mi ov E' w' (pc + 2) (((q_clr loc i).set i (some (.inr (.inl x)))).set (i + 1) none) st E w) : q_Good p l e R s m args below meth c D dA A H0 Q mi ov E' w' pc loc (.inr (.inl x) :: st) E w := by
  refine q_pushL (n := 2) (fun ad rs H locs ls cells slots hL hs => ⟨fun h => ?_, (List.forall_mem_cons.mp hs).2⟩) k
  · exact lv_lstore hC.1 hC.2.1 hdg (q_Lk_has hL) (Nat.lt_of_lt_of_le hi hL.1) rfl (fun ls2 h2 => h ls2 (q_Lk_st2 hL.1 (fun i u hu => (hL.2.2.2 i u hu).1) (v := .inr (.inl x)) (List.forall_mem_cons.mp hs).1 h2))
theorem q_s_lstore_n (hC : q_Cx p R s m args meth c mi) {i : Fin 4} {x : Int64} (hi : (i : Nat) + 1 < loc.length) (hdg : decode (q_cc mi) pc = .ok (.lstore_n i, 1)) (k : q_Good p l e R s m args below meth c D dA A H0 Q mi ov E' w' (pc + 1) (((q_clr loc (i : Nat)).set (i : Nat) (some (.inr (.inl x)))).set ((i : Nat) + 1) none) st E w) : q_Good p l e R s m args below meth c D dA A H0 Q mi ov E' w' pc loc (.inr (.inl x) :: st) E w := by
  refine q_pushL (n := 1) (fun ad rs H locs ls cells slots hL hs => ⟨fun h => ?_, (List.forall_mem_cons.mp hs).2⟩) k
  · exact lv_lstore_n hC.1 hC.2.1 hdg rfl (q_Lk_has hL) (Nat.lt_of_lt_of_le hi hL.1) rfl (fun ls2 h2 => h ls2 (q_Lk_st2 hL.1 (fun i u hu => (hL.2.2.2 i u hu).1) (v := .inr (.inl x)) (List.forall_mem_cons.mp hs).1 h2))
theorem q_s_iinc (hC : q_Cx p R s m args meth c mi) {i : Nat} {n x : Int} (hi : loc[i]? = some (some (.inl x))) (hdg : decode (q_cc mi) pc = .ok (.iinc i n, 3)) (k : q_Good p l e R s m args below meth c D dA A H0 Q mi ov E' w' (pc + 3) ((q_clr loc i).set i (some (.inl (q_w (x + n))))) st E w) : q_Good p l e R s m args below meth c D dA A H0 Q mi ov E' w' pc loc st E w := by
  refine q_pushL (n := 3) (fun ad rs H locs ls cells slots hL hs => ⟨fun h => ?_, hs⟩) k
  obtain ⟨k0, hk0⟩ := List.getElem?_of_mem (q_LL_mem.mpr ⟨_, hi, rfl⟩ : (i, q_m ad (.inl x)) ∈ q_LL ad loc)
  exact lv_iinc hC.1 hC.2.1 hdg (q_Lk_has hL) hk0 (q_e_add x n).symm (Nat.lt_of_lt_of_le (List.getElem?_eq_some_iff.mp hi).1 hL.1) rfl (fun ls2 h2 => h ls2 (q_Lk_st1 hL.1 (fun i u hu => (hL.2.2.2 i u hu).1) (v := .inl (q_w (x + n))) (q_can_w _) h2))
theorem q_s_icmp_eq (hC : q_Cx p R s m args meth c mi) {x y : Int} {off : Int} {tgt : Nat} (hdg : decode (q_cc mi) pc = .ok (.if_icmp .eq off, 3)) (ht : (pc : Int) + off = (tgt : Int)) (k1 : x = y → q_Good p l e R s m args below meth c D dA A H0 Q mi ov E' w' tgt loc st E w) (k2 : ¬ (x = y) → q_Good p l e R s m args below meth c D dA A H0 Q mi ov E' w' (pc + 3) loc st E w) : q_Good p l e R s m args below meth c D dA A H0 Q mi ov E' w' pc loc (.inl y :: .inl x :: st) E w := by
  refine q_pushB (fun ad rs H locs ls cells slots hL hs => ⟨fun h1 h2 => ?_, (List.forall_mem_cons.mp (List.forall_mem_cons.mp hs).2).2⟩) k1 k2
  exact lv_icmp_eq hC.1 hC.2.1 hdg ht (fun q => h1 ((q_e_eq (List.forall_mem_cons.mp (List.forall_mem_cons.mp hs).2).1 (List.forall_mem_cons.mp hs).1).mp q)) (fun q => h2 (fun z => q ((q_e_eq (List.forall_mem_cons.mp (List.forall_mem_cons.mp hs).2).1 (List.forall_mem_cons.mp hs).1).mpr z)))
theorem q_s_icmp_ne (hC : q_Cx p R s m args meth c mi) {x y : Int} {off : Int} {tgt : Nat} (hdg : decode (q_cc mi) pc = .ok (.if_icmp .ne off, 3)) (ht : (pc : Int) + off = (tgt : Int)) (k1 : ¬ x = y → q_Good p l e R s m args below meth c D dA A H0 Q mi ov E' w' tgt loc st E w) (k2 : ¬ (¬ x = y) → q_Good p l e R s m args below meth c D dA A H0 Q mi ov E' w' (pc + 3) loc st E w) : q_Good p l e R s m args below meth c D dA A H0 Q mi ov E' w' pc loc (.inl y :: .inl x :: st) E w := by
  refine q_pushB (fun ad rs H locs ls cells slots hL hs => ⟨fun h1 h2 => ?_, (List.forall_mem_cons.mp (List.forall_mem_cons.mp hs).2).2⟩) k1 k2
  exact lv_icmp_ne hC.1 hC.2.1 hdg ht (fun q => h1 ((not_congr (q_e_eq (List.forall_mem_cons.mp (List.forall_mem_cons.mp hs).2).1 (List.forall_mem_cons.mp hs).1)).mp q)) (fun q => h2 (fun z => z ((q_e_eq (List.forall_mem_cons.mp (List.forall_mem_cons.mp hs).2).1 (List.forall_mem_cons.mp hs).1).mp q)))
theorem q_s_icmp_lt (hC : q_Cx p R s m args meth c mi) {x y : Int} {off : Int} {tgt : Nat} (hdg : decode (q_cc mi) pc = .ok (.if_icmp .lt off, 3)) (ht : (pc : Int) + off = (tgt : Int)) (k1 : x < y → q_Good p l e R s m args below meth c D dA A H0 Q mi ov E' w' tgt loc st E w) (k2 : ¬ (x < y) → q_Good p l e R s m args below meth c D dA A H0 Q mi ov E' w' (pc + 3) loc st E w) : q_Good p l e R s m args below meth c D dA A H0 Q mi ov E' w' pc loc (.inl y :: .inl x :: st) E w := by
  refine q_pushB (fun ad rs H locs ls cells slots hL hs => ⟨fun h1 h2 => ?_, (List.forall_mem_cons.mp (List.forall_mem_cons.mp hs).2).2⟩) k1 k2
  exact lv_icmp_lt hC.1 hC.2.1 hdg ht (fun q => h1 ((q_e_lt (List.forall_mem_cons.mp (List.forall_mem_cons.mp hs).2).1 (List.forall_mem_cons.mp hs).1).mp q)) (fun q => h2 (fun z => q ((q_e_lt (List.forall_mem_cons.mp (List.forall_mem_cons.mp hs).2).1 (List.forall_mem_cons.mp hs).1).mpr z)))
theorem q_s_icmp_ge (hC : q_Cx p R s m args meth c mi) {x y : Int} {off : Int} {tgt : Nat} (hdg : decode (q_cc mi) pc = .ok (.if_icmp .ge off, 3)) (ht : (pc : Int) + off = (tgt : Int)) (k1 : y ≤ x → q_Good p l e R s m args below meth c D dA A H0 Q mi ov E' w' tgt loc st E w) (k2 : ¬ (y ≤ x) → q_Good p l e R s m args below meth c D dA A H0 Q mi ov E' w' (pc + 3) loc st E w) : q_Good p l e R s m args below meth c D dA A H0 Q mi ov E' w' pc loc (.inl y :: .inl x :: st) E w := by
  refine q_pushB (fun ad rs H locs ls cells slots hL hs => ⟨fun h1 h2 => ?_, (List.forall_mem_cons.mp (List.forall_mem_cons.mp hs).2).2⟩) k1 k2
  exact lv_icmp_ge hC.1 hC.2.1 hdg ht (fun q => h1 ((q_e_le (List.forall_mem_cons.mp hs).1 (List.forall_mem_cons.mp (List.forall_mem_cons.mp hs).2).1).mp q)) (fun q => h2 (fun z => q ((q_e_le (List.forall_mem_cons.mp hs).1 (List.forall_mem_cons.mp (List.forall_mem_cons.mp hs).2).1).mpr z)))
theorem q_s_icmp_gt (hC : q_Cx p R s m args meth c mi) {x y : Int} {off : Int} {tgt : Nat} (hdg : decode (q_cc mi) pc = .ok (.if_icmp .gt off, 3)) (ht : (pc : Int) + off = (tgt : Int)) (k1 : y < x → q_Good p l e R s m args below meth c D dA A H0 Q mi ov E' w' tgt loc st E w) (k2 : ¬ (y < x) → q_Good p l e R s m args below meth c D dA A H0 Q mi ov E' w' (pc + 3) loc st E w) : q_Good p l e R s m args below meth c D dA A H0 Q mi ov E' w' pc loc (.inl y :: .inl x :: st) E w := by
  refine q_pushB (fun ad rs H locs ls cells slots hL hs => ⟨fun h1 h2 => ?_, (List.forall_mem_cons.mp (List.forall_mem_cons.mp hs).2).2⟩) k1 k2
  exact lv_icmp_gt hC.1 hC.2.1 hdg ht (fun q => h1 ((q_e_lt (List.forall_mem_cons.mp hs).1 (List.forall_mem_cons.mp (List.forall_mem_cons.mp hs).2).1).mp q)) (fun q => h2 (fun z => q ((q_e_lt (List.forall_mem_cons.mp hs).1 (List.forall_mem_cons.mp (List.forall_mem_cons.mp hs).2).1).mpr z)))
theorem q_s_icmp_le (hC : q_Cx p R s m args meth c mi) {x y : Int} {off : Int} {tgt : Nat} (hdg : decode (q_cc mi) pc = .ok (.if_icmp .le off, 3)) (ht : (pc : Int) + off = (tgt : Int)) (k1 : x ≤ y → q_Good p l e R s m args below meth c D dA A H0 Q mi ov E' w' tgt loc st E w) (k2 : ¬ (x ≤ y) → q_Good p l e R s m args below meth c D dA A H0 Q mi ov E' w' (pc + 3) loc st E w) : q_Good p l e R s m args below meth c D dA A H0 Q mi ov E' w' pc loc (.inl y :: .inl x :: st) E w := by
  refine q_pushB (fun ad rs H locs ls cells slots hL hs => ⟨fun h1 h2 => ?_, (List.forall_mem_cons.mp (List.forall_mem_cons.mp hs).2).2⟩) k1 k2
  exact lv_icmp_le hC.1 hC.2.1 hdg ht (fun q => h1 ((q_e_le (List.forall_mem_cons.mp (List.forall_mem_cons.mp hs).2).1 (List.forall_mem_cons.mp hs).1).mp q)) (fun q => h2 (fun z => q ((q_e_le (List.forall_mem_cons.mp (List.forall_mem_cons.mp hs).2).1 (List.forall_mem_cons.mp hs).1).mpr z)))
theorem q_s_if_eq (hC : q_Cx p R s m args meth c mi) {x : Int} {off : Int} {tgt : Nat} (hdg : decode (q_cc mi) pc = .ok (.ifCond .eq off, 3)) (ht : (pc : Int) + off = (tgt : Int)) (k1 : x = 0 → q_Good p l e R s m args below meth c D dA A H0 Q mi ov E' w' tgt loc st E w) (k2 : ¬ (x = 0) → q_Good p l e R s m args below meth c D dA A H0 Q mi ov E' w' (pc + 3) loc st E w) : q_Good p l e R s m args below meth c D dA A H0 Q mi ov E' w' pc loc (.inl x :: st) E w := by
  refine q_pushB (fun ad rs H locs ls cells slots hL hs => ⟨fun h1 h2 => ?_, (List.forall_mem_cons.mp hs).2⟩) k1 k2
  exact lv_if_eq hC.1 hC.2.1 hdg ht (fun q => h1 ((q_e_eq (List.forall_mem_cons.mp hs).1 q_can_0).mp q)) (fun q => h2 (fun z => q ((q_e_eq (List.forall_mem_cons.mp hs).1 q_can_0).mpr z)))
theorem q_s_if_ne (hC : q_Cx p R s m args meth c mi) {x : Int} {off : Int} {tgt : Nat} (hdg : decode (q_cc mi) pc = .ok (.ifCond .ne off, 3)) (ht : (pc : Int) + off = (tgt : Int)) (k1 : ¬ x = 0 → q_Good p l e R s m args below meth c D dA A H0 Q mi ov E' w' tgt loc st E w) (k2 : ¬ (¬ x = 0) → q_Good p l e R s m args below meth c D dA A H0 Q mi ov E' w' (pc + 3) loc st E w) : q_Good p l e R s m args below meth c D dA A H0 Q mi ov E' w' pc loc (.inl x :: st) E w := by
  refine q_pushB (fun ad rs H locs ls cells slots hL hs => ⟨fun h1 h2 => ?_, (List.forall_mem_cons.mp hs).2⟩) k1 k2
  exact lv_if_ne hC.1 hC.2.1 hdg ht (fun q => h1 ((not_congr (q_e_eq (List.forall_mem_cons.mp hs).1 q_can_0)).mp q)) (fun q => h2 (fun z => z ((q_e_eq (List.forall_mem_cons.mp hs).1 q_can_0).mp q)))
theorem q_s_if_lt (hC : q_Cx p R s m args meth c mi) {x : Int} {off : Int} {tgt : Nat} (hdg : decode (q_cc mi) pc = .ok (.ifCond .lt off, 3)) (ht : (pc : Int) + off = (tgt : Int)) (k1 : x < 0 → q_Good p l e R s m args below meth c D dA A H0 Q mi ov E' w' tgt loc st E w) (k2 : ¬ (x < 0) → q_Good p l e R s m args below meth c D dA A H0 Q mi ov E' w' (pc + 3) loc st E w) : q_Good p l e R s m args below meth c D dA A H0 Q mi ov E' w' pc loc (.inl x :: st) E w := by
  refine q_pushB (fun ad rs H locs ls cells slots hL hs => ⟨fun h1 h2 => ?_, (List.forall_mem_cons.mp hs).2⟩) k1 k2
  exact lv_if_lt hC.1 hC.2.1 hdg ht (fun q => h1 ((q_e_lt (List.forall_mem_cons.mp hs).1 q_can_0).mp q)) (fun q => h2 (fun z => q ((q_e_lt (List.forall_mem_cons.mp hs).1 q_can_0).mpr z)))
theorem q_s_if_ge (hC : q_Cx p R s m args meth c mi) {x : Int} {off : Int} {tgt : Nat} (hdg : decode (q_cc mi) pc = .ok (.ifCond .ge off, 3)) (ht : (pc : Int) + off = (tgt : Int)) (k1 : 0 ≤ x → q_Good p l e R s m args below meth c D dA A H0 Q mi ov E' w' tgt loc st E w) (k2 : ¬ (0 ≤ x) → q_Good p l e R s m args below meth c D dA A H0 Q mi ov E' w' (pc + 3) loc st E w) : q_Good p l e R s m args below meth c D dA A H0 Q mi ov E' w' pc loc (.inl x :: st) E w := by
  refine q_pushB (fun ad rs H locs ls cells slots hL hs => ⟨fun h1 h2 => ?_, (List.forall_mem_cons.mp hs).2⟩) k1 k2
  exact lv_if_ge hC.1 hC.2.1 hdg ht (fun q => h1 ((q_e_le q_can_0 (List.forall_mem_cons.mp hs).1).mp q)) (fun q => h2 (fun z => q ((q_e_le q_can_0 (List.forall_mem_cons.mp hs).1).mpr z)))
theorem q_s_if_gt (hC : q_Cx p R s m args meth c mi) {x : Int} {off : Int} {tgt : Nat} (hdg : decode (q_cc mi) pc = .ok (.ifCond .gt off, 3)) (ht : (pc : Int) + off = (tgt : Int)) (k1 : 0 < x → q_Good p l e R s m args below meth c D dA A H0 Q mi ov E' w' tgt loc st E w) (k2 : ¬ (0 < x) → q_Good p l e R s m args below meth c D dA A H0 Q mi ov E' w' (pc + 3) loc st E w) : q_Good p l e R s m args below meth c D dA A H0 Q mi ov E' w' pc loc (.inl x :: st) E w := by
  refine q_pushB (fun ad rs H locs ls cells slots hL hs => ⟨fun h1 h2 => ?_, (List.forall_mem_cons.mp hs).2⟩) k1 k2
  exact lv_if_gt hC.1 hC.2.1 hdg ht (fun q => h1 ((q_e_lt q_can_0 (List.forall_mem_cons.mp hs).1).mp q)) (fun q => h2 (fun z => q ((q_e_lt q_can_0 (List.forall_mem_cons.mp hs).1).mpr z)))
theorem q_s_if_le (hC : q_Cx p R s m args meth c mi) {x : Int} {off : Int} {tgt : Nat} (hdg : decode (q_cc mi) pc = .ok (.ifCond .le off, 3)) (ht : (pc : Int) + off = (tgt : Int)) (k1 : x ≤ 0 → q_Good p l e R s m args below meth c D dA A H0 Q mi ov E' w' tgt loc st E w) (k2 : ¬ (x ≤ 0) → q_Good p l e R s m args below meth c D dA A H0 Q mi ov E' w' (pc + 3) loc st E w) : q_Good p l e R s m args below meth c D dA A H0 Q mi ov E' w' pc loc (.inl x :: st) E w := by
  refine q_pushB (fun ad rs H locs ls cells slots hL hs => ⟨fun h1 h2 => ?_, (List.forall_mem_cons.mp hs).2⟩) k1 k2
  exact lv_if_le hC.1 hC.2.1 hdg ht (fun q => h1 ((q_e_le (List.forall_mem_cons.mp hs).1 q_can_0).mp q)) (fun q => h2 (fun z => q ((q_e_le (List.forall_mem_cons.mp hs).1 q_can_0).mpr z)))
theorem q_s_goto (hC : q_Cx p R s m args meth c mi) {off : Int} {tgt : Nat} (hdg : decode (q_cc mi) pc = .ok (.goto off, 3)) (ht : (pc : Int) + off = (tgt : Int)) (k : q_Good p l e R s m args below meth c D dA A H0 Q mi ov E' w' tgt loc st E w) : q_Good p l e R s m args below meth c D dA A H0 Q mi ov E' w' pc loc st E w := by
  intro ad rs H locs ls cells slots hSt hL hs hSc h1 h2 h3 hK
  exact lv_goto hC.1 hC.2.1 hdg ht (k ad rs H locs ls cells slots hSt hL hs hSc h1 h2 h3 hK)
end QS
