/-! each instruction of the tables against the bytes and the words, by program -/
def q_seg (k : Nat) : List Cond := match k with
  | 0 => k2_sels lw_privs
  | 1 => tables_1_1
  | 2 => tables_1_2
  | 3 => tables_1_3
  | 4 => tables_1_4
  | 5 => tables_1_5
  | 6 => tables_1_6
  | _ => []
def q_at (i : Nat) (w : Cond) : Bool := decide ((q_seg (i / 1000))[i % 1000]? = some w)
def q_tg (pcs : List Nat) (pc : Nat) (off : Int) (a : Nat) : Bool := match pcs[a]? with
  | some t => decide ((pc : Int) + off = (t : Int))
  | none => false
def q_tsw (pcs : List Nat) (pc : Nat) (lo : Int) (offs : List Int) (ts : List (Int × Nat)) : Bool := match offs, ts with
  | [], [] => true
  | o :: os, (k, a) :: r => decide (k = lo) && (q_tg pcs pc o a && q_tsw pcs pc (lo + 1) os r)
  | _, _ => false
def q_lsw (pcs : List Nat) (pc : Nat) (ps : List (Int × Int)) (ts : List (Int × Nat)) : Bool := match ps, ts with
  | [], [] => true
  | (k0, o) :: os, (k, a) :: r => decide (k = k0) && (q_tg pcs pc o a && q_lsw pcs pc os r)
  | _, _ => false
/-- an instruction's length, where it is always the same (0: a switch) -/
def q_il (i : Instr) : Nat := match i with
  | .bipush _ => 2 | .ldc _ => 2 | .iload _ => 2 | .lload _ => 2 | .aload _ => 2 | .istore _ => 2 | .lstore _ => 2 | .astore _ => 2 | .newarray _ => 2
  | .sipush _ => 3 | .ldc_w _ => 3 | .ldc2_w _ => 3 | .iinc _ _ => 3 | .ifCond _ _ => 3 | .if_icmp _ _ => 3 | .goto _ => 3 | .getfield _ => 3 | .putfield _ => 3 | .invokevirtual _ => 3 | .invokespecial _ => 3 | .invokestatic _ => 3 | .new _ => 3 | .anewarray _ => 3
  | .multianewarray _ _ => 4
  | .tableswitch _ _ _ _ => 0 | .lookupswitch _ _ => 0
  | _ => 1
def q_fld (own : String) (k a b c h : Nat) (put : Bool) (nm : String) : Bool := match q_cls[a]? with
  | some (C, T, N) => decide (b < N) && (q_at h (.fieldLink own k C (T b).2.1 (T b).2.2.1) && (decide ((T b).1 = C) && (decide ((q_ft a)[b]? = some c) && (!put || (!(T b).2.2.2 || (decide (nm = "<init>") && decide (C = own)))))))
  | none => false
def q_room (mi a : Nat) : Bool := decide (q_fr a + 1 ≤ q_fr mi) && decide (8 + (q_ml a + 11) + q_lo a ≤ q_lo mi)
/-- of an instruction at pc of method mi -/
def q_ckI (mi : Nat) (pcs : List Nat) (pc : Nat) (op : qI) (h : List Nat) : Bool := match op with
  | (i, a, b, c, z, ts) => match i with
    | .iconst n => decide (Int32.ofInt n = Int32.ofInt z) && decide ((Int32.ofInt z).toInt = z)
    | .bipush n => decide ((Int8.ofInt n).toInt32 = Int32.ofInt z) && decide ((Int32.ofInt z).toInt = z)
    | .sipush n => decide ((Int16.ofInt n).toInt32 = Int32.ofInt z) && decide ((Int32.ofInt z).toInt = z)
    | .ldc k => q_at (h.getD 0 0) (.constant (q_y mi).cls k (Int32.ofInt z)) && decide ((Int32.ofInt z).toInt = z)
    | .ldc_w k => q_at (h.getD 0 0) (.constant (q_y mi).cls k (Int32.ofInt z)) && decide ((Int32.ofInt z).toInt = z)
    | .lconst n => decide (Int64.ofNat (n : Nat) = Int64.ofInt z)
    | .ldc2_w k => q_at (h.getD 0 0) (.constantLong (q_y mi).cls k (Int64.ofInt z))
    | .ifCond _ o => q_tg pcs pc o a
    | .if_icmp _ o => q_tg pcs pc o a
    | .goto o => q_tg pcs pc o a
    | .tableswitch d lo hi offs => q_tg pcs pc d a && (q_tsw pcs pc lo offs.toList ts && decide (hi + 1 = lo + (offs.size : Int)))
    | .lookupswitch d ps => q_tg pcs pc d a && (q_lsw pcs pc ps.toList ts && (ps.toList.zip (ps.toList.drop 1)).all (fun (a, next) => a.1 < next.1))
    | .getfield k => q_fld (q_y mi).cls k a b c (h.getD 0 0) false ""
    | .putfield k => q_fld (q_y mi).cls k a b c (h.getD 0 0) true (q_y mi).name
    | .invokevirtual k => decide (a ≠ 0) && (q_at (h.getD 0 0) (.methodLink (q_y mi).cls k (q_y a)) && (q_at (h.getD 1 0) (.instanceMethod (q_y a)) && (q_at (h.getD 2 0) (.selects (q_y a).cls (q_y a) (q_y a)) && (decide (b = q_np a + 1) && (q_room mi a && (match c with
      | 0 => false
      | c + 1 => (match q_cls[c]? with
        | some (C, _, _) => decide ((q_y a).cls = C)
        | none => false)))))))
    | .invokestatic k => (match c with
      | 0 => decide (a ≠ 0) && (q_at (h.getD 0 0) (.methodLink (q_y mi).cls k (q_y a)) && (q_at (h.getD 1 0) (.static (q_y a)) && (decide (b = q_np a) && q_room mi a)))
      | 91 => q_at (h.getD 0 0) (.methodLink (q_y mi).cls k Lib.Math.max.name) && (q_at (h.getD 1 0) (.static Lib.Math.max.name) && (q_at (h.getD 2 0) (.initialized "java/lang/Math") && (q_at (h.getD 3 0) (.code Lib.Math.max.name Lib.Math.max.code 2 (some .int)) && (decide (b = 2) && decide (1 ≤ q_fr mi ∧ 21 ≤ q_lo mi)))))
      | 92 => q_at (h.getD 0 0) (.methodLink (q_y mi).cls k Lib.Math.min.name) && (q_at (h.getD 1 0) (.static Lib.Math.min.name) && (q_at (h.getD 2 0) (.initialized "java/lang/Math") && (q_at (h.getD 3 0) (.code Lib.Math.min.name Lib.Math.min.code 2 (some .int)) && (decide (b = 2) && decide (1 ≤ q_fr mi ∧ 21 ≤ q_lo mi)))))
      | 93 => q_at (h.getD 0 0) (.methodLink (q_y mi).cls k Lib.MathLoose.abs_long.x) && (q_at (h.getD 1 0) (.static Lib.MathLoose.abs_long.x) && (q_at (h.getD 2 0) (.initialized "java/lang/Math") && (q_at (h.getD 3 0) (.code Lib.MathLoose.abs_long.x Lib.MathLoose.abs_long.code 2 (some .long)) && (decide (b = 1) && decide (1 ≤ q_fr mi ∧ 21 ≤ q_lo mi)))))
      | _ => false)
    | .invokespecial k => (match Nat.beq c 98 with
      | true => decide (a = 2) && (q_at (h.getD 0 0) (.methodLink (q_y mi).cls k Lib.objectInit) && (q_at (h.getD 1 0) (.instanceMethod Lib.objectInit) && (q_at 1025 (.code Lib.objectInit ⟨#[0xb1]⟩ 1 none) && decide (1 ≤ q_fr mi ∧ 20 ≤ q_lo mi))))
      | false => decide (a ≠ 0) && (q_at (h.getD 1 0) (.instanceMethod (q_y a)) && (decide ((q_y a).name = "<init>") && (decide (b = q_np a + 1) && (q_room mi a && (decide (q_rtT a = none) && (decide (c ≠ 0) && (match h.getD 2 0 with
        | 0 => q_at (h.getD 0 0) (.methodLink (q_y mi).cls k (q_y a))
        | _ => q_at (h.getD 0 0) (.methodLinkNest (q_y mi).cls k (q_y a) "GrassCells")))))))))
    | .ireturn => (match a with
      | 0 => decide (q_rtT mi = some .int)
      | _ => decide (q_rtT mi = some .boolean))
    | .lreturn => decide (q_rtT mi = some .long)
    | .areturn => (match q_rtT mi with
      | some (.object _) => true
      | _ => false)
    | .return_ => decide (q_rtT mi = none)
    | .new k => (match q_cls[a]? with
      | some (C, _, N) => decide (b = N) && (q_at (h.getD 0 0) (.classLink (q_y mi).cls k C) && (q_at (h.getD 1 0) (.instantiable C N) && q_at (h.getD 2 0) (.initialized C)))
      | none => false)
    | .newarray t => q_at (h.getD 0 0) (.arrayClass (newarray.typeOf t)) && (match t with
      | .int => decide (a = 1)
      | .byte => decide (a = 2)
      | .boolean => decide (a = 3)
      | .long => decide (a = 4)
      | _ => false)
    | .anewarray k => (match q_cls[a - 2]? with
      | some (C, _, _) => decide (2 ≤ a) && ((decide (a = 6) || decide (a = 10)) && (q_at (h.getD 0 0) (.classLink (q_y mi).cls k C) && q_at (h.getD 1 0) (.arrayOver (.object C))))
      | none => false)
    | .multianewarray k d => decide (d = 2) && (match a with
      | 0 => decide (b = 1) && (q_at (h.getD 0 0) (.classLink (q_y mi).cls k ("[" ++ (FieldType.array .int).toString)) && (q_at (h.getD 1 0) (.arrayOver (.array .int)) && q_at (h.getD 2 0) (.arrayClass .int)))
      | 1 => decide (b = 4) && (q_at (h.getD 0 0) (.classLink (q_y mi).cls k ("[" ++ (FieldType.array .long).toString)) && (q_at (h.getD 1 0) (.arrayOver (.array .long)) && q_at (h.getD 2 0) (.arrayClass .long)))
      | _ => false)
    | _ => true
/-- the list of instructions from place k on -/
def q_ckL (mi : Nat) (pcs0 : List Nat) : List Nat → List qI → List (List Nat) → Bool
  | [], [], [] => true
  | pc :: pcs, op :: is, h :: hs => (match pcs with
      | pc' :: _ => decide (decode (q_cc mi) pc = .ok (op.1, pc' - pc)) && (decide (pc < pc') && (Nat.beq (q_il op.1) 0 || Nat.beq (q_il op.1) (pc' - pc)))
      | [] => decide (decode (q_cc mi) pc = .ok (op.1, q_il op.1)) && decide (0 < q_il op.1)) && (q_ckI mi pcs0 pc op h && q_ckL mi pcs0 pcs is hs)
  | _, _, _ => false
def q_ckM (mi : Nat) : Bool := q_ckL mi (q_pcs mi) (q_pcs mi) (q_code mi) (q_hints mi) && decide ((q_pcs mi)[0]? = some 0)
def q_ckW (mi : Nat) : Bool := q_at ((q_mh mi).getD 0 0) (.code (q_y mi) (q_cc mi) (q_ml mi) (q_rtT mi)) && (q_at ((q_mh mi).getD 1 0) (.initialized (q_y mi).cls) && (decide ((q_y mi).cls ≠ "java/lang/invoke/MethodHandle" ∧ (q_y mi).cls ≠ "java/lang/invoke/VarHandle") && (decide ((parseMethodDescriptor (q_y mi).desc).map (fun d => d.parameters.length) = some (q_np mi)) && plainName (q_y mi).cls)))
/-- a stretch of the law's instructions -/
def q_ckC (a n : Nat) : Bool := q_ckL 0 (q_pcs 0) (((q_pcs 0).drop a).take n) (((q_code 0).drop a).take n) (((q_hints 0).drop a).take n)
theorem qk_M0 : ([1, 2, 3, 4, 5, 6, 7].all q_ckM) = true := by decide +kernel
theorem qk_W0 : ([1, 3, 4, 5, 6, 7].all q_ckW) = true := by decide +kernel
theorem qk_M1 : ([8, 9, 10, 11, 12, 13, 14, 15].all q_ckM) = true := by decide +kernel
theorem qk_W1 : ([8, 9, 10, 11, 12, 13, 14, 15].all q_ckW) = true := by decide +kernel
theorem qk_M2 : ([16, 17, 18, 19, 20, 21, 22, 23].all q_ckM) = true := by decide +kernel
theorem qk_W2 : ([16, 17, 18, 19, 20, 21, 22, 23].all q_ckW) = true := by decide +kernel
theorem qk_M3 : ([24, 25, 26, 27, 28, 29, 30, 31].all q_ckM) = true := by decide +kernel
theorem qk_W3 : ([24, 25, 26, 27, 28, 29, 30, 31].all q_ckW) = true := by decide +kernel
theorem qk_M4 : ([32, 33, 34, 35, 36, 37, 38, 39].all q_ckM) = true := by decide +kernel
theorem qk_W4 : ([32, 33, 34, 35, 36, 37, 38, 39].all q_ckW) = true := by decide +kernel
theorem qk_M5 : ([40, 41, 42, 43, 44, 45, 46, 47].all q_ckM) = true := by decide +kernel
theorem qk_W5 : ([40, 41, 42, 43, 44, 45, 46, 47].all q_ckW) = true := by decide +kernel
theorem qk_M6 : ([48, 49, 50, 51, 52, 53, 54, 55].all q_ckM) = true := by decide +kernel
theorem qk_W6 : ([48, 49, 50, 51, 52, 53, 55].all q_ckW) = true := by decide +kernel
theorem qk_M7 : ([56, 57, 58, 59, 60, 61, 62, 63].all q_ckM) = true := by decide +kernel
theorem qk_W7 : ([56, 57, 58, 59, 60, 61, 62, 63].all q_ckW) = true := by decide +kernel
theorem qk_M8 : ([64, 65, 66, 67, 68, 69, 70, 71].all q_ckM) = true := by decide +kernel
theorem qk_W8 : ([64, 65, 66, 67, 68, 69, 70, 71].all q_ckW) = true := by decide +kernel
theorem qk_M9 : ([72, 73, 74, 75, 76, 77, 78, 79].all q_ckM) = true := by decide +kernel
theorem qk_W9 : ([72, 73, 74, 75, 76, 77, 79].all q_ckW) = true := by decide +kernel
theorem qk_M10 : ([80, 81, 82, 83, 84, 85, 86, 87].all q_ckM) = true := by decide +kernel
theorem qk_W10 : ([80, 81, 82, 83, 84, 85, 86, 87].all q_ckW) = true := by decide +kernel
theorem qk_M11 : ([88, 89, 90, 91, 92, 93, 94, 95].all q_ckM) = true := by decide +kernel
theorem qk_W11 : ([88, 89, 91, 92, 93, 94, 95].all q_ckW) = true := by decide +kernel
theorem qk_M12 : ([96, 97, 98, 99, 100, 101, 102, 103].all q_ckM) = true := by decide +kernel
theorem qk_W12 : ([96, 97, 98, 99, 100, 101, 102, 103].all q_ckW) = true := by decide +kernel
theorem qk_M13 : ([104, 105, 106, 107, 108, 109, 110, 111].all q_ckM) = true := by decide +kernel
theorem qk_W13 : ([104, 105, 106, 107, 108, 109, 110, 111].all q_ckW) = true := by decide +kernel
theorem qk_M14 : ([112, 113, 114, 115, 116, 117, 118, 119].all q_ckM) = true := by decide +kernel
theorem qk_W14 : ([112, 113, 114, 115, 116, 117, 118, 119].all q_ckW) = true := by decide +kernel
theorem qk_M15 : ([120, 121, 122, 123, 124, 125, 126, 127].all q_ckM) = true := by decide +kernel
theorem qk_W15 : ([120, 121, 122, 123, 124, 125, 126, 127].all q_ckW) = true := by decide +kernel
theorem qk_M16 : ([128, 129, 130, 131, 132, 133, 134, 135].all q_ckM) = true := by decide +kernel
theorem qk_W16 : ([128, 129, 130, 131, 132, 133, 134, 135].all q_ckW) = true := by decide +kernel
theorem qk_M17 : ([136, 137, 138, 139, 140, 141, 142, 143].all q_ckM) = true := by decide +kernel
theorem qk_W17 : ([136, 137, 138, 139, 140, 141, 142, 143].all q_ckW) = true := by decide +kernel
theorem qk_M18 : ([144, 145, 146, 147, 148, 149, 150, 151].all q_ckM) = true := by decide +kernel
theorem qk_W18 : ([144, 145, 146, 147, 148, 149, 150, 151].all q_ckW) = true := by decide +kernel
theorem qk_M19 : ([152, 153, 154, 155, 156, 157, 158, 159].all q_ckM) = true := by decide +kernel
theorem qk_W19 : ([152, 153, 154, 155, 156, 157, 158, 159].all q_ckW) = true := by decide +kernel
theorem qk_M20 : ([160, 161, 162, 163, 164, 165, 166, 167].all q_ckM) = true := by decide +kernel
theorem qk_W20 : ([160, 161, 162, 163, 164, 165, 166, 167].all q_ckW) = true := by decide +kernel
theorem qk_M21 : ([168, 169, 170, 171, 172, 173, 174, 175].all q_ckM) = true := by decide +kernel
theorem qk_W21 : ([168, 169, 170, 171, 172, 173, 174, 175].all q_ckW) = true := by decide +kernel
theorem qk_M22 : ([176, 177, 178, 179, 180, 181, 182, 183].all q_ckM) = true := by decide +kernel
theorem qk_W22 : ([176, 177, 178, 179, 180, 181, 182, 183].all q_ckW) = true := by decide +kernel
theorem qk_M23 : ([184, 185, 186, 187, 188, 189, 190, 191].all q_ckM) = true := by decide +kernel
theorem qk_W23 : ([184, 185, 186, 187, 188, 189, 190, 191].all q_ckW) = true := by decide +kernel
theorem qk_M24 : ([192, 193, 194, 195, 196, 197, 198, 199].all q_ckM) = true := by decide +kernel
theorem qk_W24 : ([192, 193, 194, 195, 196, 197, 198, 199].all q_ckW) = true := by decide +kernel
theorem qk_M25 : ([200, 201, 202, 203, 204, 205, 206, 207].all q_ckM) = true := by decide +kernel
theorem qk_W25 : ([200, 201, 202, 203, 204, 205, 206, 207].all q_ckW) = true := by decide +kernel
theorem qk_M26 : ([208, 209, 210, 211, 212, 213, 214, 215].all q_ckM) = true := by decide +kernel
theorem qk_W26 : ([208, 209, 210, 211, 212, 213, 214, 215].all q_ckW) = true := by decide +kernel
theorem qk_M27 : ([216, 217, 218, 219, 220, 221, 222, 223].all q_ckM) = true := by decide +kernel
theorem qk_W27 : ([216, 217, 218, 219, 220, 221, 222, 223].all q_ckW) = true := by decide +kernel
theorem qk_M28 : ([224, 225, 226, 227, 228, 229, 230, 231].all q_ckM) = true := by decide +kernel
theorem qk_W28 : ([224, 225, 226, 227, 228, 229, 230, 231].all q_ckW) = true := by decide +kernel
theorem qk_M29 : ([232, 233, 234, 235, 236, 237, 238, 239].all q_ckM) = true := by decide +kernel
theorem qk_W29 : ([232, 233, 234, 235, 236, 237, 238, 239].all q_ckW) = true := by decide +kernel
