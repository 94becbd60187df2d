/-! THE SMALL MACHINE: an interpreter of the bytecode that this claim uses, over worlds that are functions. Its soundness over the Statement's machine is a part of its own. -/
/-- a reference: tag and number -/
abbrev qR : Type := Nat × Nat
/-- a value: int, long, reference -/
abbrev qV : Type := Int ⊕ Int64 ⊕ qR
/-- a world: ints, longs, references at (tag, number, place) -/
abbrev qW : Type := (Nat → Nat → Nat → Int) × (Nat → Nat → Nat → Int64) × (Nat → Nat → Nat → Option qR)
/-- an instruction with what its constant pool entry resolves to -/
abbrev qI : Type := Instr × Nat × Nat × Nat × Int × List (Int × Nat)
/-- kinds: (0, class), (1, n) ints, (2, n) bytes, (3, n) booleans, (4, n) longs, (5 + e, n) references, (99, _) the script -/
abbrev qE : Type := (qR → Option (Nat × Nat)) × Nat × Nat
abbrev qLo : Type := List (Option qV)
def q_w (x : Int) : Int := (Int32.ofInt x).toInt
def q_and (x y : Int) : Int := (Int32.ofInt x &&& Int32.ofInt y).toInt
def q_or (x y : Int) : Int := (Int32.ofInt x ||| Int32.ofInt y).toInt
def q_xor (x y : Int) : Int := (Int32.ofInt x ^^^ Int32.ofInt y).toInt
def q_shl (x y : Int) : Int := (Int32.ofInt x <<< (Int32.ofInt y &&& 31)).toInt
def q_shr (x y : Int) : Int := (Int32.ofInt x >>> (Int32.ofInt y &&& 31)).toInt
def q_ushr (x y : Int) : Int := ((Int32.ofInt x).toUInt32 >>> ((Int32.ofInt y).toUInt32 &&& Int32.toUInt32 31)).toInt32.toInt
def q_div (x y : Int) : Int := (Int32.ofInt x / Int32.ofInt y).toInt
def q_rem (x y : Int) : Int := (Int32.ofInt x - Int32.ofInt x / Int32.ofInt y * Int32.ofInt y).toInt
def q_i2b (x : Int) : Int := (Int32.ofInt x).toInt8.toInt32.toInt
def q_i2l (x : Int) : Int64 := (Int32.ofInt x).toInt64
def q_lcmp (x y : Int64) : Int := (lg_cmp x y).toInt
def q_max (x y : Int) : Int := if x < y then y else x
def q_min (x y : Int) : Int := if y < x then y else x
def q_labs (x : Int64) : Int64 := if 0 < x then x else -x
/-- what a place of a kind of array holds when v is stored -/
def q_nar (k : Nat) (v : Int) : Int := match k with
  | 2 => (vp_nar .byte (Int32.ofInt v)).toInt
  | 3 => (vp_nar .boolean (Int32.ofInt v)).toInt
  | _ => v
def q_setI (w : qW) (t i k : Nat) (v : Int) : qW := (fun t' i' k' => if t' = t ∧ i' = i ∧ k' = k then v else w.1 t' i' k', w.2)
def q_setL (w : qW) (t i k : Nat) (v : Int64) : qW := (w.1, fun t' i' k' => if t' = t ∧ i' = i ∧ k' = k then v else w.2.1 t' i' k', w.2.2)
def q_setR (w : qW) (t i k : Nat) (v : Option qR) : qW := (w.1, w.2.1, fun t' i' k' => if t' = t ∧ i' = i ∧ k' = k then v else w.2.2 t' i' k')
def q_cond (op : Jvm.ClassFile.Cond) (x y : Int) : Prop := match op with
  | .eq => x = y
  | .ne => x ≠ y
  | .lt => x < y
  | .ge => y ≤ x
  | .gt => y < x
  | .le => x ≤ y
def q_neg (op : Jvm.ClassFile.Cond) : Jvm.ClassFile.Cond := match op with
  | .eq => .ne
  | .ne => .eq
  | .lt => .ge
  | .ge => .lt
  | .gt => .le
  | .le => .gt
