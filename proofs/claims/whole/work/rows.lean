section
/-! THE SMALL MACHINE: an interpreter of the bytecode that this claim uses, over worlds that are functions. Its soundness over the Statement's machine is a part of its own. -/
/-- a reference: tag and number -/
abbrev qR : Type := Nat × Nat
/-- a value: int, long, reference -/
abbrev qV : Type := Int ⊕ Int64 ⊕ qR
/-- a world: ints, longs, references at (tag, number, place) -/
abbrev qW : Type := (Nat → Nat → Nat → Int) × (Nat → Nat → Nat → Int64) × (Nat → Nat → Nat → Option qR)
/-- an instruction with what its constant pool entry resolves to -/
abbrev qI : Type := Instr × Nat × Nat × Nat × Int × List (Int × Nat)
/-- kinds: (0, class), (1, n) ints, (2, n) bytes, (3, n) booleans, (4, n) longs, (5 + e, n) references, (99, _) the script -/
abbrev qE : Type := (qR → Option (Nat × Nat)) × Nat × Nat
abbrev qLo : Type := List (Option qV)
def q_w (x : Int) : Int := (Int32.ofInt x).toInt
def q_and (x y : Int) : Int := (Int32.ofInt x &&& Int32.ofInt y).toInt
def q_or (x y : Int) : Int := (Int32.ofInt x ||| Int32.ofInt y).toInt
def q_xor (x y : Int) : Int := (Int32.ofInt x ^^^ Int32.ofInt y).toInt
def q_shl (x y : Int) : Int := (Int32.ofInt x <<< (Int32.ofInt y &&& 31)).toInt
def q_shr (x y : Int) : Int := (Int32.ofInt x >>> (Int32.ofInt y &&& 31)).toInt
def q_ushr (x y : Int) : Int := ((Int32.ofInt x).toUInt32 >>> ((Int32.ofInt y).toUInt32 &&& Int32.toUInt32 31)).toInt32.toInt
def q_div (x y : Int) : Int := (Int32.ofInt x / Int32.ofInt y).toInt
def q_rem (x y : Int) : Int := (Int32.ofInt x - Int32.ofInt x / Int32.ofInt y * Int32.ofInt y).toInt
def q_i2b (x : Int) : Int := (Int32.ofInt x).toInt8.toInt32.toInt
def q_i2l (x : Int) : Int64 := (Int32.ofInt x).toInt64
def q_lcmp (x y : Int64) : Int := (lg_cmp x y).toInt
def q_max (x y : Int) : Int := if x < y then y else x
def q_min (x y : Int) : Int := if y < x then y else x
def q_labs (x : Int64) : Int64 := if 0 < x then x else -x
/-- what a place of a kind of array holds when v is stored -/
def q_nar (k : Nat) (v : Int) : Int := match k with
  | 2 => (vp_nar .byte (Int32.ofInt v)).toInt
  | 3 => (vp_nar .boolean (Int32.ofInt v)).toInt
  | _ => v
def q_setI (w : qW) (t i k : Nat) (v : Int) : qW := (fun t' i' k' => if t' = t ∧ i' = i ∧ k' = k then v else w.1 t' i' k', w.2)
def q_setL (w : qW) (t i k : Nat) (v : Int64) : qW := (w.1, fun t' i' k' => if t' = t ∧ i' = i ∧ k' = k then v else w.2.1 t' i' k', w.2.2)
def q_setR (w : qW) (t i k : Nat) (v : Option qR) : qW := (w.1, w.2.1, fun t' i' k' => if t' = t ∧ i' = i ∧ k' = k then v else w.2.2 t' i' k')
def q_cond (op : Jvm.ClassFile.Cond) (x y : Int) : Prop := match op with
  | .eq => x = y
  | .ne => x ≠ y
  | .lt => x < y
  | .ge => y ≤ x
  | .gt => y < x
  | .le => x ≤ y
def q_neg (op : Jvm.ClassFile.Cond) : Jvm.ClassFile.Cond := match op with
  | .eq => .ne
  | .ne => .eq
  | .lt => .ge
  | .ge => .lt
  | .gt => .le
  | .le => .gt
end
section
/-! printed by wip/whole/gen.py out of the Statement: the methods, instruction by instruction -/
abbrev m_Law_law : Nat := 0
abbrev m_GC_init : Nat := 1
abbrev m_J_init : Nat := 2
abbrev m_Re_init : Nat := 3
abbrev m_Ta_init : Nat := 4
abbrev m_Di_init : Nat := 5
abbrev m_Ce_init : Nat := 6
abbrev m_Co_init : Nat := 7
abbrev m_Ne_init : Nat := 8
abbrev m_Pa_init : Nat := 9
abbrev m_Mo_init : Nat := 10
abbrev m_Cs_init : Nat := 11
abbrev m_Sh_init : Nat := 12
abbrev m_GC_feed : Nat := 13
abbrev m_Ta_append : Nat := 14
abbrev m_GC_end : Nat := 15
abbrev m_GC_cell : Nat := 16
abbrev m_Re_read : Nat := 17
abbrev m_Re_skipBlanks : Nat := 18
abbrev m_Ta_at : Nat := 19
abbrev m_Ta_isSmallLetter : Nat := 20
abbrev m_Ta_fourBytes : Nat := 21
abbrev m_Re_readNumbers : Nat := 22
abbrev m_Re_readNumber : Nat := 23
abbrev m_Ta_isDigit : Nat := 24
abbrev m_Re_fault : Nat := 25
abbrev m_Re_faultOfNumbers : Nat := 26
abbrev m_Se_only : Nat := 27
abbrev m_Re_readFilling : Nat := 28
abbrev m_Re_readPath : Nat := 29
abbrev m_Re_isLetterOfPath : Nat := 30
abbrev m_Di_clear : Nat := 31
abbrev m_J_fill : Nat := 32
abbrev m_Se_holds : Nat := 33
abbrev m_Re_readRow : Nat := 34
abbrev m_Di_isBox : Nat := 35
abbrev m_Di_setPlus : Nat := 36
abbrev m_Re_faultOfBoxes : Nat := 37
abbrev m_Di_breaksLe : Nat := 38
abbrev m_Di_isPlus : Nat := 39
abbrev m_Di_imageOf : Nat := 40
abbrev m_Di_nextColumn : Nat := 41
abbrev m_Di_rowAbove : Nat := 42
abbrev m_Re_readSets : Nat := 43
abbrev m_Re_readSet : Nat := 44
abbrev m_Re_faultOfSets : Nat := 45
abbrev m_Se_upTo : Nat := 46
abbrev m_J_bitCount : Nat := 47
abbrev m_Se_canStandBehind : Nat := 48
abbrev m_Re_imageBetween : Nat := 49
abbrev m_Se_least : Nat := 50
abbrev m_J_numberOfTrailingZeros : Nat := 51
abbrev m_GC_become : Nat := 52
abbrev m_Pa_record : Nat := 53
abbrev m_J_min : Nat := 54
abbrev m_Co_copyFrom : Nat := 55
abbrev m_Ce_take : Nat := 56
abbrev m_Ce_layNecklace : Nat := 57
abbrev m_Ce_layBases : Nat := 58
abbrev m_Ce_isSet : Nat := 59
abbrev m_Ce_areLabels : Nat := 60
abbrev m_Ce_isAtLeastNecklace : Nat := 61
abbrev m_Se_atLeast : Nat := 62
abbrev m_Ce_inversionsOf : Nat := 63
abbrev m_Di_drawFor : Nat := 64
abbrev m_Co_layFor : Nat := 65
abbrev m_Co_add : Nat := 66
abbrev m_Co_contains : Nat := 67
abbrev m_Co_crossesNone : Nat := 68
abbrev m_Se_crossing : Nat := 69
abbrev m_GC_f : Nat := 70
abbrev m_Ce_isLabel : Nat := 71
abbrev m_GC_neck : Nat := 72
abbrev m_GC_box : Nat := 73
abbrev m_GC_bases : Nat := 74
abbrev m_GC_basis : Nat := 75
abbrev m_GC_rank : Nat := 76
abbrev m_Ce_rankOf : Nat := 77
abbrev m_J_max : Nat := 78
abbrev m_GC_exchange : Nat := 79
abbrev m_Ce_isBasis : Nat := 80
abbrev m_Ce_leastExchange : Nat := 81
abbrev m_GC_part : Nat := 82
abbrev m_Ce_hangingTogether : Nat := 83
abbrev m_Ce_exchangeable : Nat := 84
abbrev m_GC_ways : Nat := 85
abbrev m_Di_waysTo : Nat := 86
abbrev m_Di_countPathsTo : Nat := 87
abbrev m_J_fill2 : Nat := 88
abbrev m_Di_expandRow : Nat := 89
abbrev m_J_abs : Nat := 90
abbrev m_GC_cross : Nat := 91
abbrev m_GC_cluster : Nat := 92
abbrev m_GC_square : Nat := 93
abbrev m_Co_movedFrom : Nat := 94
abbrev m_Ce_isOfNecklace : Nat := 95
abbrev m_Co_movedAt : Nat := 96
abbrev m_Co_hasCorners : Nat := 97
abbrev m_GC_move : Nat := 98
abbrev m_Co_remove : Nat := 99
abbrev m_GC_lower : Nat := 100
abbrev m_GC_valueOfNext : Nat := 101
abbrev m_Ne_howManyFrom : Nat := 102
abbrev m_Ne_seek : Nat := 103
abbrev m_Ne_swap : Nat := 104
abbrev m_GC_upper : Nat := 105
abbrev m_GC_down : Nat := 106
abbrev m_GC_stepToNext : Nat := 107
abbrev m_Ce_dimension : Nat := 108
abbrev m_Di_plusCount : Nat := 109
abbrev m_GC_up : Nat := 110
abbrev m_GC_turn : Nat := 111
abbrev m_GC_mirror : Nat := 112
abbrev m_Ce_origin : Nat := 113
abbrev m_GC_complement : Nat := 114
abbrev m_GC_undo : Nat := 115
abbrev m_Pa_takeLast : Nat := 116
abbrev m_GC_howMany : Nat := 117
abbrev m_Cs_cells : Nat := 118
abbrev m_Cs_clearThen : Nat := 119
abbrev m_Cs_flip : Nat := 120
abbrev m_Cs_endLowestRow : Nat := 121
abbrev m_J_highestOneBit : Nat := 122
abbrev m_J_numberOfLeadingZeros : Nat := 123
abbrev m_Cs_pass : Nat := 124
abbrev m_Cs_addColumn : Nat := 125
abbrev m_GC_keep : Nat := 126
abbrev m_Sh_put : Nat := 127
abbrev m_GC_has : Nat := 128
abbrev m_Sh_isInClosureOf : Nat := 129
abbrev m_GC_count : Nat := 130
abbrev m_GC_filledShelves : Nat := 131
abbrev m_GC_countOfLive : Nat := 132
abbrev m_Ce_fixedLabels : Nat := 133
abbrev m_Ce_partCount : Nat := 134
abbrev m_Md_init : Nat := 135
abbrev m_Md_feed : Nat := 136
abbrev m_Md_end : Nat := 137
abbrev m_Md_isIn : Nat := 138
abbrev m_Md_cell : Nat := 139
abbrev m_Md_wordHere : Nat := 140
abbrev m_Md_next : Nat := 141
abbrev m_Md_byteAt : Nat := 142
abbrev m_Md_isLetter : Nat := 143
abbrev m_Md_fails : Nat := 144
abbrev m_Md_readsRest : Nat := 145
abbrev m_Md_readsPerm : Nat := 146
abbrev m_Md_isDigit : Nat := 147
abbrev m_Md_isLikeAhead : Nat := 148
abbrev m_Md_readsFill : Nat := 149
abbrev m_Md_with : Nat := 150
abbrev m_Md_laysShape : Nat := 151
abbrev m_Md_has : Nat := 152
abbrev m_Md_isBox : Nat := 153
abbrev m_Md_isLe : Nat := 154
abbrev m_Md_isPlus : Nat := 155
abbrev m_Md_goesFrom : Nat := 156
abbrev m_Md_rowAbove : Nat := 157
abbrev m_Md_columnLeft : Nat := 158
abbrev m_Md_outAt : Nat := 159
abbrev m_Md_readsNeck : Nat := 160
abbrev m_Md_isNeck : Nat := 161
abbrev m_Md_canStand : Nat := 162
abbrev m_Md_without : Nat := 163
abbrev m_Md_sizeOf : Nat := 164
abbrev m_Md_laysByNeck : Nat := 165
abbrev m_Md_stepOf : Nat := 166
abbrev m_Md_laysDiagram : Nat := 167
abbrev m_Md_isOwnDiagram : Nat := 168
abbrev m_Md_searchesDiagram : Nat := 169
abbrev m_Md_isAllLe : Nat := 170
abbrev m_Md_keepsAct : Nat := 171
abbrev m_Md_changes : Nat := 172
abbrev m_Md_follows : Nat := 173
abbrev m_Md_laysNeck : Nat := 174
abbrev m_Md_laysBases : Nat := 175
abbrev m_Md_isAtLeast : Nat := 176
abbrev m_Md_laysCluster : Nat := 177
abbrev m_Md_crossesNone : Nat := 178
abbrev m_Md_doCross : Nat := 179
abbrev m_Md_f : Nat := 180
abbrev m_Md_isLabel : Nat := 181
abbrev m_Md_neck : Nat := 182
abbrev m_Md_box : Nat := 183
abbrev m_Md_bases : Nat := 184
abbrev m_Md_isCell : Nat := 185
abbrev m_Md_basis : Nat := 186
abbrev m_Md_kthOf : Nat := 187
abbrev m_Md_rank : Nat := 188
abbrev m_Md_exchange : Nat := 189
abbrev m_Md_isBasisHere : Nat := 190
abbrev m_Md_part : Nat := 191
abbrev m_Md_laysParts : Nat := 192
abbrev m_Md_hang : Nat := 193
abbrev m_Md_ways : Nat := 194
abbrev m_Md_isSet : Nat := 195
abbrev m_Md_laysPaths : Nat := 196
abbrev m_Md_plusToRight : Nat := 197
abbrev m_Md_plusAbove : Nat := 198
abbrev m_Md_endsAt : Nat := 199
abbrev m_Md_determinant : Nat := 200
abbrev m_Md_of : Nat := 201
abbrev m_Md_two : Nat := 202
abbrev m_Md_three : Nat := 203
abbrev m_Md_cross : Nat := 204
abbrev m_Md_cluster : Nat := 205
abbrev m_Md_square : Nat := 206
abbrev m_Md_squareAt : Nat := 207
abbrev m_Md_isOfNeck : Nat := 208
abbrev m_Md_squareBy : Nat := 209
abbrev m_Md_isThere : Nat := 210
abbrev m_Md_move : Nat := 211
abbrev m_Md_undo : Nat := 212
abbrev m_Md_lower : Nat := 213
abbrev m_Md_toldNext : Nat := 214
abbrev m_Md_nextOnes : Nat := 215
abbrev m_Md_inversionsOf : Nat := 216
abbrev m_Md_at : Nat := 217
abbrev m_Md_swaps : Nat := 218
abbrev m_Md_isNext : Nat := 219
abbrev m_Md_upper : Nat := 220
abbrev m_Md_down : Nat := 221
abbrev m_Md_goes : Nat := 222
abbrev m_Md_dim : Nat := 223
abbrev m_Md_up : Nat := 224
abbrev m_Md_turn : Nat := 225
abbrev m_Md_mirror : Nat := 226
abbrev m_Md_becomesNew : Nat := 227
abbrev m_Md_leastFrom : Nat := 228
abbrev m_Md_complement : Nat := 229
abbrev m_Md_howMany : Nat := 230
abbrev m_Md_isFree : Nat := 231
abbrev m_Md_isOne : Nat := 232
abbrev m_Md_keep : Nat := 233
abbrev m_Md_has2 : Nat := 234
abbrev m_Md_laysItsNeck : Nat := 235
abbrev m_Md_count : Nat := 236
abbrev m_Md_loops : Nat := 237
abbrev m_Md_parts : Nat := 238
abbrev m_Md_kept : Nat := 239
/-- GrassCellsLaw.law([I)Z -/
def qc_Law_law : List qI := [(.new 7, 10, 8, 0, 0, []),
  (.dup, 0, 0, 0, 0, []),
  (.invokespecial 9, 1, 1, 11, 0, []),
  (.astore_n 1, 0, 0, 0, 0, []),
  (.new 10, 11, 28, 0, 0, []),
  (.dup, 0, 0, 0, 0, []),
  (.invokespecial 12, 135, 1, 12, 0, []),
  (.astore_n 2, 0, 0, 0, 0, []),
  (.iconst 0, 0, 0, 0, 0, []),
  (.istore_n 3, 0, 0, 0, 0, []),
  (.iload_n 3, 0, 0, 0, 0, []),
  (.aload_n 0, 0, 0, 0, 0, []),
  (.arraylength, 0, 0, 0, 0, []),
  (.bipush 6, 0, 0, 0, 6, []),
  (.isub, 0, 0, 0, 0, []),
  (.if_icmp .gt 847, 561, 0, 0, 0, []),
  (.aload_n 0, 0, 0, 0, 0, []),
  (.iload_n 3, 0, 0, 0, 0, []),
  (.iaload, 0, 0, 0, 0, []),
  (.bipush 31, 0, 0, 0, 31, []),
  (.iand, 0, 0, 0, 0, []),
  (.tableswitch 832 0 27 #[127, 190, 213, 226, 249, 272, 305, 318, 341, 364, 407, 430, 454, 487, 510, 533, 556, 589, 622, 645, 668, 681, 694, 707, 720, 763, 786, 809], 559, 0, 0, 0, [(0, 22), (1, 79), (2, 96), (3, 103), (4, 120), (5, 137), (6, 164), (7, 171), (8, 188), (9, 205), (10, 242), (11, 259), (12, 277), (13, 304), (14, 321), (15, 338), (16, 355), (17, 382), (18, 409), (19, 426), (20, 443), (21, 450), (22, 457), (23, 464), (24, 471), (25, 508), (26, 525), (27, 542)]),
  (.aload_n 1, 0, 0, 0, 0, []),
  (.aload_n 0, 0, 0, 0, 0, []),
  (.iload_n 3, 0, 0, 0, 0, []),
  (.iconst 1, 0, 0, 0, 1, []),
  (.iadd, 0, 0, 0, 0, []),
  (.iaload, 0, 0, 0, 0, []),
  (.aload_n 0, 0, 0, 0, 0, []),
  (.iload_n 3, 0, 0, 0, 0, []),
  (.iconst 2, 0, 0, 0, 2, []),
  (.iadd, 0, 0, 0, 0, []),
  (.iaload, 0, 0, 0, 0, []),
  (.aload_n 0, 0, 0, 0, 0, []),
  (.iload_n 3, 0, 0, 0, 0, []),
  (.iconst 3, 0, 0, 0, 3, []),
  (.iadd, 0, 0, 0, 0, []),
  (.iaload, 0, 0, 0, 0, []),
  (.aload_n 0, 0, 0, 0, 0, []),
  (.iload_n 3, 0, 0, 0, 0, []),
  (.iconst 4, 0, 0, 0, 4, []),
  (.iadd, 0, 0, 0, 0, []),
  (.iaload, 0, 0, 0, 0, []),
  (.aload_n 0, 0, 0, 0, 0, []),
  (.iload_n 3, 0, 0, 0, 0, []),
  (.iconst 5, 0, 0, 0, 5, []),
  (.iadd, 0, 0, 0, 0, []),
  (.iaload, 0, 0, 0, 0, []),
  (.invokevirtual 13, 13, 6, 11, 0, []),
  (.aload_n 2, 0, 0, 0, 0, []),
  (.aload_n 0, 0, 0, 0, 0, []),
  (.iload_n 3, 0, 0, 0, 0, []),
  (.iconst 1, 0, 0, 0, 1, []),
  (.iadd, 0, 0, 0, 0, []),
  (.iaload, 0, 0, 0, 0, []),
  (.aload_n 0, 0, 0, 0, 0, []),
  (.iload_n 3, 0, 0, 0, 0, []),
  (.iconst 2, 0, 0, 0, 2, []),
  (.iadd, 0, 0, 0, 0, []),
  (.iaload, 0, 0, 0, 0, []),
  (.aload_n 0, 0, 0, 0, 0, []),
  (.iload_n 3, 0, 0, 0, 0, []),
  (.iconst 3, 0, 0, 0, 3, []),
  (.iadd, 0, 0, 0, 0, []),
  (.iaload, 0, 0, 0, 0, []),
  (.aload_n 0, 0, 0, 0, 0, []),
  (.iload_n 3, 0, 0, 0, 0, []),
  (.iconst 4, 0, 0, 0, 4, []),
  (.iadd, 0, 0, 0, 0, []),
  (.iaload, 0, 0, 0, 0, []),
  (.aload_n 0, 0, 0, 0, 0, []),
  (.iload_n 3, 0, 0, 0, 0, []),
  (.iconst 5, 0, 0, 0, 5, []),
  (.iadd, 0, 0, 0, 0, []),
  (.iaload, 0, 0, 0, 0, []),
  (.invokevirtual 17, 136, 6, 12, 0, []),
  (.if_icmp .eq 647, 559, 0, 0, 0, []),
  (.iconst 0, 0, 0, 0, 0, []),
  (.ireturn, 1, 0, 0, 0, []),
  (.aload_n 1, 0, 0, 0, 0, []),
  (.aload_n 0, 0, 0, 0, 0, []),
  (.iload_n 3, 0, 0, 0, 0, []),
  (.iconst 1, 0, 0, 0, 1, []),
  (.iadd, 0, 0, 0, 0, []),
  (.iaload, 0, 0, 0, 0, []),
  (.invokevirtual 18, 15, 2, 11, 0, []),
  (.aload_n 2, 0, 0, 0, 0, []),
  (.aload_n 0, 0, 0, 0, 0, []),
  (.iload_n 3, 0, 0, 0, 0, []),
  (.iconst 1, 0, 0, 0, 1, []),
  (.iadd, 0, 0, 0, 0, []),
  (.iaload, 0, 0, 0, 0, []),
  (.invokevirtual 22, 137, 2, 12, 0, []),
  (.if_icmp .eq 624, 559, 0, 0, 0, []),
  (.iconst 0, 0, 0, 0, 0, []),
  (.ireturn, 1, 0, 0, 0, []),
  (.aload_n 1, 0, 0, 0, 0, []),
  (.invokevirtual 23, 16, 1, 11, 0, []),
  (.aload_n 2, 0, 0, 0, 0, []),
  (.invokevirtual 27, 139, 1, 12, 0, []),
  (.if_icmp .eq 611, 559, 0, 0, 0, []),
  (.iconst 0, 0, 0, 0, 0, []),
  (.ireturn, 1, 0, 0, 0, []),
  (.aload_n 1, 0, 0, 0, 0, []),
  (.aload_n 0, 0, 0, 0, 0, []),
  (.iload_n 3, 0, 0, 0, 0, []),
  (.iconst 1, 0, 0, 0, 1, []),
  (.iadd, 0, 0, 0, 0, []),
  (.iaload, 0, 0, 0, 0, []),
  (.invokevirtual 28, 70, 2, 11, 0, []),
  (.aload_n 2, 0, 0, 0, 0, []),
  (.aload_n 0, 0, 0, 0, 0, []),
  (.iload_n 3, 0, 0, 0, 0, []),
  (.iconst 1, 0, 0, 0, 1, []),
  (.iadd, 0, 0, 0, 0, []),
  (.iaload, 0, 0, 0, 0, []),
  (.invokevirtual 31, 180, 2, 12, 0, []),
  (.if_icmp .eq 588, 559, 0, 0, 0, []),
  (.iconst 0, 0, 0, 0, 0, []),
  (.ireturn, 1, 0, 0, 0, []),
  (.aload_n 1, 0, 0, 0, 0, []),
  (.aload_n 0, 0, 0, 0, 0, []),
  (.iload_n 3, 0, 0, 0, 0, []),
  (.iconst 1, 0, 0, 0, 1, []),
  (.iadd, 0, 0, 0, 0, []),
  (.iaload, 0, 0, 0, 0, []),
  (.invokevirtual 32, 72, 2, 11, 0, []),
  (.aload_n 2, 0, 0, 0, 0, []),
  (.aload_n 0, 0, 0, 0, 0, []),
  (.iload_n 3, 0, 0, 0, 0, []),
  (.iconst 1, 0, 0, 0, 1, []),
  (.iadd, 0, 0, 0, 0, []),
  (.iaload, 0, 0, 0, 0, []),
  (.invokevirtual 35, 182, 2, 12, 0, []),
  (.if_icmp .eq 565, 559, 0, 0, 0, []),
  (.iconst 0, 0, 0, 0, 0, []),
  (.ireturn, 1, 0, 0, 0, []),
  (.aload_n 1, 0, 0, 0, 0, []),
  (.aload_n 0, 0, 0, 0, 0, []),
  (.iload_n 3, 0, 0, 0, 0, []),
  (.iconst 1, 0, 0, 0, 1, []),
  (.iadd, 0, 0, 0, 0, []),
  (.iaload, 0, 0, 0, 0, []),
  (.aload_n 0, 0, 0, 0, 0, []),
  (.iload_n 3, 0, 0, 0, 0, []),
  (.iconst 2, 0, 0, 0, 2, []),
  (.iadd, 0, 0, 0, 0, []),
  (.iaload, 0, 0, 0, 0, []),
  (.invokevirtual 36, 73, 3, 11, 0, []),
  (.aload_n 2, 0, 0, 0, 0, []),
  (.aload_n 0, 0, 0, 0, 0, []),
  (.iload_n 3, 0, 0, 0, 0, []),
  (.iconst 1, 0, 0, 0, 1, []),
  (.iadd, 0, 0, 0, 0, []),
  (.iaload, 0, 0, 0, 0, []),
  (.aload_n 0, 0, 0, 0, 0, []),
  (.iload_n 3, 0, 0, 0, 0, []),
  (.iconst 2, 0, 0, 0, 2, []),
  (.iadd, 0, 0, 0, 0, []),
  (.iaload, 0, 0, 0, 0, []),
  (.invokevirtual 40, 183, 3, 12, 0, []),
  (.if_icmp .eq 532, 559, 0, 0, 0, []),
  (.iconst 0, 0, 0, 0, 0, []),
  (.ireturn, 1, 0, 0, 0, []),
  (.aload_n 1, 0, 0, 0, 0, []),
  (.invokevirtual 41, 74, 1, 11, 0, []),
  (.aload_n 2, 0, 0, 0, 0, []),
  (.invokevirtual 44, 184, 1, 12, 0, []),
  (.if_icmp .eq 519, 559, 0, 0, 0, []),
  (.iconst 0, 0, 0, 0, 0, []),
  (.ireturn, 1, 0, 0, 0, []),
  (.aload_n 1, 0, 0, 0, 0, []),
  (.aload_n 0, 0, 0, 0, 0, []),
  (.iload_n 3, 0, 0, 0, 0, []),
  (.iconst 1, 0, 0, 0, 1, []),
  (.iadd, 0, 0, 0, 0, []),
  (.iaload, 0, 0, 0, 0, []),
  (.invokevirtual 45, 75, 2, 11, 0, []),
  (.aload_n 2, 0, 0, 0, 0, []),
  (.aload_n 0, 0, 0, 0, 0, []),
  (.iload_n 3, 0, 0, 0, 0, []),
  (.iconst 1, 0, 0, 0, 1, []),
  (.iadd, 0, 0, 0, 0, []),
  (.iaload, 0, 0, 0, 0, []),
  (.invokevirtual 48, 186, 2, 12, 0, []),
  (.if_icmp .eq 496, 559, 0, 0, 0, []),
  (.iconst 0, 0, 0, 0, 0, []),
  (.ireturn, 1, 0, 0, 0, []),
  (.aload_n 1, 0, 0, 0, 0, []),
  (.aload_n 0, 0, 0, 0, 0, []),
  (.iload_n 3, 0, 0, 0, 0, []),
  (.iconst 1, 0, 0, 0, 1, []),
  (.iadd, 0, 0, 0, 0, []),
  (.iaload, 0, 0, 0, 0, []),
  (.invokevirtual 49, 76, 2, 11, 0, []),
  (.aload_n 2, 0, 0, 0, 0, []),
  (.aload_n 0, 0, 0, 0, 0, []),
  (.iload_n 3, 0, 0, 0, 0, []),
  (.iconst 1, 0, 0, 0, 1, []),
  (.iadd, 0, 0, 0, 0, []),
  (.iaload, 0, 0, 0, 0, []),
  (.invokevirtual 52, 188, 2, 12, 0, []),
  (.if_icmp .eq 473, 559, 0, 0, 0, []),
  (.iconst 0, 0, 0, 0, 0, []),
  (.ireturn, 1, 0, 0, 0, []),
  (.aload_n 1, 0, 0, 0, 0, []),
  (.aload_n 0, 0, 0, 0, 0, []),
  (.iload_n 3, 0, 0, 0, 0, []),
  (.iconst 1, 0, 0, 0, 1, []),
  (.iadd, 0, 0, 0, 0, []),
  (.iaload, 0, 0, 0, 0, []),
  (.aload_n 0, 0, 0, 0, 0, []),
  (.iload_n 3, 0, 0, 0, 0, []),
  (.iconst 2, 0, 0, 0, 2, []),
  (.iadd, 0, 0, 0, 0, []),
  (.iaload, 0, 0, 0, 0, []),
  (.aload_n 0, 0, 0, 0, 0, []),
  (.iload_n 3, 0, 0, 0, 0, []),
  (.iconst 3, 0, 0, 0, 3, []),
  (.iadd, 0, 0, 0, 0, []),
  (.iaload, 0, 0, 0, 0, []),
  (.invokevirtual 53, 79, 4, 11, 0, []),
  (.aload_n 2, 0, 0, 0, 0, []),
  (.aload_n 0, 0, 0, 0, 0, []),
  (.iload_n 3, 0, 0, 0, 0, []),
  (.iconst 1, 0, 0, 0, 1, []),
  (.iadd, 0, 0, 0, 0, []),
  (.iaload, 0, 0, 0, 0, []),
  (.aload_n 0, 0, 0, 0, 0, []),
  (.iload_n 3, 0, 0, 0, 0, []),
  (.iconst 2, 0, 0, 0, 2, []),
  (.iadd, 0, 0, 0, 0, []),
  (.iaload, 0, 0, 0, 0, []),
  (.aload_n 0, 0, 0, 0, 0, []),
  (.iload_n 3, 0, 0, 0, 0, []),
  (.iconst 3, 0, 0, 0, 3, []),
  (.iadd, 0, 0, 0, 0, []),
  (.iaload, 0, 0, 0, 0, []),
  (.invokevirtual 57, 189, 4, 12, 0, []),
  (.if_icmp .eq 430, 559, 0, 0, 0, []),
  (.iconst 0, 0, 0, 0, 0, []),
  (.ireturn, 1, 0, 0, 0, []),
  (.aload_n 1, 0, 0, 0, 0, []),
  (.aload_n 0, 0, 0, 0, 0, []),
  (.iload_n 3, 0, 0, 0, 0, []),
  (.iconst 1, 0, 0, 0, 1, []),
  (.iadd, 0, 0, 0, 0, []),
  (.iaload, 0, 0, 0, 0, []),
  (.invokevirtual 58, 82, 2, 11, 0, []),
  (.aload_n 2, 0, 0, 0, 0, []),
  (.aload_n 0, 0, 0, 0, 0, []),
  (.iload_n 3, 0, 0, 0, 0, []),
  (.iconst 1, 0, 0, 0, 1, []),
  (.iadd, 0, 0, 0, 0, []),
  (.iaload, 0, 0, 0, 0, []),
  (.invokevirtual 61, 191, 2, 12, 0, []),
  (.if_icmp .eq 407, 559, 0, 0, 0, []),
  (.iconst 0, 0, 0, 0, 0, []),
  (.ireturn, 1, 0, 0, 0, []),
  (.aload_n 1, 0, 0, 0, 0, []),
  (.aload_n 0, 0, 0, 0, 0, []),
  (.iload_n 3, 0, 0, 0, 0, []),
  (.iconst 1, 0, 0, 0, 1, []),
  (.iadd, 0, 0, 0, 0, []),
  (.iaload, 0, 0, 0, 0, []),
  (.invokevirtual 62, 85, 2, 11, 0, []),
  (.aload_n 2, 0, 0, 0, 0, []),
  (.aload_n 0, 0, 0, 0, 0, []),
  (.iload_n 3, 0, 0, 0, 0, []),
  (.iconst 1, 0, 0, 0, 1, []),
  (.iadd, 0, 0, 0, 0, []),
  (.iaload, 0, 0, 0, 0, []),
  (.invokevirtual 66, 194, 2, 12, 0, []),
  (.lcmp, 0, 0, 0, 0, []),
  (.ifCond .eq 383, 559, 0, 0, 0, []),
  (.iconst 0, 0, 0, 0, 0, []),
  (.ireturn, 1, 0, 0, 0, []),
  (.aload_n 1, 0, 0, 0, 0, []),
  (.aload_n 0, 0, 0, 0, 0, []),
  (.iload_n 3, 0, 0, 0, 0, []),
  (.iconst 1, 0, 0, 0, 1, []),
  (.iadd, 0, 0, 0, 0, []),
  (.iaload, 0, 0, 0, 0, []),
  (.aload_n 0, 0, 0, 0, 0, []),
  (.iload_n 3, 0, 0, 0, 0, []),
  (.iconst 2, 0, 0, 0, 2, []),
  (.iadd, 0, 0, 0, 0, []),
  (.iaload, 0, 0, 0, 0, []),
  (.invokevirtual 67, 91, 3, 11, 0, []),
  (.aload_n 2, 0, 0, 0, 0, []),
  (.aload_n 0, 0, 0, 0, 0, []),
  (.iload_n 3, 0, 0, 0, 0, []),
  (.iconst 1, 0, 0, 0, 1, []),
  (.iadd, 0, 0, 0, 0, []),
  (.iaload, 0, 0, 0, 0, []),
  (.aload_n 0, 0, 0, 0, 0, []),
  (.iload_n 3, 0, 0, 0, 0, []),
  (.iconst 2, 0, 0, 0, 2, []),
  (.iadd, 0, 0, 0, 0, []),
  (.iaload, 0, 0, 0, 0, []),
  (.invokevirtual 70, 204, 3, 12, 0, []),
  (.if_icmp .eq 350, 559, 0, 0, 0, []),
  (.iconst 0, 0, 0, 0, 0, []),
  (.ireturn, 1, 0, 0, 0, []),
  (.aload_n 1, 0, 0, 0, 0, []),
  (.aload_n 0, 0, 0, 0, 0, []),
  (.iload_n 3, 0, 0, 0, 0, []),
  (.iconst 1, 0, 0, 0, 1, []),
  (.iadd, 0, 0, 0, 0, []),
  (.iaload, 0, 0, 0, 0, []),
  (.invokevirtual 71, 92, 2, 11, 0, []),
  (.aload_n 2, 0, 0, 0, 0, []),
  (.aload_n 0, 0, 0, 0, 0, []),
  (.iload_n 3, 0, 0, 0, 0, []),
  (.iconst 1, 0, 0, 0, 1, []),
  (.iadd, 0, 0, 0, 0, []),
  (.iaload, 0, 0, 0, 0, []),
  (.invokevirtual 74, 205, 2, 12, 0, []),
  (.if_icmp .eq 327, 559, 0, 0, 0, []),
  (.iconst 0, 0, 0, 0, 0, []),
  (.ireturn, 1, 0, 0, 0, []),
  (.aload_n 1, 0, 0, 0, 0, []),
  (.aload_n 0, 0, 0, 0, 0, []),
  (.iload_n 3, 0, 0, 0, 0, []),
  (.iconst 1, 0, 0, 0, 1, []),
  (.iadd, 0, 0, 0, 0, []),
  (.iaload, 0, 0, 0, 0, []),
  (.invokevirtual 75, 93, 2, 11, 0, []),
  (.aload_n 2, 0, 0, 0, 0, []),
  (.aload_n 0, 0, 0, 0, 0, []),
  (.iload_n 3, 0, 0, 0, 0, []),
  (.iconst 1, 0, 0, 0, 1, []),
  (.iadd, 0, 0, 0, 0, []),
  (.iaload, 0, 0, 0, 0, []),
  (.invokevirtual 78, 206, 2, 12, 0, []),
  (.if_icmp .eq 304, 559, 0, 0, 0, []),
  (.iconst 0, 0, 0, 0, 0, []),
  (.ireturn, 1, 0, 0, 0, []),
  (.aload_n 1, 0, 0, 0, 0, []),
  (.aload_n 0, 0, 0, 0, 0, []),
  (.iload_n 3, 0, 0, 0, 0, []),
  (.iconst 1, 0, 0, 0, 1, []),
  (.iadd, 0, 0, 0, 0, []),
  (.iaload, 0, 0, 0, 0, []),
  (.invokevirtual 79, 98, 2, 11, 0, []),
  (.aload_n 2, 0, 0, 0, 0, []),
  (.aload_n 0, 0, 0, 0, 0, []),
  (.iload_n 3, 0, 0, 0, 0, []),
  (.iconst 1, 0, 0, 0, 1, []),
  (.iadd, 0, 0, 0, 0, []),
  (.iaload, 0, 0, 0, 0, []),
  (.invokevirtual 82, 211, 2, 12, 0, []),
  (.if_icmp .eq 281, 559, 0, 0, 0, []),
  (.iconst 0, 0, 0, 0, 0, []),
  (.ireturn, 1, 0, 0, 0, []),
  (.aload_n 1, 0, 0, 0, 0, []),
  (.aload_n 0, 0, 0, 0, 0, []),
  (.iload_n 3, 0, 0, 0, 0, []),
  (.iconst 1, 0, 0, 0, 1, []),
  (.iadd, 0, 0, 0, 0, []),
  (.iaload, 0, 0, 0, 0, []),
  (.aload_n 0, 0, 0, 0, 0, []),
  (.iload_n 3, 0, 0, 0, 0, []),
  (.iconst 2, 0, 0, 0, 2, []),
  (.iadd, 0, 0, 0, 0, []),
  (.iaload, 0, 0, 0, 0, []),
  (.invokevirtual 83, 100, 3, 11, 0, []),
  (.aload_n 2, 0, 0, 0, 0, []),
  (.aload_n 0, 0, 0, 0, 0, []),
  (.iload_n 3, 0, 0, 0, 0, []),
  (.iconst 1, 0, 0, 0, 1, []),
  (.iadd, 0, 0, 0, 0, []),
  (.iaload, 0, 0, 0, 0, []),
  (.aload_n 0, 0, 0, 0, 0, []),
  (.iload_n 3, 0, 0, 0, 0, []),
  (.iconst 2, 0, 0, 0, 2, []),
  (.iadd, 0, 0, 0, 0, []),
  (.iaload, 0, 0, 0, 0, []),
  (.invokevirtual 86, 213, 3, 12, 0, []),
  (.if_icmp .eq 248, 559, 0, 0, 0, []),
  (.iconst 0, 0, 0, 0, 0, []),
  (.ireturn, 1, 0, 0, 0, []),
  (.aload_n 1, 0, 0, 0, 0, []),
  (.aload_n 0, 0, 0, 0, 0, []),
  (.iload_n 3, 0, 0, 0, 0, []),
  (.iconst 1, 0, 0, 0, 1, []),
  (.iadd, 0, 0, 0, 0, []),
  (.iaload, 0, 0, 0, 0, []),
  (.aload_n 0, 0, 0, 0, 0, []),
  (.iload_n 3, 0, 0, 0, 0, []),
  (.iconst 2, 0, 0, 0, 2, []),
  (.iadd, 0, 0, 0, 0, []),
  (.iaload, 0, 0, 0, 0, []),
  (.invokevirtual 87, 105, 3, 11, 0, []),
  (.aload_n 2, 0, 0, 0, 0, []),
  (.aload_n 0, 0, 0, 0, 0, []),
  (.iload_n 3, 0, 0, 0, 0, []),
  (.iconst 1, 0, 0, 0, 1, []),
  (.iadd, 0, 0, 0, 0, []),
  (.iaload, 0, 0, 0, 0, []),
  (.aload_n 0, 0, 0, 0, 0, []),
  (.iload_n 3, 0, 0, 0, 0, []),
  (.iconst 2, 0, 0, 0, 2, []),
  (.iadd, 0, 0, 0, 0, []),
  (.iaload, 0, 0, 0, 0, []),
  (.invokevirtual 90, 220, 3, 12, 0, []),
  (.if_icmp .eq 215, 559, 0, 0, 0, []),
  (.iconst 0, 0, 0, 0, 0, []),
  (.ireturn, 1, 0, 0, 0, []),
  (.aload_n 1, 0, 0, 0, 0, []),
  (.aload_n 0, 0, 0, 0, 0, []),
  (.iload_n 3, 0, 0, 0, 0, []),
  (.iconst 1, 0, 0, 0, 1, []),
  (.iadd, 0, 0, 0, 0, []),
  (.iaload, 0, 0, 0, 0, []),
  (.invokevirtual 91, 106, 2, 11, 0, []),
  (.aload_n 2, 0, 0, 0, 0, []),
  (.aload_n 0, 0, 0, 0, 0, []),
  (.iload_n 3, 0, 0, 0, 0, []),
  (.iconst 1, 0, 0, 0, 1, []),
  (.iadd, 0, 0, 0, 0, []),
  (.iaload, 0, 0, 0, 0, []),
  (.invokevirtual 94, 221, 2, 12, 0, []),
  (.if_icmp .eq 192, 559, 0, 0, 0, []),
  (.iconst 0, 0, 0, 0, 0, []),
  (.ireturn, 1, 0, 0, 0, []),
  (.aload_n 1, 0, 0, 0, 0, []),
  (.aload_n 0, 0, 0, 0, 0, []),
  (.iload_n 3, 0, 0, 0, 0, []),
  (.iconst 1, 0, 0, 0, 1, []),
  (.iadd, 0, 0, 0, 0, []),
  (.iaload, 0, 0, 0, 0, []),
  (.invokevirtual 95, 110, 2, 11, 0, []),
  (.aload_n 2, 0, 0, 0, 0, []),
  (.aload_n 0, 0, 0, 0, 0, []),
  (.iload_n 3, 0, 0, 0, 0, []),
  (.iconst 1, 0, 0, 0, 1, []),
  (.iadd, 0, 0, 0, 0, []),
  (.iaload, 0, 0, 0, 0, []),
  (.invokevirtual 98, 224, 2, 12, 0, []),
  (.if_icmp .eq 169, 559, 0, 0, 0, []),
  (.iconst 0, 0, 0, 0, 0, []),
  (.ireturn, 1, 0, 0, 0, []),
  (.aload_n 1, 0, 0, 0, 0, []),
  (.invokevirtual 99, 111, 1, 11, 0, []),
  (.aload_n 2, 0, 0, 0, 0, []),
  (.invokevirtual 103, 225, 1, 12, 0, []),
  (.if_icmp .eq 156, 559, 0, 0, 0, []),
  (.iconst 0, 0, 0, 0, 0, []),
  (.ireturn, 1, 0, 0, 0, []),
  (.aload_n 1, 0, 0, 0, 0, []),
  (.invokevirtual 104, 112, 1, 11, 0, []),
  (.aload_n 2, 0, 0, 0, 0, []),
  (.invokevirtual 107, 226, 1, 12, 0, []),
  (.if_icmp .eq 143, 559, 0, 0, 0, []),
  (.iconst 0, 0, 0, 0, 0, []),
  (.ireturn, 1, 0, 0, 0, []),
  (.aload_n 1, 0, 0, 0, 0, []),
  (.invokevirtual 108, 114, 1, 11, 0, []),
  (.aload_n 2, 0, 0, 0, 0, []),
  (.invokevirtual 111, 229, 1, 12, 0, []),
  (.if_icmp .eq 130, 559, 0, 0, 0, []),
  (.iconst 0, 0, 0, 0, 0, []),
  (.ireturn, 1, 0, 0, 0, []),
  (.aload_n 1, 0, 0, 0, 0, []),
  (.invokevirtual 112, 115, 1, 11, 0, []),
  (.aload_n 2, 0, 0, 0, 0, []),
  (.invokevirtual 115, 212, 1, 12, 0, []),
  (.if_icmp .eq 117, 559, 0, 0, 0, []),
  (.iconst 0, 0, 0, 0, 0, []),
  (.ireturn, 1, 0, 0, 0, []),
  (.aload_n 1, 0, 0, 0, 0, []),
  (.aload_n 0, 0, 0, 0, 0, []),
  (.iload_n 3, 0, 0, 0, 0, []),
  (.iconst 1, 0, 0, 0, 1, []),
  (.iadd, 0, 0, 0, 0, []),
  (.iaload, 0, 0, 0, 0, []),
  (.aload_n 0, 0, 0, 0, 0, []),
  (.iload_n 3, 0, 0, 0, 0, []),
  (.iconst 2, 0, 0, 0, 2, []),
  (.iadd, 0, 0, 0, 0, []),
  (.iaload, 0, 0, 0, 0, []),
  (.aload_n 0, 0, 0, 0, 0, []),
  (.iload_n 3, 0, 0, 0, 0, []),
  (.iconst 3, 0, 0, 0, 3, []),
  (.iadd, 0, 0, 0, 0, []),
  (.iaload, 0, 0, 0, 0, []),
  (.invokevirtual 116, 117, 4, 11, 0, []),
  (.aload_n 2, 0, 0, 0, 0, []),
  (.aload_n 0, 0, 0, 0, 0, []),
  (.iload_n 3, 0, 0, 0, 0, []),
  (.iconst 1, 0, 0, 0, 1, []),
  (.iadd, 0, 0, 0, 0, []),
  (.iaload, 0, 0, 0, 0, []),
  (.aload_n 0, 0, 0, 0, 0, []),
  (.iload_n 3, 0, 0, 0, 0, []),
  (.iconst 2, 0, 0, 0, 2, []),
  (.iadd, 0, 0, 0, 0, []),
  (.iaload, 0, 0, 0, 0, []),
  (.aload_n 0, 0, 0, 0, 0, []),
  (.iload_n 3, 0, 0, 0, 0, []),
  (.iconst 3, 0, 0, 0, 3, []),
  (.iadd, 0, 0, 0, 0, []),
  (.iaload, 0, 0, 0, 0, []),
  (.invokevirtual 119, 230, 4, 12, 0, []),
  (.if_icmp .eq 74, 559, 0, 0, 0, []),
  (.iconst 0, 0, 0, 0, 0, []),
  (.ireturn, 1, 0, 0, 0, []),
  (.aload_n 1, 0, 0, 0, 0, []),
  (.aload_n 0, 0, 0, 0, 0, []),
  (.iload_n 3, 0, 0, 0, 0, []),
  (.iconst 1, 0, 0, 0, 1, []),
  (.iadd, 0, 0, 0, 0, []),
  (.iaload, 0, 0, 0, 0, []),
  (.invokevirtual 120, 126, 2, 11, 0, []),
  (.aload_n 2, 0, 0, 0, 0, []),
  (.aload_n 0, 0, 0, 0, 0, []),
  (.iload_n 3, 0, 0, 0, 0, []),
  (.iconst 1, 0, 0, 0, 1, []),
  (.iadd, 0, 0, 0, 0, []),
  (.iaload, 0, 0, 0, 0, []),
  (.invokevirtual 123, 233, 2, 12, 0, []),
  (.if_icmp .eq 51, 559, 0, 0, 0, []),
  (.iconst 0, 0, 0, 0, 0, []),
  (.ireturn, 1, 0, 0, 0, []),
  (.aload_n 1, 0, 0, 0, 0, []),
  (.aload_n 0, 0, 0, 0, 0, []),
  (.iload_n 3, 0, 0, 0, 0, []),
  (.iconst 1, 0, 0, 0, 1, []),
  (.iadd, 0, 0, 0, 0, []),
  (.iaload, 0, 0, 0, 0, []),
  (.invokevirtual 124, 128, 2, 11, 0, []),
  (.aload_n 2, 0, 0, 0, 0, []),
  (.aload_n 0, 0, 0, 0, 0, []),
  (.iload_n 3, 0, 0, 0, 0, []),
  (.iconst 1, 0, 0, 0, 1, []),
  (.iadd, 0, 0, 0, 0, []),
  (.iaload, 0, 0, 0, 0, []),
  (.invokevirtual 127, 234, 2, 12, 0, []),
  (.if_icmp .eq 28, 559, 0, 0, 0, []),
  (.iconst 0, 0, 0, 0, 0, []),
  (.ireturn, 1, 0, 0, 0, []),
  (.aload_n 1, 0, 0, 0, 0, []),
  (.aload_n 0, 0, 0, 0, 0, []),
  (.iload_n 3, 0, 0, 0, 0, []),
  (.iconst 1, 0, 0, 0, 1, []),
  (.iadd, 0, 0, 0, 0, []),
  (.iaload, 0, 0, 0, 0, []),
  (.invokevirtual 128, 130, 2, 11, 0, []),
  (.aload_n 2, 0, 0, 0, 0, []),
  (.aload_n 0, 0, 0, 0, 0, []),
  (.iload_n 3, 0, 0, 0, 0, []),
  (.iconst 1, 0, 0, 0, 1, []),
  (.iadd, 0, 0, 0, 0, []),
  (.iaload, 0, 0, 0, 0, []),
  (.invokevirtual 131, 236, 2, 12, 0, []),
  (.if_icmp .eq 5, 559, 0, 0, 0, []),
  (.iconst 0, 0, 0, 0, 0, []),
  (.ireturn, 1, 0, 0, 0, []),
  (.iinc 3 6, 0, 0, 0, 0, []),
  (.goto (-850), 10, 0, 0, 0, []),
  (.iconst 1, 0, 0, 0, 1, []),
  (.ireturn, 1, 0, 0, 0, [])]
/-- GrassCells.<init>()V -/
def qc_GC_init : List qI := [(.aload_n 0, 0, 0, 0, 0, []),
  (.invokespecial 1, 2, 1, 98, 0, []),
  (.aload_n 0, 0, 0, 0, 0, []),
  (.new 7, 7, 8, 0, 0, []),
  (.dup, 0, 0, 0, 0, []),
  (.invokespecial 9, 3, 1, 8, 0, []),
  (.putfield 10, 10, 0, 2, 0, []),
  (.aload_n 0, 0, 0, 0, 0, []),
  (.new 16, 0, 9, 0, 0, []),
  (.dup, 0, 0, 0, 0, []),
  (.invokespecial 18, 6, 1, 1, 0, []),
  (.putfield 19, 10, 1, 2, 0, []),
  (.aload_n 0, 0, 0, 0, 0, []),
  (.new 23, 2, 2, 0, 0, []),
  (.dup, 0, 0, 0, 0, []),
  (.invokespecial 25, 7, 1, 3, 0, []),
  (.putfield 26, 10, 2, 2, 0, []),
  (.aload_n 0, 0, 0, 0, 0, []),
  (.new 30, 5, 2, 0, 0, []),
  (.dup, 0, 0, 0, 0, []),
  (.invokespecial 32, 8, 1, 6, 0, []),
  (.putfield 33, 10, 3, 2, 0, []),
  (.aload_n 0, 0, 0, 0, 0, []),
  (.new 37, 6, 3, 0, 0, []),
  (.dup, 0, 0, 0, 0, []),
  (.invokespecial 39, 9, 1, 7, 0, []),
  (.putfield 40, 10, 4, 2, 0, []),
  (.aload_n 0, 0, 0, 0, 0, []),
  (.new 44, 1, 2, 0, 0, []),
  (.dup, 0, 0, 0, 0, []),
  (.invokespecial 46, 11, 1, 2, 0, []),
  (.putfield 47, 10, 5, 2, 0, []),
  (.aload_n 0, 0, 0, 0, 0, []),
  (.iconst 4, 0, 0, 0, 4, []),
  (.anewarray 51, 10, 0, 0, 0, []),
  (.putfield 53, 10, 6, 2, 0, []),
  (.aload_n 0, 0, 0, 0, 0, []),
  (.bipush 9, 0, 0, 0, 9, []),
  (.newarray .int, 1, 0, 0, 0, []),
  (.putfield 57, 10, 7, 2, 0, []),
  (.iconst 0, 0, 0, 0, 0, []),
  (.istore_n 1, 0, 0, 0, 0, []),
  (.iload_n 1, 0, 0, 0, 0, []),
  (.iconst 4, 0, 0, 0, 4, []),
  (.if_icmp .ge 22, 54, 0, 0, 0, []),
  (.aload_n 0, 0, 0, 0, 0, []),
  (.getfield 53, 10, 6, 2, 0, []),
  (.iload_n 1, 0, 0, 0, 0, []),
  (.new 51, 8, 4, 0, 0, []),
  (.dup, 0, 0, 0, 0, []),
  (.invokespecial 61, 12, 1, 9, 0, []),
  (.aastore, 0, 0, 0, 0, []),
  (.iinc 1 1, 0, 0, 0, 0, []),
  (.goto (-21), 42, 0, 0, 0, []),
  (.return_, 0, 0, 0, 0, [])]
/-- java/lang/Object.<init>()V -/
def qc_J_init : List qI := [(.return_, 0, 0, 0, 0, [])]
/-- GrassCells$Reader.<init>()V -/
def qc_Re_init : List qI := [(.aload_n 0, 0, 0, 0, 0, []),
  (.invokespecial 3, 2, 1, 98, 0, []),
  (.aload_n 0, 0, 0, 0, 0, []),
  (.new 9, 9, 2, 0, 0, []),
  (.dup, 0, 0, 0, 0, []),
  (.invokespecial 11, 4, 1, 10, 0, []),
  (.putfield 12, 7, 0, 2, 0, []),
  (.aload_n 0, 0, 0, 0, 0, []),
  (.new 18, 3, 8, 0, 0, []),
  (.dup, 0, 0, 0, 0, []),
  (.invokespecial 20, 5, 1, 4, 0, []),
  (.putfield 21, 7, 1, 2, 0, []),
  (.aload_n 0, 0, 0, 0, 0, []),
  (.bipush 9, 0, 0, 0, 9, []),
  (.newarray .int, 1, 0, 0, 0, []),
  (.putfield 25, 7, 2, 2, 0, []),
  (.aload_n 0, 0, 0, 0, 0, []),
  (.bipush 9, 0, 0, 0, 9, []),
  (.newarray .int, 1, 0, 0, 0, []),
  (.putfield 29, 7, 3, 2, 0, []),
  (.aload_n 0, 0, 0, 0, 0, []),
  (.bipush 9, 0, 0, 0, 9, []),
  (.newarray .int, 1, 0, 0, 0, []),
  (.putfield 32, 7, 6, 2, 0, []),
  (.return_, 0, 0, 0, 0, [])]
/-- GrassCells$Tape.<init>()V -/
def qc_Ta_init : List qI := [(.aload_n 0, 0, 0, 0, 0, []),
  (.invokespecial 3, 2, 1, 98, 0, []),
  (.aload_n 0, 0, 0, 0, 0, []),
  (.sipush 160, 0, 0, 0, 160, []),
  (.newarray .int, 1, 0, 0, 0, []),
  (.putfield 9, 9, 0, 2, 0, []),
  (.return_, 0, 0, 0, 0, [])]
/-- GrassCells$Diagram.<init>()V -/
def qc_Di_init : List qI := [(.aload_n 0, 0, 0, 0, 0, []),
  (.invokespecial 3, 2, 1, 98, 0, []),
  (.aload_n 0, 0, 0, 0, 0, []),
  (.bipush 9, 0, 0, 0, 9, []),
  (.newarray .int, 1, 0, 0, 0, []),
  (.putfield 9, 3, 2, 2, 0, []),
  (.aload_n 0, 0, 0, 0, 0, []),
  (.bipush 9, 0, 0, 0, 9, []),
  (.newarray .int, 1, 0, 0, 0, []),
  (.putfield 15, 3, 3, 2, 0, []),
  (.aload_n 0, 0, 0, 0, 0, []),
  (.bipush 9, 0, 0, 0, 9, []),
  (.newarray .int, 1, 0, 0, 0, []),
  (.putfield 18, 3, 4, 2, 0, []),
  (.aload_n 0, 0, 0, 0, 0, []),
  (.bipush 9, 0, 0, 0, 9, []),
  (.newarray .long, 4, 0, 0, 0, []),
  (.putfield 21, 3, 5, 2, 0, []),
  (.aload_n 0, 0, 0, 0, 0, []),
  (.bipush 9, 0, 0, 0, 9, []),
  (.bipush 9, 0, 0, 0, 9, []),
  (.multianewarray 25 2, 1, 4, 0, 0, []),
  (.putfield 27, 3, 6, 2, 0, []),
  (.aload_n 0, 0, 0, 0, 0, []),
  (.sipush 256, 0, 0, 0, 256, []),
  (.newarray .long, 4, 0, 0, 0, []),
  (.putfield 30, 3, 7, 2, 0, []),
  (.return_, 0, 0, 0, 0, [])]
/-- GrassCells$Cell.<init>()V -/
def qc_Ce_init : List qI := [(.aload_n 0, 0, 0, 0, 0, []),
  (.invokespecial 3, 2, 1, 98, 0, []),
  (.aload_n 0, 0, 0, 0, 0, []),
  (.bipush 9, 0, 0, 0, 9, []),
  (.newarray .int, 1, 0, 0, 0, []),
  (.putfield 9, 0, 4, 2, 0, []),
  (.aload_n 0, 0, 0, 0, 0, []),
  (.bipush 9, 0, 0, 0, 9, []),
  (.newarray .int, 1, 0, 0, 0, []),
  (.putfield 15, 0, 5, 2, 0, []),
  (.aload_n 0, 0, 0, 0, 0, []),
  (.bipush 70, 0, 0, 0, 70, []),
  (.newarray .int, 1, 0, 0, 0, []),
  (.putfield 18, 0, 6, 2, 0, []),
  (.aload_n 0, 0, 0, 0, 0, []),
  (.new 21, 3, 8, 0, 0, []),
  (.dup, 0, 0, 0, 0, []),
  (.invokespecial 23, 5, 1, 4, 0, []),
  (.putfield 24, 0, 7, 2, 0, []),
  (.aload_n 0, 0, 0, 0, 0, []),
  (.sipush 256, 0, 0, 0, 256, []),
  (.newarray .boolean, 3, 0, 0, 0, []),
  (.putfield 28, 0, 8, 2, 0, []),
  (.return_, 0, 0, 0, 0, [])]
/-- GrassCells$Collection.<init>()V -/
def qc_Co_init : List qI := [(.aload_n 0, 0, 0, 0, 0, []),
  (.invokespecial 3, 2, 1, 98, 0, []),
  (.aload_n 0, 0, 0, 0, 0, []),
  (.bipush 70, 0, 0, 0, 70, []),
  (.newarray .int, 1, 0, 0, 0, []),
  (.putfield 9, 2, 0, 2, 0, []),
  (.return_, 0, 0, 0, 0, [])]
/-- GrassCells$Neighbours.<init>()V -/
def qc_Ne_init : List qI := [(.aload_n 0, 0, 0, 0, 0, []),
  (.invokespecial 3, 2, 1, 98, 0, []),
  (.aload_n 0, 0, 0, 0, 0, []),
  (.bipush 9, 0, 0, 0, 9, []),
  (.newarray .int, 1, 0, 0, 0, []),
  (.putfield 9, 5, 0, 2, 0, []),
  (.return_, 0, 0, 0, 0, [])]
/-- GrassCells$Past.<init>()V -/
def qc_Pa_init : List qI := [(.aload_n 0, 0, 0, 0, 0, []),
  (.invokespecial 3, 2, 1, 98, 0, []),
  (.aload_n 0, 0, 0, 0, 0, []),
  (.bipush 20, 0, 0, 0, 20, []),
  (.anewarray 9, 6, 0, 0, 0, []),
  (.putfield 11, 6, 0, 2, 0, []),
  (.iconst 0, 0, 0, 0, 0, []),
  (.istore_n 1, 0, 0, 0, 0, []),
  (.iload_n 1, 0, 0, 0, 0, []),
  (.bipush 20, 0, 0, 0, 20, []),
  (.if_icmp .ge 22, 20, 0, 0, 0, []),
  (.aload_n 0, 0, 0, 0, 0, []),
  (.getfield 11, 6, 0, 2, 0, []),
  (.iload_n 1, 0, 0, 0, 0, []),
  (.new 9, 4, 3, 0, 0, []),
  (.dup, 0, 0, 0, 0, []),
  (.invokespecial 17, 10, 1, 5, 0, []),
  (.aastore, 0, 0, 0, 0, []),
  (.iinc 1 1, 0, 0, 0, 0, []),
  (.goto (-22), 8, 0, 0, 0, []),
  (.return_, 0, 0, 0, 0, [])]
/-- GrassCells$Moment.<init>()V -/
def qc_Mo_init : List qI := [(.aload_n 0, 0, 0, 0, 0, []),
  (.invokespecial 3, 2, 1, 98, 0, []),
  (.aload_n 0, 0, 0, 0, 0, []),
  (.bipush 9, 0, 0, 0, 9, []),
  (.newarray .int, 1, 0, 0, 0, []),
  (.putfield 9, 4, 0, 2, 0, []),
  (.aload_n 0, 0, 0, 0, 0, []),
  (.new 15, 2, 2, 0, 0, []),
  (.dup, 0, 0, 0, 0, []),
  (.invokespecial 17, 7, 1, 3, 0, []),
  (.putfield 18, 4, 1, 2, 0, []),
  (.return_, 0, 0, 0, 0, [])]
/-- GrassCells$Census.<init>()V -/
def qc_Cs_init : List qI := [(.aload_n 0, 0, 0, 0, 0, []),
  (.invokespecial 1, 2, 1, 98, 0, []),
  (.aload_n 0, 0, 0, 0, 0, []),
  (.bipush 16, 0, 0, 0, 16, []),
  (.bipush 13, 0, 0, 0, 13, []),
  (.multianewarray 9 2, 0, 1, 0, 0, []),
  (.putfield 11, 1, 0, 2, 0, []),
  (.aload_n 0, 0, 0, 0, 0, []),
  (.bipush 16, 0, 0, 0, 16, []),
  (.bipush 13, 0, 0, 0, 13, []),
  (.multianewarray 9 2, 0, 1, 0, 0, []),
  (.putfield 14, 1, 1, 2, 0, []),
  (.return_, 0, 0, 0, 0, [])]
/-- GrassCells$Shelf.<init>()V -/
def qc_Sh_init : List qI := [(.aload_n 0, 0, 0, 0, 0, []),
  (.invokespecial 3, 2, 1, 98, 0, []),
  (.aload_n 0, 0, 0, 0, 0, []),
  (.bipush 70, 0, 0, 0, 70, []),
  (.newarray .int, 1, 0, 0, 0, []),
  (.putfield 9, 8, 3, 2, 0, []),
  (.return_, 0, 0, 0, 0, [])]
/-- GrassCells.feed(IIIII)I -/
def qc_GC_feed : List qI := [(.aload_n 0, 0, 0, 0, 0, []),
  (.getfield 10, 10, 0, 2, 0, []),
  (.getfield 62, 7, 0, 2, 0, []),
  (.getfield 66, 9, 1, 0, 0, []),
  (.bipush 20, 0, 0, 0, 20, []),
  (.iadd, 0, 0, 0, 0, []),
  (.sipush 160, 0, 0, 0, 160, []),
  (.if_icmp .le 5, 10, 0, 0, 0, []),
  (.iconst (-1), 0, 0, 0, (-1), []),
  (.ireturn, 0, 0, 0, 0, []),
  (.aload_n 0, 0, 0, 0, 0, []),
  (.getfield 10, 10, 0, 2, 0, []),
  (.getfield 62, 7, 0, 2, 0, []),
  (.iload_n 1, 0, 0, 0, 0, []),
  (.invokevirtual 72, 14, 2, 10, 0, []),
  (.aload_n 0, 0, 0, 0, 0, []),
  (.getfield 10, 10, 0, 2, 0, []),
  (.getfield 62, 7, 0, 2, 0, []),
  (.iload_n 2, 0, 0, 0, 0, []),
  (.invokevirtual 72, 14, 2, 10, 0, []),
  (.aload_n 0, 0, 0, 0, 0, []),
  (.getfield 10, 10, 0, 2, 0, []),
  (.getfield 62, 7, 0, 2, 0, []),
  (.iload_n 3, 0, 0, 0, 0, []),
  (.invokevirtual 72, 14, 2, 10, 0, []),
  (.aload_n 0, 0, 0, 0, 0, []),
  (.getfield 10, 10, 0, 2, 0, []),
  (.getfield 62, 7, 0, 2, 0, []),
  (.iload 4, 0, 0, 0, 0, []),
  (.invokevirtual 72, 14, 2, 10, 0, []),
  (.aload_n 0, 0, 0, 0, 0, []),
  (.getfield 10, 10, 0, 2, 0, []),
  (.getfield 62, 7, 0, 2, 0, []),
  (.iload 5, 0, 0, 0, 0, []),
  (.invokevirtual 72, 14, 2, 10, 0, []),
  (.aload_n 0, 0, 0, 0, 0, []),
  (.getfield 10, 10, 0, 2, 0, []),
  (.getfield 62, 7, 0, 2, 0, []),
  (.getfield 66, 9, 1, 0, 0, []),
  (.ireturn, 0, 0, 0, 0, [])]
/-- GrassCells$Tape.append(I)V -/
def qc_Ta_append : List qI := [(.bipush 24, 0, 0, 0, 24, []),
  (.istore_n 2, 0, 0, 0, 0, []),
  (.iload_n 2, 0, 0, 0, 0, []),
  (.ifCond .lt 45, 26, 0, 0, 0, []),
  (.aload_n 0, 0, 0, 0, 0, []),
  (.getfield 15, 9, 1, 0, 0, []),
  (.sipush 160, 0, 0, 0, 160, []),
  (.if_icmp .ge 35, 26, 0, 0, 0, []),
  (.aload_n 0, 0, 0, 0, 0, []),
  (.getfield 9, 9, 0, 2, 0, []),
  (.aload_n 0, 0, 0, 0, 0, []),
  (.getfield 15, 9, 1, 0, 0, []),
  (.iload_n 1, 0, 0, 0, 0, []),
  (.iload_n 2, 0, 0, 0, 0, []),
  (.iushr, 0, 0, 0, 0, []),
  (.sipush 255, 0, 0, 0, 255, []),
  (.iand, 0, 0, 0, 0, []),
  (.iastore, 0, 0, 0, 0, []),
  (.aload_n 0, 0, 0, 0, 0, []),
  (.dup, 0, 0, 0, 0, []),
  (.getfield 15, 9, 1, 0, 0, []),
  (.iconst 1, 0, 0, 0, 1, []),
  (.iadd, 0, 0, 0, 0, []),
  (.putfield 15, 9, 1, 0, 0, []),
  (.iinc 2 (-8), 0, 0, 0, 0, []),
  (.goto (-43), 2, 0, 0, 0, []),
  (.return_, 0, 0, 0, 0, [])]
/-- GrassCells.end(I)I -/
def qc_GC_end : List qI := [(.iload_n 1, 0, 0, 0, 0, []),
  (.ifCond .lt 17, 8, 0, 0, 0, []),
  (.iload_n 1, 0, 0, 0, 0, []),
  (.aload_n 0, 0, 0, 0, 0, []),
  (.getfield 10, 10, 0, 2, 0, []),
  (.getfield 62, 7, 0, 2, 0, []),
  (.getfield 66, 9, 1, 0, 0, []),
  (.if_icmp .le 5, 10, 0, 0, 0, []),
  (.iconst (-1), 0, 0, 0, (-1), []),
  (.ireturn, 0, 0, 0, 0, []),
  (.aload_n 0, 0, 0, 0, 0, []),
  (.getfield 10, 10, 0, 2, 0, []),
  (.getfield 62, 7, 0, 2, 0, []),
  (.iload_n 1, 0, 0, 0, 0, []),
  (.putfield 66, 9, 1, 0, 0, []),
  (.iload_n 1, 0, 0, 0, 0, []),
  (.ireturn, 0, 0, 0, 0, [])]
/-- GrassCells.cell()I -/
def qc_GC_cell : List qI := [(.aload_n 0, 0, 0, 0, 0, []),
  (.getfield 10, 10, 0, 2, 0, []),
  (.invokevirtual 76, 17, 1, 8, 0, []),
  (.istore_n 1, 0, 0, 0, 0, []),
  (.aload_n 0, 0, 0, 0, 0, []),
  (.getfield 10, 10, 0, 2, 0, []),
  (.getfield 62, 7, 0, 2, 0, []),
  (.iconst 0, 0, 0, 0, 0, []),
  (.putfield 66, 9, 1, 0, 0, []),
  (.iload_n 1, 0, 0, 0, 0, []),
  (.ifCond .eq 8, 15, 0, 0, 0, []),
  (.bipush (-2), 0, 0, 0, (-2), []),
  (.iload_n 1, 0, 0, 0, 0, []),
  (.isub, 0, 0, 0, 0, []),
  (.ireturn, 0, 0, 0, 0, []),
  (.aload_n 0, 0, 0, 0, 0, []),
  (.aload_n 0, 0, 0, 0, 0, []),
  (.getfield 10, 10, 0, 2, 0, []),
  (.getfield 80, 7, 7, 0, 0, []),
  (.aload_n 0, 0, 0, 0, 0, []),
  (.getfield 10, 10, 0, 2, 0, []),
  (.getfield 83, 7, 6, 2, 0, []),
  (.invokevirtual 86, 52, 3, 11, 0, []),
  (.aload_n 0, 0, 0, 0, 0, []),
  (.getfield 19, 10, 1, 2, 0, []),
  (.getfield 90, 0, 0, 0, 0, []),
  (.ireturn, 0, 0, 0, 0, [])]
/-- GrassCells$Reader.read()I -/
def qc_Re_read : List qI := [(.aload_n 0, 0, 0, 0, 0, []),
  (.iconst 0, 0, 0, 0, 0, []),
  (.putfield 35, 7, 4, 0, 0, []),
  (.aload_n 0, 0, 0, 0, 0, []),
  (.iconst 0, 0, 0, 0, 0, []),
  (.putfield 39, 7, 7, 0, 0, []),
  (.aload_n 0, 0, 0, 0, 0, []),
  (.iconst 0, 0, 0, 0, 0, []),
  (.putfield 42, 7, 5, 0, 0, []),
  (.aload_n 0, 0, 0, 0, 0, []),
  (.invokevirtual 45, 18, 1, 8, 0, []),
  (.aload_n 0, 0, 0, 0, 0, []),
  (.getfield 35, 7, 4, 0, 0, []),
  (.istore_n 1, 0, 0, 0, 0, []),
  (.aload_n 0, 0, 0, 0, 0, []),
  (.getfield 35, 7, 4, 0, 0, []),
  (.aload_n 0, 0, 0, 0, 0, []),
  (.getfield 12, 7, 0, 2, 0, []),
  (.getfield 48, 9, 1, 0, 0, []),
  (.if_icmp .ge 30, 33, 0, 0, 0, []),
  (.aload_n 0, 0, 0, 0, 0, []),
  (.getfield 12, 7, 0, 2, 0, []),
  (.aload_n 0, 0, 0, 0, 0, []),
  (.getfield 35, 7, 4, 0, 0, []),
  (.invokevirtual 49, 20, 2, 10, 0, []),
  (.ifCond .eq 16, 33, 0, 0, 0, []),
  (.aload_n 0, 0, 0, 0, 0, []),
  (.dup, 0, 0, 0, 0, []),
  (.getfield 35, 7, 4, 0, 0, []),
  (.iconst 1, 0, 0, 0, 1, []),
  (.iadd, 0, 0, 0, 0, []),
  (.putfield 35, 7, 4, 0, 0, []),
  (.goto (-38), 14, 0, 0, 0, []),
  (.aload_n 0, 0, 0, 0, 0, []),
  (.getfield 35, 7, 4, 0, 0, []),
  (.iload_n 1, 0, 0, 0, 0, []),
  (.isub, 0, 0, 0, 0, []),
  (.iconst 4, 0, 0, 0, 4, []),
  (.if_icmp .ne 14, 44, 0, 0, 0, []),
  (.aload_n 0, 0, 0, 0, 0, []),
  (.getfield 12, 7, 0, 2, 0, []),
  (.iload_n 1, 0, 0, 0, 0, []),
  (.invokevirtual 53, 21, 2, 10, 0, []),
  (.goto 4, 45, 0, 0, 0, []),
  (.iconst 0, 0, 0, 0, 0, []),
  (.istore_n 2, 0, 0, 0, 0, []),
  (.aload_n 0, 0, 0, 0, 0, []),
  (.invokevirtual 45, 18, 1, 8, 0, []),
  (.iload_n 2, 0, 0, 0, 0, []),
  (.lookupswitch 50 #[(1718185068, 40), (1852138347, 45), (1885696621, 35)], 59, 0, 0, 0, [(1718185068, 53), (1852138347, 56), (1885696621, 50)]),
  (.aload_n 0, 0, 0, 0, 0, []),
  (.invokevirtual 57, 22, 1, 8, 0, []),
  (.ireturn, 0, 0, 0, 0, []),
  (.aload_n 0, 0, 0, 0, 0, []),
  (.invokevirtual 61, 28, 1, 8, 0, []),
  (.ireturn, 0, 0, 0, 0, []),
  (.aload_n 0, 0, 0, 0, 0, []),
  (.invokevirtual 64, 43, 1, 8, 0, []),
  (.ireturn, 0, 0, 0, 0, []),
  (.aload_n 0, 0, 0, 0, 0, []),
  (.iload_n 1, 0, 0, 0, 0, []),
  (.iconst 1, 0, 0, 0, 1, []),
  (.invokevirtual 67, 25, 3, 8, 0, []),
  (.ireturn, 0, 0, 0, 0, [])]
/-- GrassCells$Reader.skipBlanks()V -/
def qc_Re_skipBlanks : List qI := [(.aload_n 0, 0, 0, 0, 0, []),
  (.getfield 35, 7, 4, 0, 0, []),
  (.aload_n 0, 0, 0, 0, 0, []),
  (.getfield 12, 7, 0, 2, 0, []),
  (.getfield 48, 9, 1, 0, 0, []),
  (.if_icmp .ge 32, 20, 0, 0, 0, []),
  (.aload_n 0, 0, 0, 0, 0, []),
  (.getfield 12, 7, 0, 2, 0, []),
  (.aload_n 0, 0, 0, 0, 0, []),
  (.getfield 35, 7, 4, 0, 0, []),
  (.invokevirtual 71, 19, 2, 10, 0, []),
  (.bipush 32, 0, 0, 0, 32, []),
  (.if_icmp .ne 16, 20, 0, 0, 0, []),
  (.aload_n 0, 0, 0, 0, 0, []),
  (.dup, 0, 0, 0, 0, []),
  (.getfield 35, 7, 4, 0, 0, []),
  (.iconst 1, 0, 0, 0, 1, []),
  (.iadd, 0, 0, 0, 0, []),
  (.putfield 35, 7, 4, 0, 0, []),
  (.goto (-40), 0, 0, 0, 0, []),
  (.return_, 0, 0, 0, 0, [])]
/-- GrassCells$Tape.at(I)I -/
def qc_Ta_at : List qI := [(.iload_n 1, 0, 0, 0, 0, []),
  (.ifCond .lt 20, 11, 0, 0, 0, []),
  (.iload_n 1, 0, 0, 0, 0, []),
  (.aload_n 0, 0, 0, 0, 0, []),
  (.getfield 15, 9, 1, 0, 0, []),
  (.if_icmp .ge 12, 11, 0, 0, 0, []),
  (.aload_n 0, 0, 0, 0, 0, []),
  (.getfield 9, 9, 0, 2, 0, []),
  (.iload_n 1, 0, 0, 0, 0, []),
  (.iaload, 0, 0, 0, 0, []),
  (.goto 4, 12, 0, 0, 0, []),
  (.iconst (-1), 0, 0, 0, (-1), []),
  (.ireturn, 0, 0, 0, 0, [])]
/-- GrassCells$Tape.isSmallLetter(I)Z -/
def qc_Ta_isSmallLetter : List qI := [(.aload_n 0, 0, 0, 0, 0, []),
  (.iload_n 1, 0, 0, 0, 0, []),
  (.invokevirtual 19, 19, 2, 10, 0, []),
  (.bipush 97, 0, 0, 0, 97, []),
  (.if_icmp .lt 17, 12, 0, 0, 0, []),
  (.aload_n 0, 0, 0, 0, 0, []),
  (.iload_n 1, 0, 0, 0, 0, []),
  (.invokevirtual 19, 19, 2, 10, 0, []),
  (.bipush 122, 0, 0, 0, 122, []),
  (.if_icmp .gt 7, 12, 0, 0, 0, []),
  (.iconst 1, 0, 0, 0, 1, []),
  (.goto 4, 13, 0, 0, 0, []),
  (.iconst 0, 0, 0, 0, 0, []),
  (.ireturn, 1, 0, 0, 0, [])]
/-- GrassCells$Tape.fourBytes(I)I -/
def qc_Ta_fourBytes : List qI := [(.aload_n 0, 0, 0, 0, 0, []),
  (.iload_n 1, 0, 0, 0, 0, []),
  (.invokevirtual 19, 19, 2, 10, 0, []),
  (.bipush 24, 0, 0, 0, 24, []),
  (.ishl, 0, 0, 0, 0, []),
  (.aload_n 0, 0, 0, 0, 0, []),
  (.iload_n 1, 0, 0, 0, 0, []),
  (.iconst 1, 0, 0, 0, 1, []),
  (.iadd, 0, 0, 0, 0, []),
  (.invokevirtual 19, 19, 2, 10, 0, []),
  (.bipush 16, 0, 0, 0, 16, []),
  (.ishl, 0, 0, 0, 0, []),
  (.ior, 0, 0, 0, 0, []),
  (.aload_n 0, 0, 0, 0, 0, []),
  (.iload_n 1, 0, 0, 0, 0, []),
  (.iconst 2, 0, 0, 0, 2, []),
  (.iadd, 0, 0, 0, 0, []),
  (.invokevirtual 19, 19, 2, 10, 0, []),
  (.bipush 8, 0, 0, 0, 8, []),
  (.ishl, 0, 0, 0, 0, []),
  (.ior, 0, 0, 0, 0, []),
  (.aload_n 0, 0, 0, 0, 0, []),
  (.iload_n 1, 0, 0, 0, 0, []),
  (.iconst 3, 0, 0, 0, 3, []),
  (.iadd, 0, 0, 0, 0, []),
  (.invokevirtual 19, 19, 2, 10, 0, []),
  (.ior, 0, 0, 0, 0, []),
  (.ireturn, 0, 0, 0, 0, [])]
/-- GrassCells$Reader.readNumbers()I -/
def qc_Re_readNumbers : List qI := [(.aload_n 0, 0, 0, 0, 0, []),
  (.iconst 0, 0, 0, 0, 0, []),
  (.putfield 39, 7, 7, 0, 0, []),
  (.aload_n 0, 0, 0, 0, 0, []),
  (.getfield 35, 7, 4, 0, 0, []),
  (.aload_n 0, 0, 0, 0, 0, []),
  (.getfield 12, 7, 0, 2, 0, []),
  (.getfield 48, 9, 1, 0, 0, []),
  (.if_icmp .ge 52, 35, 0, 0, 0, []),
  (.aload_n 0, 0, 0, 0, 0, []),
  (.getfield 39, 7, 7, 0, 0, []),
  (.bipush 8, 0, 0, 0, 8, []),
  (.if_icmp .eq 16, 20, 0, 0, 0, []),
  (.aload_n 0, 0, 0, 0, 0, []),
  (.aload_n 0, 0, 0, 0, 0, []),
  (.getfield 39, 7, 7, 0, 0, []),
  (.iconst 1, 0, 0, 0, 1, []),
  (.iadd, 0, 0, 0, 0, []),
  (.invokevirtual 74, 23, 2, 8, 0, []),
  (.ifCond .ne 13, 26, 0, 0, 0, []),
  (.aload_n 0, 0, 0, 0, 0, []),
  (.aload_n 0, 0, 0, 0, 0, []),
  (.getfield 35, 7, 4, 0, 0, []),
  (.iconst 1, 0, 0, 0, 1, []),
  (.invokevirtual 67, 25, 3, 8, 0, []),
  (.ireturn, 0, 0, 0, 0, []),
  (.aload_n 0, 0, 0, 0, 0, []),
  (.invokevirtual 45, 18, 1, 8, 0, []),
  (.aload_n 0, 0, 0, 0, 0, []),
  (.dup, 0, 0, 0, 0, []),
  (.getfield 39, 7, 7, 0, 0, []),
  (.iconst 1, 0, 0, 0, 1, []),
  (.iadd, 0, 0, 0, 0, []),
  (.putfield 39, 7, 7, 0, 0, []),
  (.goto (-60), 3, 0, 0, 0, []),
  (.aload_n 0, 0, 0, 0, 0, []),
  (.getfield 39, 7, 7, 0, 0, []),
  (.iconst 2, 0, 0, 0, 2, []),
  (.if_icmp .ge 15, 45, 0, 0, 0, []),
  (.aload_n 0, 0, 0, 0, 0, []),
  (.aload_n 0, 0, 0, 0, 0, []),
  (.getfield 35, 7, 4, 0, 0, []),
  (.iconst 1, 0, 0, 0, 1, []),
  (.invokevirtual 67, 25, 3, 8, 0, []),
  (.goto 7, 47, 0, 0, 0, []),
  (.aload_n 0, 0, 0, 0, 0, []),
  (.invokevirtual 77, 26, 1, 8, 0, []),
  (.ireturn, 0, 0, 0, 0, [])]
/-- GrassCells$Reader.readNumber(I)Z -/
def qc_Re_readNumber : List qI := [(.iconst 0, 0, 0, 0, 0, []),
  (.istore_n 2, 0, 0, 0, 0, []),
  (.iconst 0, 0, 0, 0, 0, []),
  (.istore_n 3, 0, 0, 0, 0, []),
  (.iload_n 2, 0, 0, 0, 0, []),
  (.iconst 3, 0, 0, 0, 3, []),
  (.if_icmp .ge 47, 31, 0, 0, 0, []),
  (.aload_n 0, 0, 0, 0, 0, []),
  (.getfield 12, 7, 0, 2, 0, []),
  (.aload_n 0, 0, 0, 0, 0, []),
  (.getfield 35, 7, 4, 0, 0, []),
  (.iload_n 2, 0, 0, 0, 0, []),
  (.iadd, 0, 0, 0, 0, []),
  (.invokevirtual 80, 24, 2, 10, 0, []),
  (.ifCond .eq 31, 31, 0, 0, 0, []),
  (.bipush 10, 0, 0, 0, 10, []),
  (.iload_n 3, 0, 0, 0, 0, []),
  (.imul, 0, 0, 0, 0, []),
  (.aload_n 0, 0, 0, 0, 0, []),
  (.getfield 12, 7, 0, 2, 0, []),
  (.aload_n 0, 0, 0, 0, 0, []),
  (.getfield 35, 7, 4, 0, 0, []),
  (.iload_n 2, 0, 0, 0, 0, []),
  (.iadd, 0, 0, 0, 0, []),
  (.invokevirtual 71, 19, 2, 10, 0, []),
  (.iadd, 0, 0, 0, 0, []),
  (.bipush 48, 0, 0, 0, 48, []),
  (.isub, 0, 0, 0, 0, []),
  (.istore_n 3, 0, 0, 0, 0, []),
  (.iinc 2 1, 0, 0, 0, 0, []),
  (.goto (-46), 4, 0, 0, 0, []),
  (.iload_n 2, 0, 0, 0, 0, []),
  (.ifCond .eq 8, 36, 0, 0, 0, []),
  (.iload_n 2, 0, 0, 0, 0, []),
  (.iconst 3, 0, 0, 0, 3, []),
  (.if_icmp .ne 5, 38, 0, 0, 0, []),
  (.iconst 0, 0, 0, 0, 0, []),
  (.ireturn, 1, 0, 0, 0, []),
  (.aload_n 0, 0, 0, 0, 0, []),
  (.getfield 32, 7, 6, 2, 0, []),
  (.iload_n 1, 0, 0, 0, 0, []),
  (.iload_n 3, 0, 0, 0, 0, []),
  (.iastore, 0, 0, 0, 0, []),
  (.aload_n 0, 0, 0, 0, 0, []),
  (.getfield 29, 7, 3, 2, 0, []),
  (.iload_n 1, 0, 0, 0, 0, []),
  (.aload_n 0, 0, 0, 0, 0, []),
  (.getfield 35, 7, 4, 0, 0, []),
  (.iastore, 0, 0, 0, 0, []),
  (.aload_n 0, 0, 0, 0, 0, []),
  (.dup, 0, 0, 0, 0, []),
  (.getfield 35, 7, 4, 0, 0, []),
  (.iload_n 2, 0, 0, 0, 0, []),
  (.iadd, 0, 0, 0, 0, []),
  (.putfield 35, 7, 4, 0, 0, []),
  (.iconst 1, 0, 0, 0, 1, []),
  (.ireturn, 1, 0, 0, 0, [])]
/-- GrassCells$Tape.isDigit(I)Z -/
def qc_Ta_isDigit : List qI := [(.aload_n 0, 0, 0, 0, 0, []),
  (.iload_n 1, 0, 0, 0, 0, []),
  (.invokevirtual 19, 19, 2, 10, 0, []),
  (.bipush 48, 0, 0, 0, 48, []),
  (.if_icmp .lt 17, 12, 0, 0, 0, []),
  (.aload_n 0, 0, 0, 0, 0, []),
  (.iload_n 1, 0, 0, 0, 0, []),
  (.invokevirtual 19, 19, 2, 10, 0, []),
  (.bipush 57, 0, 0, 0, 57, []),
  (.if_icmp .gt 7, 12, 0, 0, 0, []),
  (.iconst 1, 0, 0, 0, 1, []),
  (.goto 4, 13, 0, 0, 0, []),
  (.iconst 0, 0, 0, 0, 0, []),
  (.ireturn, 1, 0, 0, 0, [])]
/-- GrassCells$Reader.fault(II)I -/
def qc_Re_fault : List qI := [(.bipush 8, 0, 0, 0, 8, []),
  (.iload_n 1, 0, 0, 0, 0, []),
  (.imul, 0, 0, 0, 0, []),
  (.iload_n 2, 0, 0, 0, 0, []),
  (.iadd, 0, 0, 0, 0, []),
  (.ireturn, 0, 0, 0, 0, [])]
/-- GrassCells$Reader.faultOfNumbers()I -/
def qc_Re_faultOfNumbers : List qI := [(.iconst 1, 0, 0, 0, 1, []),
  (.istore_n 1, 0, 0, 0, 0, []),
  (.iload_n 1, 0, 0, 0, 0, []),
  (.aload_n 0, 0, 0, 0, 0, []),
  (.getfield 39, 7, 7, 0, 0, []),
  (.if_icmp .gt 41, 27, 0, 0, 0, []),
  (.aload_n 0, 0, 0, 0, 0, []),
  (.getfield 32, 7, 6, 2, 0, []),
  (.iload_n 1, 0, 0, 0, 0, []),
  (.iaload, 0, 0, 0, 0, []),
  (.ifCond .eq 14, 17, 0, 0, 0, []),
  (.aload_n 0, 0, 0, 0, 0, []),
  (.getfield 32, 7, 6, 2, 0, []),
  (.iload_n 1, 0, 0, 0, 0, []),
  (.iaload, 0, 0, 0, 0, []),
  (.bipush 16, 0, 0, 0, 16, []),
  (.if_icmp .le 15, 25, 0, 0, 0, []),
  (.aload_n 0, 0, 0, 0, 0, []),
  (.aload_n 0, 0, 0, 0, 0, []),
  (.getfield 29, 7, 3, 2, 0, []),
  (.iload_n 1, 0, 0, 0, 0, []),
  (.iaload, 0, 0, 0, 0, []),
  (.iconst 2, 0, 0, 0, 2, []),
  (.invokevirtual 67, 25, 3, 8, 0, []),
  (.ireturn, 0, 0, 0, 0, []),
  (.iinc 1 1, 0, 0, 0, 0, []),
  (.goto (-43), 2, 0, 0, 0, []),
  (.iconst 0, 0, 0, 0, 0, []),
  (.istore_n 1, 0, 0, 0, 0, []),
  (.iconst 1, 0, 0, 0, 1, []),
  (.istore_n 2, 0, 0, 0, 0, []),
  (.iload_n 2, 0, 0, 0, 0, []),
  (.aload_n 0, 0, 0, 0, 0, []),
  (.getfield 39, 7, 7, 0, 0, []),
  (.if_icmp .gt 105, 97, 0, 0, 0, []),
  (.aload_n 0, 0, 0, 0, 0, []),
  (.getfield 32, 7, 6, 2, 0, []),
  (.iload_n 2, 0, 0, 0, 0, []),
  (.iaload, 0, 0, 0, 0, []),
  (.iload_n 2, 0, 0, 0, 0, []),
  (.if_icmp .lt 18, 50, 0, 0, 0, []),
  (.aload_n 0, 0, 0, 0, 0, []),
  (.getfield 32, 7, 6, 2, 0, []),
  (.iload_n 2, 0, 0, 0, 0, []),
  (.iaload, 0, 0, 0, 0, []),
  (.iload_n 2, 0, 0, 0, 0, []),
  (.aload_n 0, 0, 0, 0, 0, []),
  (.getfield 39, 7, 7, 0, 0, []),
  (.iadd, 0, 0, 0, 0, []),
  (.if_icmp .le 15, 58, 0, 0, 0, []),
  (.aload_n 0, 0, 0, 0, 0, []),
  (.aload_n 0, 0, 0, 0, 0, []),
  (.getfield 29, 7, 3, 2, 0, []),
  (.iload_n 2, 0, 0, 0, 0, []),
  (.iaload, 0, 0, 0, 0, []),
  (.iconst 3, 0, 0, 0, 3, []),
  (.invokevirtual 67, 25, 3, 8, 0, []),
  (.ireturn, 0, 0, 0, 0, []),
  (.aload_n 0, 0, 0, 0, 0, []),
  (.getfield 32, 7, 6, 2, 0, []),
  (.iload_n 2, 0, 0, 0, 0, []),
  (.iaload, 0, 0, 0, 0, []),
  (.aload_n 0, 0, 0, 0, 0, []),
  (.getfield 39, 7, 7, 0, 0, []),
  (.if_icmp .le 17, 73, 0, 0, 0, []),
  (.aload_n 0, 0, 0, 0, 0, []),
  (.getfield 32, 7, 6, 2, 0, []),
  (.iload_n 2, 0, 0, 0, 0, []),
  (.iaload, 0, 0, 0, 0, []),
  (.aload_n 0, 0, 0, 0, 0, []),
  (.getfield 39, 7, 7, 0, 0, []),
  (.isub, 0, 0, 0, 0, []),
  (.goto 9, 77, 0, 0, 0, []),
  (.aload_n 0, 0, 0, 0, 0, []),
  (.getfield 32, 7, 6, 2, 0, []),
  (.iload_n 2, 0, 0, 0, 0, []),
  (.iaload, 0, 0, 0, 0, []),
  (.invokestatic 83, 27, 1, 0, 0, []),
  (.istore_n 3, 0, 0, 0, 0, []),
  (.iload_n 1, 0, 0, 0, 0, []),
  (.iload_n 3, 0, 0, 0, 0, []),
  (.iand, 0, 0, 0, 0, []),
  (.ifCond .eq 15, 91, 0, 0, 0, []),
  (.aload_n 0, 0, 0, 0, 0, []),
  (.aload_n 0, 0, 0, 0, 0, []),
  (.getfield 29, 7, 3, 2, 0, []),
  (.iload_n 2, 0, 0, 0, 0, []),
  (.iaload, 0, 0, 0, 0, []),
  (.iconst 3, 0, 0, 0, 3, []),
  (.invokevirtual 67, 25, 3, 8, 0, []),
  (.ireturn, 0, 0, 0, 0, []),
  (.iload_n 1, 0, 0, 0, 0, []),
  (.iload_n 3, 0, 0, 0, 0, []),
  (.ior, 0, 0, 0, 0, []),
  (.istore_n 1, 0, 0, 0, 0, []),
  (.iinc 2 1, 0, 0, 0, 0, []),
  (.goto (-107), 31, 0, 0, 0, []),
  (.iconst 0, 0, 0, 0, 0, []),
  (.ireturn, 0, 0, 0, 0, [])]
/-- GrassCells$Sets.only(I)I -/
def qc_Se_only : List qI := [(.iconst 1, 0, 0, 0, 1, []),
  (.iload_n 0, 0, 0, 0, 0, []),
  (.iconst 1, 0, 0, 0, 1, []),
  (.isub, 0, 0, 0, 0, []),
  (.ishl, 0, 0, 0, 0, []),
  (.ireturn, 0, 0, 0, 0, [])]
/-- GrassCells$Reader.readFilling()I -/
def qc_Re_readFilling : List qI := [(.aload_n 0, 0, 0, 0, 0, []),
  (.invokevirtual 88, 29, 1, 8, 0, []),
  (.ifCond .ne 13, 9, 0, 0, 0, []),
  (.aload_n 0, 0, 0, 0, 0, []),
  (.aload_n 0, 0, 0, 0, 0, []),
  (.getfield 35, 7, 4, 0, 0, []),
  (.iconst 1, 0, 0, 0, 1, []),
  (.invokevirtual 67, 25, 3, 8, 0, []),
  (.ireturn, 0, 0, 0, 0, []),
  (.iconst 1, 0, 0, 0, 1, []),
  (.istore_n 1, 0, 0, 0, 0, []),
  (.iload_n 1, 0, 0, 0, 0, []),
  (.aload_n 0, 0, 0, 0, 0, []),
  (.getfield 39, 7, 7, 0, 0, []),
  (.if_icmp .gt 41, 33, 0, 0, 0, []),
  (.aload_n 0, 0, 0, 0, 0, []),
  (.getfield 21, 7, 1, 2, 0, []),
  (.getfield 92, 3, 1, 0, 0, []),
  (.iload_n 1, 0, 0, 0, 0, []),
  (.invokestatic 95, 33, 2, 0, 0, []),
  (.ifCond .eq 21, 31, 0, 0, 0, []),
  (.aload_n 0, 0, 0, 0, 0, []),
  (.iload_n 1, 0, 0, 0, 0, []),
  (.invokevirtual 99, 34, 2, 8, 0, []),
  (.ifCond .ne 13, 31, 0, 0, 0, []),
  (.aload_n 0, 0, 0, 0, 0, []),
  (.aload_n 0, 0, 0, 0, 0, []),
  (.getfield 35, 7, 4, 0, 0, []),
  (.iconst 1, 0, 0, 0, 1, []),
  (.invokevirtual 67, 25, 3, 8, 0, []),
  (.ireturn, 0, 0, 0, 0, []),
  (.iinc 1 1, 0, 0, 0, 0, []),
  (.goto (-43), 11, 0, 0, 0, []),
  (.aload_n 0, 0, 0, 0, 0, []),
  (.invokevirtual 45, 18, 1, 8, 0, []),
  (.aload_n 0, 0, 0, 0, 0, []),
  (.getfield 35, 7, 4, 0, 0, []),
  (.aload_n 0, 0, 0, 0, 0, []),
  (.getfield 12, 7, 0, 2, 0, []),
  (.getfield 48, 9, 1, 0, 0, []),
  (.if_icmp .ge 15, 47, 0, 0, 0, []),
  (.aload_n 0, 0, 0, 0, 0, []),
  (.aload_n 0, 0, 0, 0, 0, []),
  (.getfield 35, 7, 4, 0, 0, []),
  (.iconst 1, 0, 0, 0, 1, []),
  (.invokevirtual 67, 25, 3, 8, 0, []),
  (.goto 7, 49, 0, 0, 0, []),
  (.aload_n 0, 0, 0, 0, 0, []),
  (.invokevirtual 102, 37, 1, 8, 0, []),
  (.ireturn, 0, 0, 0, 0, [])]
/-- GrassCells$Reader.readPath()Z -/
def qc_Re_readPath : List qI := [(.iconst 0, 0, 0, 0, 0, []),
  (.istore_n 1, 0, 0, 0, 0, []),
  (.aload_n 0, 0, 0, 0, 0, []),
  (.iconst 0, 0, 0, 0, 0, []),
  (.putfield 39, 7, 7, 0, 0, []),
  (.aload_n 0, 0, 0, 0, 0, []),
  (.getfield 39, 7, 7, 0, 0, []),
  (.bipush 8, 0, 0, 0, 8, []),
  (.if_icmp .ge 61, 40, 0, 0, 0, []),
  (.aload_n 0, 0, 0, 0, 0, []),
  (.invokevirtual 105, 30, 1, 8, 0, []),
  (.ifCond .eq 54, 40, 0, 0, 0, []),
  (.aload_n 0, 0, 0, 0, 0, []),
  (.getfield 12, 7, 0, 2, 0, []),
  (.aload_n 0, 0, 0, 0, 0, []),
  (.getfield 35, 7, 4, 0, 0, []),
  (.invokevirtual 71, 19, 2, 10, 0, []),
  (.bipush 100, 0, 0, 0, 100, []),
  (.if_icmp .ne 15, 27, 0, 0, 0, []),
  (.iload_n 1, 0, 0, 0, 0, []),
  (.aload_n 0, 0, 0, 0, 0, []),
  (.getfield 39, 7, 7, 0, 0, []),
  (.iconst 1, 0, 0, 0, 1, []),
  (.iadd, 0, 0, 0, 0, []),
  (.invokestatic 83, 27, 1, 0, 0, []),
  (.ior, 0, 0, 0, 0, []),
  (.istore_n 1, 0, 0, 0, 0, []),
  (.aload_n 0, 0, 0, 0, 0, []),
  (.dup, 0, 0, 0, 0, []),
  (.getfield 35, 7, 4, 0, 0, []),
  (.iconst 1, 0, 0, 0, 1, []),
  (.iadd, 0, 0, 0, 0, []),
  (.putfield 35, 7, 4, 0, 0, []),
  (.aload_n 0, 0, 0, 0, 0, []),
  (.dup, 0, 0, 0, 0, []),
  (.getfield 39, 7, 7, 0, 0, []),
  (.iconst 1, 0, 0, 0, 1, []),
  (.iadd, 0, 0, 0, 0, []),
  (.putfield 39, 7, 7, 0, 0, []),
  (.goto (-64), 5, 0, 0, 0, []),
  (.aload_n 0, 0, 0, 0, 0, []),
  (.getfield 21, 7, 1, 2, 0, []),
  (.aload_n 0, 0, 0, 0, 0, []),
  (.getfield 39, 7, 7, 0, 0, []),
  (.iload_n 1, 0, 0, 0, 0, []),
  (.invokevirtual 108, 31, 3, 4, 0, []),
  (.aload_n 0, 0, 0, 0, 0, []),
  (.getfield 39, 7, 7, 0, 0, []),
  (.iconst 2, 0, 0, 0, 2, []),
  (.if_icmp .lt 14, 55, 0, 0, 0, []),
  (.aload_n 0, 0, 0, 0, 0, []),
  (.invokevirtual 105, 30, 1, 8, 0, []),
  (.ifCond .ne 7, 55, 0, 0, 0, []),
  (.iconst 1, 0, 0, 0, 1, []),
  (.goto 4, 56, 0, 0, 0, []),
  (.iconst 0, 0, 0, 0, 0, []),
  (.ireturn, 1, 0, 0, 0, [])]
/-- GrassCells$Reader.isLetterOfPath()Z -/
def qc_Re_isLetterOfPath : List qI := [(.aload_n 0, 0, 0, 0, 0, []),
  (.getfield 12, 7, 0, 2, 0, []),
  (.aload_n 0, 0, 0, 0, 0, []),
  (.getfield 35, 7, 4, 0, 0, []),
  (.invokevirtual 71, 19, 2, 10, 0, []),
  (.bipush 100, 0, 0, 0, 100, []),
  (.if_icmp .eq 19, 14, 0, 0, 0, []),
  (.aload_n 0, 0, 0, 0, 0, []),
  (.getfield 12, 7, 0, 2, 0, []),
  (.aload_n 0, 0, 0, 0, 0, []),
  (.getfield 35, 7, 4, 0, 0, []),
  (.invokevirtual 71, 19, 2, 10, 0, []),
  (.bipush 108, 0, 0, 0, 108, []),
  (.if_icmp .ne 7, 16, 0, 0, 0, []),
  (.iconst 1, 0, 0, 0, 1, []),
  (.goto 4, 17, 0, 0, 0, []),
  (.iconst 0, 0, 0, 0, 0, []),
  (.ireturn, 1, 0, 0, 0, [])]
/-- GrassCells$Diagram.clear(II)V -/
def qc_Di_clear : List qI := [(.aload_n 0, 0, 0, 0, 0, []),
  (.iload_n 1, 0, 0, 0, 0, []),
  (.putfield 33, 3, 0, 0, 0, []),
  (.aload_n 0, 0, 0, 0, 0, []),
  (.iload_n 2, 0, 0, 0, 0, []),
  (.putfield 37, 3, 1, 0, 0, []),
  (.aload_n 0, 0, 0, 0, 0, []),
  (.getfield 9, 3, 2, 2, 0, []),
  (.iconst 0, 0, 0, 0, 0, []),
  (.invokestatic 40, 32, 2, 0, 0, []),
  (.return_, 0, 0, 0, 0, [])]
/-- java/util/Arrays.fill([II)V -/
def qc_J_fill : List qI := [(.iconst 0, 0, 0, 0, 0, []),
  (.istore_n 2, 0, 0, 0, 0, []),
  (.aload_n 0, 0, 0, 0, 0, []),
  (.arraylength, 0, 0, 0, 0, []),
  (.istore_n 3, 0, 0, 0, 0, []),
  (.iload_n 2, 0, 0, 0, 0, []),
  (.iload_n 3, 0, 0, 0, 0, []),
  (.if_icmp .ge 13, 14, 0, 0, 0, []),
  (.aload_n 0, 0, 0, 0, 0, []),
  (.iload_n 2, 0, 0, 0, 0, []),
  (.iload_n 1, 0, 0, 0, 0, []),
  (.iastore, 0, 0, 0, 0, []),
  (.iinc 2 1, 0, 0, 0, 0, []),
  (.goto (-12), 5, 0, 0, 0, []),
  (.return_, 0, 0, 0, 0, [])]
/-- GrassCells$Sets.holds(II)Z -/
def qc_Se_holds : List qI := [(.iload_n 0, 0, 0, 0, 0, []),
  (.iload_n 1, 0, 0, 0, 0, []),
  (.iconst 1, 0, 0, 0, 1, []),
  (.isub, 0, 0, 0, 0, []),
  (.ishr, 0, 0, 0, 0, []),
  (.iconst 1, 0, 0, 0, 1, []),
  (.iand, 0, 0, 0, 0, []),
  (.ifCond .eq 7, 10, 0, 0, 0, []),
  (.iconst 1, 0, 0, 0, 1, []),
  (.goto 4, 11, 0, 0, 0, []),
  (.iconst 0, 0, 0, 0, 0, []),
  (.ireturn, 1, 0, 0, 0, [])]
/-- GrassCells$Reader.readRow(I)Z -/
def qc_Re_readRow : List qI := [(.aload_n 0, 0, 0, 0, 0, []),
  (.invokevirtual 45, 18, 1, 8, 0, []),
  (.aload_n 0, 0, 0, 0, 0, []),
  (.getfield 12, 7, 0, 2, 0, []),
  (.aload_n 0, 0, 0, 0, 0, []),
  (.getfield 35, 7, 4, 0, 0, []),
  (.invokevirtual 71, 19, 2, 10, 0, []),
  (.bipush 47, 0, 0, 0, 47, []),
  (.if_icmp .eq 5, 11, 0, 0, 0, []),
  (.iconst 0, 0, 0, 0, 0, []),
  (.ireturn, 1, 0, 0, 0, []),
  (.aload_n 0, 0, 0, 0, 0, []),
  (.dup, 0, 0, 0, 0, []),
  (.getfield 35, 7, 4, 0, 0, []),
  (.iconst 1, 0, 0, 0, 1, []),
  (.iadd, 0, 0, 0, 0, []),
  (.putfield 35, 7, 4, 0, 0, []),
  (.aload_n 0, 0, 0, 0, 0, []),
  (.invokevirtual 45, 18, 1, 8, 0, []),
  (.aload_n 0, 0, 0, 0, 0, []),
  (.getfield 29, 7, 3, 2, 0, []),
  (.iload_n 1, 0, 0, 0, 0, []),
  (.aload_n 0, 0, 0, 0, 0, []),
  (.getfield 35, 7, 4, 0, 0, []),
  (.iastore, 0, 0, 0, 0, []),
  (.aload_n 0, 0, 0, 0, 0, []),
  (.getfield 39, 7, 7, 0, 0, []),
  (.istore_n 2, 0, 0, 0, 0, []),
  (.iload_n 2, 0, 0, 0, 0, []),
  (.iload_n 1, 0, 0, 0, 0, []),
  (.if_icmp .le 77, 67, 0, 0, 0, []),
  (.aload_n 0, 0, 0, 0, 0, []),
  (.getfield 21, 7, 1, 2, 0, []),
  (.iload_n 1, 0, 0, 0, 0, []),
  (.iload_n 2, 0, 0, 0, 0, []),
  (.invokevirtual 112, 35, 3, 4, 0, []),
  (.ifCond .eq 59, 65, 0, 0, 0, []),
  (.aload_n 0, 0, 0, 0, 0, []),
  (.getfield 12, 7, 0, 2, 0, []),
  (.aload_n 0, 0, 0, 0, 0, []),
  (.getfield 35, 7, 4, 0, 0, []),
  (.invokevirtual 71, 19, 2, 10, 0, []),
  (.bipush 43, 0, 0, 0, 43, []),
  (.if_icmp .ne 15, 50, 0, 0, 0, []),
  (.aload_n 0, 0, 0, 0, 0, []),
  (.getfield 21, 7, 1, 2, 0, []),
  (.iload_n 1, 0, 0, 0, 0, []),
  (.iload_n 2, 0, 0, 0, 0, []),
  (.invokevirtual 115, 36, 3, 4, 0, []),
  (.goto 21, 59, 0, 0, 0, []),
  (.aload_n 0, 0, 0, 0, 0, []),
  (.getfield 12, 7, 0, 2, 0, []),
  (.aload_n 0, 0, 0, 0, 0, []),
  (.getfield 35, 7, 4, 0, 0, []),
  (.invokevirtual 71, 19, 2, 10, 0, []),
  (.bipush 48, 0, 0, 0, 48, []),
  (.if_icmp .eq 5, 59, 0, 0, 0, []),
  (.iconst 0, 0, 0, 0, 0, []),
  (.ireturn, 1, 0, 0, 0, []),
  (.aload_n 0, 0, 0, 0, 0, []),
  (.dup, 0, 0, 0, 0, []),
  (.getfield 35, 7, 4, 0, 0, []),
  (.iconst 1, 0, 0, 0, 1, []),
  (.iadd, 0, 0, 0, 0, []),
  (.putfield 35, 7, 4, 0, 0, []),
  (.iinc 2 (-1), 0, 0, 0, 0, []),
  (.goto (-76), 28, 0, 0, 0, []),
  (.iconst 1, 0, 0, 0, 1, []),
  (.ireturn, 1, 0, 0, 0, [])]
/-- GrassCells$Diagram.isBox(II)Z -/
def qc_Di_isBox : List qI := [(.iload_n 1, 0, 0, 0, 0, []),
  (.iload_n 2, 0, 0, 0, 0, []),
  (.if_icmp .ge 29, 15, 0, 0, 0, []),
  (.aload_n 0, 0, 0, 0, 0, []),
  (.getfield 37, 3, 1, 0, 0, []),
  (.iload_n 1, 0, 0, 0, 0, []),
  (.invokestatic 46, 33, 2, 0, 0, []),
  (.ifCond .eq 18, 15, 0, 0, 0, []),
  (.aload_n 0, 0, 0, 0, 0, []),
  (.getfield 37, 3, 1, 0, 0, []),
  (.iload_n 2, 0, 0, 0, 0, []),
  (.invokestatic 46, 33, 2, 0, 0, []),
  (.ifCond .ne 7, 15, 0, 0, 0, []),
  (.iconst 1, 0, 0, 0, 1, []),
  (.goto 4, 16, 0, 0, 0, []),
  (.iconst 0, 0, 0, 0, 0, []),
  (.ireturn, 1, 0, 0, 0, [])]
/-- GrassCells$Diagram.setPlus(II)V -/
def qc_Di_setPlus : List qI := [(.aload_n 0, 0, 0, 0, 0, []),
  (.getfield 9, 3, 2, 2, 0, []),
  (.iload_n 1, 0, 0, 0, 0, []),
  (.dup2, 0, 0, 0, 0, []),
  (.iaload, 0, 0, 0, 0, []),
  (.iload_n 2, 0, 0, 0, 0, []),
  (.invokestatic 52, 27, 1, 0, 0, []),
  (.ior, 0, 0, 0, 0, []),
  (.iastore, 0, 0, 0, 0, []),
  (.return_, 0, 0, 0, 0, [])]
/-- GrassCells$Reader.faultOfBoxes()I -/
def qc_Re_faultOfBoxes : List qI := [(.iconst 1, 0, 0, 0, 1, []),
  (.istore_n 1, 0, 0, 0, 0, []),
  (.iload_n 1, 0, 0, 0, 0, []),
  (.aload_n 0, 0, 0, 0, 0, []),
  (.getfield 39, 7, 7, 0, 0, []),
  (.if_icmp .gt 66, 39, 0, 0, 0, []),
  (.aload_n 0, 0, 0, 0, 0, []),
  (.getfield 29, 7, 3, 2, 0, []),
  (.iload_n 1, 0, 0, 0, 0, []),
  (.iaload, 0, 0, 0, 0, []),
  (.istore_n 2, 0, 0, 0, 0, []),
  (.aload_n 0, 0, 0, 0, 0, []),
  (.getfield 39, 7, 7, 0, 0, []),
  (.istore_n 3, 0, 0, 0, 0, []),
  (.iload_n 3, 0, 0, 0, 0, []),
  (.iload_n 1, 0, 0, 0, 0, []),
  (.if_icmp .le 43, 37, 0, 0, 0, []),
  (.aload_n 0, 0, 0, 0, 0, []),
  (.getfield 21, 7, 1, 2, 0, []),
  (.iload_n 1, 0, 0, 0, 0, []),
  (.iload_n 3, 0, 0, 0, 0, []),
  (.invokevirtual 112, 35, 3, 4, 0, []),
  (.ifCond .eq 25, 35, 0, 0, 0, []),
  (.aload_n 0, 0, 0, 0, 0, []),
  (.getfield 21, 7, 1, 2, 0, []),
  (.iload_n 1, 0, 0, 0, 0, []),
  (.iload_n 3, 0, 0, 0, 0, []),
  (.invokevirtual 118, 38, 3, 4, 0, []),
  (.ifCond .eq 10, 34, 0, 0, 0, []),
  (.aload_n 0, 0, 0, 0, 0, []),
  (.iload_n 2, 0, 0, 0, 0, []),
  (.iconst 3, 0, 0, 0, 3, []),
  (.invokevirtual 67, 25, 3, 8, 0, []),
  (.ireturn, 0, 0, 0, 0, []),
  (.iinc 2 1, 0, 0, 0, 0, []),
  (.iinc 3 (-1), 0, 0, 0, 0, []),
  (.goto (-42), 14, 0, 0, 0, []),
  (.iinc 1 1, 0, 0, 0, 0, []),
  (.goto (-68), 2, 0, 0, 0, []),
  (.iconst 1, 0, 0, 0, 1, []),
  (.istore_n 1, 0, 0, 0, 0, []),
  (.iload_n 1, 0, 0, 0, 0, []),
  (.aload_n 0, 0, 0, 0, 0, []),
  (.getfield 39, 7, 7, 0, 0, []),
  (.if_icmp .gt 23, 55, 0, 0, 0, []),
  (.aload_n 0, 0, 0, 0, 0, []),
  (.getfield 32, 7, 6, 2, 0, []),
  (.iload_n 1, 0, 0, 0, 0, []),
  (.aload_n 0, 0, 0, 0, 0, []),
  (.getfield 21, 7, 1, 2, 0, []),
  (.iload_n 1, 0, 0, 0, 0, []),
  (.invokevirtual 121, 40, 2, 4, 0, []),
  (.iastore, 0, 0, 0, 0, []),
  (.iinc 1 1, 0, 0, 0, 0, []),
  (.goto (-25), 41, 0, 0, 0, []),
  (.iconst 0, 0, 0, 0, 0, []),
  (.ireturn, 0, 0, 0, 0, [])]
/-- GrassCells$Diagram.breaksLe(II)Z -/
def qc_Di_breaksLe : List qI := [(.aload_n 0, 0, 0, 0, 0, []),
  (.iload_n 1, 0, 0, 0, 0, []),
  (.iload_n 2, 0, 0, 0, 0, []),
  (.invokevirtual 56, 39, 3, 4, 0, []),
  (.ifCond .ne 14, 12, 0, 0, 0, []),
  (.aload_n 0, 0, 0, 0, 0, []),
  (.getfield 9, 3, 2, 2, 0, []),
  (.iload_n 1, 0, 0, 0, 0, []),
  (.iaload, 0, 0, 0, 0, []),
  (.iload_n 2, 0, 0, 0, 0, []),
  (.ishr, 0, 0, 0, 0, []),
  (.ifCond .ne 5, 14, 0, 0, 0, []),
  (.iconst 0, 0, 0, 0, 0, []),
  (.ireturn, 1, 0, 0, 0, []),
  (.iconst 1, 0, 0, 0, 1, []),
  (.istore_n 3, 0, 0, 0, 0, []),
  (.iload_n 3, 0, 0, 0, 0, []),
  (.iload_n 1, 0, 0, 0, 0, []),
  (.if_icmp .ge 20, 28, 0, 0, 0, []),
  (.aload_n 0, 0, 0, 0, 0, []),
  (.iload_n 3, 0, 0, 0, 0, []),
  (.iload_n 2, 0, 0, 0, 0, []),
  (.invokevirtual 56, 39, 3, 4, 0, []),
  (.ifCond .eq 5, 26, 0, 0, 0, []),
  (.iconst 1, 0, 0, 0, 1, []),
  (.ireturn, 1, 0, 0, 0, []),
  (.iinc 3 1, 0, 0, 0, 0, []),
  (.goto (-19), 16, 0, 0, 0, []),
  (.iconst 0, 0, 0, 0, 0, []),
  (.ireturn, 1, 0, 0, 0, [])]
/-- GrassCells$Diagram.isPlus(II)Z -/
def qc_Di_isPlus : List qI := [(.aload_n 0, 0, 0, 0, 0, []),
  (.getfield 9, 3, 2, 2, 0, []),
  (.iload_n 1, 0, 0, 0, 0, []),
  (.iaload, 0, 0, 0, 0, []),
  (.iload_n 2, 0, 0, 0, 0, []),
  (.invokestatic 46, 33, 2, 0, 0, []),
  (.ireturn, 1, 0, 0, 0, [])]
/-- GrassCells$Diagram.imageOf(I)I -/
def qc_Di_imageOf : List qI := [(.aload_n 0, 0, 0, 0, 0, []),
  (.getfield 37, 3, 1, 0, 0, []),
  (.iload_n 1, 0, 0, 0, 0, []),
  (.invokestatic 46, 33, 2, 0, 0, []),
  (.istore_n 2, 0, 0, 0, 0, []),
  (.iload_n 1, 0, 0, 0, 0, []),
  (.istore_n 3, 0, 0, 0, 0, []),
  (.iload_n 1, 0, 0, 0, 0, []),
  (.istore 4, 0, 0, 0, 0, []),
  (.iconst 0, 0, 0, 0, 0, []),
  (.istore 5, 0, 0, 0, 0, []),
  (.iload 5, 0, 0, 0, 0, []),
  (.iconst 2, 0, 0, 0, 2, []),
  (.aload_n 0, 0, 0, 0, 0, []),
  (.getfield 33, 3, 0, 0, 0, []),
  (.imul, 0, 0, 0, 0, []),
  (.if_icmp .gt 86, 63, 0, 0, 0, []),
  (.iload_n 2, 0, 0, 0, 0, []),
  (.ifCond .eq 36, 37, 0, 0, 0, []),
  (.aload_n 0, 0, 0, 0, 0, []),
  (.iload 4, 0, 0, 0, 0, []),
  (.invokevirtual 59, 41, 2, 4, 0, []),
  (.istore 4, 0, 0, 0, 0, []),
  (.iload 4, 0, 0, 0, 0, []),
  (.aload_n 0, 0, 0, 0, 0, []),
  (.getfield 33, 3, 0, 0, 0, []),
  (.if_icmp .le 49, 54, 0, 0, 0, []),
  (.iload_n 3, 0, 0, 0, 0, []),
  (.iload_n 1, 0, 0, 0, 0, []),
  (.if_icmp .gt 12, 35, 0, 0, 0, []),
  (.iload_n 3, 0, 0, 0, 0, []),
  (.aload_n 0, 0, 0, 0, 0, []),
  (.getfield 33, 3, 0, 0, 0, []),
  (.iadd, 0, 0, 0, 0, []),
  (.goto 4, 36, 0, 0, 0, []),
  (.iload_n 3, 0, 0, 0, 0, []),
  (.ireturn, 0, 0, 0, 0, []),
  (.aload_n 0, 0, 0, 0, 0, []),
  (.iload_n 3, 0, 0, 0, 0, []),
  (.invokevirtual 62, 42, 2, 4, 0, []),
  (.istore_n 3, 0, 0, 0, 0, []),
  (.iload_n 3, 0, 0, 0, 0, []),
  (.iconst 1, 0, 0, 0, 1, []),
  (.if_icmp .ge 22, 54, 0, 0, 0, []),
  (.iload 4, 0, 0, 0, 0, []),
  (.iload_n 1, 0, 0, 0, 0, []),
  (.if_icmp .ge 13, 52, 0, 0, 0, []),
  (.iload 4, 0, 0, 0, 0, []),
  (.aload_n 0, 0, 0, 0, 0, []),
  (.getfield 33, 3, 0, 0, 0, []),
  (.iadd, 0, 0, 0, 0, []),
  (.goto 5, 53, 0, 0, 0, []),
  (.iload 4, 0, 0, 0, 0, []),
  (.ireturn, 0, 0, 0, 0, []),
  (.iload_n 2, 0, 0, 0, 0, []),
  (.aload_n 0, 0, 0, 0, 0, []),
  (.iload_n 3, 0, 0, 0, 0, []),
  (.iload 4, 0, 0, 0, 0, []),
  (.invokevirtual 56, 39, 3, 4, 0, []),
  (.ixor, 0, 0, 0, 0, []),
  (.istore_n 2, 0, 0, 0, 0, []),
  (.iinc 5 1, 0, 0, 0, 0, []),
  (.goto (-91), 11, 0, 0, 0, []),
  (.iload_n 1, 0, 0, 0, 0, []),
  (.ireturn, 0, 0, 0, 0, [])]
/-- GrassCells$Diagram.nextColumn(I)I -/
def qc_Di_nextColumn : List qI := [(.iload_n 1, 0, 0, 0, 0, []),
  (.iconst 1, 0, 0, 0, 1, []),
  (.iadd, 0, 0, 0, 0, []),
  (.istore_n 2, 0, 0, 0, 0, []),
  (.iload_n 2, 0, 0, 0, 0, []),
  (.aload_n 0, 0, 0, 0, 0, []),
  (.getfield 33, 3, 0, 0, 0, []),
  (.if_icmp .gt 20, 15, 0, 0, 0, []),
  (.aload_n 0, 0, 0, 0, 0, []),
  (.getfield 37, 3, 1, 0, 0, []),
  (.iload_n 2, 0, 0, 0, 0, []),
  (.invokestatic 46, 33, 2, 0, 0, []),
  (.ifCond .eq 9, 15, 0, 0, 0, []),
  (.iinc 2 1, 0, 0, 0, 0, []),
  (.goto (-22), 4, 0, 0, 0, []),
  (.iload_n 2, 0, 0, 0, 0, []),
  (.ireturn, 0, 0, 0, 0, [])]
/-- GrassCells$Diagram.rowAbove(I)I -/
def qc_Di_rowAbove : List qI := [(.iload_n 1, 0, 0, 0, 0, []),
  (.iconst 1, 0, 0, 0, 1, []),
  (.isub, 0, 0, 0, 0, []),
  (.istore_n 2, 0, 0, 0, 0, []),
  (.iload_n 2, 0, 0, 0, 0, []),
  (.iconst 1, 0, 0, 0, 1, []),
  (.if_icmp .lt 20, 14, 0, 0, 0, []),
  (.aload_n 0, 0, 0, 0, 0, []),
  (.getfield 37, 3, 1, 0, 0, []),
  (.iload_n 2, 0, 0, 0, 0, []),
  (.invokestatic 46, 33, 2, 0, 0, []),
  (.ifCond .ne 9, 14, 0, 0, 0, []),
  (.iinc 2 (-1), 0, 0, 0, 0, []),
  (.goto (-19), 4, 0, 0, 0, []),
  (.iload_n 2, 0, 0, 0, 0, []),
  (.ireturn, 0, 0, 0, 0, [])]
/-- GrassCells$Reader.readSets()I -/
def qc_Re_readSets : List qI := [(.aload_n 0, 0, 0, 0, 0, []),
  (.iconst 0, 0, 0, 0, 0, []),
  (.putfield 39, 7, 7, 0, 0, []),
  (.aload_n 0, 0, 0, 0, 0, []),
  (.getfield 35, 7, 4, 0, 0, []),
  (.aload_n 0, 0, 0, 0, 0, []),
  (.getfield 12, 7, 0, 2, 0, []),
  (.getfield 48, 9, 1, 0, 0, []),
  (.if_icmp .ge 52, 35, 0, 0, 0, []),
  (.aload_n 0, 0, 0, 0, 0, []),
  (.getfield 39, 7, 7, 0, 0, []),
  (.bipush 8, 0, 0, 0, 8, []),
  (.if_icmp .eq 16, 20, 0, 0, 0, []),
  (.aload_n 0, 0, 0, 0, 0, []),
  (.aload_n 0, 0, 0, 0, 0, []),
  (.getfield 39, 7, 7, 0, 0, []),
  (.iconst 1, 0, 0, 0, 1, []),
  (.iadd, 0, 0, 0, 0, []),
  (.invokevirtual 124, 44, 2, 8, 0, []),
  (.ifCond .ne 13, 26, 0, 0, 0, []),
  (.aload_n 0, 0, 0, 0, 0, []),
  (.aload_n 0, 0, 0, 0, 0, []),
  (.getfield 35, 7, 4, 0, 0, []),
  (.iconst 1, 0, 0, 0, 1, []),
  (.invokevirtual 67, 25, 3, 8, 0, []),
  (.ireturn, 0, 0, 0, 0, []),
  (.aload_n 0, 0, 0, 0, 0, []),
  (.invokevirtual 45, 18, 1, 8, 0, []),
  (.aload_n 0, 0, 0, 0, 0, []),
  (.dup, 0, 0, 0, 0, []),
  (.getfield 39, 7, 7, 0, 0, []),
  (.iconst 1, 0, 0, 0, 1, []),
  (.iadd, 0, 0, 0, 0, []),
  (.putfield 39, 7, 7, 0, 0, []),
  (.goto (-60), 3, 0, 0, 0, []),
  (.aload_n 0, 0, 0, 0, 0, []),
  (.getfield 39, 7, 7, 0, 0, []),
  (.iconst 2, 0, 0, 0, 2, []),
  (.if_icmp .ge 15, 45, 0, 0, 0, []),
  (.aload_n 0, 0, 0, 0, 0, []),
  (.aload_n 0, 0, 0, 0, 0, []),
  (.getfield 35, 7, 4, 0, 0, []),
  (.iconst 1, 0, 0, 0, 1, []),
  (.invokevirtual 67, 25, 3, 8, 0, []),
  (.goto 7, 47, 0, 0, 0, []),
  (.aload_n 0, 0, 0, 0, 0, []),
  (.invokevirtual 127, 45, 1, 8, 0, []),
  (.ireturn, 0, 0, 0, 0, [])]
/-- GrassCells$Reader.readSet(I)Z -/
def qc_Re_readSet : List qI := [(.iload_n 1, 0, 0, 0, 0, []),
  (.iconst 1, 0, 0, 0, 1, []),
  (.if_icmp .ne 8, 5, 0, 0, 0, []),
  (.bipush 8, 0, 0, 0, 8, []),
  (.goto 7, 7, 0, 0, 0, []),
  (.aload_n 0, 0, 0, 0, 0, []),
  (.getfield 42, 7, 5, 0, 0, []),
  (.istore_n 2, 0, 0, 0, 0, []),
  (.iconst 0, 0, 0, 0, 0, []),
  (.istore_n 3, 0, 0, 0, 0, []),
  (.iconst 0, 0, 0, 0, 0, []),
  (.istore 4, 0, 0, 0, 0, []),
  (.aload_n 0, 0, 0, 0, 0, []),
  (.getfield 29, 7, 3, 2, 0, []),
  (.iload_n 1, 0, 0, 0, 0, []),
  (.aload_n 0, 0, 0, 0, 0, []),
  (.getfield 35, 7, 4, 0, 0, []),
  (.iastore, 0, 0, 0, 0, []),
  (.aload_n 0, 0, 0, 0, 0, []),
  (.getfield 25, 7, 2, 2, 0, []),
  (.iload_n 1, 0, 0, 0, 0, []),
  (.iconst 0, 0, 0, 0, 0, []),
  (.iastore, 0, 0, 0, 0, []),
  (.iload_n 3, 0, 0, 0, 0, []),
  (.iload_n 2, 0, 0, 0, 0, []),
  (.if_icmp .ge 83, 67, 0, 0, 0, []),
  (.aload_n 0, 0, 0, 0, 0, []),
  (.getfield 12, 7, 0, 2, 0, []),
  (.aload_n 0, 0, 0, 0, 0, []),
  (.getfield 35, 7, 4, 0, 0, []),
  (.invokevirtual 80, 24, 2, 10, 0, []),
  (.ifCond .eq 69, 67, 0, 0, 0, []),
  (.aload_n 0, 0, 0, 0, 0, []),
  (.getfield 12, 7, 0, 2, 0, []),
  (.aload_n 0, 0, 0, 0, 0, []),
  (.getfield 35, 7, 4, 0, 0, []),
  (.invokevirtual 71, 19, 2, 10, 0, []),
  (.bipush 48, 0, 0, 0, 48, []),
  (.isub, 0, 0, 0, 0, []),
  (.istore 5, 0, 0, 0, 0, []),
  (.iload 5, 0, 0, 0, 0, []),
  (.iload 4, 0, 0, 0, 0, []),
  (.if_icmp .le 10, 46, 0, 0, 0, []),
  (.iload 5, 0, 0, 0, 0, []),
  (.bipush 8, 0, 0, 0, 8, []),
  (.if_icmp .le 5, 48, 0, 0, 0, []),
  (.iconst 0, 0, 0, 0, 0, []),
  (.ireturn, 1, 0, 0, 0, []),
  (.aload_n 0, 0, 0, 0, 0, []),
  (.getfield 25, 7, 2, 2, 0, []),
  (.iload_n 1, 0, 0, 0, 0, []),
  (.dup2, 0, 0, 0, 0, []),
  (.iaload, 0, 0, 0, 0, []),
  (.iload 5, 0, 0, 0, 0, []),
  (.invokestatic 83, 27, 1, 0, 0, []),
  (.ior, 0, 0, 0, 0, []),
  (.iastore, 0, 0, 0, 0, []),
  (.iload 5, 0, 0, 0, 0, []),
  (.istore 4, 0, 0, 0, 0, []),
  (.iinc 3 1, 0, 0, 0, 0, []),
  (.aload_n 0, 0, 0, 0, 0, []),
  (.dup, 0, 0, 0, 0, []),
  (.getfield 35, 7, 4, 0, 0, []),
  (.iconst 1, 0, 0, 0, 1, []),
  (.iadd, 0, 0, 0, 0, []),
  (.putfield 35, 7, 4, 0, 0, []),
  (.goto (-82), 23, 0, 0, 0, []),
  (.iload_n 1, 0, 0, 0, 0, []),
  (.iconst 1, 0, 0, 0, 1, []),
  (.if_icmp .ne 8, 73, 0, 0, 0, []),
  (.aload_n 0, 0, 0, 0, 0, []),
  (.iload_n 3, 0, 0, 0, 0, []),
  (.putfield 42, 7, 5, 0, 0, []),
  (.iload_n 3, 0, 0, 0, 0, []),
  (.ifCond .le 29, 87, 0, 0, 0, []),
  (.iload_n 3, 0, 0, 0, 0, []),
  (.aload_n 0, 0, 0, 0, 0, []),
  (.getfield 42, 7, 5, 0, 0, []),
  (.if_icmp .ne 21, 87, 0, 0, 0, []),
  (.aload_n 0, 0, 0, 0, 0, []),
  (.getfield 12, 7, 0, 2, 0, []),
  (.aload_n 0, 0, 0, 0, 0, []),
  (.getfield 35, 7, 4, 0, 0, []),
  (.invokevirtual 80, 24, 2, 10, 0, []),
  (.ifCond .ne 7, 87, 0, 0, 0, []),
  (.iconst 1, 0, 0, 0, 1, []),
  (.goto 4, 88, 0, 0, 0, []),
  (.iconst 0, 0, 0, 0, 0, []),
  (.ireturn, 1, 0, 0, 0, [])]
/-- GrassCells$Reader.faultOfSets()I -/
def qc_Re_faultOfSets : List qI := [(.iconst 1, 0, 0, 0, 1, []),
  (.istore_n 1, 0, 0, 0, 0, []),
  (.iload_n 1, 0, 0, 0, 0, []),
  (.aload_n 0, 0, 0, 0, 0, []),
  (.getfield 39, 7, 7, 0, 0, []),
  (.if_icmp .gt 51, 34, 0, 0, 0, []),
  (.aload_n 0, 0, 0, 0, 0, []),
  (.getfield 25, 7, 2, 2, 0, []),
  (.iload_n 1, 0, 0, 0, 0, []),
  (.iaload, 0, 0, 0, 0, []),
  (.aload_n 0, 0, 0, 0, 0, []),
  (.getfield 39, 7, 7, 0, 0, []),
  (.invokestatic 130, 46, 1, 0, 0, []),
  (.iand, 0, 0, 0, 0, []),
  (.istore_n 2, 0, 0, 0, 0, []),
  (.iload_n 2, 0, 0, 0, 0, []),
  (.aload_n 0, 0, 0, 0, 0, []),
  (.getfield 25, 7, 2, 2, 0, []),
  (.iload_n 1, 0, 0, 0, 0, []),
  (.iaload, 0, 0, 0, 0, []),
  (.if_icmp .eq 20, 32, 0, 0, 0, []),
  (.aload_n 0, 0, 0, 0, 0, []),
  (.aload_n 0, 0, 0, 0, 0, []),
  (.getfield 29, 7, 3, 2, 0, []),
  (.iload_n 1, 0, 0, 0, 0, []),
  (.iaload, 0, 0, 0, 0, []),
  (.iload_n 2, 0, 0, 0, 0, []),
  (.invokestatic 133, 47, 1, 0, 0, []),
  (.iadd, 0, 0, 0, 0, []),
  (.iconst 2, 0, 0, 0, 2, []),
  (.invokevirtual 67, 25, 3, 8, 0, []),
  (.ireturn, 0, 0, 0, 0, []),
  (.iinc 1 1, 0, 0, 0, 0, []),
  (.goto (-53), 2, 0, 0, 0, []),
  (.iconst 2, 0, 0, 0, 2, []),
  (.istore_n 1, 0, 0, 0, 0, []),
  (.iload_n 1, 0, 0, 0, 0, []),
  (.aload_n 0, 0, 0, 0, 0, []),
  (.getfield 39, 7, 7, 0, 0, []),
  (.if_icmp .gt 44, 65, 0, 0, 0, []),
  (.aload_n 0, 0, 0, 0, 0, []),
  (.getfield 25, 7, 2, 2, 0, []),
  (.iload_n 1, 0, 0, 0, 0, []),
  (.iconst 1, 0, 0, 0, 1, []),
  (.isub, 0, 0, 0, 0, []),
  (.iaload, 0, 0, 0, 0, []),
  (.iload_n 1, 0, 0, 0, 0, []),
  (.iconst 1, 0, 0, 0, 1, []),
  (.isub, 0, 0, 0, 0, []),
  (.aload_n 0, 0, 0, 0, 0, []),
  (.getfield 25, 7, 2, 2, 0, []),
  (.iload_n 1, 0, 0, 0, 0, []),
  (.iaload, 0, 0, 0, 0, []),
  (.invokestatic 138, 48, 3, 0, 0, []),
  (.ifCond .ne 15, 63, 0, 0, 0, []),
  (.aload_n 0, 0, 0, 0, 0, []),
  (.aload_n 0, 0, 0, 0, 0, []),
  (.getfield 29, 7, 3, 2, 0, []),
  (.iload_n 1, 0, 0, 0, 0, []),
  (.iaload, 0, 0, 0, 0, []),
  (.iconst 3, 0, 0, 0, 3, []),
  (.invokevirtual 67, 25, 3, 8, 0, []),
  (.ireturn, 0, 0, 0, 0, []),
  (.iinc 1 1, 0, 0, 0, 0, []),
  (.goto (-46), 36, 0, 0, 0, []),
  (.aload_n 0, 0, 0, 0, 0, []),
  (.getfield 25, 7, 2, 2, 0, []),
  (.aload_n 0, 0, 0, 0, 0, []),
  (.getfield 39, 7, 7, 0, 0, []),
  (.iaload, 0, 0, 0, 0, []),
  (.aload_n 0, 0, 0, 0, 0, []),
  (.getfield 39, 7, 7, 0, 0, []),
  (.aload_n 0, 0, 0, 0, 0, []),
  (.getfield 25, 7, 2, 2, 0, []),
  (.iconst 1, 0, 0, 0, 1, []),
  (.iaload, 0, 0, 0, 0, []),
  (.invokestatic 138, 48, 3, 0, 0, []),
  (.ifCond .ne 18, 87, 0, 0, 0, []),
  (.aload_n 0, 0, 0, 0, 0, []),
  (.aload_n 0, 0, 0, 0, 0, []),
  (.getfield 29, 7, 3, 2, 0, []),
  (.aload_n 0, 0, 0, 0, 0, []),
  (.getfield 39, 7, 7, 0, 0, []),
  (.iaload, 0, 0, 0, 0, []),
  (.iconst 3, 0, 0, 0, 3, []),
  (.invokevirtual 67, 25, 3, 8, 0, []),
  (.ireturn, 0, 0, 0, 0, []),
  (.iconst 1, 0, 0, 0, 1, []),
  (.istore_n 1, 0, 0, 0, 0, []),
  (.iload_n 1, 0, 0, 0, 0, []),
  (.aload_n 0, 0, 0, 0, 0, []),
  (.getfield 39, 7, 7, 0, 0, []),
  (.if_icmp .gt 46, 118, 0, 0, 0, []),
  (.aload_n 0, 0, 0, 0, 0, []),
  (.getfield 32, 7, 6, 2, 0, []),
  (.iload_n 1, 0, 0, 0, 0, []),
  (.aload_n 0, 0, 0, 0, 0, []),
  (.aload_n 0, 0, 0, 0, 0, []),
  (.getfield 25, 7, 2, 2, 0, []),
  (.iload_n 1, 0, 0, 0, 0, []),
  (.iaload, 0, 0, 0, 0, []),
  (.iload_n 1, 0, 0, 0, 0, []),
  (.aload_n 0, 0, 0, 0, 0, []),
  (.getfield 25, 7, 2, 2, 0, []),
  (.iload_n 1, 0, 0, 0, 0, []),
  (.aload_n 0, 0, 0, 0, 0, []),
  (.getfield 39, 7, 7, 0, 0, []),
  (.if_icmp .ge 9, 112, 0, 0, 0, []),
  (.iload_n 1, 0, 0, 0, 0, []),
  (.iconst 1, 0, 0, 0, 1, []),
  (.iadd, 0, 0, 0, 0, []),
  (.goto 4, 113, 0, 0, 0, []),
  (.iconst 1, 0, 0, 0, 1, []),
  (.iaload, 0, 0, 0, 0, []),
  (.invokevirtual 142, 49, 4, 8, 0, []),
  (.iastore, 0, 0, 0, 0, []),
  (.iinc 1 1, 0, 0, 0, 0, []),
  (.goto (-48), 89, 0, 0, 0, []),
  (.iconst 0, 0, 0, 0, 0, []),
  (.ireturn, 0, 0, 0, 0, [])]
/-- GrassCells$Sets.upTo(I)I -/
def qc_Se_upTo : List qI := [(.iconst 1, 0, 0, 0, 1, []),
  (.iload_n 0, 0, 0, 0, 0, []),
  (.ishl, 0, 0, 0, 0, []),
  (.iconst 1, 0, 0, 0, 1, []),
  (.isub, 0, 0, 0, 0, []),
  (.ireturn, 0, 0, 0, 0, [])]
/-- java/lang/Integer.bitCount(I)I -/
def qc_J_bitCount : List qI := [(.iload_n 0, 0, 0, 0, 0, []),
  (.iload_n 0, 0, 0, 0, 0, []),
  (.iconst 1, 0, 0, 0, 1, []),
  (.iushr, 0, 0, 0, 0, []),
  (.ldc_w 265, 0, 0, 0, 1431655765, []),
  (.iand, 0, 0, 0, 0, []),
  (.isub, 0, 0, 0, 0, []),
  (.istore_n 0, 0, 0, 0, 0, []),
  (.iload_n 0, 0, 0, 0, 0, []),
  (.ldc_w 266, 0, 0, 0, 858993459, []),
  (.iand, 0, 0, 0, 0, []),
  (.iload_n 0, 0, 0, 0, 0, []),
  (.iconst 2, 0, 0, 0, 2, []),
  (.iushr, 0, 0, 0, 0, []),
  (.ldc_w 266, 0, 0, 0, 858993459, []),
  (.iand, 0, 0, 0, 0, []),
  (.iadd, 0, 0, 0, 0, []),
  (.istore_n 0, 0, 0, 0, 0, []),
  (.iload_n 0, 0, 0, 0, 0, []),
  (.iload_n 0, 0, 0, 0, 0, []),
  (.iconst 4, 0, 0, 0, 4, []),
  (.iushr, 0, 0, 0, 0, []),
  (.iadd, 0, 0, 0, 0, []),
  (.ldc_w 267, 0, 0, 0, 252645135, []),
  (.iand, 0, 0, 0, 0, []),
  (.istore_n 0, 0, 0, 0, 0, []),
  (.iload_n 0, 0, 0, 0, 0, []),
  (.iload_n 0, 0, 0, 0, 0, []),
  (.bipush 8, 0, 0, 0, 8, []),
  (.iushr, 0, 0, 0, 0, []),
  (.iadd, 0, 0, 0, 0, []),
  (.istore_n 0, 0, 0, 0, 0, []),
  (.iload_n 0, 0, 0, 0, 0, []),
  (.iload_n 0, 0, 0, 0, 0, []),
  (.bipush 16, 0, 0, 0, 16, []),
  (.iushr, 0, 0, 0, 0, []),
  (.iadd, 0, 0, 0, 0, []),
  (.istore_n 0, 0, 0, 0, 0, []),
  (.iload_n 0, 0, 0, 0, 0, []),
  (.bipush 63, 0, 0, 0, 63, []),
  (.iand, 0, 0, 0, 0, []),
  (.ireturn, 0, 0, 0, 0, [])]
/-- GrassCells$Sets.canStandBehind(III)Z -/
def qc_Se_canStandBehind : List qI := [(.iload_n 0, 0, 0, 0, 0, []),
  (.iload_n 1, 0, 0, 0, 0, []),
  (.invokestatic 13, 33, 2, 0, 0, []),
  (.ifCond .ne 14, 11, 0, 0, 0, []),
  (.iload_n 2, 0, 0, 0, 0, []),
  (.iload_n 0, 0, 0, 0, 0, []),
  (.if_icmp .ne 7, 9, 0, 0, 0, []),
  (.iconst 1, 0, 0, 0, 1, []),
  (.goto 4, 10, 0, 0, 0, []),
  (.iconst 0, 0, 0, 0, 0, []),
  (.ireturn, 1, 0, 0, 0, []),
  (.iload_n 0, 0, 0, 0, 0, []),
  (.iload_n 1, 0, 0, 0, 0, []),
  (.invokestatic 19, 27, 1, 0, 0, []),
  (.iconst (-1), 0, 0, 0, (-1), []),
  (.ixor, 0, 0, 0, 0, []),
  (.iand, 0, 0, 0, 0, []),
  (.istore_n 3, 0, 0, 0, 0, []),
  (.iload_n 2, 0, 0, 0, 0, []),
  (.iload_n 3, 0, 0, 0, 0, []),
  (.iand, 0, 0, 0, 0, []),
  (.iload_n 3, 0, 0, 0, 0, []),
  (.if_icmp .ne 18, 30, 0, 0, 0, []),
  (.iload_n 2, 0, 0, 0, 0, []),
  (.invokestatic 22, 47, 1, 0, 0, []),
  (.iload_n 0, 0, 0, 0, 0, []),
  (.invokestatic 22, 47, 1, 0, 0, []),
  (.if_icmp .ne 7, 30, 0, 0, 0, []),
  (.iconst 1, 0, 0, 0, 1, []),
  (.goto 4, 31, 0, 0, 0, []),
  (.iconst 0, 0, 0, 0, 0, []),
  (.ireturn, 1, 0, 0, 0, [])]
/-- GrassCells$Reader.imageBetween(III)I -/
def qc_Re_imageBetween : List qI := [(.iload_n 1, 0, 0, 0, 0, []),
  (.iload_n 2, 0, 0, 0, 0, []),
  (.invokestatic 95, 33, 2, 0, 0, []),
  (.ifCond .ne 5, 6, 0, 0, 0, []),
  (.iload_n 2, 0, 0, 0, 0, []),
  (.ireturn, 0, 0, 0, 0, []),
  (.iload_n 3, 0, 0, 0, 0, []),
  (.iload_n 1, 0, 0, 0, 0, []),
  (.iload_n 2, 0, 0, 0, 0, []),
  (.invokestatic 83, 27, 1, 0, 0, []),
  (.iconst (-1), 0, 0, 0, (-1), []),
  (.ixor, 0, 0, 0, 0, []),
  (.iand, 0, 0, 0, 0, []),
  (.iconst (-1), 0, 0, 0, (-1), []),
  (.ixor, 0, 0, 0, 0, []),
  (.iand, 0, 0, 0, 0, []),
  (.invokestatic 146, 50, 1, 0, 0, []),
  (.istore 4, 0, 0, 0, 0, []),
  (.iload 4, 0, 0, 0, 0, []),
  (.iload_n 2, 0, 0, 0, 0, []),
  (.if_icmp .le 8, 23, 0, 0, 0, []),
  (.iload 4, 0, 0, 0, 0, []),
  (.goto 10, 27, 0, 0, 0, []),
  (.iload 4, 0, 0, 0, 0, []),
  (.aload_n 0, 0, 0, 0, 0, []),
  (.getfield 39, 7, 7, 0, 0, []),
  (.iadd, 0, 0, 0, 0, []),
  (.ireturn, 0, 0, 0, 0, [])]
/-- GrassCells$Sets.least(I)I -/
def qc_Se_least : List qI := [(.iload_n 0, 0, 0, 0, 0, []),
  (.invokestatic 7, 51, 1, 0, 0, []),
  (.iconst 1, 0, 0, 0, 1, []),
  (.iadd, 0, 0, 0, 0, []),
  (.ireturn, 0, 0, 0, 0, [])]
/-- java/lang/Integer.numberOfTrailingZeros(I)I -/
def qc_J_numberOfTrailingZeros : List qI := [(.iload_n 0, 0, 0, 0, 0, []),
  (.iconst (-1), 0, 0, 0, (-1), []),
  (.ixor, 0, 0, 0, 0, []),
  (.iload_n 0, 0, 0, 0, 0, []),
  (.iconst 1, 0, 0, 0, 1, []),
  (.isub, 0, 0, 0, 0, []),
  (.iand, 0, 0, 0, 0, []),
  (.istore_n 0, 0, 0, 0, 0, []),
  (.iload_n 0, 0, 0, 0, 0, []),
  (.ifCond .gt 8, 14, 0, 0, 0, []),
  (.iload_n 0, 0, 0, 0, 0, []),
  (.bipush 32, 0, 0, 0, 32, []),
  (.iand, 0, 0, 0, 0, []),
  (.ireturn, 0, 0, 0, 0, []),
  (.iconst 1, 0, 0, 0, 1, []),
  (.istore_n 1, 0, 0, 0, 0, []),
  (.iload_n 0, 0, 0, 0, 0, []),
  (.ldc_w 264, 0, 0, 0, 65536, []),
  (.if_icmp .le 11, 24, 0, 0, 0, []),
  (.iinc 1 16, 0, 0, 0, 0, []),
  (.iload_n 0, 0, 0, 0, 0, []),
  (.bipush 16, 0, 0, 0, 16, []),
  (.iushr, 0, 0, 0, 0, []),
  (.istore_n 0, 0, 0, 0, 0, []),
  (.iload_n 0, 0, 0, 0, 0, []),
  (.sipush 256, 0, 0, 0, 256, []),
  (.if_icmp .le 11, 32, 0, 0, 0, []),
  (.iinc 1 8, 0, 0, 0, 0, []),
  (.iload_n 0, 0, 0, 0, 0, []),
  (.bipush 8, 0, 0, 0, 8, []),
  (.iushr, 0, 0, 0, 0, []),
  (.istore_n 0, 0, 0, 0, 0, []),
  (.iload_n 0, 0, 0, 0, 0, []),
  (.bipush 16, 0, 0, 0, 16, []),
  (.if_icmp .le 10, 40, 0, 0, 0, []),
  (.iinc 1 4, 0, 0, 0, 0, []),
  (.iload_n 0, 0, 0, 0, 0, []),
  (.iconst 4, 0, 0, 0, 4, []),
  (.iushr, 0, 0, 0, 0, []),
  (.istore_n 0, 0, 0, 0, 0, []),
  (.iload_n 0, 0, 0, 0, 0, []),
  (.iconst 4, 0, 0, 0, 4, []),
  (.if_icmp .le 10, 48, 0, 0, 0, []),
  (.iinc 1 2, 0, 0, 0, 0, []),
  (.iload_n 0, 0, 0, 0, 0, []),
  (.iconst 2, 0, 0, 0, 2, []),
  (.iushr, 0, 0, 0, 0, []),
  (.istore_n 0, 0, 0, 0, 0, []),
  (.iload_n 1, 0, 0, 0, 0, []),
  (.iload_n 0, 0, 0, 0, 0, []),
  (.iconst 1, 0, 0, 0, 1, []),
  (.iushr, 0, 0, 0, 0, []),
  (.iadd, 0, 0, 0, 0, []),
  (.ireturn, 0, 0, 0, 0, [])]
/-- GrassCells.become(I[I)V -/
def qc_GC_become : List qI := [(.aload_n 0, 0, 0, 0, 0, []),
  (.getfield 40, 10, 4, 2, 0, []),
  (.aload_n 0, 0, 0, 0, 0, []),
  (.getfield 19, 10, 1, 2, 0, []),
  (.aload_n 0, 0, 0, 0, 0, []),
  (.getfield 26, 10, 2, 2, 0, []),
  (.invokevirtual 166, 53, 3, 7, 0, []),
  (.aload_n 0, 0, 0, 0, 0, []),
  (.getfield 19, 10, 1, 2, 0, []),
  (.iload_n 1, 0, 0, 0, 0, []),
  (.aload_n 2, 0, 0, 0, 0, []),
  (.invokevirtual 195, 56, 3, 1, 0, []),
  (.aload_n 0, 0, 0, 0, 0, []),
  (.getfield 26, 10, 2, 2, 0, []),
  (.aload_n 0, 0, 0, 0, 0, []),
  (.getfield 19, 10, 1, 2, 0, []),
  (.invokevirtual 250, 65, 2, 3, 0, []),
  (.return_, 0, 0, 0, 0, [])]
/-- GrassCells$Past.record(LGrassCells$Cell;LGrassCells$Collection;)V -/
def qc_Pa_record : List qI := [(.aload_n 0, 0, 0, 0, 0, []),
  (.aload_n 0, 0, 0, 0, 0, []),
  (.getfield 18, 6, 1, 0, 0, []),
  (.iconst 1, 0, 0, 0, 1, []),
  (.iadd, 0, 0, 0, 0, []),
  (.bipush 20, 0, 0, 0, 20, []),
  (.if_icmp .ge 12, 12, 0, 0, 0, []),
  (.aload_n 0, 0, 0, 0, 0, []),
  (.getfield 18, 6, 1, 0, 0, []),
  (.iconst 1, 0, 0, 0, 1, []),
  (.iadd, 0, 0, 0, 0, []),
  (.goto 4, 13, 0, 0, 0, []),
  (.iconst 0, 0, 0, 0, 0, []),
  (.putfield 18, 6, 1, 0, 0, []),
  (.aload_n 0, 0, 0, 0, 0, []),
  (.aload_n 0, 0, 0, 0, 0, []),
  (.getfield 22, 6, 2, 0, 0, []),
  (.iconst 1, 0, 0, 0, 1, []),
  (.iadd, 0, 0, 0, 0, []),
  (.bipush 20, 0, 0, 0, 20, []),
  (.invokestatic 25, 54, 2, 92, 0, []),
  (.putfield 22, 6, 2, 0, 0, []),
  (.aload_n 0, 0, 0, 0, 0, []),
  (.getfield 11, 6, 0, 2, 0, []),
  (.aload_n 0, 0, 0, 0, 0, []),
  (.getfield 18, 6, 1, 0, 0, []),
  (.aaload, 0, 0, 0, 0, []),
  (.astore_n 3, 0, 0, 0, 0, []),
  (.aload_n 3, 0, 0, 0, 0, []),
  (.aload_n 1, 0, 0, 0, 0, []),
  (.getfield 31, 0, 0, 0, 0, []),
  (.putfield 36, 4, 2, 0, 0, []),
  (.iconst 1, 0, 0, 0, 1, []),
  (.istore 4, 0, 0, 0, 0, []),
  (.iload 4, 0, 0, 0, 0, []),
  (.aload_n 1, 0, 0, 0, 0, []),
  (.getfield 31, 0, 0, 0, 0, []),
  (.if_icmp .gt 23, 48, 0, 0, 0, []),
  (.aload_n 3, 0, 0, 0, 0, []),
  (.getfield 37, 4, 0, 2, 0, []),
  (.iload 4, 0, 0, 0, 0, []),
  (.aload_n 1, 0, 0, 0, 0, []),
  (.getfield 41, 0, 4, 2, 0, []),
  (.iload 4, 0, 0, 0, 0, []),
  (.iaload, 0, 0, 0, 0, []),
  (.iastore, 0, 0, 0, 0, []),
  (.iinc 4 1, 0, 0, 0, 0, []),
  (.goto (-26), 34, 0, 0, 0, []),
  (.aload_n 3, 0, 0, 0, 0, []),
  (.getfield 42, 4, 1, 2, 0, []),
  (.aload_n 2, 0, 0, 0, 0, []),
  (.invokevirtual 46, 55, 2, 3, 0, []),
  (.return_, 0, 0, 0, 0, [])]
/-- java/lang/Math.min(II)I -/
def qc_J_min : List qI := [(.iload_n 0, 0, 0, 0, 0, []),
  (.iload_n 1, 0, 0, 0, 0, []),
  (.if_icmp .gt 7, 5, 0, 0, 0, []),
  (.iload_n 0, 0, 0, 0, 0, []),
  (.goto 4, 6, 0, 0, 0, []),
  (.iload_n 1, 0, 0, 0, 0, []),
  (.ireturn, 0, 0, 0, 0, [])]
/-- GrassCells$Collection.copyFrom(LGrassCells$Collection;)V -/
def qc_Co_copyFrom : List qI := [(.aload_n 0, 0, 0, 0, 0, []),
  (.aload_n 1, 0, 0, 0, 0, []),
  (.getfield 15, 2, 1, 0, 0, []),
  (.putfield 15, 2, 1, 0, 0, []),
  (.iconst 0, 0, 0, 0, 0, []),
  (.istore_n 2, 0, 0, 0, 0, []),
  (.iload_n 2, 0, 0, 0, 0, []),
  (.aload_n 0, 0, 0, 0, 0, []),
  (.getfield 15, 2, 1, 0, 0, []),
  (.if_icmp .ge 21, 20, 0, 0, 0, []),
  (.aload_n 0, 0, 0, 0, 0, []),
  (.getfield 9, 2, 0, 2, 0, []),
  (.iload_n 2, 0, 0, 0, 0, []),
  (.aload_n 1, 0, 0, 0, 0, []),
  (.getfield 9, 2, 0, 2, 0, []),
  (.iload_n 2, 0, 0, 0, 0, []),
  (.iaload, 0, 0, 0, 0, []),
  (.iastore, 0, 0, 0, 0, []),
  (.iinc 2 1, 0, 0, 0, 0, []),
  (.goto (-23), 6, 0, 0, 0, []),
  (.return_, 0, 0, 0, 0, [])]
/-- GrassCells$Cell.take(I[I)V -/
def qc_Ce_take : List qI := [(.aload_n 0, 0, 0, 0, 0, []),
  (.iload_n 1, 0, 0, 0, 0, []),
  (.putfield 32, 0, 0, 0, 0, []),
  (.iconst 1, 0, 0, 0, 1, []),
  (.istore_n 3, 0, 0, 0, 0, []),
  (.iload_n 3, 0, 0, 0, 0, []),
  (.aload_n 0, 0, 0, 0, 0, []),
  (.getfield 32, 0, 0, 0, 0, []),
  (.if_icmp .gt 18, 18, 0, 0, 0, []),
  (.aload_n 0, 0, 0, 0, 0, []),
  (.getfield 9, 0, 4, 2, 0, []),
  (.iload_n 3, 0, 0, 0, 0, []),
  (.aload_n 2, 0, 0, 0, 0, []),
  (.iload_n 3, 0, 0, 0, 0, []),
  (.iaload, 0, 0, 0, 0, []),
  (.iastore, 0, 0, 0, 0, []),
  (.iinc 3 1, 0, 0, 0, 0, []),
  (.goto (-20), 5, 0, 0, 0, []),
  (.aload_n 0, 0, 0, 0, 0, []),
  (.invokevirtual 36, 57, 1, 1, 0, []),
  (.aload_n 0, 0, 0, 0, 0, []),
  (.invokevirtual 39, 58, 1, 1, 0, []),
  (.aload_n 0, 0, 0, 0, 0, []),
  (.aload_n 0, 0, 0, 0, 0, []),
  (.getfield 9, 0, 4, 2, 0, []),
  (.aload_n 0, 0, 0, 0, 0, []),
  (.getfield 32, 0, 0, 0, 0, []),
  (.invokestatic 42, 63, 2, 0, 0, []),
  (.putfield 46, 0, 2, 0, 0, []),
  (.aload_n 0, 0, 0, 0, 0, []),
  (.getfield 24, 0, 7, 2, 0, []),
  (.aload_n 0, 0, 0, 0, 0, []),
  (.invokevirtual 49, 64, 2, 4, 0, []),
  (.return_, 0, 0, 0, 0, [])]
/-- GrassCells$Cell.layNecklace()V -/
def qc_Ce_layNecklace : List qI := [(.iconst 0, 0, 0, 0, 0, []),
  (.istore_n 1, 0, 0, 0, 0, []),
  (.iconst 1, 0, 0, 0, 1, []),
  (.istore_n 2, 0, 0, 0, 0, []),
  (.iload_n 2, 0, 0, 0, 0, []),
  (.aload_n 0, 0, 0, 0, 0, []),
  (.getfield 32, 0, 0, 0, 0, []),
  (.if_icmp .gt 39, 28, 0, 0, 0, []),
  (.aload_n 0, 0, 0, 0, 0, []),
  (.getfield 9, 0, 4, 2, 0, []),
  (.iload_n 2, 0, 0, 0, 0, []),
  (.iaload, 0, 0, 0, 0, []),
  (.aload_n 0, 0, 0, 0, 0, []),
  (.getfield 32, 0, 0, 0, 0, []),
  (.if_icmp .le 20, 26, 0, 0, 0, []),
  (.iload_n 1, 0, 0, 0, 0, []),
  (.aload_n 0, 0, 0, 0, 0, []),
  (.getfield 9, 0, 4, 2, 0, []),
  (.iload_n 2, 0, 0, 0, 0, []),
  (.iaload, 0, 0, 0, 0, []),
  (.aload_n 0, 0, 0, 0, 0, []),
  (.getfield 32, 0, 0, 0, 0, []),
  (.isub, 0, 0, 0, 0, []),
  (.invokestatic 53, 27, 1, 0, 0, []),
  (.ior, 0, 0, 0, 0, []),
  (.istore_n 1, 0, 0, 0, 0, []),
  (.iinc 2 1, 0, 0, 0, 0, []),
  (.goto (-41), 4, 0, 0, 0, []),
  (.aload_n 0, 0, 0, 0, 0, []),
  (.iload_n 1, 0, 0, 0, 0, []),
  (.invokestatic 59, 47, 1, 0, 0, []),
  (.putfield 64, 0, 1, 0, 0, []),
  (.aload_n 0, 0, 0, 0, 0, []),
  (.getfield 15, 0, 5, 2, 0, []),
  (.iconst 1, 0, 0, 0, 1, []),
  (.iload_n 1, 0, 0, 0, 0, []),
  (.iastore, 0, 0, 0, 0, []),
  (.iconst 1, 0, 0, 0, 1, []),
  (.istore_n 2, 0, 0, 0, 0, []),
  (.iload_n 2, 0, 0, 0, 0, []),
  (.aload_n 0, 0, 0, 0, 0, []),
  (.getfield 32, 0, 0, 0, 0, []),
  (.if_icmp .ge 76, 88, 0, 0, 0, []),
  (.aload_n 0, 0, 0, 0, 0, []),
  (.getfield 9, 0, 4, 2, 0, []),
  (.iload_n 2, 0, 0, 0, 0, []),
  (.iaload, 0, 0, 0, 0, []),
  (.iload_n 2, 0, 0, 0, 0, []),
  (.if_icmp .eq 51, 79, 0, 0, 0, []),
  (.aload_n 0, 0, 0, 0, 0, []),
  (.getfield 9, 0, 4, 2, 0, []),
  (.iload_n 2, 0, 0, 0, 0, []),
  (.iaload, 0, 0, 0, 0, []),
  (.aload_n 0, 0, 0, 0, 0, []),
  (.getfield 32, 0, 0, 0, 0, []),
  (.if_icmp .le 17, 64, 0, 0, 0, []),
  (.aload_n 0, 0, 0, 0, 0, []),
  (.getfield 9, 0, 4, 2, 0, []),
  (.iload_n 2, 0, 0, 0, 0, []),
  (.iaload, 0, 0, 0, 0, []),
  (.aload_n 0, 0, 0, 0, 0, []),
  (.getfield 32, 0, 0, 0, 0, []),
  (.isub, 0, 0, 0, 0, []),
  (.goto 9, 68, 0, 0, 0, []),
  (.aload_n 0, 0, 0, 0, 0, []),
  (.getfield 9, 0, 4, 2, 0, []),
  (.iload_n 2, 0, 0, 0, 0, []),
  (.iaload, 0, 0, 0, 0, []),
  (.istore_n 3, 0, 0, 0, 0, []),
  (.iload_n 1, 0, 0, 0, 0, []),
  (.iload_n 2, 0, 0, 0, 0, []),
  (.invokestatic 53, 27, 1, 0, 0, []),
  (.iconst (-1), 0, 0, 0, (-1), []),
  (.ixor, 0, 0, 0, 0, []),
  (.iand, 0, 0, 0, 0, []),
  (.iload_n 3, 0, 0, 0, 0, []),
  (.invokestatic 53, 27, 1, 0, 0, []),
  (.ior, 0, 0, 0, 0, []),
  (.istore_n 1, 0, 0, 0, 0, []),
  (.aload_n 0, 0, 0, 0, 0, []),
  (.getfield 15, 0, 5, 2, 0, []),
  (.iload_n 2, 0, 0, 0, 0, []),
  (.iconst 1, 0, 0, 0, 1, []),
  (.iadd, 0, 0, 0, 0, []),
  (.iload_n 1, 0, 0, 0, 0, []),
  (.iastore, 0, 0, 0, 0, []),
  (.iinc 2 1, 0, 0, 0, 0, []),
  (.goto (-78), 39, 0, 0, 0, []),
  (.return_, 0, 0, 0, 0, [])]
/-- GrassCells$Cell.layBases()V -/
def qc_Ce_layBases : List qI := [(.aload_n 0, 0, 0, 0, 0, []),
  (.iconst 0, 0, 0, 0, 0, []),
  (.putfield 67, 0, 3, 0, 0, []),
  (.iconst 0, 0, 0, 0, 0, []),
  (.istore_n 1, 0, 0, 0, 0, []),
  (.iload_n 1, 0, 0, 0, 0, []),
  (.sipush 256, 0, 0, 0, 256, []),
  (.if_icmp .ge 74, 46, 0, 0, 0, []),
  (.aload_n 0, 0, 0, 0, 0, []),
  (.getfield 28, 0, 8, 2, 0, []),
  (.iload_n 1, 0, 0, 0, 0, []),
  (.aload_n 0, 0, 0, 0, 0, []),
  (.iload_n 1, 0, 0, 0, 0, []),
  (.invokevirtual 70, 59, 2, 1, 0, []),
  (.ifCond .eq 15, 21, 0, 0, 0, []),
  (.aload_n 0, 0, 0, 0, 0, []),
  (.iload_n 1, 0, 0, 0, 0, []),
  (.invokevirtual 74, 61, 2, 1, 0, []),
  (.ifCond .eq 7, 21, 0, 0, 0, []),
  (.iconst 1, 0, 0, 0, 1, []),
  (.goto 4, 22, 0, 0, 0, []),
  (.iconst 0, 0, 0, 0, 0, []),
  (.bastore, 0, 0, 0, 0, []),
  (.aload_n 0, 0, 0, 0, 0, []),
  (.getfield 28, 0, 8, 2, 0, []),
  (.iload_n 1, 0, 0, 0, 0, []),
  (.baload, 0, 0, 0, 0, []),
  (.ifCond .eq 32, 44, 0, 0, 0, []),
  (.aload_n 0, 0, 0, 0, 0, []),
  (.getfield 67, 0, 3, 0, 0, []),
  (.bipush 70, 0, 0, 0, 70, []),
  (.if_icmp .ge 23, 44, 0, 0, 0, []),
  (.aload_n 0, 0, 0, 0, 0, []),
  (.getfield 18, 0, 6, 2, 0, []),
  (.aload_n 0, 0, 0, 0, 0, []),
  (.getfield 67, 0, 3, 0, 0, []),
  (.iload_n 1, 0, 0, 0, 0, []),
  (.iastore, 0, 0, 0, 0, []),
  (.aload_n 0, 0, 0, 0, 0, []),
  (.dup, 0, 0, 0, 0, []),
  (.getfield 67, 0, 3, 0, 0, []),
  (.iconst 1, 0, 0, 0, 1, []),
  (.iadd, 0, 0, 0, 0, []),
  (.putfield 67, 0, 3, 0, 0, []),
  (.iinc 1 1, 0, 0, 0, 0, []),
  (.goto (-75), 5, 0, 0, 0, []),
  (.return_, 0, 0, 0, 0, [])]
/-- GrassCells$Cell.isSet(I)Z -/
def qc_Ce_isSet : List qI := [(.aload_n 0, 0, 0, 0, 0, []),
  (.iload_n 1, 0, 0, 0, 0, []),
  (.invokevirtual 88, 60, 2, 1, 0, []),
  (.ifCond .eq 18, 11, 0, 0, 0, []),
  (.iload_n 1, 0, 0, 0, 0, []),
  (.invokestatic 59, 47, 1, 0, 0, []),
  (.aload_n 0, 0, 0, 0, 0, []),
  (.getfield 64, 0, 1, 0, 0, []),
  (.if_icmp .ne 7, 11, 0, 0, 0, []),
  (.iconst 1, 0, 0, 0, 1, []),
  (.goto 4, 12, 0, 0, 0, []),
  (.iconst 0, 0, 0, 0, 0, []),
  (.ireturn, 1, 0, 0, 0, [])]
/-- GrassCells$Cell.areLabels(I)Z -/
def qc_Ce_areLabels : List qI := [(.aload_n 0, 0, 0, 0, 0, []),
  (.getfield 32, 0, 0, 0, 0, []),
  (.ifCond .le 22, 12, 0, 0, 0, []),
  (.iload_n 1, 0, 0, 0, 0, []),
  (.ifCond .lt 18, 12, 0, 0, 0, []),
  (.iload_n 1, 0, 0, 0, 0, []),
  (.aload_n 0, 0, 0, 0, 0, []),
  (.getfield 32, 0, 0, 0, 0, []),
  (.invokestatic 85, 46, 1, 0, 0, []),
  (.if_icmp .gt 7, 12, 0, 0, 0, []),
  (.iconst 1, 0, 0, 0, 1, []),
  (.goto 4, 13, 0, 0, 0, []),
  (.iconst 0, 0, 0, 0, 0, []),
  (.ireturn, 1, 0, 0, 0, [])]
/-- GrassCells$Cell.isAtLeastNecklace(I)Z -/
def qc_Ce_isAtLeastNecklace : List qI := [(.iconst 1, 0, 0, 0, 1, []),
  (.istore_n 2, 0, 0, 0, 0, []),
  (.iload_n 2, 0, 0, 0, 0, []),
  (.aload_n 0, 0, 0, 0, 0, []),
  (.getfield 32, 0, 0, 0, 0, []),
  (.if_icmp .gt 29, 20, 0, 0, 0, []),
  (.iload_n 1, 0, 0, 0, 0, []),
  (.aload_n 0, 0, 0, 0, 0, []),
  (.getfield 15, 0, 5, 2, 0, []),
  (.iload_n 2, 0, 0, 0, 0, []),
  (.iaload, 0, 0, 0, 0, []),
  (.iload_n 2, 0, 0, 0, 0, []),
  (.aload_n 0, 0, 0, 0, 0, []),
  (.getfield 32, 0, 0, 0, 0, []),
  (.invokestatic 77, 62, 4, 0, 0, []),
  (.ifCond .ne 5, 18, 0, 0, 0, []),
  (.iconst 0, 0, 0, 0, 0, []),
  (.ireturn, 1, 0, 0, 0, []),
  (.iinc 2 1, 0, 0, 0, 0, []),
  (.goto (-31), 2, 0, 0, 0, []),
  (.iconst 1, 0, 0, 0, 1, []),
  (.ireturn, 1, 0, 0, 0, [])]
/-- GrassCells$Sets.atLeast(IIII)Z -/
def qc_Se_atLeast : List qI := [(.iconst 0, 0, 0, 0, 0, []),
  (.istore 4, 0, 0, 0, 0, []),
  (.iconst 0, 0, 0, 0, 0, []),
  (.istore 5, 0, 0, 0, 0, []),
  (.iload 5, 0, 0, 0, 0, []),
  (.iload_n 3, 0, 0, 0, 0, []),
  (.if_icmp .ge 61, 46, 0, 0, 0, []),
  (.iload_n 2, 0, 0, 0, 0, []),
  (.iload 5, 0, 0, 0, 0, []),
  (.iadd, 0, 0, 0, 0, []),
  (.iload_n 3, 0, 0, 0, 0, []),
  (.if_icmp .gt 10, 16, 0, 0, 0, []),
  (.iload_n 2, 0, 0, 0, 0, []),
  (.iload 5, 0, 0, 0, 0, []),
  (.iadd, 0, 0, 0, 0, []),
  (.goto 9, 21, 0, 0, 0, []),
  (.iload_n 2, 0, 0, 0, 0, []),
  (.iload 5, 0, 0, 0, 0, []),
  (.iadd, 0, 0, 0, 0, []),
  (.iload_n 3, 0, 0, 0, 0, []),
  (.isub, 0, 0, 0, 0, []),
  (.istore 6, 0, 0, 0, 0, []),
  (.iload 4, 0, 0, 0, 0, []),
  (.iload_n 0, 0, 0, 0, 0, []),
  (.iload 6, 0, 0, 0, 0, []),
  (.iconst 1, 0, 0, 0, 1, []),
  (.isub, 0, 0, 0, 0, []),
  (.ishr, 0, 0, 0, 0, []),
  (.iconst 1, 0, 0, 0, 1, []),
  (.iand, 0, 0, 0, 0, []),
  (.iload_n 1, 0, 0, 0, 0, []),
  (.iload 6, 0, 0, 0, 0, []),
  (.iconst 1, 0, 0, 0, 1, []),
  (.isub, 0, 0, 0, 0, []),
  (.ishr, 0, 0, 0, 0, []),
  (.iconst 1, 0, 0, 0, 1, []),
  (.iand, 0, 0, 0, 0, []),
  (.isub, 0, 0, 0, 0, []),
  (.iadd, 0, 0, 0, 0, []),
  (.istore 4, 0, 0, 0, 0, []),
  (.iload 4, 0, 0, 0, 0, []),
  (.ifCond .le 5, 44, 0, 0, 0, []),
  (.iconst 0, 0, 0, 0, 0, []),
  (.ireturn, 1, 0, 0, 0, []),
  (.iinc 5 1, 0, 0, 0, 0, []),
  (.goto (-61), 4, 0, 0, 0, []),
  (.iconst 1, 0, 0, 0, 1, []),
  (.ireturn, 1, 0, 0, 0, [])]
/-- GrassCells$Cell.inversionsOf([II)I -/
def qc_Ce_inversionsOf : List qI := [(.iconst 0, 0, 0, 0, 0, []),
  (.istore_n 2, 0, 0, 0, 0, []),
  (.iconst 1, 0, 0, 0, 1, []),
  (.istore_n 3, 0, 0, 0, 0, []),
  (.iload_n 3, 0, 0, 0, 0, []),
  (.iload_n 1, 0, 0, 0, 0, []),
  (.if_icmp .gt 79, 53, 0, 0, 0, []),
  (.iload_n 3, 0, 0, 0, 0, []),
  (.iconst 1, 0, 0, 0, 1, []),
  (.iadd, 0, 0, 0, 0, []),
  (.istore 4, 0, 0, 0, 0, []),
  (.iload 4, 0, 0, 0, 0, []),
  (.iload_n 1, 0, 0, 0, 0, []),
  (.if_icmp .gt 27, 29, 0, 0, 0, []),
  (.iload_n 2, 0, 0, 0, 0, []),
  (.aload_n 0, 0, 0, 0, 0, []),
  (.iload_n 3, 0, 0, 0, 0, []),
  (.iaload, 0, 0, 0, 0, []),
  (.aload_n 0, 0, 0, 0, 0, []),
  (.iload 4, 0, 0, 0, 0, []),
  (.iaload, 0, 0, 0, 0, []),
  (.if_icmp .le 7, 24, 0, 0, 0, []),
  (.iconst 1, 0, 0, 0, 1, []),
  (.goto 4, 25, 0, 0, 0, []),
  (.iconst 0, 0, 0, 0, 0, []),
  (.iadd, 0, 0, 0, 0, []),
  (.istore_n 2, 0, 0, 0, 0, []),
  (.iinc 4 1, 0, 0, 0, 0, []),
  (.goto (-27), 11, 0, 0, 0, []),
  (.iconst 1, 0, 0, 0, 1, []),
  (.istore 4, 0, 0, 0, 0, []),
  (.iload 4, 0, 0, 0, 0, []),
  (.iload_n 3, 0, 0, 0, 0, []),
  (.if_icmp .ge 29, 51, 0, 0, 0, []),
  (.iload_n 2, 0, 0, 0, 0, []),
  (.aload_n 0, 0, 0, 0, 0, []),
  (.iload_n 3, 0, 0, 0, 0, []),
  (.iaload, 0, 0, 0, 0, []),
  (.aload_n 0, 0, 0, 0, 0, []),
  (.iload 4, 0, 0, 0, 0, []),
  (.iaload, 0, 0, 0, 0, []),
  (.iload_n 1, 0, 0, 0, 0, []),
  (.iadd, 0, 0, 0, 0, []),
  (.if_icmp .le 7, 46, 0, 0, 0, []),
  (.iconst 1, 0, 0, 0, 1, []),
  (.goto 4, 47, 0, 0, 0, []),
  (.iconst 0, 0, 0, 0, 0, []),
  (.iadd, 0, 0, 0, 0, []),
  (.istore_n 2, 0, 0, 0, 0, []),
  (.iinc 4 1, 0, 0, 0, 0, []),
  (.goto (-29), 31, 0, 0, 0, []),
  (.iinc 3 1, 0, 0, 0, 0, []),
  (.goto (-78), 4, 0, 0, 0, []),
  (.iload_n 2, 0, 0, 0, 0, []),
  (.ireturn, 0, 0, 0, 0, [])]
/-- GrassCells$Diagram.drawFor(LGrassCells$Cell;)V -/
def qc_Di_drawFor : List qI := [(.aload_n 0, 0, 0, 0, 0, []),
  (.aload_n 1, 0, 0, 0, 0, []),
  (.getfield 65, 0, 0, 0, 0, []),
  (.aload_n 1, 0, 0, 0, 0, []),
  (.getfield 68, 0, 5, 2, 0, []),
  (.iconst 1, 0, 0, 0, 1, []),
  (.iaload, 0, 0, 0, 0, []),
  (.invokevirtual 71, 31, 3, 4, 0, []),
  (.iconst 1, 0, 0, 0, 1, []),
  (.istore_n 2, 0, 0, 0, 0, []),
  (.iload_n 2, 0, 0, 0, 0, []),
  (.aload_n 0, 0, 0, 0, 0, []),
  (.getfield 33, 3, 0, 0, 0, []),
  (.if_icmp .gt 57, 46, 0, 0, 0, []),
  (.aload_n 1, 0, 0, 0, 0, []),
  (.getfield 75, 0, 4, 2, 0, []),
  (.iload_n 2, 0, 0, 0, 0, []),
  (.iaload, 0, 0, 0, 0, []),
  (.aload_n 0, 0, 0, 0, 0, []),
  (.getfield 33, 3, 0, 0, 0, []),
  (.if_icmp .le 17, 29, 0, 0, 0, []),
  (.aload_n 1, 0, 0, 0, 0, []),
  (.getfield 75, 0, 4, 2, 0, []),
  (.iload_n 2, 0, 0, 0, 0, []),
  (.iaload, 0, 0, 0, 0, []),
  (.aload_n 0, 0, 0, 0, 0, []),
  (.getfield 33, 3, 0, 0, 0, []),
  (.isub, 0, 0, 0, 0, []),
  (.goto 9, 33, 0, 0, 0, []),
  (.aload_n 1, 0, 0, 0, 0, []),
  (.getfield 75, 0, 4, 2, 0, []),
  (.iload_n 2, 0, 0, 0, 0, []),
  (.iaload, 0, 0, 0, 0, []),
  (.istore_n 3, 0, 0, 0, 0, []),
  (.aload_n 0, 0, 0, 0, 0, []),
  (.getfield 15, 3, 3, 2, 0, []),
  (.iload_n 3, 0, 0, 0, 0, []),
  (.iload_n 2, 0, 0, 0, 0, []),
  (.iastore, 0, 0, 0, 0, []),
  (.aload_n 0, 0, 0, 0, 0, []),
  (.getfield 18, 3, 4, 2, 0, []),
  (.iload_n 3, 0, 0, 0, 0, []),
  (.iload_n 2, 0, 0, 0, 0, []),
  (.iastore, 0, 0, 0, 0, []),
  (.iinc 2 1, 0, 0, 0, 0, []),
  (.goto (-59), 10, 0, 0, 0, []),
  (.iconst 1, 0, 0, 0, 1, []),
  (.istore_n 2, 0, 0, 0, 0, []),
  (.iload_n 2, 0, 0, 0, 0, []),
  (.aload_n 0, 0, 0, 0, 0, []),
  (.getfield 33, 3, 0, 0, 0, []),
  (.if_icmp .gt 83, 98, 0, 0, 0, []),
  (.aload_n 0, 0, 0, 0, 0, []),
  (.getfield 33, 3, 0, 0, 0, []),
  (.istore_n 3, 0, 0, 0, 0, []),
  (.iload_n 3, 0, 0, 0, 0, []),
  (.iload_n 2, 0, 0, 0, 0, []),
  (.if_icmp .le 67, 96, 0, 0, 0, []),
  (.aload_n 0, 0, 0, 0, 0, []),
  (.iload_n 2, 0, 0, 0, 0, []),
  (.iload_n 3, 0, 0, 0, 0, []),
  (.invokevirtual 78, 35, 3, 4, 0, []),
  (.ifCond .eq 52, 94, 0, 0, 0, []),
  (.aload_n 0, 0, 0, 0, 0, []),
  (.getfield 18, 3, 4, 2, 0, []),
  (.iload_n 3, 0, 0, 0, 0, []),
  (.iaload, 0, 0, 0, 0, []),
  (.aload_n 0, 0, 0, 0, 0, []),
  (.getfield 15, 3, 3, 2, 0, []),
  (.iload_n 2, 0, 0, 0, 0, []),
  (.iaload, 0, 0, 0, 0, []),
  (.if_icmp .ge 37, 94, 0, 0, 0, []),
  (.aload_n 0, 0, 0, 0, 0, []),
  (.iload_n 2, 0, 0, 0, 0, []),
  (.iload_n 3, 0, 0, 0, 0, []),
  (.invokevirtual 81, 36, 3, 4, 0, []),
  (.aload_n 0, 0, 0, 0, 0, []),
  (.getfield 15, 3, 3, 2, 0, []),
  (.iload_n 2, 0, 0, 0, 0, []),
  (.iaload, 0, 0, 0, 0, []),
  (.istore 4, 0, 0, 0, 0, []),
  (.aload_n 0, 0, 0, 0, 0, []),
  (.getfield 15, 3, 3, 2, 0, []),
  (.iload_n 2, 0, 0, 0, 0, []),
  (.aload_n 0, 0, 0, 0, 0, []),
  (.getfield 18, 3, 4, 2, 0, []),
  (.iload_n 3, 0, 0, 0, 0, []),
  (.iaload, 0, 0, 0, 0, []),
  (.iastore, 0, 0, 0, 0, []),
  (.aload_n 0, 0, 0, 0, 0, []),
  (.getfield 18, 3, 4, 2, 0, []),
  (.iload_n 3, 0, 0, 0, 0, []),
  (.iload 4, 0, 0, 0, 0, []),
  (.iastore, 0, 0, 0, 0, []),
  (.iinc 3 (-1), 0, 0, 0, 0, []),
  (.goto (-66), 55, 0, 0, 0, []),
  (.iinc 2 1, 0, 0, 0, 0, []),
  (.goto (-85), 48, 0, 0, 0, []),
  (.return_, 0, 0, 0, 0, [])]
/-- GrassCells$Collection.layFor(LGrassCells$Cell;)V -/
def qc_Co_layFor : List qI := [(.aload_n 0, 0, 0, 0, 0, []),
  (.iconst 0, 0, 0, 0, 0, []),
  (.putfield 15, 2, 1, 0, 0, []),
  (.iconst 1, 0, 0, 0, 1, []),
  (.istore_n 2, 0, 0, 0, 0, []),
  (.iload_n 2, 0, 0, 0, 0, []),
  (.aload_n 1, 0, 0, 0, 0, []),
  (.getfield 19, 0, 0, 0, 0, []),
  (.if_icmp .gt 19, 17, 0, 0, 0, []),
  (.aload_n 0, 0, 0, 0, 0, []),
  (.aload_n 1, 0, 0, 0, 0, []),
  (.getfield 24, 0, 5, 2, 0, []),
  (.iload_n 2, 0, 0, 0, 0, []),
  (.iaload, 0, 0, 0, 0, []),
  (.invokevirtual 27, 66, 2, 3, 0, []),
  (.iinc 2 1, 0, 0, 0, 0, []),
  (.goto (-21), 5, 0, 0, 0, []),
  (.iconst 0, 0, 0, 0, 0, []),
  (.istore_n 2, 0, 0, 0, 0, []),
  (.iload_n 2, 0, 0, 0, 0, []),
  (.aload_n 1, 0, 0, 0, 0, []),
  (.getfield 31, 0, 3, 0, 0, []),
  (.if_icmp .ge 36, 40, 0, 0, 0, []),
  (.aload_n 0, 0, 0, 0, 0, []),
  (.aload_n 1, 0, 0, 0, 0, []),
  (.getfield 34, 0, 6, 2, 0, []),
  (.iload_n 2, 0, 0, 0, 0, []),
  (.iaload, 0, 0, 0, 0, []),
  (.aload_n 1, 0, 0, 0, 0, []),
  (.getfield 19, 0, 0, 0, 0, []),
  (.invokevirtual 37, 68, 3, 3, 0, []),
  (.ifCond .eq 13, 38, 0, 0, 0, []),
  (.aload_n 0, 0, 0, 0, 0, []),
  (.aload_n 1, 0, 0, 0, 0, []),
  (.getfield 34, 0, 6, 2, 0, []),
  (.iload_n 2, 0, 0, 0, 0, []),
  (.iaload, 0, 0, 0, 0, []),
  (.invokevirtual 27, 66, 2, 3, 0, []),
  (.iinc 2 1, 0, 0, 0, 0, []),
  (.goto (-38), 19, 0, 0, 0, []),
  (.return_, 0, 0, 0, 0, [])]
/-- GrassCells$Collection.add(I)V -/
def qc_Co_add : List qI := [(.aload_n 0, 0, 0, 0, 0, []),
  (.getfield 15, 2, 1, 0, 0, []),
  (.bipush 70, 0, 0, 0, 70, []),
  (.if_icmp .ge 11, 8, 0, 0, 0, []),
  (.aload_n 0, 0, 0, 0, 0, []),
  (.iload_n 1, 0, 0, 0, 0, []),
  (.invokevirtual 47, 67, 2, 3, 0, []),
  (.ifCond .eq 4, 9, 0, 0, 0, []),
  (.return_, 0, 0, 0, 0, []),
  (.aload_n 0, 0, 0, 0, 0, []),
  (.getfield 15, 2, 1, 0, 0, []),
  (.istore_n 2, 0, 0, 0, 0, []),
  (.iload_n 2, 0, 0, 0, 0, []),
  (.ifCond .le 35, 34, 0, 0, 0, []),
  (.aload_n 0, 0, 0, 0, 0, []),
  (.getfield 9, 2, 0, 2, 0, []),
  (.iload_n 2, 0, 0, 0, 0, []),
  (.iconst 1, 0, 0, 0, 1, []),
  (.isub, 0, 0, 0, 0, []),
  (.iaload, 0, 0, 0, 0, []),
  (.iload_n 1, 0, 0, 0, 0, []),
  (.if_icmp .le 23, 34, 0, 0, 0, []),
  (.aload_n 0, 0, 0, 0, 0, []),
  (.getfield 9, 2, 0, 2, 0, []),
  (.iload_n 2, 0, 0, 0, 0, []),
  (.aload_n 0, 0, 0, 0, 0, []),
  (.getfield 9, 2, 0, 2, 0, []),
  (.iload_n 2, 0, 0, 0, 0, []),
  (.iconst 1, 0, 0, 0, 1, []),
  (.isub, 0, 0, 0, 0, []),
  (.iaload, 0, 0, 0, 0, []),
  (.iastore, 0, 0, 0, 0, []),
  (.iinc 2 (-1), 0, 0, 0, 0, []),
  (.goto (-33), 12, 0, 0, 0, []),
  (.aload_n 0, 0, 0, 0, 0, []),
  (.getfield 9, 2, 0, 2, 0, []),
  (.iload_n 2, 0, 0, 0, 0, []),
  (.iload_n 1, 0, 0, 0, 0, []),
  (.iastore, 0, 0, 0, 0, []),
  (.aload_n 0, 0, 0, 0, 0, []),
  (.dup, 0, 0, 0, 0, []),
  (.getfield 15, 2, 1, 0, 0, []),
  (.iconst 1, 0, 0, 0, 1, []),
  (.iadd, 0, 0, 0, 0, []),
  (.putfield 15, 2, 1, 0, 0, []),
  (.return_, 0, 0, 0, 0, [])]
/-- GrassCells$Collection.contains(I)Z -/
def qc_Co_contains : List qI := [(.iconst 0, 0, 0, 0, 0, []),
  (.istore_n 2, 0, 0, 0, 0, []),
  (.iload_n 2, 0, 0, 0, 0, []),
  (.aload_n 0, 0, 0, 0, 0, []),
  (.getfield 15, 2, 1, 0, 0, []),
  (.if_icmp .ge 21, 16, 0, 0, 0, []),
  (.aload_n 0, 0, 0, 0, 0, []),
  (.getfield 9, 2, 0, 2, 0, []),
  (.iload_n 2, 0, 0, 0, 0, []),
  (.iaload, 0, 0, 0, 0, []),
  (.iload_n 1, 0, 0, 0, 0, []),
  (.if_icmp .ne 5, 14, 0, 0, 0, []),
  (.iconst 1, 0, 0, 0, 1, []),
  (.ireturn, 1, 0, 0, 0, []),
  (.iinc 2 1, 0, 0, 0, 0, []),
  (.goto (-23), 2, 0, 0, 0, []),
  (.iconst 0, 0, 0, 0, 0, []),
  (.ireturn, 1, 0, 0, 0, [])]
/-- GrassCells$Collection.crossesNone(II)Z -/
def qc_Co_crossesNone : List qI := [(.iconst 0, 0, 0, 0, 0, []),
  (.istore_n 3, 0, 0, 0, 0, []),
  (.iload_n 3, 0, 0, 0, 0, []),
  (.aload_n 0, 0, 0, 0, 0, []),
  (.getfield 15, 2, 1, 0, 0, []),
  (.if_icmp .ge 25, 18, 0, 0, 0, []),
  (.iload_n 1, 0, 0, 0, 0, []),
  (.aload_n 0, 0, 0, 0, 0, []),
  (.getfield 9, 2, 0, 2, 0, []),
  (.iload_n 3, 0, 0, 0, 0, []),
  (.iaload, 0, 0, 0, 0, []),
  (.iload_n 2, 0, 0, 0, 0, []),
  (.invokestatic 41, 69, 3, 0, 0, []),
  (.ifCond .eq 5, 16, 0, 0, 0, []),
  (.iconst 0, 0, 0, 0, 0, []),
  (.ireturn, 1, 0, 0, 0, []),
  (.iinc 3 1, 0, 0, 0, 0, []),
  (.goto (-27), 2, 0, 0, 0, []),
  (.iconst 1, 0, 0, 0, 1, []),
  (.ireturn, 1, 0, 0, 0, [])]
/-- GrassCells$Sets.crossing(III)Z -/
def qc_Se_crossing : List qI := [(.iload_n 0, 0, 0, 0, 0, []),
  (.iload_n 1, 0, 0, 0, 0, []),
  (.ixor, 0, 0, 0, 0, []),
  (.istore_n 3, 0, 0, 0, 0, []),
  (.iconst 0, 0, 0, 0, 0, []),
  (.istore 4, 0, 0, 0, 0, []),
  (.iconst 0, 0, 0, 0, 0, []),
  (.istore 5, 0, 0, 0, 0, []),
  (.iconst 0, 0, 0, 0, 0, []),
  (.istore 6, 0, 0, 0, 0, []),
  (.iconst 1, 0, 0, 0, 1, []),
  (.istore 7, 0, 0, 0, 0, []),
  (.iload 7, 0, 0, 0, 0, []),
  (.iload_n 2, 0, 0, 0, 0, []),
  (.if_icmp .gt 48, 35, 0, 0, 0, []),
  (.iload_n 3, 0, 0, 0, 0, []),
  (.iload 7, 0, 0, 0, 0, []),
  (.invokestatic 13, 33, 2, 0, 0, []),
  (.ifCond .eq 33, 33, 0, 0, 0, []),
  (.iload_n 0, 0, 0, 0, 0, []),
  (.iload 7, 0, 0, 0, 0, []),
  (.invokestatic 13, 33, 2, 0, 0, []),
  (.istore 8, 0, 0, 0, 0, []),
  (.iload 5, 0, 0, 0, 0, []),
  (.ifCond .eq 13, 29, 0, 0, 0, []),
  (.iload 8, 0, 0, 0, 0, []),
  (.iload 6, 0, 0, 0, 0, []),
  (.if_icmp .eq 6, 29, 0, 0, 0, []),
  (.iinc 4 1, 0, 0, 0, 0, []),
  (.iconst 1, 0, 0, 0, 1, []),
  (.istore 5, 0, 0, 0, 0, []),
  (.iload 8, 0, 0, 0, 0, []),
  (.istore 6, 0, 0, 0, 0, []),
  (.iinc 7 1, 0, 0, 0, 0, []),
  (.goto (-48), 12, 0, 0, 0, []),
  (.iload 4, 0, 0, 0, 0, []),
  (.iconst 3, 0, 0, 0, 3, []),
  (.if_icmp .lt 7, 40, 0, 0, 0, []),
  (.iconst 1, 0, 0, 0, 1, []),
  (.goto 4, 41, 0, 0, 0, []),
  (.iconst 0, 0, 0, 0, 0, []),
  (.ireturn, 1, 0, 0, 0, [])]
/-- GrassCells.f(I)I -/
def qc_GC_f : List qI := [(.aload_n 0, 0, 0, 0, 0, []),
  (.getfield 19, 10, 1, 2, 0, []),
  (.iload_n 1, 0, 0, 0, 0, []),
  (.invokevirtual 91, 71, 2, 1, 0, []),
  (.ifCond .eq 15, 11, 0, 0, 0, []),
  (.aload_n 0, 0, 0, 0, 0, []),
  (.getfield 19, 10, 1, 2, 0, []),
  (.getfield 95, 0, 4, 2, 0, []),
  (.iload_n 1, 0, 0, 0, 0, []),
  (.iaload, 0, 0, 0, 0, []),
  (.goto 4, 12, 0, 0, 0, []),
  (.iconst (-1), 0, 0, 0, (-1), []),
  (.ireturn, 0, 0, 0, 0, [])]
/-- GrassCells$Cell.isLabel(I)Z -/
def qc_Ce_isLabel : List qI := [(.iload_n 1, 0, 0, 0, 0, []),
  (.iconst 1, 0, 0, 0, 1, []),
  (.if_icmp .lt 15, 9, 0, 0, 0, []),
  (.iload_n 1, 0, 0, 0, 0, []),
  (.aload_n 0, 0, 0, 0, 0, []),
  (.getfield 32, 0, 0, 0, 0, []),
  (.if_icmp .gt 7, 9, 0, 0, 0, []),
  (.iconst 1, 0, 0, 0, 1, []),
  (.goto 4, 10, 0, 0, 0, []),
  (.iconst 0, 0, 0, 0, 0, []),
  (.ireturn, 1, 0, 0, 0, [])]
/-- GrassCells.neck(I)I -/
def qc_GC_neck : List qI := [(.aload_n 0, 0, 0, 0, 0, []),
  (.getfield 19, 10, 1, 2, 0, []),
  (.iload_n 1, 0, 0, 0, 0, []),
  (.invokevirtual 91, 71, 2, 1, 0, []),
  (.ifCond .eq 15, 11, 0, 0, 0, []),
  (.aload_n 0, 0, 0, 0, 0, []),
  (.getfield 19, 10, 1, 2, 0, []),
  (.getfield 96, 0, 5, 2, 0, []),
  (.iload_n 1, 0, 0, 0, 0, []),
  (.iaload, 0, 0, 0, 0, []),
  (.goto 4, 12, 0, 0, 0, []),
  (.iconst (-1), 0, 0, 0, (-1), []),
  (.ireturn, 0, 0, 0, 0, [])]
/-- GrassCells.box(II)I -/
def qc_GC_box : List qI := [(.aload_n 0, 0, 0, 0, 0, []),
  (.getfield 19, 10, 1, 2, 0, []),
  (.iload_n 1, 0, 0, 0, 0, []),
  (.invokevirtual 91, 71, 2, 1, 0, []),
  (.ifCond .eq 14, 10, 0, 0, 0, []),
  (.aload_n 0, 0, 0, 0, 0, []),
  (.getfield 19, 10, 1, 2, 0, []),
  (.iload_n 2, 0, 0, 0, 0, []),
  (.invokevirtual 91, 71, 2, 1, 0, []),
  (.ifCond .ne 5, 12, 0, 0, 0, []),
  (.iconst (-1), 0, 0, 0, (-1), []),
  (.ireturn, 0, 0, 0, 0, []),
  (.aload_n 0, 0, 0, 0, 0, []),
  (.getfield 19, 10, 1, 2, 0, []),
  (.getfield 99, 0, 7, 2, 0, []),
  (.iload_n 1, 0, 0, 0, 0, []),
  (.iload_n 2, 0, 0, 0, 0, []),
  (.invokevirtual 103, 35, 3, 4, 0, []),
  (.ifCond .ne 6, 21, 0, 0, 0, []),
  (.bipush (-2), 0, 0, 0, (-2), []),
  (.ireturn, 0, 0, 0, 0, []),
  (.aload_n 0, 0, 0, 0, 0, []),
  (.getfield 19, 10, 1, 2, 0, []),
  (.getfield 99, 0, 7, 2, 0, []),
  (.iload_n 1, 0, 0, 0, 0, []),
  (.iload_n 2, 0, 0, 0, 0, []),
  (.invokevirtual 109, 39, 3, 4, 0, []),
  (.ifCond .eq 7, 30, 0, 0, 0, []),
  (.iconst 1, 0, 0, 0, 1, []),
  (.goto 4, 31, 0, 0, 0, []),
  (.iconst 0, 0, 0, 0, 0, []),
  (.ireturn, 0, 0, 0, 0, [])]
/-- GrassCells.bases()I -/
def qc_GC_bases : List qI := [(.aload_n 0, 0, 0, 0, 0, []),
  (.getfield 19, 10, 1, 2, 0, []),
  (.getfield 90, 0, 0, 0, 0, []),
  (.ifCond .le 13, 8, 0, 0, 0, []),
  (.aload_n 0, 0, 0, 0, 0, []),
  (.getfield 19, 10, 1, 2, 0, []),
  (.getfield 112, 0, 3, 0, 0, []),
  (.goto 4, 9, 0, 0, 0, []),
  (.iconst (-1), 0, 0, 0, (-1), []),
  (.ireturn, 0, 0, 0, 0, [])]
/-- GrassCells.basis(I)I -/
def qc_GC_basis : List qI := [(.aload_n 0, 0, 0, 0, 0, []),
  (.getfield 19, 10, 1, 2, 0, []),
  (.getfield 90, 0, 0, 0, 0, []),
  (.ifCond .eq 7, 6, 0, 0, 0, []),
  (.iload_n 1, 0, 0, 0, 0, []),
  (.ifCond .ge 5, 8, 0, 0, 0, []),
  (.iconst (-1), 0, 0, 0, (-1), []),
  (.ireturn, 0, 0, 0, 0, []),
  (.iload_n 1, 0, 0, 0, 0, []),
  (.aload_n 0, 0, 0, 0, 0, []),
  (.getfield 19, 10, 1, 2, 0, []),
  (.getfield 112, 0, 3, 0, 0, []),
  (.if_icmp .ge 15, 19, 0, 0, 0, []),
  (.aload_n 0, 0, 0, 0, 0, []),
  (.getfield 19, 10, 1, 2, 0, []),
  (.getfield 115, 0, 6, 2, 0, []),
  (.iload_n 1, 0, 0, 0, 0, []),
  (.iaload, 0, 0, 0, 0, []),
  (.goto 5, 20, 0, 0, 0, []),
  (.bipush (-2), 0, 0, 0, (-2), []),
  (.ireturn, 0, 0, 0, 0, [])]
/-- GrassCells.rank(I)I -/
def qc_GC_rank : List qI := [(.aload_n 0, 0, 0, 0, 0, []),
  (.getfield 19, 10, 1, 2, 0, []),
  (.iload_n 1, 0, 0, 0, 0, []),
  (.invokevirtual 118, 60, 2, 1, 0, []),
  (.ifCond .eq 14, 10, 0, 0, 0, []),
  (.aload_n 0, 0, 0, 0, 0, []),
  (.getfield 19, 10, 1, 2, 0, []),
  (.iload_n 1, 0, 0, 0, 0, []),
  (.invokevirtual 121, 77, 2, 1, 0, []),
  (.goto 4, 11, 0, 0, 0, []),
  (.iconst (-1), 0, 0, 0, (-1), []),
  (.ireturn, 0, 0, 0, 0, [])]
/-- GrassCells$Cell.rankOf(I)I -/
def qc_Ce_rankOf : List qI := [(.iconst 0, 0, 0, 0, 0, []),
  (.istore_n 2, 0, 0, 0, 0, []),
  (.iconst 0, 0, 0, 0, 0, []),
  (.istore_n 3, 0, 0, 0, 0, []),
  (.iload_n 3, 0, 0, 0, 0, []),
  (.aload_n 0, 0, 0, 0, 0, []),
  (.getfield 67, 0, 3, 0, 0, []),
  (.if_icmp .ge 25, 20, 0, 0, 0, []),
  (.iload_n 2, 0, 0, 0, 0, []),
  (.aload_n 0, 0, 0, 0, 0, []),
  (.getfield 18, 0, 6, 2, 0, []),
  (.iload_n 3, 0, 0, 0, 0, []),
  (.iaload, 0, 0, 0, 0, []),
  (.iload_n 1, 0, 0, 0, 0, []),
  (.iand, 0, 0, 0, 0, []),
  (.invokestatic 59, 47, 1, 0, 0, []),
  (.invokestatic 91, 78, 2, 91, 0, []),
  (.istore_n 2, 0, 0, 0, 0, []),
  (.iinc 3 1, 0, 0, 0, 0, []),
  (.goto (-27), 4, 0, 0, 0, []),
  (.iload_n 2, 0, 0, 0, 0, []),
  (.ireturn, 0, 0, 0, 0, [])]
/-- java/lang/Math.max(II)I -/
def qc_J_max : List qI := [(.iload_n 0, 0, 0, 0, 0, []),
  (.iload_n 1, 0, 0, 0, 0, []),
  (.if_icmp .lt 7, 5, 0, 0, 0, []),
  (.iload_n 0, 0, 0, 0, 0, []),
  (.goto 4, 6, 0, 0, 0, []),
  (.iload_n 1, 0, 0, 0, 0, []),
  (.ireturn, 0, 0, 0, 0, [])]
/-- GrassCells.exchange(III)I -/
def qc_GC_exchange : List qI := [(.aload_n 0, 0, 0, 0, 0, []),
  (.getfield 19, 10, 1, 2, 0, []),
  (.iload_n 1, 0, 0, 0, 0, []),
  (.invokevirtual 125, 80, 2, 1, 0, []),
  (.ifCond .eq 25, 15, 0, 0, 0, []),
  (.aload_n 0, 0, 0, 0, 0, []),
  (.getfield 19, 10, 1, 2, 0, []),
  (.iload_n 2, 0, 0, 0, 0, []),
  (.invokevirtual 125, 80, 2, 1, 0, []),
  (.ifCond .eq 14, 15, 0, 0, 0, []),
  (.aload_n 0, 0, 0, 0, 0, []),
  (.getfield 19, 10, 1, 2, 0, []),
  (.iload_n 3, 0, 0, 0, 0, []),
  (.invokevirtual 91, 71, 2, 1, 0, []),
  (.ifCond .ne 5, 17, 0, 0, 0, []),
  (.iconst (-1), 0, 0, 0, (-1), []),
  (.ireturn, 0, 0, 0, 0, []),
  (.iload_n 1, 0, 0, 0, 0, []),
  (.iload_n 3, 0, 0, 0, 0, []),
  (.invokestatic 128, 33, 2, 0, 0, []),
  (.ifCond .eq 11, 25, 0, 0, 0, []),
  (.iload_n 2, 0, 0, 0, 0, []),
  (.iload_n 3, 0, 0, 0, 0, []),
  (.invokestatic 128, 33, 2, 0, 0, []),
  (.ifCond .eq 5, 27, 0, 0, 0, []),
  (.iconst (-1), 0, 0, 0, (-1), []),
  (.ireturn, 0, 0, 0, 0, []),
  (.aload_n 0, 0, 0, 0, 0, []),
  (.getfield 19, 10, 1, 2, 0, []),
  (.iload_n 1, 0, 0, 0, 0, []),
  (.iload_n 2, 0, 0, 0, 0, []),
  (.iload_n 3, 0, 0, 0, 0, []),
  (.invokevirtual 133, 81, 4, 1, 0, []),
  (.ireturn, 0, 0, 0, 0, [])]
/-- GrassCells$Cell.isBasis(I)Z -/
def qc_Ce_isBasis : List qI := [(.aload_n 0, 0, 0, 0, 0, []),
  (.iload_n 1, 0, 0, 0, 0, []),
  (.invokevirtual 88, 60, 2, 1, 0, []),
  (.ifCond .eq 16, 11, 0, 0, 0, []),
  (.aload_n 0, 0, 0, 0, 0, []),
  (.getfield 28, 0, 8, 2, 0, []),
  (.iload_n 1, 0, 0, 0, 0, []),
  (.baload, 0, 0, 0, 0, []),
  (.ifCond .eq 7, 11, 0, 0, 0, []),
  (.iconst 1, 0, 0, 0, 1, []),
  (.goto 4, 12, 0, 0, 0, []),
  (.iconst 0, 0, 0, 0, 0, []),
  (.ireturn, 1, 0, 0, 0, [])]
/-- GrassCells$Cell.leastExchange(III)I -/
def qc_Ce_leastExchange : List qI := [(.iconst 1, 0, 0, 0, 1, []),
  (.istore 4, 0, 0, 0, 0, []),
  (.iload 4, 0, 0, 0, 0, []),
  (.aload_n 0, 0, 0, 0, 0, []),
  (.getfield 32, 0, 0, 0, 0, []),
  (.if_icmp .gt 46, 30, 0, 0, 0, []),
  (.iload_n 2, 0, 0, 0, 0, []),
  (.iload_n 1, 0, 0, 0, 0, []),
  (.iconst (-1), 0, 0, 0, (-1), []),
  (.ixor, 0, 0, 0, 0, []),
  (.iand, 0, 0, 0, 0, []),
  (.iload 4, 0, 0, 0, 0, []),
  (.invokestatic 97, 33, 2, 0, 0, []),
  (.ifCond .eq 27, 28, 0, 0, 0, []),
  (.aload_n 0, 0, 0, 0, 0, []),
  (.iload_n 1, 0, 0, 0, 0, []),
  (.iload_n 3, 0, 0, 0, 0, []),
  (.invokestatic 53, 27, 1, 0, 0, []),
  (.iconst (-1), 0, 0, 0, (-1), []),
  (.ixor, 0, 0, 0, 0, []),
  (.iand, 0, 0, 0, 0, []),
  (.iload 4, 0, 0, 0, 0, []),
  (.invokestatic 53, 27, 1, 0, 0, []),
  (.ior, 0, 0, 0, 0, []),
  (.invokevirtual 101, 80, 2, 1, 0, []),
  (.ifCond .eq 6, 28, 0, 0, 0, []),
  (.iload 4, 0, 0, 0, 0, []),
  (.ireturn, 0, 0, 0, 0, []),
  (.iinc 4 1, 0, 0, 0, 0, []),
  (.goto (-49), 2, 0, 0, 0, []),
  (.bipush (-2), 0, 0, 0, (-2), []),
  (.ireturn, 0, 0, 0, 0, [])]
/-- GrassCells.part(I)I -/
def qc_GC_part : List qI := [(.aload_n 0, 0, 0, 0, 0, []),
  (.getfield 19, 10, 1, 2, 0, []),
  (.iload_n 1, 0, 0, 0, 0, []),
  (.invokevirtual 91, 71, 2, 1, 0, []),
  (.ifCond .eq 17, 11, 0, 0, 0, []),
  (.aload_n 0, 0, 0, 0, 0, []),
  (.getfield 19, 10, 1, 2, 0, []),
  (.iload_n 1, 0, 0, 0, 0, []),
  (.invokevirtual 137, 83, 2, 1, 0, []),
  (.invokestatic 140, 50, 1, 0, 0, []),
  (.goto 4, 12, 0, 0, 0, []),
  (.iconst (-1), 0, 0, 0, (-1), []),
  (.ireturn, 0, 0, 0, 0, [])]
/-- GrassCells$Cell.hangingTogether(I)I -/
def qc_Ce_hangingTogether : List qI := [(.iload_n 1, 0, 0, 0, 0, []),
  (.invokestatic 53, 27, 1, 0, 0, []),
  (.istore_n 2, 0, 0, 0, 0, []),
  (.iconst 0, 0, 0, 0, 0, []),
  (.istore_n 3, 0, 0, 0, 0, []),
  (.iconst 0, 0, 0, 0, 0, []),
  (.istore 4, 0, 0, 0, 0, []),
  (.iload 4, 0, 0, 0, 0, []),
  (.aload_n 0, 0, 0, 0, 0, []),
  (.getfield 32, 0, 0, 0, 0, []),
  (.if_icmp .ge 41, 34, 0, 0, 0, []),
  (.iload_n 2, 0, 0, 0, 0, []),
  (.iload_n 3, 0, 0, 0, 0, []),
  (.if_icmp .eq 36, 34, 0, 0, 0, []),
  (.iload_n 2, 0, 0, 0, 0, []),
  (.iload_n 3, 0, 0, 0, 0, []),
  (.iconst (-1), 0, 0, 0, (-1), []),
  (.ixor, 0, 0, 0, 0, []),
  (.iand, 0, 0, 0, 0, []),
  (.invokestatic 104, 50, 1, 0, 0, []),
  (.istore 5, 0, 0, 0, 0, []),
  (.iload_n 3, 0, 0, 0, 0, []),
  (.iload 5, 0, 0, 0, 0, []),
  (.invokestatic 53, 27, 1, 0, 0, []),
  (.ior, 0, 0, 0, 0, []),
  (.istore_n 3, 0, 0, 0, 0, []),
  (.iload_n 2, 0, 0, 0, 0, []),
  (.aload_n 0, 0, 0, 0, 0, []),
  (.iload 5, 0, 0, 0, 0, []),
  (.invokevirtual 107, 84, 2, 1, 0, []),
  (.ior, 0, 0, 0, 0, []),
  (.istore_n 2, 0, 0, 0, 0, []),
  (.iinc 4 1, 0, 0, 0, 0, []),
  (.goto (-44), 7, 0, 0, 0, []),
  (.iload_n 2, 0, 0, 0, 0, []),
  (.ireturn, 0, 0, 0, 0, [])]
/-- GrassCells$Cell.exchangeable(I)I -/
def qc_Ce_exchangeable : List qI := [(.iconst 0, 0, 0, 0, 0, []),
  (.istore_n 2, 0, 0, 0, 0, []),
  (.iconst 0, 0, 0, 0, 0, []),
  (.istore_n 3, 0, 0, 0, 0, []),
  (.iload_n 3, 0, 0, 0, 0, []),
  (.aload_n 0, 0, 0, 0, 0, []),
  (.getfield 67, 0, 3, 0, 0, []),
  (.if_icmp .ge 90, 54, 0, 0, 0, []),
  (.aload_n 0, 0, 0, 0, 0, []),
  (.getfield 18, 0, 6, 2, 0, []),
  (.iload_n 3, 0, 0, 0, 0, []),
  (.iaload, 0, 0, 0, 0, []),
  (.iload_n 1, 0, 0, 0, 0, []),
  (.invokestatic 97, 33, 2, 0, 0, []),
  (.ifCond .eq 71, 52, 0, 0, 0, []),
  (.iconst 1, 0, 0, 0, 1, []),
  (.istore 4, 0, 0, 0, 0, []),
  (.iload 4, 0, 0, 0, 0, []),
  (.aload_n 0, 0, 0, 0, 0, []),
  (.getfield 32, 0, 0, 0, 0, []),
  (.if_icmp .gt 59, 52, 0, 0, 0, []),
  (.aload_n 0, 0, 0, 0, 0, []),
  (.getfield 18, 0, 6, 2, 0, []),
  (.iload_n 3, 0, 0, 0, 0, []),
  (.iaload, 0, 0, 0, 0, []),
  (.iload_n 2, 0, 0, 0, 0, []),
  (.ior, 0, 0, 0, 0, []),
  (.iload 4, 0, 0, 0, 0, []),
  (.invokestatic 97, 33, 2, 0, 0, []),
  (.ifCond .ne 37, 50, 0, 0, 0, []),
  (.aload_n 0, 0, 0, 0, 0, []),
  (.aload_n 0, 0, 0, 0, 0, []),
  (.getfield 18, 0, 6, 2, 0, []),
  (.iload_n 3, 0, 0, 0, 0, []),
  (.iaload, 0, 0, 0, 0, []),
  (.iload_n 1, 0, 0, 0, 0, []),
  (.invokestatic 53, 27, 1, 0, 0, []),
  (.iconst (-1), 0, 0, 0, (-1), []),
  (.ixor, 0, 0, 0, 0, []),
  (.iand, 0, 0, 0, 0, []),
  (.iload 4, 0, 0, 0, 0, []),
  (.invokestatic 53, 27, 1, 0, 0, []),
  (.ior, 0, 0, 0, 0, []),
  (.invokevirtual 101, 80, 2, 1, 0, []),
  (.ifCond .eq 11, 50, 0, 0, 0, []),
  (.iload_n 2, 0, 0, 0, 0, []),
  (.iload 4, 0, 0, 0, 0, []),
  (.invokestatic 53, 27, 1, 0, 0, []),
  (.ior, 0, 0, 0, 0, []),
  (.istore_n 2, 0, 0, 0, 0, []),
  (.iinc 4 1, 0, 0, 0, 0, []),
  (.goto (-62), 17, 0, 0, 0, []),
  (.iinc 3 1, 0, 0, 0, 0, []),
  (.goto (-92), 4, 0, 0, 0, []),
  (.iload_n 2, 0, 0, 0, 0, []),
  (.ireturn, 0, 0, 0, 0, [])]
/-- GrassCells.ways(I)J -/
def qc_GC_ways : List qI := [(.aload_n 0, 0, 0, 0, 0, []),
  (.getfield 19, 10, 1, 2, 0, []),
  (.iload_n 1, 0, 0, 0, 0, []),
  (.invokevirtual 143, 59, 2, 1, 0, []),
  (.ifCond .eq 17, 11, 0, 0, 0, []),
  (.aload_n 0, 0, 0, 0, 0, []),
  (.getfield 19, 10, 1, 2, 0, []),
  (.getfield 99, 0, 7, 2, 0, []),
  (.iload_n 1, 0, 0, 0, 0, []),
  (.invokevirtual 146, 86, 2, 4, 0, []),
  (.goto 6, 12, 0, 0, 0, []),
  (.ldc2_w 150, 0, 0, 0, (-1), []),
  (.lreturn, 0, 0, 0, 0, [])]
/-- GrassCells$Diagram.waysTo(I)J -/
def qc_Di_waysTo : List qI := [(.aload_n 0, 0, 0, 0, 0, []),
  (.getfield 37, 3, 1, 0, 0, []),
  (.iload_n 1, 0, 0, 0, 0, []),
  (.iconst (-1), 0, 0, 0, (-1), []),
  (.ixor, 0, 0, 0, 0, []),
  (.iand, 0, 0, 0, 0, []),
  (.istore_n 2, 0, 0, 0, 0, []),
  (.iload_n 1, 0, 0, 0, 0, []),
  (.aload_n 0, 0, 0, 0, 0, []),
  (.getfield 37, 3, 1, 0, 0, []),
  (.iconst (-1), 0, 0, 0, (-1), []),
  (.ixor, 0, 0, 0, 0, []),
  (.iand, 0, 0, 0, 0, []),
  (.istore_n 3, 0, 0, 0, 0, []),
  (.iconst 1, 0, 0, 0, 1, []),
  (.istore 4, 0, 0, 0, 0, []),
  (.iload 4, 0, 0, 0, 0, []),
  (.aload_n 0, 0, 0, 0, 0, []),
  (.getfield 33, 3, 0, 0, 0, []),
  (.if_icmp .gt 24, 29, 0, 0, 0, []),
  (.iload_n 3, 0, 0, 0, 0, []),
  (.iload 4, 0, 0, 0, 0, []),
  (.invokestatic 46, 33, 2, 0, 0, []),
  (.ifCond .eq 9, 27, 0, 0, 0, []),
  (.aload_n 0, 0, 0, 0, 0, []),
  (.iload 4, 0, 0, 0, 0, []),
  (.invokevirtual 89, 87, 2, 4, 0, []),
  (.iinc 4 1, 0, 0, 0, 0, []),
  (.goto (-27), 16, 0, 0, 0, []),
  (.aload_n 0, 0, 0, 0, 0, []),
  (.getfield 30, 3, 7, 2, 0, []),
  (.lconst 0, 0, 0, 0, 0, []),
  (.invokestatic 93, 88, 2, 0, 0, []),
  (.aload_n 0, 0, 0, 0, 0, []),
  (.getfield 30, 3, 7, 2, 0, []),
  (.iconst 0, 0, 0, 0, 0, []),
  (.lconst 1, 0, 0, 0, 1, []),
  (.lastore, 0, 0, 0, 0, []),
  (.iconst 0, 0, 0, 0, 0, []),
  (.istore 4, 0, 0, 0, 0, []),
  (.iconst 1, 0, 0, 0, 1, []),
  (.istore 5, 0, 0, 0, 0, []),
  (.iload 5, 0, 0, 0, 0, []),
  (.aload_n 0, 0, 0, 0, 0, []),
  (.getfield 33, 3, 0, 0, 0, []),
  (.if_icmp .gt 30, 58, 0, 0, 0, []),
  (.iload_n 2, 0, 0, 0, 0, []),
  (.iload 5, 0, 0, 0, 0, []),
  (.invokestatic 46, 33, 2, 0, 0, []),
  (.ifCond .eq 15, 56, 0, 0, 0, []),
  (.aload_n 0, 0, 0, 0, 0, []),
  (.iload 5, 0, 0, 0, 0, []),
  (.iload_n 3, 0, 0, 0, 0, []),
  (.iload 4, 0, 0, 0, 0, []),
  (.invokevirtual 96, 89, 4, 4, 0, []),
  (.iinc 4 1, 0, 0, 0, 0, []),
  (.iinc 5 1, 0, 0, 0, 0, []),
  (.goto (-33), 42, 0, 0, 0, []),
  (.aload_n 0, 0, 0, 0, 0, []),
  (.getfield 30, 3, 7, 2, 0, []),
  (.iload_n 3, 0, 0, 0, 0, []),
  (.laload, 0, 0, 0, 0, []),
  (.invokestatic 100, 90, 1, 93, 0, []),
  (.lreturn, 0, 0, 0, 0, [])]
/-- GrassCells$Diagram.countPathsTo(I)V -/
def qc_Di_countPathsTo : List qI := [(.aload_n 0, 0, 0, 0, 0, []),
  (.getfield 21, 3, 5, 2, 0, []),
  (.lconst 0, 0, 0, 0, 0, []),
  (.invokestatic 93, 88, 2, 0, 0, []),
  (.aload_n 0, 0, 0, 0, 0, []),
  (.getfield 21, 3, 5, 2, 0, []),
  (.iload_n 1, 0, 0, 0, 0, []),
  (.lconst 1, 0, 0, 0, 1, []),
  (.lastore, 0, 0, 0, 0, []),
  (.aload_n 0, 0, 0, 0, 0, []),
  (.getfield 33, 3, 0, 0, 0, []),
  (.istore_n 2, 0, 0, 0, 0, []),
  (.iload_n 2, 0, 0, 0, 0, []),
  (.iconst 1, 0, 0, 0, 1, []),
  (.if_icmp .lt 66, 51, 0, 0, 0, []),
  (.lconst 0, 0, 0, 0, 0, []),
  (.lstore_n 3, 0, 0, 0, 0, []),
  (.aload_n 0, 0, 0, 0, 0, []),
  (.getfield 33, 3, 0, 0, 0, []),
  (.istore 5, 0, 0, 0, 0, []),
  (.iload 5, 0, 0, 0, 0, []),
  (.iload_n 2, 0, 0, 0, 0, []),
  (.if_icmp .le 37, 42, 0, 0, 0, []),
  (.aload_n 0, 0, 0, 0, 0, []),
  (.iload_n 2, 0, 0, 0, 0, []),
  (.iload 5, 0, 0, 0, 0, []),
  (.invokevirtual 56, 39, 3, 4, 0, []),
  (.ifCond .eq 21, 40, 0, 0, 0, []),
  (.lload_n 3, 0, 0, 0, 0, []),
  (.aload_n 0, 0, 0, 0, 0, []),
  (.getfield 21, 3, 5, 2, 0, []),
  (.iload 5, 0, 0, 0, 0, []),
  (.laload, 0, 0, 0, 0, []),
  (.ladd, 0, 0, 0, 0, []),
  (.lstore_n 3, 0, 0, 0, 0, []),
  (.aload_n 0, 0, 0, 0, 0, []),
  (.getfield 21, 3, 5, 2, 0, []),
  (.iload 5, 0, 0, 0, 0, []),
  (.lload_n 3, 0, 0, 0, 0, []),
  (.lastore, 0, 0, 0, 0, []),
  (.iinc 5 (-1), 0, 0, 0, 0, []),
  (.goto (-37), 20, 0, 0, 0, []),
  (.aload_n 0, 0, 0, 0, 0, []),
  (.getfield 27, 3, 6, 2, 0, []),
  (.iload_n 2, 0, 0, 0, 0, []),
  (.aaload, 0, 0, 0, 0, []),
  (.iload_n 1, 0, 0, 0, 0, []),
  (.lload_n 3, 0, 0, 0, 0, []),
  (.lastore, 0, 0, 0, 0, []),
  (.iinc 2 (-1), 0, 0, 0, 0, []),
  (.goto (-65), 12, 0, 0, 0, []),
  (.return_, 0, 0, 0, 0, [])]
/-- java/util/Arrays.fill([JJ)V -/
def qc_J_fill2 : List qI := [(.iconst 0, 0, 0, 0, 0, []),
  (.istore_n 3, 0, 0, 0, 0, []),
  (.aload_n 0, 0, 0, 0, 0, []),
  (.arraylength, 0, 0, 0, 0, []),
  (.istore 4, 0, 0, 0, 0, []),
  (.iload_n 3, 0, 0, 0, 0, []),
  (.iload 4, 0, 0, 0, 0, []),
  (.if_icmp .ge 13, 14, 0, 0, 0, []),
  (.aload_n 0, 0, 0, 0, 0, []),
  (.iload_n 3, 0, 0, 0, 0, []),
  (.lload_n 1, 0, 0, 0, 0, []),
  (.lastore, 0, 0, 0, 0, []),
  (.iinc 3 1, 0, 0, 0, 0, []),
  (.goto (-13), 5, 0, 0, 0, []),
  (.return_, 0, 0, 0, 0, [])]
/-- GrassCells$Diagram.expandRow(III)V -/
def qc_Di_expandRow : List qI := [(.iconst 0, 0, 0, 0, 0, []),
  (.istore 4, 0, 0, 0, 0, []),
  (.iload 4, 0, 0, 0, 0, []),
  (.iload_n 2, 0, 0, 0, 0, []),
  (.if_icmp .gt 129, 74, 0, 0, 0, []),
  (.iload 4, 0, 0, 0, 0, []),
  (.iload_n 2, 0, 0, 0, 0, []),
  (.iconst (-1), 0, 0, 0, (-1), []),
  (.ixor, 0, 0, 0, 0, []),
  (.iand, 0, 0, 0, 0, []),
  (.ifCond .ne 114, 72, 0, 0, 0, []),
  (.iload 4, 0, 0, 0, 0, []),
  (.invokestatic 84, 47, 1, 0, 0, []),
  (.iload_n 3, 0, 0, 0, 0, []),
  (.if_icmp .ne 105, 72, 0, 0, 0, []),
  (.iload_n 1, 0, 0, 0, 0, []),
  (.iconst 1, 0, 0, 0, 1, []),
  (.iadd, 0, 0, 0, 0, []),
  (.istore 5, 0, 0, 0, 0, []),
  (.iload 5, 0, 0, 0, 0, []),
  (.aload_n 0, 0, 0, 0, 0, []),
  (.getfield 33, 3, 0, 0, 0, []),
  (.if_icmp .gt 91, 72, 0, 0, 0, []),
  (.iload_n 2, 0, 0, 0, 0, []),
  (.iload 4, 0, 0, 0, 0, []),
  (.iconst (-1), 0, 0, 0, (-1), []),
  (.ixor, 0, 0, 0, 0, []),
  (.iand, 0, 0, 0, 0, []),
  (.iload 5, 0, 0, 0, 0, []),
  (.invokestatic 46, 33, 2, 0, 0, []),
  (.ifCond .eq 71, 70, 0, 0, 0, []),
  (.aload_n 0, 0, 0, 0, 0, []),
  (.getfield 30, 3, 7, 2, 0, []),
  (.iload 4, 0, 0, 0, 0, []),
  (.laload, 0, 0, 0, 0, []),
  (.aload_n 0, 0, 0, 0, 0, []),
  (.getfield 27, 3, 6, 2, 0, []),
  (.iload_n 1, 0, 0, 0, 0, []),
  (.aaload, 0, 0, 0, 0, []),
  (.iload 5, 0, 0, 0, 0, []),
  (.laload, 0, 0, 0, 0, []),
  (.lmul, 0, 0, 0, 0, []),
  (.lstore 6, 0, 0, 0, 0, []),
  (.iload 4, 0, 0, 0, 0, []),
  (.iload 5, 0, 0, 0, 0, []),
  (.ishr, 0, 0, 0, 0, []),
  (.invokestatic 84, 47, 1, 0, 0, []),
  (.iconst 1, 0, 0, 0, 1, []),
  (.iand, 0, 0, 0, 0, []),
  (.ifCond .eq 7, 52, 0, 0, 0, []),
  (.iconst 1, 0, 0, 0, 1, []),
  (.goto 4, 53, 0, 0, 0, []),
  (.iconst 0, 0, 0, 0, 0, []),
  (.istore 8, 0, 0, 0, 0, []),
  (.aload_n 0, 0, 0, 0, 0, []),
  (.getfield 30, 3, 7, 2, 0, []),
  (.iload 4, 0, 0, 0, 0, []),
  (.iload 5, 0, 0, 0, 0, []),
  (.invokestatic 52, 27, 1, 0, 0, []),
  (.ior, 0, 0, 0, 0, []),
  (.dup2, 0, 0, 0, 0, []),
  (.laload, 0, 0, 0, 0, []),
  (.iload 8, 0, 0, 0, 0, []),
  (.ifCond .eq 9, 67, 0, 0, 0, []),
  (.lload 6, 0, 0, 0, 0, []),
  (.lneg, 0, 0, 0, 0, []),
  (.goto 5, 68, 0, 0, 0, []),
  (.lload 6, 0, 0, 0, 0, []),
  (.ladd, 0, 0, 0, 0, []),
  (.lastore, 0, 0, 0, 0, []),
  (.iinc 5 1, 0, 0, 0, 0, []),
  (.goto (-94), 19, 0, 0, 0, []),
  (.iinc 4 1, 0, 0, 0, 0, []),
  (.goto (-129), 2, 0, 0, 0, []),
  (.return_, 0, 0, 0, 0, [])]
/-- java/lang/Math.abs(J)J -/
def qc_J_abs : List qI := [(.lload_n 0, 0, 0, 0, 0, []),
  (.lconst 0, 0, 0, 0, 0, []),
  (.lcmp, 0, 0, 0, 0, []),
  (.ifCond .ge 8, 7, 0, 0, 0, []),
  (.lload_n 0, 0, 0, 0, 0, []),
  (.lneg, 0, 0, 0, 0, []),
  (.goto 4, 8, 0, 0, 0, []),
  (.lload_n 0, 0, 0, 0, 0, []),
  (.lreturn, 0, 0, 0, 0, [])]
/-- GrassCells.cross(II)I -/
def qc_GC_cross : List qI := [(.aload_n 0, 0, 0, 0, 0, []),
  (.getfield 19, 10, 1, 2, 0, []),
  (.iload_n 1, 0, 0, 0, 0, []),
  (.invokevirtual 143, 59, 2, 1, 0, []),
  (.ifCond .eq 14, 10, 0, 0, 0, []),
  (.aload_n 0, 0, 0, 0, 0, []),
  (.getfield 19, 10, 1, 2, 0, []),
  (.iload_n 2, 0, 0, 0, 0, []),
  (.invokevirtual 143, 59, 2, 1, 0, []),
  (.ifCond .ne 5, 12, 0, 0, 0, []),
  (.iconst (-1), 0, 0, 0, (-1), []),
  (.ireturn, 0, 0, 0, 0, []),
  (.iload_n 1, 0, 0, 0, 0, []),
  (.iload_n 2, 0, 0, 0, 0, []),
  (.aload_n 0, 0, 0, 0, 0, []),
  (.getfield 19, 10, 1, 2, 0, []),
  (.getfield 90, 0, 0, 0, 0, []),
  (.invokestatic 152, 69, 3, 0, 0, []),
  (.ifCond .eq 7, 21, 0, 0, 0, []),
  (.iconst 1, 0, 0, 0, 1, []),
  (.goto 4, 22, 0, 0, 0, []),
  (.iconst 0, 0, 0, 0, 0, []),
  (.ireturn, 0, 0, 0, 0, [])]
/-- GrassCells.cluster(I)I -/
def qc_GC_cluster : List qI := [(.aload_n 0, 0, 0, 0, 0, []),
  (.getfield 19, 10, 1, 2, 0, []),
  (.getfield 90, 0, 0, 0, 0, []),
  (.ifCond .eq 8, 7, 0, 0, 0, []),
  (.iload_n 1, 0, 0, 0, 0, []),
  (.iconst (-1), 0, 0, 0, (-1), []),
  (.if_icmp .ge 5, 9, 0, 0, 0, []),
  (.iconst (-1), 0, 0, 0, (-1), []),
  (.ireturn, 0, 0, 0, 0, []),
  (.iload_n 1, 0, 0, 0, 0, []),
  (.iconst (-1), 0, 0, 0, (-1), []),
  (.if_icmp .ne 11, 16, 0, 0, 0, []),
  (.aload_n 0, 0, 0, 0, 0, []),
  (.getfield 26, 10, 2, 2, 0, []),
  (.getfield 156, 2, 1, 0, 0, []),
  (.ireturn, 0, 0, 0, 0, []),
  (.iload_n 1, 0, 0, 0, 0, []),
  (.aload_n 0, 0, 0, 0, 0, []),
  (.getfield 26, 10, 2, 2, 0, []),
  (.getfield 156, 2, 1, 0, 0, []),
  (.if_icmp .ge 15, 27, 0, 0, 0, []),
  (.aload_n 0, 0, 0, 0, 0, []),
  (.getfield 26, 10, 2, 2, 0, []),
  (.getfield 159, 2, 0, 2, 0, []),
  (.iload_n 1, 0, 0, 0, 0, []),
  (.iaload, 0, 0, 0, 0, []),
  (.goto 5, 28, 0, 0, 0, []),
  (.bipush (-2), 0, 0, 0, (-2), []),
  (.ireturn, 0, 0, 0, 0, [])]
/-- GrassCells.square(I)I -/
def qc_GC_square : List qI := [(.aload_n 0, 0, 0, 0, 0, []),
  (.getfield 19, 10, 1, 2, 0, []),
  (.getfield 90, 0, 0, 0, 0, []),
  (.ifCond .eq 8, 7, 0, 0, 0, []),
  (.iload_n 1, 0, 0, 0, 0, []),
  (.iconst (-1), 0, 0, 0, (-1), []),
  (.if_icmp .ge 5, 9, 0, 0, 0, []),
  (.iconst (-1), 0, 0, 0, (-1), []),
  (.ireturn, 0, 0, 0, 0, []),
  (.iconst 0, 0, 0, 0, 0, []),
  (.istore_n 2, 0, 0, 0, 0, []),
  (.iconst 0, 0, 0, 0, 0, []),
  (.istore_n 3, 0, 0, 0, 0, []),
  (.iload_n 3, 0, 0, 0, 0, []),
  (.aload_n 0, 0, 0, 0, 0, []),
  (.getfield 26, 10, 2, 2, 0, []),
  (.getfield 156, 2, 1, 0, 0, []),
  (.if_icmp .ge 49, 40, 0, 0, 0, []),
  (.aload_n 0, 0, 0, 0, 0, []),
  (.getfield 26, 10, 2, 2, 0, []),
  (.getfield 159, 2, 0, 2, 0, []),
  (.iload_n 3, 0, 0, 0, 0, []),
  (.iaload, 0, 0, 0, 0, []),
  (.istore 4, 0, 0, 0, 0, []),
  (.aload_n 0, 0, 0, 0, 0, []),
  (.getfield 26, 10, 2, 2, 0, []),
  (.iload 4, 0, 0, 0, 0, []),
  (.aload_n 0, 0, 0, 0, 0, []),
  (.getfield 19, 10, 1, 2, 0, []),
  (.invokevirtual 162, 94, 3, 3, 0, []),
  (.bipush (-2), 0, 0, 0, (-2), []),
  (.if_icmp .eq 14, 38, 0, 0, 0, []),
  (.iload_n 2, 0, 0, 0, 0, []),
  (.iload_n 1, 0, 0, 0, 0, []),
  (.if_icmp .ne 6, 37, 0, 0, 0, []),
  (.iload 4, 0, 0, 0, 0, []),
  (.ireturn, 0, 0, 0, 0, []),
  (.iinc 2 1, 0, 0, 0, 0, []),
  (.iinc 3 1, 0, 0, 0, 0, []),
  (.goto (-54), 13, 0, 0, 0, []),
  (.iload_n 1, 0, 0, 0, 0, []),
  (.iconst (-1), 0, 0, 0, (-1), []),
  (.if_icmp .ne 7, 45, 0, 0, 0, []),
  (.iload_n 2, 0, 0, 0, 0, []),
  (.goto 5, 46, 0, 0, 0, []),
  (.bipush (-2), 0, 0, 0, (-2), []),
  (.ireturn, 0, 0, 0, 0, [])]
/-- GrassCells$Collection.movedFrom(ILGrassCells$Cell;)I -/
def qc_Co_movedFrom : List qI := [(.aload_n 0, 0, 0, 0, 0, []),
  (.iload_n 1, 0, 0, 0, 0, []),
  (.invokevirtual 47, 67, 2, 3, 0, []),
  (.ifCond .eq 11, 8, 0, 0, 0, []),
  (.aload_n 2, 0, 0, 0, 0, []),
  (.iload_n 1, 0, 0, 0, 0, []),
  (.invokevirtual 51, 95, 2, 1, 0, []),
  (.ifCond .eq 6, 10, 0, 0, 0, []),
  (.bipush (-2), 0, 0, 0, (-2), []),
  (.ireturn, 0, 0, 0, 0, []),
  (.iconst 1, 0, 0, 0, 1, []),
  (.istore_n 3, 0, 0, 0, 0, []),
  (.iload_n 3, 0, 0, 0, 0, []),
  (.aload_n 2, 0, 0, 0, 0, []),
  (.getfield 19, 0, 0, 0, 0, []),
  (.if_icmp .gt 70, 49, 0, 0, 0, []),
  (.iload_n 3, 0, 0, 0, 0, []),
  (.iconst 2, 0, 0, 0, 2, []),
  (.iadd, 0, 0, 0, 0, []),
  (.istore 4, 0, 0, 0, 0, []),
  (.iload 4, 0, 0, 0, 0, []),
  (.aload_n 2, 0, 0, 0, 0, []),
  (.getfield 19, 0, 0, 0, 0, []),
  (.if_icmp .gt 50, 47, 0, 0, 0, []),
  (.iload_n 1, 0, 0, 0, 0, []),
  (.iload_n 3, 0, 0, 0, 0, []),
  (.invokestatic 54, 33, 2, 0, 0, []),
  (.ifCond .eq 36, 45, 0, 0, 0, []),
  (.iload_n 1, 0, 0, 0, 0, []),
  (.iload 4, 0, 0, 0, 0, []),
  (.invokestatic 54, 33, 2, 0, 0, []),
  (.ifCond .eq 27, 45, 0, 0, 0, []),
  (.aload_n 0, 0, 0, 0, 0, []),
  (.iload_n 1, 0, 0, 0, 0, []),
  (.iload_n 3, 0, 0, 0, 0, []),
  (.iload 4, 0, 0, 0, 0, []),
  (.aload_n 2, 0, 0, 0, 0, []),
  (.getfield 19, 0, 0, 0, 0, []),
  (.invokevirtual 57, 96, 5, 3, 0, []),
  (.istore 5, 0, 0, 0, 0, []),
  (.iload 5, 0, 0, 0, 0, []),
  (.bipush (-2), 0, 0, 0, (-2), []),
  (.if_icmp .eq 6, 45, 0, 0, 0, []),
  (.iload 5, 0, 0, 0, 0, []),
  (.ireturn, 0, 0, 0, 0, []),
  (.iinc 4 1, 0, 0, 0, 0, []),
  (.goto (-53), 20, 0, 0, 0, []),
  (.iinc 3 1, 0, 0, 0, 0, []),
  (.goto (-72), 12, 0, 0, 0, []),
  (.bipush (-2), 0, 0, 0, (-2), []),
  (.ireturn, 0, 0, 0, 0, [])]
/-- GrassCells$Cell.isOfNecklace(I)Z -/
def qc_Ce_isOfNecklace : List qI := [(.iconst 1, 0, 0, 0, 1, []),
  (.istore_n 2, 0, 0, 0, 0, []),
  (.iload_n 2, 0, 0, 0, 0, []),
  (.aload_n 0, 0, 0, 0, 0, []),
  (.getfield 32, 0, 0, 0, 0, []),
  (.if_icmp .gt 21, 16, 0, 0, 0, []),
  (.aload_n 0, 0, 0, 0, 0, []),
  (.getfield 15, 0, 5, 2, 0, []),
  (.iload_n 2, 0, 0, 0, 0, []),
  (.iaload, 0, 0, 0, 0, []),
  (.iload_n 1, 0, 0, 0, 0, []),
  (.if_icmp .ne 5, 14, 0, 0, 0, []),
  (.iconst 1, 0, 0, 0, 1, []),
  (.ireturn, 1, 0, 0, 0, []),
  (.iinc 2 1, 0, 0, 0, 0, []),
  (.goto (-23), 2, 0, 0, 0, []),
  (.iconst 0, 0, 0, 0, 0, []),
  (.ireturn, 1, 0, 0, 0, [])]
/-- GrassCells$Collection.movedAt(IIII)I -/
def qc_Co_movedAt : List qI := [(.iload_n 1, 0, 0, 0, 0, []),
  (.iload_n 2, 0, 0, 0, 0, []),
  (.invokestatic 61, 27, 1, 0, 0, []),
  (.iconst (-1), 0, 0, 0, (-1), []),
  (.ixor, 0, 0, 0, 0, []),
  (.iand, 0, 0, 0, 0, []),
  (.iload_n 3, 0, 0, 0, 0, []),
  (.invokestatic 61, 27, 1, 0, 0, []),
  (.iconst (-1), 0, 0, 0, (-1), []),
  (.ixor, 0, 0, 0, 0, []),
  (.iand, 0, 0, 0, 0, []),
  (.istore 5, 0, 0, 0, 0, []),
  (.iload_n 2, 0, 0, 0, 0, []),
  (.iconst 1, 0, 0, 0, 1, []),
  (.iadd, 0, 0, 0, 0, []),
  (.istore 6, 0, 0, 0, 0, []),
  (.iload 6, 0, 0, 0, 0, []),
  (.iload_n 3, 0, 0, 0, 0, []),
  (.if_icmp .ge 97, 64, 0, 0, 0, []),
  (.iconst 1, 0, 0, 0, 1, []),
  (.istore 7, 0, 0, 0, 0, []),
  (.iload 7, 0, 0, 0, 0, []),
  (.iload 4, 0, 0, 0, 0, []),
  (.if_icmp .gt 81, 62, 0, 0, 0, []),
  (.iload 7, 0, 0, 0, 0, []),
  (.iload_n 2, 0, 0, 0, 0, []),
  (.if_icmp .lt 9, 30, 0, 0, 0, []),
  (.iload 7, 0, 0, 0, 0, []),
  (.iload_n 3, 0, 0, 0, 0, []),
  (.if_icmp .le 7, 32, 0, 0, 0, []),
  (.iconst 1, 0, 0, 0, 1, []),
  (.goto 4, 33, 0, 0, 0, []),
  (.iconst 0, 0, 0, 0, 0, []),
  (.istore 8, 0, 0, 0, 0, []),
  (.iload 8, 0, 0, 0, 0, []),
  (.ifCond .eq 51, 60, 0, 0, 0, []),
  (.iload_n 1, 0, 0, 0, 0, []),
  (.iload 6, 0, 0, 0, 0, []),
  (.invokestatic 54, 33, 2, 0, 0, []),
  (.ifCond .ne 42, 60, 0, 0, 0, []),
  (.iload_n 1, 0, 0, 0, 0, []),
  (.iload 7, 0, 0, 0, 0, []),
  (.invokestatic 54, 33, 2, 0, 0, []),
  (.ifCond .ne 33, 60, 0, 0, 0, []),
  (.aload_n 0, 0, 0, 0, 0, []),
  (.iload 5, 0, 0, 0, 0, []),
  (.iload_n 2, 0, 0, 0, 0, []),
  (.iload 6, 0, 0, 0, 0, []),
  (.iload_n 3, 0, 0, 0, 0, []),
  (.iload 7, 0, 0, 0, 0, []),
  (.invokevirtual 65, 97, 6, 3, 0, []),
  (.ifCond .eq 18, 60, 0, 0, 0, []),
  (.iload 5, 0, 0, 0, 0, []),
  (.iload 6, 0, 0, 0, 0, []),
  (.invokestatic 61, 27, 1, 0, 0, []),
  (.ior, 0, 0, 0, 0, []),
  (.iload 7, 0, 0, 0, 0, []),
  (.invokestatic 61, 27, 1, 0, 0, []),
  (.ior, 0, 0, 0, 0, []),
  (.ireturn, 0, 0, 0, 0, []),
  (.iinc 7 1, 0, 0, 0, 0, []),
  (.goto (-82), 21, 0, 0, 0, []),
  (.iinc 6 1, 0, 0, 0, 0, []),
  (.goto (-97), 16, 0, 0, 0, []),
  (.bipush (-2), 0, 0, 0, (-2), []),
  (.ireturn, 0, 0, 0, 0, [])]
/-- GrassCells$Collection.hasCorners(IIIII)Z -/
def qc_Co_hasCorners : List qI := [(.aload_n 0, 0, 0, 0, 0, []),
  (.iload_n 1, 0, 0, 0, 0, []),
  (.iload_n 2, 0, 0, 0, 0, []),
  (.invokestatic 61, 27, 1, 0, 0, []),
  (.ior, 0, 0, 0, 0, []),
  (.iload_n 3, 0, 0, 0, 0, []),
  (.invokestatic 61, 27, 1, 0, 0, []),
  (.ior, 0, 0, 0, 0, []),
  (.invokevirtual 47, 67, 2, 3, 0, []),
  (.ifCond .eq 65, 42, 0, 0, 0, []),
  (.aload_n 0, 0, 0, 0, 0, []),
  (.iload_n 1, 0, 0, 0, 0, []),
  (.iload_n 3, 0, 0, 0, 0, []),
  (.invokestatic 61, 27, 1, 0, 0, []),
  (.ior, 0, 0, 0, 0, []),
  (.iload 4, 0, 0, 0, 0, []),
  (.invokestatic 61, 27, 1, 0, 0, []),
  (.ior, 0, 0, 0, 0, []),
  (.invokevirtual 47, 67, 2, 3, 0, []),
  (.ifCond .eq 46, 42, 0, 0, 0, []),
  (.aload_n 0, 0, 0, 0, 0, []),
  (.iload_n 1, 0, 0, 0, 0, []),
  (.iload 4, 0, 0, 0, 0, []),
  (.invokestatic 61, 27, 1, 0, 0, []),
  (.ior, 0, 0, 0, 0, []),
  (.iload 5, 0, 0, 0, 0, []),
  (.invokestatic 61, 27, 1, 0, 0, []),
  (.ior, 0, 0, 0, 0, []),
  (.invokevirtual 47, 67, 2, 3, 0, []),
  (.ifCond .eq 26, 42, 0, 0, 0, []),
  (.aload_n 0, 0, 0, 0, 0, []),
  (.iload_n 1, 0, 0, 0, 0, []),
  (.iload_n 2, 0, 0, 0, 0, []),
  (.invokestatic 61, 27, 1, 0, 0, []),
  (.ior, 0, 0, 0, 0, []),
  (.iload 5, 0, 0, 0, 0, []),
  (.invokestatic 61, 27, 1, 0, 0, []),
  (.ior, 0, 0, 0, 0, []),
  (.invokevirtual 47, 67, 2, 3, 0, []),
  (.ifCond .eq 7, 42, 0, 0, 0, []),
  (.iconst 1, 0, 0, 0, 1, []),
  (.goto 4, 43, 0, 0, 0, []),
  (.iconst 0, 0, 0, 0, 0, []),
  (.ireturn, 1, 0, 0, 0, [])]
/-- GrassCells.move(I)I -/
def qc_GC_move : List qI := [(.aload_n 0, 0, 0, 0, 0, []),
  (.getfield 19, 10, 1, 2, 0, []),
  (.getfield 90, 0, 0, 0, 0, []),
  (.ifCond .ne 5, 6, 0, 0, 0, []),
  (.iconst (-1), 0, 0, 0, (-1), []),
  (.ireturn, 0, 0, 0, 0, []),
  (.aload_n 0, 0, 0, 0, 0, []),
  (.getfield 26, 10, 2, 2, 0, []),
  (.iload_n 1, 0, 0, 0, 0, []),
  (.aload_n 0, 0, 0, 0, 0, []),
  (.getfield 19, 10, 1, 2, 0, []),
  (.invokevirtual 162, 94, 3, 3, 0, []),
  (.istore_n 2, 0, 0, 0, 0, []),
  (.iload_n 2, 0, 0, 0, 0, []),
  (.bipush (-2), 0, 0, 0, (-2), []),
  (.if_icmp .ne 6, 18, 0, 0, 0, []),
  (.bipush (-2), 0, 0, 0, (-2), []),
  (.ireturn, 0, 0, 0, 0, []),
  (.aload_n 0, 0, 0, 0, 0, []),
  (.getfield 40, 10, 4, 2, 0, []),
  (.aload_n 0, 0, 0, 0, 0, []),
  (.getfield 19, 10, 1, 2, 0, []),
  (.aload_n 0, 0, 0, 0, 0, []),
  (.getfield 26, 10, 2, 2, 0, []),
  (.invokevirtual 166, 53, 3, 7, 0, []),
  (.aload_n 0, 0, 0, 0, 0, []),
  (.getfield 26, 10, 2, 2, 0, []),
  (.iload_n 1, 0, 0, 0, 0, []),
  (.invokevirtual 170, 99, 2, 3, 0, []),
  (.aload_n 0, 0, 0, 0, 0, []),
  (.getfield 26, 10, 2, 2, 0, []),
  (.iload_n 2, 0, 0, 0, 0, []),
  (.invokevirtual 173, 66, 2, 3, 0, []),
  (.iload_n 2, 0, 0, 0, 0, []),
  (.ireturn, 0, 0, 0, 0, [])]
/-- GrassCells$Collection.remove(I)V -/
def qc_Co_remove : List qI := [(.iconst 0, 0, 0, 0, 0, []),
  (.istore_n 2, 0, 0, 0, 0, []),
  (.iconst 0, 0, 0, 0, 0, []),
  (.istore_n 3, 0, 0, 0, 0, []),
  (.iload_n 3, 0, 0, 0, 0, []),
  (.aload_n 0, 0, 0, 0, 0, []),
  (.getfield 15, 2, 1, 0, 0, []),
  (.if_icmp .ge 34, 25, 0, 0, 0, []),
  (.aload_n 0, 0, 0, 0, 0, []),
  (.getfield 9, 2, 0, 2, 0, []),
  (.iload_n 3, 0, 0, 0, 0, []),
  (.iaload, 0, 0, 0, 0, []),
  (.iload_n 1, 0, 0, 0, 0, []),
  (.if_icmp .eq 18, 23, 0, 0, 0, []),
  (.aload_n 0, 0, 0, 0, 0, []),
  (.getfield 9, 2, 0, 2, 0, []),
  (.iload_n 2, 0, 0, 0, 0, []),
  (.aload_n 0, 0, 0, 0, 0, []),
  (.getfield 9, 2, 0, 2, 0, []),
  (.iload_n 3, 0, 0, 0, 0, []),
  (.iaload, 0, 0, 0, 0, []),
  (.iastore, 0, 0, 0, 0, []),
  (.iinc 2 1, 0, 0, 0, 0, []),
  (.iinc 3 1, 0, 0, 0, 0, []),
  (.goto (-36), 4, 0, 0, 0, []),
  (.aload_n 0, 0, 0, 0, 0, []),
  (.iload_n 2, 0, 0, 0, 0, []),
  (.putfield 15, 2, 1, 0, 0, []),
  (.return_, 0, 0, 0, 0, [])]
/-- GrassCells.lower(II)I -/
def qc_GC_lower : List qI := [(.aload_n 0, 0, 0, 0, 0, []),
  (.iconst 1, 0, 0, 0, 1, []),
  (.iload_n 1, 0, 0, 0, 0, []),
  (.iload_n 2, 0, 0, 0, 0, []),
  (.invokevirtual 176, 101, 4, 11, 0, []),
  (.ireturn, 0, 0, 0, 0, [])]
/-- GrassCells.valueOfNext(III)I -/
def qc_GC_valueOfNext : List qI := [(.aload_n 0, 0, 0, 0, 0, []),
  (.getfield 19, 10, 1, 2, 0, []),
  (.getfield 90, 0, 0, 0, 0, []),
  (.ifCond .eq 18, 11, 0, 0, 0, []),
  (.iload_n 3, 0, 0, 0, 0, []),
  (.ifCond .lt 14, 11, 0, 0, 0, []),
  (.iload_n 3, 0, 0, 0, 0, []),
  (.aload_n 0, 0, 0, 0, 0, []),
  (.getfield 19, 10, 1, 2, 0, []),
  (.getfield 90, 0, 0, 0, 0, []),
  (.if_icmp .le 5, 13, 0, 0, 0, []),
  (.iconst (-1), 0, 0, 0, (-1), []),
  (.ireturn, 0, 0, 0, 0, []),
  (.iload_n 3, 0, 0, 0, 0, []),
  (.ifCond .ne 16, 22, 0, 0, 0, []),
  (.aload_n 0, 0, 0, 0, 0, []),
  (.getfield 33, 10, 3, 2, 0, []),
  (.aload_n 0, 0, 0, 0, 0, []),
  (.getfield 19, 10, 1, 2, 0, []),
  (.iload_n 1, 0, 0, 0, 0, []),
  (.invokevirtual 241, 102, 3, 6, 0, []),
  (.ireturn, 0, 0, 0, 0, []),
  (.iload_n 2, 0, 0, 0, 0, []),
  (.ifCond .ge 5, 26, 0, 0, 0, []),
  (.iconst (-1), 0, 0, 0, (-1), []),
  (.ireturn, 0, 0, 0, 0, []),
  (.aload_n 0, 0, 0, 0, 0, []),
  (.getfield 33, 10, 3, 2, 0, []),
  (.aload_n 0, 0, 0, 0, 0, []),
  (.getfield 19, 10, 1, 2, 0, []),
  (.iload_n 1, 0, 0, 0, 0, []),
  (.iload_n 2, 0, 0, 0, 0, []),
  (.invokevirtual 245, 103, 4, 6, 0, []),
  (.ifCond .eq 15, 40, 0, 0, 0, []),
  (.aload_n 0, 0, 0, 0, 0, []),
  (.getfield 33, 10, 3, 2, 0, []),
  (.getfield 249, 5, 0, 2, 0, []),
  (.iload_n 3, 0, 0, 0, 0, []),
  (.iaload, 0, 0, 0, 0, []),
  (.goto 5, 41, 0, 0, 0, []),
  (.bipush (-2), 0, 0, 0, (-2), []),
  (.ireturn, 0, 0, 0, 0, [])]
/-- GrassCells$Neighbours.howManyFrom(LGrassCells$Cell;I)I -/
def qc_Ne_howManyFrom : List qI := [(.aload_n 0, 0, 0, 0, 0, []),
  (.aload_n 1, 0, 0, 0, 0, []),
  (.iload_n 2, 0, 0, 0, 0, []),
  (.iconst (-1), 0, 0, 0, (-1), []),
  (.invokevirtual 15, 103, 4, 6, 0, []),
  (.pop, 0, 0, 0, 0, []),
  (.aload_n 0, 0, 0, 0, 0, []),
  (.getfield 19, 5, 1, 0, 0, []),
  (.ireturn, 0, 0, 0, 0, [])]
/-- GrassCells$Neighbours.seek(LGrassCells$Cell;II)Z -/
def qc_Ne_seek : List qI := [(.aload_n 0, 0, 0, 0, 0, []),
  (.iconst 0, 0, 0, 0, 0, []),
  (.putfield 19, 5, 1, 0, 0, []),
  (.iconst 1, 0, 0, 0, 1, []),
  (.istore 4, 0, 0, 0, 0, []),
  (.iload 4, 0, 0, 0, 0, []),
  (.aload_n 1, 0, 0, 0, 0, []),
  (.getfield 23, 0, 0, 0, 0, []),
  (.if_icmp .gt 85, 51, 0, 0, 0, []),
  (.iload 4, 0, 0, 0, 0, []),
  (.iconst 1, 0, 0, 0, 1, []),
  (.iadd, 0, 0, 0, 0, []),
  (.istore 5, 0, 0, 0, 0, []),
  (.iload 5, 0, 0, 0, 0, []),
  (.iload 4, 0, 0, 0, 0, []),
  (.aload_n 1, 0, 0, 0, 0, []),
  (.getfield 23, 0, 0, 0, 0, []),
  (.iadd, 0, 0, 0, 0, []),
  (.if_icmp .ge 61, 49, 0, 0, 0, []),
  (.aload_n 0, 0, 0, 0, 0, []),
  (.aload_n 1, 0, 0, 0, 0, []),
  (.iload 4, 0, 0, 0, 0, []),
  (.iload 5, 0, 0, 0, 0, []),
  (.invokevirtual 28, 104, 4, 6, 0, []),
  (.ifCond .eq 43, 47, 0, 0, 0, []),
  (.aload_n 0, 0, 0, 0, 0, []),
  (.getfield 9, 5, 0, 2, 0, []),
  (.aload_n 1, 0, 0, 0, 0, []),
  (.getfield 23, 0, 0, 0, 0, []),
  (.invokestatic 31, 63, 2, 0, 0, []),
  (.aload_n 1, 0, 0, 0, 0, []),
  (.getfield 35, 0, 2, 0, 0, []),
  (.iload_n 2, 0, 0, 0, 0, []),
  (.iadd, 0, 0, 0, 0, []),
  (.if_icmp .ne 23, 47, 0, 0, 0, []),
  (.aload_n 0, 0, 0, 0, 0, []),
  (.getfield 19, 5, 1, 0, 0, []),
  (.iload_n 3, 0, 0, 0, 0, []),
  (.if_icmp .ne 5, 41, 0, 0, 0, []),
  (.iconst 1, 0, 0, 0, 1, []),
  (.ireturn, 1, 0, 0, 0, []),
  (.aload_n 0, 0, 0, 0, 0, []),
  (.dup, 0, 0, 0, 0, []),
  (.getfield 19, 5, 1, 0, 0, []),
  (.iconst 1, 0, 0, 0, 1, []),
  (.iadd, 0, 0, 0, 0, []),
  (.putfield 19, 5, 1, 0, 0, []),
  (.iinc 5 1, 0, 0, 0, 0, []),
  (.goto (-67), 13, 0, 0, 0, []),
  (.iinc 4 1, 0, 0, 0, 0, []),
  (.goto (-88), 5, 0, 0, 0, []),
  (.iconst 0, 0, 0, 0, 0, []),
  (.ireturn, 1, 0, 0, 0, [])]
/-- GrassCells$Neighbours.swap(LGrassCells$Cell;II)Z -/
def qc_Ne_swap : List qI := [(.iload_n 3, 0, 0, 0, 0, []),
  (.aload_n 1, 0, 0, 0, 0, []),
  (.getfield 23, 0, 0, 0, 0, []),
  (.if_icmp .le 10, 7, 0, 0, 0, []),
  (.aload_n 1, 0, 0, 0, 0, []),
  (.getfield 23, 0, 0, 0, 0, []),
  (.goto 4, 8, 0, 0, 0, []),
  (.iconst 0, 0, 0, 0, 0, []),
  (.istore 4, 0, 0, 0, 0, []),
  (.iload_n 3, 0, 0, 0, 0, []),
  (.iload 4, 0, 0, 0, 0, []),
  (.isub, 0, 0, 0, 0, []),
  (.istore 5, 0, 0, 0, 0, []),
  (.aload_n 1, 0, 0, 0, 0, []),
  (.getfield 38, 0, 4, 2, 0, []),
  (.iload 5, 0, 0, 0, 0, []),
  (.iaload, 0, 0, 0, 0, []),
  (.iload 4, 0, 0, 0, 0, []),
  (.iadd, 0, 0, 0, 0, []),
  (.istore 6, 0, 0, 0, 0, []),
  (.aload_n 1, 0, 0, 0, 0, []),
  (.getfield 38, 0, 4, 2, 0, []),
  (.iload_n 2, 0, 0, 0, 0, []),
  (.iaload, 0, 0, 0, 0, []),
  (.iload 4, 0, 0, 0, 0, []),
  (.isub, 0, 0, 0, 0, []),
  (.istore 7, 0, 0, 0, 0, []),
  (.iload 6, 0, 0, 0, 0, []),
  (.iload_n 2, 0, 0, 0, 0, []),
  (.if_icmp .lt 33, 45, 0, 0, 0, []),
  (.iload 6, 0, 0, 0, 0, []),
  (.iload_n 2, 0, 0, 0, 0, []),
  (.aload_n 1, 0, 0, 0, 0, []),
  (.getfield 23, 0, 0, 0, 0, []),
  (.iadd, 0, 0, 0, 0, []),
  (.if_icmp .gt 22, 45, 0, 0, 0, []),
  (.iload 7, 0, 0, 0, 0, []),
  (.iload 5, 0, 0, 0, 0, []),
  (.if_icmp .lt 15, 45, 0, 0, 0, []),
  (.iload 7, 0, 0, 0, 0, []),
  (.iload 5, 0, 0, 0, 0, []),
  (.aload_n 1, 0, 0, 0, 0, []),
  (.getfield 23, 0, 0, 0, 0, []),
  (.iadd, 0, 0, 0, 0, []),
  (.if_icmp .le 5, 47, 0, 0, 0, []),
  (.iconst 0, 0, 0, 0, 0, []),
  (.ireturn, 1, 0, 0, 0, []),
  (.iconst 1, 0, 0, 0, 1, []),
  (.istore 8, 0, 0, 0, 0, []),
  (.iload 8, 0, 0, 0, 0, []),
  (.aload_n 1, 0, 0, 0, 0, []),
  (.getfield 23, 0, 0, 0, 0, []),
  (.if_icmp .gt 23, 63, 0, 0, 0, []),
  (.aload_n 0, 0, 0, 0, 0, []),
  (.getfield 9, 5, 0, 2, 0, []),
  (.iload 8, 0, 0, 0, 0, []),
  (.aload_n 1, 0, 0, 0, 0, []),
  (.getfield 38, 0, 4, 2, 0, []),
  (.iload 8, 0, 0, 0, 0, []),
  (.iaload, 0, 0, 0, 0, []),
  (.iastore, 0, 0, 0, 0, []),
  (.iinc 8 1, 0, 0, 0, 0, []),
  (.goto (-26), 49, 0, 0, 0, []),
  (.aload_n 0, 0, 0, 0, 0, []),
  (.getfield 9, 5, 0, 2, 0, []),
  (.iload_n 2, 0, 0, 0, 0, []),
  (.iload 6, 0, 0, 0, 0, []),
  (.iastore, 0, 0, 0, 0, []),
  (.aload_n 0, 0, 0, 0, 0, []),
  (.getfield 9, 5, 0, 2, 0, []),
  (.iload 5, 0, 0, 0, 0, []),
  (.iload 7, 0, 0, 0, 0, []),
  (.iastore, 0, 0, 0, 0, []),
  (.iconst 1, 0, 0, 0, 1, []),
  (.ireturn, 1, 0, 0, 0, [])]
/-- GrassCells.upper(II)I -/
def qc_GC_upper : List qI := [(.aload_n 0, 0, 0, 0, 0, []),
  (.iconst (-1), 0, 0, 0, (-1), []),
  (.iload_n 1, 0, 0, 0, 0, []),
  (.iload_n 2, 0, 0, 0, 0, []),
  (.invokevirtual 176, 101, 4, 11, 0, []),
  (.ireturn, 0, 0, 0, 0, [])]
/-- GrassCells.down(I)I -/
def qc_GC_down : List qI := [(.aload_n 0, 0, 0, 0, 0, []),
  (.iconst 1, 0, 0, 0, 1, []),
  (.iload_n 1, 0, 0, 0, 0, []),
  (.invokevirtual 179, 107, 3, 11, 0, []),
  (.ireturn, 0, 0, 0, 0, [])]
/-- GrassCells.stepToNext(II)I -/
def qc_GC_stepToNext : List qI := [(.aload_n 0, 0, 0, 0, 0, []),
  (.getfield 19, 10, 1, 2, 0, []),
  (.getfield 90, 0, 0, 0, 0, []),
  (.ifCond .eq 7, 6, 0, 0, 0, []),
  (.iload_n 2, 0, 0, 0, 0, []),
  (.ifCond .ge 5, 8, 0, 0, 0, []),
  (.iconst (-1), 0, 0, 0, (-1), []),
  (.ireturn, 0, 0, 0, 0, []),
  (.aload_n 0, 0, 0, 0, 0, []),
  (.getfield 33, 10, 3, 2, 0, []),
  (.aload_n 0, 0, 0, 0, 0, []),
  (.getfield 19, 10, 1, 2, 0, []),
  (.iload_n 1, 0, 0, 0, 0, []),
  (.iload_n 2, 0, 0, 0, 0, []),
  (.invokevirtual 245, 103, 4, 6, 0, []),
  (.ifCond .ne 6, 18, 0, 0, 0, []),
  (.bipush (-2), 0, 0, 0, (-2), []),
  (.ireturn, 0, 0, 0, 0, []),
  (.aload_n 0, 0, 0, 0, 0, []),
  (.aload_n 0, 0, 0, 0, 0, []),
  (.getfield 19, 10, 1, 2, 0, []),
  (.getfield 90, 0, 0, 0, 0, []),
  (.aload_n 0, 0, 0, 0, 0, []),
  (.getfield 33, 10, 3, 2, 0, []),
  (.getfield 249, 5, 0, 2, 0, []),
  (.invokevirtual 86, 52, 3, 11, 0, []),
  (.aload_n 0, 0, 0, 0, 0, []),
  (.getfield 19, 10, 1, 2, 0, []),
  (.invokevirtual 217, 108, 1, 1, 0, []),
  (.ireturn, 0, 0, 0, 0, [])]
/-- GrassCells$Cell.dimension()I -/
def qc_Ce_dimension : List qI := [(.aload_n 0, 0, 0, 0, 0, []),
  (.getfield 24, 0, 7, 2, 0, []),
  (.invokevirtual 81, 109, 1, 4, 0, []),
  (.ireturn, 0, 0, 0, 0, [])]
/-- GrassCells$Diagram.plusCount()I -/
def qc_Di_plusCount : List qI := [(.iconst 0, 0, 0, 0, 0, []),
  (.istore_n 1, 0, 0, 0, 0, []),
  (.iconst 1, 0, 0, 0, 1, []),
  (.istore_n 2, 0, 0, 0, 0, []),
  (.iload_n 2, 0, 0, 0, 0, []),
  (.aload_n 0, 0, 0, 0, 0, []),
  (.getfield 33, 3, 0, 0, 0, []),
  (.if_icmp .gt 21, 18, 0, 0, 0, []),
  (.iload_n 1, 0, 0, 0, 0, []),
  (.aload_n 0, 0, 0, 0, 0, []),
  (.getfield 9, 3, 2, 2, 0, []),
  (.iload_n 2, 0, 0, 0, 0, []),
  (.iaload, 0, 0, 0, 0, []),
  (.invokestatic 84, 47, 1, 0, 0, []),
  (.iadd, 0, 0, 0, 0, []),
  (.istore_n 1, 0, 0, 0, 0, []),
  (.iinc 2 1, 0, 0, 0, 0, []),
  (.goto (-23), 4, 0, 0, 0, []),
  (.iload_n 1, 0, 0, 0, 0, []),
  (.ireturn, 0, 0, 0, 0, [])]
/-- GrassCells.up(I)I -/
def qc_GC_up : List qI := [(.aload_n 0, 0, 0, 0, 0, []),
  (.iconst (-1), 0, 0, 0, (-1), []),
  (.iload_n 1, 0, 0, 0, 0, []),
  (.invokevirtual 179, 107, 3, 11, 0, []),
  (.ireturn, 0, 0, 0, 0, [])]
/-- GrassCells.turn()Z -/
def qc_GC_turn : List qI := [(.aload_n 0, 0, 0, 0, 0, []),
  (.getfield 19, 10, 1, 2, 0, []),
  (.getfield 90, 0, 0, 0, 0, []),
  (.ifCond .ne 5, 6, 0, 0, 0, []),
  (.iconst 0, 0, 0, 0, 0, []),
  (.ireturn, 1, 0, 0, 0, []),
  (.iconst 1, 0, 0, 0, 1, []),
  (.istore_n 1, 0, 0, 0, 0, []),
  (.iload_n 1, 0, 0, 0, 0, []),
  (.aload_n 0, 0, 0, 0, 0, []),
  (.getfield 19, 10, 1, 2, 0, []),
  (.getfield 90, 0, 0, 0, 0, []),
  (.if_icmp .ge 28, 28, 0, 0, 0, []),
  (.aload_n 0, 0, 0, 0, 0, []),
  (.getfield 57, 10, 7, 2, 0, []),
  (.iload_n 1, 0, 0, 0, 0, []),
  (.iconst 1, 0, 0, 0, 1, []),
  (.iadd, 0, 0, 0, 0, []),
  (.aload_n 0, 0, 0, 0, 0, []),
  (.getfield 19, 10, 1, 2, 0, []),
  (.getfield 95, 0, 4, 2, 0, []),
  (.iload_n 1, 0, 0, 0, 0, []),
  (.iaload, 0, 0, 0, 0, []),
  (.iconst 1, 0, 0, 0, 1, []),
  (.iadd, 0, 0, 0, 0, []),
  (.iastore, 0, 0, 0, 0, []),
  (.iinc 1 1, 0, 0, 0, 0, []),
  (.goto (-33), 8, 0, 0, 0, []),
  (.aload_n 0, 0, 0, 0, 0, []),
  (.getfield 57, 10, 7, 2, 0, []),
  (.iconst 1, 0, 0, 0, 1, []),
  (.aload_n 0, 0, 0, 0, 0, []),
  (.getfield 19, 10, 1, 2, 0, []),
  (.getfield 95, 0, 4, 2, 0, []),
  (.aload_n 0, 0, 0, 0, 0, []),
  (.getfield 19, 10, 1, 2, 0, []),
  (.getfield 90, 0, 0, 0, 0, []),
  (.iaload, 0, 0, 0, 0, []),
  (.iconst 1, 0, 0, 0, 1, []),
  (.iadd, 0, 0, 0, 0, []),
  (.aload_n 0, 0, 0, 0, 0, []),
  (.getfield 19, 10, 1, 2, 0, []),
  (.getfield 90, 0, 0, 0, 0, []),
  (.isub, 0, 0, 0, 0, []),
  (.iastore, 0, 0, 0, 0, []),
  (.aload_n 0, 0, 0, 0, 0, []),
  (.aload_n 0, 0, 0, 0, 0, []),
  (.getfield 19, 10, 1, 2, 0, []),
  (.getfield 90, 0, 0, 0, 0, []),
  (.aload_n 0, 0, 0, 0, 0, []),
  (.getfield 57, 10, 7, 2, 0, []),
  (.invokevirtual 86, 52, 3, 11, 0, []),
  (.iconst 1, 0, 0, 0, 1, []),
  (.ireturn, 1, 0, 0, 0, [])]
/-- GrassCells.mirror()Z -/
def qc_GC_mirror : List qI := [(.aload_n 0, 0, 0, 0, 0, []),
  (.getfield 19, 10, 1, 2, 0, []),
  (.getfield 90, 0, 0, 0, 0, []),
  (.ifCond .ne 5, 6, 0, 0, 0, []),
  (.iconst 0, 0, 0, 0, 0, []),
  (.ireturn, 1, 0, 0, 0, []),
  (.iconst 1, 0, 0, 0, 1, []),
  (.istore_n 1, 0, 0, 0, 0, []),
  (.iload_n 1, 0, 0, 0, 0, []),
  (.aload_n 0, 0, 0, 0, 0, []),
  (.getfield 19, 10, 1, 2, 0, []),
  (.getfield 90, 0, 0, 0, 0, []),
  (.if_icmp .gt 43, 35, 0, 0, 0, []),
  (.aload_n 0, 0, 0, 0, 0, []),
  (.getfield 57, 10, 7, 2, 0, []),
  (.aload_n 0, 0, 0, 0, 0, []),
  (.getfield 19, 10, 1, 2, 0, []),
  (.getfield 90, 0, 0, 0, 0, []),
  (.iconst 1, 0, 0, 0, 1, []),
  (.iadd, 0, 0, 0, 0, []),
  (.iload_n 1, 0, 0, 0, 0, []),
  (.isub, 0, 0, 0, 0, []),
  (.aload_n 0, 0, 0, 0, 0, []),
  (.getfield 19, 10, 1, 2, 0, []),
  (.getfield 90, 0, 0, 0, 0, []),
  (.iconst 1, 0, 0, 0, 1, []),
  (.iadd, 0, 0, 0, 0, []),
  (.aload_n 0, 0, 0, 0, 0, []),
  (.getfield 19, 10, 1, 2, 0, []),
  (.iload_n 1, 0, 0, 0, 0, []),
  (.invokevirtual 183, 113, 2, 1, 0, []),
  (.isub, 0, 0, 0, 0, []),
  (.iastore, 0, 0, 0, 0, []),
  (.iinc 1 1, 0, 0, 0, 0, []),
  (.goto (-48), 8, 0, 0, 0, []),
  (.aload_n 0, 0, 0, 0, 0, []),
  (.aload_n 0, 0, 0, 0, 0, []),
  (.getfield 19, 10, 1, 2, 0, []),
  (.getfield 90, 0, 0, 0, 0, []),
  (.aload_n 0, 0, 0, 0, 0, []),
  (.getfield 57, 10, 7, 2, 0, []),
  (.invokevirtual 86, 52, 3, 11, 0, []),
  (.iconst 1, 0, 0, 0, 1, []),
  (.ireturn, 1, 0, 0, 0, [])]
/-- GrassCells$Cell.origin(I)I -/
def qc_Ce_origin : List qI := [(.iconst 1, 0, 0, 0, 1, []),
  (.istore_n 2, 0, 0, 0, 0, []),
  (.iload_n 2, 0, 0, 0, 0, []),
  (.aload_n 0, 0, 0, 0, 0, []),
  (.getfield 32, 0, 0, 0, 0, []),
  (.if_icmp .gt 43, 30, 0, 0, 0, []),
  (.aload_n 0, 0, 0, 0, 0, []),
  (.getfield 9, 0, 4, 2, 0, []),
  (.iload_n 2, 0, 0, 0, 0, []),
  (.iaload, 0, 0, 0, 0, []),
  (.iload_n 1, 0, 0, 0, 0, []),
  (.if_icmp .ne 5, 14, 0, 0, 0, []),
  (.iload_n 2, 0, 0, 0, 0, []),
  (.ireturn, 0, 0, 0, 0, []),
  (.aload_n 0, 0, 0, 0, 0, []),
  (.getfield 9, 0, 4, 2, 0, []),
  (.iload_n 2, 0, 0, 0, 0, []),
  (.iaload, 0, 0, 0, 0, []),
  (.iload_n 1, 0, 0, 0, 0, []),
  (.aload_n 0, 0, 0, 0, 0, []),
  (.getfield 32, 0, 0, 0, 0, []),
  (.iadd, 0, 0, 0, 0, []),
  (.if_icmp .ne 10, 28, 0, 0, 0, []),
  (.iload_n 2, 0, 0, 0, 0, []),
  (.aload_n 0, 0, 0, 0, 0, []),
  (.getfield 32, 0, 0, 0, 0, []),
  (.isub, 0, 0, 0, 0, []),
  (.ireturn, 0, 0, 0, 0, []),
  (.iinc 2 1, 0, 0, 0, 0, []),
  (.goto (-45), 2, 0, 0, 0, []),
  (.iload_n 1, 0, 0, 0, 0, []),
  (.ireturn, 0, 0, 0, 0, [])]
/-- GrassCells.complement()Z -/
def qc_GC_complement : List qI := [(.aload_n 0, 0, 0, 0, 0, []),
  (.getfield 19, 10, 1, 2, 0, []),
  (.getfield 90, 0, 0, 0, 0, []),
  (.ifCond .ne 5, 6, 0, 0, 0, []),
  (.iconst 0, 0, 0, 0, 0, []),
  (.ireturn, 1, 0, 0, 0, []),
  (.iconst 1, 0, 0, 0, 1, []),
  (.istore_n 1, 0, 0, 0, 0, []),
  (.iload_n 1, 0, 0, 0, 0, []),
  (.aload_n 0, 0, 0, 0, 0, []),
  (.getfield 19, 10, 1, 2, 0, []),
  (.getfield 90, 0, 0, 0, 0, []),
  (.if_icmp .gt 31, 27, 0, 0, 0, []),
  (.aload_n 0, 0, 0, 0, 0, []),
  (.getfield 57, 10, 7, 2, 0, []),
  (.iload_n 1, 0, 0, 0, 0, []),
  (.aload_n 0, 0, 0, 0, 0, []),
  (.getfield 19, 10, 1, 2, 0, []),
  (.iload_n 1, 0, 0, 0, 0, []),
  (.invokevirtual 183, 113, 2, 1, 0, []),
  (.aload_n 0, 0, 0, 0, 0, []),
  (.getfield 19, 10, 1, 2, 0, []),
  (.getfield 90, 0, 0, 0, 0, []),
  (.iadd, 0, 0, 0, 0, []),
  (.iastore, 0, 0, 0, 0, []),
  (.iinc 1 1, 0, 0, 0, 0, []),
  (.goto (-36), 8, 0, 0, 0, []),
  (.aload_n 0, 0, 0, 0, 0, []),
  (.aload_n 0, 0, 0, 0, 0, []),
  (.getfield 19, 10, 1, 2, 0, []),
  (.getfield 90, 0, 0, 0, 0, []),
  (.aload_n 0, 0, 0, 0, 0, []),
  (.getfield 57, 10, 7, 2, 0, []),
  (.invokevirtual 86, 52, 3, 11, 0, []),
  (.iconst 1, 0, 0, 0, 1, []),
  (.ireturn, 1, 0, 0, 0, [])]
/-- GrassCells.undo()I -/
def qc_GC_undo : List qI := [(.aload_n 0, 0, 0, 0, 0, []),
  (.getfield 40, 10, 4, 2, 0, []),
  (.getfield 186, 6, 2, 0, 0, []),
  (.ifCond .ne 5, 6, 0, 0, 0, []),
  (.iconst (-1), 0, 0, 0, (-1), []),
  (.ireturn, 0, 0, 0, 0, []),
  (.aload_n 0, 0, 0, 0, 0, []),
  (.getfield 40, 10, 4, 2, 0, []),
  (.invokevirtual 187, 116, 1, 7, 0, []),
  (.astore_n 1, 0, 0, 0, 0, []),
  (.aload_n 0, 0, 0, 0, 0, []),
  (.getfield 19, 10, 1, 2, 0, []),
  (.aload_n 1, 0, 0, 0, 0, []),
  (.getfield 191, 4, 2, 0, 0, []),
  (.aload_n 1, 0, 0, 0, 0, []),
  (.getfield 194, 4, 0, 2, 0, []),
  (.invokevirtual 195, 56, 3, 1, 0, []),
  (.aload_n 0, 0, 0, 0, 0, []),
  (.getfield 26, 10, 2, 2, 0, []),
  (.aload_n 1, 0, 0, 0, 0, []),
  (.getfield 198, 4, 1, 2, 0, []),
  (.invokevirtual 201, 55, 2, 3, 0, []),
  (.aload_n 0, 0, 0, 0, 0, []),
  (.getfield 40, 10, 4, 2, 0, []),
  (.getfield 186, 6, 2, 0, 0, []),
  (.ireturn, 0, 0, 0, 0, [])]
/-- GrassCells$Past.takeLast()LGrassCells$Moment; -/
def qc_Pa_takeLast : List qI := [(.aload_n 0, 0, 0, 0, 0, []),
  (.getfield 11, 6, 0, 2, 0, []),
  (.aload_n 0, 0, 0, 0, 0, []),
  (.getfield 18, 6, 1, 0, 0, []),
  (.aaload, 0, 0, 0, 0, []),
  (.astore_n 1, 0, 0, 0, 0, []),
  (.aload_n 0, 0, 0, 0, 0, []),
  (.aload_n 0, 0, 0, 0, 0, []),
  (.getfield 18, 6, 1, 0, 0, []),
  (.ifCond .le 12, 15, 0, 0, 0, []),
  (.aload_n 0, 0, 0, 0, 0, []),
  (.getfield 18, 6, 1, 0, 0, []),
  (.iconst 1, 0, 0, 0, 1, []),
  (.isub, 0, 0, 0, 0, []),
  (.goto 5, 16, 0, 0, 0, []),
  (.bipush 19, 0, 0, 0, 19, []),
  (.putfield 18, 6, 1, 0, 0, []),
  (.aload_n 0, 0, 0, 0, 0, []),
  (.dup, 0, 0, 0, 0, []),
  (.getfield 22, 6, 2, 0, 0, []),
  (.iconst 1, 0, 0, 0, 1, []),
  (.isub, 0, 0, 0, 0, []),
  (.putfield 22, 6, 2, 0, 0, []),
  (.aload_n 1, 0, 0, 0, 0, []),
  (.areturn, 0, 0, 0, 0, [])]
/-- GrassCells.howMany(III)I -/
def qc_GC_howMany : List qI := [(.iload_n 1, 0, 0, 0, 0, []),
  (.iconst 2, 0, 0, 0, 2, []),
  (.if_icmp .lt 22, 13, 0, 0, 0, []),
  (.iload_n 1, 0, 0, 0, 0, []),
  (.bipush 7, 0, 0, 0, 7, []),
  (.if_icmp .gt 16, 13, 0, 0, 0, []),
  (.iload_n 2, 0, 0, 0, 0, []),
  (.ifCond .lt 12, 13, 0, 0, 0, []),
  (.iload_n 2, 0, 0, 0, 0, []),
  (.iload_n 1, 0, 0, 0, 0, []),
  (.if_icmp .gt 7, 13, 0, 0, 0, []),
  (.iload_n 3, 0, 0, 0, 0, []),
  (.ifCond .ge 5, 15, 0, 0, 0, []),
  (.iconst (-1), 0, 0, 0, (-1), []),
  (.ireturn, 0, 0, 0, 0, []),
  (.aload_n 0, 0, 0, 0, 0, []),
  (.getfield 47, 10, 5, 2, 0, []),
  (.iload_n 1, 0, 0, 0, 0, []),
  (.iload_n 2, 0, 0, 0, 0, []),
  (.iload_n 1, 0, 0, 0, 0, []),
  (.iload_n 2, 0, 0, 0, 0, []),
  (.isub, 0, 0, 0, 0, []),
  (.invokestatic 205, 54, 2, 92, 0, []),
  (.iload_n 3, 0, 0, 0, 0, []),
  (.invokevirtual 210, 118, 4, 2, 0, []),
  (.ireturn, 0, 0, 0, 0, [])]
/-- GrassCells$Census.cells(III)I -/
def qc_Cs_cells : List qI := [(.iload_n 3, 0, 0, 0, 0, []),
  (.bipush 13, 0, 0, 0, 13, []),
  (.if_icmp .lt 5, 5, 0, 0, 0, []),
  (.iconst 0, 0, 0, 0, 0, []),
  (.ireturn, 0, 0, 0, 0, []),
  (.aload_n 0, 0, 0, 0, 0, []),
  (.invokevirtual 17, 119, 1, 2, 0, []),
  (.aload_n 0, 0, 0, 0, 0, []),
  (.invokevirtual 20, 120, 1, 2, 0, []),
  (.aload_n 0, 0, 0, 0, 0, []),
  (.getfield 11, 1, 0, 2, 0, []),
  (.iconst 1, 0, 0, 0, 1, []),
  (.iload_n 2, 0, 0, 0, 0, []),
  (.ishl, 0, 0, 0, 0, []),
  (.aaload, 0, 0, 0, 0, []),
  (.iconst 0, 0, 0, 0, 0, []),
  (.iconst 1, 0, 0, 0, 1, []),
  (.iastore, 0, 0, 0, 0, []),
  (.iload_n 1, 0, 0, 0, 0, []),
  (.istore 4, 0, 0, 0, 0, []),
  (.iload 4, 0, 0, 0, 0, []),
  (.iconst 1, 0, 0, 0, 1, []),
  (.if_icmp .lt 45, 42, 0, 0, 0, []),
  (.aload_n 0, 0, 0, 0, 0, []),
  (.invokevirtual 17, 119, 1, 2, 0, []),
  (.iconst 1, 0, 0, 0, 1, []),
  (.istore 5, 0, 0, 0, 0, []),
  (.iload 5, 0, 0, 0, 0, []),
  (.bipush 16, 0, 0, 0, 16, []),
  (.if_icmp .ge 21, 38, 0, 0, 0, []),
  (.aload_n 0, 0, 0, 0, 0, []),
  (.iload 5, 0, 0, 0, 0, []),
  (.invokevirtual 23, 121, 2, 2, 0, []),
  (.aload_n 0, 0, 0, 0, 0, []),
  (.iload 5, 0, 0, 0, 0, []),
  (.invokevirtual 27, 125, 2, 2, 0, []),
  (.iinc 5 1, 0, 0, 0, 0, []),
  (.goto (-22), 27, 0, 0, 0, []),
  (.aload_n 0, 0, 0, 0, 0, []),
  (.invokevirtual 20, 120, 1, 2, 0, []),
  (.iinc 4 (-1), 0, 0, 0, 0, []),
  (.goto (-45), 20, 0, 0, 0, []),
  (.aload_n 0, 0, 0, 0, 0, []),
  (.getfield 11, 1, 0, 2, 0, []),
  (.iconst 1, 0, 0, 0, 1, []),
  (.aaload, 0, 0, 0, 0, []),
  (.iload_n 3, 0, 0, 0, 0, []),
  (.iaload, 0, 0, 0, 0, []),
  (.ireturn, 0, 0, 0, 0, [])]
/-- GrassCells$Census.clearThen()V -/
def qc_Cs_clearThen : List qI := [(.iconst 0, 0, 0, 0, 0, []),
  (.istore_n 1, 0, 0, 0, 0, []),
  (.iload_n 1, 0, 0, 0, 0, []),
  (.bipush 16, 0, 0, 0, 16, []),
  (.if_icmp .ge 19, 13, 0, 0, 0, []),
  (.aload_n 0, 0, 0, 0, 0, []),
  (.getfield 14, 1, 1, 2, 0, []),
  (.iload_n 1, 0, 0, 0, 0, []),
  (.aaload, 0, 0, 0, 0, []),
  (.iconst 0, 0, 0, 0, 0, []),
  (.invokestatic 30, 32, 2, 0, 0, []),
  (.iinc 1 1, 0, 0, 0, 0, []),
  (.goto (-19), 2, 0, 0, 0, []),
  (.return_, 0, 0, 0, 0, [])]
/-- GrassCells$Census.flip()V -/
def qc_Cs_flip : List qI := [(.aload_n 0, 0, 0, 0, 0, []),
  (.getfield 11, 1, 0, 2, 0, []),
  (.astore_n 1, 0, 0, 0, 0, []),
  (.aload_n 0, 0, 0, 0, 0, []),
  (.aload_n 0, 0, 0, 0, 0, []),
  (.getfield 14, 1, 1, 2, 0, []),
  (.putfield 11, 1, 0, 2, 0, []),
  (.aload_n 0, 0, 0, 0, 0, []),
  (.aload_n 1, 0, 0, 0, 0, []),
  (.putfield 14, 1, 1, 2, 0, []),
  (.return_, 0, 0, 0, 0, [])]
/-- GrassCells$Census.endLowestRow(I)V -/
def qc_Cs_endLowestRow : List qI := [(.iload_n 1, 0, 0, 0, 0, []),
  (.invokestatic 36, 122, 1, 0, 0, []),
  (.istore_n 2, 0, 0, 0, 0, []),
  (.iload_n 2, 0, 0, 0, 0, []),
  (.iconst 1, 0, 0, 0, 1, []),
  (.if_icmp .le 20, 21, 0, 0, 0, []),
  (.iload_n 2, 0, 0, 0, 0, []),
  (.iconst 1, 0, 0, 0, 1, []),
  (.ishr, 0, 0, 0, 0, []),
  (.istore_n 3, 0, 0, 0, 0, []),
  (.aload_n 0, 0, 0, 0, 0, []),
  (.iload_n 1, 0, 0, 0, 0, []),
  (.iload_n 3, 0, 0, 0, 0, []),
  (.iload_n 1, 0, 0, 0, 0, []),
  (.iload_n 3, 0, 0, 0, 0, []),
  (.iconst 1, 0, 0, 0, 1, []),
  (.isub, 0, 0, 0, 0, []),
  (.iand, 0, 0, 0, 0, []),
  (.ior, 0, 0, 0, 0, []),
  (.iconst 0, 0, 0, 0, 0, []),
  (.invokevirtual 42, 124, 4, 2, 0, []),
  (.return_, 0, 0, 0, 0, [])]
/-- java/lang/Integer.highestOneBit(I)I -/
def qc_J_highestOneBit : List qI := [(.iload_n 0, 0, 0, 0, 0, []),
  (.ldc 127, 0, 0, 0, (-2147483648), []),
  (.iload_n 0, 0, 0, 0, 0, []),
  (.invokestatic 51, 123, 1, 0, 0, []),
  (.iushr, 0, 0, 0, 0, []),
  (.iand, 0, 0, 0, 0, []),
  (.ireturn, 0, 0, 0, 0, [])]
/-- java/lang/Integer.numberOfLeadingZeros(I)I -/
def qc_J_numberOfLeadingZeros : List qI := [(.iload_n 0, 0, 0, 0, 0, []),
  (.ifCond .gt 14, 8, 0, 0, 0, []),
  (.iload_n 0, 0, 0, 0, 0, []),
  (.ifCond .ne 8, 6, 0, 0, 0, []),
  (.bipush 32, 0, 0, 0, 32, []),
  (.goto 4, 7, 0, 0, 0, []),
  (.iconst 0, 0, 0, 0, 0, []),
  (.ireturn, 0, 0, 0, 0, []),
  (.bipush 31, 0, 0, 0, 31, []),
  (.istore_n 1, 0, 0, 0, 0, []),
  (.iload_n 0, 0, 0, 0, 0, []),
  (.ldc_w 264, 0, 0, 0, 65536, []),
  (.if_icmp .lt 11, 18, 0, 0, 0, []),
  (.iinc 1 (-16), 0, 0, 0, 0, []),
  (.iload_n 0, 0, 0, 0, 0, []),
  (.bipush 16, 0, 0, 0, 16, []),
  (.iushr, 0, 0, 0, 0, []),
  (.istore_n 0, 0, 0, 0, 0, []),
  (.iload_n 0, 0, 0, 0, 0, []),
  (.sipush 256, 0, 0, 0, 256, []),
  (.if_icmp .lt 11, 26, 0, 0, 0, []),
  (.iinc 1 (-8), 0, 0, 0, 0, []),
  (.iload_n 0, 0, 0, 0, 0, []),
  (.bipush 8, 0, 0, 0, 8, []),
  (.iushr, 0, 0, 0, 0, []),
  (.istore_n 0, 0, 0, 0, 0, []),
  (.iload_n 0, 0, 0, 0, 0, []),
  (.bipush 16, 0, 0, 0, 16, []),
  (.if_icmp .lt 10, 34, 0, 0, 0, []),
  (.iinc 1 (-4), 0, 0, 0, 0, []),
  (.iload_n 0, 0, 0, 0, 0, []),
  (.iconst 4, 0, 0, 0, 4, []),
  (.iushr, 0, 0, 0, 0, []),
  (.istore_n 0, 0, 0, 0, 0, []),
  (.iload_n 0, 0, 0, 0, 0, []),
  (.iconst 4, 0, 0, 0, 4, []),
  (.if_icmp .lt 10, 42, 0, 0, 0, []),
  (.iinc 1 (-2), 0, 0, 0, 0, []),
  (.iload_n 0, 0, 0, 0, 0, []),
  (.iconst 2, 0, 0, 0, 2, []),
  (.iushr, 0, 0, 0, 0, []),
  (.istore_n 0, 0, 0, 0, 0, []),
  (.iload_n 1, 0, 0, 0, 0, []),
  (.iload_n 0, 0, 0, 0, 0, []),
  (.iconst 1, 0, 0, 0, 1, []),
  (.iushr, 0, 0, 0, 0, []),
  (.isub, 0, 0, 0, 0, []),
  (.ireturn, 0, 0, 0, 0, [])]
/-- GrassCells$Census.pass(III)V -/
def qc_Cs_pass : List qI := [(.iconst 0, 0, 0, 0, 0, []),
  (.istore 4, 0, 0, 0, 0, []),
  (.iload 4, 0, 0, 0, 0, []),
  (.iload_n 3, 0, 0, 0, 0, []),
  (.iadd, 0, 0, 0, 0, []),
  (.bipush 13, 0, 0, 0, 13, []),
  (.if_icmp .ge 32, 26, 0, 0, 0, []),
  (.aload_n 0, 0, 0, 0, 0, []),
  (.getfield 14, 1, 1, 2, 0, []),
  (.iload_n 2, 0, 0, 0, 0, []),
  (.aaload, 0, 0, 0, 0, []),
  (.iload 4, 0, 0, 0, 0, []),
  (.iload_n 3, 0, 0, 0, 0, []),
  (.iadd, 0, 0, 0, 0, []),
  (.dup2, 0, 0, 0, 0, []),
  (.iaload, 0, 0, 0, 0, []),
  (.aload_n 0, 0, 0, 0, 0, []),
  (.getfield 11, 1, 0, 2, 0, []),
  (.iload_n 1, 0, 0, 0, 0, []),
  (.aaload, 0, 0, 0, 0, []),
  (.iload 4, 0, 0, 0, 0, []),
  (.iaload, 0, 0, 0, 0, []),
  (.iadd, 0, 0, 0, 0, []),
  (.iastore, 0, 0, 0, 0, []),
  (.iinc 4 1, 0, 0, 0, 0, []),
  (.goto (-35), 2, 0, 0, 0, []),
  (.return_, 0, 0, 0, 0, [])]
/-- GrassCells$Census.addColumn(I)V -/
def qc_Cs_addColumn : List qI := [(.iload_n 1, 0, 0, 0, 0, []),
  (.invokestatic 36, 122, 1, 0, 0, []),
  (.istore_n 2, 0, 0, 0, 0, []),
  (.iconst 0, 0, 0, 0, 0, []),
  (.istore_n 3, 0, 0, 0, 0, []),
  (.iload_n 3, 0, 0, 0, 0, []),
  (.iload_n 2, 0, 0, 0, 0, []),
  (.if_icmp .ge 47, 38, 0, 0, 0, []),
  (.iload_n 3, 0, 0, 0, 0, []),
  (.iload_n 3, 0, 0, 0, 0, []),
  (.ineg, 0, 0, 0, 0, []),
  (.iand, 0, 0, 0, 0, []),
  (.ineg, 0, 0, 0, 0, []),
  (.istore 4, 0, 0, 0, 0, []),
  (.iload_n 3, 0, 0, 0, 0, []),
  (.ifCond .eq 18, 28, 0, 0, 0, []),
  (.iload_n 1, 0, 0, 0, 0, []),
  (.iload_n 2, 0, 0, 0, 0, []),
  (.iconst 1, 0, 0, 0, 1, []),
  (.isub, 0, 0, 0, 0, []),
  (.iand, 0, 0, 0, 0, []),
  (.iload_n 3, 0, 0, 0, 0, []),
  (.iconst (-1), 0, 0, 0, (-1), []),
  (.ixor, 0, 0, 0, 0, []),
  (.iand, 0, 0, 0, 0, []),
  (.iload 4, 0, 0, 0, 0, []),
  (.iand, 0, 0, 0, 0, []),
  (.ifCond .ne 15, 36, 0, 0, 0, []),
  (.aload_n 0, 0, 0, 0, 0, []),
  (.iload_n 1, 0, 0, 0, 0, []),
  (.iload_n 1, 0, 0, 0, 0, []),
  (.iload_n 3, 0, 0, 0, 0, []),
  (.ior, 0, 0, 0, 0, []),
  (.iload_n 3, 0, 0, 0, 0, []),
  (.invokestatic 46, 47, 1, 0, 0, []),
  (.invokevirtual 42, 124, 4, 2, 0, []),
  (.iinc 3 1, 0, 0, 0, 0, []),
  (.goto (-46), 5, 0, 0, 0, []),
  (.return_, 0, 0, 0, 0, [])]
/-- GrassCells.keep(I)I -/
def qc_GC_keep : List qI := [(.aload_n 0, 0, 0, 0, 0, []),
  (.getfield 19, 10, 1, 2, 0, []),
  (.getfield 90, 0, 0, 0, 0, []),
  (.ifCond .eq 12, 9, 0, 0, 0, []),
  (.iload_n 1, 0, 0, 0, 0, []),
  (.ifCond .lt 8, 9, 0, 0, 0, []),
  (.iload_n 1, 0, 0, 0, 0, []),
  (.iconst 4, 0, 0, 0, 4, []),
  (.if_icmp .lt 5, 11, 0, 0, 0, []),
  (.iconst (-1), 0, 0, 0, (-1), []),
  (.ireturn, 0, 0, 0, 0, []),
  (.aload_n 0, 0, 0, 0, 0, []),
  (.getfield 53, 10, 6, 2, 0, []),
  (.iload_n 1, 0, 0, 0, 0, []),
  (.aaload, 0, 0, 0, 0, []),
  (.aload_n 0, 0, 0, 0, 0, []),
  (.getfield 19, 10, 1, 2, 0, []),
  (.invokevirtual 213, 127, 2, 9, 0, []),
  (.aload_n 0, 0, 0, 0, 0, []),
  (.getfield 19, 10, 1, 2, 0, []),
  (.invokevirtual 217, 108, 1, 1, 0, []),
  (.ireturn, 0, 0, 0, 0, [])]
/-- GrassCells$Shelf.put(LGrassCells$Cell;)V -/
def qc_Sh_put : List qI := [(.aload_n 0, 0, 0, 0, 0, []),
  (.aload_n 1, 0, 0, 0, 0, []),
  (.getfield 15, 0, 0, 0, 0, []),
  (.putfield 21, 8, 0, 0, 0, []),
  (.aload_n 0, 0, 0, 0, 0, []),
  (.aload_n 1, 0, 0, 0, 0, []),
  (.getfield 22, 0, 1, 0, 0, []),
  (.putfield 25, 8, 1, 0, 0, []),
  (.aload_n 0, 0, 0, 0, 0, []),
  (.aload_n 1, 0, 0, 0, 0, []),
  (.getfield 26, 0, 3, 0, 0, []),
  (.putfield 29, 8, 2, 0, 0, []),
  (.iconst 0, 0, 0, 0, 0, []),
  (.istore_n 2, 0, 0, 0, 0, []),
  (.iload_n 2, 0, 0, 0, 0, []),
  (.aload_n 0, 0, 0, 0, 0, []),
  (.getfield 29, 8, 2, 0, 0, []),
  (.if_icmp .ge 21, 28, 0, 0, 0, []),
  (.aload_n 0, 0, 0, 0, 0, []),
  (.getfield 9, 8, 3, 2, 0, []),
  (.iload_n 2, 0, 0, 0, 0, []),
  (.aload_n 1, 0, 0, 0, 0, []),
  (.getfield 30, 0, 6, 2, 0, []),
  (.iload_n 2, 0, 0, 0, 0, []),
  (.iaload, 0, 0, 0, 0, []),
  (.iastore, 0, 0, 0, 0, []),
  (.iinc 2 1, 0, 0, 0, 0, []),
  (.goto (-23), 14, 0, 0, 0, []),
  (.return_, 0, 0, 0, 0, [])]
/-- GrassCells.has(I)I -/
def qc_GC_has : List qI := [(.aload_n 0, 0, 0, 0, 0, []),
  (.getfield 19, 10, 1, 2, 0, []),
  (.getfield 90, 0, 0, 0, 0, []),
  (.ifCond .eq 12, 9, 0, 0, 0, []),
  (.iload_n 1, 0, 0, 0, 0, []),
  (.ifCond .lt 8, 9, 0, 0, 0, []),
  (.iload_n 1, 0, 0, 0, 0, []),
  (.iconst 4, 0, 0, 0, 4, []),
  (.if_icmp .lt 5, 11, 0, 0, 0, []),
  (.iconst (-1), 0, 0, 0, (-1), []),
  (.ireturn, 0, 0, 0, 0, []),
  (.aload_n 0, 0, 0, 0, 0, []),
  (.getfield 53, 10, 6, 2, 0, []),
  (.iload_n 1, 0, 0, 0, 0, []),
  (.aaload, 0, 0, 0, 0, []),
  (.getfield 220, 8, 0, 0, 0, []),
  (.ifCond .ne 6, 19, 0, 0, 0, []),
  (.bipush (-2), 0, 0, 0, (-2), []),
  (.ireturn, 0, 0, 0, 0, []),
  (.aload_n 0, 0, 0, 0, 0, []),
  (.getfield 53, 10, 6, 2, 0, []),
  (.iload_n 1, 0, 0, 0, 0, []),
  (.aaload, 0, 0, 0, 0, []),
  (.aload_n 0, 0, 0, 0, 0, []),
  (.getfield 19, 10, 1, 2, 0, []),
  (.invokevirtual 221, 129, 2, 9, 0, []),
  (.ifCond .eq 7, 29, 0, 0, 0, []),
  (.iconst 1, 0, 0, 0, 1, []),
  (.goto 4, 30, 0, 0, 0, []),
  (.iconst 0, 0, 0, 0, 0, []),
  (.ireturn, 0, 0, 0, 0, [])]
/-- GrassCells$Shelf.isInClosureOf(LGrassCells$Cell;)Z -/
def qc_Sh_isInClosureOf : List qI := [(.aload_n 0, 0, 0, 0, 0, []),
  (.getfield 21, 8, 0, 0, 0, []),
  (.aload_n 1, 0, 0, 0, 0, []),
  (.getfield 15, 0, 0, 0, 0, []),
  (.if_icmp .ne 14, 10, 0, 0, 0, []),
  (.aload_n 0, 0, 0, 0, 0, []),
  (.getfield 25, 8, 1, 0, 0, []),
  (.aload_n 1, 0, 0, 0, 0, []),
  (.getfield 22, 0, 1, 0, 0, []),
  (.if_icmp .eq 5, 12, 0, 0, 0, []),
  (.iconst 0, 0, 0, 0, 0, []),
  (.ireturn, 1, 0, 0, 0, []),
  (.iconst 0, 0, 0, 0, 0, []),
  (.istore_n 2, 0, 0, 0, 0, []),
  (.iload_n 2, 0, 0, 0, 0, []),
  (.aload_n 0, 0, 0, 0, 0, []),
  (.getfield 29, 8, 2, 0, 0, []),
  (.if_icmp .ge 24, 29, 0, 0, 0, []),
  (.aload_n 1, 0, 0, 0, 0, []),
  (.aload_n 0, 0, 0, 0, 0, []),
  (.getfield 9, 8, 3, 2, 0, []),
  (.iload_n 2, 0, 0, 0, 0, []),
  (.iaload, 0, 0, 0, 0, []),
  (.invokevirtual 31, 80, 2, 1, 0, []),
  (.ifCond .ne 5, 27, 0, 0, 0, []),
  (.iconst 0, 0, 0, 0, 0, []),
  (.ireturn, 1, 0, 0, 0, []),
  (.iinc 2 1, 0, 0, 0, 0, []),
  (.goto (-26), 14, 0, 0, 0, []),
  (.iconst 1, 0, 0, 0, 1, []),
  (.ireturn, 1, 0, 0, 0, [])]
/-- GrassCells.count(I)I -/
def qc_GC_count : List qI := [(.iload_n 1, 0, 0, 0, 0, []),
  (.tableswitch 51 7 9 #[27, 35, 40], 14, 0, 0, 0, [(7, 2), (8, 6), (9, 9)]),
  (.aload_n 0, 0, 0, 0, 0, []),
  (.getfield 40, 10, 4, 2, 0, []),
  (.getfield 186, 6, 2, 0, 0, []),
  (.ireturn, 0, 0, 0, 0, []),
  (.aload_n 0, 0, 0, 0, 0, []),
  (.invokevirtual 225, 131, 1, 11, 0, []),
  (.ireturn, 0, 0, 0, 0, []),
  (.aload_n 0, 0, 0, 0, 0, []),
  (.getfield 10, 10, 0, 2, 0, []),
  (.getfield 62, 7, 0, 2, 0, []),
  (.getfield 66, 9, 1, 0, 0, []),
  (.ireturn, 0, 0, 0, 0, []),
  (.aload_n 0, 0, 0, 0, 0, []),
  (.getfield 19, 10, 1, 2, 0, []),
  (.getfield 90, 0, 0, 0, 0, []),
  (.ifCond .le 11, 22, 0, 0, 0, []),
  (.aload_n 0, 0, 0, 0, 0, []),
  (.iload_n 1, 0, 0, 0, 0, []),
  (.invokevirtual 228, 132, 2, 11, 0, []),
  (.goto 4, 23, 0, 0, 0, []),
  (.iconst (-1), 0, 0, 0, (-1), []),
  (.ireturn, 0, 0, 0, 0, [])]
/-- GrassCells.filledShelves()I -/
def qc_GC_filledShelves : List qI := [(.iconst 0, 0, 0, 0, 0, []),
  (.istore_n 1, 0, 0, 0, 0, []),
  (.iconst 0, 0, 0, 0, 0, []),
  (.istore_n 2, 0, 0, 0, 0, []),
  (.iload_n 2, 0, 0, 0, 0, []),
  (.iconst 4, 0, 0, 0, 4, []),
  (.if_icmp .ge 27, 21, 0, 0, 0, []),
  (.aload_n 0, 0, 0, 0, 0, []),
  (.getfield 53, 10, 6, 2, 0, []),
  (.iload_n 2, 0, 0, 0, 0, []),
  (.aaload, 0, 0, 0, 0, []),
  (.getfield 220, 8, 0, 0, 0, []),
  (.ifCond .le 9, 19, 0, 0, 0, []),
  (.iload_n 1, 0, 0, 0, 0, []),
  (.iconst 1, 0, 0, 0, 1, []),
  (.iload_n 2, 0, 0, 0, 0, []),
  (.ishl, 0, 0, 0, 0, []),
  (.ior, 0, 0, 0, 0, []),
  (.istore_n 1, 0, 0, 0, 0, []),
  (.iinc 2 1, 0, 0, 0, 0, []),
  (.goto (-26), 4, 0, 0, 0, []),
  (.iload_n 1, 0, 0, 0, 0, []),
  (.ireturn, 0, 0, 0, 0, [])]
/-- GrassCells.countOfLive(I)I -/
def qc_GC_countOfLive : List qI := [(.iload_n 1, 0, 0, 0, 0, []),
  (.tableswitch 107 0 6 #[43, 51, 59, 67, 75, 84, 99], 34, 0, 0, 0, [(0, 2), (1, 6), (2, 10), (3, 14), (4, 18), (5, 23), (6, 30)]),
  (.aload_n 0, 0, 0, 0, 0, []),
  (.getfield 19, 10, 1, 2, 0, []),
  (.getfield 90, 0, 0, 0, 0, []),
  (.ireturn, 0, 0, 0, 0, []),
  (.aload_n 0, 0, 0, 0, 0, []),
  (.getfield 19, 10, 1, 2, 0, []),
  (.getfield 231, 0, 1, 0, 0, []),
  (.ireturn, 0, 0, 0, 0, []),
  (.aload_n 0, 0, 0, 0, 0, []),
  (.getfield 19, 10, 1, 2, 0, []),
  (.invokevirtual 217, 108, 1, 1, 0, []),
  (.ireturn, 0, 0, 0, 0, []),
  (.aload_n 0, 0, 0, 0, 0, []),
  (.getfield 19, 10, 1, 2, 0, []),
  (.getfield 232, 0, 2, 0, 0, []),
  (.ireturn, 0, 0, 0, 0, []),
  (.aload_n 0, 0, 0, 0, 0, []),
  (.getfield 19, 10, 1, 2, 0, []),
  (.iconst 0, 0, 0, 0, 0, []),
  (.invokevirtual 235, 133, 2, 1, 0, []),
  (.ireturn, 0, 0, 0, 0, []),
  (.aload_n 0, 0, 0, 0, 0, []),
  (.getfield 19, 10, 1, 2, 0, []),
  (.aload_n 0, 0, 0, 0, 0, []),
  (.getfield 19, 10, 1, 2, 0, []),
  (.getfield 90, 0, 0, 0, 0, []),
  (.invokevirtual 235, 133, 2, 1, 0, []),
  (.ireturn, 0, 0, 0, 0, []),
  (.aload_n 0, 0, 0, 0, 0, []),
  (.getfield 19, 10, 1, 2, 0, []),
  (.invokevirtual 238, 134, 1, 1, 0, []),
  (.ireturn, 0, 0, 0, 0, []),
  (.iconst (-1), 0, 0, 0, (-1), []),
  (.ireturn, 0, 0, 0, 0, [])]
/-- GrassCells$Cell.fixedLabels(I)I -/
def qc_Ce_fixedLabels : List qI := [(.iconst 0, 0, 0, 0, 0, []),
  (.istore_n 2, 0, 0, 0, 0, []),
  (.iconst 1, 0, 0, 0, 1, []),
  (.istore_n 3, 0, 0, 0, 0, []),
  (.iload_n 3, 0, 0, 0, 0, []),
  (.aload_n 0, 0, 0, 0, 0, []),
  (.getfield 32, 0, 0, 0, 0, []),
  (.if_icmp .gt 28, 23, 0, 0, 0, []),
  (.aload_n 0, 0, 0, 0, 0, []),
  (.getfield 9, 0, 4, 2, 0, []),
  (.iload_n 3, 0, 0, 0, 0, []),
  (.iaload, 0, 0, 0, 0, []),
  (.iload_n 3, 0, 0, 0, 0, []),
  (.iload_n 1, 0, 0, 0, 0, []),
  (.iadd, 0, 0, 0, 0, []),
  (.if_icmp .ne 10, 21, 0, 0, 0, []),
  (.iload_n 2, 0, 0, 0, 0, []),
  (.iload_n 3, 0, 0, 0, 0, []),
  (.invokestatic 53, 27, 1, 0, 0, []),
  (.ior, 0, 0, 0, 0, []),
  (.istore_n 2, 0, 0, 0, 0, []),
  (.iinc 3 1, 0, 0, 0, 0, []),
  (.goto (-30), 4, 0, 0, 0, []),
  (.iload_n 2, 0, 0, 0, 0, []),
  (.ireturn, 0, 0, 0, 0, [])]
/-- GrassCells$Cell.partCount()I -/
def qc_Ce_partCount : List qI := [(.iconst 0, 0, 0, 0, 0, []),
  (.istore_n 1, 0, 0, 0, 0, []),
  (.iconst 0, 0, 0, 0, 0, []),
  (.istore_n 2, 0, 0, 0, 0, []),
  (.iconst 1, 0, 0, 0, 1, []),
  (.istore_n 3, 0, 0, 0, 0, []),
  (.iload_n 3, 0, 0, 0, 0, []),
  (.aload_n 0, 0, 0, 0, 0, []),
  (.getfield 32, 0, 0, 0, 0, []),
  (.if_icmp .gt 28, 23, 0, 0, 0, []),
  (.iload_n 1, 0, 0, 0, 0, []),
  (.iload_n 3, 0, 0, 0, 0, []),
  (.invokestatic 97, 33, 2, 0, 0, []),
  (.ifCond .ne 14, 21, 0, 0, 0, []),
  (.iload_n 1, 0, 0, 0, 0, []),
  (.aload_n 0, 0, 0, 0, 0, []),
  (.iload_n 3, 0, 0, 0, 0, []),
  (.invokevirtual 110, 83, 2, 1, 0, []),
  (.ior, 0, 0, 0, 0, []),
  (.istore_n 1, 0, 0, 0, 0, []),
  (.iinc 2 1, 0, 0, 0, 0, []),
  (.iinc 3 1, 0, 0, 0, 0, []),
  (.goto (-30), 6, 0, 0, 0, []),
  (.iload_n 2, 0, 0, 0, 0, []),
  (.ireturn, 0, 0, 0, 0, [])]
/-- GrassCellsModel.<init>()V -/
def qc_Md_init : List qI := [(.aload_n 0, 0, 0, 0, 0, []),
  (.invokespecial 1, 2, 1, 98, 0, []),
  (.aload_n 0, 0, 0, 0, 0, []),
  (.sipush 160, 0, 0, 0, 160, []),
  (.newarray .byte, 2, 0, 0, 0, []),
  (.putfield 7, 11, 0, 2, 0, []),
  (.aload_n 0, 0, 0, 0, 0, []),
  (.bipush 12, 0, 0, 0, 12, []),
  (.newarray .byte, 2, 0, 0, 0, []),
  (.dup, 0, 0, 0, 0, []),
  (.iconst 0, 0, 0, 0, 0, []),
  (.bipush 112, 0, 0, 0, 112, []),
  (.bastore, 0, 0, 0, 0, []),
  (.dup, 0, 0, 0, 0, []),
  (.iconst 1, 0, 0, 0, 1, []),
  (.bipush 101, 0, 0, 0, 101, []),
  (.bastore, 0, 0, 0, 0, []),
  (.dup, 0, 0, 0, 0, []),
  (.iconst 2, 0, 0, 0, 2, []),
  (.bipush 114, 0, 0, 0, 114, []),
  (.bastore, 0, 0, 0, 0, []),
  (.dup, 0, 0, 0, 0, []),
  (.iconst 3, 0, 0, 0, 3, []),
  (.bipush 109, 0, 0, 0, 109, []),
  (.bastore, 0, 0, 0, 0, []),
  (.dup, 0, 0, 0, 0, []),
  (.iconst 4, 0, 0, 0, 4, []),
  (.bipush 102, 0, 0, 0, 102, []),
  (.bastore, 0, 0, 0, 0, []),
  (.dup, 0, 0, 0, 0, []),
  (.iconst 5, 0, 0, 0, 5, []),
  (.bipush 105, 0, 0, 0, 105, []),
  (.bastore, 0, 0, 0, 0, []),
  (.dup, 0, 0, 0, 0, []),
  (.bipush 6, 0, 0, 0, 6, []),
  (.bipush 108, 0, 0, 0, 108, []),
  (.bastore, 0, 0, 0, 0, []),
  (.dup, 0, 0, 0, 0, []),
  (.bipush 7, 0, 0, 0, 7, []),
  (.bipush 108, 0, 0, 0, 108, []),
  (.bastore, 0, 0, 0, 0, []),
  (.dup, 0, 0, 0, 0, []),
  (.bipush 8, 0, 0, 0, 8, []),
  (.bipush 110, 0, 0, 0, 110, []),
  (.bastore, 0, 0, 0, 0, []),
  (.dup, 0, 0, 0, 0, []),
  (.bipush 9, 0, 0, 0, 9, []),
  (.bipush 101, 0, 0, 0, 101, []),
  (.bastore, 0, 0, 0, 0, []),
  (.dup, 0, 0, 0, 0, []),
  (.bipush 10, 0, 0, 0, 10, []),
  (.bipush 99, 0, 0, 0, 99, []),
  (.bastore, 0, 0, 0, 0, []),
  (.dup, 0, 0, 0, 0, []),
  (.bipush 11, 0, 0, 0, 11, []),
  (.bipush 107, 0, 0, 0, 107, []),
  (.bastore, 0, 0, 0, 0, []),
  (.putfield 13, 11, 4, 2, 0, []),
  (.aload_n 0, 0, 0, 0, 0, []),
  (.bipush 10, 0, 0, 0, 10, []),
  (.newarray .int, 1, 0, 0, 0, []),
  (.putfield 16, 11, 6, 2, 0, []),
  (.aload_n 0, 0, 0, 0, 0, []),
  (.bipush 10, 0, 0, 0, 10, []),
  (.newarray .int, 1, 0, 0, 0, []),
  (.putfield 20, 11, 7, 2, 0, []),
  (.aload_n 0, 0, 0, 0, 0, []),
  (.bipush 10, 0, 0, 0, 10, []),
  (.newarray .int, 1, 0, 0, 0, []),
  (.putfield 23, 11, 8, 2, 0, []),
  (.aload_n 0, 0, 0, 0, 0, []),
  (.bipush 81, 0, 0, 0, 81, []),
  (.newarray .int, 1, 0, 0, 0, []),
  (.putfield 26, 11, 9, 2, 0, []),
  (.aload_n 0, 0, 0, 0, 0, []),
  (.bipush 10, 0, 0, 0, 10, []),
  (.newarray .int, 1, 0, 0, 0, []),
  (.putfield 29, 11, 11, 2, 0, []),
  (.aload_n 0, 0, 0, 0, 0, []),
  (.bipush 10, 0, 0, 0, 10, []),
  (.newarray .int, 1, 0, 0, 0, []),
  (.putfield 32, 11, 13, 2, 0, []),
  (.aload_n 0, 0, 0, 0, 0, []),
  (.sipush 256, 0, 0, 0, 256, []),
  (.newarray .boolean, 3, 0, 0, 0, []),
  (.putfield 35, 11, 14, 2, 0, []),
  (.aload_n 0, 0, 0, 0, 0, []),
  (.sipush 256, 0, 0, 0, 256, []),
  (.newarray .boolean, 3, 0, 0, 0, []),
  (.putfield 39, 11, 15, 2, 0, []),
  (.aload_n 0, 0, 0, 0, 0, []),
  (.bipush 10, 0, 0, 0, 10, []),
  (.newarray .int, 1, 0, 0, 0, []),
  (.putfield 42, 11, 16, 2, 0, []),
  (.aload_n 0, 0, 0, 0, 0, []),
  (.bipush 81, 0, 0, 0, 81, []),
  (.newarray .long, 4, 0, 0, 0, []),
  (.putfield 45, 11, 17, 2, 0, []),
  (.aload_n 0, 0, 0, 0, 0, []),
  (.bipush 16, 0, 0, 0, 16, []),
  (.newarray .long, 4, 0, 0, 0, []),
  (.putfield 49, 11, 18, 2, 0, []),
  (.aload_n 0, 0, 0, 0, 0, []),
  (.sipush 400, 0, 0, 0, 400, []),
  (.newarray .int, 1, 0, 0, 0, []),
  (.putfield 52, 11, 19, 2, 0, []),
  (.aload_n 0, 0, 0, 0, 0, []),
  (.bipush 10, 0, 0, 0, 10, []),
  (.newarray .int, 1, 0, 0, 0, []),
  (.putfield 55, 11, 21, 2, 0, []),
  (.aload_n 0, 0, 0, 0, 0, []),
  (.sipush 256, 0, 0, 0, 256, []),
  (.newarray .boolean, 3, 0, 0, 0, []),
  (.putfield 58, 11, 22, 2, 0, []),
  (.aload_n 0, 0, 0, 0, 0, []),
  (.bipush 10, 0, 0, 0, 10, []),
  (.newarray .int, 1, 0, 0, 0, []),
  (.putfield 61, 11, 23, 2, 0, []),
  (.aload_n 0, 0, 0, 0, 0, []),
  (.bipush 10, 0, 0, 0, 10, []),
  (.newarray .int, 1, 0, 0, 0, []),
  (.putfield 64, 11, 24, 2, 0, []),
  (.aload_n 0, 0, 0, 0, 0, []),
  (.iconst 4, 0, 0, 0, 4, []),
  (.newarray .int, 1, 0, 0, 0, []),
  (.putfield 67, 11, 25, 2, 0, []),
  (.aload_n 0, 0, 0, 0, 0, []),
  (.bipush 40, 0, 0, 0, 40, []),
  (.newarray .int, 1, 0, 0, 0, []),
  (.putfield 70, 11, 26, 2, 0, []),
  (.aload_n 0, 0, 0, 0, 0, []),
  (.bipush 10, 0, 0, 0, 10, []),
  (.newarray .int, 1, 0, 0, 0, []),
  (.putfield 73, 11, 27, 2, 0, []),
  (.iconst 0, 0, 0, 0, 0, []),
  (.istore_n 1, 0, 0, 0, 0, []),
  (.iload_n 1, 0, 0, 0, 0, []),
  (.iconst 4, 0, 0, 0, 4, []),
  (.if_icmp .ge 16, 146, 0, 0, 0, []),
  (.aload_n 0, 0, 0, 0, 0, []),
  (.getfield 67, 11, 25, 2, 0, []),
  (.iload_n 1, 0, 0, 0, 0, []),
  (.iconst 0, 0, 0, 0, 0, []),
  (.iastore, 0, 0, 0, 0, []),
  (.iinc 1 1, 0, 0, 0, 0, []),
  (.goto (-15), 136, 0, 0, 0, []),
  (.return_, 0, 0, 0, 0, [])]
/-- GrassCellsModel.feed(IIIII)I -/
def qc_Md_feed : List qI := [(.aload_n 0, 0, 0, 0, 0, []),
  (.getfield 76, 11, 1, 0, 0, []),
  (.sipush 140, 0, 0, 0, 140, []),
  (.if_icmp .le 5, 6, 0, 0, 0, []),
  (.iconst (-1), 0, 0, 0, (-1), []),
  (.ireturn, 0, 0, 0, 0, []),
  (.iconst 0, 0, 0, 0, 0, []),
  (.istore 6, 0, 0, 0, 0, []),
  (.iload 6, 0, 0, 0, 0, []),
  (.bipush 20, 0, 0, 0, 20, []),
  (.if_icmp .ge 83, 52, 0, 0, 0, []),
  (.iload 6, 0, 0, 0, 0, []),
  (.iconst 4, 0, 0, 0, 4, []),
  (.if_icmp .ge 7, 16, 0, 0, 0, []),
  (.iload_n 1, 0, 0, 0, 0, []),
  (.goto 39, 32, 0, 0, 0, []),
  (.iload 6, 0, 0, 0, 0, []),
  (.bipush 8, 0, 0, 0, 8, []),
  (.if_icmp .ge 7, 21, 0, 0, 0, []),
  (.iload_n 2, 0, 0, 0, 0, []),
  (.goto 28, 32, 0, 0, 0, []),
  (.iload 6, 0, 0, 0, 0, []),
  (.bipush 12, 0, 0, 0, 12, []),
  (.if_icmp .ge 7, 26, 0, 0, 0, []),
  (.iload_n 3, 0, 0, 0, 0, []),
  (.goto 17, 32, 0, 0, 0, []),
  (.iload 6, 0, 0, 0, 0, []),
  (.bipush 16, 0, 0, 0, 16, []),
  (.if_icmp .ge 8, 31, 0, 0, 0, []),
  (.iload 4, 0, 0, 0, 0, []),
  (.goto 5, 32, 0, 0, 0, []),
  (.iload 5, 0, 0, 0, 0, []),
  (.istore 7, 0, 0, 0, 0, []),
  (.aload_n 0, 0, 0, 0, 0, []),
  (.getfield 7, 11, 0, 2, 0, []),
  (.aload_n 0, 0, 0, 0, 0, []),
  (.getfield 76, 11, 1, 0, 0, []),
  (.iload 6, 0, 0, 0, 0, []),
  (.iadd, 0, 0, 0, 0, []),
  (.iload 7, 0, 0, 0, 0, []),
  (.bipush 24, 0, 0, 0, 24, []),
  (.bipush 8, 0, 0, 0, 8, []),
  (.iload 6, 0, 0, 0, 0, []),
  (.iconst 4, 0, 0, 0, 4, []),
  (.irem, 0, 0, 0, 0, []),
  (.imul, 0, 0, 0, 0, []),
  (.isub, 0, 0, 0, 0, []),
  (.ishr, 0, 0, 0, 0, []),
  (.i2b, 0, 0, 0, 0, []),
  (.bastore, 0, 0, 0, 0, []),
  (.iinc 6 1, 0, 0, 0, 0, []),
  (.goto (-84), 8, 0, 0, 0, []),
  (.aload_n 0, 0, 0, 0, 0, []),
  (.dup, 0, 0, 0, 0, []),
  (.getfield 76, 11, 1, 0, 0, []),
  (.bipush 20, 0, 0, 0, 20, []),
  (.iadd, 0, 0, 0, 0, []),
  (.putfield 76, 11, 1, 0, 0, []),
  (.aload_n 0, 0, 0, 0, 0, []),
  (.getfield 76, 11, 1, 0, 0, []),
  (.ireturn, 0, 0, 0, 0, [])]
/-- GrassCellsModel.end(I)I -/
def qc_Md_end : List qI := [(.iload_n 1, 0, 0, 0, 0, []),
  (.i2l, 0, 0, 0, 0, []),
  (.lconst 0, 0, 0, 0, 0, []),
  (.aload_n 0, 0, 0, 0, 0, []),
  (.getfield 76, 11, 1, 0, 0, []),
  (.i2l, 0, 0, 0, 0, []),
  (.invokestatic 80, 138, 3, 0, 0, []),
  (.ifCond .ne 5, 10, 0, 0, 0, []),
  (.iconst (-1), 0, 0, 0, (-1), []),
  (.ireturn, 0, 0, 0, 0, []),
  (.aload_n 0, 0, 0, 0, 0, []),
  (.iload_n 1, 0, 0, 0, 0, []),
  (.putfield 76, 11, 1, 0, 0, []),
  (.iload_n 1, 0, 0, 0, 0, []),
  (.ireturn, 0, 0, 0, 0, [])]
/-- GrassCellsModel.isIn(JJJ)Z -/
def qc_Md_isIn : List qI := [(.lload_n 0, 0, 0, 0, 0, []),
  (.lload_n 2, 0, 0, 0, 0, []),
  (.lcmp, 0, 0, 0, 0, []),
  (.ifCond .lt 14, 10, 0, 0, 0, []),
  (.lload_n 0, 0, 0, 0, 0, []),
  (.lload 4, 0, 0, 0, 0, []),
  (.lcmp, 0, 0, 0, 0, []),
  (.ifCond .gt 7, 10, 0, 0, 0, []),
  (.iconst 1, 0, 0, 0, 1, []),
  (.goto 4, 11, 0, 0, 0, []),
  (.iconst 0, 0, 0, 0, 0, []),
  (.ireturn, 1, 0, 0, 0, [])]
/-- GrassCellsModel.cell()I -/
def qc_Md_cell : List qI := [(.aload_n 0, 0, 0, 0, 0, []),
  (.iconst 0, 0, 0, 0, 0, []),
  (.putfield 87, 11, 2, 0, 0, []),
  (.aload_n 0, 0, 0, 0, 0, []),
  (.invokevirtual 171, 140, 1, 12, 0, []),
  (.istore_n 1, 0, 0, 0, 0, []),
  (.iload_n 1, 0, 0, 0, 0, []),
  (.ifCond .ge 15, 14, 0, 0, 0, []),
  (.aload_n 0, 0, 0, 0, 0, []),
  (.iconst 1, 0, 0, 0, 1, []),
  (.aload_n 0, 0, 0, 0, 0, []),
  (.getfield 87, 11, 2, 0, 0, []),
  (.invokevirtual 108, 144, 3, 12, 0, []),
  (.goto 8, 17, 0, 0, 0, []),
  (.aload_n 0, 0, 0, 0, 0, []),
  (.iload_n 1, 0, 0, 0, 0, []),
  (.invokevirtual 174, 145, 2, 12, 0, []),
  (.istore_n 2, 0, 0, 0, 0, []),
  (.aload_n 0, 0, 0, 0, 0, []),
  (.iconst 0, 0, 0, 0, 0, []),
  (.putfield 76, 11, 1, 0, 0, []),
  (.iload_n 2, 0, 0, 0, 0, []),
  (.ifCond .ne 22, 33, 0, 0, 0, []),
  (.aload_n 0, 0, 0, 0, 0, []),
  (.getfield 177, 11, 10, 0, 0, []),
  (.ifCond .le 7, 28, 0, 0, 0, []),
  (.aload_n 0, 0, 0, 0, 0, []),
  (.invokevirtual 180, 167, 1, 12, 0, []),
  (.bipush (-2), 0, 0, 0, (-2), []),
  (.aload_n 0, 0, 0, 0, 0, []),
  (.getfield 84, 11, 3, 0, 0, []),
  (.isub, 0, 0, 0, 0, []),
  (.ireturn, 0, 0, 0, 0, []),
  (.aload_n 0, 0, 0, 0, 0, []),
  (.invokevirtual 183, 171, 1, 12, 0, []),
  (.aload_n 0, 0, 0, 0, 0, []),
  (.aload_n 0, 0, 0, 0, 0, []),
  (.getfield 102, 11, 5, 0, 0, []),
  (.putfield 177, 11, 10, 0, 0, []),
  (.iconst 1, 0, 0, 0, 1, []),
  (.istore_n 3, 0, 0, 0, 0, []),
  (.iload_n 3, 0, 0, 0, 0, []),
  (.aload_n 0, 0, 0, 0, 0, []),
  (.getfield 177, 11, 10, 0, 0, []),
  (.if_icmp .gt 21, 55, 0, 0, 0, []),
  (.aload_n 0, 0, 0, 0, 0, []),
  (.getfield 29, 11, 11, 2, 0, []),
  (.iload_n 3, 0, 0, 0, 0, []),
  (.aload_n 0, 0, 0, 0, 0, []),
  (.getfield 16, 11, 6, 2, 0, []),
  (.iload_n 3, 0, 0, 0, 0, []),
  (.iaload, 0, 0, 0, 0, []),
  (.iastore, 0, 0, 0, 0, []),
  (.iinc 3 1, 0, 0, 0, 0, []),
  (.goto (-23), 41, 0, 0, 0, []),
  (.aload_n 0, 0, 0, 0, 0, []),
  (.invokevirtual 186, 172, 1, 12, 0, []),
  (.aload_n 0, 0, 0, 0, 0, []),
  (.getfield 177, 11, 10, 0, 0, []),
  (.ireturn, 0, 0, 0, 0, [])]
/-- GrassCellsModel.wordHere()I -/
def qc_Md_wordHere : List qI := [(.aload_n 0, 0, 0, 0, 0, []),
  (.invokevirtual 94, 141, 1, 12, 0, []),
  (.pop, 0, 0, 0, 0, []),
  (.iconst 0, 0, 0, 0, 0, []),
  (.istore_n 1, 0, 0, 0, 0, []),
  (.iload_n 1, 0, 0, 0, 0, []),
  (.iconst 3, 0, 0, 0, 3, []),
  (.if_icmp .ge 68, 45, 0, 0, 0, []),
  (.iconst 0, 0, 0, 0, 0, []),
  (.istore_n 2, 0, 0, 0, 0, []),
  (.iload_n 2, 0, 0, 0, 0, []),
  (.iconst 4, 0, 0, 0, 4, []),
  (.if_icmp .ge 32, 30, 0, 0, 0, []),
  (.aload_n 0, 0, 0, 0, 0, []),
  (.aload_n 0, 0, 0, 0, 0, []),
  (.getfield 87, 11, 2, 0, 0, []),
  (.iload_n 2, 0, 0, 0, 0, []),
  (.iadd, 0, 0, 0, 0, []),
  (.invokevirtual 90, 142, 2, 12, 0, []),
  (.aload_n 0, 0, 0, 0, 0, []),
  (.getfield 13, 11, 4, 2, 0, []),
  (.iconst 4, 0, 0, 0, 4, []),
  (.iload_n 1, 0, 0, 0, 0, []),
  (.imul, 0, 0, 0, 0, []),
  (.iload_n 2, 0, 0, 0, 0, []),
  (.iadd, 0, 0, 0, 0, []),
  (.baload, 0, 0, 0, 0, []),
  (.if_icmp .ne 9, 30, 0, 0, 0, []),
  (.iinc 2 1, 0, 0, 0, 0, []),
  (.goto (-31), 10, 0, 0, 0, []),
  (.iload_n 2, 0, 0, 0, 0, []),
  (.iconst 4, 0, 0, 0, 4, []),
  (.if_icmp .ne 21, 43, 0, 0, 0, []),
  (.aload_n 0, 0, 0, 0, 0, []),
  (.aload_n 0, 0, 0, 0, 0, []),
  (.getfield 87, 11, 2, 0, 0, []),
  (.iconst 4, 0, 0, 0, 4, []),
  (.iadd, 0, 0, 0, 0, []),
  (.invokevirtual 90, 142, 2, 12, 0, []),
  (.invokestatic 98, 143, 1, 0, 0, []),
  (.ifCond .ne 5, 43, 0, 0, 0, []),
  (.iload_n 1, 0, 0, 0, 0, []),
  (.ireturn, 0, 0, 0, 0, []),
  (.iinc 1 1, 0, 0, 0, 0, []),
  (.goto (-67), 5, 0, 0, 0, []),
  (.iconst (-1), 0, 0, 0, (-1), []),
  (.ireturn, 0, 0, 0, 0, [])]
/-- GrassCellsModel.next()I -/
def qc_Md_next : List qI := [(.aload_n 0, 0, 0, 0, 0, []),
  (.aload_n 0, 0, 0, 0, 0, []),
  (.getfield 87, 11, 2, 0, 0, []),
  (.invokevirtual 90, 142, 2, 12, 0, []),
  (.bipush 32, 0, 0, 0, 32, []),
  (.if_icmp .ne 16, 13, 0, 0, 0, []),
  (.aload_n 0, 0, 0, 0, 0, []),
  (.dup, 0, 0, 0, 0, []),
  (.getfield 87, 11, 2, 0, 0, []),
  (.iconst 1, 0, 0, 0, 1, []),
  (.iadd, 0, 0, 0, 0, []),
  (.putfield 87, 11, 2, 0, 0, []),
  (.goto (-23), 0, 0, 0, 0, []),
  (.aload_n 0, 0, 0, 0, 0, []),
  (.aload_n 0, 0, 0, 0, 0, []),
  (.getfield 87, 11, 2, 0, 0, []),
  (.invokevirtual 90, 142, 2, 12, 0, []),
  (.ireturn, 0, 0, 0, 0, [])]
/-- GrassCellsModel.byteAt(I)I -/
def qc_Md_byteAt : List qI := [(.iload_n 1, 0, 0, 0, 0, []),
  (.aload_n 0, 0, 0, 0, 0, []),
  (.getfield 76, 11, 1, 0, 0, []),
  (.if_icmp .ge 16, 11, 0, 0, 0, []),
  (.aload_n 0, 0, 0, 0, 0, []),
  (.getfield 7, 11, 0, 2, 0, []),
  (.iload_n 1, 0, 0, 0, 0, []),
  (.baload, 0, 0, 0, 0, []),
  (.sipush 255, 0, 0, 0, 255, []),
  (.iand, 0, 0, 0, 0, []),
  (.goto 4, 12, 0, 0, 0, []),
  (.iconst (-1), 0, 0, 0, (-1), []),
  (.ireturn, 0, 0, 0, 0, [])]
/-- GrassCellsModel.isLetter(I)Z -/
def qc_Md_isLetter : List qI := [(.iload_n 0, 0, 0, 0, 0, []),
  (.bipush 97, 0, 0, 0, 97, []),
  (.if_icmp .lt 13, 8, 0, 0, 0, []),
  (.iload_n 0, 0, 0, 0, 0, []),
  (.bipush 122, 0, 0, 0, 122, []),
  (.if_icmp .gt 7, 8, 0, 0, 0, []),
  (.iconst 1, 0, 0, 0, 1, []),
  (.goto 4, 9, 0, 0, 0, []),
  (.iconst 0, 0, 0, 0, 0, []),
  (.ireturn, 1, 0, 0, 0, [])]
/-- GrassCellsModel.fails(II)Z -/
def qc_Md_fails : List qI := [(.aload_n 0, 0, 0, 0, 0, []),
  (.bipush 8, 0, 0, 0, 8, []),
  (.iload_n 2, 0, 0, 0, 0, []),
  (.imul, 0, 0, 0, 0, []),
  (.iload_n 1, 0, 0, 0, 0, []),
  (.iadd, 0, 0, 0, 0, []),
  (.putfield 84, 11, 3, 0, 0, []),
  (.iconst 0, 0, 0, 0, 0, []),
  (.ireturn, 1, 0, 0, 0, [])]
/-- GrassCellsModel.readsRest(I)Z -/
def qc_Md_readsRest : List qI := [(.aload_n 0, 0, 0, 0, 0, []),
  (.dup, 0, 0, 0, 0, []),
  (.getfield 87, 11, 2, 0, 0, []),
  (.iconst 4, 0, 0, 0, 4, []),
  (.iadd, 0, 0, 0, 0, []),
  (.putfield 87, 11, 2, 0, 0, []),
  (.iload_n 1, 0, 0, 0, 0, []),
  (.ifCond .ne 10, 11, 0, 0, 0, []),
  (.aload_n 0, 0, 0, 0, 0, []),
  (.invokevirtual 189, 146, 1, 12, 0, []),
  (.goto 19, 19, 0, 0, 0, []),
  (.iload_n 1, 0, 0, 0, 0, []),
  (.iconst 1, 0, 0, 0, 1, []),
  (.if_icmp .ne 10, 17, 0, 0, 0, []),
  (.aload_n 0, 0, 0, 0, 0, []),
  (.invokevirtual 192, 149, 1, 12, 0, []),
  (.goto 7, 19, 0, 0, 0, []),
  (.aload_n 0, 0, 0, 0, 0, []),
  (.invokevirtual 195, 160, 1, 12, 0, []),
  (.ireturn, 1, 0, 0, 0, [])]
/-- GrassCellsModel.readsPerm()Z -/
def qc_Md_readsPerm : List qI := [(.aload_n 0, 0, 0, 0, 0, []),
  (.iconst 0, 0, 0, 0, 0, []),
  (.putfield 102, 11, 5, 0, 0, []),
  (.aload_n 0, 0, 0, 0, 0, []),
  (.invokevirtual 94, 141, 1, 12, 0, []),
  (.invokestatic 105, 147, 1, 0, 0, []),
  (.ifCond .eq 127, 78, 0, 0, 0, []),
  (.aload_n 0, 0, 0, 0, 0, []),
  (.getfield 87, 11, 2, 0, 0, []),
  (.istore_n 1, 0, 0, 0, 0, []),
  (.iconst 0, 0, 0, 0, 0, []),
  (.istore_n 2, 0, 0, 0, 0, []),
  (.aload_n 0, 0, 0, 0, 0, []),
  (.aload_n 0, 0, 0, 0, 0, []),
  (.getfield 87, 11, 2, 0, 0, []),
  (.invokevirtual 90, 142, 2, 12, 0, []),
  (.invokestatic 105, 147, 1, 0, 0, []),
  (.ifCond .eq 47, 44, 0, 0, 0, []),
  (.aload_n 0, 0, 0, 0, 0, []),
  (.getfield 87, 11, 2, 0, 0, []),
  (.iload_n 1, 0, 0, 0, 0, []),
  (.isub, 0, 0, 0, 0, []),
  (.iconst 3, 0, 0, 0, 3, []),
  (.if_icmp .ge 22, 35, 0, 0, 0, []),
  (.bipush 10, 0, 0, 0, 10, []),
  (.iload_n 2, 0, 0, 0, 0, []),
  (.imul, 0, 0, 0, 0, []),
  (.aload_n 0, 0, 0, 0, 0, []),
  (.aload_n 0, 0, 0, 0, 0, []),
  (.getfield 87, 11, 2, 0, 0, []),
  (.invokevirtual 90, 142, 2, 12, 0, []),
  (.iadd, 0, 0, 0, 0, []),
  (.bipush 48, 0, 0, 0, 48, []),
  (.isub, 0, 0, 0, 0, []),
  (.goto 4, 36, 0, 0, 0, []),
  (.iload_n 2, 0, 0, 0, 0, []),
  (.istore_n 2, 0, 0, 0, 0, []),
  (.aload_n 0, 0, 0, 0, 0, []),
  (.dup, 0, 0, 0, 0, []),
  (.getfield 87, 11, 2, 0, 0, []),
  (.iconst 1, 0, 0, 0, 1, []),
  (.iadd, 0, 0, 0, 0, []),
  (.putfield 87, 11, 2, 0, 0, []),
  (.goto (-55), 12, 0, 0, 0, []),
  (.aload_n 0, 0, 0, 0, 0, []),
  (.getfield 87, 11, 2, 0, 0, []),
  (.iload_n 1, 0, 0, 0, 0, []),
  (.isub, 0, 0, 0, 0, []),
  (.iconst 2, 0, 0, 0, 2, []),
  (.if_icmp .gt 12, 54, 0, 0, 0, []),
  (.aload_n 0, 0, 0, 0, 0, []),
  (.getfield 102, 11, 5, 0, 0, []),
  (.bipush 8, 0, 0, 0, 8, []),
  (.if_icmp .ne 10, 59, 0, 0, 0, []),
  (.aload_n 0, 0, 0, 0, 0, []),
  (.iconst 1, 0, 0, 0, 1, []),
  (.iload_n 1, 0, 0, 0, 0, []),
  (.invokevirtual 108, 144, 3, 12, 0, []),
  (.ireturn, 1, 0, 0, 0, []),
  (.aload_n 0, 0, 0, 0, 0, []),
  (.dup, 0, 0, 0, 0, []),
  (.getfield 102, 11, 5, 0, 0, []),
  (.iconst 1, 0, 0, 0, 1, []),
  (.iadd, 0, 0, 0, 0, []),
  (.putfield 102, 11, 5, 0, 0, []),
  (.aload_n 0, 0, 0, 0, 0, []),
  (.getfield 16, 11, 6, 2, 0, []),
  (.aload_n 0, 0, 0, 0, 0, []),
  (.getfield 102, 11, 5, 0, 0, []),
  (.iload_n 2, 0, 0, 0, 0, []),
  (.iastore, 0, 0, 0, 0, []),
  (.aload_n 0, 0, 0, 0, 0, []),
  (.getfield 20, 11, 7, 2, 0, []),
  (.aload_n 0, 0, 0, 0, 0, []),
  (.getfield 102, 11, 5, 0, 0, []),
  (.iload_n 1, 0, 0, 0, 0, []),
  (.iastore, 0, 0, 0, 0, []),
  (.goto (-131), 3, 0, 0, 0, []),
  (.aload_n 0, 0, 0, 0, 0, []),
  (.invokevirtual 94, 141, 1, 12, 0, []),
  (.iconst (-1), 0, 0, 0, (-1), []),
  (.if_icmp .ne 11, 86, 0, 0, 0, []),
  (.aload_n 0, 0, 0, 0, 0, []),
  (.getfield 102, 11, 5, 0, 0, []),
  (.iconst 2, 0, 0, 0, 2, []),
  (.if_icmp .ge 13, 92, 0, 0, 0, []),
  (.aload_n 0, 0, 0, 0, 0, []),
  (.iconst 1, 0, 0, 0, 1, []),
  (.aload_n 0, 0, 0, 0, 0, []),
  (.getfield 87, 11, 2, 0, 0, []),
  (.invokevirtual 108, 144, 3, 12, 0, []),
  (.ireturn, 1, 0, 0, 0, []),
  (.iconst 1, 0, 0, 0, 1, []),
  (.istore_n 1, 0, 0, 0, 0, []),
  (.iload_n 1, 0, 0, 0, 0, []),
  (.aload_n 0, 0, 0, 0, 0, []),
  (.getfield 102, 11, 5, 0, 0, []),
  (.if_icmp .gt 38, 117, 0, 0, 0, []),
  (.aload_n 0, 0, 0, 0, 0, []),
  (.getfield 16, 11, 6, 2, 0, []),
  (.iload_n 1, 0, 0, 0, 0, []),
  (.iaload, 0, 0, 0, 0, []),
  (.i2l, 0, 0, 0, 0, []),
  (.lconst 1, 0, 0, 0, 1, []),
  (.ldc2_w 112, 0, 0, 0, 16, []),
  (.invokestatic 80, 138, 3, 0, 0, []),
  (.ifCond .ne 15, 115, 0, 0, 0, []),
  (.aload_n 0, 0, 0, 0, 0, []),
  (.iconst 2, 0, 0, 0, 2, []),
  (.aload_n 0, 0, 0, 0, 0, []),
  (.getfield 20, 11, 7, 2, 0, []),
  (.iload_n 1, 0, 0, 0, 0, []),
  (.iaload, 0, 0, 0, 0, []),
  (.invokevirtual 108, 144, 3, 12, 0, []),
  (.ireturn, 1, 0, 0, 0, []),
  (.iinc 1 1, 0, 0, 0, 0, []),
  (.goto (-40), 94, 0, 0, 0, []),
  (.iconst 1, 0, 0, 0, 1, []),
  (.istore_n 1, 0, 0, 0, 0, []),
  (.iload_n 1, 0, 0, 0, 0, []),
  (.aload_n 0, 0, 0, 0, 0, []),
  (.getfield 102, 11, 5, 0, 0, []),
  (.if_icmp .gt 51, 151, 0, 0, 0, []),
  (.aload_n 0, 0, 0, 0, 0, []),
  (.getfield 16, 11, 6, 2, 0, []),
  (.iload_n 1, 0, 0, 0, 0, []),
  (.iaload, 0, 0, 0, 0, []),
  (.i2l, 0, 0, 0, 0, []),
  (.iload_n 1, 0, 0, 0, 0, []),
  (.i2l, 0, 0, 0, 0, []),
  (.iload_n 1, 0, 0, 0, 0, []),
  (.aload_n 0, 0, 0, 0, 0, []),
  (.getfield 102, 11, 5, 0, 0, []),
  (.iadd, 0, 0, 0, 0, []),
  (.i2l, 0, 0, 0, 0, []),
  (.invokestatic 80, 138, 3, 0, 0, []),
  (.ifCond .eq 11, 141, 0, 0, 0, []),
  (.aload_n 0, 0, 0, 0, 0, []),
  (.iload_n 1, 0, 0, 0, 0, []),
  (.invokevirtual 114, 148, 2, 12, 0, []),
  (.ifCond .eq 15, 149, 0, 0, 0, []),
  (.aload_n 0, 0, 0, 0, 0, []),
  (.iconst 3, 0, 0, 0, 3, []),
  (.aload_n 0, 0, 0, 0, 0, []),
  (.getfield 20, 11, 7, 2, 0, []),
  (.iload_n 1, 0, 0, 0, 0, []),
  (.iaload, 0, 0, 0, 0, []),
  (.invokevirtual 108, 144, 3, 12, 0, []),
  (.ireturn, 1, 0, 0, 0, []),
  (.iinc 1 1, 0, 0, 0, 0, []),
  (.goto (-53), 119, 0, 0, 0, []),
  (.iconst 1, 0, 0, 0, 1, []),
  (.ireturn, 1, 0, 0, 0, [])]
/-- GrassCellsModel.isDigit(I)Z -/
def qc_Md_isDigit : List qI := [(.iload_n 0, 0, 0, 0, 0, []),
  (.bipush 48, 0, 0, 0, 48, []),
  (.if_icmp .lt 13, 8, 0, 0, 0, []),
  (.iload_n 0, 0, 0, 0, 0, []),
  (.bipush 57, 0, 0, 0, 57, []),
  (.if_icmp .gt 7, 8, 0, 0, 0, []),
  (.iconst 1, 0, 0, 0, 1, []),
  (.goto 4, 9, 0, 0, 0, []),
  (.iconst 0, 0, 0, 0, 0, []),
  (.ireturn, 1, 0, 0, 0, [])]
/-- GrassCellsModel.isLikeAhead(I)Z -/
def qc_Md_isLikeAhead : List qI := [(.iconst 1, 0, 0, 0, 1, []),
  (.istore_n 2, 0, 0, 0, 0, []),
  (.iload_n 2, 0, 0, 0, 0, []),
  (.iload_n 1, 0, 0, 0, 0, []),
  (.if_icmp .ge 32, 22, 0, 0, 0, []),
  (.aload_n 0, 0, 0, 0, 0, []),
  (.getfield 16, 11, 6, 2, 0, []),
  (.iload_n 1, 0, 0, 0, 0, []),
  (.iaload, 0, 0, 0, 0, []),
  (.aload_n 0, 0, 0, 0, 0, []),
  (.getfield 16, 11, 6, 2, 0, []),
  (.iload_n 2, 0, 0, 0, 0, []),
  (.iaload, 0, 0, 0, 0, []),
  (.isub, 0, 0, 0, 0, []),
  (.aload_n 0, 0, 0, 0, 0, []),
  (.getfield 102, 11, 5, 0, 0, []),
  (.irem, 0, 0, 0, 0, []),
  (.ifCond .ne 5, 20, 0, 0, 0, []),
  (.iconst 1, 0, 0, 0, 1, []),
  (.ireturn, 1, 0, 0, 0, []),
  (.iinc 2 1, 0, 0, 0, 0, []),
  (.goto (-31), 2, 0, 0, 0, []),
  (.iconst 0, 0, 0, 0, 0, []),
  (.ireturn, 1, 0, 0, 0, [])]
/-- GrassCellsModel.readsFill()Z -/
def qc_Md_readsFill : List qI := [(.aload_n 0, 0, 0, 0, 0, []),
  (.invokevirtual 94, 141, 1, 12, 0, []),
  (.pop, 0, 0, 0, 0, []),
  (.iconst 0, 0, 0, 0, 0, []),
  (.istore_n 1, 0, 0, 0, 0, []),
  (.aload_n 0, 0, 0, 0, 0, []),
  (.iconst 0, 0, 0, 0, 0, []),
  (.putfield 102, 11, 5, 0, 0, []),
  (.aload_n 0, 0, 0, 0, 0, []),
  (.aload_n 0, 0, 0, 0, 0, []),
  (.getfield 87, 11, 2, 0, 0, []),
  (.invokevirtual 90, 142, 2, 12, 0, []),
  (.invokestatic 98, 143, 1, 0, 0, []),
  (.ifCond .eq 97, 62, 0, 0, 0, []),
  (.aload_n 0, 0, 0, 0, 0, []),
  (.aload_n 0, 0, 0, 0, 0, []),
  (.getfield 87, 11, 2, 0, 0, []),
  (.invokevirtual 90, 142, 2, 12, 0, []),
  (.bipush 100, 0, 0, 0, 100, []),
  (.if_icmp .eq 16, 26, 0, 0, 0, []),
  (.aload_n 0, 0, 0, 0, 0, []),
  (.aload_n 0, 0, 0, 0, 0, []),
  (.getfield 87, 11, 2, 0, 0, []),
  (.invokevirtual 90, 142, 2, 12, 0, []),
  (.bipush 108, 0, 0, 0, 108, []),
  (.if_icmp .ne 12, 30, 0, 0, 0, []),
  (.aload_n 0, 0, 0, 0, 0, []),
  (.getfield 102, 11, 5, 0, 0, []),
  (.bipush 8, 0, 0, 0, 8, []),
  (.if_icmp .ne 13, 36, 0, 0, 0, []),
  (.aload_n 0, 0, 0, 0, 0, []),
  (.iconst 1, 0, 0, 0, 1, []),
  (.aload_n 0, 0, 0, 0, 0, []),
  (.getfield 87, 11, 2, 0, 0, []),
  (.invokevirtual 108, 144, 3, 12, 0, []),
  (.ireturn, 1, 0, 0, 0, []),
  (.aload_n 0, 0, 0, 0, 0, []),
  (.dup, 0, 0, 0, 0, []),
  (.getfield 102, 11, 5, 0, 0, []),
  (.iconst 1, 0, 0, 0, 1, []),
  (.iadd, 0, 0, 0, 0, []),
  (.putfield 102, 11, 5, 0, 0, []),
  (.aload_n 0, 0, 0, 0, 0, []),
  (.aload_n 0, 0, 0, 0, 0, []),
  (.getfield 87, 11, 2, 0, 0, []),
  (.invokevirtual 90, 142, 2, 12, 0, []),
  (.bipush 100, 0, 0, 0, 100, []),
  (.if_icmp .ne 14, 53, 0, 0, 0, []),
  (.iload_n 1, 0, 0, 0, 0, []),
  (.aload_n 0, 0, 0, 0, 0, []),
  (.getfield 102, 11, 5, 0, 0, []),
  (.invokestatic 117, 150, 2, 0, 0, []),
  (.goto 4, 54, 0, 0, 0, []),
  (.iload_n 1, 0, 0, 0, 0, []),
  (.istore_n 1, 0, 0, 0, 0, []),
  (.aload_n 0, 0, 0, 0, 0, []),
  (.dup, 0, 0, 0, 0, []),
  (.getfield 87, 11, 2, 0, 0, []),
  (.iconst 1, 0, 0, 0, 1, []),
  (.iadd, 0, 0, 0, 0, []),
  (.putfield 87, 11, 2, 0, 0, []),
  (.goto (-105), 8, 0, 0, 0, []),
  (.aload_n 0, 0, 0, 0, 0, []),
  (.getfield 102, 11, 5, 0, 0, []),
  (.iconst 2, 0, 0, 0, 2, []),
  (.if_icmp .ge 13, 72, 0, 0, 0, []),
  (.aload_n 0, 0, 0, 0, 0, []),
  (.iconst 1, 0, 0, 0, 1, []),
  (.aload_n 0, 0, 0, 0, 0, []),
  (.getfield 87, 11, 2, 0, 0, []),
  (.invokevirtual 108, 144, 3, 12, 0, []),
  (.ireturn, 1, 0, 0, 0, []),
  (.aload_n 0, 0, 0, 0, 0, []),
  (.iload_n 1, 0, 0, 0, 0, []),
  (.aload_n 0, 0, 0, 0, 0, []),
  (.getfield 102, 11, 5, 0, 0, []),
  (.invokevirtual 145, 151, 3, 12, 0, []),
  (.iconst (-1), 0, 0, 0, (-1), []),
  (.istore_n 2, 0, 0, 0, 0, []),
  (.iconst 1, 0, 0, 0, 1, []),
  (.istore_n 3, 0, 0, 0, 0, []),
  (.iload_n 3, 0, 0, 0, 0, []),
  (.aload_n 0, 0, 0, 0, 0, []),
  (.getfield 102, 11, 5, 0, 0, []),
  (.if_icmp .gt 183, 177, 0, 0, 0, []),
  (.iload_n 1, 0, 0, 0, 0, []),
  (.iload_n 3, 0, 0, 0, 0, []),
  (.invokestatic 128, 152, 2, 0, 0, []),
  (.ifCond .ne 6, 90, 0, 0, 0, []),
  (.goto 166, 175, 0, 0, 0, []),
  (.aload_n 0, 0, 0, 0, 0, []),
  (.invokevirtual 94, 141, 1, 12, 0, []),
  (.bipush 47, 0, 0, 0, 47, []),
  (.if_icmp .eq 13, 100, 0, 0, 0, []),
  (.aload_n 0, 0, 0, 0, 0, []),
  (.iconst 1, 0, 0, 0, 1, []),
  (.aload_n 0, 0, 0, 0, 0, []),
  (.getfield 87, 11, 2, 0, 0, []),
  (.invokevirtual 108, 144, 3, 12, 0, []),
  (.ireturn, 1, 0, 0, 0, []),
  (.aload_n 0, 0, 0, 0, 0, []),
  (.dup, 0, 0, 0, 0, []),
  (.getfield 87, 11, 2, 0, 0, []),
  (.iconst 1, 0, 0, 0, 1, []),
  (.iadd, 0, 0, 0, 0, []),
  (.putfield 87, 11, 2, 0, 0, []),
  (.aload_n 0, 0, 0, 0, 0, []),
  (.invokevirtual 94, 141, 1, 12, 0, []),
  (.pop, 0, 0, 0, 0, []),
  (.aload_n 0, 0, 0, 0, 0, []),
  (.getfield 102, 11, 5, 0, 0, []),
  (.istore 4, 0, 0, 0, 0, []),
  (.iload 4, 0, 0, 0, 0, []),
  (.iload_n 3, 0, 0, 0, 0, []),
  (.if_icmp .le 120, 175, 0, 0, 0, []),
  (.aload_n 0, 0, 0, 0, 0, []),
  (.iload_n 3, 0, 0, 0, 0, []),
  (.iload 4, 0, 0, 0, 0, []),
  (.invokevirtual 149, 153, 3, 12, 0, []),
  (.ifCond .ne 6, 121, 0, 0, 0, []),
  (.goto 101, 173, 0, 0, 0, []),
  (.aload_n 0, 0, 0, 0, 0, []),
  (.aload_n 0, 0, 0, 0, 0, []),
  (.getfield 87, 11, 2, 0, 0, []),
  (.invokevirtual 90, 142, 2, 12, 0, []),
  (.bipush 43, 0, 0, 0, 43, []),
  (.if_icmp .eq 26, 139, 0, 0, 0, []),
  (.aload_n 0, 0, 0, 0, 0, []),
  (.aload_n 0, 0, 0, 0, 0, []),
  (.getfield 87, 11, 2, 0, 0, []),
  (.invokevirtual 90, 142, 2, 12, 0, []),
  (.bipush 48, 0, 0, 0, 48, []),
  (.if_icmp .eq 13, 139, 0, 0, 0, []),
  (.aload_n 0, 0, 0, 0, 0, []),
  (.iconst 1, 0, 0, 0, 1, []),
  (.aload_n 0, 0, 0, 0, 0, []),
  (.getfield 87, 11, 2, 0, 0, []),
  (.invokevirtual 108, 144, 3, 12, 0, []),
  (.ireturn, 1, 0, 0, 0, []),
  (.aload_n 0, 0, 0, 0, 0, []),
  (.aload_n 0, 0, 0, 0, 0, []),
  (.getfield 87, 11, 2, 0, 0, []),
  (.invokevirtual 90, 142, 2, 12, 0, []),
  (.bipush 43, 0, 0, 0, 43, []),
  (.if_icmp .ne 19, 155, 0, 0, 0, []),
  (.aload_n 0, 0, 0, 0, 0, []),
  (.getfield 26, 11, 9, 2, 0, []),
  (.bipush 9, 0, 0, 0, 9, []),
  (.iload_n 3, 0, 0, 0, 0, []),
  (.imul, 0, 0, 0, 0, []),
  (.iload 4, 0, 0, 0, 0, []),
  (.iadd, 0, 0, 0, 0, []),
  (.iconst 2, 0, 0, 0, 2, []),
  (.iastore, 0, 0, 0, 0, []),
  (.goto 26, 167, 0, 0, 0, []),
  (.iload_n 2, 0, 0, 0, 0, []),
  (.ifCond .ge 22, 167, 0, 0, 0, []),
  (.aload_n 0, 0, 0, 0, 0, []),
  (.iload_n 3, 0, 0, 0, 0, []),
  (.iload 4, 0, 0, 0, 0, []),
  (.aload_n 0, 0, 0, 0, 0, []),
  (.getfield 102, 11, 5, 0, 0, []),
  (.invokevirtual 152, 154, 4, 12, 0, []),
  (.ifCond .ne 8, 167, 0, 0, 0, []),
  (.aload_n 0, 0, 0, 0, 0, []),
  (.getfield 87, 11, 2, 0, 0, []),
  (.istore_n 2, 0, 0, 0, 0, []),
  (.aload_n 0, 0, 0, 0, 0, []),
  (.dup, 0, 0, 0, 0, []),
  (.getfield 87, 11, 2, 0, 0, []),
  (.iconst 1, 0, 0, 0, 1, []),
  (.iadd, 0, 0, 0, 0, []),
  (.putfield 87, 11, 2, 0, 0, []),
  (.iinc 4 (-1), 0, 0, 0, 0, []),
  (.goto (-120), 112, 0, 0, 0, []),
  (.iinc 3 1, 0, 0, 0, 0, []),
  (.goto (-185), 81, 0, 0, 0, []),
  (.aload_n 0, 0, 0, 0, 0, []),
  (.invokevirtual 94, 141, 1, 12, 0, []),
  (.iconst (-1), 0, 0, 0, (-1), []),
  (.if_icmp .eq 13, 187, 0, 0, 0, []),
  (.aload_n 0, 0, 0, 0, 0, []),
  (.iconst 1, 0, 0, 0, 1, []),
  (.aload_n 0, 0, 0, 0, 0, []),
  (.getfield 87, 11, 2, 0, 0, []),
  (.invokevirtual 108, 144, 3, 12, 0, []),
  (.ireturn, 1, 0, 0, 0, []),
  (.iload_n 2, 0, 0, 0, 0, []),
  (.ifCond .lt 10, 194, 0, 0, 0, []),
  (.aload_n 0, 0, 0, 0, 0, []),
  (.iconst 3, 0, 0, 0, 3, []),
  (.iload_n 2, 0, 0, 0, 0, []),
  (.invokevirtual 108, 144, 3, 12, 0, []),
  (.ireturn, 1, 0, 0, 0, []),
  (.iconst 1, 0, 0, 0, 1, []),
  (.istore_n 3, 0, 0, 0, 0, []),
  (.iload_n 3, 0, 0, 0, 0, []),
  (.aload_n 0, 0, 0, 0, 0, []),
  (.getfield 102, 11, 5, 0, 0, []),
  (.if_icmp .gt 25, 212, 0, 0, 0, []),
  (.aload_n 0, 0, 0, 0, 0, []),
  (.getfield 16, 11, 6, 2, 0, []),
  (.iload_n 3, 0, 0, 0, 0, []),
  (.aload_n 0, 0, 0, 0, 0, []),
  (.iload_n 3, 0, 0, 0, 0, []),
  (.iload_n 1, 0, 0, 0, 0, []),
  (.aload_n 0, 0, 0, 0, 0, []),
  (.getfield 102, 11, 5, 0, 0, []),
  (.invokevirtual 155, 156, 4, 12, 0, []),
  (.iastore, 0, 0, 0, 0, []),
  (.iinc 3 1, 0, 0, 0, 0, []),
  (.goto (-27), 196, 0, 0, 0, []),
  (.iconst 1, 0, 0, 0, 1, []),
  (.ireturn, 1, 0, 0, 0, [])]
/-- GrassCellsModel.with(II)I -/
def qc_Md_with : List qI := [(.iload_n 0, 0, 0, 0, 0, []),
  (.iconst 1, 0, 0, 0, 1, []),
  (.iload_n 1, 0, 0, 0, 0, []),
  (.iconst 1, 0, 0, 0, 1, []),
  (.isub, 0, 0, 0, 0, []),
  (.ishl, 0, 0, 0, 0, []),
  (.ior, 0, 0, 0, 0, []),
  (.ireturn, 0, 0, 0, 0, [])]
/-- GrassCellsModel.laysShape(II)V -/
def qc_Md_laysShape : List qI := [(.iconst 0, 0, 0, 0, 0, []),
  (.istore_n 3, 0, 0, 0, 0, []),
  (.iload_n 3, 0, 0, 0, 0, []),
  (.bipush 81, 0, 0, 0, 81, []),
  (.if_icmp .ge 16, 12, 0, 0, 0, []),
  (.aload_n 0, 0, 0, 0, 0, []),
  (.getfield 26, 11, 9, 2, 0, []),
  (.iload_n 3, 0, 0, 0, 0, []),
  (.iconst 0, 0, 0, 0, 0, []),
  (.iastore, 0, 0, 0, 0, []),
  (.iinc 3 1, 0, 0, 0, 0, []),
  (.goto (-16), 2, 0, 0, 0, []),
  (.iconst 1, 0, 0, 0, 1, []),
  (.istore_n 3, 0, 0, 0, 0, []),
  (.iload_n 3, 0, 0, 0, 0, []),
  (.iload_n 2, 0, 0, 0, 0, []),
  (.if_icmp .gt 56, 45, 0, 0, 0, []),
  (.iload_n 3, 0, 0, 0, 0, []),
  (.iconst 1, 0, 0, 0, 1, []),
  (.iadd, 0, 0, 0, 0, []),
  (.istore 4, 0, 0, 0, 0, []),
  (.iload 4, 0, 0, 0, 0, []),
  (.iload_n 2, 0, 0, 0, 0, []),
  (.if_icmp .gt 39, 43, 0, 0, 0, []),
  (.iload_n 1, 0, 0, 0, 0, []),
  (.iload_n 3, 0, 0, 0, 0, []),
  (.invokestatic 128, 152, 2, 0, 0, []),
  (.ifCond .eq 25, 41, 0, 0, 0, []),
  (.iload_n 1, 0, 0, 0, 0, []),
  (.iload 4, 0, 0, 0, 0, []),
  (.invokestatic 128, 152, 2, 0, 0, []),
  (.ifCond .ne 16, 41, 0, 0, 0, []),
  (.aload_n 0, 0, 0, 0, 0, []),
  (.getfield 26, 11, 9, 2, 0, []),
  (.bipush 9, 0, 0, 0, 9, []),
  (.iload_n 3, 0, 0, 0, 0, []),
  (.imul, 0, 0, 0, 0, []),
  (.iload 4, 0, 0, 0, 0, []),
  (.iadd, 0, 0, 0, 0, []),
  (.iconst 1, 0, 0, 0, 1, []),
  (.iastore, 0, 0, 0, 0, []),
  (.iinc 4 1, 0, 0, 0, 0, []),
  (.goto (-39), 21, 0, 0, 0, []),
  (.iinc 3 1, 0, 0, 0, 0, []),
  (.goto (-55), 14, 0, 0, 0, []),
  (.return_, 0, 0, 0, 0, [])]
/-- GrassCellsModel.has(II)Z -/
def qc_Md_has : List qI := [(.iload_n 0, 0, 0, 0, 0, []),
  (.iload_n 1, 0, 0, 0, 0, []),
  (.iconst 1, 0, 0, 0, 1, []),
  (.isub, 0, 0, 0, 0, []),
  (.ishr, 0, 0, 0, 0, []),
  (.iconst 1, 0, 0, 0, 1, []),
  (.iand, 0, 0, 0, 0, []),
  (.iconst 1, 0, 0, 0, 1, []),
  (.if_icmp .ne 7, 11, 0, 0, 0, []),
  (.iconst 1, 0, 0, 0, 1, []),
  (.goto 4, 12, 0, 0, 0, []),
  (.iconst 0, 0, 0, 0, 0, []),
  (.ireturn, 1, 0, 0, 0, [])]
/-- GrassCellsModel.isBox(II)Z -/
def qc_Md_isBox : List qI := [(.aload_n 0, 0, 0, 0, 0, []),
  (.getfield 26, 11, 9, 2, 0, []),
  (.bipush 9, 0, 0, 0, 9, []),
  (.iload_n 1, 0, 0, 0, 0, []),
  (.imul, 0, 0, 0, 0, []),
  (.iload_n 2, 0, 0, 0, 0, []),
  (.iadd, 0, 0, 0, 0, []),
  (.iaload, 0, 0, 0, 0, []),
  (.ifCond .le 7, 11, 0, 0, 0, []),
  (.iconst 1, 0, 0, 0, 1, []),
  (.goto 4, 12, 0, 0, 0, []),
  (.iconst 0, 0, 0, 0, 0, []),
  (.ireturn, 1, 0, 0, 0, [])]
/-- GrassCellsModel.isLe(III)Z -/
def qc_Md_isLe : List qI := [(.iconst 0, 0, 0, 0, 0, []),
  (.istore 4, 0, 0, 0, 0, []),
  (.iconst 0, 0, 0, 0, 0, []),
  (.istore 5, 0, 0, 0, 0, []),
  (.iconst 1, 0, 0, 0, 1, []),
  (.istore 6, 0, 0, 0, 0, []),
  (.iload 6, 0, 0, 0, 0, []),
  (.iload_n 1, 0, 0, 0, 0, []),
  (.if_icmp .ge 31, 22, 0, 0, 0, []),
  (.iload 4, 0, 0, 0, 0, []),
  (.ifCond .ne 13, 16, 0, 0, 0, []),
  (.aload_n 0, 0, 0, 0, 0, []),
  (.iload 6, 0, 0, 0, 0, []),
  (.iload_n 2, 0, 0, 0, 0, []),
  (.invokevirtual 159, 155, 3, 12, 0, []),
  (.ifCond .eq 7, 18, 0, 0, 0, []),
  (.iconst 1, 0, 0, 0, 1, []),
  (.goto 4, 19, 0, 0, 0, []),
  (.iconst 0, 0, 0, 0, 0, []),
  (.istore 4, 0, 0, 0, 0, []),
  (.iinc 6 1, 0, 0, 0, 0, []),
  (.goto (-31), 6, 0, 0, 0, []),
  (.iload_n 2, 0, 0, 0, 0, []),
  (.iconst 1, 0, 0, 0, 1, []),
  (.iadd, 0, 0, 0, 0, []),
  (.istore 6, 0, 0, 0, 0, []),
  (.iload 6, 0, 0, 0, 0, []),
  (.iload_n 3, 0, 0, 0, 0, []),
  (.if_icmp .gt 31, 42, 0, 0, 0, []),
  (.iload 5, 0, 0, 0, 0, []),
  (.ifCond .ne 13, 36, 0, 0, 0, []),
  (.aload_n 0, 0, 0, 0, 0, []),
  (.iload_n 1, 0, 0, 0, 0, []),
  (.iload 6, 0, 0, 0, 0, []),
  (.invokevirtual 159, 155, 3, 12, 0, []),
  (.ifCond .eq 7, 38, 0, 0, 0, []),
  (.iconst 1, 0, 0, 0, 1, []),
  (.goto 4, 39, 0, 0, 0, []),
  (.iconst 0, 0, 0, 0, 0, []),
  (.istore 5, 0, 0, 0, 0, []),
  (.iinc 6 1, 0, 0, 0, 0, []),
  (.goto (-31), 26, 0, 0, 0, []),
  (.iload 4, 0, 0, 0, 0, []),
  (.ifCond .eq 8, 46, 0, 0, 0, []),
  (.iload 5, 0, 0, 0, 0, []),
  (.ifCond .ne 7, 48, 0, 0, 0, []),
  (.iconst 1, 0, 0, 0, 1, []),
  (.goto 4, 49, 0, 0, 0, []),
  (.iconst 0, 0, 0, 0, 0, []),
  (.ireturn, 1, 0, 0, 0, [])]
/-- GrassCellsModel.isPlus(II)Z -/
def qc_Md_isPlus : List qI := [(.aload_n 0, 0, 0, 0, 0, []),
  (.getfield 26, 11, 9, 2, 0, []),
  (.bipush 9, 0, 0, 0, 9, []),
  (.iload_n 1, 0, 0, 0, 0, []),
  (.imul, 0, 0, 0, 0, []),
  (.iload_n 2, 0, 0, 0, 0, []),
  (.iadd, 0, 0, 0, 0, []),
  (.iaload, 0, 0, 0, 0, []),
  (.iconst 2, 0, 0, 0, 2, []),
  (.if_icmp .ne 7, 12, 0, 0, 0, []),
  (.iconst 1, 0, 0, 0, 1, []),
  (.goto 4, 13, 0, 0, 0, []),
  (.iconst 0, 0, 0, 0, 0, []),
  (.ireturn, 1, 0, 0, 0, [])]
/-- GrassCellsModel.goesFrom(III)I -/
def qc_Md_goesFrom : List qI := [(.iload_n 2, 0, 0, 0, 0, []),
  (.iload_n 1, 0, 0, 0, 0, []),
  (.invokestatic 128, 152, 2, 0, 0, []),
  (.istore 4, 0, 0, 0, 0, []),
  (.iload 4, 0, 0, 0, 0, []),
  (.ifCond .eq 7, 8, 0, 0, 0, []),
  (.iload_n 1, 0, 0, 0, 0, []),
  (.goto 9, 12, 0, 0, 0, []),
  (.aload_n 0, 0, 0, 0, 0, []),
  (.iload_n 1, 0, 0, 0, 0, []),
  (.iload_n 1, 0, 0, 0, 0, []),
  (.invokevirtual 162, 157, 3, 12, 0, []),
  (.istore 5, 0, 0, 0, 0, []),
  (.iload 4, 0, 0, 0, 0, []),
  (.ifCond .eq 13, 21, 0, 0, 0, []),
  (.aload_n 0, 0, 0, 0, 0, []),
  (.iload_n 1, 0, 0, 0, 0, []),
  (.iload_n 1, 0, 0, 0, 0, []),
  (.iload_n 3, 0, 0, 0, 0, []),
  (.invokevirtual 165, 158, 4, 12, 0, []),
  (.goto 4, 22, 0, 0, 0, []),
  (.iload_n 1, 0, 0, 0, 0, []),
  (.istore 6, 0, 0, 0, 0, []),
  (.iload 5, 0, 0, 0, 0, []),
  (.ifCond .le 100, 74, 0, 0, 0, []),
  (.iload 6, 0, 0, 0, 0, []),
  (.ifCond .le 95, 74, 0, 0, 0, []),
  (.aload_n 0, 0, 0, 0, 0, []),
  (.iload 5, 0, 0, 0, 0, []),
  (.iload 6, 0, 0, 0, 0, []),
  (.invokevirtual 159, 155, 3, 12, 0, []),
  (.iload 4, 0, 0, 0, 0, []),
  (.if_icmp .eq 7, 35, 0, 0, 0, []),
  (.iconst 1, 0, 0, 0, 1, []),
  (.goto 4, 36, 0, 0, 0, []),
  (.iconst 0, 0, 0, 0, 0, []),
  (.istore 7, 0, 0, 0, 0, []),
  (.iload 7, 0, 0, 0, 0, []),
  (.ifCond .eq 35, 56, 0, 0, 0, []),
  (.aload_n 0, 0, 0, 0, 0, []),
  (.iload 5, 0, 0, 0, 0, []),
  (.iload 6, 0, 0, 0, 0, []),
  (.iload_n 3, 0, 0, 0, 0, []),
  (.invokevirtual 165, 158, 4, 12, 0, []),
  (.istore 8, 0, 0, 0, 0, []),
  (.iload 8, 0, 0, 0, 0, []),
  (.ifCond .ne 12, 53, 0, 0, 0, []),
  (.iload 5, 0, 0, 0, 0, []),
  (.iload_n 1, 0, 0, 0, 0, []),
  (.iload_n 2, 0, 0, 0, 0, []),
  (.iload_n 3, 0, 0, 0, 0, []),
  (.invokestatic 168, 159, 4, 0, 0, []),
  (.ireturn, 0, 0, 0, 0, []),
  (.iload 8, 0, 0, 0, 0, []),
  (.istore 6, 0, 0, 0, 0, []),
  (.goto 31, 71, 0, 0, 0, []),
  (.aload_n 0, 0, 0, 0, 0, []),
  (.iload 5, 0, 0, 0, 0, []),
  (.iload 6, 0, 0, 0, 0, []),
  (.invokevirtual 162, 157, 3, 12, 0, []),
  (.istore 8, 0, 0, 0, 0, []),
  (.iload 8, 0, 0, 0, 0, []),
  (.ifCond .ne 12, 69, 0, 0, 0, []),
  (.iload 6, 0, 0, 0, 0, []),
  (.iload_n 1, 0, 0, 0, 0, []),
  (.iload_n 2, 0, 0, 0, 0, []),
  (.iload_n 3, 0, 0, 0, 0, []),
  (.invokestatic 168, 159, 4, 0, 0, []),
  (.ireturn, 0, 0, 0, 0, []),
  (.iload 8, 0, 0, 0, 0, []),
  (.istore 5, 0, 0, 0, 0, []),
  (.iload 7, 0, 0, 0, 0, []),
  (.istore 4, 0, 0, 0, 0, []),
  (.goto (-99), 23, 0, 0, 0, []),
  (.iload_n 1, 0, 0, 0, 0, []),
  (.iload_n 1, 0, 0, 0, 0, []),
  (.iload_n 2, 0, 0, 0, 0, []),
  (.iload_n 3, 0, 0, 0, 0, []),
  (.invokestatic 168, 159, 4, 0, 0, []),
  (.ireturn, 0, 0, 0, 0, [])]
/-- GrassCellsModel.rowAbove(II)I -/
def qc_Md_rowAbove : List qI := [(.iload_n 1, 0, 0, 0, 0, []),
  (.iconst 1, 0, 0, 0, 1, []),
  (.isub, 0, 0, 0, 0, []),
  (.istore_n 3, 0, 0, 0, 0, []),
  (.iload_n 3, 0, 0, 0, 0, []),
  (.ifCond .le 18, 13, 0, 0, 0, []),
  (.aload_n 0, 0, 0, 0, 0, []),
  (.iload_n 3, 0, 0, 0, 0, []),
  (.iload_n 2, 0, 0, 0, 0, []),
  (.invokevirtual 149, 153, 3, 12, 0, []),
  (.ifCond .ne 9, 13, 0, 0, 0, []),
  (.iinc 3 (-1), 0, 0, 0, 0, []),
  (.goto (-16), 4, 0, 0, 0, []),
  (.iload_n 3, 0, 0, 0, 0, []),
  (.ireturn, 0, 0, 0, 0, [])]
/-- GrassCellsModel.columnLeft(III)I -/
def qc_Md_columnLeft : List qI := [(.iload_n 2, 0, 0, 0, 0, []),
  (.iconst 1, 0, 0, 0, 1, []),
  (.iadd, 0, 0, 0, 0, []),
  (.istore 4, 0, 0, 0, 0, []),
  (.iload 4, 0, 0, 0, 0, []),
  (.iload_n 3, 0, 0, 0, 0, []),
  (.if_icmp .gt 19, 14, 0, 0, 0, []),
  (.aload_n 0, 0, 0, 0, 0, []),
  (.iload_n 1, 0, 0, 0, 0, []),
  (.iload 4, 0, 0, 0, 0, []),
  (.invokevirtual 149, 153, 3, 12, 0, []),
  (.ifCond .ne 9, 14, 0, 0, 0, []),
  (.iinc 4 1, 0, 0, 0, 0, []),
  (.goto (-19), 4, 0, 0, 0, []),
  (.iload 4, 0, 0, 0, 0, []),
  (.iload_n 3, 0, 0, 0, 0, []),
  (.if_icmp .le 7, 19, 0, 0, 0, []),
  (.iconst 0, 0, 0, 0, 0, []),
  (.goto 5, 20, 0, 0, 0, []),
  (.iload 4, 0, 0, 0, 0, []),
  (.ireturn, 0, 0, 0, 0, [])]
/-- GrassCellsModel.outAt(IIII)I -/
def qc_Md_outAt : List qI := [(.iload_n 0, 0, 0, 0, 0, []),
  (.iload_n 1, 0, 0, 0, 0, []),
  (.if_icmp .lt 16, 10, 0, 0, 0, []),
  (.iload_n 0, 0, 0, 0, 0, []),
  (.iload_n 1, 0, 0, 0, 0, []),
  (.if_icmp .ne 17, 14, 0, 0, 0, []),
  (.iload_n 2, 0, 0, 0, 0, []),
  (.iload_n 1, 0, 0, 0, 0, []),
  (.invokestatic 128, 152, 2, 0, 0, []),
  (.ifCond .eq 9, 14, 0, 0, 0, []),
  (.iload_n 0, 0, 0, 0, 0, []),
  (.iload_n 3, 0, 0, 0, 0, []),
  (.iadd, 0, 0, 0, 0, []),
  (.goto 4, 15, 0, 0, 0, []),
  (.iload_n 0, 0, 0, 0, 0, []),
  (.ireturn, 0, 0, 0, 0, [])]
/-- GrassCellsModel.readsNeck()Z -/
def qc_Md_readsNeck : List qI := [(.aload_n 0, 0, 0, 0, 0, []),
  (.iconst 0, 0, 0, 0, 0, []),
  (.putfield 102, 11, 5, 0, 0, []),
  (.iconst 0, 0, 0, 0, 0, []),
  (.istore_n 1, 0, 0, 0, 0, []),
  (.iconst 0, 0, 0, 0, 0, []),
  (.istore_n 2, 0, 0, 0, 0, []),
  (.aload_n 0, 0, 0, 0, 0, []),
  (.invokevirtual 94, 141, 1, 12, 0, []),
  (.invokestatic 105, 147, 1, 0, 0, []),
  (.ifCond .eq 199, 115, 0, 0, 0, []),
  (.aload_n 0, 0, 0, 0, 0, []),
  (.getfield 102, 11, 5, 0, 0, []),
  (.bipush 8, 0, 0, 0, 8, []),
  (.if_icmp .ne 13, 21, 0, 0, 0, []),
  (.aload_n 0, 0, 0, 0, 0, []),
  (.iconst 1, 0, 0, 0, 1, []),
  (.aload_n 0, 0, 0, 0, 0, []),
  (.getfield 87, 11, 2, 0, 0, []),
  (.invokevirtual 108, 144, 3, 12, 0, []),
  (.ireturn, 1, 0, 0, 0, []),
  (.aload_n 0, 0, 0, 0, 0, []),
  (.dup, 0, 0, 0, 0, []),
  (.getfield 102, 11, 5, 0, 0, []),
  (.iconst 1, 0, 0, 0, 1, []),
  (.iadd, 0, 0, 0, 0, []),
  (.putfield 102, 11, 5, 0, 0, []),
  (.aload_n 0, 0, 0, 0, 0, []),
  (.getfield 20, 11, 7, 2, 0, []),
  (.aload_n 0, 0, 0, 0, 0, []),
  (.getfield 102, 11, 5, 0, 0, []),
  (.aload_n 0, 0, 0, 0, 0, []),
  (.getfield 87, 11, 2, 0, 0, []),
  (.iastore, 0, 0, 0, 0, []),
  (.aload_n 0, 0, 0, 0, 0, []),
  (.getfield 23, 11, 8, 2, 0, []),
  (.aload_n 0, 0, 0, 0, 0, []),
  (.getfield 102, 11, 5, 0, 0, []),
  (.iconst 0, 0, 0, 0, 0, []),
  (.iastore, 0, 0, 0, 0, []),
  (.iconst 0, 0, 0, 0, 0, []),
  (.istore_n 3, 0, 0, 0, 0, []),
  (.iconst 0, 0, 0, 0, 0, []),
  (.istore 4, 0, 0, 0, 0, []),
  (.aload_n 0, 0, 0, 0, 0, []),
  (.aload_n 0, 0, 0, 0, 0, []),
  (.getfield 87, 11, 2, 0, 0, []),
  (.invokevirtual 90, 142, 2, 12, 0, []),
  (.invokestatic 105, 147, 1, 0, 0, []),
  (.ifCond .eq 95, 98, 0, 0, 0, []),
  (.aload_n 0, 0, 0, 0, 0, []),
  (.aload_n 0, 0, 0, 0, 0, []),
  (.getfield 87, 11, 2, 0, 0, []),
  (.invokevirtual 90, 142, 2, 12, 0, []),
  (.bipush 48, 0, 0, 0, 48, []),
  (.isub, 0, 0, 0, 0, []),
  (.istore 5, 0, 0, 0, 0, []),
  (.iload 5, 0, 0, 0, 0, []),
  (.iload_n 3, 0, 0, 0, 0, []),
  (.if_icmp .le 24, 70, 0, 0, 0, []),
  (.iload 5, 0, 0, 0, 0, []),
  (.bipush 8, 0, 0, 0, 8, []),
  (.if_icmp .gt 17, 70, 0, 0, 0, []),
  (.aload_n 0, 0, 0, 0, 0, []),
  (.getfield 102, 11, 5, 0, 0, []),
  (.iconst 1, 0, 0, 0, 1, []),
  (.if_icmp .le 19, 76, 0, 0, 0, []),
  (.iload 4, 0, 0, 0, 0, []),
  (.iload_n 1, 0, 0, 0, 0, []),
  (.if_icmp .ne 13, 76, 0, 0, 0, []),
  (.aload_n 0, 0, 0, 0, 0, []),
  (.iconst 1, 0, 0, 0, 1, []),
  (.aload_n 0, 0, 0, 0, 0, []),
  (.getfield 87, 11, 2, 0, 0, []),
  (.invokevirtual 108, 144, 3, 12, 0, []),
  (.ireturn, 1, 0, 0, 0, []),
  (.aload_n 0, 0, 0, 0, 0, []),
  (.getfield 23, 11, 8, 2, 0, []),
  (.aload_n 0, 0, 0, 0, 0, []),
  (.getfield 102, 11, 5, 0, 0, []),
  (.aload_n 0, 0, 0, 0, 0, []),
  (.getfield 23, 11, 8, 2, 0, []),
  (.aload_n 0, 0, 0, 0, 0, []),
  (.getfield 102, 11, 5, 0, 0, []),
  (.iaload, 0, 0, 0, 0, []),
  (.iload 5, 0, 0, 0, 0, []),
  (.invokestatic 117, 150, 2, 0, 0, []),
  (.iastore, 0, 0, 0, 0, []),
  (.iload 5, 0, 0, 0, 0, []),
  (.istore_n 3, 0, 0, 0, 0, []),
  (.iinc 4 1, 0, 0, 0, 0, []),
  (.aload_n 0, 0, 0, 0, 0, []),
  (.dup, 0, 0, 0, 0, []),
  (.getfield 87, 11, 2, 0, 0, []),
  (.iconst 1, 0, 0, 0, 1, []),
  (.iadd, 0, 0, 0, 0, []),
  (.putfield 87, 11, 2, 0, 0, []),
  (.goto (-103), 44, 0, 0, 0, []),
  (.aload_n 0, 0, 0, 0, 0, []),
  (.getfield 102, 11, 5, 0, 0, []),
  (.iconst 1, 0, 0, 0, 1, []),
  (.if_icmp .ne 9, 105, 0, 0, 0, []),
  (.iload 4, 0, 0, 0, 0, []),
  (.istore_n 1, 0, 0, 0, 0, []),
  (.goto 19, 114, 0, 0, 0, []),
  (.iload 4, 0, 0, 0, 0, []),
  (.iload_n 1, 0, 0, 0, 0, []),
  (.if_icmp .ge 13, 114, 0, 0, 0, []),
  (.aload_n 0, 0, 0, 0, 0, []),
  (.iconst 1, 0, 0, 0, 1, []),
  (.aload_n 0, 0, 0, 0, 0, []),
  (.getfield 87, 11, 2, 0, 0, []),
  (.invokevirtual 108, 144, 3, 12, 0, []),
  (.ireturn, 1, 0, 0, 0, []),
  (.goto (-203), 7, 0, 0, 0, []),
  (.aload_n 0, 0, 0, 0, 0, []),
  (.invokevirtual 94, 141, 1, 12, 0, []),
  (.iconst (-1), 0, 0, 0, (-1), []),
  (.if_icmp .ne 11, 123, 0, 0, 0, []),
  (.aload_n 0, 0, 0, 0, 0, []),
  (.getfield 102, 11, 5, 0, 0, []),
  (.iconst 2, 0, 0, 0, 2, []),
  (.if_icmp .ge 13, 129, 0, 0, 0, []),
  (.aload_n 0, 0, 0, 0, 0, []),
  (.iconst 1, 0, 0, 0, 1, []),
  (.aload_n 0, 0, 0, 0, 0, []),
  (.getfield 87, 11, 2, 0, 0, []),
  (.invokevirtual 108, 144, 3, 12, 0, []),
  (.ireturn, 1, 0, 0, 0, []),
  (.aload_n 0, 0, 0, 0, 0, []),
  (.invokevirtual 121, 161, 1, 12, 0, []),
  (.ifCond .eq 14, 137, 0, 0, 0, []),
  (.aload_n 0, 0, 0, 0, 0, []),
  (.invokevirtual 125, 165, 1, 12, 0, []),
  (.ifCond .eq 7, 137, 0, 0, 0, []),
  (.iconst 1, 0, 0, 0, 1, []),
  (.goto 4, 138, 0, 0, 0, []),
  (.iconst 0, 0, 0, 0, 0, []),
  (.ireturn, 1, 0, 0, 0, [])]
/-- GrassCellsModel.isNeck()Z -/
def qc_Md_isNeck : List qI := [(.iconst 1, 0, 0, 0, 1, []),
  (.istore_n 1, 0, 0, 0, 0, []),
  (.iload_n 1, 0, 0, 0, 0, []),
  (.aload_n 0, 0, 0, 0, 0, []),
  (.getfield 102, 11, 5, 0, 0, []),
  (.if_icmp .gt 64, 38, 0, 0, 0, []),
  (.aload_n 0, 0, 0, 0, 0, []),
  (.getfield 20, 11, 7, 2, 0, []),
  (.iload_n 1, 0, 0, 0, 0, []),
  (.iaload, 0, 0, 0, 0, []),
  (.istore_n 2, 0, 0, 0, 0, []),
  (.iconst 1, 0, 0, 0, 1, []),
  (.istore_n 3, 0, 0, 0, 0, []),
  (.iload_n 3, 0, 0, 0, 0, []),
  (.bipush 8, 0, 0, 0, 8, []),
  (.if_icmp .gt 43, 36, 0, 0, 0, []),
  (.aload_n 0, 0, 0, 0, 0, []),
  (.getfield 23, 11, 8, 2, 0, []),
  (.iload_n 1, 0, 0, 0, 0, []),
  (.iaload, 0, 0, 0, 0, []),
  (.iload_n 3, 0, 0, 0, 0, []),
  (.invokestatic 128, 152, 2, 0, 0, []),
  (.ifCond .ne 6, 24, 0, 0, 0, []),
  (.goto 21, 34, 0, 0, 0, []),
  (.iload_n 3, 0, 0, 0, 0, []),
  (.aload_n 0, 0, 0, 0, 0, []),
  (.getfield 102, 11, 5, 0, 0, []),
  (.if_icmp .le 10, 33, 0, 0, 0, []),
  (.aload_n 0, 0, 0, 0, 0, []),
  (.iconst 2, 0, 0, 0, 2, []),
  (.iload_n 2, 0, 0, 0, 0, []),
  (.invokevirtual 108, 144, 3, 12, 0, []),
  (.ireturn, 1, 0, 0, 0, []),
  (.iinc 2 1, 0, 0, 0, 0, []),
  (.iinc 3 1, 0, 0, 0, 0, []),
  (.goto (-43), 13, 0, 0, 0, []),
  (.iinc 1 1, 0, 0, 0, 0, []),
  (.goto (-66), 2, 0, 0, 0, []),
  (.iconst 2, 0, 0, 0, 2, []),
  (.istore_n 1, 0, 0, 0, 0, []),
  (.iload_n 1, 0, 0, 0, 0, []),
  (.aload_n 0, 0, 0, 0, 0, []),
  (.getfield 102, 11, 5, 0, 0, []),
  (.if_icmp .gt 44, 69, 0, 0, 0, []),
  (.aload_n 0, 0, 0, 0, 0, []),
  (.getfield 23, 11, 8, 2, 0, []),
  (.iload_n 1, 0, 0, 0, 0, []),
  (.iaload, 0, 0, 0, 0, []),
  (.aload_n 0, 0, 0, 0, 0, []),
  (.getfield 23, 11, 8, 2, 0, []),
  (.iload_n 1, 0, 0, 0, 0, []),
  (.iconst 1, 0, 0, 0, 1, []),
  (.isub, 0, 0, 0, 0, []),
  (.iaload, 0, 0, 0, 0, []),
  (.iload_n 1, 0, 0, 0, 0, []),
  (.iconst 1, 0, 0, 0, 1, []),
  (.isub, 0, 0, 0, 0, []),
  (.invokestatic 131, 162, 3, 0, 0, []),
  (.ifCond .ne 15, 67, 0, 0, 0, []),
  (.aload_n 0, 0, 0, 0, 0, []),
  (.iconst 3, 0, 0, 0, 3, []),
  (.aload_n 0, 0, 0, 0, 0, []),
  (.getfield 20, 11, 7, 2, 0, []),
  (.iload_n 1, 0, 0, 0, 0, []),
  (.iaload, 0, 0, 0, 0, []),
  (.invokevirtual 108, 144, 3, 12, 0, []),
  (.ireturn, 1, 0, 0, 0, []),
  (.iinc 1 1, 0, 0, 0, 0, []),
  (.goto (-46), 40, 0, 0, 0, []),
  (.aload_n 0, 0, 0, 0, 0, []),
  (.getfield 23, 11, 8, 2, 0, []),
  (.iconst 1, 0, 0, 0, 1, []),
  (.iaload, 0, 0, 0, 0, []),
  (.aload_n 0, 0, 0, 0, 0, []),
  (.getfield 23, 11, 8, 2, 0, []),
  (.aload_n 0, 0, 0, 0, 0, []),
  (.getfield 102, 11, 5, 0, 0, []),
  (.iaload, 0, 0, 0, 0, []),
  (.aload_n 0, 0, 0, 0, 0, []),
  (.getfield 102, 11, 5, 0, 0, []),
  (.invokestatic 131, 162, 3, 0, 0, []),
  (.ifCond .ne 20, 91, 0, 0, 0, []),
  (.aload_n 0, 0, 0, 0, 0, []),
  (.iconst 3, 0, 0, 0, 3, []),
  (.aload_n 0, 0, 0, 0, 0, []),
  (.getfield 20, 11, 7, 2, 0, []),
  (.aload_n 0, 0, 0, 0, 0, []),
  (.getfield 102, 11, 5, 0, 0, []),
  (.iaload, 0, 0, 0, 0, []),
  (.invokevirtual 108, 144, 3, 12, 0, []),
  (.ifCond .eq 7, 93, 0, 0, 0, []),
  (.iconst 1, 0, 0, 0, 1, []),
  (.goto 4, 94, 0, 0, 0, []),
  (.iconst 0, 0, 0, 0, 0, []),
  (.ireturn, 1, 0, 0, 0, [])]
/-- GrassCellsModel.canStand(III)Z -/
def qc_Md_canStand : List qI := [(.iload_n 1, 0, 0, 0, 0, []),
  (.iload_n 2, 0, 0, 0, 0, []),
  (.invokestatic 128, 152, 2, 0, 0, []),
  (.ifCond .ne 14, 11, 0, 0, 0, []),
  (.iload_n 0, 0, 0, 0, 0, []),
  (.iload_n 1, 0, 0, 0, 0, []),
  (.if_icmp .ne 7, 9, 0, 0, 0, []),
  (.iconst 1, 0, 0, 0, 1, []),
  (.goto 4, 10, 0, 0, 0, []),
  (.iconst 0, 0, 0, 0, 0, []),
  (.ireturn, 1, 0, 0, 0, []),
  (.iload_n 1, 0, 0, 0, 0, []),
  (.iload_n 2, 0, 0, 0, 0, []),
  (.invokestatic 135, 163, 2, 0, 0, []),
  (.istore_n 3, 0, 0, 0, 0, []),
  (.iload_n 0, 0, 0, 0, 0, []),
  (.iload_n 3, 0, 0, 0, 0, []),
  (.iand, 0, 0, 0, 0, []),
  (.iload_n 3, 0, 0, 0, 0, []),
  (.if_icmp .ne 18, 27, 0, 0, 0, []),
  (.iload_n 0, 0, 0, 0, 0, []),
  (.invokestatic 138, 164, 1, 0, 0, []),
  (.iload_n 1, 0, 0, 0, 0, []),
  (.invokestatic 138, 164, 1, 0, 0, []),
  (.if_icmp .ne 7, 27, 0, 0, 0, []),
  (.iconst 1, 0, 0, 0, 1, []),
  (.goto 4, 28, 0, 0, 0, []),
  (.iconst 0, 0, 0, 0, 0, []),
  (.ireturn, 1, 0, 0, 0, [])]
/-- GrassCellsModel.without(II)I -/
def qc_Md_without : List qI := [(.iload_n 0, 0, 0, 0, 0, []),
  (.iconst 1, 0, 0, 0, 1, []),
  (.iload_n 1, 0, 0, 0, 0, []),
  (.iconst 1, 0, 0, 0, 1, []),
  (.isub, 0, 0, 0, 0, []),
  (.ishl, 0, 0, 0, 0, []),
  (.iconst (-1), 0, 0, 0, (-1), []),
  (.ixor, 0, 0, 0, 0, []),
  (.iand, 0, 0, 0, 0, []),
  (.ireturn, 0, 0, 0, 0, [])]
/-- GrassCellsModel.sizeOf(I)I -/
def qc_Md_sizeOf : List qI := [(.iconst 0, 0, 0, 0, 0, []),
  (.istore_n 1, 0, 0, 0, 0, []),
  (.iconst 0, 0, 0, 0, 0, []),
  (.istore_n 2, 0, 0, 0, 0, []),
  (.iload_n 2, 0, 0, 0, 0, []),
  (.bipush 8, 0, 0, 0, 8, []),
  (.if_icmp .ge 17, 17, 0, 0, 0, []),
  (.iload_n 1, 0, 0, 0, 0, []),
  (.iload_n 0, 0, 0, 0, 0, []),
  (.iload_n 2, 0, 0, 0, 0, []),
  (.ishr, 0, 0, 0, 0, []),
  (.iconst 1, 0, 0, 0, 1, []),
  (.iand, 0, 0, 0, 0, []),
  (.iadd, 0, 0, 0, 0, []),
  (.istore_n 1, 0, 0, 0, 0, []),
  (.iinc 2 1, 0, 0, 0, 0, []),
  (.goto (-17), 4, 0, 0, 0, []),
  (.iload_n 1, 0, 0, 0, 0, []),
  (.ireturn, 0, 0, 0, 0, [])]
/-- GrassCellsModel.laysByNeck()Z -/
def qc_Md_laysByNeck : List qI := [(.iconst 1, 0, 0, 0, 1, []),
  (.istore_n 1, 0, 0, 0, 0, []),
  (.iload_n 1, 0, 0, 0, 0, []),
  (.aload_n 0, 0, 0, 0, 0, []),
  (.getfield 102, 11, 5, 0, 0, []),
  (.if_icmp .gt 42, 29, 0, 0, 0, []),
  (.aload_n 0, 0, 0, 0, 0, []),
  (.getfield 16, 11, 6, 2, 0, []),
  (.iload_n 1, 0, 0, 0, 0, []),
  (.aload_n 0, 0, 0, 0, 0, []),
  (.getfield 23, 11, 8, 2, 0, []),
  (.iload_n 1, 0, 0, 0, 0, []),
  (.iaload, 0, 0, 0, 0, []),
  (.aload_n 0, 0, 0, 0, 0, []),
  (.getfield 23, 11, 8, 2, 0, []),
  (.iload_n 1, 0, 0, 0, 0, []),
  (.aload_n 0, 0, 0, 0, 0, []),
  (.getfield 102, 11, 5, 0, 0, []),
  (.irem, 0, 0, 0, 0, []),
  (.iconst 1, 0, 0, 0, 1, []),
  (.iadd, 0, 0, 0, 0, []),
  (.iaload, 0, 0, 0, 0, []),
  (.iload_n 1, 0, 0, 0, 0, []),
  (.aload_n 0, 0, 0, 0, 0, []),
  (.getfield 102, 11, 5, 0, 0, []),
  (.invokestatic 141, 166, 4, 0, 0, []),
  (.iastore, 0, 0, 0, 0, []),
  (.iinc 1 1, 0, 0, 0, 0, []),
  (.goto (-44), 2, 0, 0, 0, []),
  (.iconst 1, 0, 0, 0, 1, []),
  (.ireturn, 1, 0, 0, 0, [])]
/-- GrassCellsModel.stepOf(IIII)I -/
def qc_Md_stepOf : List qI := [(.iload_n 0, 0, 0, 0, 0, []),
  (.iload_n 2, 0, 0, 0, 0, []),
  (.invokestatic 128, 152, 2, 0, 0, []),
  (.ifCond .ne 5, 6, 0, 0, 0, []),
  (.iload_n 2, 0, 0, 0, 0, []),
  (.ireturn, 0, 0, 0, 0, []),
  (.iload_n 1, 0, 0, 0, 0, []),
  (.iload_n 0, 0, 0, 0, 0, []),
  (.iload_n 2, 0, 0, 0, 0, []),
  (.invokestatic 135, 163, 2, 0, 0, []),
  (.iconst (-1), 0, 0, 0, (-1), []),
  (.ixor, 0, 0, 0, 0, []),
  (.iand, 0, 0, 0, 0, []),
  (.istore 4, 0, 0, 0, 0, []),
  (.iconst 1, 0, 0, 0, 1, []),
  (.istore 5, 0, 0, 0, 0, []),
  (.iload 4, 0, 0, 0, 0, []),
  (.iload 5, 0, 0, 0, 0, []),
  (.invokestatic 128, 152, 2, 0, 0, []),
  (.ifCond .ne 9, 22, 0, 0, 0, []),
  (.iinc 5 1, 0, 0, 0, 0, []),
  (.goto (-13), 16, 0, 0, 0, []),
  (.iload 5, 0, 0, 0, 0, []),
  (.iload_n 2, 0, 0, 0, 0, []),
  (.if_icmp .le 8, 27, 0, 0, 0, []),
  (.iload 5, 0, 0, 0, 0, []),
  (.goto 7, 30, 0, 0, 0, []),
  (.iload 5, 0, 0, 0, 0, []),
  (.iload_n 3, 0, 0, 0, 0, []),
  (.iadd, 0, 0, 0, 0, []),
  (.ireturn, 0, 0, 0, 0, [])]
/-- GrassCellsModel.laysDiagram()V -/
def qc_Md_laysDiagram : List qI := [(.aload_n 0, 0, 0, 0, 0, []),
  (.aload_n 0, 0, 0, 0, 0, []),
  (.getfield 32, 11, 13, 2, 0, []),
  (.iconst 1, 0, 0, 0, 1, []),
  (.iaload, 0, 0, 0, 0, []),
  (.aload_n 0, 0, 0, 0, 0, []),
  (.getfield 177, 11, 10, 0, 0, []),
  (.invokevirtual 145, 151, 3, 12, 0, []),
  (.iconst 2, 0, 0, 0, 2, []),
  (.istore_n 1, 0, 0, 0, 0, []),
  (.iload_n 1, 0, 0, 0, 0, []),
  (.aload_n 0, 0, 0, 0, 0, []),
  (.getfield 177, 11, 10, 0, 0, []),
  (.if_icmp .gt 116, 75, 0, 0, 0, []),
  (.aload_n 0, 0, 0, 0, 0, []),
  (.getfield 32, 11, 13, 2, 0, []),
  (.iconst 1, 0, 0, 0, 1, []),
  (.iaload, 0, 0, 0, 0, []),
  (.aload_n 0, 0, 0, 0, 0, []),
  (.getfield 32, 11, 13, 2, 0, []),
  (.iload_n 1, 0, 0, 0, 0, []),
  (.iaload, 0, 0, 0, 0, []),
  (.iconst (-1), 0, 0, 0, (-1), []),
  (.ixor, 0, 0, 0, 0, []),
  (.iand, 0, 0, 0, 0, []),
  (.istore_n 2, 0, 0, 0, 0, []),
  (.aload_n 0, 0, 0, 0, 0, []),
  (.getfield 32, 11, 13, 2, 0, []),
  (.iload_n 1, 0, 0, 0, 0, []),
  (.iaload, 0, 0, 0, 0, []),
  (.aload_n 0, 0, 0, 0, 0, []),
  (.getfield 32, 11, 13, 2, 0, []),
  (.iconst 1, 0, 0, 0, 1, []),
  (.iaload, 0, 0, 0, 0, []),
  (.iconst (-1), 0, 0, 0, (-1), []),
  (.ixor, 0, 0, 0, 0, []),
  (.iand, 0, 0, 0, 0, []),
  (.istore_n 3, 0, 0, 0, 0, []),
  (.iconst 1, 0, 0, 0, 1, []),
  (.istore 4, 0, 0, 0, 0, []),
  (.aload_n 0, 0, 0, 0, 0, []),
  (.getfield 177, 11, 10, 0, 0, []),
  (.istore 5, 0, 0, 0, 0, []),
  (.iload 5, 0, 0, 0, 0, []),
  (.ifCond .le 64, 73, 0, 0, 0, []),
  (.iload_n 2, 0, 0, 0, 0, []),
  (.iload 5, 0, 0, 0, 0, []),
  (.invokestatic 128, 152, 2, 0, 0, []),
  (.ifCond .ne 6, 50, 0, 0, 0, []),
  (.goto 46, 71, 0, 0, 0, []),
  (.iload_n 3, 0, 0, 0, 0, []),
  (.iload 4, 0, 0, 0, 0, []),
  (.invokestatic 128, 152, 2, 0, 0, []),
  (.ifCond .ne 9, 56, 0, 0, 0, []),
  (.iinc 4 1, 0, 0, 0, 0, []),
  (.goto (-12), 50, 0, 0, 0, []),
  (.aload_n 0, 0, 0, 0, 0, []),
  (.iload 5, 0, 0, 0, 0, []),
  (.iload 4, 0, 0, 0, 0, []),
  (.invokevirtual 149, 153, 3, 12, 0, []),
  (.ifCond .eq 17, 70, 0, 0, 0, []),
  (.aload_n 0, 0, 0, 0, 0, []),
  (.getfield 26, 11, 9, 2, 0, []),
  (.bipush 9, 0, 0, 0, 9, []),
  (.iload 5, 0, 0, 0, 0, []),
  (.imul, 0, 0, 0, 0, []),
  (.iload 4, 0, 0, 0, 0, []),
  (.iadd, 0, 0, 0, 0, []),
  (.iconst 2, 0, 0, 0, 2, []),
  (.iastore, 0, 0, 0, 0, []),
  (.iinc 4 1, 0, 0, 0, 0, []),
  (.iinc 5 (-1), 0, 0, 0, 0, []),
  (.goto (-63), 43, 0, 0, 0, []),
  (.iinc 1 1, 0, 0, 0, 0, []),
  (.goto (-118), 10, 0, 0, 0, []),
  (.aload_n 0, 0, 0, 0, 0, []),
  (.invokevirtual 216, 168, 1, 12, 0, []),
  (.ifCond .ne 7, 80, 0, 0, 0, []),
  (.aload_n 0, 0, 0, 0, 0, []),
  (.invokevirtual 219, 169, 1, 12, 0, []),
  (.return_, 0, 0, 0, 0, [])]
/-- GrassCellsModel.isOwnDiagram()Z -/
def qc_Md_isOwnDiagram : List qI := [(.iconst 1, 0, 0, 0, 1, []),
  (.istore_n 1, 0, 0, 0, 0, []),
  (.iload_n 1, 0, 0, 0, 0, []),
  (.aload_n 0, 0, 0, 0, 0, []),
  (.getfield 177, 11, 10, 0, 0, []),
  (.if_icmp .gt 35, 24, 0, 0, 0, []),
  (.aload_n 0, 0, 0, 0, 0, []),
  (.iload_n 1, 0, 0, 0, 0, []),
  (.aload_n 0, 0, 0, 0, 0, []),
  (.getfield 32, 11, 13, 2, 0, []),
  (.iconst 1, 0, 0, 0, 1, []),
  (.iaload, 0, 0, 0, 0, []),
  (.aload_n 0, 0, 0, 0, 0, []),
  (.getfield 177, 11, 10, 0, 0, []),
  (.invokevirtual 155, 156, 4, 12, 0, []),
  (.aload_n 0, 0, 0, 0, 0, []),
  (.getfield 29, 11, 11, 2, 0, []),
  (.iload_n 1, 0, 0, 0, 0, []),
  (.iaload, 0, 0, 0, 0, []),
  (.if_icmp .eq 5, 22, 0, 0, 0, []),
  (.iconst 0, 0, 0, 0, 0, []),
  (.ireturn, 1, 0, 0, 0, []),
  (.iinc 1 1, 0, 0, 0, 0, []),
  (.goto (-37), 2, 0, 0, 0, []),
  (.iconst 1, 0, 0, 0, 1, []),
  (.ireturn, 1, 0, 0, 0, [])]
/-- GrassCellsModel.searchesDiagram()V -/
def qc_Md_searchesDiagram : List qI := [(.iconst 0, 0, 0, 0, 0, []),
  (.istore_n 1, 0, 0, 0, 0, []),
  (.iconst 0, 0, 0, 0, 0, []),
  (.istore_n 2, 0, 0, 0, 0, []),
  (.iload_n 2, 0, 0, 0, 0, []),
  (.bipush 81, 0, 0, 0, 81, []),
  (.if_icmp .ge 26, 20, 0, 0, 0, []),
  (.iload_n 1, 0, 0, 0, 0, []),
  (.aload_n 0, 0, 0, 0, 0, []),
  (.getfield 26, 11, 9, 2, 0, []),
  (.iload_n 2, 0, 0, 0, 0, []),
  (.iaload, 0, 0, 0, 0, []),
  (.ifCond .le 7, 15, 0, 0, 0, []),
  (.iconst 1, 0, 0, 0, 1, []),
  (.goto 4, 16, 0, 0, 0, []),
  (.iconst 0, 0, 0, 0, 0, []),
  (.iadd, 0, 0, 0, 0, []),
  (.istore_n 1, 0, 0, 0, 0, []),
  (.iinc 2 1, 0, 0, 0, 0, []),
  (.goto (-26), 4, 0, 0, 0, []),
  (.iconst 0, 0, 0, 0, 0, []),
  (.istore_n 2, 0, 0, 0, 0, []),
  (.iload_n 2, 0, 0, 0, 0, []),
  (.iconst 1, 0, 0, 0, 1, []),
  (.iload_n 1, 0, 0, 0, 0, []),
  (.ishl, 0, 0, 0, 0, []),
  (.if_icmp .ge 72, 63, 0, 0, 0, []),
  (.iconst 0, 0, 0, 0, 0, []),
  (.istore_n 3, 0, 0, 0, 0, []),
  (.iconst 0, 0, 0, 0, 0, []),
  (.istore 4, 0, 0, 0, 0, []),
  (.iload 4, 0, 0, 0, 0, []),
  (.bipush 81, 0, 0, 0, 81, []),
  (.if_icmp .ge 39, 54, 0, 0, 0, []),
  (.aload_n 0, 0, 0, 0, 0, []),
  (.getfield 26, 11, 9, 2, 0, []),
  (.iload 4, 0, 0, 0, 0, []),
  (.iaload, 0, 0, 0, 0, []),
  (.ifCond .ne 6, 40, 0, 0, 0, []),
  (.goto 20, 52, 0, 0, 0, []),
  (.aload_n 0, 0, 0, 0, 0, []),
  (.getfield 26, 11, 9, 2, 0, []),
  (.iload 4, 0, 0, 0, 0, []),
  (.iconst 1, 0, 0, 0, 1, []),
  (.iload_n 2, 0, 0, 0, 0, []),
  (.iload_n 3, 0, 0, 0, 0, []),
  (.ishr, 0, 0, 0, 0, []),
  (.iconst 1, 0, 0, 0, 1, []),
  (.iand, 0, 0, 0, 0, []),
  (.iadd, 0, 0, 0, 0, []),
  (.iastore, 0, 0, 0, 0, []),
  (.iinc 3 1, 0, 0, 0, 0, []),
  (.iinc 4 1, 0, 0, 0, 0, []),
  (.goto (-40), 31, 0, 0, 0, []),
  (.aload_n 0, 0, 0, 0, 0, []),
  (.invokevirtual 222, 170, 1, 12, 0, []),
  (.ifCond .eq 11, 61, 0, 0, 0, []),
  (.aload_n 0, 0, 0, 0, 0, []),
  (.invokevirtual 216, 168, 1, 12, 0, []),
  (.ifCond .eq 4, 61, 0, 0, 0, []),
  (.return_, 0, 0, 0, 0, []),
  (.iinc 2 1, 0, 0, 0, 0, []),
  (.goto (-73), 22, 0, 0, 0, []),
  (.return_, 0, 0, 0, 0, [])]
/-- GrassCellsModel.isAllLe()Z -/
def qc_Md_isAllLe : List qI := [(.iconst 1, 0, 0, 0, 1, []),
  (.istore_n 1, 0, 0, 0, 0, []),
  (.iload_n 1, 0, 0, 0, 0, []),
  (.aload_n 0, 0, 0, 0, 0, []),
  (.getfield 177, 11, 10, 0, 0, []),
  (.if_icmp .gt 57, 37, 0, 0, 0, []),
  (.iload_n 1, 0, 0, 0, 0, []),
  (.iconst 1, 0, 0, 0, 1, []),
  (.iadd, 0, 0, 0, 0, []),
  (.istore_n 2, 0, 0, 0, 0, []),
  (.iload_n 2, 0, 0, 0, 0, []),
  (.aload_n 0, 0, 0, 0, 0, []),
  (.getfield 177, 11, 10, 0, 0, []),
  (.if_icmp .gt 39, 35, 0, 0, 0, []),
  (.aload_n 0, 0, 0, 0, 0, []),
  (.getfield 26, 11, 9, 2, 0, []),
  (.bipush 9, 0, 0, 0, 9, []),
  (.iload_n 1, 0, 0, 0, 0, []),
  (.imul, 0, 0, 0, 0, []),
  (.iload_n 2, 0, 0, 0, 0, []),
  (.iadd, 0, 0, 0, 0, []),
  (.iaload, 0, 0, 0, 0, []),
  (.iconst 1, 0, 0, 0, 1, []),
  (.if_icmp .ne 18, 33, 0, 0, 0, []),
  (.aload_n 0, 0, 0, 0, 0, []),
  (.iload_n 1, 0, 0, 0, 0, []),
  (.iload_n 2, 0, 0, 0, 0, []),
  (.aload_n 0, 0, 0, 0, 0, []),
  (.getfield 177, 11, 10, 0, 0, []),
  (.invokevirtual 152, 154, 4, 12, 0, []),
  (.ifCond .ne 5, 33, 0, 0, 0, []),
  (.iconst 0, 0, 0, 0, 0, []),
  (.ireturn, 1, 0, 0, 0, []),
  (.iinc 2 1, 0, 0, 0, 0, []),
  (.goto (-41), 10, 0, 0, 0, []),
  (.iinc 1 1, 0, 0, 0, 0, []),
  (.goto (-59), 2, 0, 0, 0, []),
  (.iconst 1, 0, 0, 0, 1, []),
  (.ireturn, 1, 0, 0, 0, [])]
/-- GrassCellsModel.keepsAct()V -/
def qc_Md_keepsAct : List qI := [(.aload_n 0, 0, 0, 0, 0, []),
  (.getfield 298, 11, 20, 0, 0, []),
  (.bipush 20, 0, 0, 0, 20, []),
  (.if_icmp .ne 44, 27, 0, 0, 0, []),
  (.bipush 20, 0, 0, 0, 20, []),
  (.istore_n 1, 0, 0, 0, 0, []),
  (.iload_n 1, 0, 0, 0, 0, []),
  (.sipush 400, 0, 0, 0, 400, []),
  (.if_icmp .ge 24, 21, 0, 0, 0, []),
  (.aload_n 0, 0, 0, 0, 0, []),
  (.getfield 52, 11, 19, 2, 0, []),
  (.iload_n 1, 0, 0, 0, 0, []),
  (.bipush 20, 0, 0, 0, 20, []),
  (.isub, 0, 0, 0, 0, []),
  (.aload_n 0, 0, 0, 0, 0, []),
  (.getfield 52, 11, 19, 2, 0, []),
  (.iload_n 1, 0, 0, 0, 0, []),
  (.iaload, 0, 0, 0, 0, []),
  (.iastore, 0, 0, 0, 0, []),
  (.iinc 1 1, 0, 0, 0, 0, []),
  (.goto (-25), 6, 0, 0, 0, []),
  (.aload_n 0, 0, 0, 0, 0, []),
  (.dup, 0, 0, 0, 0, []),
  (.getfield 298, 11, 20, 0, 0, []),
  (.iconst 1, 0, 0, 0, 1, []),
  (.isub, 0, 0, 0, 0, []),
  (.putfield 298, 11, 20, 0, 0, []),
  (.bipush 20, 0, 0, 0, 20, []),
  (.aload_n 0, 0, 0, 0, 0, []),
  (.getfield 298, 11, 20, 0, 0, []),
  (.imul, 0, 0, 0, 0, []),
  (.istore_n 1, 0, 0, 0, 0, []),
  (.aload_n 0, 0, 0, 0, 0, []),
  (.getfield 52, 11, 19, 2, 0, []),
  (.iload_n 1, 0, 0, 0, 0, []),
  (.aload_n 0, 0, 0, 0, 0, []),
  (.getfield 177, 11, 10, 0, 0, []),
  (.iastore, 0, 0, 0, 0, []),
  (.iconst 1, 0, 0, 0, 1, []),
  (.istore_n 2, 0, 0, 0, 0, []),
  (.iload_n 2, 0, 0, 0, 0, []),
  (.aload_n 0, 0, 0, 0, 0, []),
  (.getfield 177, 11, 10, 0, 0, []),
  (.if_icmp .gt 23, 56, 0, 0, 0, []),
  (.aload_n 0, 0, 0, 0, 0, []),
  (.getfield 52, 11, 19, 2, 0, []),
  (.iload_n 1, 0, 0, 0, 0, []),
  (.iload_n 2, 0, 0, 0, 0, []),
  (.iadd, 0, 0, 0, 0, []),
  (.aload_n 0, 0, 0, 0, 0, []),
  (.getfield 29, 11, 11, 2, 0, []),
  (.iload_n 2, 0, 0, 0, 0, []),
  (.iaload, 0, 0, 0, 0, []),
  (.iastore, 0, 0, 0, 0, []),
  (.iinc 2 1, 0, 0, 0, 0, []),
  (.goto (-25), 40, 0, 0, 0, []),
  (.iconst 0, 0, 0, 0, 0, []),
  (.istore_n 2, 0, 0, 0, 0, []),
  (.iload_n 2, 0, 0, 0, 0, []),
  (.bipush 8, 0, 0, 0, 8, []),
  (.if_icmp .ge 21, 72, 0, 0, 0, []),
  (.aload_n 0, 0, 0, 0, 0, []),
  (.getfield 52, 11, 19, 2, 0, []),
  (.iload_n 1, 0, 0, 0, 0, []),
  (.bipush 12, 0, 0, 0, 12, []),
  (.iadd, 0, 0, 0, 0, []),
  (.iload_n 2, 0, 0, 0, 0, []),
  (.iadd, 0, 0, 0, 0, []),
  (.iconst 0, 0, 0, 0, 0, []),
  (.iastore, 0, 0, 0, 0, []),
  (.iinc 2 1, 0, 0, 0, 0, []),
  (.goto (-21), 58, 0, 0, 0, []),
  (.iconst 0, 0, 0, 0, 0, []),
  (.istore_n 2, 0, 0, 0, 0, []),
  (.iload_n 2, 0, 0, 0, 0, []),
  (.sipush 256, 0, 0, 0, 256, []),
  (.if_icmp .ge 41, 102, 0, 0, 0, []),
  (.aload_n 0, 0, 0, 0, 0, []),
  (.getfield 39, 11, 15, 2, 0, []),
  (.iload_n 2, 0, 0, 0, 0, []),
  (.baload, 0, 0, 0, 0, []),
  (.ifCond .eq 26, 100, 0, 0, 0, []),
  (.aload_n 0, 0, 0, 0, 0, []),
  (.getfield 52, 11, 19, 2, 0, []),
  (.iload_n 1, 0, 0, 0, 0, []),
  (.bipush 12, 0, 0, 0, 12, []),
  (.iadd, 0, 0, 0, 0, []),
  (.iload_n 2, 0, 0, 0, 0, []),
  (.bipush 32, 0, 0, 0, 32, []),
  (.idiv, 0, 0, 0, 0, []),
  (.iadd, 0, 0, 0, 0, []),
  (.dup2, 0, 0, 0, 0, []),
  (.iaload, 0, 0, 0, 0, []),
  (.iconst 1, 0, 0, 0, 1, []),
  (.iload_n 2, 0, 0, 0, 0, []),
  (.bipush 32, 0, 0, 0, 32, []),
  (.irem, 0, 0, 0, 0, []),
  (.ishl, 0, 0, 0, 0, []),
  (.ior, 0, 0, 0, 0, []),
  (.iastore, 0, 0, 0, 0, []),
  (.iinc 2 1, 0, 0, 0, 0, []),
  (.goto (-42), 74, 0, 0, 0, []),
  (.aload_n 0, 0, 0, 0, 0, []),
  (.dup, 0, 0, 0, 0, []),
  (.getfield 298, 11, 20, 0, 0, []),
  (.iconst 1, 0, 0, 0, 1, []),
  (.iadd, 0, 0, 0, 0, []),
  (.putfield 298, 11, 20, 0, 0, []),
  (.return_, 0, 0, 0, 0, [])]
/-- GrassCellsModel.changes()V -/
def qc_Md_changes : List qI := [(.aload_n 0, 0, 0, 0, 0, []),
  (.invokevirtual 198, 173, 1, 12, 0, []),
  (.aload_n 0, 0, 0, 0, 0, []),
  (.invokevirtual 201, 177, 1, 12, 0, []),
  (.return_, 0, 0, 0, 0, [])]
/-- GrassCellsModel.follows()V -/
def qc_Md_follows : List qI := [(.aload_n 0, 0, 0, 0, 0, []),
  (.invokevirtual 204, 174, 1, 12, 0, []),
  (.aload_n 0, 0, 0, 0, 0, []),
  (.invokevirtual 207, 175, 1, 12, 0, []),
  (.aload_n 0, 0, 0, 0, 0, []),
  (.invokevirtual 180, 167, 1, 12, 0, []),
  (.return_, 0, 0, 0, 0, [])]
/-- GrassCellsModel.laysNeck()V -/
def qc_Md_laysNeck : List qI := [(.aload_n 0, 0, 0, 0, 0, []),
  (.getfield 32, 11, 13, 2, 0, []),
  (.iconst 1, 0, 0, 0, 1, []),
  (.iconst 0, 0, 0, 0, 0, []),
  (.iastore, 0, 0, 0, 0, []),
  (.iconst 1, 0, 0, 0, 1, []),
  (.istore_n 1, 0, 0, 0, 0, []),
  (.iload_n 1, 0, 0, 0, 0, []),
  (.aload_n 0, 0, 0, 0, 0, []),
  (.getfield 177, 11, 10, 0, 0, []),
  (.if_icmp .gt 48, 36, 0, 0, 0, []),
  (.aload_n 0, 0, 0, 0, 0, []),
  (.getfield 29, 11, 11, 2, 0, []),
  (.iload_n 1, 0, 0, 0, 0, []),
  (.iaload, 0, 0, 0, 0, []),
  (.aload_n 0, 0, 0, 0, 0, []),
  (.getfield 177, 11, 10, 0, 0, []),
  (.if_icmp .le 29, 34, 0, 0, 0, []),
  (.aload_n 0, 0, 0, 0, 0, []),
  (.getfield 32, 11, 13, 2, 0, []),
  (.iconst 1, 0, 0, 0, 1, []),
  (.aload_n 0, 0, 0, 0, 0, []),
  (.getfield 32, 11, 13, 2, 0, []),
  (.iconst 1, 0, 0, 0, 1, []),
  (.iaload, 0, 0, 0, 0, []),
  (.aload_n 0, 0, 0, 0, 0, []),
  (.getfield 29, 11, 11, 2, 0, []),
  (.iload_n 1, 0, 0, 0, 0, []),
  (.iaload, 0, 0, 0, 0, []),
  (.aload_n 0, 0, 0, 0, 0, []),
  (.getfield 177, 11, 10, 0, 0, []),
  (.isub, 0, 0, 0, 0, []),
  (.invokestatic 117, 150, 2, 0, 0, []),
  (.iastore, 0, 0, 0, 0, []),
  (.iinc 1 1, 0, 0, 0, 0, []),
  (.goto (-50), 7, 0, 0, 0, []),
  (.iconst 1, 0, 0, 0, 1, []),
  (.istore_n 1, 0, 0, 0, 0, []),
  (.iload_n 1, 0, 0, 0, 0, []),
  (.aload_n 0, 0, 0, 0, 0, []),
  (.getfield 177, 11, 10, 0, 0, []),
  (.if_icmp .ge 82, 87, 0, 0, 0, []),
  (.aload_n 0, 0, 0, 0, 0, []),
  (.getfield 32, 11, 13, 2, 0, []),
  (.iload_n 1, 0, 0, 0, 0, []),
  (.iconst 1, 0, 0, 0, 1, []),
  (.iadd, 0, 0, 0, 0, []),
  (.aload_n 0, 0, 0, 0, 0, []),
  (.getfield 29, 11, 11, 2, 0, []),
  (.iload_n 1, 0, 0, 0, 0, []),
  (.iaload, 0, 0, 0, 0, []),
  (.iload_n 1, 0, 0, 0, 0, []),
  (.if_icmp .ne 12, 58, 0, 0, 0, []),
  (.aload_n 0, 0, 0, 0, 0, []),
  (.getfield 32, 11, 13, 2, 0, []),
  (.iload_n 1, 0, 0, 0, 0, []),
  (.iaload, 0, 0, 0, 0, []),
  (.goto 49, 84, 0, 0, 0, []),
  (.aload_n 0, 0, 0, 0, 0, []),
  (.getfield 32, 11, 13, 2, 0, []),
  (.iload_n 1, 0, 0, 0, 0, []),
  (.iaload, 0, 0, 0, 0, []),
  (.iload_n 1, 0, 0, 0, 0, []),
  (.invokestatic 135, 163, 2, 0, 0, []),
  (.aload_n 0, 0, 0, 0, 0, []),
  (.getfield 29, 11, 11, 2, 0, []),
  (.iload_n 1, 0, 0, 0, 0, []),
  (.iaload, 0, 0, 0, 0, []),
  (.aload_n 0, 0, 0, 0, 0, []),
  (.getfield 177, 11, 10, 0, 0, []),
  (.if_icmp .le 17, 79, 0, 0, 0, []),
  (.aload_n 0, 0, 0, 0, 0, []),
  (.getfield 29, 11, 11, 2, 0, []),
  (.iload_n 1, 0, 0, 0, 0, []),
  (.iaload, 0, 0, 0, 0, []),
  (.aload_n 0, 0, 0, 0, 0, []),
  (.getfield 177, 11, 10, 0, 0, []),
  (.isub, 0, 0, 0, 0, []),
  (.goto 9, 83, 0, 0, 0, []),
  (.aload_n 0, 0, 0, 0, 0, []),
  (.getfield 29, 11, 11, 2, 0, []),
  (.iload_n 1, 0, 0, 0, 0, []),
  (.iaload, 0, 0, 0, 0, []),
  (.invokestatic 117, 150, 2, 0, 0, []),
  (.iastore, 0, 0, 0, 0, []),
  (.iinc 1 1, 0, 0, 0, 0, []),
  (.goto (-84), 38, 0, 0, 0, []),
  (.aload_n 0, 0, 0, 0, 0, []),
  (.aload_n 0, 0, 0, 0, 0, []),
  (.getfield 32, 11, 13, 2, 0, []),
  (.iconst 1, 0, 0, 0, 1, []),
  (.iaload, 0, 0, 0, 0, []),
  (.invokestatic 138, 164, 1, 0, 0, []),
  (.putfield 210, 11, 12, 0, 0, []),
  (.return_, 0, 0, 0, 0, [])]
/-- GrassCellsModel.laysBases()V -/
def qc_Md_laysBases : List qI := [(.iconst 0, 0, 0, 0, 0, []),
  (.istore_n 1, 0, 0, 0, 0, []),
  (.iload_n 1, 0, 0, 0, 0, []),
  (.sipush 256, 0, 0, 0, 256, []),
  (.if_icmp .ge 76, 46, 0, 0, 0, []),
  (.iload_n 1, 0, 0, 0, 0, []),
  (.iconst 1, 0, 0, 0, 1, []),
  (.aload_n 0, 0, 0, 0, 0, []),
  (.getfield 177, 11, 10, 0, 0, []),
  (.ishl, 0, 0, 0, 0, []),
  (.if_icmp .ge 18, 18, 0, 0, 0, []),
  (.iload_n 1, 0, 0, 0, 0, []),
  (.invokestatic 138, 164, 1, 0, 0, []),
  (.aload_n 0, 0, 0, 0, 0, []),
  (.getfield 210, 11, 12, 0, 0, []),
  (.if_icmp .ne 7, 18, 0, 0, 0, []),
  (.iconst 1, 0, 0, 0, 1, []),
  (.goto 4, 19, 0, 0, 0, []),
  (.iconst 0, 0, 0, 0, 0, []),
  (.istore_n 2, 0, 0, 0, 0, []),
  (.iconst 1, 0, 0, 0, 1, []),
  (.istore_n 3, 0, 0, 0, 0, []),
  (.iload_n 3, 0, 0, 0, 0, []),
  (.aload_n 0, 0, 0, 0, 0, []),
  (.getfield 177, 11, 10, 0, 0, []),
  (.if_icmp .gt 26, 39, 0, 0, 0, []),
  (.iload_n 2, 0, 0, 0, 0, []),
  (.ifCond .eq 22, 39, 0, 0, 0, []),
  (.aload_n 0, 0, 0, 0, 0, []),
  (.iload_n 1, 0, 0, 0, 0, []),
  (.aload_n 0, 0, 0, 0, 0, []),
  (.getfield 32, 11, 13, 2, 0, []),
  (.iload_n 3, 0, 0, 0, 0, []),
  (.iaload, 0, 0, 0, 0, []),
  (.iload_n 3, 0, 0, 0, 0, []),
  (.invokevirtual 213, 176, 4, 12, 0, []),
  (.istore_n 2, 0, 0, 0, 0, []),
  (.iinc 3 1, 0, 0, 0, 0, []),
  (.goto (-28), 22, 0, 0, 0, []),
  (.aload_n 0, 0, 0, 0, 0, []),
  (.getfield 35, 11, 14, 2, 0, []),
  (.iload_n 1, 0, 0, 0, 0, []),
  (.iload_n 2, 0, 0, 0, 0, []),
  (.bastore, 0, 0, 0, 0, []),
  (.iinc 1 1, 0, 0, 0, 0, []),
  (.goto (-77), 2, 0, 0, 0, []),
  (.return_, 0, 0, 0, 0, [])]
/-- GrassCellsModel.isAtLeast(III)Z -/
def qc_Md_isAtLeast : List qI := [(.iconst 0, 0, 0, 0, 0, []),
  (.istore 4, 0, 0, 0, 0, []),
  (.iconst 0, 0, 0, 0, 0, []),
  (.istore 5, 0, 0, 0, 0, []),
  (.iload 5, 0, 0, 0, 0, []),
  (.aload_n 0, 0, 0, 0, 0, []),
  (.getfield 177, 11, 10, 0, 0, []),
  (.if_icmp .ge 65, 43, 0, 0, 0, []),
  (.iload_n 3, 0, 0, 0, 0, []),
  (.iconst 1, 0, 0, 0, 1, []),
  (.isub, 0, 0, 0, 0, []),
  (.iload 5, 0, 0, 0, 0, []),
  (.iadd, 0, 0, 0, 0, []),
  (.aload_n 0, 0, 0, 0, 0, []),
  (.getfield 177, 11, 10, 0, 0, []),
  (.irem, 0, 0, 0, 0, []),
  (.iconst 1, 0, 0, 0, 1, []),
  (.iadd, 0, 0, 0, 0, []),
  (.istore 6, 0, 0, 0, 0, []),
  (.iload 4, 0, 0, 0, 0, []),
  (.iload_n 2, 0, 0, 0, 0, []),
  (.iload 6, 0, 0, 0, 0, []),
  (.invokestatic 128, 152, 2, 0, 0, []),
  (.ifCond .eq 7, 26, 0, 0, 0, []),
  (.iconst 1, 0, 0, 0, 1, []),
  (.goto 4, 27, 0, 0, 0, []),
  (.iconst 0, 0, 0, 0, 0, []),
  (.iload_n 1, 0, 0, 0, 0, []),
  (.iload 6, 0, 0, 0, 0, []),
  (.invokestatic 128, 152, 2, 0, 0, []),
  (.ifCond .eq 7, 33, 0, 0, 0, []),
  (.iconst 1, 0, 0, 0, 1, []),
  (.goto 4, 34, 0, 0, 0, []),
  (.iconst 0, 0, 0, 0, 0, []),
  (.isub, 0, 0, 0, 0, []),
  (.iadd, 0, 0, 0, 0, []),
  (.istore 4, 0, 0, 0, 0, []),
  (.iload 4, 0, 0, 0, 0, []),
  (.ifCond .ge 5, 41, 0, 0, 0, []),
  (.iconst 0, 0, 0, 0, 0, []),
  (.ireturn, 1, 0, 0, 0, []),
  (.iinc 5 1, 0, 0, 0, 0, []),
  (.goto (-68), 4, 0, 0, 0, []),
  (.iconst 1, 0, 0, 0, 1, []),
  (.ireturn, 1, 0, 0, 0, [])]
/-- GrassCellsModel.laysCluster()V -/
def qc_Md_laysCluster : List qI := [(.iconst 0, 0, 0, 0, 0, []),
  (.istore_n 1, 0, 0, 0, 0, []),
  (.iload_n 1, 0, 0, 0, 0, []),
  (.sipush 256, 0, 0, 0, 256, []),
  (.if_icmp .ge 16, 12, 0, 0, 0, []),
  (.aload_n 0, 0, 0, 0, 0, []),
  (.getfield 39, 11, 15, 2, 0, []),
  (.iload_n 1, 0, 0, 0, 0, []),
  (.iconst 0, 0, 0, 0, 0, []),
  (.bastore, 0, 0, 0, 0, []),
  (.iinc 1 1, 0, 0, 0, 0, []),
  (.goto (-17), 2, 0, 0, 0, []),
  (.iconst 1, 0, 0, 0, 1, []),
  (.istore_n 1, 0, 0, 0, 0, []),
  (.iload_n 1, 0, 0, 0, 0, []),
  (.aload_n 0, 0, 0, 0, 0, []),
  (.getfield 177, 11, 10, 0, 0, []),
  (.if_icmp .gt 21, 28, 0, 0, 0, []),
  (.aload_n 0, 0, 0, 0, 0, []),
  (.getfield 39, 11, 15, 2, 0, []),
  (.aload_n 0, 0, 0, 0, 0, []),
  (.getfield 32, 11, 13, 2, 0, []),
  (.iload_n 1, 0, 0, 0, 0, []),
  (.iaload, 0, 0, 0, 0, []),
  (.iconst 1, 0, 0, 0, 1, []),
  (.bastore, 0, 0, 0, 0, []),
  (.iinc 1 1, 0, 0, 0, 0, []),
  (.goto (-23), 14, 0, 0, 0, []),
  (.iconst 0, 0, 0, 0, 0, []),
  (.istore_n 1, 0, 0, 0, 0, []),
  (.iload_n 1, 0, 0, 0, 0, []),
  (.sipush 256, 0, 0, 0, 256, []),
  (.if_icmp .ge 42, 54, 0, 0, 0, []),
  (.aload_n 0, 0, 0, 0, 0, []),
  (.getfield 35, 11, 14, 2, 0, []),
  (.iload_n 1, 0, 0, 0, 0, []),
  (.baload, 0, 0, 0, 0, []),
  (.ifCond .eq 27, 52, 0, 0, 0, []),
  (.aload_n 0, 0, 0, 0, 0, []),
  (.getfield 39, 11, 15, 2, 0, []),
  (.iload_n 1, 0, 0, 0, 0, []),
  (.baload, 0, 0, 0, 0, []),
  (.ifCond .ne 18, 52, 0, 0, 0, []),
  (.aload_n 0, 0, 0, 0, 0, []),
  (.iload_n 1, 0, 0, 0, 0, []),
  (.invokevirtual 283, 178, 2, 12, 0, []),
  (.ifCond .eq 10, 52, 0, 0, 0, []),
  (.aload_n 0, 0, 0, 0, 0, []),
  (.getfield 39, 11, 15, 2, 0, []),
  (.iload_n 1, 0, 0, 0, 0, []),
  (.iconst 1, 0, 0, 0, 1, []),
  (.bastore, 0, 0, 0, 0, []),
  (.iinc 1 1, 0, 0, 0, 0, []),
  (.goto (-43), 30, 0, 0, 0, []),
  (.return_, 0, 0, 0, 0, [])]
/-- GrassCellsModel.crossesNone(I)Z -/
def qc_Md_crossesNone : List qI := [(.iconst 0, 0, 0, 0, 0, []),
  (.istore_n 2, 0, 0, 0, 0, []),
  (.iload_n 2, 0, 0, 0, 0, []),
  (.sipush 256, 0, 0, 0, 256, []),
  (.if_icmp .ge 29, 19, 0, 0, 0, []),
  (.aload_n 0, 0, 0, 0, 0, []),
  (.getfield 39, 11, 15, 2, 0, []),
  (.iload_n 2, 0, 0, 0, 0, []),
  (.baload, 0, 0, 0, 0, []),
  (.ifCond .eq 14, 17, 0, 0, 0, []),
  (.aload_n 0, 0, 0, 0, 0, []),
  (.iload_n 1, 0, 0, 0, 0, []),
  (.iload_n 2, 0, 0, 0, 0, []),
  (.invokevirtual 280, 179, 3, 12, 0, []),
  (.ifCond .eq 5, 17, 0, 0, 0, []),
  (.iconst 0, 0, 0, 0, 0, []),
  (.ireturn, 1, 0, 0, 0, []),
  (.iinc 2 1, 0, 0, 0, 0, []),
  (.goto (-30), 2, 0, 0, 0, []),
  (.iconst 1, 0, 0, 0, 1, []),
  (.ireturn, 1, 0, 0, 0, [])]
/-- GrassCellsModel.doCross(II)Z -/
def qc_Md_doCross : List qI := [(.iconst 0, 0, 0, 0, 0, []),
  (.istore_n 3, 0, 0, 0, 0, []),
  (.iconst 0, 0, 0, 0, 0, []),
  (.istore 4, 0, 0, 0, 0, []),
  (.iconst 0, 0, 0, 0, 0, []),
  (.istore 5, 0, 0, 0, 0, []),
  (.iconst 1, 0, 0, 0, 1, []),
  (.istore 6, 0, 0, 0, 0, []),
  (.iload 6, 0, 0, 0, 0, []),
  (.aload_n 0, 0, 0, 0, 0, []),
  (.getfield 177, 11, 10, 0, 0, []),
  (.if_icmp .gt 90, 53, 0, 0, 0, []),
  (.iload_n 1, 0, 0, 0, 0, []),
  (.iload 6, 0, 0, 0, 0, []),
  (.invokestatic 128, 152, 2, 0, 0, []),
  (.iload_n 2, 0, 0, 0, 0, []),
  (.iload 6, 0, 0, 0, 0, []),
  (.invokestatic 128, 152, 2, 0, 0, []),
  (.if_icmp .ne 7, 21, 0, 0, 0, []),
  (.iconst 0, 0, 0, 0, 0, []),
  (.goto 17, 28, 0, 0, 0, []),
  (.iload_n 1, 0, 0, 0, 0, []),
  (.iload 6, 0, 0, 0, 0, []),
  (.invokestatic 128, 152, 2, 0, 0, []),
  (.ifCond .eq 7, 27, 0, 0, 0, []),
  (.iconst 1, 0, 0, 0, 1, []),
  (.goto 4, 28, 0, 0, 0, []),
  (.iconst 2, 0, 0, 0, 2, []),
  (.istore 7, 0, 0, 0, 0, []),
  (.iload 7, 0, 0, 0, 0, []),
  (.ifCond .ne 6, 32, 0, 0, 0, []),
  (.goto 41, 51, 0, 0, 0, []),
  (.iload_n 3, 0, 0, 0, 0, []),
  (.iload 5, 0, 0, 0, 0, []),
  (.ifCond .eq 14, 40, 0, 0, 0, []),
  (.iload 7, 0, 0, 0, 0, []),
  (.iload 5, 0, 0, 0, 0, []),
  (.if_icmp .eq 7, 40, 0, 0, 0, []),
  (.iconst 1, 0, 0, 0, 1, []),
  (.goto 4, 41, 0, 0, 0, []),
  (.iconst 0, 0, 0, 0, 0, []),
  (.iadd, 0, 0, 0, 0, []),
  (.istore_n 3, 0, 0, 0, 0, []),
  (.iload 4, 0, 0, 0, 0, []),
  (.ifCond .ne 8, 47, 0, 0, 0, []),
  (.iload 7, 0, 0, 0, 0, []),
  (.goto 5, 48, 0, 0, 0, []),
  (.iload 4, 0, 0, 0, 0, []),
  (.istore 4, 0, 0, 0, 0, []),
  (.iload 7, 0, 0, 0, 0, []),
  (.istore 5, 0, 0, 0, 0, []),
  (.iinc 6 1, 0, 0, 0, 0, []),
  (.goto (-93), 8, 0, 0, 0, []),
  (.iload_n 3, 0, 0, 0, 0, []),
  (.iload 5, 0, 0, 0, 0, []),
  (.iload 4, 0, 0, 0, 0, []),
  (.if_icmp .eq 7, 59, 0, 0, 0, []),
  (.iconst 1, 0, 0, 0, 1, []),
  (.goto 4, 60, 0, 0, 0, []),
  (.iconst 0, 0, 0, 0, 0, []),
  (.iadd, 0, 0, 0, 0, []),
  (.istore_n 3, 0, 0, 0, 0, []),
  (.iload_n 3, 0, 0, 0, 0, []),
  (.iconst 4, 0, 0, 0, 4, []),
  (.if_icmp .lt 7, 67, 0, 0, 0, []),
  (.iconst 1, 0, 0, 0, 1, []),
  (.goto 4, 68, 0, 0, 0, []),
  (.iconst 0, 0, 0, 0, 0, []),
  (.ireturn, 1, 0, 0, 0, [])]
/-- GrassCellsModel.f(I)I -/
def qc_Md_f : List qI := [(.aload_n 0, 0, 0, 0, 0, []),
  (.iload_n 1, 0, 0, 0, 0, []),
  (.invokevirtual 225, 181, 2, 12, 0, []),
  (.ifCond .eq 12, 9, 0, 0, 0, []),
  (.aload_n 0, 0, 0, 0, 0, []),
  (.getfield 29, 11, 11, 2, 0, []),
  (.iload_n 1, 0, 0, 0, 0, []),
  (.iaload, 0, 0, 0, 0, []),
  (.goto 4, 10, 0, 0, 0, []),
  (.iconst (-1), 0, 0, 0, (-1), []),
  (.ireturn, 0, 0, 0, 0, [])]
/-- GrassCellsModel.isLabel(I)Z -/
def qc_Md_isLabel : List qI := [(.iload_n 1, 0, 0, 0, 0, []),
  (.iconst 1, 0, 0, 0, 1, []),
  (.if_icmp .lt 15, 9, 0, 0, 0, []),
  (.iload_n 1, 0, 0, 0, 0, []),
  (.aload_n 0, 0, 0, 0, 0, []),
  (.getfield 177, 11, 10, 0, 0, []),
  (.if_icmp .gt 7, 9, 0, 0, 0, []),
  (.iconst 1, 0, 0, 0, 1, []),
  (.goto 4, 10, 0, 0, 0, []),
  (.iconst 0, 0, 0, 0, 0, []),
  (.ireturn, 1, 0, 0, 0, [])]
/-- GrassCellsModel.neck(I)I -/
def qc_Md_neck : List qI := [(.aload_n 0, 0, 0, 0, 0, []),
  (.iload_n 1, 0, 0, 0, 0, []),
  (.invokevirtual 225, 181, 2, 12, 0, []),
  (.ifCond .eq 12, 9, 0, 0, 0, []),
  (.aload_n 0, 0, 0, 0, 0, []),
  (.getfield 32, 11, 13, 2, 0, []),
  (.iload_n 1, 0, 0, 0, 0, []),
  (.iaload, 0, 0, 0, 0, []),
  (.goto 4, 10, 0, 0, 0, []),
  (.iconst (-1), 0, 0, 0, (-1), []),
  (.ireturn, 0, 0, 0, 0, [])]
/-- GrassCellsModel.box(II)I -/
def qc_Md_box : List qI := [(.aload_n 0, 0, 0, 0, 0, []),
  (.iload_n 1, 0, 0, 0, 0, []),
  (.invokevirtual 225, 181, 2, 12, 0, []),
  (.ifCond .eq 11, 8, 0, 0, 0, []),
  (.aload_n 0, 0, 0, 0, 0, []),
  (.iload_n 2, 0, 0, 0, 0, []),
  (.invokevirtual 225, 181, 2, 12, 0, []),
  (.ifCond .ne 5, 10, 0, 0, 0, []),
  (.iconst (-1), 0, 0, 0, (-1), []),
  (.ireturn, 0, 0, 0, 0, []),
  (.aload_n 0, 0, 0, 0, 0, []),
  (.iload_n 1, 0, 0, 0, 0, []),
  (.iload_n 2, 0, 0, 0, 0, []),
  (.invokevirtual 149, 153, 3, 12, 0, []),
  (.ifCond .eq 19, 26, 0, 0, 0, []),
  (.aload_n 0, 0, 0, 0, 0, []),
  (.getfield 26, 11, 9, 2, 0, []),
  (.bipush 9, 0, 0, 0, 9, []),
  (.iload_n 1, 0, 0, 0, 0, []),
  (.imul, 0, 0, 0, 0, []),
  (.iload_n 2, 0, 0, 0, 0, []),
  (.iadd, 0, 0, 0, 0, []),
  (.iaload, 0, 0, 0, 0, []),
  (.iconst 1, 0, 0, 0, 1, []),
  (.isub, 0, 0, 0, 0, []),
  (.goto 5, 27, 0, 0, 0, []),
  (.bipush (-2), 0, 0, 0, (-2), []),
  (.ireturn, 0, 0, 0, 0, [])]
/-- GrassCellsModel.bases()I -/
def qc_Md_bases : List qI := [(.aload_n 0, 0, 0, 0, 0, []),
  (.invokevirtual 228, 185, 1, 12, 0, []),
  (.ifCond .ne 5, 5, 0, 0, 0, []),
  (.iconst (-1), 0, 0, 0, (-1), []),
  (.ireturn, 0, 0, 0, 0, []),
  (.iconst 0, 0, 0, 0, 0, []),
  (.istore_n 1, 0, 0, 0, 0, []),
  (.iconst 0, 0, 0, 0, 0, []),
  (.istore_n 2, 0, 0, 0, 0, []),
  (.iload_n 2, 0, 0, 0, 0, []),
  (.sipush 256, 0, 0, 0, 256, []),
  (.if_icmp .ge 26, 25, 0, 0, 0, []),
  (.iload_n 1, 0, 0, 0, 0, []),
  (.aload_n 0, 0, 0, 0, 0, []),
  (.getfield 35, 11, 14, 2, 0, []),
  (.iload_n 2, 0, 0, 0, 0, []),
  (.baload, 0, 0, 0, 0, []),
  (.ifCond .eq 7, 20, 0, 0, 0, []),
  (.iconst 1, 0, 0, 0, 1, []),
  (.goto 4, 21, 0, 0, 0, []),
  (.iconst 0, 0, 0, 0, 0, []),
  (.iadd, 0, 0, 0, 0, []),
  (.istore_n 1, 0, 0, 0, 0, []),
  (.iinc 2 1, 0, 0, 0, 0, []),
  (.goto (-27), 9, 0, 0, 0, []),
  (.iload_n 1, 0, 0, 0, 0, []),
  (.ireturn, 0, 0, 0, 0, [])]
/-- GrassCellsModel.isCell()Z -/
def qc_Md_isCell : List qI := [(.aload_n 0, 0, 0, 0, 0, []),
  (.getfield 177, 11, 10, 0, 0, []),
  (.ifCond .le 7, 5, 0, 0, 0, []),
  (.iconst 1, 0, 0, 0, 1, []),
  (.goto 4, 6, 0, 0, 0, []),
  (.iconst 0, 0, 0, 0, 0, []),
  (.ireturn, 1, 0, 0, 0, [])]
/-- GrassCellsModel.basis(I)I -/
def qc_Md_basis : List qI := [(.aload_n 0, 0, 0, 0, 0, []),
  (.invokevirtual 228, 185, 1, 12, 0, []),
  (.ifCond .eq 18, 10, 0, 0, 0, []),
  (.iload_n 1, 0, 0, 0, 0, []),
  (.ifCond .lt 14, 10, 0, 0, 0, []),
  (.aload_n 0, 0, 0, 0, 0, []),
  (.getfield 35, 11, 14, 2, 0, []),
  (.iload_n 1, 0, 0, 0, 0, []),
  (.invokestatic 231, 187, 2, 0, 0, []),
  (.goto 4, 11, 0, 0, 0, []),
  (.iconst (-1), 0, 0, 0, (-1), []),
  (.ireturn, 0, 0, 0, 0, [])]
/-- GrassCellsModel.kthOf([ZI)I -/
def qc_Md_kthOf : List qI := [(.iconst 0, 0, 0, 0, 0, []),
  (.istore_n 2, 0, 0, 0, 0, []),
  (.iconst 0, 0, 0, 0, 0, []),
  (.istore_n 3, 0, 0, 0, 0, []),
  (.iload_n 3, 0, 0, 0, 0, []),
  (.sipush 256, 0, 0, 0, 256, []),
  (.if_icmp .ge 28, 20, 0, 0, 0, []),
  (.aload_n 0, 0, 0, 0, 0, []),
  (.iload_n 3, 0, 0, 0, 0, []),
  (.baload, 0, 0, 0, 0, []),
  (.ifCond .ne 6, 12, 0, 0, 0, []),
  (.goto 13, 18, 0, 0, 0, []),
  (.iload_n 2, 0, 0, 0, 0, []),
  (.iload_n 1, 0, 0, 0, 0, []),
  (.if_icmp .ne 5, 17, 0, 0, 0, []),
  (.iload_n 3, 0, 0, 0, 0, []),
  (.ireturn, 0, 0, 0, 0, []),
  (.iinc 2 1, 0, 0, 0, 0, []),
  (.iinc 3 1, 0, 0, 0, 0, []),
  (.goto (-29), 4, 0, 0, 0, []),
  (.iload_n 1, 0, 0, 0, 0, []),
  (.iconst (-1), 0, 0, 0, (-1), []),
  (.if_icmp .ne 7, 25, 0, 0, 0, []),
  (.iload_n 2, 0, 0, 0, 0, []),
  (.goto 5, 26, 0, 0, 0, []),
  (.bipush (-2), 0, 0, 0, (-2), []),
  (.ireturn, 0, 0, 0, 0, [])]
/-- GrassCellsModel.rank(I)I -/
def qc_Md_rank : List qI := [(.aload_n 0, 0, 0, 0, 0, []),
  (.invokevirtual 228, 185, 1, 12, 0, []),
  (.ifCond .eq 21, 15, 0, 0, 0, []),
  (.iload_n 1, 0, 0, 0, 0, []),
  (.i2l, 0, 0, 0, 0, []),
  (.lconst 0, 0, 0, 0, 0, []),
  (.iconst 1, 0, 0, 0, 1, []),
  (.aload_n 0, 0, 0, 0, 0, []),
  (.getfield 177, 11, 10, 0, 0, []),
  (.ishl, 0, 0, 0, 0, []),
  (.iconst 1, 0, 0, 0, 1, []),
  (.isub, 0, 0, 0, 0, []),
  (.i2l, 0, 0, 0, 0, []),
  (.invokestatic 80, 138, 3, 0, 0, []),
  (.ifCond .ne 5, 17, 0, 0, 0, []),
  (.iconst (-1), 0, 0, 0, (-1), []),
  (.ireturn, 0, 0, 0, 0, []),
  (.iconst 0, 0, 0, 0, 0, []),
  (.istore_n 2, 0, 0, 0, 0, []),
  (.iconst 0, 0, 0, 0, 0, []),
  (.istore_n 3, 0, 0, 0, 0, []),
  (.iload_n 3, 0, 0, 0, 0, []),
  (.sipush 256, 0, 0, 0, 256, []),
  (.if_icmp .ge 35, 42, 0, 0, 0, []),
  (.aload_n 0, 0, 0, 0, 0, []),
  (.getfield 35, 11, 14, 2, 0, []),
  (.iload_n 3, 0, 0, 0, 0, []),
  (.baload, 0, 0, 0, 0, []),
  (.ifCond .eq 20, 40, 0, 0, 0, []),
  (.iload_n 3, 0, 0, 0, 0, []),
  (.iload_n 1, 0, 0, 0, 0, []),
  (.iand, 0, 0, 0, 0, []),
  (.invokestatic 138, 164, 1, 0, 0, []),
  (.iload_n 2, 0, 0, 0, 0, []),
  (.if_icmp .le 10, 40, 0, 0, 0, []),
  (.iload_n 3, 0, 0, 0, 0, []),
  (.iload_n 1, 0, 0, 0, 0, []),
  (.iand, 0, 0, 0, 0, []),
  (.invokestatic 138, 164, 1, 0, 0, []),
  (.istore_n 2, 0, 0, 0, 0, []),
  (.iinc 3 1, 0, 0, 0, 0, []),
  (.goto (-36), 21, 0, 0, 0, []),
  (.iload_n 2, 0, 0, 0, 0, []),
  (.ireturn, 0, 0, 0, 0, [])]
/-- GrassCellsModel.exchange(III)I -/
def qc_Md_exchange : List qI := [(.aload_n 0, 0, 0, 0, 0, []),
  (.iload_n 1, 0, 0, 0, 0, []),
  (.invokevirtual 237, 190, 2, 12, 0, []),
  (.ifCond .eq 35, 20, 0, 0, 0, []),
  (.aload_n 0, 0, 0, 0, 0, []),
  (.iload_n 2, 0, 0, 0, 0, []),
  (.invokevirtual 237, 190, 2, 12, 0, []),
  (.ifCond .eq 27, 20, 0, 0, 0, []),
  (.aload_n 0, 0, 0, 0, 0, []),
  (.iload_n 3, 0, 0, 0, 0, []),
  (.invokevirtual 225, 181, 2, 12, 0, []),
  (.ifCond .eq 19, 20, 0, 0, 0, []),
  (.iload_n 1, 0, 0, 0, 0, []),
  (.iload_n 3, 0, 0, 0, 0, []),
  (.invokestatic 128, 152, 2, 0, 0, []),
  (.ifCond .eq 11, 20, 0, 0, 0, []),
  (.iload_n 2, 0, 0, 0, 0, []),
  (.iload_n 3, 0, 0, 0, 0, []),
  (.invokestatic 128, 152, 2, 0, 0, []),
  (.ifCond .eq 5, 22, 0, 0, 0, []),
  (.iconst (-1), 0, 0, 0, (-1), []),
  (.ireturn, 0, 0, 0, 0, []),
  (.iconst 1, 0, 0, 0, 1, []),
  (.istore 4, 0, 0, 0, 0, []),
  (.iload 4, 0, 0, 0, 0, []),
  (.aload_n 0, 0, 0, 0, 0, []),
  (.getfield 177, 11, 10, 0, 0, []),
  (.if_icmp .gt 48, 49, 0, 0, 0, []),
  (.iload_n 2, 0, 0, 0, 0, []),
  (.iload 4, 0, 0, 0, 0, []),
  (.invokestatic 128, 152, 2, 0, 0, []),
  (.ifCond .eq 33, 47, 0, 0, 0, []),
  (.iload_n 1, 0, 0, 0, 0, []),
  (.iload 4, 0, 0, 0, 0, []),
  (.invokestatic 128, 152, 2, 0, 0, []),
  (.ifCond .ne 24, 47, 0, 0, 0, []),
  (.aload_n 0, 0, 0, 0, 0, []),
  (.getfield 35, 11, 14, 2, 0, []),
  (.iload_n 1, 0, 0, 0, 0, []),
  (.iload_n 3, 0, 0, 0, 0, []),
  (.invokestatic 135, 163, 2, 0, 0, []),
  (.iload 4, 0, 0, 0, 0, []),
  (.invokestatic 117, 150, 2, 0, 0, []),
  (.baload, 0, 0, 0, 0, []),
  (.ifCond .eq 6, 47, 0, 0, 0, []),
  (.iload 4, 0, 0, 0, 0, []),
  (.ireturn, 0, 0, 0, 0, []),
  (.iinc 4 1, 0, 0, 0, 0, []),
  (.goto (-51), 24, 0, 0, 0, []),
  (.bipush (-2), 0, 0, 0, (-2), []),
  (.ireturn, 0, 0, 0, 0, [])]
/-- GrassCellsModel.isBasisHere(I)Z -/
def qc_Md_isBasisHere : List qI := [(.aload_n 0, 0, 0, 0, 0, []),
  (.invokevirtual 228, 185, 1, 12, 0, []),
  (.ifCond .eq 28, 16, 0, 0, 0, []),
  (.iload_n 1, 0, 0, 0, 0, []),
  (.i2l, 0, 0, 0, 0, []),
  (.lconst 0, 0, 0, 0, 0, []),
  (.ldc2_w 235, 0, 0, 0, 255, []),
  (.invokestatic 80, 138, 3, 0, 0, []),
  (.ifCond .eq 16, 16, 0, 0, 0, []),
  (.aload_n 0, 0, 0, 0, 0, []),
  (.getfield 35, 11, 14, 2, 0, []),
  (.iload_n 1, 0, 0, 0, 0, []),
  (.baload, 0, 0, 0, 0, []),
  (.ifCond .eq 7, 16, 0, 0, 0, []),
  (.iconst 1, 0, 0, 0, 1, []),
  (.goto 4, 17, 0, 0, 0, []),
  (.iconst 0, 0, 0, 0, 0, []),
  (.ireturn, 1, 0, 0, 0, [])]
/-- GrassCellsModel.part(I)I -/
def qc_Md_part : List qI := [(.aload_n 0, 0, 0, 0, 0, []),
  (.iload_n 1, 0, 0, 0, 0, []),
  (.invokevirtual 225, 181, 2, 12, 0, []),
  (.ifCond .ne 5, 6, 0, 0, 0, []),
  (.iconst (-1), 0, 0, 0, (-1), []),
  (.ireturn, 0, 0, 0, 0, []),
  (.aload_n 0, 0, 0, 0, 0, []),
  (.invokevirtual 243, 192, 1, 12, 0, []),
  (.aload_n 0, 0, 0, 0, 0, []),
  (.getfield 42, 11, 16, 2, 0, []),
  (.iload_n 1, 0, 0, 0, 0, []),
  (.iaload, 0, 0, 0, 0, []),
  (.ireturn, 0, 0, 0, 0, [])]
/-- GrassCellsModel.laysParts()V -/
def qc_Md_laysParts : List qI := [(.iconst 1, 0, 0, 0, 1, []),
  (.istore_n 1, 0, 0, 0, 0, []),
  (.iload_n 1, 0, 0, 0, 0, []),
  (.aload_n 0, 0, 0, 0, 0, []),
  (.getfield 177, 11, 10, 0, 0, []),
  (.if_icmp .gt 16, 13, 0, 0, 0, []),
  (.aload_n 0, 0, 0, 0, 0, []),
  (.getfield 42, 11, 16, 2, 0, []),
  (.iload_n 1, 0, 0, 0, 0, []),
  (.iload_n 1, 0, 0, 0, 0, []),
  (.iastore, 0, 0, 0, 0, []),
  (.iinc 1 1, 0, 0, 0, 0, []),
  (.goto (-18), 2, 0, 0, 0, []),
  (.iconst 1, 0, 0, 0, 1, []),
  (.istore_n 1, 0, 0, 0, 0, []),
  (.iload_n 1, 0, 0, 0, 0, []),
  (.aload_n 0, 0, 0, 0, 0, []),
  (.getfield 177, 11, 10, 0, 0, []),
  (.if_icmp .gt 129, 86, 0, 0, 0, []),
  (.iload_n 1, 0, 0, 0, 0, []),
  (.iconst 1, 0, 0, 0, 1, []),
  (.iadd, 0, 0, 0, 0, []),
  (.istore_n 2, 0, 0, 0, 0, []),
  (.iload_n 2, 0, 0, 0, 0, []),
  (.aload_n 0, 0, 0, 0, 0, []),
  (.getfield 177, 11, 10, 0, 0, []),
  (.if_icmp .gt 111, 84, 0, 0, 0, []),
  (.aload_n 0, 0, 0, 0, 0, []),
  (.getfield 42, 11, 16, 2, 0, []),
  (.iload_n 1, 0, 0, 0, 0, []),
  (.iaload, 0, 0, 0, 0, []),
  (.aload_n 0, 0, 0, 0, 0, []),
  (.getfield 42, 11, 16, 2, 0, []),
  (.iload_n 2, 0, 0, 0, 0, []),
  (.iaload, 0, 0, 0, 0, []),
  (.if_icmp .eq 90, 82, 0, 0, 0, []),
  (.aload_n 0, 0, 0, 0, 0, []),
  (.iload_n 1, 0, 0, 0, 0, []),
  (.iload_n 2, 0, 0, 0, 0, []),
  (.invokevirtual 240, 193, 3, 12, 0, []),
  (.ifCond .ne 6, 42, 0, 0, 0, []),
  (.goto 78, 82, 0, 0, 0, []),
  (.aload_n 0, 0, 0, 0, 0, []),
  (.getfield 42, 11, 16, 2, 0, []),
  (.iload_n 1, 0, 0, 0, 0, []),
  (.iaload, 0, 0, 0, 0, []),
  (.istore_n 3, 0, 0, 0, 0, []),
  (.aload_n 0, 0, 0, 0, 0, []),
  (.getfield 42, 11, 16, 2, 0, []),
  (.iload_n 2, 0, 0, 0, 0, []),
  (.iaload, 0, 0, 0, 0, []),
  (.istore 4, 0, 0, 0, 0, []),
  (.iconst 1, 0, 0, 0, 1, []),
  (.istore 5, 0, 0, 0, 0, []),
  (.iload 5, 0, 0, 0, 0, []),
  (.aload_n 0, 0, 0, 0, 0, []),
  (.getfield 177, 11, 10, 0, 0, []),
  (.if_icmp .gt 51, 82, 0, 0, 0, []),
  (.aload_n 0, 0, 0, 0, 0, []),
  (.getfield 42, 11, 16, 2, 0, []),
  (.iload 5, 0, 0, 0, 0, []),
  (.iaload, 0, 0, 0, 0, []),
  (.iload_n 3, 0, 0, 0, 0, []),
  (.if_icmp .eq 15, 70, 0, 0, 0, []),
  (.aload_n 0, 0, 0, 0, 0, []),
  (.getfield 42, 11, 16, 2, 0, []),
  (.iload 5, 0, 0, 0, 0, []),
  (.iaload, 0, 0, 0, 0, []),
  (.iload 4, 0, 0, 0, 0, []),
  (.if_icmp .ne 22, 80, 0, 0, 0, []),
  (.aload_n 0, 0, 0, 0, 0, []),
  (.getfield 42, 11, 16, 2, 0, []),
  (.iload 5, 0, 0, 0, 0, []),
  (.iload_n 3, 0, 0, 0, 0, []),
  (.iload 4, 0, 0, 0, 0, []),
  (.if_icmp .ge 7, 78, 0, 0, 0, []),
  (.iload_n 3, 0, 0, 0, 0, []),
  (.goto 5, 79, 0, 0, 0, []),
  (.iload 4, 0, 0, 0, 0, []),
  (.iastore, 0, 0, 0, 0, []),
  (.iinc 5 1, 0, 0, 0, 0, []),
  (.goto (-54), 54, 0, 0, 0, []),
  (.iinc 2 1, 0, 0, 0, 0, []),
  (.goto (-113), 23, 0, 0, 0, []),
  (.iinc 1 1, 0, 0, 0, 0, []),
  (.goto (-131), 15, 0, 0, 0, []),
  (.return_, 0, 0, 0, 0, [])]
/-- GrassCellsModel.hang(II)Z -/
def qc_Md_hang : List qI := [(.iconst 0, 0, 0, 0, 0, []),
  (.istore_n 3, 0, 0, 0, 0, []),
  (.iload_n 3, 0, 0, 0, 0, []),
  (.sipush 256, 0, 0, 0, 256, []),
  (.if_icmp .ge 74, 43, 0, 0, 0, []),
  (.aload_n 0, 0, 0, 0, 0, []),
  (.getfield 35, 11, 14, 2, 0, []),
  (.iload_n 3, 0, 0, 0, 0, []),
  (.baload, 0, 0, 0, 0, []),
  (.ifCond .eq 59, 41, 0, 0, 0, []),
  (.iload_n 3, 0, 0, 0, 0, []),
  (.iload_n 1, 0, 0, 0, 0, []),
  (.invokestatic 128, 152, 2, 0, 0, []),
  (.iload_n 3, 0, 0, 0, 0, []),
  (.iload_n 2, 0, 0, 0, 0, []),
  (.invokestatic 128, 152, 2, 0, 0, []),
  (.if_icmp .ne 6, 18, 0, 0, 0, []),
  (.goto 43, 41, 0, 0, 0, []),
  (.iload_n 3, 0, 0, 0, 0, []),
  (.iload_n 1, 0, 0, 0, 0, []),
  (.invokestatic 128, 152, 2, 0, 0, []),
  (.ifCond .eq 7, 24, 0, 0, 0, []),
  (.iload_n 1, 0, 0, 0, 0, []),
  (.goto 4, 25, 0, 0, 0, []),
  (.iload_n 2, 0, 0, 0, 0, []),
  (.istore 4, 0, 0, 0, 0, []),
  (.aload_n 0, 0, 0, 0, 0, []),
  (.getfield 35, 11, 14, 2, 0, []),
  (.iload_n 3, 0, 0, 0, 0, []),
  (.iload 4, 0, 0, 0, 0, []),
  (.invokestatic 135, 163, 2, 0, 0, []),
  (.iload_n 1, 0, 0, 0, 0, []),
  (.iload_n 2, 0, 0, 0, 0, []),
  (.iadd, 0, 0, 0, 0, []),
  (.iload 4, 0, 0, 0, 0, []),
  (.isub, 0, 0, 0, 0, []),
  (.invokestatic 117, 150, 2, 0, 0, []),
  (.baload, 0, 0, 0, 0, []),
  (.ifCond .eq 5, 41, 0, 0, 0, []),
  (.iconst 1, 0, 0, 0, 1, []),
  (.ireturn, 1, 0, 0, 0, []),
  (.iinc 3 1, 0, 0, 0, 0, []),
  (.goto (-75), 2, 0, 0, 0, []),
  (.iconst 0, 0, 0, 0, 0, []),
  (.ireturn, 1, 0, 0, 0, [])]
/-- GrassCellsModel.ways(I)J -/
def qc_Md_ways : List qI := [(.aload_n 0, 0, 0, 0, 0, []),
  (.iload_n 1, 0, 0, 0, 0, []),
  (.invokevirtual 252, 195, 2, 12, 0, []),
  (.ifCond .ne 7, 6, 0, 0, 0, []),
  (.ldc2_w 255, 0, 0, 0, (-1), []),
  (.lreturn, 0, 0, 0, 0, []),
  (.aload_n 0, 0, 0, 0, 0, []),
  (.getfield 32, 11, 13, 2, 0, []),
  (.iconst 1, 0, 0, 0, 1, []),
  (.iaload, 0, 0, 0, 0, []),
  (.iload_n 1, 0, 0, 0, 0, []),
  (.iconst (-1), 0, 0, 0, (-1), []),
  (.ixor, 0, 0, 0, 0, []),
  (.iand, 0, 0, 0, 0, []),
  (.istore_n 2, 0, 0, 0, 0, []),
  (.iload_n 1, 0, 0, 0, 0, []),
  (.aload_n 0, 0, 0, 0, 0, []),
  (.getfield 32, 11, 13, 2, 0, []),
  (.iconst 1, 0, 0, 0, 1, []),
  (.iaload, 0, 0, 0, 0, []),
  (.iconst (-1), 0, 0, 0, (-1), []),
  (.ixor, 0, 0, 0, 0, []),
  (.iand, 0, 0, 0, 0, []),
  (.istore_n 3, 0, 0, 0, 0, []),
  (.iload_n 2, 0, 0, 0, 0, []),
  (.invokestatic 138, 164, 1, 0, 0, []),
  (.istore 4, 0, 0, 0, 0, []),
  (.iconst 0, 0, 0, 0, 0, []),
  (.istore 5, 0, 0, 0, 0, []),
  (.iconst 1, 0, 0, 0, 1, []),
  (.istore 6, 0, 0, 0, 0, []),
  (.iload 6, 0, 0, 0, 0, []),
  (.aload_n 0, 0, 0, 0, 0, []),
  (.getfield 177, 11, 10, 0, 0, []),
  (.if_icmp .gt 84, 73, 0, 0, 0, []),
  (.iload_n 2, 0, 0, 0, 0, []),
  (.iload 6, 0, 0, 0, 0, []),
  (.invokestatic 128, 152, 2, 0, 0, []),
  (.ifCond .ne 6, 40, 0, 0, 0, []),
  (.goto 66, 71, 0, 0, 0, []),
  (.aload_n 0, 0, 0, 0, 0, []),
  (.iload 6, 0, 0, 0, 0, []),
  (.invokevirtual 257, 196, 2, 12, 0, []),
  (.iconst 0, 0, 0, 0, 0, []),
  (.istore 7, 0, 0, 0, 0, []),
  (.iconst 1, 0, 0, 0, 1, []),
  (.istore 8, 0, 0, 0, 0, []),
  (.iload 8, 0, 0, 0, 0, []),
  (.aload_n 0, 0, 0, 0, 0, []),
  (.getfield 177, 11, 10, 0, 0, []),
  (.if_icmp .gt 42, 70, 0, 0, 0, []),
  (.iload_n 3, 0, 0, 0, 0, []),
  (.iload 8, 0, 0, 0, 0, []),
  (.invokestatic 128, 152, 2, 0, 0, []),
  (.ifCond .ne 6, 56, 0, 0, 0, []),
  (.goto 24, 68, 0, 0, 0, []),
  (.aload_n 0, 0, 0, 0, 0, []),
  (.getfield 49, 11, 18, 2, 0, []),
  (.iconst 4, 0, 0, 0, 4, []),
  (.iload 5, 0, 0, 0, 0, []),
  (.imul, 0, 0, 0, 0, []),
  (.iload 7, 0, 0, 0, 0, []),
  (.iadd, 0, 0, 0, 0, []),
  (.aload_n 0, 0, 0, 0, 0, []),
  (.iload 8, 0, 0, 0, 0, []),
  (.invokevirtual 261, 199, 2, 12, 0, []),
  (.lastore, 0, 0, 0, 0, []),
  (.iinc 7 1, 0, 0, 0, 0, []),
  (.iinc 8 1, 0, 0, 0, 0, []),
  (.goto (-45), 47, 0, 0, 0, []),
  (.iinc 5 1, 0, 0, 0, 0, []),
  (.iinc 6 1, 0, 0, 0, 0, []),
  (.goto (-87), 31, 0, 0, 0, []),
  (.aload_n 0, 0, 0, 0, 0, []),
  (.iload 4, 0, 0, 0, 0, []),
  (.invokevirtual 265, 200, 2, 12, 0, []),
  (.lstore 6, 0, 0, 0, 0, []),
  (.lload 6, 0, 0, 0, 0, []),
  (.lconst 0, 0, 0, 0, 0, []),
  (.lcmp, 0, 0, 0, 0, []),
  (.ifCond .ge 9, 84, 0, 0, 0, []),
  (.lload 6, 0, 0, 0, 0, []),
  (.lneg, 0, 0, 0, 0, []),
  (.goto 5, 85, 0, 0, 0, []),
  (.lload 6, 0, 0, 0, 0, []),
  (.lreturn, 0, 0, 0, 0, [])]
/-- GrassCellsModel.isSet(I)Z -/
def qc_Md_isSet : List qI := [(.aload_n 0, 0, 0, 0, 0, []),
  (.invokevirtual 228, 185, 1, 12, 0, []),
  (.ifCond .eq 36, 22, 0, 0, 0, []),
  (.iload_n 1, 0, 0, 0, 0, []),
  (.i2l, 0, 0, 0, 0, []),
  (.lconst 0, 0, 0, 0, 0, []),
  (.iconst 1, 0, 0, 0, 1, []),
  (.aload_n 0, 0, 0, 0, 0, []),
  (.getfield 177, 11, 10, 0, 0, []),
  (.ishl, 0, 0, 0, 0, []),
  (.iconst 1, 0, 0, 0, 1, []),
  (.isub, 0, 0, 0, 0, []),
  (.i2l, 0, 0, 0, 0, []),
  (.invokestatic 80, 138, 3, 0, 0, []),
  (.ifCond .eq 18, 22, 0, 0, 0, []),
  (.iload_n 1, 0, 0, 0, 0, []),
  (.invokestatic 138, 164, 1, 0, 0, []),
  (.aload_n 0, 0, 0, 0, 0, []),
  (.getfield 210, 11, 12, 0, 0, []),
  (.if_icmp .ne 7, 22, 0, 0, 0, []),
  (.iconst 1, 0, 0, 0, 1, []),
  (.goto 4, 23, 0, 0, 0, []),
  (.iconst 0, 0, 0, 0, 0, []),
  (.ireturn, 1, 0, 0, 0, [])]
/-- GrassCellsModel.laysPaths(I)V -/
def qc_Md_laysPaths : List qI := [(.iconst 0, 0, 0, 0, 0, []),
  (.istore_n 2, 0, 0, 0, 0, []),
  (.iload_n 2, 0, 0, 0, 0, []),
  (.bipush 81, 0, 0, 0, 81, []),
  (.if_icmp .ge 16, 12, 0, 0, 0, []),
  (.aload_n 0, 0, 0, 0, 0, []),
  (.getfield 45, 11, 17, 2, 0, []),
  (.iload_n 2, 0, 0, 0, 0, []),
  (.lconst 0, 0, 0, 0, 0, []),
  (.lastore, 0, 0, 0, 0, []),
  (.iinc 2 1, 0, 0, 0, 0, []),
  (.goto (-16), 2, 0, 0, 0, []),
  (.iconst 1, 0, 0, 0, 1, []),
  (.istore_n 2, 0, 0, 0, 0, []),
  (.iload_n 2, 0, 0, 0, 0, []),
  (.aload_n 0, 0, 0, 0, 0, []),
  (.getfield 177, 11, 10, 0, 0, []),
  (.if_icmp .gt 120, 84, 0, 0, 0, []),
  (.iconst 1, 0, 0, 0, 1, []),
  (.istore_n 3, 0, 0, 0, 0, []),
  (.iload_n 3, 0, 0, 0, 0, []),
  (.aload_n 0, 0, 0, 0, 0, []),
  (.getfield 177, 11, 10, 0, 0, []),
  (.if_icmp .gt 104, 82, 0, 0, 0, []),
  (.aload_n 0, 0, 0, 0, 0, []),
  (.iload_n 2, 0, 0, 0, 0, []),
  (.iload_n 3, 0, 0, 0, 0, []),
  (.invokevirtual 159, 155, 3, 12, 0, []),
  (.ifCond .ne 6, 30, 0, 0, 0, []),
  (.goto 86, 80, 0, 0, 0, []),
  (.aload_n 0, 0, 0, 0, 0, []),
  (.iload_n 2, 0, 0, 0, 0, []),
  (.iload_n 3, 0, 0, 0, 0, []),
  (.invokevirtual 246, 197, 3, 12, 0, []),
  (.istore 4, 0, 0, 0, 0, []),
  (.aload_n 0, 0, 0, 0, 0, []),
  (.iload_n 2, 0, 0, 0, 0, []),
  (.iload_n 3, 0, 0, 0, 0, []),
  (.invokevirtual 249, 198, 3, 12, 0, []),
  (.istore 5, 0, 0, 0, 0, []),
  (.iload 4, 0, 0, 0, 0, []),
  (.ifCond .le 18, 51, 0, 0, 0, []),
  (.aload_n 0, 0, 0, 0, 0, []),
  (.getfield 45, 11, 17, 2, 0, []),
  (.bipush 9, 0, 0, 0, 9, []),
  (.iload_n 2, 0, 0, 0, 0, []),
  (.imul, 0, 0, 0, 0, []),
  (.iload 4, 0, 0, 0, 0, []),
  (.iadd, 0, 0, 0, 0, []),
  (.laload, 0, 0, 0, 0, []),
  (.goto 13, 57, 0, 0, 0, []),
  (.iload_n 2, 0, 0, 0, 0, []),
  (.iload_n 1, 0, 0, 0, 0, []),
  (.if_icmp .ne 7, 56, 0, 0, 0, []),
  (.lconst 1, 0, 0, 0, 1, []),
  (.goto 4, 57, 0, 0, 0, []),
  (.lconst 0, 0, 0, 0, 0, []),
  (.lstore 6, 0, 0, 0, 0, []),
  (.aload_n 0, 0, 0, 0, 0, []),
  (.getfield 45, 11, 17, 2, 0, []),
  (.bipush 9, 0, 0, 0, 9, []),
  (.iload_n 2, 0, 0, 0, 0, []),
  (.imul, 0, 0, 0, 0, []),
  (.iload_n 3, 0, 0, 0, 0, []),
  (.iadd, 0, 0, 0, 0, []),
  (.lload 6, 0, 0, 0, 0, []),
  (.iload 5, 0, 0, 0, 0, []),
  (.ifCond .le 18, 77, 0, 0, 0, []),
  (.aload_n 0, 0, 0, 0, 0, []),
  (.getfield 45, 11, 17, 2, 0, []),
  (.bipush 9, 0, 0, 0, 9, []),
  (.iload 5, 0, 0, 0, 0, []),
  (.imul, 0, 0, 0, 0, []),
  (.iload_n 3, 0, 0, 0, 0, []),
  (.iadd, 0, 0, 0, 0, []),
  (.laload, 0, 0, 0, 0, []),
  (.goto 4, 78, 0, 0, 0, []),
  (.lconst 0, 0, 0, 0, 0, []),
  (.ladd, 0, 0, 0, 0, []),
  (.lastore, 0, 0, 0, 0, []),
  (.iinc 3 1, 0, 0, 0, 0, []),
  (.goto (-106), 20, 0, 0, 0, []),
  (.iinc 2 1, 0, 0, 0, 0, []),
  (.goto (-122), 14, 0, 0, 0, []),
  (.return_, 0, 0, 0, 0, [])]
/-- GrassCellsModel.plusToRight(II)I -/
def qc_Md_plusToRight : List qI := [(.iload_n 2, 0, 0, 0, 0, []),
  (.iconst 1, 0, 0, 0, 1, []),
  (.isub, 0, 0, 0, 0, []),
  (.istore_n 3, 0, 0, 0, 0, []),
  (.iload_n 3, 0, 0, 0, 0, []),
  (.ifCond .le 18, 13, 0, 0, 0, []),
  (.aload_n 0, 0, 0, 0, 0, []),
  (.iload_n 1, 0, 0, 0, 0, []),
  (.iload_n 3, 0, 0, 0, 0, []),
  (.invokevirtual 159, 155, 3, 12, 0, []),
  (.ifCond .ne 9, 13, 0, 0, 0, []),
  (.iinc 3 (-1), 0, 0, 0, 0, []),
  (.goto (-16), 4, 0, 0, 0, []),
  (.iload_n 3, 0, 0, 0, 0, []),
  (.ireturn, 0, 0, 0, 0, [])]
/-- GrassCellsModel.plusAbove(II)I -/
def qc_Md_plusAbove : List qI := [(.iload_n 1, 0, 0, 0, 0, []),
  (.iconst 1, 0, 0, 0, 1, []),
  (.isub, 0, 0, 0, 0, []),
  (.istore_n 3, 0, 0, 0, 0, []),
  (.iload_n 3, 0, 0, 0, 0, []),
  (.ifCond .le 18, 13, 0, 0, 0, []),
  (.aload_n 0, 0, 0, 0, 0, []),
  (.iload_n 3, 0, 0, 0, 0, []),
  (.iload_n 2, 0, 0, 0, 0, []),
  (.invokevirtual 159, 155, 3, 12, 0, []),
  (.ifCond .ne 9, 13, 0, 0, 0, []),
  (.iinc 3 (-1), 0, 0, 0, 0, []),
  (.goto (-16), 4, 0, 0, 0, []),
  (.iload_n 3, 0, 0, 0, 0, []),
  (.ireturn, 0, 0, 0, 0, [])]
/-- GrassCellsModel.endsAt(I)J -/
def qc_Md_endsAt : List qI := [(.aload_n 0, 0, 0, 0, 0, []),
  (.getfield 177, 11, 10, 0, 0, []),
  (.istore_n 2, 0, 0, 0, 0, []),
  (.iload_n 2, 0, 0, 0, 0, []),
  (.ifCond .le 18, 12, 0, 0, 0, []),
  (.aload_n 0, 0, 0, 0, 0, []),
  (.iload_n 2, 0, 0, 0, 0, []),
  (.iload_n 1, 0, 0, 0, 0, []),
  (.invokevirtual 159, 155, 3, 12, 0, []),
  (.ifCond .ne 9, 12, 0, 0, 0, []),
  (.iinc 2 (-1), 0, 0, 0, 0, []),
  (.goto (-16), 3, 0, 0, 0, []),
  (.iload_n 2, 0, 0, 0, 0, []),
  (.ifCond .ne 7, 16, 0, 0, 0, []),
  (.lconst 0, 0, 0, 0, 0, []),
  (.goto 14, 24, 0, 0, 0, []),
  (.aload_n 0, 0, 0, 0, 0, []),
  (.getfield 45, 11, 17, 2, 0, []),
  (.bipush 9, 0, 0, 0, 9, []),
  (.iload_n 2, 0, 0, 0, 0, []),
  (.imul, 0, 0, 0, 0, []),
  (.iload_n 1, 0, 0, 0, 0, []),
  (.iadd, 0, 0, 0, 0, []),
  (.laload, 0, 0, 0, 0, []),
  (.lreturn, 0, 0, 0, 0, [])]
/-- GrassCellsModel.determinant(I)J -/
def qc_Md_determinant : List qI := [(.iload_n 1, 0, 0, 0, 0, []),
  (.tableswitch 57 0 3 #[31, 33, 40, 49], 22, 0, 0, 0, [(0, 2), (1, 4), (2, 9), (3, 16)]),
  (.lconst 1, 0, 0, 0, 1, []),
  (.lreturn, 0, 0, 0, 0, []),
  (.aload_n 0, 0, 0, 0, 0, []),
  (.iconst 0, 0, 0, 0, 0, []),
  (.iconst 0, 0, 0, 0, 0, []),
  (.invokevirtual 268, 201, 3, 12, 0, []),
  (.lreturn, 0, 0, 0, 0, []),
  (.aload_n 0, 0, 0, 0, 0, []),
  (.iconst 0, 0, 0, 0, 0, []),
  (.iconst 1, 0, 0, 0, 1, []),
  (.iconst 0, 0, 0, 0, 0, []),
  (.iconst 1, 0, 0, 0, 1, []),
  (.invokevirtual 272, 202, 5, 12, 0, []),
  (.lreturn, 0, 0, 0, 0, []),
  (.aload_n 0, 0, 0, 0, 0, []),
  (.iconst 0, 0, 0, 0, 0, []),
  (.iconst 1, 0, 0, 0, 1, []),
  (.iconst 2, 0, 0, 0, 2, []),
  (.invokevirtual 276, 203, 4, 12, 0, []),
  (.lreturn, 0, 0, 0, 0, []),
  (.aload_n 0, 0, 0, 0, 0, []),
  (.iconst 3, 0, 0, 0, 3, []),
  (.iconst 3, 0, 0, 0, 3, []),
  (.invokevirtual 268, 201, 3, 12, 0, []),
  (.aload_n 0, 0, 0, 0, 0, []),
  (.iconst 0, 0, 0, 0, 0, []),
  (.iconst 1, 0, 0, 0, 1, []),
  (.iconst 2, 0, 0, 0, 2, []),
  (.invokevirtual 276, 203, 4, 12, 0, []),
  (.lmul, 0, 0, 0, 0, []),
  (.aload_n 0, 0, 0, 0, 0, []),
  (.iconst 3, 0, 0, 0, 3, []),
  (.iconst 2, 0, 0, 0, 2, []),
  (.invokevirtual 268, 201, 3, 12, 0, []),
  (.aload_n 0, 0, 0, 0, 0, []),
  (.iconst 0, 0, 0, 0, 0, []),
  (.iconst 1, 0, 0, 0, 1, []),
  (.iconst 3, 0, 0, 0, 3, []),
  (.invokevirtual 276, 203, 4, 12, 0, []),
  (.lmul, 0, 0, 0, 0, []),
  (.lsub, 0, 0, 0, 0, []),
  (.aload_n 0, 0, 0, 0, 0, []),
  (.iconst 3, 0, 0, 0, 3, []),
  (.iconst 1, 0, 0, 0, 1, []),
  (.invokevirtual 268, 201, 3, 12, 0, []),
  (.aload_n 0, 0, 0, 0, 0, []),
  (.iconst 0, 0, 0, 0, 0, []),
  (.iconst 2, 0, 0, 0, 2, []),
  (.iconst 3, 0, 0, 0, 3, []),
  (.invokevirtual 276, 203, 4, 12, 0, []),
  (.lmul, 0, 0, 0, 0, []),
  (.ladd, 0, 0, 0, 0, []),
  (.aload_n 0, 0, 0, 0, 0, []),
  (.iconst 3, 0, 0, 0, 3, []),
  (.iconst 0, 0, 0, 0, 0, []),
  (.invokevirtual 268, 201, 3, 12, 0, []),
  (.aload_n 0, 0, 0, 0, 0, []),
  (.iconst 1, 0, 0, 0, 1, []),
  (.iconst 2, 0, 0, 0, 2, []),
  (.iconst 3, 0, 0, 0, 3, []),
  (.invokevirtual 276, 203, 4, 12, 0, []),
  (.lmul, 0, 0, 0, 0, []),
  (.lsub, 0, 0, 0, 0, []),
  (.lreturn, 0, 0, 0, 0, [])]
/-- GrassCellsModel.of(II)J -/
def qc_Md_of : List qI := [(.aload_n 0, 0, 0, 0, 0, []),
  (.getfield 49, 11, 18, 2, 0, []),
  (.iconst 4, 0, 0, 0, 4, []),
  (.iload_n 1, 0, 0, 0, 0, []),
  (.imul, 0, 0, 0, 0, []),
  (.iload_n 2, 0, 0, 0, 0, []),
  (.iadd, 0, 0, 0, 0, []),
  (.laload, 0, 0, 0, 0, []),
  (.lreturn, 0, 0, 0, 0, [])]
/-- GrassCellsModel.two(IIII)J -/
def qc_Md_two : List qI := [(.aload_n 0, 0, 0, 0, 0, []),
  (.iload_n 1, 0, 0, 0, 0, []),
  (.iload_n 3, 0, 0, 0, 0, []),
  (.invokevirtual 268, 201, 3, 12, 0, []),
  (.aload_n 0, 0, 0, 0, 0, []),
  (.iload_n 2, 0, 0, 0, 0, []),
  (.iload 4, 0, 0, 0, 0, []),
  (.invokevirtual 268, 201, 3, 12, 0, []),
  (.lmul, 0, 0, 0, 0, []),
  (.aload_n 0, 0, 0, 0, 0, []),
  (.iload_n 1, 0, 0, 0, 0, []),
  (.iload 4, 0, 0, 0, 0, []),
  (.invokevirtual 268, 201, 3, 12, 0, []),
  (.aload_n 0, 0, 0, 0, 0, []),
  (.iload_n 2, 0, 0, 0, 0, []),
  (.iload_n 3, 0, 0, 0, 0, []),
  (.invokevirtual 268, 201, 3, 12, 0, []),
  (.lmul, 0, 0, 0, 0, []),
  (.lsub, 0, 0, 0, 0, []),
  (.lreturn, 0, 0, 0, 0, [])]
/-- GrassCellsModel.three(III)J -/
def qc_Md_three : List qI := [(.aload_n 0, 0, 0, 0, 0, []),
  (.iconst 0, 0, 0, 0, 0, []),
  (.iload_n 1, 0, 0, 0, 0, []),
  (.invokevirtual 268, 201, 3, 12, 0, []),
  (.aload_n 0, 0, 0, 0, 0, []),
  (.iconst 1, 0, 0, 0, 1, []),
  (.iconst 2, 0, 0, 0, 2, []),
  (.iload_n 2, 0, 0, 0, 0, []),
  (.iload_n 3, 0, 0, 0, 0, []),
  (.invokevirtual 272, 202, 5, 12, 0, []),
  (.lmul, 0, 0, 0, 0, []),
  (.aload_n 0, 0, 0, 0, 0, []),
  (.iconst 0, 0, 0, 0, 0, []),
  (.iload_n 2, 0, 0, 0, 0, []),
  (.invokevirtual 268, 201, 3, 12, 0, []),
  (.aload_n 0, 0, 0, 0, 0, []),
  (.iconst 1, 0, 0, 0, 1, []),
  (.iconst 2, 0, 0, 0, 2, []),
  (.iload_n 1, 0, 0, 0, 0, []),
  (.iload_n 3, 0, 0, 0, 0, []),
  (.invokevirtual 272, 202, 5, 12, 0, []),
  (.lmul, 0, 0, 0, 0, []),
  (.lsub, 0, 0, 0, 0, []),
  (.aload_n 0, 0, 0, 0, 0, []),
  (.iconst 0, 0, 0, 0, 0, []),
  (.iload_n 3, 0, 0, 0, 0, []),
  (.invokevirtual 268, 201, 3, 12, 0, []),
  (.aload_n 0, 0, 0, 0, 0, []),
  (.iconst 1, 0, 0, 0, 1, []),
  (.iconst 2, 0, 0, 0, 2, []),
  (.iload_n 1, 0, 0, 0, 0, []),
  (.iload_n 2, 0, 0, 0, 0, []),
  (.invokevirtual 272, 202, 5, 12, 0, []),
  (.lmul, 0, 0, 0, 0, []),
  (.ladd, 0, 0, 0, 0, []),
  (.lreturn, 0, 0, 0, 0, [])]
/-- GrassCellsModel.cross(II)I -/
def qc_Md_cross : List qI := [(.aload_n 0, 0, 0, 0, 0, []),
  (.iload_n 1, 0, 0, 0, 0, []),
  (.invokevirtual 252, 195, 2, 12, 0, []),
  (.ifCond .eq 28, 17, 0, 0, 0, []),
  (.aload_n 0, 0, 0, 0, 0, []),
  (.iload_n 2, 0, 0, 0, 0, []),
  (.invokevirtual 252, 195, 2, 12, 0, []),
  (.ifCond .eq 20, 17, 0, 0, 0, []),
  (.aload_n 0, 0, 0, 0, 0, []),
  (.iload_n 1, 0, 0, 0, 0, []),
  (.iload_n 2, 0, 0, 0, 0, []),
  (.invokevirtual 280, 179, 3, 12, 0, []),
  (.ifCond .eq 7, 15, 0, 0, 0, []),
  (.iconst 1, 0, 0, 0, 1, []),
  (.goto 8, 18, 0, 0, 0, []),
  (.iconst 0, 0, 0, 0, 0, []),
  (.goto 4, 18, 0, 0, 0, []),
  (.iconst (-1), 0, 0, 0, (-1), []),
  (.ireturn, 0, 0, 0, 0, [])]
/-- GrassCellsModel.cluster(I)I -/
def qc_Md_cluster : List qI := [(.aload_n 0, 0, 0, 0, 0, []),
  (.invokevirtual 228, 185, 1, 12, 0, []),
  (.ifCond .eq 19, 11, 0, 0, 0, []),
  (.iload_n 1, 0, 0, 0, 0, []),
  (.iconst (-1), 0, 0, 0, (-1), []),
  (.if_icmp .lt 14, 11, 0, 0, 0, []),
  (.aload_n 0, 0, 0, 0, 0, []),
  (.getfield 39, 11, 15, 2, 0, []),
  (.iload_n 1, 0, 0, 0, 0, []),
  (.invokestatic 231, 187, 2, 0, 0, []),
  (.goto 4, 12, 0, 0, 0, []),
  (.iconst (-1), 0, 0, 0, (-1), []),
  (.ireturn, 0, 0, 0, 0, [])]
/-- GrassCellsModel.square(I)I -/
def qc_Md_square : List qI := [(.aload_n 0, 0, 0, 0, 0, []),
  (.invokevirtual 228, 185, 1, 12, 0, []),
  (.ifCond .eq 8, 6, 0, 0, 0, []),
  (.iload_n 1, 0, 0, 0, 0, []),
  (.iconst (-1), 0, 0, 0, (-1), []),
  (.if_icmp .ge 5, 8, 0, 0, 0, []),
  (.iconst (-1), 0, 0, 0, (-1), []),
  (.ireturn, 0, 0, 0, 0, []),
  (.iconst 0, 0, 0, 0, 0, []),
  (.istore_n 2, 0, 0, 0, 0, []),
  (.iconst 0, 0, 0, 0, 0, []),
  (.istore_n 3, 0, 0, 0, 0, []),
  (.iload_n 3, 0, 0, 0, 0, []),
  (.sipush 256, 0, 0, 0, 256, []),
  (.if_icmp .ge 30, 28, 0, 0, 0, []),
  (.aload_n 0, 0, 0, 0, 0, []),
  (.iload_n 3, 0, 0, 0, 0, []),
  (.invokevirtual 295, 207, 2, 12, 0, []),
  (.ifCond .ge 6, 20, 0, 0, 0, []),
  (.goto 13, 26, 0, 0, 0, []),
  (.iload_n 2, 0, 0, 0, 0, []),
  (.iload_n 1, 0, 0, 0, 0, []),
  (.if_icmp .ne 5, 25, 0, 0, 0, []),
  (.iload_n 3, 0, 0, 0, 0, []),
  (.ireturn, 0, 0, 0, 0, []),
  (.iinc 2 1, 0, 0, 0, 0, []),
  (.iinc 3 1, 0, 0, 0, 0, []),
  (.goto (-31), 12, 0, 0, 0, []),
  (.iload_n 1, 0, 0, 0, 0, []),
  (.iconst (-1), 0, 0, 0, (-1), []),
  (.if_icmp .ne 7, 33, 0, 0, 0, []),
  (.iload_n 2, 0, 0, 0, 0, []),
  (.goto 5, 34, 0, 0, 0, []),
  (.bipush (-2), 0, 0, 0, (-2), []),
  (.ireturn, 0, 0, 0, 0, [])]
/-- GrassCellsModel.squareAt(I)I -/
def qc_Md_squareAt : List qI := [(.iload_n 1, 0, 0, 0, 0, []),
  (.i2l, 0, 0, 0, 0, []),
  (.lconst 0, 0, 0, 0, 0, []),
  (.ldc2_w 235, 0, 0, 0, 255, []),
  (.invokestatic 80, 138, 3, 0, 0, []),
  (.ifCond .eq 20, 15, 0, 0, 0, []),
  (.aload_n 0, 0, 0, 0, 0, []),
  (.getfield 39, 11, 15, 2, 0, []),
  (.iload_n 1, 0, 0, 0, 0, []),
  (.baload, 0, 0, 0, 0, []),
  (.ifCond .eq 11, 15, 0, 0, 0, []),
  (.aload_n 0, 0, 0, 0, 0, []),
  (.iload_n 1, 0, 0, 0, 0, []),
  (.invokevirtual 286, 208, 2, 12, 0, []),
  (.ifCond .eq 5, 17, 0, 0, 0, []),
  (.iconst (-1), 0, 0, 0, (-1), []),
  (.ireturn, 0, 0, 0, 0, []),
  (.iconst 1, 0, 0, 0, 1, []),
  (.istore_n 2, 0, 0, 0, 0, []),
  (.iload_n 2, 0, 0, 0, 0, []),
  (.aload_n 0, 0, 0, 0, 0, []),
  (.getfield 177, 11, 10, 0, 0, []),
  (.if_icmp .gt 63, 54, 0, 0, 0, []),
  (.iload_n 2, 0, 0, 0, 0, []),
  (.iconst 1, 0, 0, 0, 1, []),
  (.iadd, 0, 0, 0, 0, []),
  (.istore_n 3, 0, 0, 0, 0, []),
  (.iload_n 3, 0, 0, 0, 0, []),
  (.aload_n 0, 0, 0, 0, 0, []),
  (.getfield 177, 11, 10, 0, 0, []),
  (.if_icmp .gt 45, 52, 0, 0, 0, []),
  (.iload_n 1, 0, 0, 0, 0, []),
  (.iload_n 2, 0, 0, 0, 0, []),
  (.invokestatic 128, 152, 2, 0, 0, []),
  (.ifCond .eq 31, 50, 0, 0, 0, []),
  (.iload_n 1, 0, 0, 0, 0, []),
  (.iload_n 3, 0, 0, 0, 0, []),
  (.invokestatic 128, 152, 2, 0, 0, []),
  (.ifCond .ne 6, 40, 0, 0, 0, []),
  (.goto 20, 50, 0, 0, 0, []),
  (.aload_n 0, 0, 0, 0, 0, []),
  (.iload_n 1, 0, 0, 0, 0, []),
  (.iload_n 2, 0, 0, 0, 0, []),
  (.iload_n 3, 0, 0, 0, 0, []),
  (.invokevirtual 289, 209, 4, 12, 0, []),
  (.istore 4, 0, 0, 0, 0, []),
  (.iload 4, 0, 0, 0, 0, []),
  (.ifCond .lt 6, 50, 0, 0, 0, []),
  (.iload 4, 0, 0, 0, 0, []),
  (.ireturn, 0, 0, 0, 0, []),
  (.iinc 3 1, 0, 0, 0, 0, []),
  (.goto (-47), 27, 0, 0, 0, []),
  (.iinc 2 1, 0, 0, 0, 0, []),
  (.goto (-65), 19, 0, 0, 0, []),
  (.iconst (-1), 0, 0, 0, (-1), []),
  (.ireturn, 0, 0, 0, 0, [])]
/-- GrassCellsModel.isOfNeck(I)Z -/
def qc_Md_isOfNeck : List qI := [(.iconst 1, 0, 0, 0, 1, []),
  (.istore_n 2, 0, 0, 0, 0, []),
  (.iload_n 2, 0, 0, 0, 0, []),
  (.aload_n 0, 0, 0, 0, 0, []),
  (.getfield 177, 11, 10, 0, 0, []),
  (.if_icmp .gt 21, 16, 0, 0, 0, []),
  (.aload_n 0, 0, 0, 0, 0, []),
  (.getfield 32, 11, 13, 2, 0, []),
  (.iload_n 2, 0, 0, 0, 0, []),
  (.iaload, 0, 0, 0, 0, []),
  (.iload_n 1, 0, 0, 0, 0, []),
  (.if_icmp .ne 5, 14, 0, 0, 0, []),
  (.iconst 1, 0, 0, 0, 1, []),
  (.ireturn, 1, 0, 0, 0, []),
  (.iinc 2 1, 0, 0, 0, 0, []),
  (.goto (-23), 2, 0, 0, 0, []),
  (.iconst 0, 0, 0, 0, 0, []),
  (.ireturn, 1, 0, 0, 0, [])]
/-- GrassCellsModel.squareBy(III)I -/
def qc_Md_squareBy : List qI := [(.iload_n 2, 0, 0, 0, 0, []),
  (.iconst 1, 0, 0, 0, 1, []),
  (.iadd, 0, 0, 0, 0, []),
  (.istore 4, 0, 0, 0, 0, []),
  (.iload 4, 0, 0, 0, 0, []),
  (.iload_n 3, 0, 0, 0, 0, []),
  (.if_icmp .ge 127, 67, 0, 0, 0, []),
  (.iload_n 1, 0, 0, 0, 0, []),
  (.iload 4, 0, 0, 0, 0, []),
  (.invokestatic 128, 152, 2, 0, 0, []),
  (.ifCond .ne 112, 65, 0, 0, 0, []),
  (.aload_n 0, 0, 0, 0, 0, []),
  (.iload_n 1, 0, 0, 0, 0, []),
  (.iload_n 3, 0, 0, 0, 0, []),
  (.iload 4, 0, 0, 0, 0, []),
  (.invokevirtual 292, 210, 4, 12, 0, []),
  (.ifCond .eq 101, 65, 0, 0, 0, []),
  (.aload_n 0, 0, 0, 0, 0, []),
  (.iload_n 1, 0, 0, 0, 0, []),
  (.iload_n 2, 0, 0, 0, 0, []),
  (.iload 4, 0, 0, 0, 0, []),
  (.invokevirtual 292, 210, 4, 12, 0, []),
  (.ifCond .ne 6, 24, 0, 0, 0, []),
  (.goto 87, 65, 0, 0, 0, []),
  (.iconst 1, 0, 0, 0, 1, []),
  (.istore 5, 0, 0, 0, 0, []),
  (.iload 5, 0, 0, 0, 0, []),
  (.aload_n 0, 0, 0, 0, 0, []),
  (.getfield 177, 11, 10, 0, 0, []),
  (.if_icmp .gt 75, 65, 0, 0, 0, []),
  (.iload_n 1, 0, 0, 0, 0, []),
  (.iload 5, 0, 0, 0, 0, []),
  (.invokestatic 128, 152, 2, 0, 0, []),
  (.ifCond .ne 60, 63, 0, 0, 0, []),
  (.iload 5, 0, 0, 0, 0, []),
  (.iload_n 2, 0, 0, 0, 0, []),
  (.if_icmp .le 12, 41, 0, 0, 0, []),
  (.iload 5, 0, 0, 0, 0, []),
  (.iload_n 3, 0, 0, 0, 0, []),
  (.if_icmp .ge 6, 41, 0, 0, 0, []),
  (.goto 45, 63, 0, 0, 0, []),
  (.aload_n 0, 0, 0, 0, 0, []),
  (.iload_n 1, 0, 0, 0, 0, []),
  (.iload_n 2, 0, 0, 0, 0, []),
  (.iload 5, 0, 0, 0, 0, []),
  (.invokevirtual 292, 210, 4, 12, 0, []),
  (.ifCond .eq 34, 63, 0, 0, 0, []),
  (.aload_n 0, 0, 0, 0, 0, []),
  (.iload_n 1, 0, 0, 0, 0, []),
  (.iload_n 3, 0, 0, 0, 0, []),
  (.iload 5, 0, 0, 0, 0, []),
  (.invokevirtual 292, 210, 4, 12, 0, []),
  (.ifCond .eq 23, 63, 0, 0, 0, []),
  (.iload_n 1, 0, 0, 0, 0, []),
  (.iload_n 2, 0, 0, 0, 0, []),
  (.invokestatic 135, 163, 2, 0, 0, []),
  (.iload_n 3, 0, 0, 0, 0, []),
  (.invokestatic 135, 163, 2, 0, 0, []),
  (.iload 4, 0, 0, 0, 0, []),
  (.invokestatic 117, 150, 2, 0, 0, []),
  (.iload 5, 0, 0, 0, 0, []),
  (.invokestatic 117, 150, 2, 0, 0, []),
  (.ireturn, 0, 0, 0, 0, []),
  (.iinc 5 1, 0, 0, 0, 0, []),
  (.goto (-78), 26, 0, 0, 0, []),
  (.iinc 4 1, 0, 0, 0, 0, []),
  (.goto (-127), 4, 0, 0, 0, []),
  (.iconst (-1), 0, 0, 0, (-1), []),
  (.ireturn, 0, 0, 0, 0, [])]
/-- GrassCellsModel.isThere(III)Z -/
def qc_Md_isThere : List qI := [(.aload_n 0, 0, 0, 0, 0, []),
  (.getfield 39, 11, 15, 2, 0, []),
  (.iload_n 1, 0, 0, 0, 0, []),
  (.iload_n 2, 0, 0, 0, 0, []),
  (.invokestatic 135, 163, 2, 0, 0, []),
  (.iload_n 3, 0, 0, 0, 0, []),
  (.invokestatic 117, 150, 2, 0, 0, []),
  (.baload, 0, 0, 0, 0, []),
  (.ireturn, 1, 0, 0, 0, [])]
/-- GrassCellsModel.move(I)I -/
def qc_Md_move : List qI := [(.aload_n 0, 0, 0, 0, 0, []),
  (.invokevirtual 228, 185, 1, 12, 0, []),
  (.ifCond .ne 5, 5, 0, 0, 0, []),
  (.iconst (-1), 0, 0, 0, (-1), []),
  (.ireturn, 0, 0, 0, 0, []),
  (.aload_n 0, 0, 0, 0, 0, []),
  (.iload_n 1, 0, 0, 0, 0, []),
  (.invokevirtual 295, 207, 2, 12, 0, []),
  (.istore_n 2, 0, 0, 0, 0, []),
  (.iload_n 2, 0, 0, 0, 0, []),
  (.ifCond .ge 6, 13, 0, 0, 0, []),
  (.bipush (-2), 0, 0, 0, (-2), []),
  (.ireturn, 0, 0, 0, 0, []),
  (.aload_n 0, 0, 0, 0, 0, []),
  (.invokevirtual 183, 171, 1, 12, 0, []),
  (.aload_n 0, 0, 0, 0, 0, []),
  (.getfield 39, 11, 15, 2, 0, []),
  (.iload_n 1, 0, 0, 0, 0, []),
  (.iconst 0, 0, 0, 0, 0, []),
  (.bastore, 0, 0, 0, 0, []),
  (.aload_n 0, 0, 0, 0, 0, []),
  (.getfield 39, 11, 15, 2, 0, []),
  (.iload_n 2, 0, 0, 0, 0, []),
  (.iconst 1, 0, 0, 0, 1, []),
  (.bastore, 0, 0, 0, 0, []),
  (.iload_n 2, 0, 0, 0, 0, []),
  (.ireturn, 0, 0, 0, 0, [])]
/-- GrassCellsModel.undo()I -/
def qc_Md_undo : List qI := [(.aload_n 0, 0, 0, 0, 0, []),
  (.getfield 298, 11, 20, 0, 0, []),
  (.ifCond .ne 5, 5, 0, 0, 0, []),
  (.iconst (-1), 0, 0, 0, (-1), []),
  (.ireturn, 0, 0, 0, 0, []),
  (.aload_n 0, 0, 0, 0, 0, []),
  (.dup, 0, 0, 0, 0, []),
  (.getfield 298, 11, 20, 0, 0, []),
  (.iconst 1, 0, 0, 0, 1, []),
  (.isub, 0, 0, 0, 0, []),
  (.putfield 298, 11, 20, 0, 0, []),
  (.bipush 20, 0, 0, 0, 20, []),
  (.aload_n 0, 0, 0, 0, 0, []),
  (.getfield 298, 11, 20, 0, 0, []),
  (.imul, 0, 0, 0, 0, []),
  (.istore_n 1, 0, 0, 0, 0, []),
  (.aload_n 0, 0, 0, 0, 0, []),
  (.aload_n 0, 0, 0, 0, 0, []),
  (.getfield 52, 11, 19, 2, 0, []),
  (.iload_n 1, 0, 0, 0, 0, []),
  (.iaload, 0, 0, 0, 0, []),
  (.putfield 177, 11, 10, 0, 0, []),
  (.iconst 1, 0, 0, 0, 1, []),
  (.istore_n 2, 0, 0, 0, 0, []),
  (.iload_n 2, 0, 0, 0, 0, []),
  (.aload_n 0, 0, 0, 0, 0, []),
  (.getfield 177, 11, 10, 0, 0, []),
  (.if_icmp .gt 23, 40, 0, 0, 0, []),
  (.aload_n 0, 0, 0, 0, 0, []),
  (.getfield 29, 11, 11, 2, 0, []),
  (.iload_n 2, 0, 0, 0, 0, []),
  (.aload_n 0, 0, 0, 0, 0, []),
  (.getfield 52, 11, 19, 2, 0, []),
  (.iload_n 1, 0, 0, 0, 0, []),
  (.iload_n 2, 0, 0, 0, 0, []),
  (.iadd, 0, 0, 0, 0, []),
  (.iaload, 0, 0, 0, 0, []),
  (.iastore, 0, 0, 0, 0, []),
  (.iinc 2 1, 0, 0, 0, 0, []),
  (.goto (-25), 24, 0, 0, 0, []),
  (.aload_n 0, 0, 0, 0, 0, []),
  (.getfield 177, 11, 10, 0, 0, []),
  (.ifCond .le 7, 45, 0, 0, 0, []),
  (.aload_n 0, 0, 0, 0, 0, []),
  (.invokevirtual 198, 173, 1, 12, 0, []),
  (.iconst 0, 0, 0, 0, 0, []),
  (.istore_n 2, 0, 0, 0, 0, []),
  (.iload_n 2, 0, 0, 0, 0, []),
  (.sipush 256, 0, 0, 0, 256, []),
  (.if_icmp .ge 45, 77, 0, 0, 0, []),
  (.aload_n 0, 0, 0, 0, 0, []),
  (.getfield 39, 11, 15, 2, 0, []),
  (.iload_n 2, 0, 0, 0, 0, []),
  (.aload_n 0, 0, 0, 0, 0, []),
  (.getfield 52, 11, 19, 2, 0, []),
  (.iload_n 1, 0, 0, 0, 0, []),
  (.bipush 12, 0, 0, 0, 12, []),
  (.iadd, 0, 0, 0, 0, []),
  (.iload_n 2, 0, 0, 0, 0, []),
  (.bipush 32, 0, 0, 0, 32, []),
  (.idiv, 0, 0, 0, 0, []),
  (.iadd, 0, 0, 0, 0, []),
  (.iaload, 0, 0, 0, 0, []),
  (.iload_n 2, 0, 0, 0, 0, []),
  (.bipush 32, 0, 0, 0, 32, []),
  (.irem, 0, 0, 0, 0, []),
  (.ishr, 0, 0, 0, 0, []),
  (.iconst 1, 0, 0, 0, 1, []),
  (.iand, 0, 0, 0, 0, []),
  (.iconst 1, 0, 0, 0, 1, []),
  (.if_icmp .ne 7, 73, 0, 0, 0, []),
  (.iconst 1, 0, 0, 0, 1, []),
  (.goto 4, 74, 0, 0, 0, []),
  (.iconst 0, 0, 0, 0, 0, []),
  (.bastore, 0, 0, 0, 0, []),
  (.iinc 2 1, 0, 0, 0, 0, []),
  (.goto (-46), 47, 0, 0, 0, []),
  (.aload_n 0, 0, 0, 0, 0, []),
  (.getfield 298, 11, 20, 0, 0, []),
  (.ireturn, 0, 0, 0, 0, [])]
/-- GrassCellsModel.lower(II)I -/
def qc_Md_lower : List qI := [(.aload_n 0, 0, 0, 0, 0, []),
  (.iload_n 1, 0, 0, 0, 0, []),
  (.iload_n 2, 0, 0, 0, 0, []),
  (.iconst (-1), 0, 0, 0, (-1), []),
  (.invokevirtual 317, 214, 4, 12, 0, []),
  (.ireturn, 0, 0, 0, 0, [])]
/-- GrassCellsModel.toldNext(III)I -/
def qc_Md_toldNext : List qI := [(.aload_n 0, 0, 0, 0, 0, []),
  (.invokevirtual 228, 185, 1, 12, 0, []),
  (.ifCond .eq 25, 15, 0, 0, 0, []),
  (.iload_n 2, 0, 0, 0, 0, []),
  (.i2l, 0, 0, 0, 0, []),
  (.lconst 0, 0, 0, 0, 0, []),
  (.aload_n 0, 0, 0, 0, 0, []),
  (.getfield 177, 11, 10, 0, 0, []),
  (.i2l, 0, 0, 0, 0, []),
  (.invokestatic 80, 138, 3, 0, 0, []),
  (.ifCond .eq 11, 15, 0, 0, 0, []),
  (.iload_n 2, 0, 0, 0, 0, []),
  (.ifCond .le 9, 17, 0, 0, 0, []),
  (.iload_n 1, 0, 0, 0, 0, []),
  (.ifCond .ge 5, 17, 0, 0, 0, []),
  (.iconst (-1), 0, 0, 0, (-1), []),
  (.ireturn, 0, 0, 0, 0, []),
  (.aload_n 0, 0, 0, 0, 0, []),
  (.iload_n 2, 0, 0, 0, 0, []),
  (.ifCond .ne 7, 22, 0, 0, 0, []),
  (.iconst (-1), 0, 0, 0, (-1), []),
  (.goto 4, 23, 0, 0, 0, []),
  (.iload_n 1, 0, 0, 0, 0, []),
  (.iload_n 3, 0, 0, 0, 0, []),
  (.invokevirtual 311, 215, 3, 12, 0, []),
  (.istore 4, 0, 0, 0, 0, []),
  (.iload_n 2, 0, 0, 0, 0, []),
  (.ifCond .ne 6, 30, 0, 0, 0, []),
  (.iload 4, 0, 0, 0, 0, []),
  (.ireturn, 0, 0, 0, 0, []),
  (.aload_n 0, 0, 0, 0, 0, []),
  (.iload_n 1, 0, 0, 0, 0, []),
  (.iload_n 3, 0, 0, 0, 0, []),
  (.invokevirtual 314, 219, 3, 12, 0, []),
  (.ifCond .eq 12, 40, 0, 0, 0, []),
  (.aload_n 0, 0, 0, 0, 0, []),
  (.getfield 55, 11, 21, 2, 0, []),
  (.iload_n 2, 0, 0, 0, 0, []),
  (.iaload, 0, 0, 0, 0, []),
  (.goto 5, 41, 0, 0, 0, []),
  (.bipush (-2), 0, 0, 0, (-2), []),
  (.ireturn, 0, 0, 0, 0, [])]
/-- GrassCellsModel.nextOnes(II)I -/
def qc_Md_nextOnes : List qI := [(.iconst 0, 0, 0, 0, 0, []),
  (.istore_n 3, 0, 0, 0, 0, []),
  (.aload_n 0, 0, 0, 0, 0, []),
  (.getfield 29, 11, 11, 2, 0, []),
  (.aload_n 0, 0, 0, 0, 0, []),
  (.getfield 177, 11, 10, 0, 0, []),
  (.invokestatic 304, 216, 2, 0, 0, []),
  (.iload_n 2, 0, 0, 0, 0, []),
  (.isub, 0, 0, 0, 0, []),
  (.istore 4, 0, 0, 0, 0, []),
  (.iconst 1, 0, 0, 0, 1, []),
  (.istore 5, 0, 0, 0, 0, []),
  (.iload 5, 0, 0, 0, 0, []),
  (.aload_n 0, 0, 0, 0, 0, []),
  (.getfield 177, 11, 10, 0, 0, []),
  (.if_icmp .gt 73, 49, 0, 0, 0, []),
  (.iload 5, 0, 0, 0, 0, []),
  (.iconst 1, 0, 0, 0, 1, []),
  (.iadd, 0, 0, 0, 0, []),
  (.istore 6, 0, 0, 0, 0, []),
  (.iload 6, 0, 0, 0, 0, []),
  (.iload 5, 0, 0, 0, 0, []),
  (.aload_n 0, 0, 0, 0, 0, []),
  (.getfield 177, 11, 10, 0, 0, []),
  (.iadd, 0, 0, 0, 0, []),
  (.if_icmp .ge 49, 47, 0, 0, 0, []),
  (.aload_n 0, 0, 0, 0, 0, []),
  (.iload 5, 0, 0, 0, 0, []),
  (.iload 6, 0, 0, 0, 0, []),
  (.invokevirtual 308, 218, 3, 12, 0, []),
  (.ifCond .eq 32, 45, 0, 0, 0, []),
  (.aload_n 0, 0, 0, 0, 0, []),
  (.getfield 55, 11, 21, 2, 0, []),
  (.aload_n 0, 0, 0, 0, 0, []),
  (.getfield 177, 11, 10, 0, 0, []),
  (.invokestatic 304, 216, 2, 0, 0, []),
  (.iload 4, 0, 0, 0, 0, []),
  (.if_icmp .eq 6, 39, 0, 0, 0, []),
  (.goto 13, 45, 0, 0, 0, []),
  (.iload_n 3, 0, 0, 0, 0, []),
  (.iload_n 1, 0, 0, 0, 0, []),
  (.if_icmp .ne 5, 44, 0, 0, 0, []),
  (.iload_n 3, 0, 0, 0, 0, []),
  (.ireturn, 0, 0, 0, 0, []),
  (.iinc 3 1, 0, 0, 0, 0, []),
  (.iinc 6 1, 0, 0, 0, 0, []),
  (.goto (-55), 20, 0, 0, 0, []),
  (.iinc 5 1, 0, 0, 0, 0, []),
  (.goto (-76), 12, 0, 0, 0, []),
  (.iload_n 3, 0, 0, 0, 0, []),
  (.ireturn, 0, 0, 0, 0, [])]
/-- GrassCellsModel.inversionsOf([II)I -/
def qc_Md_inversionsOf : List qI := [(.iconst 0, 0, 0, 0, 0, []),
  (.istore_n 2, 0, 0, 0, 0, []),
  (.iconst 1, 0, 0, 0, 1, []),
  (.istore_n 3, 0, 0, 0, 0, []),
  (.iload_n 3, 0, 0, 0, 0, []),
  (.iload_n 1, 0, 0, 0, 0, []),
  (.if_icmp .gt 49, 34, 0, 0, 0, []),
  (.iload_n 3, 0, 0, 0, 0, []),
  (.iconst 1, 0, 0, 0, 1, []),
  (.iadd, 0, 0, 0, 0, []),
  (.istore 4, 0, 0, 0, 0, []),
  (.iload 4, 0, 0, 0, 0, []),
  (.iload_n 3, 0, 0, 0, 0, []),
  (.iload_n 1, 0, 0, 0, 0, []),
  (.iadd, 0, 0, 0, 0, []),
  (.if_icmp .ge 30, 32, 0, 0, 0, []),
  (.iload_n 2, 0, 0, 0, 0, []),
  (.aload_n 0, 0, 0, 0, 0, []),
  (.iload_n 3, 0, 0, 0, 0, []),
  (.iaload, 0, 0, 0, 0, []),
  (.aload_n 0, 0, 0, 0, 0, []),
  (.iload_n 1, 0, 0, 0, 0, []),
  (.iload 4, 0, 0, 0, 0, []),
  (.invokestatic 301, 217, 3, 0, 0, []),
  (.if_icmp .le 7, 27, 0, 0, 0, []),
  (.iconst 1, 0, 0, 0, 1, []),
  (.goto 4, 28, 0, 0, 0, []),
  (.iconst 0, 0, 0, 0, 0, []),
  (.iadd, 0, 0, 0, 0, []),
  (.istore_n 2, 0, 0, 0, 0, []),
  (.iinc 4 1, 0, 0, 0, 0, []),
  (.goto (-32), 11, 0, 0, 0, []),
  (.iinc 3 1, 0, 0, 0, 0, []),
  (.goto (-48), 4, 0, 0, 0, []),
  (.iload_n 2, 0, 0, 0, 0, []),
  (.ireturn, 0, 0, 0, 0, [])]
/-- GrassCellsModel.at([III)I -/
def qc_Md_at : List qI := [(.iload_n 2, 0, 0, 0, 0, []),
  (.iload_n 1, 0, 0, 0, 0, []),
  (.if_icmp .le 13, 11, 0, 0, 0, []),
  (.aload_n 0, 0, 0, 0, 0, []),
  (.iload_n 2, 0, 0, 0, 0, []),
  (.iload_n 1, 0, 0, 0, 0, []),
  (.isub, 0, 0, 0, 0, []),
  (.iaload, 0, 0, 0, 0, []),
  (.iload_n 1, 0, 0, 0, 0, []),
  (.iadd, 0, 0, 0, 0, []),
  (.goto 6, 14, 0, 0, 0, []),
  (.aload_n 0, 0, 0, 0, 0, []),
  (.iload_n 2, 0, 0, 0, 0, []),
  (.iaload, 0, 0, 0, 0, []),
  (.ireturn, 0, 0, 0, 0, [])]
/-- GrassCellsModel.swaps(II)Z -/
def qc_Md_swaps : List qI := [(.iconst 1, 0, 0, 0, 1, []),
  (.istore_n 3, 0, 0, 0, 0, []),
  (.iload_n 3, 0, 0, 0, 0, []),
  (.aload_n 0, 0, 0, 0, 0, []),
  (.getfield 177, 11, 10, 0, 0, []),
  (.if_icmp .gt 21, 16, 0, 0, 0, []),
  (.aload_n 0, 0, 0, 0, 0, []),
  (.getfield 55, 11, 21, 2, 0, []),
  (.iload_n 3, 0, 0, 0, 0, []),
  (.aload_n 0, 0, 0, 0, 0, []),
  (.getfield 29, 11, 11, 2, 0, []),
  (.iload_n 3, 0, 0, 0, 0, []),
  (.iaload, 0, 0, 0, 0, []),
  (.iastore, 0, 0, 0, 0, []),
  (.iinc 3 1, 0, 0, 0, 0, []),
  (.goto (-23), 2, 0, 0, 0, []),
  (.aload_n 0, 0, 0, 0, 0, []),
  (.getfield 29, 11, 11, 2, 0, []),
  (.aload_n 0, 0, 0, 0, 0, []),
  (.getfield 177, 11, 10, 0, 0, []),
  (.iload_n 2, 0, 0, 0, 0, []),
  (.invokestatic 301, 217, 3, 0, 0, []),
  (.istore_n 3, 0, 0, 0, 0, []),
  (.iload_n 2, 0, 0, 0, 0, []),
  (.aload_n 0, 0, 0, 0, 0, []),
  (.getfield 177, 11, 10, 0, 0, []),
  (.if_icmp .le 35, 47, 0, 0, 0, []),
  (.aload_n 0, 0, 0, 0, 0, []),
  (.getfield 55, 11, 21, 2, 0, []),
  (.iload_n 2, 0, 0, 0, 0, []),
  (.aload_n 0, 0, 0, 0, 0, []),
  (.getfield 177, 11, 10, 0, 0, []),
  (.isub, 0, 0, 0, 0, []),
  (.aload_n 0, 0, 0, 0, 0, []),
  (.getfield 29, 11, 11, 2, 0, []),
  (.iload_n 1, 0, 0, 0, 0, []),
  (.iaload, 0, 0, 0, 0, []),
  (.aload_n 0, 0, 0, 0, 0, []),
  (.getfield 177, 11, 10, 0, 0, []),
  (.isub, 0, 0, 0, 0, []),
  (.iastore, 0, 0, 0, 0, []),
  (.aload_n 0, 0, 0, 0, 0, []),
  (.getfield 55, 11, 21, 2, 0, []),
  (.iload_n 1, 0, 0, 0, 0, []),
  (.iload_n 3, 0, 0, 0, 0, []),
  (.iastore, 0, 0, 0, 0, []),
  (.goto 22, 60, 0, 0, 0, []),
  (.aload_n 0, 0, 0, 0, 0, []),
  (.getfield 55, 11, 21, 2, 0, []),
  (.iload_n 2, 0, 0, 0, 0, []),
  (.aload_n 0, 0, 0, 0, 0, []),
  (.getfield 29, 11, 11, 2, 0, []),
  (.iload_n 1, 0, 0, 0, 0, []),
  (.iaload, 0, 0, 0, 0, []),
  (.iastore, 0, 0, 0, 0, []),
  (.aload_n 0, 0, 0, 0, 0, []),
  (.getfield 55, 11, 21, 2, 0, []),
  (.iload_n 1, 0, 0, 0, 0, []),
  (.iload_n 3, 0, 0, 0, 0, []),
  (.iastore, 0, 0, 0, 0, []),
  (.iconst 1, 0, 0, 0, 1, []),
  (.istore 4, 0, 0, 0, 0, []),
  (.iload 4, 0, 0, 0, 0, []),
  (.aload_n 0, 0, 0, 0, 0, []),
  (.getfield 177, 11, 10, 0, 0, []),
  (.if_icmp .gt 36, 84, 0, 0, 0, []),
  (.aload_n 0, 0, 0, 0, 0, []),
  (.getfield 55, 11, 21, 2, 0, []),
  (.iload 4, 0, 0, 0, 0, []),
  (.iaload, 0, 0, 0, 0, []),
  (.i2l, 0, 0, 0, 0, []),
  (.iload 4, 0, 0, 0, 0, []),
  (.i2l, 0, 0, 0, 0, []),
  (.iload 4, 0, 0, 0, 0, []),
  (.aload_n 0, 0, 0, 0, 0, []),
  (.getfield 177, 11, 10, 0, 0, []),
  (.iadd, 0, 0, 0, 0, []),
  (.i2l, 0, 0, 0, 0, []),
  (.invokestatic 80, 138, 3, 0, 0, []),
  (.ifCond .ne 5, 82, 0, 0, 0, []),
  (.iconst 0, 0, 0, 0, 0, []),
  (.ireturn, 1, 0, 0, 0, []),
  (.iinc 4 1, 0, 0, 0, 0, []),
  (.goto (-39), 62, 0, 0, 0, []),
  (.iconst 1, 0, 0, 0, 1, []),
  (.ireturn, 1, 0, 0, 0, [])]
/-- GrassCellsModel.isNext(II)Z -/
def qc_Md_isNext : List qI := [(.iload_n 1, 0, 0, 0, 0, []),
  (.aload_n 0, 0, 0, 0, 0, []),
  (.iconst (-1), 0, 0, 0, (-1), []),
  (.iload_n 2, 0, 0, 0, 0, []),
  (.invokevirtual 311, 215, 3, 12, 0, []),
  (.if_icmp .ge 17, 14, 0, 0, 0, []),
  (.aload_n 0, 0, 0, 0, 0, []),
  (.iload_n 1, 0, 0, 0, 0, []),
  (.iload_n 2, 0, 0, 0, 0, []),
  (.invokevirtual 311, 215, 3, 12, 0, []),
  (.iload_n 1, 0, 0, 0, 0, []),
  (.if_icmp .ne 7, 14, 0, 0, 0, []),
  (.iconst 1, 0, 0, 0, 1, []),
  (.goto 4, 15, 0, 0, 0, []),
  (.iconst 0, 0, 0, 0, 0, []),
  (.ireturn, 1, 0, 0, 0, [])]
/-- GrassCellsModel.upper(II)I -/
def qc_Md_upper : List qI := [(.aload_n 0, 0, 0, 0, 0, []),
  (.iload_n 1, 0, 0, 0, 0, []),
  (.iload_n 2, 0, 0, 0, 0, []),
  (.iconst 1, 0, 0, 0, 1, []),
  (.invokevirtual 317, 214, 4, 12, 0, []),
  (.ireturn, 0, 0, 0, 0, [])]
/-- GrassCellsModel.down(I)I -/
def qc_Md_down : List qI := [(.aload_n 0, 0, 0, 0, 0, []),
  (.iload_n 1, 0, 0, 0, 0, []),
  (.iconst (-1), 0, 0, 0, (-1), []),
  (.invokevirtual 323, 222, 3, 12, 0, []),
  (.ireturn, 0, 0, 0, 0, [])]
/-- GrassCellsModel.goes(II)I -/
def qc_Md_goes : List qI := [(.aload_n 0, 0, 0, 0, 0, []),
  (.invokevirtual 228, 185, 1, 12, 0, []),
  (.ifCond .eq 7, 5, 0, 0, 0, []),
  (.iload_n 1, 0, 0, 0, 0, []),
  (.ifCond .ge 5, 7, 0, 0, 0, []),
  (.iconst (-1), 0, 0, 0, (-1), []),
  (.ireturn, 0, 0, 0, 0, []),
  (.aload_n 0, 0, 0, 0, 0, []),
  (.iload_n 1, 0, 0, 0, 0, []),
  (.iload_n 2, 0, 0, 0, 0, []),
  (.invokevirtual 314, 219, 3, 12, 0, []),
  (.ifCond .ne 6, 14, 0, 0, 0, []),
  (.bipush (-2), 0, 0, 0, (-2), []),
  (.ireturn, 0, 0, 0, 0, []),
  (.aload_n 0, 0, 0, 0, 0, []),
  (.invokevirtual 183, 171, 1, 12, 0, []),
  (.iconst 1, 0, 0, 0, 1, []),
  (.istore_n 3, 0, 0, 0, 0, []),
  (.iload_n 3, 0, 0, 0, 0, []),
  (.aload_n 0, 0, 0, 0, 0, []),
  (.getfield 177, 11, 10, 0, 0, []),
  (.if_icmp .gt 21, 32, 0, 0, 0, []),
  (.aload_n 0, 0, 0, 0, 0, []),
  (.getfield 29, 11, 11, 2, 0, []),
  (.iload_n 3, 0, 0, 0, 0, []),
  (.aload_n 0, 0, 0, 0, 0, []),
  (.getfield 55, 11, 21, 2, 0, []),
  (.iload_n 3, 0, 0, 0, 0, []),
  (.iaload, 0, 0, 0, 0, []),
  (.iastore, 0, 0, 0, 0, []),
  (.iinc 3 1, 0, 0, 0, 0, []),
  (.goto (-23), 18, 0, 0, 0, []),
  (.aload_n 0, 0, 0, 0, 0, []),
  (.invokevirtual 186, 172, 1, 12, 0, []),
  (.aload_n 0, 0, 0, 0, 0, []),
  (.invokevirtual 320, 223, 1, 12, 0, []),
  (.ireturn, 0, 0, 0, 0, [])]
/-- GrassCellsModel.dim()I -/
def qc_Md_dim : List qI := [(.aload_n 0, 0, 0, 0, 0, []),
  (.getfield 210, 11, 12, 0, 0, []),
  (.aload_n 0, 0, 0, 0, 0, []),
  (.getfield 177, 11, 10, 0, 0, []),
  (.aload_n 0, 0, 0, 0, 0, []),
  (.getfield 210, 11, 12, 0, 0, []),
  (.isub, 0, 0, 0, 0, []),
  (.imul, 0, 0, 0, 0, []),
  (.aload_n 0, 0, 0, 0, 0, []),
  (.getfield 29, 11, 11, 2, 0, []),
  (.aload_n 0, 0, 0, 0, 0, []),
  (.getfield 177, 11, 10, 0, 0, []),
  (.invokestatic 304, 216, 2, 0, 0, []),
  (.isub, 0, 0, 0, 0, []),
  (.ireturn, 0, 0, 0, 0, [])]
/-- GrassCellsModel.up(I)I -/
def qc_Md_up : List qI := [(.aload_n 0, 0, 0, 0, 0, []),
  (.iload_n 1, 0, 0, 0, 0, []),
  (.iconst 1, 0, 0, 0, 1, []),
  (.invokevirtual 323, 222, 3, 12, 0, []),
  (.ireturn, 0, 0, 0, 0, [])]
/-- GrassCellsModel.turn()Z -/
def qc_Md_turn : List qI := [(.aload_n 0, 0, 0, 0, 0, []),
  (.invokevirtual 228, 185, 1, 12, 0, []),
  (.ifCond .ne 5, 5, 0, 0, 0, []),
  (.iconst 0, 0, 0, 0, 0, []),
  (.ireturn, 1, 0, 0, 0, []),
  (.aload_n 0, 0, 0, 0, 0, []),
  (.invokevirtual 183, 171, 1, 12, 0, []),
  (.aload_n 0, 0, 0, 0, 0, []),
  (.getfield 29, 11, 11, 2, 0, []),
  (.aload_n 0, 0, 0, 0, 0, []),
  (.getfield 177, 11, 10, 0, 0, []),
  (.iaload, 0, 0, 0, 0, []),
  (.iconst 1, 0, 0, 0, 1, []),
  (.iadd, 0, 0, 0, 0, []),
  (.aload_n 0, 0, 0, 0, 0, []),
  (.getfield 177, 11, 10, 0, 0, []),
  (.isub, 0, 0, 0, 0, []),
  (.istore_n 1, 0, 0, 0, 0, []),
  (.aload_n 0, 0, 0, 0, 0, []),
  (.getfield 177, 11, 10, 0, 0, []),
  (.istore_n 2, 0, 0, 0, 0, []),
  (.iload_n 2, 0, 0, 0, 0, []),
  (.iconst 1, 0, 0, 0, 1, []),
  (.if_icmp .le 25, 38, 0, 0, 0, []),
  (.aload_n 0, 0, 0, 0, 0, []),
  (.getfield 29, 11, 11, 2, 0, []),
  (.iload_n 2, 0, 0, 0, 0, []),
  (.aload_n 0, 0, 0, 0, 0, []),
  (.getfield 29, 11, 11, 2, 0, []),
  (.iload_n 2, 0, 0, 0, 0, []),
  (.iconst 1, 0, 0, 0, 1, []),
  (.isub, 0, 0, 0, 0, []),
  (.iaload, 0, 0, 0, 0, []),
  (.iconst 1, 0, 0, 0, 1, []),
  (.iadd, 0, 0, 0, 0, []),
  (.iastore, 0, 0, 0, 0, []),
  (.iinc 2 (-1), 0, 0, 0, 0, []),
  (.goto (-24), 21, 0, 0, 0, []),
  (.aload_n 0, 0, 0, 0, 0, []),
  (.getfield 29, 11, 11, 2, 0, []),
  (.iconst 1, 0, 0, 0, 1, []),
  (.iload_n 1, 0, 0, 0, 0, []),
  (.iastore, 0, 0, 0, 0, []),
  (.aload_n 0, 0, 0, 0, 0, []),
  (.invokevirtual 186, 172, 1, 12, 0, []),
  (.iconst 1, 0, 0, 0, 1, []),
  (.ireturn, 1, 0, 0, 0, [])]
/-- GrassCellsModel.mirror()Z -/
def qc_Md_mirror : List qI := [(.aload_n 0, 0, 0, 0, 0, []),
  (.invokevirtual 228, 185, 1, 12, 0, []),
  (.ifCond .ne 5, 5, 0, 0, 0, []),
  (.iconst 0, 0, 0, 0, 0, []),
  (.ireturn, 1, 0, 0, 0, []),
  (.aload_n 0, 0, 0, 0, 0, []),
  (.invokevirtual 183, 171, 1, 12, 0, []),
  (.iconst 0, 0, 0, 0, 0, []),
  (.istore_n 1, 0, 0, 0, 0, []),
  (.iload_n 1, 0, 0, 0, 0, []),
  (.sipush 256, 0, 0, 0, 256, []),
  (.if_icmp .ge 78, 55, 0, 0, 0, []),
  (.iconst 0, 0, 0, 0, 0, []),
  (.istore_n 2, 0, 0, 0, 0, []),
  (.iconst 1, 0, 0, 0, 1, []),
  (.istore_n 3, 0, 0, 0, 0, []),
  (.iload_n 3, 0, 0, 0, 0, []),
  (.aload_n 0, 0, 0, 0, 0, []),
  (.getfield 177, 11, 10, 0, 0, []),
  (.if_icmp .gt 30, 35, 0, 0, 0, []),
  (.iload_n 1, 0, 0, 0, 0, []),
  (.iload_n 3, 0, 0, 0, 0, []),
  (.invokestatic 128, 152, 2, 0, 0, []),
  (.ifCond .eq 16, 33, 0, 0, 0, []),
  (.iload_n 2, 0, 0, 0, 0, []),
  (.aload_n 0, 0, 0, 0, 0, []),
  (.getfield 177, 11, 10, 0, 0, []),
  (.iconst 1, 0, 0, 0, 1, []),
  (.iadd, 0, 0, 0, 0, []),
  (.iload_n 3, 0, 0, 0, 0, []),
  (.isub, 0, 0, 0, 0, []),
  (.invokestatic 117, 150, 2, 0, 0, []),
  (.istore_n 2, 0, 0, 0, 0, []),
  (.iinc 3 1, 0, 0, 0, 0, []),
  (.goto (-32), 16, 0, 0, 0, []),
  (.aload_n 0, 0, 0, 0, 0, []),
  (.getfield 58, 11, 22, 2, 0, []),
  (.iload_n 1, 0, 0, 0, 0, []),
  (.iload_n 1, 0, 0, 0, 0, []),
  (.iconst 1, 0, 0, 0, 1, []),
  (.aload_n 0, 0, 0, 0, 0, []),
  (.getfield 177, 11, 10, 0, 0, []),
  (.ishl, 0, 0, 0, 0, []),
  (.if_icmp .ge 16, 51, 0, 0, 0, []),
  (.aload_n 0, 0, 0, 0, 0, []),
  (.getfield 35, 11, 14, 2, 0, []),
  (.iload_n 2, 0, 0, 0, 0, []),
  (.baload, 0, 0, 0, 0, []),
  (.ifCond .eq 7, 51, 0, 0, 0, []),
  (.iconst 1, 0, 0, 0, 1, []),
  (.goto 4, 52, 0, 0, 0, []),
  (.iconst 0, 0, 0, 0, 0, []),
  (.bastore, 0, 0, 0, 0, []),
  (.iinc 1 1, 0, 0, 0, 0, []),
  (.goto (-79), 9, 0, 0, 0, []),
  (.aload_n 0, 0, 0, 0, 0, []),
  (.invokevirtual 329, 227, 1, 12, 0, []),
  (.iconst 1, 0, 0, 0, 1, []),
  (.ireturn, 1, 0, 0, 0, [])]
/-- GrassCellsModel.becomesNew()V -/
def qc_Md_becomesNew : List qI := [(.iconst 1, 0, 0, 0, 1, []),
  (.istore_n 1, 0, 0, 0, 0, []),
  (.iload_n 1, 0, 0, 0, 0, []),
  (.aload_n 0, 0, 0, 0, 0, []),
  (.getfield 177, 11, 10, 0, 0, []),
  (.if_icmp .gt 20, 15, 0, 0, 0, []),
  (.aload_n 0, 0, 0, 0, 0, []),
  (.getfield 61, 11, 23, 2, 0, []),
  (.iload_n 1, 0, 0, 0, 0, []),
  (.aload_n 0, 0, 0, 0, 0, []),
  (.iload_n 1, 0, 0, 0, 0, []),
  (.invokevirtual 326, 228, 2, 12, 0, []),
  (.iastore, 0, 0, 0, 0, []),
  (.iinc 1 1, 0, 0, 0, 0, []),
  (.goto (-22), 2, 0, 0, 0, []),
  (.iconst 1, 0, 0, 0, 1, []),
  (.istore_n 1, 0, 0, 0, 0, []),
  (.iload_n 1, 0, 0, 0, 0, []),
  (.aload_n 0, 0, 0, 0, 0, []),
  (.getfield 177, 11, 10, 0, 0, []),
  (.if_icmp .gt 42, 44, 0, 0, 0, []),
  (.aload_n 0, 0, 0, 0, 0, []),
  (.getfield 29, 11, 11, 2, 0, []),
  (.iload_n 1, 0, 0, 0, 0, []),
  (.aload_n 0, 0, 0, 0, 0, []),
  (.getfield 61, 11, 23, 2, 0, []),
  (.iload_n 1, 0, 0, 0, 0, []),
  (.iaload, 0, 0, 0, 0, []),
  (.aload_n 0, 0, 0, 0, 0, []),
  (.getfield 61, 11, 23, 2, 0, []),
  (.iload_n 1, 0, 0, 0, 0, []),
  (.aload_n 0, 0, 0, 0, 0, []),
  (.getfield 177, 11, 10, 0, 0, []),
  (.irem, 0, 0, 0, 0, []),
  (.iconst 1, 0, 0, 0, 1, []),
  (.iadd, 0, 0, 0, 0, []),
  (.iaload, 0, 0, 0, 0, []),
  (.iload_n 1, 0, 0, 0, 0, []),
  (.aload_n 0, 0, 0, 0, 0, []),
  (.getfield 177, 11, 10, 0, 0, []),
  (.invokestatic 141, 166, 4, 0, 0, []),
  (.iastore, 0, 0, 0, 0, []),
  (.iinc 1 1, 0, 0, 0, 0, []),
  (.goto (-44), 17, 0, 0, 0, []),
  (.aload_n 0, 0, 0, 0, 0, []),
  (.invokevirtual 186, 172, 1, 12, 0, []),
  (.return_, 0, 0, 0, 0, [])]
/-- GrassCellsModel.leastFrom(I)I -/
def qc_Md_leastFrom : List qI := [(.iconst 0, 0, 0, 0, 0, []),
  (.istore_n 2, 0, 0, 0, 0, []),
  (.iload_n 2, 0, 0, 0, 0, []),
  (.sipush 256, 0, 0, 0, 256, []),
  (.if_icmp .ge 77, 43, 0, 0, 0, []),
  (.aload_n 0, 0, 0, 0, 0, []),
  (.getfield 58, 11, 22, 2, 0, []),
  (.iload_n 2, 0, 0, 0, 0, []),
  (.baload, 0, 0, 0, 0, []),
  (.ifCond .ne 6, 11, 0, 0, 0, []),
  (.goto 59, 41, 0, 0, 0, []),
  (.iconst 1, 0, 0, 0, 1, []),
  (.istore_n 3, 0, 0, 0, 0, []),
  (.iconst 0, 0, 0, 0, 0, []),
  (.istore 4, 0, 0, 0, 0, []),
  (.iload 4, 0, 0, 0, 0, []),
  (.sipush 256, 0, 0, 0, 256, []),
  (.if_icmp .ge 40, 37, 0, 0, 0, []),
  (.iload_n 3, 0, 0, 0, 0, []),
  (.ifCond .eq 36, 37, 0, 0, 0, []),
  (.aload_n 0, 0, 0, 0, 0, []),
  (.getfield 58, 11, 22, 2, 0, []),
  (.iload 4, 0, 0, 0, 0, []),
  (.baload, 0, 0, 0, 0, []),
  (.ifCond .eq 14, 31, 0, 0, 0, []),
  (.aload_n 0, 0, 0, 0, 0, []),
  (.iload 4, 0, 0, 0, 0, []),
  (.iload_n 2, 0, 0, 0, 0, []),
  (.iload_n 1, 0, 0, 0, 0, []),
  (.invokevirtual 213, 176, 4, 12, 0, []),
  (.ifCond .eq 7, 33, 0, 0, 0, []),
  (.iconst 1, 0, 0, 0, 1, []),
  (.goto 4, 34, 0, 0, 0, []),
  (.iconst 0, 0, 0, 0, 0, []),
  (.istore_n 3, 0, 0, 0, 0, []),
  (.iinc 4 1, 0, 0, 0, 0, []),
  (.goto (-42), 15, 0, 0, 0, []),
  (.iload_n 3, 0, 0, 0, 0, []),
  (.ifCond .eq 5, 41, 0, 0, 0, []),
  (.iload_n 2, 0, 0, 0, 0, []),
  (.ireturn, 0, 0, 0, 0, []),
  (.iinc 2 1, 0, 0, 0, 0, []),
  (.goto (-78), 2, 0, 0, 0, []),
  (.iconst 0, 0, 0, 0, 0, []),
  (.ireturn, 0, 0, 0, 0, [])]
/-- GrassCellsModel.complement()Z -/
def qc_Md_complement : List qI := [(.aload_n 0, 0, 0, 0, 0, []),
  (.invokevirtual 228, 185, 1, 12, 0, []),
  (.ifCond .ne 5, 5, 0, 0, 0, []),
  (.iconst 0, 0, 0, 0, 0, []),
  (.ireturn, 1, 0, 0, 0, []),
  (.aload_n 0, 0, 0, 0, 0, []),
  (.invokevirtual 183, 171, 1, 12, 0, []),
  (.iconst 0, 0, 0, 0, 0, []),
  (.istore_n 1, 0, 0, 0, 0, []),
  (.iload_n 1, 0, 0, 0, 0, []),
  (.sipush 256, 0, 0, 0, 256, []),
  (.if_icmp .ge 50, 41, 0, 0, 0, []),
  (.aload_n 0, 0, 0, 0, 0, []),
  (.getfield 58, 11, 22, 2, 0, []),
  (.iload_n 1, 0, 0, 0, 0, []),
  (.iload_n 1, 0, 0, 0, 0, []),
  (.iconst 1, 0, 0, 0, 1, []),
  (.aload_n 0, 0, 0, 0, 0, []),
  (.getfield 177, 11, 10, 0, 0, []),
  (.ishl, 0, 0, 0, 0, []),
  (.if_icmp .ge 27, 37, 0, 0, 0, []),
  (.aload_n 0, 0, 0, 0, 0, []),
  (.getfield 35, 11, 14, 2, 0, []),
  (.iconst 1, 0, 0, 0, 1, []),
  (.aload_n 0, 0, 0, 0, 0, []),
  (.getfield 177, 11, 10, 0, 0, []),
  (.ishl, 0, 0, 0, 0, []),
  (.iconst 1, 0, 0, 0, 1, []),
  (.isub, 0, 0, 0, 0, []),
  (.iload_n 1, 0, 0, 0, 0, []),
  (.iconst (-1), 0, 0, 0, (-1), []),
  (.ixor, 0, 0, 0, 0, []),
  (.iand, 0, 0, 0, 0, []),
  (.baload, 0, 0, 0, 0, []),
  (.ifCond .eq 7, 37, 0, 0, 0, []),
  (.iconst 1, 0, 0, 0, 1, []),
  (.goto 4, 38, 0, 0, 0, []),
  (.iconst 0, 0, 0, 0, 0, []),
  (.bastore, 0, 0, 0, 0, []),
  (.iinc 1 1, 0, 0, 0, 0, []),
  (.goto (-51), 9, 0, 0, 0, []),
  (.aload_n 0, 0, 0, 0, 0, []),
  (.invokevirtual 329, 227, 1, 12, 0, []),
  (.iconst 1, 0, 0, 0, 1, []),
  (.ireturn, 1, 0, 0, 0, [])]
/-- GrassCellsModel.howMany(III)I -/
def qc_Md_howMany : List qI := [(.iload_n 1, 0, 0, 0, 0, []),
  (.i2l, 0, 0, 0, 0, []),
  (.ldc2_w 332, 0, 0, 0, 2, []),
  (.ldc2_w 334, 0, 0, 0, 7, []),
  (.invokestatic 80, 138, 3, 0, 0, []),
  (.ifCond .eq 18, 15, 0, 0, 0, []),
  (.iload_n 2, 0, 0, 0, 0, []),
  (.i2l, 0, 0, 0, 0, []),
  (.lconst 0, 0, 0, 0, 0, []),
  (.iload_n 1, 0, 0, 0, 0, []),
  (.i2l, 0, 0, 0, 0, []),
  (.invokestatic 80, 138, 3, 0, 0, []),
  (.ifCond .eq 7, 15, 0, 0, 0, []),
  (.iload_n 3, 0, 0, 0, 0, []),
  (.ifCond .ge 5, 17, 0, 0, 0, []),
  (.iconst (-1), 0, 0, 0, (-1), []),
  (.ireturn, 0, 0, 0, 0, []),
  (.iconst 0, 0, 0, 0, 0, []),
  (.istore 4, 0, 0, 0, 0, []),
  (.iconst 1, 0, 0, 0, 1, []),
  (.istore 5, 0, 0, 0, 0, []),
  (.aload_n 0, 0, 0, 0, 0, []),
  (.getfield 64, 11, 24, 2, 0, []),
  (.iconst 1, 0, 0, 0, 1, []),
  (.iconst 0, 0, 0, 0, 0, []),
  (.iastore, 0, 0, 0, 0, []),
  (.iload 5, 0, 0, 0, 0, []),
  (.ifCond .le 93, 77, 0, 0, 0, []),
  (.aload_n 0, 0, 0, 0, 0, []),
  (.getfield 64, 11, 24, 2, 0, []),
  (.iload 5, 0, 0, 0, 0, []),
  (.dup2, 0, 0, 0, 0, []),
  (.iaload, 0, 0, 0, 0, []),
  (.iconst 1, 0, 0, 0, 1, []),
  (.iadd, 0, 0, 0, 0, []),
  (.iastore, 0, 0, 0, 0, []),
  (.aload_n 0, 0, 0, 0, 0, []),
  (.getfield 64, 11, 24, 2, 0, []),
  (.iload 5, 0, 0, 0, 0, []),
  (.iaload, 0, 0, 0, 0, []),
  (.iload 5, 0, 0, 0, 0, []),
  (.iload_n 1, 0, 0, 0, 0, []),
  (.iadd, 0, 0, 0, 0, []),
  (.if_icmp .le 9, 46, 0, 0, 0, []),
  (.iinc 5 (-1), 0, 0, 0, 0, []),
  (.goto (-33), 26, 0, 0, 0, []),
  (.aload_n 0, 0, 0, 0, 0, []),
  (.iload 5, 0, 0, 0, 0, []),
  (.iload_n 1, 0, 0, 0, 0, []),
  (.invokevirtual 336, 231, 3, 12, 0, []),
  (.ifCond .ne 6, 52, 0, 0, 0, []),
  (.goto (-46), 26, 0, 0, 0, []),
  (.iload 5, 0, 0, 0, 0, []),
  (.iload_n 1, 0, 0, 0, 0, []),
  (.if_icmp .ne 26, 68, 0, 0, 0, []),
  (.iload 4, 0, 0, 0, 0, []),
  (.aload_n 0, 0, 0, 0, 0, []),
  (.iload_n 1, 0, 0, 0, 0, []),
  (.iload_n 2, 0, 0, 0, 0, []),
  (.iload_n 3, 0, 0, 0, 0, []),
  (.invokevirtual 339, 232, 4, 12, 0, []),
  (.ifCond .eq 7, 64, 0, 0, 0, []),
  (.iconst 1, 0, 0, 0, 1, []),
  (.goto 4, 65, 0, 0, 0, []),
  (.iconst 0, 0, 0, 0, 0, []),
  (.iadd, 0, 0, 0, 0, []),
  (.istore 4, 0, 0, 0, 0, []),
  (.goto (-75), 26, 0, 0, 0, []),
  (.iinc 5 1, 0, 0, 0, 0, []),
  (.aload_n 0, 0, 0, 0, 0, []),
  (.getfield 64, 11, 24, 2, 0, []),
  (.iload 5, 0, 0, 0, 0, []),
  (.iload 5, 0, 0, 0, 0, []),
  (.iconst 1, 0, 0, 0, 1, []),
  (.isub, 0, 0, 0, 0, []),
  (.iastore, 0, 0, 0, 0, []),
  (.goto (-92), 26, 0, 0, 0, []),
  (.iload 4, 0, 0, 0, 0, []),
  (.ireturn, 0, 0, 0, 0, [])]
/-- GrassCellsModel.isFree(II)Z -/
def qc_Md_isFree : List qI := [(.iconst 1, 0, 0, 0, 1, []),
  (.istore_n 3, 0, 0, 0, 0, []),
  (.iload_n 3, 0, 0, 0, 0, []),
  (.iload_n 1, 0, 0, 0, 0, []),
  (.if_icmp .ge 29, 21, 0, 0, 0, []),
  (.aload_n 0, 0, 0, 0, 0, []),
  (.getfield 64, 11, 24, 2, 0, []),
  (.iload_n 1, 0, 0, 0, 0, []),
  (.iaload, 0, 0, 0, 0, []),
  (.aload_n 0, 0, 0, 0, 0, []),
  (.getfield 64, 11, 24, 2, 0, []),
  (.iload_n 3, 0, 0, 0, 0, []),
  (.iaload, 0, 0, 0, 0, []),
  (.isub, 0, 0, 0, 0, []),
  (.iload_n 2, 0, 0, 0, 0, []),
  (.irem, 0, 0, 0, 0, []),
  (.ifCond .ne 5, 19, 0, 0, 0, []),
  (.iconst 0, 0, 0, 0, 0, []),
  (.ireturn, 1, 0, 0, 0, []),
  (.iinc 3 1, 0, 0, 0, 0, []),
  (.goto (-28), 2, 0, 0, 0, []),
  (.iconst 1, 0, 0, 0, 1, []),
  (.ireturn, 1, 0, 0, 0, [])]
/-- GrassCellsModel.isOne(III)Z -/
def qc_Md_isOne : List qI := [(.iconst 0, 0, 0, 0, 0, []),
  (.istore 4, 0, 0, 0, 0, []),
  (.iconst 1, 0, 0, 0, 1, []),
  (.istore 5, 0, 0, 0, 0, []),
  (.iload 5, 0, 0, 0, 0, []),
  (.iload_n 1, 0, 0, 0, 0, []),
  (.if_icmp .gt 30, 21, 0, 0, 0, []),
  (.iload 4, 0, 0, 0, 0, []),
  (.aload_n 0, 0, 0, 0, 0, []),
  (.getfield 64, 11, 24, 2, 0, []),
  (.iload 5, 0, 0, 0, 0, []),
  (.iaload, 0, 0, 0, 0, []),
  (.iload_n 1, 0, 0, 0, 0, []),
  (.if_icmp .le 7, 16, 0, 0, 0, []),
  (.iconst 1, 0, 0, 0, 1, []),
  (.goto 4, 17, 0, 0, 0, []),
  (.iconst 0, 0, 0, 0, 0, []),
  (.iadd, 0, 0, 0, 0, []),
  (.istore 4, 0, 0, 0, 0, []),
  (.iinc 5 1, 0, 0, 0, 0, []),
  (.goto (-30), 4, 0, 0, 0, []),
  (.iload 4, 0, 0, 0, 0, []),
  (.iload_n 2, 0, 0, 0, 0, []),
  (.if_icmp .ne 25, 38, 0, 0, 0, []),
  (.iload_n 2, 0, 0, 0, 0, []),
  (.iload_n 1, 0, 0, 0, 0, []),
  (.iload_n 2, 0, 0, 0, 0, []),
  (.isub, 0, 0, 0, 0, []),
  (.imul, 0, 0, 0, 0, []),
  (.aload_n 0, 0, 0, 0, 0, []),
  (.getfield 64, 11, 24, 2, 0, []),
  (.iload_n 1, 0, 0, 0, 0, []),
  (.invokestatic 304, 216, 2, 0, 0, []),
  (.isub, 0, 0, 0, 0, []),
  (.iload_n 3, 0, 0, 0, 0, []),
  (.if_icmp .ne 7, 38, 0, 0, 0, []),
  (.iconst 1, 0, 0, 0, 1, []),
  (.goto 4, 39, 0, 0, 0, []),
  (.iconst 0, 0, 0, 0, 0, []),
  (.ireturn, 1, 0, 0, 0, [])]
/-- GrassCellsModel.keep(I)I -/
def qc_Md_keep : List qI := [(.aload_n 0, 0, 0, 0, 0, []),
  (.invokevirtual 228, 185, 1, 12, 0, []),
  (.ifCond .eq 15, 9, 0, 0, 0, []),
  (.iload_n 1, 0, 0, 0, 0, []),
  (.i2l, 0, 0, 0, 0, []),
  (.lconst 0, 0, 0, 0, 0, []),
  (.ldc2_w 342, 0, 0, 0, 3, []),
  (.invokestatic 80, 138, 3, 0, 0, []),
  (.ifCond .ne 5, 11, 0, 0, 0, []),
  (.iconst (-1), 0, 0, 0, (-1), []),
  (.ireturn, 0, 0, 0, 0, []),
  (.aload_n 0, 0, 0, 0, 0, []),
  (.getfield 67, 11, 25, 2, 0, []),
  (.iload_n 1, 0, 0, 0, 0, []),
  (.aload_n 0, 0, 0, 0, 0, []),
  (.getfield 177, 11, 10, 0, 0, []),
  (.iastore, 0, 0, 0, 0, []),
  (.iconst 1, 0, 0, 0, 1, []),
  (.istore_n 2, 0, 0, 0, 0, []),
  (.iload_n 2, 0, 0, 0, 0, []),
  (.aload_n 0, 0, 0, 0, 0, []),
  (.getfield 177, 11, 10, 0, 0, []),
  (.if_icmp .gt 26, 37, 0, 0, 0, []),
  (.aload_n 0, 0, 0, 0, 0, []),
  (.getfield 70, 11, 26, 2, 0, []),
  (.bipush 10, 0, 0, 0, 10, []),
  (.iload_n 1, 0, 0, 0, 0, []),
  (.imul, 0, 0, 0, 0, []),
  (.iload_n 2, 0, 0, 0, 0, []),
  (.iadd, 0, 0, 0, 0, []),
  (.aload_n 0, 0, 0, 0, 0, []),
  (.getfield 29, 11, 11, 2, 0, []),
  (.iload_n 2, 0, 0, 0, 0, []),
  (.iaload, 0, 0, 0, 0, []),
  (.iastore, 0, 0, 0, 0, []),
  (.iinc 2 1, 0, 0, 0, 0, []),
  (.goto (-28), 19, 0, 0, 0, []),
  (.aload_n 0, 0, 0, 0, 0, []),
  (.invokevirtual 320, 223, 1, 12, 0, []),
  (.ireturn, 0, 0, 0, 0, [])]
/-- GrassCellsModel.has(I)I -/
def qc_Md_has2 : List qI := [(.aload_n 0, 0, 0, 0, 0, []),
  (.invokevirtual 228, 185, 1, 12, 0, []),
  (.ifCond .eq 15, 9, 0, 0, 0, []),
  (.iload_n 1, 0, 0, 0, 0, []),
  (.i2l, 0, 0, 0, 0, []),
  (.lconst 0, 0, 0, 0, 0, []),
  (.ldc2_w 342, 0, 0, 0, 3, []),
  (.invokestatic 80, 138, 3, 0, 0, []),
  (.ifCond .ne 5, 11, 0, 0, 0, []),
  (.iconst (-1), 0, 0, 0, (-1), []),
  (.ireturn, 0, 0, 0, 0, []),
  (.aload_n 0, 0, 0, 0, 0, []),
  (.getfield 67, 11, 25, 2, 0, []),
  (.iload_n 1, 0, 0, 0, 0, []),
  (.iaload, 0, 0, 0, 0, []),
  (.ifCond .ne 6, 18, 0, 0, 0, []),
  (.bipush (-2), 0, 0, 0, (-2), []),
  (.ireturn, 0, 0, 0, 0, []),
  (.aload_n 0, 0, 0, 0, 0, []),
  (.getfield 67, 11, 25, 2, 0, []),
  (.iload_n 1, 0, 0, 0, 0, []),
  (.iaload, 0, 0, 0, 0, []),
  (.aload_n 0, 0, 0, 0, 0, []),
  (.getfield 177, 11, 10, 0, 0, []),
  (.if_icmp .eq 5, 27, 0, 0, 0, []),
  (.iconst 0, 0, 0, 0, 0, []),
  (.ireturn, 0, 0, 0, 0, []),
  (.aload_n 0, 0, 0, 0, 0, []),
  (.iload_n 1, 0, 0, 0, 0, []),
  (.invokevirtual 344, 235, 2, 12, 0, []),
  (.aload_n 0, 0, 0, 0, 0, []),
  (.getfield 73, 11, 27, 2, 0, []),
  (.iconst 1, 0, 0, 0, 1, []),
  (.iaload, 0, 0, 0, 0, []),
  (.invokestatic 138, 164, 1, 0, 0, []),
  (.aload_n 0, 0, 0, 0, 0, []),
  (.getfield 210, 11, 12, 0, 0, []),
  (.if_icmp .eq 5, 40, 0, 0, 0, []),
  (.iconst 0, 0, 0, 0, 0, []),
  (.ireturn, 0, 0, 0, 0, []),
  (.iconst 0, 0, 0, 0, 0, []),
  (.istore_n 2, 0, 0, 0, 0, []),
  (.iload_n 2, 0, 0, 0, 0, []),
  (.iconst 1, 0, 0, 0, 1, []),
  (.aload_n 0, 0, 0, 0, 0, []),
  (.getfield 177, 11, 10, 0, 0, []),
  (.ishl, 0, 0, 0, 0, []),
  (.if_icmp .ge 78, 87, 0, 0, 0, []),
  (.iload_n 2, 0, 0, 0, 0, []),
  (.invokestatic 138, 164, 1, 0, 0, []),
  (.aload_n 0, 0, 0, 0, 0, []),
  (.getfield 210, 11, 12, 0, 0, []),
  (.if_icmp .ne 7, 55, 0, 0, 0, []),
  (.iconst 1, 0, 0, 0, 1, []),
  (.goto 4, 56, 0, 0, 0, []),
  (.iconst 0, 0, 0, 0, 0, []),
  (.istore_n 3, 0, 0, 0, 0, []),
  (.iconst 1, 0, 0, 0, 1, []),
  (.istore 4, 0, 0, 0, 0, []),
  (.iload 4, 0, 0, 0, 0, []),
  (.aload_n 0, 0, 0, 0, 0, []),
  (.getfield 177, 11, 10, 0, 0, []),
  (.if_icmp .gt 28, 76, 0, 0, 0, []),
  (.iload_n 3, 0, 0, 0, 0, []),
  (.ifCond .eq 24, 76, 0, 0, 0, []),
  (.aload_n 0, 0, 0, 0, 0, []),
  (.iload_n 2, 0, 0, 0, 0, []),
  (.aload_n 0, 0, 0, 0, 0, []),
  (.getfield 73, 11, 27, 2, 0, []),
  (.iload 4, 0, 0, 0, 0, []),
  (.iaload, 0, 0, 0, 0, []),
  (.iload 4, 0, 0, 0, 0, []),
  (.invokevirtual 213, 176, 4, 12, 0, []),
  (.istore_n 3, 0, 0, 0, 0, []),
  (.iinc 4 1, 0, 0, 0, 0, []),
  (.goto (-31), 59, 0, 0, 0, []),
  (.iload_n 3, 0, 0, 0, 0, []),
  (.ifCond .eq 14, 85, 0, 0, 0, []),
  (.aload_n 0, 0, 0, 0, 0, []),
  (.getfield 35, 11, 14, 2, 0, []),
  (.iload_n 2, 0, 0, 0, 0, []),
  (.baload, 0, 0, 0, 0, []),
  (.ifCond .ne 5, 85, 0, 0, 0, []),
  (.iconst 0, 0, 0, 0, 0, []),
  (.ireturn, 0, 0, 0, 0, []),
  (.iinc 2 1, 0, 0, 0, 0, []),
  (.goto (-82), 42, 0, 0, 0, []),
  (.iconst 1, 0, 0, 0, 1, []),
  (.ireturn, 0, 0, 0, 0, [])]
/-- GrassCellsModel.laysItsNeck(I)V -/
def qc_Md_laysItsNeck : List qI := [(.aload_n 0, 0, 0, 0, 0, []),
  (.getfield 67, 11, 25, 2, 0, []),
  (.iload_n 1, 0, 0, 0, 0, []),
  (.iaload, 0, 0, 0, 0, []),
  (.istore_n 2, 0, 0, 0, 0, []),
  (.aload_n 0, 0, 0, 0, 0, []),
  (.getfield 73, 11, 27, 2, 0, []),
  (.iconst 1, 0, 0, 0, 1, []),
  (.iconst 0, 0, 0, 0, 0, []),
  (.iastore, 0, 0, 0, 0, []),
  (.iconst 1, 0, 0, 0, 1, []),
  (.istore_n 3, 0, 0, 0, 0, []),
  (.iload_n 3, 0, 0, 0, 0, []),
  (.iload_n 2, 0, 0, 0, 0, []),
  (.if_icmp .gt 52, 46, 0, 0, 0, []),
  (.aload_n 0, 0, 0, 0, 0, []),
  (.getfield 70, 11, 26, 2, 0, []),
  (.bipush 10, 0, 0, 0, 10, []),
  (.iload_n 1, 0, 0, 0, 0, []),
  (.imul, 0, 0, 0, 0, []),
  (.iload_n 3, 0, 0, 0, 0, []),
  (.iadd, 0, 0, 0, 0, []),
  (.iaload, 0, 0, 0, 0, []),
  (.iload_n 2, 0, 0, 0, 0, []),
  (.if_icmp .le 31, 44, 0, 0, 0, []),
  (.aload_n 0, 0, 0, 0, 0, []),
  (.getfield 73, 11, 27, 2, 0, []),
  (.iconst 1, 0, 0, 0, 1, []),
  (.aload_n 0, 0, 0, 0, 0, []),
  (.getfield 73, 11, 27, 2, 0, []),
  (.iconst 1, 0, 0, 0, 1, []),
  (.iaload, 0, 0, 0, 0, []),
  (.aload_n 0, 0, 0, 0, 0, []),
  (.getfield 70, 11, 26, 2, 0, []),
  (.bipush 10, 0, 0, 0, 10, []),
  (.iload_n 1, 0, 0, 0, 0, []),
  (.imul, 0, 0, 0, 0, []),
  (.iload_n 3, 0, 0, 0, 0, []),
  (.iadd, 0, 0, 0, 0, []),
  (.iaload, 0, 0, 0, 0, []),
  (.iload_n 2, 0, 0, 0, 0, []),
  (.isub, 0, 0, 0, 0, []),
  (.invokestatic 117, 150, 2, 0, 0, []),
  (.iastore, 0, 0, 0, 0, []),
  (.iinc 3 1, 0, 0, 0, 0, []),
  (.goto (-51), 12, 0, 0, 0, []),
  (.iconst 1, 0, 0, 0, 1, []),
  (.istore_n 3, 0, 0, 0, 0, []),
  (.iload_n 3, 0, 0, 0, 0, []),
  (.iload_n 2, 0, 0, 0, 0, []),
  (.if_icmp .ge 73, 91, 0, 0, 0, []),
  (.aload_n 0, 0, 0, 0, 0, []),
  (.getfield 70, 11, 26, 2, 0, []),
  (.bipush 10, 0, 0, 0, 10, []),
  (.iload_n 1, 0, 0, 0, 0, []),
  (.imul, 0, 0, 0, 0, []),
  (.iload_n 3, 0, 0, 0, 0, []),
  (.iadd, 0, 0, 0, 0, []),
  (.iaload, 0, 0, 0, 0, []),
  (.istore 4, 0, 0, 0, 0, []),
  (.aload_n 0, 0, 0, 0, 0, []),
  (.getfield 73, 11, 27, 2, 0, []),
  (.iload_n 3, 0, 0, 0, 0, []),
  (.iconst 1, 0, 0, 0, 1, []),
  (.iadd, 0, 0, 0, 0, []),
  (.iload 4, 0, 0, 0, 0, []),
  (.iload_n 3, 0, 0, 0, 0, []),
  (.if_icmp .ne 12, 73, 0, 0, 0, []),
  (.aload_n 0, 0, 0, 0, 0, []),
  (.getfield 73, 11, 27, 2, 0, []),
  (.iload_n 3, 0, 0, 0, 0, []),
  (.iaload, 0, 0, 0, 0, []),
  (.goto 31, 88, 0, 0, 0, []),
  (.aload_n 0, 0, 0, 0, 0, []),
  (.getfield 73, 11, 27, 2, 0, []),
  (.iload_n 3, 0, 0, 0, 0, []),
  (.iaload, 0, 0, 0, 0, []),
  (.iload_n 3, 0, 0, 0, 0, []),
  (.invokestatic 135, 163, 2, 0, 0, []),
  (.iload 4, 0, 0, 0, 0, []),
  (.iload_n 2, 0, 0, 0, 0, []),
  (.if_icmp .le 10, 86, 0, 0, 0, []),
  (.iload 4, 0, 0, 0, 0, []),
  (.iload_n 2, 0, 0, 0, 0, []),
  (.isub, 0, 0, 0, 0, []),
  (.goto 5, 87, 0, 0, 0, []),
  (.iload 4, 0, 0, 0, 0, []),
  (.invokestatic 117, 150, 2, 0, 0, []),
  (.iastore, 0, 0, 0, 0, []),
  (.iinc 3 1, 0, 0, 0, 0, []),
  (.goto (-72), 48, 0, 0, 0, []),
  (.return_, 0, 0, 0, 0, [])]
/-- GrassCellsModel.count(I)I -/
def qc_Md_count : List qI := [(.iload_n 1, 0, 0, 0, 0, []),
  (.i2l, 0, 0, 0, 0, []),
  (.lconst 0, 0, 0, 0, 0, []),
  (.ldc2_w 347, 0, 0, 0, 6, []),
  (.invokestatic 80, 138, 3, 0, 0, []),
  (.ifCond .eq 12, 11, 0, 0, 0, []),
  (.aload_n 0, 0, 0, 0, 0, []),
  (.invokevirtual 228, 185, 1, 12, 0, []),
  (.ifCond .ne 5, 11, 0, 0, 0, []),
  (.iconst (-1), 0, 0, 0, (-1), []),
  (.ireturn, 0, 0, 0, 0, []),
  (.iload_n 1, 0, 0, 0, 0, []),
  (.tableswitch 113 0 9 #[54, 59, 64, 69, 81, 87, 93, 98, 103, 108], 48, 0, 0, 0, [(0, 13), (1, 16), (2, 19), (3, 22), (4, 28), (5, 32), (6, 36), (7, 39), (8, 42), (9, 45)]),
  (.aload_n 0, 0, 0, 0, 0, []),
  (.getfield 177, 11, 10, 0, 0, []),
  (.ireturn, 0, 0, 0, 0, []),
  (.aload_n 0, 0, 0, 0, 0, []),
  (.getfield 210, 11, 12, 0, 0, []),
  (.ireturn, 0, 0, 0, 0, []),
  (.aload_n 0, 0, 0, 0, 0, []),
  (.invokevirtual 320, 223, 1, 12, 0, []),
  (.ireturn, 0, 0, 0, 0, []),
  (.aload_n 0, 0, 0, 0, 0, []),
  (.getfield 29, 11, 11, 2, 0, []),
  (.aload_n 0, 0, 0, 0, 0, []),
  (.getfield 177, 11, 10, 0, 0, []),
  (.invokestatic 304, 216, 2, 0, 0, []),
  (.ireturn, 0, 0, 0, 0, []),
  (.aload_n 0, 0, 0, 0, 0, []),
  (.iconst 0, 0, 0, 0, 0, []),
  (.invokevirtual 349, 237, 2, 12, 0, []),
  (.ireturn, 0, 0, 0, 0, []),
  (.aload_n 0, 0, 0, 0, 0, []),
  (.iconst 1, 0, 0, 0, 1, []),
  (.invokevirtual 349, 237, 2, 12, 0, []),
  (.ireturn, 0, 0, 0, 0, []),
  (.aload_n 0, 0, 0, 0, 0, []),
  (.invokevirtual 353, 238, 1, 12, 0, []),
  (.ireturn, 0, 0, 0, 0, []),
  (.aload_n 0, 0, 0, 0, 0, []),
  (.getfield 298, 11, 20, 0, 0, []),
  (.ireturn, 0, 0, 0, 0, []),
  (.aload_n 0, 0, 0, 0, 0, []),
  (.invokevirtual 356, 239, 1, 12, 0, []),
  (.ireturn, 0, 0, 0, 0, []),
  (.aload_n 0, 0, 0, 0, 0, []),
  (.getfield 76, 11, 1, 0, 0, []),
  (.ireturn, 0, 0, 0, 0, []),
  (.iconst (-1), 0, 0, 0, (-1), []),
  (.ireturn, 0, 0, 0, 0, [])]
/-- GrassCellsModel.loops(Z)I -/
def qc_Md_loops : List qI := [(.iconst 0, 0, 0, 0, 0, []),
  (.istore_n 2, 0, 0, 0, 0, []),
  (.iconst 1, 0, 0, 0, 1, []),
  (.istore_n 3, 0, 0, 0, 0, []),
  (.iload_n 3, 0, 0, 0, 0, []),
  (.aload_n 0, 0, 0, 0, 0, []),
  (.getfield 177, 11, 10, 0, 0, []),
  (.if_icmp .gt 38, 27, 0, 0, 0, []),
  (.aload_n 0, 0, 0, 0, 0, []),
  (.getfield 29, 11, 11, 2, 0, []),
  (.iload_n 3, 0, 0, 0, 0, []),
  (.iaload, 0, 0, 0, 0, []),
  (.iload_n 1, 0, 0, 0, 0, []),
  (.ifCond .eq 12, 19, 0, 0, 0, []),
  (.iload_n 3, 0, 0, 0, 0, []),
  (.aload_n 0, 0, 0, 0, 0, []),
  (.getfield 177, 11, 10, 0, 0, []),
  (.iadd, 0, 0, 0, 0, []),
  (.goto 4, 20, 0, 0, 0, []),
  (.iload_n 3, 0, 0, 0, 0, []),
  (.if_icmp .ne 9, 25, 0, 0, 0, []),
  (.iload_n 2, 0, 0, 0, 0, []),
  (.iload_n 3, 0, 0, 0, 0, []),
  (.invokestatic 117, 150, 2, 0, 0, []),
  (.istore_n 2, 0, 0, 0, 0, []),
  (.iinc 3 1, 0, 0, 0, 0, []),
  (.goto (-40), 4, 0, 0, 0, []),
  (.iload_n 2, 0, 0, 0, 0, []),
  (.ireturn, 0, 0, 0, 0, [])]
/-- GrassCellsModel.parts()I -/
def qc_Md_parts : List qI := [(.aload_n 0, 0, 0, 0, 0, []),
  (.invokevirtual 243, 192, 1, 12, 0, []),
  (.iconst 0, 0, 0, 0, 0, []),
  (.istore_n 1, 0, 0, 0, 0, []),
  (.iconst 1, 0, 0, 0, 1, []),
  (.istore_n 2, 0, 0, 0, 0, []),
  (.iload_n 2, 0, 0, 0, 0, []),
  (.aload_n 0, 0, 0, 0, 0, []),
  (.getfield 177, 11, 10, 0, 0, []),
  (.if_icmp .gt 27, 24, 0, 0, 0, []),
  (.iload_n 1, 0, 0, 0, 0, []),
  (.aload_n 0, 0, 0, 0, 0, []),
  (.getfield 42, 11, 16, 2, 0, []),
  (.iload_n 2, 0, 0, 0, 0, []),
  (.iaload, 0, 0, 0, 0, []),
  (.iload_n 2, 0, 0, 0, 0, []),
  (.if_icmp .ne 7, 19, 0, 0, 0, []),
  (.iconst 1, 0, 0, 0, 1, []),
  (.goto 4, 20, 0, 0, 0, []),
  (.iconst 0, 0, 0, 0, 0, []),
  (.iadd, 0, 0, 0, 0, []),
  (.istore_n 1, 0, 0, 0, 0, []),
  (.iinc 2 1, 0, 0, 0, 0, []),
  (.goto (-29), 6, 0, 0, 0, []),
  (.iload_n 1, 0, 0, 0, 0, []),
  (.ireturn, 0, 0, 0, 0, [])]
/-- GrassCellsModel.kept()I -/
def qc_Md_kept : List qI := [(.iconst 0, 0, 0, 0, 0, []),
  (.istore_n 1, 0, 0, 0, 0, []),
  (.iconst 0, 0, 0, 0, 0, []),
  (.istore_n 2, 0, 0, 0, 0, []),
  (.iload_n 2, 0, 0, 0, 0, []),
  (.iconst 4, 0, 0, 0, 4, []),
  (.if_icmp .ge 28, 22, 0, 0, 0, []),
  (.iload_n 1, 0, 0, 0, 0, []),
  (.aload_n 0, 0, 0, 0, 0, []),
  (.getfield 67, 11, 25, 2, 0, []),
  (.iload_n 2, 0, 0, 0, 0, []),
  (.iaload, 0, 0, 0, 0, []),
  (.ifCond .le 9, 17, 0, 0, 0, []),
  (.iconst 1, 0, 0, 0, 1, []),
  (.iload_n 2, 0, 0, 0, 0, []),
  (.ishl, 0, 0, 0, 0, []),
  (.goto 4, 18, 0, 0, 0, []),
  (.iconst 0, 0, 0, 0, 0, []),
  (.ior, 0, 0, 0, 0, []),
  (.istore_n 1, 0, 0, 0, 0, []),
  (.iinc 2 1, 0, 0, 0, 0, []),
  (.goto (-27), 4, 0, 0, 0, []),
  (.iload_n 1, 0, 0, 0, 0, []),
  (.ireturn, 0, 0, 0, 0, [])]
def q_code_0 : List (List qI) := [qc_Law_law, qc_GC_init, qc_J_init, qc_Re_init, qc_Ta_init, qc_Di_init, qc_Ce_init, qc_Co_init, qc_Ne_init, qc_Pa_init, qc_Mo_init, qc_Cs_init, qc_Sh_init, qc_GC_feed, qc_Ta_append, qc_GC_end]
def q_code_1 : List (List qI) := [qc_GC_cell, qc_Re_read, qc_Re_skipBlanks, qc_Ta_at, qc_Ta_isSmallLetter, qc_Ta_fourBytes, qc_Re_readNumbers, qc_Re_readNumber, qc_Ta_isDigit, qc_Re_fault, qc_Re_faultOfNumbers, qc_Se_only, qc_Re_readFilling, qc_Re_readPath, qc_Re_isLetterOfPath, qc_Di_clear]
def q_code_2 : List (List qI) := [qc_J_fill, qc_Se_holds, qc_Re_readRow, qc_Di_isBox, qc_Di_setPlus, qc_Re_faultOfBoxes, qc_Di_breaksLe, qc_Di_isPlus, qc_Di_imageOf, qc_Di_nextColumn, qc_Di_rowAbove, qc_Re_readSets, qc_Re_readSet, qc_Re_faultOfSets, qc_Se_upTo, qc_J_bitCount]
def q_code_3 : List (List qI) := [qc_Se_canStandBehind, qc_Re_imageBetween, qc_Se_least, qc_J_numberOfTrailingZeros, qc_GC_become, qc_Pa_record, qc_J_min, qc_Co_copyFrom, qc_Ce_take, qc_Ce_layNecklace, qc_Ce_layBases, qc_Ce_isSet, qc_Ce_areLabels, qc_Ce_isAtLeastNecklace, qc_Se_atLeast, qc_Ce_inversionsOf]
def q_code_4 : List (List qI) := [qc_Di_drawFor, qc_Co_layFor, qc_Co_add, qc_Co_contains, qc_Co_crossesNone, qc_Se_crossing, qc_GC_f, qc_Ce_isLabel, qc_GC_neck, qc_GC_box, qc_GC_bases, qc_GC_basis, qc_GC_rank, qc_Ce_rankOf, qc_J_max, qc_GC_exchange]
def q_code_5 : List (List qI) := [qc_Ce_isBasis, qc_Ce_leastExchange, qc_GC_part, qc_Ce_hangingTogether, qc_Ce_exchangeable, qc_GC_ways, qc_Di_waysTo, qc_Di_countPathsTo, qc_J_fill2, qc_Di_expandRow, qc_J_abs, qc_GC_cross, qc_GC_cluster, qc_GC_square, qc_Co_movedFrom, qc_Ce_isOfNecklace]
def q_code_6 : List (List qI) := [qc_Co_movedAt, qc_Co_hasCorners, qc_GC_move, qc_Co_remove, qc_GC_lower, qc_GC_valueOfNext, qc_Ne_howManyFrom, qc_Ne_seek, qc_Ne_swap, qc_GC_upper, qc_GC_down, qc_GC_stepToNext, qc_Ce_dimension, qc_Di_plusCount, qc_GC_up, qc_GC_turn]
def q_code_7 : List (List qI) := [qc_GC_mirror, qc_Ce_origin, qc_GC_complement, qc_GC_undo, qc_Pa_takeLast, qc_GC_howMany, qc_Cs_cells, qc_Cs_clearThen, qc_Cs_flip, qc_Cs_endLowestRow, qc_J_highestOneBit, qc_J_numberOfLeadingZeros, qc_Cs_pass, qc_Cs_addColumn, qc_GC_keep, qc_Sh_put]
def q_code_8 : List (List qI) := [qc_GC_has, qc_Sh_isInClosureOf, qc_GC_count, qc_GC_filledShelves, qc_GC_countOfLive, qc_Ce_fixedLabels, qc_Ce_partCount, qc_Md_init, qc_Md_feed, qc_Md_end, qc_Md_isIn, qc_Md_cell, qc_Md_wordHere, qc_Md_next, qc_Md_byteAt, qc_Md_isLetter]
def q_code_9 : List (List qI) := [qc_Md_fails, qc_Md_readsRest, qc_Md_readsPerm, qc_Md_isDigit, qc_Md_isLikeAhead, qc_Md_readsFill, qc_Md_with, qc_Md_laysShape, qc_Md_has, qc_Md_isBox, qc_Md_isLe, qc_Md_isPlus, qc_Md_goesFrom, qc_Md_rowAbove, qc_Md_columnLeft, qc_Md_outAt]
def q_code_10 : List (List qI) := [qc_Md_readsNeck, qc_Md_isNeck, qc_Md_canStand, qc_Md_without, qc_Md_sizeOf, qc_Md_laysByNeck, qc_Md_stepOf, qc_Md_laysDiagram, qc_Md_isOwnDiagram, qc_Md_searchesDiagram, qc_Md_isAllLe, qc_Md_keepsAct, qc_Md_changes, qc_Md_follows, qc_Md_laysNeck, qc_Md_laysBases]
def q_code_11 : List (List qI) := [qc_Md_isAtLeast, qc_Md_laysCluster, qc_Md_crossesNone, qc_Md_doCross, qc_Md_f, qc_Md_isLabel, qc_Md_neck, qc_Md_box, qc_Md_bases, qc_Md_isCell, qc_Md_basis, qc_Md_kthOf, qc_Md_rank, qc_Md_exchange, qc_Md_isBasisHere, qc_Md_part]
def q_code_12 : List (List qI) := [qc_Md_laysParts, qc_Md_hang, qc_Md_ways, qc_Md_isSet, qc_Md_laysPaths, qc_Md_plusToRight, qc_Md_plusAbove, qc_Md_endsAt, qc_Md_determinant, qc_Md_of, qc_Md_two, qc_Md_three, qc_Md_cross, qc_Md_cluster, qc_Md_square, qc_Md_squareAt]
def q_code_13 : List (List qI) := [qc_Md_isOfNeck, qc_Md_squareBy, qc_Md_isThere, qc_Md_move, qc_Md_undo, qc_Md_lower, qc_Md_toldNext, qc_Md_nextOnes, qc_Md_inversionsOf, qc_Md_at, qc_Md_swaps, qc_Md_isNext, qc_Md_upper, qc_Md_down, qc_Md_goes, qc_Md_dim]
def q_code_14 : List (List qI) := [qc_Md_up, qc_Md_turn, qc_Md_mirror, qc_Md_becomesNew, qc_Md_leastFrom, qc_Md_complement, qc_Md_howMany, qc_Md_isFree, qc_Md_isOne, qc_Md_keep, qc_Md_has2, qc_Md_laysItsNeck, qc_Md_count, qc_Md_loops, qc_Md_parts, qc_Md_kept]
def q_code_all : List (List (List qI)) := [q_code_0, q_code_1, q_code_2, q_code_3, q_code_4, q_code_5, q_code_6, q_code_7, q_code_8, q_code_9, q_code_10, q_code_11, q_code_12, q_code_13, q_code_14]
def q_code (m : Nat) : List qI := match q_code_all[m / 16]? with
  | some l => (match l[m % 16]? with
    | some c => c
    | none => [])
  | none => []
def q_ml_0 : List Nat := [4, 2, 1, 1, 1, 1, 1, 1, 1, 2, 1, 1, 1, 6, 3, 2]
def q_ml_1 : List Nat := [2, 3, 1, 2, 2, 2, 1, 4, 2, 3, 4, 1, 2, 2, 1, 3]
def q_ml_2 : List Nat := [4, 2, 3, 3, 3, 4, 4, 3, 6, 3, 3, 1, 6, 3, 1, 1]
def q_ml_3 : List Nat := [4, 5, 1, 2, 3, 5, 2, 3, 4, 4, 2, 2, 2, 3, 7, 5]
def q_ml_4 : List Nat := [5, 3, 3, 3, 4, 9, 2, 2, 2, 3, 1, 2, 2, 4, 2, 4]
def q_ml_5 : List Nat := [2, 5, 2, 6, 5, 2, 6, 6, 5, 9, 2, 3, 2, 5, 6, 3]
def q_ml_6 : List Nat := [9, 6, 3, 4, 3, 4, 3, 6, 9, 3, 2, 3, 1, 3, 2, 2]
def q_ml_7 : List Nat := [2, 3, 2, 2, 2, 4, 6, 2, 2, 4, 1, 2, 5, 5, 2, 3]
def q_ml_8 : List Nat := [2, 3, 2, 3, 2, 4, 4, 2, 8, 2, 6, 4, 3, 1, 2, 1]
def q_ml_9 : List Nat := [3, 2, 3, 1, 3, 5, 2, 5, 2, 3, 7, 3, 9, 4, 5, 4]
def q_ml_10 : List Nat := [6, 4, 4, 2, 3, 2, 6, 6, 2, 5, 3, 3, 1, 1, 2, 4]
def q_ml_11 : List Nat := [7, 2, 3, 8, 2, 2, 2, 3, 3, 1, 2, 4, 4, 5, 2, 2]
def q_ml_12 : List Nat := [6, 5, 9, 2, 8, 4, 4, 3, 2, 3, 5, 4, 3, 2, 4, 5]
def q_ml_13 : List Nat := [3, 6, 4, 3, 3, 3, 5, 7, 5, 3, 5, 3, 3, 2, 4, 1]
def q_ml_14 : List Nat := [2, 3, 4, 2, 5, 2, 6, 4, 6, 3, 5, 5, 2, 4, 3, 3]
def q_ml_all : List (List Nat) := [q_ml_0, q_ml_1, q_ml_2, q_ml_3, q_ml_4, q_ml_5, q_ml_6, q_ml_7, q_ml_8, q_ml_9, q_ml_10, q_ml_11, q_ml_12, q_ml_13, q_ml_14]
def q_ml (m : Nat) : Nat := match q_ml_all[m / 16]? with
  | some l => (match l[m % 16]? with
    | some c => c
    | none => 0)
  | none => 0
end
section
/-! printed by wip/whole/shape.py: the objects as they stand behind the constructors -/
abbrev t_none : Nat := 0
abbrev t_script : Nat := 1
abbrev t_GC : Nat := 2
abbrev t_scratch : Nat := 3
abbrev t_shelves : Nat := 4
abbrev t_Sh : Nat := 5
abbrev t_shBL : Nat := 6
abbrev t_Re : Nat := 7
abbrev t_sets : Nat := 8
abbrev t_begins : Nat := 9
abbrev t_reImg : Nat := 10
abbrev t_Ta : Nat := 11
abbrev t_bytes : Nat := 12
abbrev t_Di : Nat := 13
abbrev t_plus : Nat := 14
abbrev t_atLeft : Nat := 15
abbrev t_atTop : Nat := 16
abbrev t_below : Nat := 17
abbrev t_paths : Nat := 18
abbrev t_pathRow : Nat := 19
abbrev t_minors : Nat := 20
abbrev t_Ce : Nat := 21
abbrev t_img : Nat := 22
abbrev t_nl : Nat := 23
abbrev t_bl : Nat := 24
abbrev t_inB : Nat := 25
abbrev t_Co : Nat := 26
abbrev t_coSets : Nat := 27
abbrev t_Ne : Nat := 28
abbrev t_neImg : Nat := 29
abbrev t_Pa : Nat := 30
abbrev t_ring : Nat := 31
abbrev t_Mo : Nat := 32
abbrev t_moImg : Nat := 33
abbrev t_Cs : Nat := 34
abbrev t_tab : Nat := 35
abbrev t_tabRow : Nat := 36
abbrev t_Md : Nat := 37
abbrev t_mTape : Nat := 38
abbrev t_mWords : Nat := 39
abbrev t_mReadF : Nat := 40
abbrev t_mPlaces : Nat := 41
abbrev t_mReadSet : Nat := 42
abbrev t_mBoxes : Nat := 43
abbrev t_mF : Nat := 44
abbrev t_mNeck : Nat := 45
abbrev t_mIsB : Nat := 46
abbrev t_mInC : Nat := 47
abbrev t_mPartOf : Nat := 48
abbrev t_mCome : Nat := 49
abbrev t_mMatrix : Nat := 50
abbrev t_mWas : Nat := 51
abbrev t_mOther : Nat := 52
abbrev t_mIsNew : Nat := 53
abbrev t_mNewNeck : Nat := 54
abbrev t_mTried : Nat := 55
abbrev t_mShN : Nat := 56
abbrev t_mShF : Nat := 57
abbrev t_mItsNeck : Nat := 58
def q_kl_0 : List (Option (Nat × Nat)) := [none, some (99, 0), some (0, 10), some (1, 9), some (15, 4), some (0, 8), some (1, 70), some (0, 7)]
def q_kl_1 : List (Option (Nat × Nat)) := [some (1, 9), some (1, 9), some (1, 9), some (0, 9), some (1, 160), some (0, 3), some (1, 9), some (1, 9)]
def q_kl_2 : List (Option (Nat × Nat)) := [some (1, 9), some (4, 9), some (6, 9), some (4, 9), some (4, 256), some (0, 0), some (1, 9), some (1, 9)]
def q_kl_3 : List (Option (Nat × Nat)) := [some (1, 70), some (3, 256), some (0, 2), some (1, 70), some (0, 5), some (1, 9), some (0, 6), some (11, 20)]
def q_kl_4 : List (Option (Nat × Nat)) := [some (0, 4), some (1, 9), some (0, 1), some (5, 16), some (1, 13), some (0, 11), some (2, 160), some (2, 12)]
def q_kl_5 : List (Option (Nat × Nat)) := [some (1, 10), some (1, 10), some (1, 10), some (1, 81), some (1, 10), some (1, 10), some (3, 256), some (3, 256)]
def q_kl_6 : List (Option (Nat × Nat)) := [some (1, 10), some (4, 81), some (4, 16), some (1, 400), some (1, 10), some (3, 256), some (1, 10), some (1, 10)]
def q_kl_7 : List (Option (Nat × Nat)) := [some (1, 4), some (1, 40), some (1, 10)]
def q_kl_all : List (List (Option (Nat × Nat))) := [q_kl_0, q_kl_1, q_kl_2, q_kl_3, q_kl_4, q_kl_5, q_kl_6, q_kl_7]
def q_kind (t : Nat) : Option (Nat × Nat) := match q_kl_all[t / 8]? with
  | some l => (match l[t % 8]? with
    | some c => c
    | none => none)
  | none => none
def q_env : qR → Option (Nat × Nat)
  | (t, _) => q_kind t
def q_rl_0 : List (Nat → Nat → Nat → Option qR) := [(fun _ _ _ => none), (fun _ _ _ => none), (fun b i k => match k with | 0 => some (t_Re, 0) | 1 => some (t_Ce, 0) | 2 => some (t_Co, 20) | 3 => some (t_Ne, 0) | 4 => some (t_Pa, 0) | 5 => some (t_Cs, 0) | 6 => some (t_shelves, 0) | 7 => some (t_scratch, 0) | _ => none), (fun _ _ _ => none), (fun _ i k => some (t_Sh, k)), (fun b i k => match k with | 3 => some (t_shBL, i) | _ => none), (fun _ _ _ => none), (fun b i k => match k with | 0 => some (t_Ta, 0) | 1 => some (t_Di, 0) | 2 => some (t_sets, 0) | 3 => some (t_begins, 0) | 6 => some (t_reImg, 0) | _ => none)]
def q_rl_1 : List (Nat → Nat → Nat → Option qR) := [(fun _ _ _ => none), (fun _ _ _ => none), (fun _ _ _ => none), (fun b i k => match k with | 0 => some (t_bytes, 0) | _ => none), (fun _ _ _ => none), (fun b i k => match k with | 2 => some (t_plus, i) | 3 => some (t_atLeft, i) | 4 => some (t_atTop, i) | 5 => some (t_below, i) | 6 => some (t_paths, i) | 7 => some (t_minors, i) | _ => none), (fun _ _ _ => none), (fun _ _ _ => none)]
def q_rl_2 : List (Nat → Nat → Nat → Option qR) := [(fun _ _ _ => none), (fun _ _ _ => none), (fun _ i k => some (t_pathRow, 9 * i + k)), (fun _ _ _ => none), (fun _ _ _ => none), (fun b i k => match k with | 4 => some (t_img, 0) | 5 => some (t_nl, 0) | 6 => some (t_bl, 0) | 7 => some (t_Di, 1) | 8 => some (t_inB, 0) | _ => none), (fun _ _ _ => none), (fun _ _ _ => none)]
def q_rl_3 : List (Nat → Nat → Nat → Option qR) := [(fun _ _ _ => none), (fun _ _ _ => none), (fun b i k => match k with | 0 => some (t_coSets, i) | _ => none), (fun _ _ _ => none), (fun b i k => match k with | 0 => some (t_neImg, 0) | _ => none), (fun _ _ _ => none), (fun b i k => match k with | 0 => some (t_ring, 0) | _ => none), (fun _ i k => some (t_Mo, k))]
def q_rl_4 : List (Nat → Nat → Nat → Option qR) := [(fun b i k => match k with | 0 => some (t_moImg, i) | 1 => some (t_Co, i) | _ => none), (fun _ _ _ => none), (fun b i k => match k with | 0 => some (t_tab, b) | 1 => some (t_tab, 1 - b) | _ => none), (fun _ i k => some (t_tabRow, 16 * i + k)), (fun _ _ _ => none), (fun b i k => match k with | 0 => some (t_mTape, 0) | 4 => some (t_mWords, 0) | 6 => some (t_mReadF, 0) | 7 => some (t_mPlaces, 0) | 8 => some (t_mReadSet, 0) | 9 => some (t_mBoxes, 0) | 11 => some (t_mF, 0) | 13 => some (t_mNeck, 0) | 14 => some (t_mIsB, 0) | 15 => some (t_mInC, 0) | 16 => some (t_mPartOf, 0) | 17 => some (t_mCome, 0) | 18 => some (t_mMatrix, 0) | 19 => some (t_mWas, 0) | 21 => some (t_mOther, 0) | 22 => some (t_mIsNew, 0) | 23 => some (t_mNewNeck, 0) | 24 => some (t_mTried, 0) | 25 => some (t_mShN, 0) | 26 => some (t_mShF, 0) | 27 => some (t_mItsNeck, 0) | _ => none), (fun _ _ _ => none), (fun _ _ _ => none)]
def q_rl_5 : List (Nat → Nat → Nat → Option qR) := [(fun _ _ _ => none), (fun _ _ _ => none), (fun _ _ _ => none), (fun _ _ _ => none), (fun _ _ _ => none), (fun _ _ _ => none), (fun _ _ _ => none), (fun _ _ _ => none)]
def q_rl_6 : List (Nat → Nat → Nat → Option qR) := [(fun _ _ _ => none), (fun _ _ _ => none), (fun _ _ _ => none), (fun _ _ _ => none), (fun _ _ _ => none), (fun _ _ _ => none), (fun _ _ _ => none), (fun _ _ _ => none)]
def q_rl_7 : List (Nat → Nat → Nat → Option qR) := [(fun _ _ _ => none), (fun _ _ _ => none), (fun _ _ _ => none)]
def q_rl_all : List (List (Nat → Nat → Nat → Option qR)) := [q_rl_0, q_rl_1, q_rl_2, q_rl_3, q_rl_4, q_rl_5, q_rl_6, q_rl_7]
def q_R (b t i k : Nat) : Option qR := match q_rl_all[t / 8]? with
  | some l => (match l[t % 8]? with
    | some f => f b i k
    | none => none)
  | none => none
def q_refs : List qR := [(t_GC, 0), (t_scratch, 0), (t_shelves, 0), (t_Sh, 0), (t_Sh, 1), (t_Sh, 2), (t_Sh, 3), (t_shBL, 0), (t_shBL, 1), (t_shBL, 2), (t_shBL, 3), (t_Re, 0), (t_sets, 0), (t_begins, 0), (t_reImg, 0), (t_Ta, 0), (t_bytes, 0), (t_Di, 0), (t_Di, 1), (t_plus, 0), (t_plus, 1), (t_atLeft, 0), (t_atLeft, 1), (t_atTop, 0), (t_atTop, 1), (t_below, 0), (t_below, 1), (t_paths, 0), (t_paths, 1), (t_pathRow, 0), (t_pathRow, 1), (t_pathRow, 2), (t_pathRow, 3), (t_pathRow, 4), (t_pathRow, 5), (t_pathRow, 6), (t_pathRow, 7), (t_pathRow, 8), (t_pathRow, 9), (t_pathRow, 10), (t_pathRow, 11), (t_pathRow, 12), (t_pathRow, 13), (t_pathRow, 14), (t_pathRow, 15), (t_pathRow, 16), (t_pathRow, 17), (t_minors, 0), (t_minors, 1), (t_Ce, 0), (t_img, 0), (t_nl, 0), (t_bl, 0), (t_inB, 0), (t_Co, 0), (t_Co, 1), (t_Co, 2), (t_Co, 3), (t_Co, 4), (t_Co, 5), (t_Co, 6), (t_Co, 7), (t_Co, 8), (t_Co, 9), (t_Co, 10), (t_Co, 11), (t_Co, 12), (t_Co, 13), (t_Co, 14), (t_Co, 15), (t_Co, 16), (t_Co, 17), (t_Co, 18), (t_Co, 19), (t_Co, 20), (t_coSets, 0), (t_coSets, 1), (t_coSets, 2), (t_coSets, 3), (t_coSets, 4), (t_coSets, 5), (t_coSets, 6), (t_coSets, 7), (t_coSets, 8), (t_coSets, 9), (t_coSets, 10), (t_coSets, 11), (t_coSets, 12), (t_coSets, 13), (t_coSets, 14), (t_coSets, 15), (t_coSets, 16), (t_coSets, 17), (t_coSets, 18), (t_coSets, 19), (t_coSets, 20), (t_Ne, 0), (t_neImg, 0), (t_Pa, 0), (t_ring, 0), (t_Mo, 0), (t_Mo, 1), (t_Mo, 2), (t_Mo, 3), (t_Mo, 4), (t_Mo, 5), (t_Mo, 6), (t_Mo, 7), (t_Mo, 8), (t_Mo, 9), (t_Mo, 10), (t_Mo, 11), (t_Mo, 12), (t_Mo, 13), (t_Mo, 14), (t_Mo, 15), (t_Mo, 16), (t_Mo, 17), (t_Mo, 18), (t_Mo, 19), (t_moImg, 0), (t_moImg, 1), (t_moImg, 2), (t_moImg, 3), (t_moImg, 4), (t_moImg, 5), (t_moImg, 6), (t_moImg, 7), (t_moImg, 8), (t_moImg, 9), (t_moImg, 10), (t_moImg, 11), (t_moImg, 12), (t_moImg, 13), (t_moImg, 14), (t_moImg, 15), (t_moImg, 16), (t_moImg, 17), (t_moImg, 18), (t_moImg, 19), (t_Cs, 0), (t_tab, 0), (t_tab, 1), (t_tabRow, 0), (t_tabRow, 1), (t_tabRow, 2), (t_tabRow, 3), (t_tabRow, 4), (t_tabRow, 5), (t_tabRow, 6), (t_tabRow, 7), (t_tabRow, 8), (t_tabRow, 9), (t_tabRow, 10), (t_tabRow, 11), (t_tabRow, 12), (t_tabRow, 13), (t_tabRow, 14), (t_tabRow, 15), (t_tabRow, 16), (t_tabRow, 17), (t_tabRow, 18), (t_tabRow, 19), (t_tabRow, 20), (t_tabRow, 21), (t_tabRow, 22), (t_tabRow, 23), (t_tabRow, 24), (t_tabRow, 25), (t_tabRow, 26), (t_tabRow, 27), (t_tabRow, 28), (t_tabRow, 29), (t_tabRow, 30), (t_tabRow, 31), (t_Md, 0), (t_mTape, 0), (t_mWords, 0), (t_mReadF, 0), (t_mPlaces, 0), (t_mReadSet, 0), (t_mBoxes, 0), (t_mF, 0), (t_mNeck, 0), (t_mIsB, 0), (t_mInC, 0), (t_mPartOf, 0), (t_mCome, 0), (t_mMatrix, 0), (t_mWas, 0), (t_mOther, 0), (t_mIsNew, 0), (t_mNewNeck, 0), (t_mTried, 0), (t_mShN, 0), (t_mShF, 0), (t_mItsNeck, 0)]
end
section
/-! THE SMALL MACHINE, its step, its runs, and 'Ev': where a run comes to -/
abbrev qG : Type := List (Jvm.ClassFile.Cond × Int × Int)
abbrev qA : Type := Option ((qG × qLo × List qV × qW) ⊕ ((Nat × qLo × List qV × qW) ⊕ ((Jvm.ClassFile.Cond × Int × Int × Nat × qLo × List qV × qW) ⊕ ((Int × List (Int × Nat) × Nat × qLo × List qV × qW) ⊕ ((Nat × List qV × qLo × List qV × qW) ⊕ (qG × Option qV × qW))))))
abbrev q_ng (g : qG) (l : qLo) (s : List qV) (w : qW) : qA := some (.inl (g, l, s, w))
abbrev q_nx (l : qLo) (s : List qV) (w : qW) : qA := some (.inl ([], l, s, w))
abbrev q_jp (t : Nat) (l : qLo) (s : List qV) (w : qW) : qA := some (.inr (.inl (t, l, s, w)))
abbrev q_br (o : Jvm.ClassFile.Cond) (x y : Int) (t : Nat) (l : qLo) (s : List qV) (w : qW) : qA := some (.inr (.inr (.inl (o, x, y, t, l, s, w))))
abbrev q_sw (x : Int) (ts : List (Int × Nat)) (d : Nat) (l : qLo) (s : List qV) (w : qW) : qA := some (.inr (.inr (.inr (.inl (x, ts, d, l, s, w)))))
abbrev q_cl (m : Nat) (as : List qV) (l : qLo) (s : List qV) (w : qW) : qA := some (.inr (.inr (.inr (.inr (.inl (m, as, l, s, w))))))
abbrev q_rt (g : qG) (v : Option qV) (w : qW) : qA := some (.inr (.inr (.inr (.inr (.inr (g, v, w))))))
def q_isI (v : qV) : Bool := match v with
  | .inl _ => true
  | _ => false
def q_isL (v : qV) : Bool := match v with
  | .inr (.inl _) => true
  | _ => false
def q_isR (v : qV) : Bool := match v with
  | .inr (.inr _) => true
  | _ => false
def q_ld (loc : qLo) (k : Nat) (st : List qV) (w : qW) (g : qV → Bool) : qA := match loc[k]? with
  | some (some v) => (match g v with
    | true => q_nx loc (v :: st) w
    | false => none)
  | _ => none
/-- the place ahead loses its long, if it holds one -/
def q_clr (loc : qLo) (k : Nat) : qLo := match k with
  | 0 => loc
  | j + 1 => (match loc[j]? with
    | some (some (.inr (.inl _))) => loc.set j none
    | _ => loc)
def q_st1 (loc : qLo) (k : Nat) (st : List qV) (w : qW) (g : qV → Bool) : qA := match st with
  | v :: r => (match g v && Nat.blt k loc.length with
    | true => q_nx ((q_clr loc k).set k (some v)) r w
    | false => none)
  | _ => none
def q_st2 (loc : qLo) (k : Nat) (st : List qV) (w : qW) : qA := match st with
  | .inr (.inl v) :: r => (match Nat.blt (k + 1) loc.length with
    | true => q_nx (((q_clr loc k).set k (some (.inr (.inl v)))).set (k + 1) none) r w
    | false => none)
  | _ => none
def q_inc (loc : qLo) (k : Nat) (c : Int) (st : List qV) (w : qW) : qA := match loc[k]? with
  | some (some (.inl x)) => q_nx (loc.set k (some (.inl (q_w (x + c))))) st w
  | _ => none
def q_bin (loc : qLo) (st : List qV) (w : qW) (f : Int → Int → Int) : qA := match st with
  | .inl y :: .inl x :: r => q_nx loc (.inl (f x y) :: r) w
  | _ => none
def q_dv (loc : qLo) (st : List qV) (w : qW) (f : Int → Int → Int) : qA := match st with
  | .inl y :: .inl x :: r => q_ng [(.ne, y, 0)] loc (.inl (f x y) :: r) w
  | _ => none
def q_binL (loc : qLo) (st : List qV) (w : qW) (f : Int64 → Int64 → qV) : qA := match st with
  | .inr (.inl y) :: .inr (.inl x) :: r => q_nx loc (f x y :: r) w
  | _ => none
def q_un (loc : qLo) (st : List qV) (w : qW) (f : Int → qV) : qA := match st with
  | .inl x :: r => q_nx loc (f x :: r) w
  | _ => none
def q_unL (loc : qLo) (st : List qV) (w : qW) (f : Int64 → qV) : qA := match st with
  | .inr (.inl x) :: r => q_nx loc (f x :: r) w
  | _ => none
def q_if1 (o : Jvm.ClassFile.Cond) (t : Nat) (loc : qLo) (st : List qV) (w : qW) : qA := match st with
  | .inl x :: r => q_br o x 0 t loc r w
  | _ => none
def q_if2 (o : Jvm.ClassFile.Cond) (t : Nat) (loc : qLo) (st : List qV) (w : qW) : qA := match st with
  | .inl y :: .inl x :: r => q_br o x y t loc r w
  | _ => none
def q_swi (ts : List (Int × Nat)) (d : Nat) (loc : qLo) (st : List qV) (w : qW) : qA := match st with
  | .inl x :: r => q_sw x ts d loc r w
  | _ => none
def q_get (a b c : Nat) (loc : qLo) (st : List qV) (env : qR → Option (Nat × Nat)) (w : qW) : qA := match st with
  | .inr (.inr (t, i)) :: s => (match env (t, i) with
    | some (0, c') => (match Nat.beq c' a with
      | true => (match c with
        | 0 => q_nx loc (.inl (w.1 t i b) :: s) w
        | _ => (match w.2.2 t i b with
          | some r' => q_nx loc (.inr (.inr r') :: s) w
          | none => none))
      | false => none)
    | _ => none)
  | _ => none
def q_put (a b c : Nat) (loc : qLo) (st : List qV) (env : qR → Option (Nat × Nat)) (w : qW) : qA := match st with
  | v :: .inr (.inr (t, i)) :: s => (match env (t, i) with
    | some (0, c') => (match Nat.beq c' a with
      | true => (match c, v with
        | 0, .inl x => q_nx loc s (q_setI w t i b x)
        | 2, .inr (.inr x) => (match env x with
          | some (k, _) => (match Nat.blt k 99 with
            | true => q_nx loc s (q_setR w t i b (some x))
            | false => none)
          | none => none)
        | _, _ => none)
      | false => none)
    | _ => none)
  | _ => none
/-- a row of ints (k 1), bytes or booleans (k 2), or the script in the law itself -/
def q_ald (mi k : Nat) (loc : qLo) (st : List qV) (env : qR → Option (Nat × Nat)) (w : qW) : qA := match st with
  | .inl j :: .inr (.inr (t, i)) :: s => (match env (t, i) with
    | some (k', n) => (match Nat.beq k' 99 with
      | true => (match Nat.beq mi 0 && (Nat.beq k 1 && (Nat.beq t 1 && Nat.beq i 0)) with
        | true => q_ng [(.ge, j, 0), (.lt, j, w.1 1 1 0)] loc (.inl (w.1 1 0 j.toNat) :: s) w
        | false => none)
      | false => (match Nat.beq k' k || (Nat.beq k' 3 && Nat.beq k 2) with
        | true => q_ng [(.ge, j, 0), (.lt, j, n)] loc (.inl (w.1 t i j.toNat) :: s) w
        | false => none))
    | _ => none)
  | _ => none
def q_ast (k : Nat) (loc : qLo) (st : List qV) (env : qR → Option (Nat × Nat)) (w : qW) : qA := match st with
  | .inl x :: .inl j :: .inr (.inr (t, i)) :: s => (match env (t, i) with
    | some (k', n) => (match Nat.beq k' k || (Nat.beq k' 3 && Nat.beq k 2) with
      | true => q_ng [(.ge, j, 0), (.lt, j, n)] loc s (q_setI w t i j.toNat (q_nar k' x))
      | false => none)
    | _ => none)
  | _ => none
def q_lld (loc : qLo) (st : List qV) (env : qR → Option (Nat × Nat)) (w : qW) : qA := match st with
  | .inl j :: .inr (.inr (t, i)) :: s => (match env (t, i) with
    | some (4, n) => q_ng [(.ge, j, 0), (.lt, j, n)] loc (.inr (.inl (w.2.1 t i j.toNat)) :: s) w
    | _ => none)
  | _ => none
def q_lst (loc : qLo) (st : List qV) (env : qR → Option (Nat × Nat)) (w : qW) : qA := match st with
  | .inr (.inl x) :: .inl j :: .inr (.inr (t, i)) :: s => (match env (t, i) with
    | some (4, n) => q_ng [(.ge, j, 0), (.lt, j, n)] loc s (q_setL w t i j.toNat x)
    | _ => none)
  | _ => none
def q_rld (loc : qLo) (st : List qV) (env : qR → Option (Nat × Nat)) (w : qW) : qA := match st with
  | .inl j :: .inr (.inr (t, i)) :: s => (match env (t, i) with
    | some (k, n) => (match Nat.ble 5 k && Nat.blt k 99 with
      | true => (match w.2.2 t i j.toNat with
        | some r' => q_ng [(.ge, j, 0), (.lt, j, n)] loc (.inr (.inr r') :: s) w
        | none => none)
      | false => none)
    | _ => none)
  | _ => none
def q_rst (loc : qLo) (st : List qV) (env : qR → Option (Nat × Nat)) (w : qW) : qA := match st with
  | .inr (.inr x) :: .inl j :: .inr (.inr (t, i)) :: s => (match env (t, i), env x with
    | some (k, n), some (0, c) => (match Nat.beq k (7 + c) with
      | true => q_ng [(.ge, j, 0), (.lt, j, n)] loc s (q_setR w t i j.toNat (some x))
      | false => none)
    | _, _ => none)
  | _ => none
def q_len (mi : Nat) (loc : qLo) (st : List qV) (env : qR → Option (Nat × Nat)) (w : qW) : qA := match st with
  | .inr (.inr (t, i)) :: s => (match env (t, i) with
    | some (k, n) => (match Nat.beq k 99 with
      | true => (match Nat.beq mi 0 && (Nat.beq t 1 && Nat.beq i 0) with
        | true => q_nx loc (.inl (w.1 1 1 0) :: s) w
        | false => none)
      | false => (match Nat.beq k 0 with
        | true => none
        | false => q_nx loc (.inl n :: s) w))
    | _ => none)
  | _ => none
def q_dup (loc : qLo) (st : List qV) (w : qW) : qA := match st with
  | v :: r => (match q_isL v with
    | true => none
    | false => q_nx loc (v :: v :: r) w)
  | _ => none
def q_dup2 (loc : qLo) (st : List qV) (w : qW) : qA := match st with
  | v :: u :: r => (match q_isL v || q_isL u with
    | true => none
    | false => q_nx loc (v :: u :: v :: u :: r) w)
  | _ => none
def q_pop (loc : qLo) (st : List qV) (w : qW) : qA := match st with
  | v :: r => (match q_isL v with
    | true => none
    | false => q_nx loc r w)
  | _ => none
def q_cat (v : qV) : Nat := match v with
  | .inr (.inl _) => 2
  | _ => 1
def q_args : List qV → qLo
  | [] => []
  | .inr (.inl x) :: r => some (.inr (.inl x)) :: none :: q_args r
  | v :: r => some v :: q_args r
/-- a call: a the method, b how many arguments, c its class and 1 (0: static) -/
def q_inv (a b c : Nat) (loc : qLo) (st : List qV) (env : qR → Option (Nat × Nat)) (w : qW) : qA := match Nat.ble b st.length && (Nat.ble ((st.drop b).map q_cat).sum 8 && Nat.ble (q_args (st.take b).reverse).length (q_ml a)) with
  | true => (match c with
    | 0 => q_cl a (st.take b).reverse loc (st.drop b) w
    | 91 => (match st with
      | .inl y :: .inl x :: s => q_nx loc (.inl (q_max x y) :: s) w
      | _ => none)
    | 92 => (match st with
      | .inl y :: .inl x :: s => q_nx loc (.inl (q_min x y) :: s) w
      | _ => none)
    | 93 => (match st with
      | .inr (.inl x) :: s => q_nx loc (.inr (.inl (q_labs x)) :: s) w
      | _ => none)
    | 98 => (match st with
      | .inr (.inr _) :: s => q_nx loc s w
      | _ => none)
    | c + 1 => (match (st.take b).reverse with
      | .inr (.inr (t, i)) :: as => (match env (t, i) with
        | some (0, c') => (match Nat.beq c' c with
          | true => q_cl a (.inr (.inr (t, i)) :: as) loc (st.drop b) w
          | false => none)
        | _ => none)
      | _ => none))
  | false => none
/-- an int's return; of a boolean's method it is 0 or 1 -/
def q_ret (a : Nat) (st : List qV) (w : qW) : qA := match st with
  | [.inl x] => (match a with
    | 0 => q_rt [] (some (.inl x)) w
    | _ => q_rt [(.ge, x, 0), (.lt, x, 2)] (some (.inl x)) w)
  | _ => none
def q_retL (st : List qV) (w : qW) : qA := match st with
  | [.inr (.inl x)] => q_rt [] (some (.inr (.inl x))) w
  | _ => none
def q_retR (st : List qV) (w : qW) : qA := match st with
  | [.inr (.inr x)] => q_rt [] (some (.inr (.inr x))) w
  | _ => none
def q_step (mi : Nat) (op : qI) (loc : qLo) (st : List qV) (env : qR → Option (Nat × Nat)) (w : qW) : qA := match op with
  | (i, a, b, c, z, ts) => match i with
    | .iconst _ => q_nx loc (.inl z :: st) w
    | .bipush _ => q_nx loc (.inl z :: st) w
    | .sipush _ => q_nx loc (.inl z :: st) w
    | .ldc _ => q_nx loc (.inl z :: st) w
    | .ldc_w _ => q_nx loc (.inl z :: st) w
    | .lconst _ => q_nx loc (.inr (.inl (Int64.ofInt z)) :: st) w
    | .ldc2_w _ => q_nx loc (.inr (.inl (Int64.ofInt z)) :: st) w
    | .iload k => q_ld loc k st w q_isI
    | .iload_n k => q_ld loc k st w q_isI
    | .lload k => q_ld loc k st w q_isL
    | .lload_n k => q_ld loc k st w q_isL
    | .aload k => q_ld loc k st w q_isR
    | .aload_n k => q_ld loc k st w q_isR
    | .istore k => q_st1 loc k st w q_isI
    | .istore_n k => q_st1 loc k st w q_isI
    | .astore k => q_st1 loc k st w q_isR
    | .astore_n k => q_st1 loc k st w q_isR
    | .lstore k => q_st2 loc k st w
    | .lstore_n k => q_st2 loc k st w
    | .iinc k n => q_inc loc k n st w
    | .iadd => q_bin loc st w (fun x y => q_w (x + y))
    | .isub => q_bin loc st w (fun x y => q_w (x - y))
    | .imul => q_bin loc st w (fun x y => q_w (x * y))
    | .idiv => q_dv loc st w q_div
    | .irem => q_dv loc st w q_rem
    | .ineg => q_un loc st w (fun x => .inl (q_w (-x)))
    | .iand => q_bin loc st w q_and
    | .ior => q_bin loc st w q_or
    | .ixor => q_bin loc st w q_xor
    | .ishl => q_bin loc st w q_shl
    | .ishr => q_bin loc st w q_shr
    | .iushr => q_bin loc st w q_ushr
    | .i2b => q_un loc st w (fun x => .inl (q_i2b x))
    | .i2l => q_un loc st w (fun x => .inr (.inl (q_i2l x)))
    | .ladd => q_binL loc st w (fun x y => .inr (.inl (x + y)))
    | .lsub => q_binL loc st w (fun x y => .inr (.inl (x - y)))
    | .lmul => q_binL loc st w (fun x y => .inr (.inl (x * y)))
    | .lneg => q_unL loc st w (fun x => .inr (.inl (-x)))
    | .lcmp => q_binL loc st w (fun x y => .inl (q_lcmp x y))
    | .dup => q_dup loc st w
    | .dup2 => q_dup2 loc st w
    | .pop => q_pop loc st w
    | .ifCond o _ => q_if1 o a loc st w
    | .if_icmp o _ => q_if2 o a loc st w
    | .goto _ => q_jp a loc st w
    | .tableswitch _ _ _ _ => q_swi ts a loc st w
    | .lookupswitch _ _ => q_swi ts a loc st w
    | .getfield _ => q_get a b c loc st env w
    | .putfield _ => q_put a b c loc st env w
    | .iaload => q_ald mi 1 loc st env w
    | .baload => q_ald mi 2 loc st env w
    | .iastore => q_ast 1 loc st env w
    | .bastore => q_ast 2 loc st env w
    | .laload => q_lld loc st env w
    | .lastore => q_lst loc st env w
    | .aaload => q_rld loc st env w
    | .aastore => q_rst loc st env w
    | .arraylength => q_len mi loc st env w
    | .invokevirtual _ => q_inv a b c loc st env w
    | .invokestatic _ => q_inv a b c loc st env w
    | .invokespecial _ => q_inv a b c loc st env w
    | .ireturn => q_ret a st w
    | .lreturn => q_retL st w
    | .areturn => q_retR st w
    | .return_ => (match st with
      | [] => q_rt [] none w
      | _ => none)
    | _ => none
def q_condb (o : Jvm.ClassFile.Cond) (x y : Int) : Bool := match o with
  | .eq => decide (x = y)
  | .ne => !decide (x = y)
  | .lt => decide (x < y)
  | .ge => decide (y ≤ x)
  | .gt => decide (y < x)
  | .le => decide (x ≤ y)
def q_swt (x : Int) (ts : List (Int × Nat)) (d : Nat) : Nat := match ts with
  | [] => d
  | (k, t) :: r => if x = k then t else q_swt x r d
def q_entry (n : Nat) (as : List qV) : qLo := q_args as ++ List.replicate (n - (q_args as).length) none
/-- what makes a cell or a row of rows: the stack, the kinds, the count and slots of what is made, the world with what points to it -/
def q_kset (E : qR → Option (Nat × Nat)) (r : qR) (k : Nat × Nat) : qR → Option (Nat × Nat) := fun q => if q = r then some k else E q
/-- n rows of kind k and length m at (0, j), (0, j + 1) .. -/
def q_rows (E : qR → Option (Nat × Nat)) (j n : Nat) (k : Nat × Nat) : qR → Option (Nat × Nat) := fun q => if q.1 = 0 ∧ j ≤ q.2 ∧ q.2 < j + n then some k else E q
def q_setRs (w : qW) (j n : Nat) : qW := (w.1, w.2.1, fun t i k => if t = 0 ∧ i = j ∧ k < n then some (0, j + 1 + k) else w.2.2 t i k)
def q_new (op : qI) (st : List qV) (E : qE) (w : qW) : Option (List qV × qE × qW) := match op with
  | (i, a, b, _, _, _) => match i with
    | .new _ => some (.inr (.inr (0, E.2.1)) :: st, (q_kset E.1 (0, E.2.1) (0, a), E.2.1 + 1, E.2.2 + b), w)
    | .newarray _ => (match st with
      | .inl n :: r => if 0 ≤ n ∧ n ≤ 1000 then some (.inr (.inr (0, E.2.1)) :: r, (q_kset E.1 (0, E.2.1) (a, n.toNat), E.2.1 + 1, E.2.2 + n.toNat), w) else none
      | _ => none)
    | .anewarray _ => (match st with
      | .inl n :: r => if 0 ≤ n ∧ n ≤ 1000 then some (.inr (.inr (0, E.2.1)) :: r, (q_kset E.1 (0, E.2.1) (5 + a, n.toNat), E.2.1 + 1, E.2.2 + n.toNat), w) else none
      | _ => none)
    | .multianewarray _ _ => (match st with
      | .inl m :: .inl n :: r => if 0 ≤ n ∧ n ≤ 1000 ∧ 0 ≤ m ∧ m ≤ 1000 then some (.inr (.inr (0, E.2.1)) :: r, (q_rows (q_kset E.1 (0, E.2.1) (5 + a, n.toNat)) (E.2.1 + 1) n.toNat (b, m.toNat), E.2.1 + (1 + n.toNat), E.2.2 + (n.toNat + n.toNat * m.toNat)), q_setRs w E.2.1 n.toNat) else none
      | _ => none)
    | _ => none
def q_run : Nat → Nat → List qI → qLo → List qV → qE → qW → Option (Option qV × qE × qW)
  | 0, _, _, _, _, _, _ => none
  | _ + 1, _, [], _, _, _, _ => none
  | n + 1, mi, op :: is, loc, st, E, w => match q_new op st E w with
    | some (s', E', w') => q_run n mi is loc s' E' w'
    | none => match q_step mi op loc st E.1 w with
      | none => none
      | some (.inl (g, l', s', w')) => if g.all (fun q => q_condb q.1 q.2.1 q.2.2) = true then q_run n mi is l' s' E w' else none
      | some (.inr (.inl (t, l', s', w'))) => q_run n mi ((q_code mi).drop t) l' s' E w'
      | some (.inr (.inr (.inl (o, x, y, t, l', s', w')))) => if q_condb o x y = true then q_run n mi ((q_code mi).drop t) l' s' E w' else q_run n mi is l' s' E w'
      | some (.inr (.inr (.inr (.inl (x, ts, d, l', s', w'))))) => q_run n mi ((q_code mi).drop (q_swt x ts d)) l' s' E w'
      | some (.inr (.inr (.inr (.inr (.inl (m, as, l', s', w')))))) => (match q_run n m (q_code m) (q_entry (q_ml m) as) [] E w' with
        | none => none
        | some (v, E', w2) => q_run n mi is l' (v.toList ++ s') E' w2)
      | some (.inr (.inr (.inr (.inr (.inr (g, v, w')))))) => if g.all (fun q => q_condb q.1 q.2.1 q.2.2) = true then some (v, E, w') else none
end
section
/-! 'Ev': where the small machine comes to, behind the constructors; and its walk, a proposition that unfolds by itself -/
def q_Ev (mi k : Nat) (loc : qLo) (st : List qV) (w : qW) (r : Option qV × qW) : Prop := ∃ N : Nat, ∀ n, N ≤ n → ∀ E : Nat × Nat, q_run n mi ((q_code mi).drop k) loc st (q_env, E) w = some (r.1, (q_env, E), r.2)
def q_gs (g : qG) (K : Prop) : Prop := match g with
  | [] => K
  | (o, x, y) :: l => q_cond o x y ∧ q_gs l K
def q_sws (x : Int) (ts : List (Int × Nat)) (d : Nat) (K : Nat → Prop) : Prop := match ts with
  | [] => K d
  | (k, t) :: r => (x = k → K t) ∧ (x ≠ k → q_sws x r d K)
def q_mem (k : Nat) (l : List Nat) : Bool := match l with
  | [] => false
  | a :: r => (match Nat.beq k a with
    | true => true
    | false => q_mem k r)
def q_wp (r : Option qV × qW) : Nat → List Nat → Nat → Nat → List qI → qLo → List qV → qW → Prop
  | 0, _, mi, k, _, loc, st, w => q_Ev mi k loc st w r
  | _ + 1, _, _, _, [], _, _, _ => False
  | n + 1, S, mi, k, op :: is, loc, st, w => match q_step mi op loc st q_env w with
    | none => False
    | some (.inl (g, l', s', w')) => q_gs g (match q_mem (k + 1) S with
      | true => q_Ev mi (k + 1) l' s' w' r
      | false => q_wp r n S mi (k + 1) is l' s' w')
    | some (.inr (.inl (t, l', s', w'))) => (match q_mem t S with
      | true => q_Ev mi t l' s' w' r
      | false => q_wp r n S mi t ((q_code mi).drop t) l' s' w')
    | some (.inr (.inr (.inl (o, x, y, t, l', s', w')))) => (q_cond o x y → (match q_mem t S with
      | true => q_Ev mi t l' s' w' r
      | false => q_wp r n S mi t ((q_code mi).drop t) l' s' w')) ∧ (q_cond (q_neg o) x y → (match q_mem (k + 1) S with
      | true => q_Ev mi (k + 1) l' s' w' r
      | false => q_wp r n S mi (k + 1) is l' s' w'))
    | some (.inr (.inr (.inr (.inl (x, ts, d, l', s', w'))))) => q_sws x ts d (fun t => match q_mem t S with
      | true => q_Ev mi t l' s' w' r
      | false => q_wp r n S mi t ((q_code mi).drop t) l' s' w')
    | some (.inr (.inr (.inr (.inr (.inl (m, as, l', s', w')))))) => ∃ (v : Option qV) (w2 : qW), q_Ev m 0 (q_entry (q_ml m) as) [] w' (v, w2) ∧ (match q_mem (k + 1) S with
      | true => q_Ev mi (k + 1) l' (v.toList ++ s') w2 r
      | false => q_wp r n S mi (k + 1) is l' (v.toList ++ s') w2)
    | some (.inr (.inr (.inr (.inr (.inr (g, v, w')))))) => q_gs g (r = (v, w'))
theorem q_condb_iff {o : Jvm.ClassFile.Cond} {x y : Int} : q_condb o x y = true ↔ q_cond o x y := by
  cases o <;> simp [q_condb, q_cond]
theorem q_neg_iff {o : Jvm.ClassFile.Cond} {x y : Int} : q_cond (q_neg o) x y ↔ ¬ q_cond o x y := by
  cases o <;> simp [q_neg, q_cond] <;> omega
theorem q_gs_iff {g : qG} {K : Prop} : q_gs g K ↔ (g.all (fun q => q_condb q.1 q.2.1 q.2.2) = true ∧ K) := by
  induction g with
  | nil => simp [q_gs]
  | cons a l ih =>
    obtain ⟨o, x, y⟩ := a
    simp only [q_gs, ih, List.all_cons, Bool.and_eq_true, q_condb_iff, and_assoc]
theorem q_sws_spec {x : Int} {d : Nat} {K : Nat → Prop} : ∀ {ts : List (Int × Nat)}, q_sws x ts d K → K (q_swt x ts d)
  | [], h => h
  | (k, t) :: r, h => by
    unfold q_swt
    by_cases hx : x = k
    · rw [if_pos hx]; exact h.1 hx
    · rw [if_neg hx]; exact q_sws_spec (h.2 hx)
theorem q_new_none {mi : Nat} {op : qI} {st : List qV} {E : qE} {loc : qLo} {env : qR → Option (Nat × Nat)} {w : qW} {a : _} (h : q_step mi op loc st env w = some a) : q_new op st E w = none := by
  obtain ⟨i, a, b, c, z, ts⟩ := op
  cases i <;> first | rfl | (simp [q_step] at h)
theorem q_run_succ (n mi : Nat) (op : qI) (is : List qI) (loc : qLo) (st : List qV) (E : qE) (w : qW) : q_run (n + 1) mi (op :: is) loc st E w = match q_new op st E w with
    | some (s', E', w') => q_run n mi is loc s' E' w'
    | none => match q_step mi op loc st E.1 w with
      | none => none
      | some (.inl (g, l', s', w')) => if g.all (fun q => q_condb q.1 q.2.1 q.2.2) = true then q_run n mi is l' s' E w' else none
      | some (.inr (.inl (t, l', s', w'))) => q_run n mi ((q_code mi).drop t) l' s' E w'
      | some (.inr (.inr (.inl (o, x, y, t, l', s', w')))) => if q_condb o x y = true then q_run n mi ((q_code mi).drop t) l' s' E w' else q_run n mi is l' s' E w'
      | some (.inr (.inr (.inr (.inl (x, ts, d, l', s', w'))))) => q_run n mi ((q_code mi).drop (q_swt x ts d)) l' s' E w'
      | some (.inr (.inr (.inr (.inr (.inl (m, as, l', s', w')))))) => (match q_run n m (q_code m) (q_entry (q_ml m) as) [] E w' with
        | none => none
        | some (v, E', w2) => q_run n mi is l' (v.toList ++ s') E' w2)
      | some (.inr (.inr (.inr (.inr (.inr (g, v, w')))))) => if g.all (fun q => q_condb q.1 q.2.1 q.2.2) = true then some (v, E, w') else none := rfl
/-- one step's effect on Ev -/
theorem q_ev_step {r : Option qV × qW} {mi k : Nat} {op : qI} {is : List qI} {loc : qLo} {st : List qV} {w : qW} (hd : (q_code mi).drop k = op :: is) (h : match q_step mi op loc st q_env w with
    | none => False
    | some (.inl (g, l', s', w')) => q_gs g (q_Ev mi (k + 1) l' s' w' r)
    | some (.inr (.inl (t, l', s', w'))) => q_Ev mi t l' s' w' r
    | some (.inr (.inr (.inl (o, x, y, t, l', s', w')))) => (q_cond o x y → q_Ev mi t l' s' w' r) ∧ (q_cond (q_neg o) x y → q_Ev mi (k + 1) l' s' w' r)
    | some (.inr (.inr (.inr (.inl (x, ts, d, l', s', w'))))) => q_Ev mi (q_swt x ts d) l' s' w' r
    | some (.inr (.inr (.inr (.inr (.inl (m, as, l', s', w')))))) => ∃ (v : Option qV) (w2 : qW), q_Ev m 0 (q_entry (q_ml m) as) [] w' (v, w2) ∧ q_Ev mi (k + 1) l' (v.toList ++ s') w2 r
    | some (.inr (.inr (.inr (.inr (.inr (g, v, w')))))) => q_gs g (r = (v, w'))) : q_Ev mi k loc st w r := by
  have hd1 : (q_code mi).drop (k + 1) = is := by
    have := congrArg (List.drop 1) hd
    rw [List.drop_drop] at this
    simpa using this
  cases hs : q_step mi op loc st q_env w with
  | none => rw [hs] at h; exact h.elim
  | some a =>
    rw [hs] at h
    have hn : ∀ E, q_new op st E w = none := fun E => q_new_none hs
    rcases a with ⟨g, l', s', w'⟩ | ⟨t, l', s', w'⟩ | ⟨o, x, y, t, l', s', w'⟩ | ⟨x, ts, d, l', s', w'⟩ | ⟨m, as, l', s', w'⟩ | ⟨g, v, w'⟩
    · obtain ⟨h1, N, h2⟩ := q_gs_iff.mp h
      refine ⟨N + 1, fun n hn1 E => ?_⟩
      obtain ⟨n, rfl⟩ : ∃ j, n = j + 1 := ⟨n - 1, by omega⟩
      rw [hd, q_run_succ, hn, hs]
      dsimp only
      rw [if_pos h1, ← hd1]
      exact h2 n (by omega) E
    · obtain ⟨N, h2⟩ := h
      refine ⟨N + 1, fun n hn1 E => ?_⟩
      obtain ⟨n, rfl⟩ : ∃ j, n = j + 1 := ⟨n - 1, by omega⟩
      rw [hd, q_run_succ, hn, hs]
      exact h2 n (by omega) E
    · by_cases hc : q_cond o x y
      · obtain ⟨N, h2⟩ := h.1 hc
        refine ⟨N + 1, fun n hn1 E => ?_⟩
        obtain ⟨n, rfl⟩ : ∃ j, n = j + 1 := ⟨n - 1, by omega⟩
        rw [hd, q_run_succ, hn, hs]
        dsimp only
        rw [if_pos (q_condb_iff.mpr hc)]
        exact h2 n (by omega) E
      · obtain ⟨N, h2⟩ := h.2 (q_neg_iff.mpr hc)
        refine ⟨N + 1, fun n hn1 E => ?_⟩
        obtain ⟨n, rfl⟩ : ∃ j, n = j + 1 := ⟨n - 1, by omega⟩
        rw [hd, q_run_succ, hn, hs]
        dsimp only
        rw [if_neg (fun q => hc (q_condb_iff.mp q)), ← hd1]
        exact h2 n (by omega) E
    · obtain ⟨N, h2⟩ := h
      refine ⟨N + 1, fun n hn1 E => ?_⟩
      obtain ⟨n, rfl⟩ : ∃ j, n = j + 1 := ⟨n - 1, by omega⟩
      rw [hd, q_run_succ, hn, hs]
      exact h2 n (by omega) E
    · obtain ⟨v, w2, ⟨N1, h1⟩, N, h2⟩ := h
      refine ⟨max N1 N + 1, fun n hn1 E => ?_⟩
      obtain ⟨n, rfl⟩ : ∃ j, n = j + 1 := ⟨n - 1, by omega⟩
      rw [hd, q_run_succ, hn, hs]
      dsimp only
      have e1 := h1 n (by omega) E
      rw [List.drop_zero] at e1
      rw [e1]
      dsimp only
      rw [← hd1]
      exact h2 n (by omega) E
    · refine ⟨1, fun n hn1 E => ?_⟩
      obtain ⟨n, rfl⟩ : ∃ j, n = j + 1 := ⟨n - 1, by omega⟩
      rw [hd, q_run_succ, hn, hs]
      obtain ⟨h1, h2⟩ := q_gs_iff.mp h
      subst h2
      dsimp only
      rw [if_pos h1]
theorem q_wp_sound {r : Option qV × qW} : ∀ (n : Nat) (S : List Nat) (mi k : Nat) (is : List qI) (loc : qLo) (st : List qV) (w : qW), (q_code mi).drop k = is → q_wp r n S mi k is loc st w → q_Ev mi k loc st w r
  | 0, _, _, _, _, _, _, _, _, h => h
  | n + 1, _, _, _, [], _, _, _, _, h => h.elim
  | n + 1, S, mi, k, op :: is, loc, st, w, hd, h => by
    have hd1 : (q_code mi).drop (k + 1) = is := by
      have := congrArg (List.drop 1) hd
      rw [List.drop_drop] at this
      simpa using this
    have key1 : ∀ l' s' w', (match q_mem (k + 1) S with
      | true => q_Ev mi (k + 1) l' s' w' r
      | false => q_wp r n S mi (k + 1) is l' s' w') → q_Ev mi (k + 1) l' s' w' r := by
      intro l' s' w' h
      cases hq : q_mem (k + 1) S with
      | true => rw [hq] at h; exact h
      | false => rw [hq] at h; exact q_wp_sound n S mi (k + 1) is l' s' w' hd1 h
    have key2 : ∀ t l' s' w', (match q_mem t S with
      | true => q_Ev mi t l' s' w' r
      | false => q_wp r n S mi t ((q_code mi).drop t) l' s' w') → q_Ev mi t l' s' w' r := by
      intro t l' s' w' h
      cases hq : q_mem t S with
      | true => rw [hq] at h; exact h
      | false => rw [hq] at h; exact q_wp_sound n S mi t _ l' s' w' rfl h
    refine q_ev_step hd ?_
    unfold q_wp at h
    cases hs : q_step mi op loc st q_env w with
    | none => rw [hs] at h; exact h
    | some a =>
      rw [hs] at h
      rcases a with ⟨g, l', s', w'⟩ | ⟨t, l', s', w'⟩ | ⟨o, x, y, t, l', s', w'⟩ | ⟨x, ts, d, l', s', w'⟩ | ⟨m, as, l', s', w'⟩ | ⟨g, v, w'⟩
      · exact q_gs_iff.mpr ⟨(q_gs_iff.mp h).1, key1 _ _ _ (q_gs_iff.mp h).2⟩
      · exact key2 _ _ _ _ h
      · exact ⟨fun hc => key2 _ _ _ _ (h.1 hc), fun hc => key1 _ _ _ (h.2 hc)⟩
      · exact key2 _ _ _ _ (q_sws_spec h)
      · obtain ⟨v, w2, h1, h2⟩ := h
        exact ⟨v, w2, h1, key1 _ _ _ h2⟩
      · exact h
theorem q_go (n : Nat) (S : List Nat) {r : Option qV × qW} {mi k : Nat} {loc : qLo} {st : List qV} {w : qW} (h : q_wp r n S mi k ((q_code mi).drop k) loc st w) : q_Ev mi k loc st w r := q_wp_sound n S mi k _ loc st w rfl h
end
section
/-! begun with kit/laws/SKELETON.whole PART A and the class rows of claim/NAMES.whole; the rest printed by wip/whole/sound.py -/
/-- a private method of a class that the tables say can be made, by its rows of tables_1 -/
def lw_okq (q : MethodName × Nat) : Prop := (q.1.cls ≠ "java/lang/invoke/MethodHandle" ∧ q.1.cls ≠ "java/lang/invoke/VarHandle") ∧ Cond.instantiable q.1.cls q.2 ∈ tables_1 ∧ Cond.privateMethod q.1 ∈ tables_1 ∧ Cond.instanceMethod q.1 ∈ tables_1
theorem lw_p0 : lw_okq (⟨"GrassCells$Reader", "skipBlanks", "()V"⟩, 8) := ⟨⟨by decide +kernel, by decide +kernel⟩, List.mem_of_getElem? (i := 27) (by decide +kernel), List.mem_of_getElem? (i := 324) (by decide +kernel), List.mem_of_getElem? (i := 325) (by decide +kernel)⟩
theorem lw_p1 : lw_okq (⟨"GrassCells$Reader", "readNumbers", "()I"⟩, 8) := ⟨⟨by decide +kernel, by decide +kernel⟩, List.mem_of_getElem? (i := 27) (by decide +kernel), List.mem_of_getElem? (i := 341) (by decide +kernel), List.mem_of_getElem? (i := 342) (by decide +kernel)⟩
theorem lw_p2 : lw_okq (⟨"GrassCells$Reader", "readNumber", "(I)Z"⟩, 8) := ⟨⟨by decide +kernel, by decide +kernel⟩, List.mem_of_getElem? (i := 27) (by decide +kernel), List.mem_of_getElem? (i := 345) (by decide +kernel), List.mem_of_getElem? (i := 346) (by decide +kernel)⟩
theorem lw_p3 : lw_okq (⟨"GrassCells$Reader", "fault", "(II)I"⟩, 8) := ⟨⟨by decide +kernel, by decide +kernel⟩, List.mem_of_getElem? (i := 27) (by decide +kernel), List.mem_of_getElem? (i := 353) (by decide +kernel), List.mem_of_getElem? (i := 354) (by decide +kernel)⟩
theorem lw_p4 : lw_okq (⟨"GrassCells$Reader", "faultOfNumbers", "()I"⟩, 8) := ⟨⟨by decide +kernel, by decide +kernel⟩, List.mem_of_getElem? (i := 27) (by decide +kernel), List.mem_of_getElem? (i := 357) (by decide +kernel), List.mem_of_getElem? (i := 358) (by decide +kernel)⟩
theorem lw_p5 : lw_okq (⟨"GrassCells$Reader", "readFilling", "()I"⟩, 8) := ⟨⟨by decide +kernel, by decide +kernel⟩, List.mem_of_getElem? (i := 27) (by decide +kernel), List.mem_of_getElem? (i := 364) (by decide +kernel), List.mem_of_getElem? (i := 365) (by decide +kernel)⟩
theorem lw_p6 : lw_okq (⟨"GrassCells$Reader", "readPath", "()Z"⟩, 8) := ⟨⟨by decide +kernel, by decide +kernel⟩, List.mem_of_getElem? (i := 27) (by decide +kernel), List.mem_of_getElem? (i := 368) (by decide +kernel), List.mem_of_getElem? (i := 369) (by decide +kernel)⟩
theorem lw_p7 : lw_okq (⟨"GrassCells$Reader", "isLetterOfPath", "()Z"⟩, 8) := ⟨⟨by decide +kernel, by decide +kernel⟩, List.mem_of_getElem? (i := 27) (by decide +kernel), List.mem_of_getElem? (i := 372) (by decide +kernel), List.mem_of_getElem? (i := 373) (by decide +kernel)⟩
theorem lw_p8 : lw_okq (⟨"GrassCells$Reader", "readRow", "(I)Z"⟩, 8) := ⟨⟨by decide +kernel, by decide +kernel⟩, List.mem_of_getElem? (i := 27) (by decide +kernel), List.mem_of_getElem? (i := 386) (by decide +kernel), List.mem_of_getElem? (i := 387) (by decide +kernel)⟩
theorem lw_p9 : lw_okq (⟨"GrassCells$Reader", "faultOfBoxes", "()I"⟩, 8) := ⟨⟨by decide +kernel, by decide +kernel⟩, List.mem_of_getElem? (i := 27) (by decide +kernel), List.mem_of_getElem? (i := 400) (by decide +kernel), List.mem_of_getElem? (i := 401) (by decide +kernel)⟩
theorem lw_p10 : lw_okq (⟨"GrassCells$Diagram", "nextColumn", "(I)I"⟩, 8) := ⟨⟨by decide +kernel, by decide +kernel⟩, List.mem_of_getElem? (i := 49) (by decide +kernel), List.mem_of_getElem? (i := 416) (by decide +kernel), List.mem_of_getElem? (i := 417) (by decide +kernel)⟩
theorem lw_p11 : lw_okq (⟨"GrassCells$Diagram", "rowAbove", "(I)I"⟩, 8) := ⟨⟨by decide +kernel, by decide +kernel⟩, List.mem_of_getElem? (i := 49) (by decide +kernel), List.mem_of_getElem? (i := 420) (by decide +kernel), List.mem_of_getElem? (i := 421) (by decide +kernel)⟩
theorem lw_p12 : lw_okq (⟨"GrassCells$Reader", "readSets", "()I"⟩, 8) := ⟨⟨by decide +kernel, by decide +kernel⟩, List.mem_of_getElem? (i := 27) (by decide +kernel), List.mem_of_getElem? (i := 424) (by decide +kernel), List.mem_of_getElem? (i := 425) (by decide +kernel)⟩
theorem lw_p13 : lw_okq (⟨"GrassCells$Reader", "readSet", "(I)Z"⟩, 8) := ⟨⟨by decide +kernel, by decide +kernel⟩, List.mem_of_getElem? (i := 27) (by decide +kernel), List.mem_of_getElem? (i := 428) (by decide +kernel), List.mem_of_getElem? (i := 429) (by decide +kernel)⟩
theorem lw_p14 : lw_okq (⟨"GrassCells$Reader", "faultOfSets", "()I"⟩, 8) := ⟨⟨by decide +kernel, by decide +kernel⟩, List.mem_of_getElem? (i := 27) (by decide +kernel), List.mem_of_getElem? (i := 432) (by decide +kernel), List.mem_of_getElem? (i := 433) (by decide +kernel)⟩
theorem lw_p15 : lw_okq (⟨"GrassCells$Reader", "imageBetween", "(III)I"⟩, 8) := ⟨⟨by decide +kernel, by decide +kernel⟩, List.mem_of_getElem? (i := 27) (by decide +kernel), List.mem_of_getElem? (i := 451) (by decide +kernel), List.mem_of_getElem? (i := 452) (by decide +kernel)⟩
def lw_privs_1 : List (MethodName × Nat) := [(⟨"GrassCells$Reader", "skipBlanks", "()V"⟩, 8), (⟨"GrassCells$Reader", "readNumbers", "()I"⟩, 8), (⟨"GrassCells$Reader", "readNumber", "(I)Z"⟩, 8), (⟨"GrassCells$Reader", "fault", "(II)I"⟩, 8), (⟨"GrassCells$Reader", "faultOfNumbers", "()I"⟩, 8), (⟨"GrassCells$Reader", "readFilling", "()I"⟩, 8), (⟨"GrassCells$Reader", "readPath", "()Z"⟩, 8), (⟨"GrassCells$Reader", "isLetterOfPath", "()Z"⟩, 8), (⟨"GrassCells$Reader", "readRow", "(I)Z"⟩, 8), (⟨"GrassCells$Reader", "faultOfBoxes", "()I"⟩, 8), (⟨"GrassCells$Diagram", "nextColumn", "(I)I"⟩, 8), (⟨"GrassCells$Diagram", "rowAbove", "(I)I"⟩, 8), (⟨"GrassCells$Reader", "readSets", "()I"⟩, 8), (⟨"GrassCells$Reader", "readSet", "(I)Z"⟩, 8), (⟨"GrassCells$Reader", "faultOfSets", "()I"⟩, 8), (⟨"GrassCells$Reader", "imageBetween", "(III)I"⟩, 8)]
theorem lw_r1 : ∀ q ∈ lw_privs_1, lw_okq q := List.forall_mem_cons.mpr ⟨lw_p0, List.forall_mem_cons.mpr ⟨lw_p1, List.forall_mem_cons.mpr ⟨lw_p2, List.forall_mem_cons.mpr ⟨lw_p3, List.forall_mem_cons.mpr ⟨lw_p4, List.forall_mem_cons.mpr ⟨lw_p5, List.forall_mem_cons.mpr ⟨lw_p6, List.forall_mem_cons.mpr ⟨lw_p7, List.forall_mem_cons.mpr ⟨lw_p8, List.forall_mem_cons.mpr ⟨lw_p9, List.forall_mem_cons.mpr ⟨lw_p10, List.forall_mem_cons.mpr ⟨lw_p11, List.forall_mem_cons.mpr ⟨lw_p12, List.forall_mem_cons.mpr ⟨lw_p13, List.forall_mem_cons.mpr ⟨lw_p14, List.forall_mem_cons.mpr ⟨lw_p15, fun _ h => absurd h List.not_mem_nil⟩⟩⟩⟩⟩⟩⟩⟩⟩⟩⟩⟩⟩⟩⟩⟩
theorem lw_p16 : lw_okq (⟨"GrassCells", "become", "(I[I)V"⟩, 8) := ⟨⟨by decide +kernel, by decide +kernel⟩, List.mem_of_getElem? (i := 19) (by decide +kernel), List.mem_of_getElem? (i := 462) (by decide +kernel), List.mem_of_getElem? (i := 463) (by decide +kernel)⟩
theorem lw_p17 : lw_okq (⟨"GrassCells$Cell", "layNecklace", "()V"⟩, 9) := ⟨⟨by decide +kernel, by decide +kernel⟩, List.mem_of_getElem? (i := 112) (by decide +kernel), List.mem_of_getElem? (i := 481) (by decide +kernel), List.mem_of_getElem? (i := 482) (by decide +kernel)⟩
theorem lw_p18 : lw_okq (⟨"GrassCells$Cell", "layBases", "()V"⟩, 9) := ⟨⟨by decide +kernel, by decide +kernel⟩, List.mem_of_getElem? (i := 112) (by decide +kernel), List.mem_of_getElem? (i := 487) (by decide +kernel), List.mem_of_getElem? (i := 488) (by decide +kernel)⟩
theorem lw_p19 : lw_okq (⟨"GrassCells$Cell", "isAtLeastNecklace", "(I)Z"⟩, 9) := ⟨⟨by decide +kernel, by decide +kernel⟩, List.mem_of_getElem? (i := 112) (by decide +kernel), List.mem_of_getElem? (i := 500) (by decide +kernel), List.mem_of_getElem? (i := 501) (by decide +kernel)⟩
theorem lw_p20 : lw_okq (⟨"GrassCells$Collection", "contains", "(I)Z"⟩, 2) := ⟨⟨by decide +kernel, by decide +kernel⟩, List.mem_of_getElem? (i := 173) (by decide +kernel), List.mem_of_getElem? (i := 525) (by decide +kernel), List.mem_of_getElem? (i := 526) (by decide +kernel)⟩
theorem lw_p21 : lw_okq (⟨"GrassCells$Collection", "crossesNone", "(II)Z"⟩, 2) := ⟨⟨by decide +kernel, by decide +kernel⟩, List.mem_of_getElem? (i := 173) (by decide +kernel), List.mem_of_getElem? (i := 529) (by decide +kernel), List.mem_of_getElem? (i := 530) (by decide +kernel)⟩
theorem lw_p22 : lw_okq (⟨"GrassCells$Cell", "exchangeable", "(I)I"⟩, 9) := ⟨⟨by decide +kernel, by decide +kernel⟩, List.mem_of_getElem? (i := 112) (by decide +kernel), List.mem_of_getElem? (i := 598) (by decide +kernel), List.mem_of_getElem? (i := 599) (by decide +kernel)⟩
theorem lw_p23 : lw_okq (⟨"GrassCells$Diagram", "countPathsTo", "(I)V"⟩, 8) := ⟨⟨by decide +kernel, by decide +kernel⟩, List.mem_of_getElem? (i := 49) (by decide +kernel), List.mem_of_getElem? (i := 612) (by decide +kernel), List.mem_of_getElem? (i := 613) (by decide +kernel)⟩
theorem lw_p24 : lw_okq (⟨"GrassCells$Diagram", "expandRow", "(III)V"⟩, 8) := ⟨⟨by decide +kernel, by decide +kernel⟩, List.mem_of_getElem? (i := 49) (by decide +kernel), List.mem_of_getElem? (i := 619) (by decide +kernel), List.mem_of_getElem? (i := 620) (by decide +kernel)⟩
theorem lw_p25 : lw_okq (⟨"GrassCells$Collection", "movedAt", "(IIII)I"⟩, 2) := ⟨⟨by decide +kernel, by decide +kernel⟩, List.mem_of_getElem? (i := 173) (by decide +kernel), List.mem_of_getElem? (i := 650) (by decide +kernel), List.mem_of_getElem? (i := 651) (by decide +kernel)⟩
theorem lw_p26 : lw_okq (⟨"GrassCells$Collection", "hasCorners", "(IIIII)Z"⟩, 2) := ⟨⟨by decide +kernel, by decide +kernel⟩, List.mem_of_getElem? (i := 173) (by decide +kernel), List.mem_of_getElem? (i := 655) (by decide +kernel), List.mem_of_getElem? (i := 656) (by decide +kernel)⟩
theorem lw_p27 : lw_okq (⟨"GrassCells", "valueOfNext", "(III)I"⟩, 8) := ⟨⟨by decide +kernel, by decide +kernel⟩, List.mem_of_getElem? (i := 19) (by decide +kernel), List.mem_of_getElem? (i := 672) (by decide +kernel), List.mem_of_getElem? (i := 673) (by decide +kernel)⟩
theorem lw_p28 : lw_okq (⟨"GrassCells$Neighbours", "swap", "(LGrassCells$Cell;II)Z"⟩, 2) := ⟨⟨by decide +kernel, by decide +kernel⟩, List.mem_of_getElem? (i := 188) (by decide +kernel), List.mem_of_getElem? (i := 684) (by decide +kernel), List.mem_of_getElem? (i := 685) (by decide +kernel)⟩
theorem lw_p29 : lw_okq (⟨"GrassCells", "stepToNext", "(II)I"⟩, 8) := ⟨⟨by decide +kernel, by decide +kernel⟩, List.mem_of_getElem? (i := 19) (by decide +kernel), List.mem_of_getElem? (i := 698) (by decide +kernel), List.mem_of_getElem? (i := 699) (by decide +kernel)⟩
theorem lw_p30 : lw_okq (⟨"GrassCells$Census", "clearThen", "()V"⟩, 2) := ⟨⟨by decide +kernel, by decide +kernel⟩, List.mem_of_getElem? (i := 243) (by decide +kernel), List.mem_of_getElem? (i := 748) (by decide +kernel), List.mem_of_getElem? (i := 749) (by decide +kernel)⟩
theorem lw_p31 : lw_okq (⟨"GrassCells$Census", "flip", "()V"⟩, 2) := ⟨⟨by decide +kernel, by decide +kernel⟩, List.mem_of_getElem? (i := 243) (by decide +kernel), List.mem_of_getElem? (i := 753) (by decide +kernel), List.mem_of_getElem? (i := 754) (by decide +kernel)⟩
def lw_privs_2 : List (MethodName × Nat) := [(⟨"GrassCells", "become", "(I[I)V"⟩, 8), (⟨"GrassCells$Cell", "layNecklace", "()V"⟩, 9), (⟨"GrassCells$Cell", "layBases", "()V"⟩, 9), (⟨"GrassCells$Cell", "isAtLeastNecklace", "(I)Z"⟩, 9), (⟨"GrassCells$Collection", "contains", "(I)Z"⟩, 2), (⟨"GrassCells$Collection", "crossesNone", "(II)Z"⟩, 2), (⟨"GrassCells$Cell", "exchangeable", "(I)I"⟩, 9), (⟨"GrassCells$Diagram", "countPathsTo", "(I)V"⟩, 8), (⟨"GrassCells$Diagram", "expandRow", "(III)V"⟩, 8), (⟨"GrassCells$Collection", "movedAt", "(IIII)I"⟩, 2), (⟨"GrassCells$Collection", "hasCorners", "(IIIII)Z"⟩, 2), (⟨"GrassCells", "valueOfNext", "(III)I"⟩, 8), (⟨"GrassCells$Neighbours", "swap", "(LGrassCells$Cell;II)Z"⟩, 2), (⟨"GrassCells", "stepToNext", "(II)I"⟩, 8), (⟨"GrassCells$Census", "clearThen", "()V"⟩, 2), (⟨"GrassCells$Census", "flip", "()V"⟩, 2)]
theorem lw_r2 : ∀ q ∈ lw_privs_2, lw_okq q := List.forall_mem_cons.mpr ⟨lw_p16, List.forall_mem_cons.mpr ⟨lw_p17, List.forall_mem_cons.mpr ⟨lw_p18, List.forall_mem_cons.mpr ⟨lw_p19, List.forall_mem_cons.mpr ⟨lw_p20, List.forall_mem_cons.mpr ⟨lw_p21, List.forall_mem_cons.mpr ⟨lw_p22, List.forall_mem_cons.mpr ⟨lw_p23, List.forall_mem_cons.mpr ⟨lw_p24, List.forall_mem_cons.mpr ⟨lw_p25, List.forall_mem_cons.mpr ⟨lw_p26, List.forall_mem_cons.mpr ⟨lw_p27, List.forall_mem_cons.mpr ⟨lw_p28, List.forall_mem_cons.mpr ⟨lw_p29, List.forall_mem_cons.mpr ⟨lw_p30, List.forall_mem_cons.mpr ⟨lw_p31, fun _ h => absurd h List.not_mem_nil⟩⟩⟩⟩⟩⟩⟩⟩⟩⟩⟩⟩⟩⟩⟩⟩
theorem lw_p32 : lw_okq (⟨"GrassCells$Census", "endLowestRow", "(I)V"⟩, 2) := ⟨⟨by decide +kernel, by decide +kernel⟩, List.mem_of_getElem? (i := 243) (by decide +kernel), List.mem_of_getElem? (i := 757) (by decide +kernel), List.mem_of_getElem? (i := 758) (by decide +kernel)⟩
theorem lw_p33 : lw_okq (⟨"GrassCells$Census", "pass", "(III)V"⟩, 2) := ⟨⟨by decide +kernel, by decide +kernel⟩, List.mem_of_getElem? (i := 243) (by decide +kernel), List.mem_of_getElem? (i := 768) (by decide +kernel), List.mem_of_getElem? (i := 769) (by decide +kernel)⟩
theorem lw_p34 : lw_okq (⟨"GrassCells$Census", "addColumn", "(I)V"⟩, 2) := ⟨⟨by decide +kernel, by decide +kernel⟩, List.mem_of_getElem? (i := 243) (by decide +kernel), List.mem_of_getElem? (i := 772) (by decide +kernel), List.mem_of_getElem? (i := 773) (by decide +kernel)⟩
theorem lw_p35 : lw_okq (⟨"GrassCells", "filledShelves", "()I"⟩, 8) := ⟨⟨by decide +kernel, by decide +kernel⟩, List.mem_of_getElem? (i := 19) (by decide +kernel), List.mem_of_getElem? (i := 798) (by decide +kernel), List.mem_of_getElem? (i := 799) (by decide +kernel)⟩
theorem lw_p36 : lw_okq (⟨"GrassCells", "countOfLive", "(I)I"⟩, 8) := ⟨⟨by decide +kernel, by decide +kernel⟩, List.mem_of_getElem? (i := 19) (by decide +kernel), List.mem_of_getElem? (i := 802) (by decide +kernel), List.mem_of_getElem? (i := 803) (by decide +kernel)⟩
theorem lw_p37 : lw_okq (⟨"GrassCellsModel", "wordHere", "()I"⟩, 28) := ⟨⟨by decide +kernel, by decide +kernel⟩, List.mem_of_getElem? (i := 815) (by decide +kernel), List.mem_of_getElem? (i := 922) (by decide +kernel), List.mem_of_getElem? (i := 923) (by decide +kernel)⟩
theorem lw_p38 : lw_okq (⟨"GrassCellsModel", "next", "()I"⟩, 28) := ⟨⟨by decide +kernel, by decide +kernel⟩, List.mem_of_getElem? (i := 815) (by decide +kernel), List.mem_of_getElem? (i := 926) (by decide +kernel), List.mem_of_getElem? (i := 927) (by decide +kernel)⟩
theorem lw_p39 : lw_okq (⟨"GrassCellsModel", "byteAt", "(I)I"⟩, 28) := ⟨⟨by decide +kernel, by decide +kernel⟩, List.mem_of_getElem? (i := 815) (by decide +kernel), List.mem_of_getElem? (i := 930) (by decide +kernel), List.mem_of_getElem? (i := 931) (by decide +kernel)⟩
theorem lw_p40 : lw_okq (⟨"GrassCellsModel", "fails", "(II)Z"⟩, 28) := ⟨⟨by decide +kernel, by decide +kernel⟩, List.mem_of_getElem? (i := 815) (by decide +kernel), List.mem_of_getElem? (i := 937) (by decide +kernel), List.mem_of_getElem? (i := 938) (by decide +kernel)⟩
theorem lw_p41 : lw_okq (⟨"GrassCellsModel", "readsRest", "(I)Z"⟩, 28) := ⟨⟨by decide +kernel, by decide +kernel⟩, List.mem_of_getElem? (i := 815) (by decide +kernel), List.mem_of_getElem? (i := 941) (by decide +kernel), List.mem_of_getElem? (i := 942) (by decide +kernel)⟩
theorem lw_p42 : lw_okq (⟨"GrassCellsModel", "readsPerm", "()Z"⟩, 28) := ⟨⟨by decide +kernel, by decide +kernel⟩, List.mem_of_getElem? (i := 815) (by decide +kernel), List.mem_of_getElem? (i := 945) (by decide +kernel), List.mem_of_getElem? (i := 946) (by decide +kernel)⟩
theorem lw_p43 : lw_okq (⟨"GrassCellsModel", "isLikeAhead", "(I)Z"⟩, 28) := ⟨⟨by decide +kernel, by decide +kernel⟩, List.mem_of_getElem? (i := 815) (by decide +kernel), List.mem_of_getElem? (i := 953) (by decide +kernel), List.mem_of_getElem? (i := 954) (by decide +kernel)⟩
theorem lw_p44 : lw_okq (⟨"GrassCellsModel", "readsFill", "()Z"⟩, 28) := ⟨⟨by decide +kernel, by decide +kernel⟩, List.mem_of_getElem? (i := 815) (by decide +kernel), List.mem_of_getElem? (i := 957) (by decide +kernel), List.mem_of_getElem? (i := 958) (by decide +kernel)⟩
theorem lw_p45 : lw_okq (⟨"GrassCellsModel", "laysShape", "(II)V"⟩, 28) := ⟨⟨by decide +kernel, by decide +kernel⟩, List.mem_of_getElem? (i := 815) (by decide +kernel), List.mem_of_getElem? (i := 964) (by decide +kernel), List.mem_of_getElem? (i := 965) (by decide +kernel)⟩
theorem lw_p46 : lw_okq (⟨"GrassCellsModel", "isBox", "(II)Z"⟩, 28) := ⟨⟨by decide +kernel, by decide +kernel⟩, List.mem_of_getElem? (i := 815) (by decide +kernel), List.mem_of_getElem? (i := 971) (by decide +kernel), List.mem_of_getElem? (i := 972) (by decide +kernel)⟩
theorem lw_p47 : lw_okq (⟨"GrassCellsModel", "isLe", "(III)Z"⟩, 28) := ⟨⟨by decide +kernel, by decide +kernel⟩, List.mem_of_getElem? (i := 815) (by decide +kernel), List.mem_of_getElem? (i := 975) (by decide +kernel), List.mem_of_getElem? (i := 976) (by decide +kernel)⟩
def lw_privs_3 : List (MethodName × Nat) := [(⟨"GrassCells$Census", "endLowestRow", "(I)V"⟩, 2), (⟨"GrassCells$Census", "pass", "(III)V"⟩, 2), (⟨"GrassCells$Census", "addColumn", "(I)V"⟩, 2), (⟨"GrassCells", "filledShelves", "()I"⟩, 8), (⟨"GrassCells", "countOfLive", "(I)I"⟩, 8), (⟨"GrassCellsModel", "wordHere", "()I"⟩, 28), (⟨"GrassCellsModel", "next", "()I"⟩, 28), (⟨"GrassCellsModel", "byteAt", "(I)I"⟩, 28), (⟨"GrassCellsModel", "fails", "(II)Z"⟩, 28), (⟨"GrassCellsModel", "readsRest", "(I)Z"⟩, 28), (⟨"GrassCellsModel", "readsPerm", "()Z"⟩, 28), (⟨"GrassCellsModel", "isLikeAhead", "(I)Z"⟩, 28), (⟨"GrassCellsModel", "readsFill", "()Z"⟩, 28), (⟨"GrassCellsModel", "laysShape", "(II)V"⟩, 28), (⟨"GrassCellsModel", "isBox", "(II)Z"⟩, 28), (⟨"GrassCellsModel", "isLe", "(III)Z"⟩, 28)]
theorem lw_r3 : ∀ q ∈ lw_privs_3, lw_okq q := List.forall_mem_cons.mpr ⟨lw_p32, List.forall_mem_cons.mpr ⟨lw_p33, List.forall_mem_cons.mpr ⟨lw_p34, List.forall_mem_cons.mpr ⟨lw_p35, List.forall_mem_cons.mpr ⟨lw_p36, List.forall_mem_cons.mpr ⟨lw_p37, List.forall_mem_cons.mpr ⟨lw_p38, List.forall_mem_cons.mpr ⟨lw_p39, List.forall_mem_cons.mpr ⟨lw_p40, List.forall_mem_cons.mpr ⟨lw_p41, List.forall_mem_cons.mpr ⟨lw_p42, List.forall_mem_cons.mpr ⟨lw_p43, List.forall_mem_cons.mpr ⟨lw_p44, List.forall_mem_cons.mpr ⟨lw_p45, List.forall_mem_cons.mpr ⟨lw_p46, List.forall_mem_cons.mpr ⟨lw_p47, fun _ h => absurd h List.not_mem_nil⟩⟩⟩⟩⟩⟩⟩⟩⟩⟩⟩⟩⟩⟩⟩⟩
theorem lw_p48 : lw_okq (⟨"GrassCellsModel", "isPlus", "(II)Z"⟩, 28) := ⟨⟨by decide +kernel, by decide +kernel⟩, List.mem_of_getElem? (i := 815) (by decide +kernel), List.mem_of_getElem? (i := 979) (by decide +kernel), List.mem_of_getElem? (i := 980) (by decide +kernel)⟩
theorem lw_p49 : lw_okq (⟨"GrassCellsModel", "goesFrom", "(III)I"⟩, 28) := ⟨⟨by decide +kernel, by decide +kernel⟩, List.mem_of_getElem? (i := 815) (by decide +kernel), List.mem_of_getElem? (i := 983) (by decide +kernel), List.mem_of_getElem? (i := 984) (by decide +kernel)⟩
theorem lw_p50 : lw_okq (⟨"GrassCellsModel", "rowAbove", "(II)I"⟩, 28) := ⟨⟨by decide +kernel, by decide +kernel⟩, List.mem_of_getElem? (i := 815) (by decide +kernel), List.mem_of_getElem? (i := 987) (by decide +kernel), List.mem_of_getElem? (i := 988) (by decide +kernel)⟩
theorem lw_p51 : lw_okq (⟨"GrassCellsModel", "columnLeft", "(III)I"⟩, 28) := ⟨⟨by decide +kernel, by decide +kernel⟩, List.mem_of_getElem? (i := 815) (by decide +kernel), List.mem_of_getElem? (i := 991) (by decide +kernel), List.mem_of_getElem? (i := 992) (by decide +kernel)⟩
theorem lw_p52 : lw_okq (⟨"GrassCellsModel", "readsNeck", "()Z"⟩, 28) := ⟨⟨by decide +kernel, by decide +kernel⟩, List.mem_of_getElem? (i := 815) (by decide +kernel), List.mem_of_getElem? (i := 998) (by decide +kernel), List.mem_of_getElem? (i := 999) (by decide +kernel)⟩
theorem lw_p53 : lw_okq (⟨"GrassCellsModel", "isNeck", "()Z"⟩, 28) := ⟨⟨by decide +kernel, by decide +kernel⟩, List.mem_of_getElem? (i := 815) (by decide +kernel), List.mem_of_getElem? (i := 1002) (by decide +kernel), List.mem_of_getElem? (i := 1003) (by decide +kernel)⟩
theorem lw_p54 : lw_okq (⟨"GrassCellsModel", "laysByNeck", "()Z"⟩, 28) := ⟨⟨by decide +kernel, by decide +kernel⟩, List.mem_of_getElem? (i := 815) (by decide +kernel), List.mem_of_getElem? (i := 1015) (by decide +kernel), List.mem_of_getElem? (i := 1016) (by decide +kernel)⟩
theorem lw_p55 : lw_okq (⟨"GrassCellsModel", "laysDiagram", "()V"⟩, 28) := ⟨⟨by decide +kernel, by decide +kernel⟩, List.mem_of_getElem? (i := 815) (by decide +kernel), List.mem_of_getElem? (i := 1022) (by decide +kernel), List.mem_of_getElem? (i := 1023) (by decide +kernel)⟩
theorem lw_p56 : lw_okq (⟨"GrassCellsModel", "isOwnDiagram", "()Z"⟩, 28) := ⟨⟨by decide +kernel, by decide +kernel⟩, List.mem_of_getElem? (i := 815) (by decide +kernel), List.mem_of_getElem? (i := 1026) (by decide +kernel), List.mem_of_getElem? (i := 1027) (by decide +kernel)⟩
theorem lw_p57 : lw_okq (⟨"GrassCellsModel", "searchesDiagram", "()V"⟩, 28) := ⟨⟨by decide +kernel, by decide +kernel⟩, List.mem_of_getElem? (i := 815) (by decide +kernel), List.mem_of_getElem? (i := 1030) (by decide +kernel), List.mem_of_getElem? (i := 1031) (by decide +kernel)⟩
theorem lw_p58 : lw_okq (⟨"GrassCellsModel", "isAllLe", "()Z"⟩, 28) := ⟨⟨by decide +kernel, by decide +kernel⟩, List.mem_of_getElem? (i := 815) (by decide +kernel), List.mem_of_getElem? (i := 1034) (by decide +kernel), List.mem_of_getElem? (i := 1035) (by decide +kernel)⟩
theorem lw_p59 : lw_okq (⟨"GrassCellsModel", "keepsAct", "()V"⟩, 28) := ⟨⟨by decide +kernel, by decide +kernel⟩, List.mem_of_getElem? (i := 815) (by decide +kernel), List.mem_of_getElem? (i := 1038) (by decide +kernel), List.mem_of_getElem? (i := 1039) (by decide +kernel)⟩
theorem lw_p60 : lw_okq (⟨"GrassCellsModel", "changes", "()V"⟩, 28) := ⟨⟨by decide +kernel, by decide +kernel⟩, List.mem_of_getElem? (i := 815) (by decide +kernel), List.mem_of_getElem? (i := 1042) (by decide +kernel), List.mem_of_getElem? (i := 1043) (by decide +kernel)⟩
theorem lw_p61 : lw_okq (⟨"GrassCellsModel", "follows", "()V"⟩, 28) := ⟨⟨by decide +kernel, by decide +kernel⟩, List.mem_of_getElem? (i := 815) (by decide +kernel), List.mem_of_getElem? (i := 1046) (by decide +kernel), List.mem_of_getElem? (i := 1047) (by decide +kernel)⟩
theorem lw_p62 : lw_okq (⟨"GrassCellsModel", "laysNeck", "()V"⟩, 28) := ⟨⟨by decide +kernel, by decide +kernel⟩, List.mem_of_getElem? (i := 815) (by decide +kernel), List.mem_of_getElem? (i := 1050) (by decide +kernel), List.mem_of_getElem? (i := 1051) (by decide +kernel)⟩
theorem lw_p63 : lw_okq (⟨"GrassCellsModel", "laysBases", "()V"⟩, 28) := ⟨⟨by decide +kernel, by decide +kernel⟩, List.mem_of_getElem? (i := 815) (by decide +kernel), List.mem_of_getElem? (i := 1054) (by decide +kernel), List.mem_of_getElem? (i := 1055) (by decide +kernel)⟩
def lw_privs_4 : List (MethodName × Nat) := [(⟨"GrassCellsModel", "isPlus", "(II)Z"⟩, 28), (⟨"GrassCellsModel", "goesFrom", "(III)I"⟩, 28), (⟨"GrassCellsModel", "rowAbove", "(II)I"⟩, 28), (⟨"GrassCellsModel", "columnLeft", "(III)I"⟩, 28), (⟨"GrassCellsModel", "readsNeck", "()Z"⟩, 28), (⟨"GrassCellsModel", "isNeck", "()Z"⟩, 28), (⟨"GrassCellsModel", "laysByNeck", "()Z"⟩, 28), (⟨"GrassCellsModel", "laysDiagram", "()V"⟩, 28), (⟨"GrassCellsModel", "isOwnDiagram", "()Z"⟩, 28), (⟨"GrassCellsModel", "searchesDiagram", "()V"⟩, 28), (⟨"GrassCellsModel", "isAllLe", "()Z"⟩, 28), (⟨"GrassCellsModel", "keepsAct", "()V"⟩, 28), (⟨"GrassCellsModel", "changes", "()V"⟩, 28), (⟨"GrassCellsModel", "follows", "()V"⟩, 28), (⟨"GrassCellsModel", "laysNeck", "()V"⟩, 28), (⟨"GrassCellsModel", "laysBases", "()V"⟩, 28)]
theorem lw_r4 : ∀ q ∈ lw_privs_4, lw_okq q := List.forall_mem_cons.mpr ⟨lw_p48, List.forall_mem_cons.mpr ⟨lw_p49, List.forall_mem_cons.mpr ⟨lw_p50, List.forall_mem_cons.mpr ⟨lw_p51, List.forall_mem_cons.mpr ⟨lw_p52, List.forall_mem_cons.mpr ⟨lw_p53, List.forall_mem_cons.mpr ⟨lw_p54, List.forall_mem_cons.mpr ⟨lw_p55, List.forall_mem_cons.mpr ⟨lw_p56, List.forall_mem_cons.mpr ⟨lw_p57, List.forall_mem_cons.mpr ⟨lw_p58, List.forall_mem_cons.mpr ⟨lw_p59, List.forall_mem_cons.mpr ⟨lw_p60, List.forall_mem_cons.mpr ⟨lw_p61, List.forall_mem_cons.mpr ⟨lw_p62, List.forall_mem_cons.mpr ⟨lw_p63, fun _ h => absurd h List.not_mem_nil⟩⟩⟩⟩⟩⟩⟩⟩⟩⟩⟩⟩⟩⟩⟩⟩
theorem lw_p64 : lw_okq (⟨"GrassCellsModel", "isAtLeast", "(III)Z"⟩, 28) := ⟨⟨by decide +kernel, by decide +kernel⟩, List.mem_of_getElem? (i := 815) (by decide +kernel), List.mem_of_getElem? (i := 1058) (by decide +kernel), List.mem_of_getElem? (i := 1059) (by decide +kernel)⟩
theorem lw_p65 : lw_okq (⟨"GrassCellsModel", "laysCluster", "()V"⟩, 28) := ⟨⟨by decide +kernel, by decide +kernel⟩, List.mem_of_getElem? (i := 815) (by decide +kernel), List.mem_of_getElem? (i := 1062) (by decide +kernel), List.mem_of_getElem? (i := 1063) (by decide +kernel)⟩
theorem lw_p66 : lw_okq (⟨"GrassCellsModel", "crossesNone", "(I)Z"⟩, 28) := ⟨⟨by decide +kernel, by decide +kernel⟩, List.mem_of_getElem? (i := 815) (by decide +kernel), List.mem_of_getElem? (i := 1066) (by decide +kernel), List.mem_of_getElem? (i := 1067) (by decide +kernel)⟩
theorem lw_p67 : lw_okq (⟨"GrassCellsModel", "doCross", "(II)Z"⟩, 28) := ⟨⟨by decide +kernel, by decide +kernel⟩, List.mem_of_getElem? (i := 815) (by decide +kernel), List.mem_of_getElem? (i := 1070) (by decide +kernel), List.mem_of_getElem? (i := 1071) (by decide +kernel)⟩
theorem lw_p68 : lw_okq (⟨"GrassCellsModel", "isLabel", "(I)Z"⟩, 28) := ⟨⟨by decide +kernel, by decide +kernel⟩, List.mem_of_getElem? (i := 815) (by decide +kernel), List.mem_of_getElem? (i := 1078) (by decide +kernel), List.mem_of_getElem? (i := 1079) (by decide +kernel)⟩
theorem lw_p69 : lw_okq (⟨"GrassCellsModel", "isCell", "()Z"⟩, 28) := ⟨⟨by decide +kernel, by decide +kernel⟩, List.mem_of_getElem? (i := 815) (by decide +kernel), List.mem_of_getElem? (i := 1094) (by decide +kernel), List.mem_of_getElem? (i := 1095) (by decide +kernel)⟩
theorem lw_p70 : lw_okq (⟨"GrassCellsModel", "isBasisHere", "(I)Z"⟩, 28) := ⟨⟨by decide +kernel, by decide +kernel⟩, List.mem_of_getElem? (i := 815) (by decide +kernel), List.mem_of_getElem? (i := 1113) (by decide +kernel), List.mem_of_getElem? (i := 1114) (by decide +kernel)⟩
theorem lw_p71 : lw_okq (⟨"GrassCellsModel", "laysParts", "()V"⟩, 28) := ⟨⟨by decide +kernel, by decide +kernel⟩, List.mem_of_getElem? (i := 815) (by decide +kernel), List.mem_of_getElem? (i := 1122) (by decide +kernel), List.mem_of_getElem? (i := 1123) (by decide +kernel)⟩
theorem lw_p72 : lw_okq (⟨"GrassCellsModel", "hang", "(II)Z"⟩, 28) := ⟨⟨by decide +kernel, by decide +kernel⟩, List.mem_of_getElem? (i := 815) (by decide +kernel), List.mem_of_getElem? (i := 1126) (by decide +kernel), List.mem_of_getElem? (i := 1127) (by decide +kernel)⟩
theorem lw_p73 : lw_okq (⟨"GrassCellsModel", "isSet", "(I)Z"⟩, 28) := ⟨⟨by decide +kernel, by decide +kernel⟩, List.mem_of_getElem? (i := 815) (by decide +kernel), List.mem_of_getElem? (i := 1134) (by decide +kernel), List.mem_of_getElem? (i := 1135) (by decide +kernel)⟩
theorem lw_p74 : lw_okq (⟨"GrassCellsModel", "laysPaths", "(I)V"⟩, 28) := ⟨⟨by decide +kernel, by decide +kernel⟩, List.mem_of_getElem? (i := 815) (by decide +kernel), List.mem_of_getElem? (i := 1139) (by decide +kernel), List.mem_of_getElem? (i := 1140) (by decide +kernel)⟩
theorem lw_p75 : lw_okq (⟨"GrassCellsModel", "plusToRight", "(II)I"⟩, 28) := ⟨⟨by decide +kernel, by decide +kernel⟩, List.mem_of_getElem? (i := 815) (by decide +kernel), List.mem_of_getElem? (i := 1143) (by decide +kernel), List.mem_of_getElem? (i := 1144) (by decide +kernel)⟩
theorem lw_p76 : lw_okq (⟨"GrassCellsModel", "plusAbove", "(II)I"⟩, 28) := ⟨⟨by decide +kernel, by decide +kernel⟩, List.mem_of_getElem? (i := 815) (by decide +kernel), List.mem_of_getElem? (i := 1147) (by decide +kernel), List.mem_of_getElem? (i := 1148) (by decide +kernel)⟩
theorem lw_p77 : lw_okq (⟨"GrassCellsModel", "endsAt", "(I)J"⟩, 28) := ⟨⟨by decide +kernel, by decide +kernel⟩, List.mem_of_getElem? (i := 815) (by decide +kernel), List.mem_of_getElem? (i := 1151) (by decide +kernel), List.mem_of_getElem? (i := 1152) (by decide +kernel)⟩
theorem lw_p78 : lw_okq (⟨"GrassCellsModel", "determinant", "(I)J"⟩, 28) := ⟨⟨by decide +kernel, by decide +kernel⟩, List.mem_of_getElem? (i := 815) (by decide +kernel), List.mem_of_getElem? (i := 1155) (by decide +kernel), List.mem_of_getElem? (i := 1156) (by decide +kernel)⟩
theorem lw_p79 : lw_okq (⟨"GrassCellsModel", "of", "(II)J"⟩, 28) := ⟨⟨by decide +kernel, by decide +kernel⟩, List.mem_of_getElem? (i := 815) (by decide +kernel), List.mem_of_getElem? (i := 1159) (by decide +kernel), List.mem_of_getElem? (i := 1160) (by decide +kernel)⟩
def lw_privs_5 : List (MethodName × Nat) := [(⟨"GrassCellsModel", "isAtLeast", "(III)Z"⟩, 28), (⟨"GrassCellsModel", "laysCluster", "()V"⟩, 28), (⟨"GrassCellsModel", "crossesNone", "(I)Z"⟩, 28), (⟨"GrassCellsModel", "doCross", "(II)Z"⟩, 28), (⟨"GrassCellsModel", "isLabel", "(I)Z"⟩, 28), (⟨"GrassCellsModel", "isCell", "()Z"⟩, 28), (⟨"GrassCellsModel", "isBasisHere", "(I)Z"⟩, 28), (⟨"GrassCellsModel", "laysParts", "()V"⟩, 28), (⟨"GrassCellsModel", "hang", "(II)Z"⟩, 28), (⟨"GrassCellsModel", "isSet", "(I)Z"⟩, 28), (⟨"GrassCellsModel", "laysPaths", "(I)V"⟩, 28), (⟨"GrassCellsModel", "plusToRight", "(II)I"⟩, 28), (⟨"GrassCellsModel", "plusAbove", "(II)I"⟩, 28), (⟨"GrassCellsModel", "endsAt", "(I)J"⟩, 28), (⟨"GrassCellsModel", "determinant", "(I)J"⟩, 28), (⟨"GrassCellsModel", "of", "(II)J"⟩, 28)]
theorem lw_r5 : ∀ q ∈ lw_privs_5, lw_okq q := List.forall_mem_cons.mpr ⟨lw_p64, List.forall_mem_cons.mpr ⟨lw_p65, List.forall_mem_cons.mpr ⟨lw_p66, List.forall_mem_cons.mpr ⟨lw_p67, List.forall_mem_cons.mpr ⟨lw_p68, List.forall_mem_cons.mpr ⟨lw_p69, List.forall_mem_cons.mpr ⟨lw_p70, List.forall_mem_cons.mpr ⟨lw_p71, List.forall_mem_cons.mpr ⟨lw_p72, List.forall_mem_cons.mpr ⟨lw_p73, List.forall_mem_cons.mpr ⟨lw_p74, List.forall_mem_cons.mpr ⟨lw_p75, List.forall_mem_cons.mpr ⟨lw_p76, List.forall_mem_cons.mpr ⟨lw_p77, List.forall_mem_cons.mpr ⟨lw_p78, List.forall_mem_cons.mpr ⟨lw_p79, fun _ h => absurd h List.not_mem_nil⟩⟩⟩⟩⟩⟩⟩⟩⟩⟩⟩⟩⟩⟩⟩⟩
theorem lw_p80 : lw_okq (⟨"GrassCellsModel", "two", "(IIII)J"⟩, 28) := ⟨⟨by decide +kernel, by decide +kernel⟩, List.mem_of_getElem? (i := 815) (by decide +kernel), List.mem_of_getElem? (i := 1163) (by decide +kernel), List.mem_of_getElem? (i := 1164) (by decide +kernel)⟩
theorem lw_p81 : lw_okq (⟨"GrassCellsModel", "three", "(III)J"⟩, 28) := ⟨⟨by decide +kernel, by decide +kernel⟩, List.mem_of_getElem? (i := 815) (by decide +kernel), List.mem_of_getElem? (i := 1167) (by decide +kernel), List.mem_of_getElem? (i := 1168) (by decide +kernel)⟩
theorem lw_p82 : lw_okq (⟨"GrassCellsModel", "squareAt", "(I)I"⟩, 28) := ⟨⟨by decide +kernel, by decide +kernel⟩, List.mem_of_getElem? (i := 815) (by decide +kernel), List.mem_of_getElem? (i := 1183) (by decide +kernel), List.mem_of_getElem? (i := 1184) (by decide +kernel)⟩
theorem lw_p83 : lw_okq (⟨"GrassCellsModel", "isOfNeck", "(I)Z"⟩, 28) := ⟨⟨by decide +kernel, by decide +kernel⟩, List.mem_of_getElem? (i := 815) (by decide +kernel), List.mem_of_getElem? (i := 1187) (by decide +kernel), List.mem_of_getElem? (i := 1188) (by decide +kernel)⟩
theorem lw_p84 : lw_okq (⟨"GrassCellsModel", "squareBy", "(III)I"⟩, 28) := ⟨⟨by decide +kernel, by decide +kernel⟩, List.mem_of_getElem? (i := 815) (by decide +kernel), List.mem_of_getElem? (i := 1191) (by decide +kernel), List.mem_of_getElem? (i := 1192) (by decide +kernel)⟩
theorem lw_p85 : lw_okq (⟨"GrassCellsModel", "isThere", "(III)Z"⟩, 28) := ⟨⟨by decide +kernel, by decide +kernel⟩, List.mem_of_getElem? (i := 815) (by decide +kernel), List.mem_of_getElem? (i := 1195) (by decide +kernel), List.mem_of_getElem? (i := 1196) (by decide +kernel)⟩
theorem lw_p86 : lw_okq (⟨"GrassCellsModel", "toldNext", "(III)I"⟩, 28) := ⟨⟨by decide +kernel, by decide +kernel⟩, List.mem_of_getElem? (i := 815) (by decide +kernel), List.mem_of_getElem? (i := 1211) (by decide +kernel), List.mem_of_getElem? (i := 1212) (by decide +kernel)⟩
theorem lw_p87 : lw_okq (⟨"GrassCellsModel", "nextOnes", "(II)I"⟩, 28) := ⟨⟨by decide +kernel, by decide +kernel⟩, List.mem_of_getElem? (i := 815) (by decide +kernel), List.mem_of_getElem? (i := 1215) (by decide +kernel), List.mem_of_getElem? (i := 1216) (by decide +kernel)⟩
theorem lw_p88 : lw_okq (⟨"GrassCellsModel", "swaps", "(II)Z"⟩, 28) := ⟨⟨by decide +kernel, by decide +kernel⟩, List.mem_of_getElem? (i := 815) (by decide +kernel), List.mem_of_getElem? (i := 1225) (by decide +kernel), List.mem_of_getElem? (i := 1226) (by decide +kernel)⟩
theorem lw_p89 : lw_okq (⟨"GrassCellsModel", "isNext", "(II)Z"⟩, 28) := ⟨⟨by decide +kernel, by decide +kernel⟩, List.mem_of_getElem? (i := 815) (by decide +kernel), List.mem_of_getElem? (i := 1229) (by decide +kernel), List.mem_of_getElem? (i := 1230) (by decide +kernel)⟩
theorem lw_p90 : lw_okq (⟨"GrassCellsModel", "goes", "(II)I"⟩, 28) := ⟨⟨by decide +kernel, by decide +kernel⟩, List.mem_of_getElem? (i := 815) (by decide +kernel), List.mem_of_getElem? (i := 1241) (by decide +kernel), List.mem_of_getElem? (i := 1242) (by decide +kernel)⟩
theorem lw_p91 : lw_okq (⟨"GrassCellsModel", "dim", "()I"⟩, 28) := ⟨⟨by decide +kernel, by decide +kernel⟩, List.mem_of_getElem? (i := 815) (by decide +kernel), List.mem_of_getElem? (i := 1245) (by decide +kernel), List.mem_of_getElem? (i := 1246) (by decide +kernel)⟩
theorem lw_p92 : lw_okq (⟨"GrassCellsModel", "becomesNew", "()V"⟩, 28) := ⟨⟨by decide +kernel, by decide +kernel⟩, List.mem_of_getElem? (i := 815) (by decide +kernel), List.mem_of_getElem? (i := 1261) (by decide +kernel), List.mem_of_getElem? (i := 1262) (by decide +kernel)⟩
theorem lw_p93 : lw_okq (⟨"GrassCellsModel", "leastFrom", "(I)I"⟩, 28) := ⟨⟨by decide +kernel, by decide +kernel⟩, List.mem_of_getElem? (i := 815) (by decide +kernel), List.mem_of_getElem? (i := 1265) (by decide +kernel), List.mem_of_getElem? (i := 1266) (by decide +kernel)⟩
theorem lw_p94 : lw_okq (⟨"GrassCellsModel", "isFree", "(II)Z"⟩, 28) := ⟨⟨by decide +kernel, by decide +kernel⟩, List.mem_of_getElem? (i := 815) (by decide +kernel), List.mem_of_getElem? (i := 1279) (by decide +kernel), List.mem_of_getElem? (i := 1280) (by decide +kernel)⟩
theorem lw_p95 : lw_okq (⟨"GrassCellsModel", "isOne", "(III)Z"⟩, 28) := ⟨⟨by decide +kernel, by decide +kernel⟩, List.mem_of_getElem? (i := 815) (by decide +kernel), List.mem_of_getElem? (i := 1283) (by decide +kernel), List.mem_of_getElem? (i := 1284) (by decide +kernel)⟩
def lw_privs_6 : List (MethodName × Nat) := [(⟨"GrassCellsModel", "two", "(IIII)J"⟩, 28), (⟨"GrassCellsModel", "three", "(III)J"⟩, 28), (⟨"GrassCellsModel", "squareAt", "(I)I"⟩, 28), (⟨"GrassCellsModel", "isOfNeck", "(I)Z"⟩, 28), (⟨"GrassCellsModel", "squareBy", "(III)I"⟩, 28), (⟨"GrassCellsModel", "isThere", "(III)Z"⟩, 28), (⟨"GrassCellsModel", "toldNext", "(III)I"⟩, 28), (⟨"GrassCellsModel", "nextOnes", "(II)I"⟩, 28), (⟨"GrassCellsModel", "swaps", "(II)Z"⟩, 28), (⟨"GrassCellsModel", "isNext", "(II)Z"⟩, 28), (⟨"GrassCellsModel", "goes", "(II)I"⟩, 28), (⟨"GrassCellsModel", "dim", "()I"⟩, 28), (⟨"GrassCellsModel", "becomesNew", "()V"⟩, 28), (⟨"GrassCellsModel", "leastFrom", "(I)I"⟩, 28), (⟨"GrassCellsModel", "isFree", "(II)Z"⟩, 28), (⟨"GrassCellsModel", "isOne", "(III)Z"⟩, 28)]
theorem lw_r6 : ∀ q ∈ lw_privs_6, lw_okq q := List.forall_mem_cons.mpr ⟨lw_p80, List.forall_mem_cons.mpr ⟨lw_p81, List.forall_mem_cons.mpr ⟨lw_p82, List.forall_mem_cons.mpr ⟨lw_p83, List.forall_mem_cons.mpr ⟨lw_p84, List.forall_mem_cons.mpr ⟨lw_p85, List.forall_mem_cons.mpr ⟨lw_p86, List.forall_mem_cons.mpr ⟨lw_p87, List.forall_mem_cons.mpr ⟨lw_p88, List.forall_mem_cons.mpr ⟨lw_p89, List.forall_mem_cons.mpr ⟨lw_p90, List.forall_mem_cons.mpr ⟨lw_p91, List.forall_mem_cons.mpr ⟨lw_p92, List.forall_mem_cons.mpr ⟨lw_p93, List.forall_mem_cons.mpr ⟨lw_p94, List.forall_mem_cons.mpr ⟨lw_p95, fun _ h => absurd h List.not_mem_nil⟩⟩⟩⟩⟩⟩⟩⟩⟩⟩⟩⟩⟩⟩⟩⟩
theorem lw_p96 : lw_okq (⟨"GrassCellsModel", "laysItsNeck", "(I)V"⟩, 28) := ⟨⟨by decide +kernel, by decide +kernel⟩, List.mem_of_getElem? (i := 815) (by decide +kernel), List.mem_of_getElem? (i := 1296) (by decide +kernel), List.mem_of_getElem? (i := 1297) (by decide +kernel)⟩
theorem lw_p97 : lw_okq (⟨"GrassCellsModel", "loops", "(Z)I"⟩, 28) := ⟨⟨by decide +kernel, by decide +kernel⟩, List.mem_of_getElem? (i := 815) (by decide +kernel), List.mem_of_getElem? (i := 1305) (by decide +kernel), List.mem_of_getElem? (i := 1306) (by decide +kernel)⟩
theorem lw_p98 : lw_okq (⟨"GrassCellsModel", "parts", "()I"⟩, 28) := ⟨⟨by decide +kernel, by decide +kernel⟩, List.mem_of_getElem? (i := 815) (by decide +kernel), List.mem_of_getElem? (i := 1309) (by decide +kernel), List.mem_of_getElem? (i := 1310) (by decide +kernel)⟩
theorem lw_p99 : lw_okq (⟨"GrassCellsModel", "kept", "()I"⟩, 28) := ⟨⟨by decide +kernel, by decide +kernel⟩, List.mem_of_getElem? (i := 815) (by decide +kernel), List.mem_of_getElem? (i := 1313) (by decide +kernel), List.mem_of_getElem? (i := 1314) (by decide +kernel)⟩
def lw_privs_7 : List (MethodName × Nat) := [(⟨"GrassCellsModel", "laysItsNeck", "(I)V"⟩, 28), (⟨"GrassCellsModel", "loops", "(Z)I"⟩, 28), (⟨"GrassCellsModel", "parts", "()I"⟩, 28), (⟨"GrassCellsModel", "kept", "()I"⟩, 28)]
theorem lw_r7 : ∀ q ∈ lw_privs_7, lw_okq q := List.forall_mem_cons.mpr ⟨lw_p96, List.forall_mem_cons.mpr ⟨lw_p97, List.forall_mem_cons.mpr ⟨lw_p98, List.forall_mem_cons.mpr ⟨lw_p99, fun _ h => absurd h List.not_mem_nil⟩⟩⟩⟩
def lw_privs : List (MethodName × Nat) := lw_privs_1 ++ (lw_privs_2 ++ (lw_privs_3 ++ (lw_privs_4 ++ (lw_privs_5 ++ (lw_privs_6 ++ (lw_privs_7))))))
def lw_tbl : List Cond := k2_sels lw_privs ++ tables_1
theorem lw_privs_ok : ∀ q ∈ lw_privs, lw_okq q := by
  show ∀ q ∈ lw_privs_1 ++ (lw_privs_2 ++ (lw_privs_3 ++ (lw_privs_4 ++ (lw_privs_5 ++ (lw_privs_6 ++ (lw_privs_7)))))), lw_okq q
  exact List.forall_mem_append.mpr ⟨lw_r1, List.forall_mem_append.mpr ⟨lw_r2, List.forall_mem_append.mpr ⟨lw_r3, List.forall_mem_append.mpr ⟨lw_r4, List.forall_mem_append.mpr ⟨lw_r5, List.forall_mem_append.mpr ⟨lw_r6, lw_r7⟩⟩⟩⟩⟩⟩
def RX0 : String := "GrassCells$Cell"
def TX0 : u_T := fun k => match k with
  | 0 => ("GrassCells$Cell", "n", "I", false)
  | 1 => ("GrassCells$Cell", "size", "I", false)
  | 2 => ("GrassCells$Cell", "inversions", "I", false)
  | 3 => ("GrassCells$Cell", "baseCount", "I", false)
  | 4 => ("GrassCells$Cell", "image", "[I", true)
  | 5 => ("GrassCells$Cell", "necklace", "[I", true)
  | 6 => ("GrassCells$Cell", "baseList", "[I", true)
  | 7 => ("GrassCells$Cell", "diagram", "LGrassCells$Diagram;", true)
  | _ => ("GrassCells$Cell", "inBases", "[Z", true)
def tyX0 : Nat → FieldType := fun k => match k with
  | 0 => .int
  | 1 => .int
  | 2 => .int
  | 3 => .int
  | 4 => .array .int
  | 5 => .array .int
  | 6 => .array .int
  | 7 => .object "GrassCells$Diagram"
  | _ => .array .boolean
abbrev wsX00 : List Cond := u_ws RX0 TX0 9
theorem nmX0 : ∀ a, a < 9 → ∀ b, b < 9 → a ≠ b → (TX0 a).2.1 ≠ (TX0 b).2.1 := by decide +kernel
theorem tyX0_ok : ∀ k, k < 9 → parseFieldDescriptor (TX0 k).2.2.1 = some (tyX0 k) := by decide +kernel
theorem iX0 : ∀ w ∈ wsX00, w ∈ lw_tbl := by decide +kernel
def RX1 : String := "GrassCells$Census"
def TX1 : u_T := fun k => match k with
  | 0 => ("GrassCells$Census", "now", "[[I", false)
  | _ => ("GrassCells$Census", "then", "[[I", false)
def tyX1 : Nat → FieldType := fun k => match k with
  | 0 => .array (.array .int)
  | _ => .array (.array .int)
abbrev wsX10 : List Cond := u_ws RX1 TX1 2
theorem nmX1 : ∀ a, a < 2 → ∀ b, b < 2 → a ≠ b → (TX1 a).2.1 ≠ (TX1 b).2.1 := by decide +kernel
theorem tyX1_ok : ∀ k, k < 2 → parseFieldDescriptor (TX1 k).2.2.1 = some (tyX1 k) := by decide +kernel
theorem iX1 : ∀ w ∈ wsX10, w ∈ lw_tbl := by decide +kernel
def RX2 : String := "GrassCells$Collection"
def TX2 : u_T := fun k => match k with
  | 0 => ("GrassCells$Collection", "sets", "[I", true)
  | _ => ("GrassCells$Collection", "count", "I", false)
def tyX2 : Nat → FieldType := fun k => match k with
  | 0 => .array .int
  | _ => .int
abbrev wsX20 : List Cond := u_ws RX2 TX2 2
theorem nmX2 : ∀ a, a < 2 → ∀ b, b < 2 → a ≠ b → (TX2 a).2.1 ≠ (TX2 b).2.1 := by decide +kernel
theorem tyX2_ok : ∀ k, k < 2 → parseFieldDescriptor (TX2 k).2.2.1 = some (tyX2 k) := by decide +kernel
theorem iX2 : ∀ w ∈ wsX20, w ∈ lw_tbl := by decide +kernel
def RX3 : String := "GrassCells$Diagram"
def TX3 : u_T := fun k => match k with
  | 0 => ("GrassCells$Diagram", "n", "I", false)
  | 1 => ("GrassCells$Diagram", "first", "I", false)
  | 2 => ("GrassCells$Diagram", "plus", "[I", true)
  | 3 => ("GrassCells$Diagram", "atLeft", "[I", true)
  | 4 => ("GrassCells$Diagram", "atTop", "[I", true)
  | 5 => ("GrassCells$Diagram", "below", "[J", true)
  | 6 => ("GrassCells$Diagram", "paths", "[[J", true)
  | _ => ("GrassCells$Diagram", "minors", "[J", true)
def tyX3 : Nat → FieldType := fun k => match k with
  | 0 => .int
  | 1 => .int
  | 2 => .array .int
  | 3 => .array .int
  | 4 => .array .int
  | 5 => .array .long
  | 6 => .array (.array .long)
  | _ => .array .long
abbrev wsX30 : List Cond := u_ws RX3 TX3 8
theorem nmX3 : ∀ a, a < 8 → ∀ b, b < 8 → a ≠ b → (TX3 a).2.1 ≠ (TX3 b).2.1 := by decide +kernel
theorem tyX3_ok : ∀ k, k < 8 → parseFieldDescriptor (TX3 k).2.2.1 = some (tyX3 k) := by decide +kernel
theorem iX3 : ∀ w ∈ wsX30, w ∈ lw_tbl := by decide +kernel
def RX4 : String := "GrassCells$Moment"
def TX4 : u_T := fun k => match k with
  | 0 => ("GrassCells$Moment", "image", "[I", true)
  | 1 => ("GrassCells$Moment", "collection", "LGrassCells$Collection;", true)
  | _ => ("GrassCells$Moment", "n", "I", false)
def tyX4 : Nat → FieldType := fun k => match k with
  | 0 => .array .int
  | 1 => .object "GrassCells$Collection"
  | _ => .int
abbrev wsX40 : List Cond := u_ws RX4 TX4 3
theorem nmX4 : ∀ a, a < 3 → ∀ b, b < 3 → a ≠ b → (TX4 a).2.1 ≠ (TX4 b).2.1 := by decide +kernel
theorem tyX4_ok : ∀ k, k < 3 → parseFieldDescriptor (TX4 k).2.2.1 = some (tyX4 k) := by decide +kernel
theorem iX4 : ∀ w ∈ wsX40, w ∈ lw_tbl := by decide +kernel
def RX5 : String := "GrassCells$Neighbours"
def TX5 : u_T := fun k => match k with
  | 0 => ("GrassCells$Neighbours", "image", "[I", true)
  | _ => ("GrassCells$Neighbours", "found", "I", false)
def tyX5 : Nat → FieldType := fun k => match k with
  | 0 => .array .int
  | _ => .int
abbrev wsX50 : List Cond := u_ws RX5 TX5 2
theorem nmX5 : ∀ a, a < 2 → ∀ b, b < 2 → a ≠ b → (TX5 a).2.1 ≠ (TX5 b).2.1 := by decide +kernel
theorem tyX5_ok : ∀ k, k < 2 → parseFieldDescriptor (TX5 k).2.2.1 = some (tyX5 k) := by decide +kernel
theorem iX5 : ∀ w ∈ wsX50, w ∈ lw_tbl := by decide +kernel
def RX6 : String := "GrassCells$Past"
def TX6 : u_T := fun k => match k with
  | 0 => ("GrassCells$Past", "ring", "[LGrassCells$Moment;", true)
  | 1 => ("GrassCells$Past", "newest", "I", false)
  | _ => ("GrassCells$Past", "count", "I", false)
def tyX6 : Nat → FieldType := fun k => match k with
  | 0 => .array (.object "GrassCells$Moment")
  | 1 => .int
  | _ => .int
abbrev wsX60 : List Cond := u_ws RX6 TX6 3
theorem nmX6 : ∀ a, a < 3 → ∀ b, b < 3 → a ≠ b → (TX6 a).2.1 ≠ (TX6 b).2.1 := by decide +kernel
theorem tyX6_ok : ∀ k, k < 3 → parseFieldDescriptor (TX6 k).2.2.1 = some (tyX6 k) := by decide +kernel
theorem iX6 : ∀ w ∈ wsX60, w ∈ lw_tbl := by decide +kernel
def RX7 : String := "GrassCells$Reader"
def TX7 : u_T := fun k => match k with
  | 0 => ("GrassCells$Reader", "tape", "LGrassCells$Tape;", true)
  | 1 => ("GrassCells$Reader", "diagram", "LGrassCells$Diagram;", true)
  | 2 => ("GrassCells$Reader", "sets", "[I", true)
  | 3 => ("GrassCells$Reader", "begins", "[I", true)
  | 4 => ("GrassCells$Reader", "place", "I", false)
  | 5 => ("GrassCells$Reader", "size", "I", false)
  | 6 => ("GrassCells$Reader", "image", "[I", true)
  | _ => ("GrassCells$Reader", "n", "I", false)
def tyX7 : Nat → FieldType := fun k => match k with
  | 0 => .object "GrassCells$Tape"
  | 1 => .object "GrassCells$Diagram"
  | 2 => .array .int
  | 3 => .array .int
  | 4 => .int
  | 5 => .int
  | 6 => .array .int
  | _ => .int
abbrev wsX70 : List Cond := u_ws RX7 TX7 8
theorem nmX7 : ∀ a, a < 8 → ∀ b, b < 8 → a ≠ b → (TX7 a).2.1 ≠ (TX7 b).2.1 := by decide +kernel
theorem tyX7_ok : ∀ k, k < 8 → parseFieldDescriptor (TX7 k).2.2.1 = some (tyX7 k) := by decide +kernel
theorem iX7 : ∀ w ∈ wsX70, w ∈ lw_tbl := by decide +kernel
def RX9 : String := "GrassCells$Shelf"
def TX9 : u_T := fun k => match k with
  | 0 => ("GrassCells$Shelf", "n", "I", false)
  | 1 => ("GrassCells$Shelf", "size", "I", false)
  | 2 => ("GrassCells$Shelf", "baseCount", "I", false)
  | _ => ("GrassCells$Shelf", "baseList", "[I", true)
def tyX9 : Nat → FieldType := fun k => match k with
  | 0 => .int
  | 1 => .int
  | 2 => .int
  | _ => .array .int
abbrev wsX90 : List Cond := u_ws RX9 TX9 4
theorem nmX9 : ∀ a, a < 4 → ∀ b, b < 4 → a ≠ b → (TX9 a).2.1 ≠ (TX9 b).2.1 := by decide +kernel
theorem tyX9_ok : ∀ k, k < 4 → parseFieldDescriptor (TX9 k).2.2.1 = some (tyX9 k) := by decide +kernel
theorem iX9 : ∀ w ∈ wsX90, w ∈ lw_tbl := by decide +kernel
def RX10 : String := "GrassCells$Tape"
def TX10 : u_T := fun k => match k with
  | 0 => ("GrassCells$Tape", "bytes", "[I", true)
  | _ => ("GrassCells$Tape", "size", "I", false)
def tyX10 : Nat → FieldType := fun k => match k with
  | 0 => .array .int
  | _ => .int
abbrev wsX100 : List Cond := u_ws RX10 TX10 2
theorem nmX10 : ∀ a, a < 2 → ∀ b, b < 2 → a ≠ b → (TX10 a).2.1 ≠ (TX10 b).2.1 := by decide +kernel
theorem tyX10_ok : ∀ k, k < 2 → parseFieldDescriptor (TX10 k).2.2.1 = some (tyX10 k) := by decide +kernel
theorem iX10 : ∀ w ∈ wsX100, w ∈ lw_tbl := by decide +kernel
def RX11 : String := "GrassCells"
def TX11 : u_T := fun k => match k with
  | 0 => ("GrassCells", "reader", "LGrassCells$Reader;", true)
  | 1 => ("GrassCells", "live", "LGrassCells$Cell;", true)
  | 2 => ("GrassCells", "clusterNow", "LGrassCells$Collection;", true)
  | 3 => ("GrassCells", "neighbours", "LGrassCells$Neighbours;", true)
  | 4 => ("GrassCells", "past", "LGrassCells$Past;", true)
  | 5 => ("GrassCells", "census", "LGrassCells$Census;", true)
  | 6 => ("GrassCells", "shelves", "[LGrassCells$Shelf;", true)
  | _ => ("GrassCells", "scratch", "[I", true)
def tyX11 : Nat → FieldType := fun k => match k with
  | 0 => .object "GrassCells$Reader"
  | 1 => .object "GrassCells$Cell"
  | 2 => .object "GrassCells$Collection"
  | 3 => .object "GrassCells$Neighbours"
  | 4 => .object "GrassCells$Past"
  | 5 => .object "GrassCells$Census"
  | 6 => .array (.object "GrassCells$Shelf")
  | _ => .array .int
abbrev wsX110 : List Cond := u_ws RX11 TX11 8
theorem nmX11 : ∀ a, a < 8 → ∀ b, b < 8 → a ≠ b → (TX11 a).2.1 ≠ (TX11 b).2.1 := by decide +kernel
theorem tyX11_ok : ∀ k, k < 8 → parseFieldDescriptor (TX11 k).2.2.1 = some (tyX11 k) := by decide +kernel
theorem iX11 : ∀ w ∈ wsX110, w ∈ lw_tbl := by decide +kernel
def RX12 : String := "GrassCellsModel"
def TX12 : u_T := fun k => match k with
  | 0 => ("GrassCellsModel", "tape", "[B", true)
  | 1 => ("GrassCellsModel", "taped", "I", false)
  | 2 => ("GrassCellsModel", "at", "I", false)
  | 3 => ("GrassCellsModel", "wrong", "I", false)
  | 4 => ("GrassCellsModel", "words", "[B", true)
  | 5 => ("GrassCellsModel", "readN", "I", false)
  | 6 => ("GrassCellsModel", "readF", "[I", true)
  | 7 => ("GrassCellsModel", "places", "[I", true)
  | 8 => ("GrassCellsModel", "readSet", "[I", true)
  | 9 => ("GrassCellsModel", "boxes", "[I", true)
  | 10 => ("GrassCellsModel", "n", "I", false)
  | 11 => ("GrassCellsModel", "f", "[I", true)
  | 12 => ("GrassCellsModel", "k", "I", false)
  | 13 => ("GrassCellsModel", "neck", "[I", true)
  | 14 => ("GrassCellsModel", "isBasis", "[Z", true)
  | 15 => ("GrassCellsModel", "inCluster", "[Z", true)
  | 16 => ("GrassCellsModel", "partOf", "[I", true)
  | 17 => ("GrassCellsModel", "come", "[J", true)
  | 18 => ("GrassCellsModel", "matrix", "[J", true)
  | 19 => ("GrassCellsModel", "was", "[I", true)
  | 20 => ("GrassCellsModel", "undone", "I", false)
  | 21 => ("GrassCellsModel", "other", "[I", true)
  | 22 => ("GrassCellsModel", "isNew", "[Z", true)
  | 23 => ("GrassCellsModel", "newNeck", "[I", true)
  | 24 => ("GrassCellsModel", "tried", "[I", true)
  | 25 => ("GrassCellsModel", "shelfN", "[I", true)
  | 26 => ("GrassCellsModel", "shelfF", "[I", true)
  | _ => ("GrassCellsModel", "itsNeck", "[I", true)
def tyX12 : Nat → FieldType := fun k => match k with
  | 0 => .array .byte
  | 1 => .int
  | 2 => .int
  | 3 => .int
  | 4 => .array .byte
  | 5 => .int
  | 6 => .array .int
  | 7 => .array .int
  | 8 => .array .int
  | 9 => .array .int
  | 10 => .int
  | 11 => .array .int
  | 12 => .int
  | 13 => .array .int
  | 14 => .array .boolean
  | 15 => .array .boolean
  | 16 => .array .int
  | 17 => .array .long
  | 18 => .array .long
  | 19 => .array .int
  | 20 => .int
  | 21 => .array .int
  | 22 => .array .boolean
  | 23 => .array .int
  | 24 => .array .int
  | 25 => .array .int
  | 26 => .array .int
  | _ => .array .int
abbrev wsX120 : List Cond := u_ws RX12 TX12 28
theorem nmX12 : ∀ a, a < 28 → ∀ b, b < 28 → a ≠ b → (TX12 a).2.1 ≠ (TX12 b).2.1 := by decide +kernel
theorem tyX12_ok : ∀ k, k < 28 → parseFieldDescriptor (TX12 k).2.2.1 = some (tyX12 k) := by decide +kernel
theorem iX12 : ∀ w ∈ wsX120, w ∈ lw_tbl := by decide +kernel
def q_cls : List vw_C := [(RX0, TX0, 9), (RX1, TX1, 2), (RX2, TX2, 2), (RX3, TX3, 8), (RX4, TX4, 3), (RX5, TX5, 2), (RX6, TX6, 3), (RX7, TX7, 8), (RX9, TX9, 4), (RX10, TX10, 2), (RX11, TX11, 8), (RX12, TX12, 28)]
/-- the fields of a class: 0 an int, 2 a reference -/
def q_ft (c : Nat) : List Nat := match [[0, 0, 0, 0, 2, 2, 2, 2, 2], [2, 2], [2, 0], [0, 0, 2, 2, 2, 2, 2, 2], [2, 2, 0], [2, 0], [2, 0, 0], [2, 2, 2, 2, 0, 0, 2, 0], [0, 0, 0, 2], [2, 0], [2, 2, 2, 2, 2, 2, 2, 2], [2, 0, 0, 0, 2, 0, 2, 2, 2, 2, 0, 2, 0, 2, 2, 2, 2, 2, 2, 2, 0, 2, 2, 2, 2, 2, 2, 2]][c]? with
  | some l => l
  | none => []
def q_ClsOK (C : String) (T : u_T) (N : Nat) (fl : List Nat) : Prop := fl.length = N ∧ (∀ w ∈ u_ws C T N, w ∈ lw_tbl) ∧ (∀ a, a < N → ∀ b, b < N → a ≠ b → (T a).2.1 ≠ (T b).2.1) ∧ ∃ ty0 : Nat → FieldType, (∀ k, k < N → parseFieldDescriptor (T k).2.2.1 = some (ty0 k)) ∧ ∀ k, k < N → (fl[k]? = some 0 ∧ ty0 k = .int) ∨ (fl[k]? = some 2 ∧ (ty0 k).isReference = true)
theorem q_clsok_0 : q_ClsOK RX0 TX0 9 (q_ft 0) := ⟨by decide +kernel, iX0, nmX0, tyX0, tyX0_ok, by decide +kernel⟩
theorem q_clsok_1 : q_ClsOK RX1 TX1 2 (q_ft 1) := ⟨by decide +kernel, iX1, nmX1, tyX1, tyX1_ok, by decide +kernel⟩
theorem q_clsok_2 : q_ClsOK RX2 TX2 2 (q_ft 2) := ⟨by decide +kernel, iX2, nmX2, tyX2, tyX2_ok, by decide +kernel⟩
theorem q_clsok_3 : q_ClsOK RX3 TX3 8 (q_ft 3) := ⟨by decide +kernel, iX3, nmX3, tyX3, tyX3_ok, by decide +kernel⟩
theorem q_clsok_4 : q_ClsOK RX4 TX4 3 (q_ft 4) := ⟨by decide +kernel, iX4, nmX4, tyX4, tyX4_ok, by decide +kernel⟩
theorem q_clsok_5 : q_ClsOK RX5 TX5 2 (q_ft 5) := ⟨by decide +kernel, iX5, nmX5, tyX5, tyX5_ok, by decide +kernel⟩
theorem q_clsok_6 : q_ClsOK RX6 TX6 3 (q_ft 6) := ⟨by decide +kernel, iX6, nmX6, tyX6, tyX6_ok, by decide +kernel⟩
theorem q_clsok_7 : q_ClsOK RX7 TX7 8 (q_ft 7) := ⟨by decide +kernel, iX7, nmX7, tyX7, tyX7_ok, by decide +kernel⟩
theorem q_clsok_8 : q_ClsOK RX9 TX9 4 (q_ft 8) := ⟨by decide +kernel, iX9, nmX9, tyX9, tyX9_ok, by decide +kernel⟩
theorem q_clsok_9 : q_ClsOK RX10 TX10 2 (q_ft 9) := ⟨by decide +kernel, iX10, nmX10, tyX10, tyX10_ok, by decide +kernel⟩
theorem q_clsok_10 : q_ClsOK RX11 TX11 8 (q_ft 10) := ⟨by decide +kernel, iX11, nmX11, tyX11, tyX11_ok, by decide +kernel⟩
theorem q_clsok_11 : q_ClsOK RX12 TX12 28 (q_ft 11) := ⟨by decide +kernel, iX12, nmX12, tyX12, tyX12_ok, by decide +kernel⟩
theorem q_cls_ok : ∀ (ci : Nat) (C : String) (T : u_T) (N : Nat), q_cls[ci]? = some (C, T, N) → q_ClsOK C T N (q_ft ci)
  | 0, _, _, _, h => by cases h; exact q_clsok_0
  | 1, _, _, _, h => by cases h; exact q_clsok_1
  | 2, _, _, _, h => by cases h; exact q_clsok_2
  | 3, _, _, _, h => by cases h; exact q_clsok_3
  | 4, _, _, _, h => by cases h; exact q_clsok_4
  | 5, _, _, _, h => by cases h; exact q_clsok_5
  | 6, _, _, _, h => by cases h; exact q_clsok_6
  | 7, _, _, _, h => by cases h; exact q_clsok_7
  | 8, _, _, _, h => by cases h; exact q_clsok_8
  | 9, _, _, _, h => by cases h; exact q_clsok_9
  | 10, _, _, _, h => by cases h; exact q_clsok_10
  | 11, _, _, _, h => by cases h; exact q_clsok_11
  | _ + 12, _, _, _, h => by simp [q_cls] at h
def qp_Law_law : List Nat := [0, 3, 4, 7, 8, 11, 12, 15, 16, 17, 18, 19, 20, 21, 23, 24, 27, 28, 29, 30, 32, 33, 160, 161, 162, 163, 164, 165, 166, 167, 168, 169, 170, 171, 172, 173, 174, 175, 176, 177, 178, 179, 180, 181, 182, 183, 184, 185, 186, 189, 190, 191, 192, 193, 194, 195, 196, 197, 198, 199, 200, 201, 202, 203, 204, 205, 206, 207, 208, 209, 210, 211, 212, 213, 214, 215, 218, 221, 222, 223, 224, 225, 226, 227, 228, 229, 232, 233, 234, 235, 236, 237, 238, 241, 244, 245, 246, 247, 250, 251, 254, 257, 258, 259, 260, 261, 262, 263, 264, 265, 268, 269, 270, 271, 272, 273, 274, 277, 280, 281, 282, 283, 284, 285, 286, 287, 288, 291, 292, 293, 294, 295, 296, 297, 300, 303, 304, 305, 306, 307, 308, 309, 310, 311, 312, 313, 314, 315, 316, 319, 320, 321, 322, 323, 324, 325, 326, 327, 328, 329, 330, 333, 336, 337, 338, 339, 342, 343, 346, 349, 350, 351, 352, 353, 354, 355, 356, 357, 360, 361, 362, 363, 364, 365, 366, 369, 372, 373, 374, 375, 376, 377, 378, 379, 380, 383, 384, 385, 386, 387, 388, 389, 392, 395, 396, 397, 398, 399, 400, 401, 402, 403, 404, 405, 406, 407, 408, 409, 410, 411, 412, 413, 416, 417, 418, 419, 420, 421, 422, 423, 424, 425, 426, 427, 428, 429, 430, 431, 432, 435, 438, 439, 440, 441, 442, 443, 444, 445, 446, 449, 450, 451, 452, 453, 454, 455, 458, 461, 462, 463, 464, 465, 466, 467, 468, 469, 472, 473, 474, 475, 476, 477, 478, 481, 482, 485, 486, 487, 488, 489, 490, 491, 492, 493, 494, 495, 496, 497, 498, 501, 502, 503, 504, 505, 506, 507, 508, 509, 510, 511, 512, 515, 518, 519, 520, 521, 522, 523, 524, 525, 526, 529, 530, 531, 532, 533, 534, 535, 538, 541, 542, 543, 544, 545, 546, 547, 548, 549, 552, 553, 554, 555, 556, 557, 558, 561, 564, 565, 566, 567, 568, 569, 570, 571, 572, 575, 576, 577, 578, 579, 580, 581, 584, 587, 588, 589, 590, 591, 592, 593, 594, 595, 596, 597, 598, 599, 600, 603, 604, 605, 606, 607, 608, 609, 610, 611, 612, 613, 614, 617, 620, 621, 622, 623, 624, 625, 626, 627, 628, 629, 630, 631, 632, 633, 636, 637, 638, 639, 640, 641, 642, 643, 644, 645, 646, 647, 650, 653, 654, 655, 656, 657, 658, 659, 660, 661, 664, 665, 666, 667, 668, 669, 670, 673, 676, 677, 678, 679, 680, 681, 682, 683, 684, 687, 688, 689, 690, 691, 692, 693, 696, 699, 700, 701, 702, 705, 706, 709, 712, 713, 714, 715, 718, 719, 722, 725, 726, 727, 728, 731, 732, 735, 738, 739, 740, 741, 744, 745, 748, 751, 752, 753, 754, 755, 756, 757, 758, 759, 760, 761, 762, 763, 764, 765, 766, 767, 768, 769, 772, 773, 774, 775, 776, 777, 778, 779, 780, 781, 782, 783, 784, 785, 786, 787, 788, 791, 794, 795, 796, 797, 798, 799, 800, 801, 802, 805, 806, 807, 808, 809, 810, 811, 814, 817, 818, 819, 820, 821, 822, 823, 824, 825, 828, 829, 830, 831, 832, 833, 834, 837, 840, 841, 842, 843, 844, 845, 846, 847, 848, 851, 852, 853, 854, 855, 856, 857, 860, 863, 864, 865, 868, 871, 872]
def qh_Law_law : List (List Nat) := [[1018, 1019, 1001], [], [1020, 1021, 0], [], [4094, 4095, 1012], [], [4096, 4097, 0], [], [], [], [], [], [], [], [], [], [], [], [], [], [], [], [], [], [], [], [], [], [], [], [], [], [], [], [], [], [], [], [], [], [], [], [], [], [], [], [], [], [2063, 2064, 2065], [], [], [], [], [], [], [], [], [], [], [], [], [], [], [], [], [], [], [], [], [], [], [], [], [], [], [4186, 4187, 4188], [], [], [], [], [], [], [], [], [], [2071, 2072, 2073], [], [], [], [], [], [], [4190, 4191, 4192], [], [], [], [], [2075, 2076, 2077], [], [4197, 4198, 4199], [], [], [], [], [], [], [], [], [], [3055, 3056, 3057], [], [], [], [], [], [], [5113, 5114, 5115], [], [], [], [], [], [], [], [], [], [3063, 3064, 3065], [], [], [], [], [], [], [5121, 5122, 5123], [], [], [], [], [], [], [], [], [], [], [], [], [], [], [3067, 3068, 3069], [], [], [], [], [], [], [], [], [], [], [], [5125, 5126, 5127], [], [], [], [], [3073, 3074, 3075], [], [5129, 5130, 5131], [], [], [], [], [], [], [], [], [], [3077, 3078, 3079], [], [], [], [], [], [], [5137, 5138, 5139], [], [], [], [], [], [], [], [], [], [3081, 3082, 3083], [], [], [], [], [], [], [5144, 5145, 5146], [], [], [], [], [], [], [], [], [], [], [], [], [], [], [], [], [], [], [], [3093, 3094, 3095], [], [], [], [], [], [], [], [], [], [], [], [], [], [], [], [], [5148, 5149, 5150], [], [], [], [], [], [], [], [], [], [3108, 3109, 3110], [], [], [], [], [], [], [5157, 5158, 5159], [], [], [], [], [], [], [], [], [], [3122, 3123, 3124], [], [], [], [], [], [], [5169, 5170, 5171], [], [], [], [], [], [], [], [], [], [], [], [], [], [], [], [3147, 3148, 3149], [], [], [], [], [], [], [], [], [], [], [], [5210, 5211, 5212], [], [], [], [], [], [], [], [], [], [3152, 3153, 3154], [], [], [], [], [], [], [5214, 5215, 5216], [], [], [], [], [], [], [], [], [], [3156, 3157, 3158], [], [], [], [], [], [], [5218, 5219, 5220], [], [], [], [], [], [], [], [], [], [3178, 3179, 3180], [], [], [], [], [], [], [5238, 5239, 6000], [], [], [], [], [], [], [], [], [], [], [], [], [], [], [3187, 3188, 3189], [], [], [], [], [], [], [], [], [], [], [], [6006, 6007, 6008], [], [], [], [], [], [], [], [], [], [], [], [], [], [], [3209, 3210, 3211], [], [], [], [], [], [], [], [], [], [], [], [6032, 6033, 6034], [], [], [], [], [], [], [], [], [], [3213, 3214, 3215], [], [], [], [], [], [], [6036, 6037, 6038], [], [], [], [], [], [], [], [], [], [3229, 3230, 3231], [], [], [], [], [], [], [6048, 6049, 6050], [], [], [], [], [3233, 3234, 3235], [], [6052, 6053, 6054], [], [], [], [], [3237, 3238, 3239], [], [6056, 6057, 6058], [], [], [], [], [4005, 4006, 4007], [], [6068, 6069, 6070], [], [], [], [], [4009, 4010, 4011], [], [6002, 6003, 6004], [], [], [], [], [], [], [], [], [], [], [], [], [], [], [], [], [], [], [], [4018, 4019, 4020], [], [], [], [], [], [], [], [], [], [], [], [], [], [], [], [], [6072, 6073, 6074], [], [], [], [], [], [], [], [], [], [4056, 4057, 4058], [], [], [], [], [], [], [6086, 6087, 6088], [], [], [], [], [], [], [], [], [], [4064, 4065, 4066], [], [], [], [], [], [], [6091, 6092, 6093], [], [], [], [], [], [], [], [], [], [4073, 4074, 4075], [], [], [], [], [], [], [6099, 6100, 6101], [], [], [], [], [], [], []]
def qp_GC_init : List Nat := [0, 1, 4, 5, 8, 9, 12, 15, 16, 19, 20, 23, 26, 27, 30, 31, 34, 37, 38, 41, 42, 45, 48, 49, 52, 53, 56, 59, 60, 63, 64, 67, 70, 71, 72, 75, 78, 79, 81, 83, 86, 87, 88, 89, 90, 93, 94, 97, 98, 101, 102, 105, 106, 109, 112]
def qh_GC_init : List (List Nat) := [[], [1023, 1024, 0], [], [1026, 1027, 1002], [], [1028, 1029, 1], [2038], [], [1111, 1112, 1005], [], [1113, 1114, 1], [2039], [], [1172, 1173, 1006], [], [1174, 1175, 1], [2040], [], [1187, 1188, 1007], [], [1189, 1190, 1], [2041], [], [1201, 1202, 1008], [], [1203, 1204, 0], [2042], [], [2002, 2003, 1010], [], [2004, 2005, 1], [2043], [], [], [2017, 2018], [2044], [], [], [1047], [2045], [], [], [], [], [], [], [2044], [], [2017, 2019, 1011], [], [2020, 2021, 1], [], [], [], []]
def qp_J_init : List Nat := [0]
def qh_J_init : List (List Nat) := [[]]
def qp_Re_init : List Nat := [0, 1, 4, 5, 8, 9, 12, 15, 16, 19, 20, 23, 26, 27, 29, 31, 34, 35, 37, 39, 42, 43, 45, 47, 50]
def qh_Re_init : List (List Nat) := [[], [1031, 1024, 0], [], [1032, 1033, 1003], [], [1034, 1035, 1], [1083], [], [1048, 1049, 1004], [], [1050, 1051, 1], [1085], [], [], [1047], [1086], [], [], [1047], [1087], [], [], [1047], [1090], []]
def qp_Ta_init : List Nat := [0, 1, 4, 5, 8, 10, 13]
def qh_Ta_init : List (List Nat) := [[], [1037, 1024, 0], [], [], [1047], [1038], []]
def qp_Di_init : List Nat := [0, 1, 4, 5, 7, 9, 12, 13, 15, 17, 20, 21, 23, 25, 28, 29, 31, 33, 36, 37, 39, 41, 45, 48, 49, 52, 54, 57]
def qh_Di_init : List (List Nat) := [[], [1053, 1024, 0], [], [], [1047], [1059], [], [], [1047], [1060], [], [], [1047], [1061], [], [], [1082], [1062], [], [], [], [1054, 1055, 1082], [1063], [], [], [1082], [1064], []]
def qp_Ce_init : List Nat := [0, 1, 4, 5, 7, 9, 12, 13, 15, 17, 20, 21, 23, 25, 28, 29, 32, 33, 36, 39, 40, 43, 45, 48]
def qh_Ce_init : List (List Nat) := [[], [1116, 1024, 0], [], [], [1047], [1136], [], [], [1047], [1141], [], [], [1047], [1145], [], [1117, 1049, 1004], [], [1118, 1051, 1], [1149], [], [], [1171], [1151], []]
def qp_Co_init : List Nat := [0, 1, 4, 5, 7, 9, 12]
def qh_Co_init : List (List Nat) := [[], [1177, 1024, 0], [], [], [1047], [1178], []]
def qp_Ne_init : List Nat := [0, 1, 4, 5, 7, 9, 12]
def qh_Ne_init : List (List Nat) := [[], [1192, 1024, 0], [], [], [1047], [1193], []]
def qp_Pa_init : List Nat := [0, 1, 4, 5, 7, 10, 13, 14, 15, 16, 18, 21, 22, 25, 26, 29, 30, 33, 34, 37, 40]
def qh_Pa_init : List (List Nat) := [[], [1206, 1024, 0], [], [], [1207, 1208], [1231], [], [], [], [], [], [], [1231], [], [1207, 1209, 1009], [], [1210, 1211, 1], [], [], [], []]
def qp_Mo_init : List Nat := [0, 1, 4, 5, 7, 9, 12, 13, 16, 17, 20, 23]
def qh_Mo_init : List (List Nat) := [[], [1213, 1024, 0], [], [], [1047], [1216], [], [1214, 1173, 1006], [], [1215, 1175, 1], [1219], []]
def qp_Cs_init : List Nat := [0, 1, 4, 5, 7, 9, 13, 16, 17, 19, 21, 25, 28]
def qh_Cs_init : List (List Nat) := [[], [2007, 1024, 0], [], [], [], [2008, 2009, 1047], [2010], [], [], [], [2008, 2009, 1047], [2011], []]
def qp_Sh_init : List Nat := [0, 1, 4, 5, 7, 9, 12]
def qh_Sh_init : List (List Nat) := [[], [2023, 1024, 0], [], [], [1047], [2028], []]
def qp_GC_feed : List Nat := [0, 1, 4, 7, 10, 12, 13, 16, 19, 20, 21, 22, 25, 28, 29, 32, 33, 36, 39, 40, 43, 44, 47, 50, 51, 54, 55, 58, 61, 63, 66, 67, 70, 73, 75, 78, 79, 82, 85, 88]
def qh_GC_feed : List (List Nat) := [[], [2038], [1084], [1039], [], [], [], [], [], [], [], [2038], [1084], [], [2067, 2068, 2069], [], [2038], [1084], [], [2067, 2068, 2069], [], [2038], [1084], [], [2067, 2068, 2069], [], [2038], [1084], [], [2067, 2068, 2069], [], [2038], [1084], [], [2067, 2068, 2069], [], [2038], [1084], [1039], []]
def qp_Ta_append : List Nat := [0, 2, 3, 4, 7, 8, 11, 14, 17, 18, 21, 22, 25, 26, 27, 28, 31, 32, 33, 34, 35, 38, 39, 40, 43, 46, 49]
def qh_Ta_append : List (List Nat) := [[], [], [], [], [], [1040], [], [], [], [1038], [], [1040], [], [], [], [], [], [], [], [], [1040], [], [], [1040], [], [], []]
def qp_GC_end : List Nat := [0, 1, 4, 5, 6, 9, 12, 15, 18, 19, 20, 21, 24, 27, 28, 31, 32]
def qh_GC_end : List (List Nat) := [[], [], [], [], [2038], [1084], [1039], [], [], [], [], [2038], [1084], [], [1039], [], []]
def qp_GC_cell : List Nat := [0, 1, 4, 7, 8, 9, 12, 15, 16, 19, 20, 23, 25, 26, 27, 28, 29, 30, 33, 36, 37, 40, 43, 46, 47, 50, 53]
def qh_GC_cell : List (List Nat) := [[], [2038], [2079, 2080, 2081], [], [], [2038], [1084], [], [1039], [], [], [], [], [], [], [], [], [2038], [1093], [], [2038], [1091], [2221, 2223, 16], [], [2039], [1124], []]
def qp_Re_read : List Nat := [0, 1, 2, 5, 6, 7, 10, 11, 12, 15, 16, 19, 20, 23, 24, 25, 28, 29, 32, 35, 38, 39, 42, 43, 46, 49, 52, 53, 54, 57, 58, 59, 62, 65, 66, 69, 70, 71, 72, 75, 76, 79, 80, 83, 86, 87, 88, 89, 92, 93, 128, 129, 132, 133, 134, 137, 138, 139, 142, 143, 144, 145, 146, 149]
def qh_Re_read : List (List Nat) := [[], [], [1088], [], [], [1092], [], [], [1089], [], [2083, 2085, 0], [], [1088], [], [], [1088], [], [1083], [1041], [], [], [1083], [], [1088], [2091, 2092, 2093], [], [], [], [1088], [], [], [1088], [], [], [1088], [], [], [], [], [], [1083], [], [2096, 2097, 2098], [], [], [], [], [2083, 2085, 0], [], [], [], [2100, 2102, 1], [], [], [2123, 2125, 5], [], [], [2183, 2185, 12], [], [], [], [], [2112, 2114, 3], []]
def qp_Re_skipBlanks : List Nat := [0, 1, 4, 5, 8, 11, 14, 15, 18, 19, 22, 25, 27, 30, 31, 32, 35, 36, 37, 40, 43]
def qh_Re_skipBlanks : List (List Nat) := [[], [1088], [], [1083], [1041], [], [], [1083], [], [1088], [2087, 2088, 2089], [], [], [], [], [1088], [], [], [1088], [], []]
def qp_Ta_at : List Nat := [0, 1, 4, 5, 6, 9, 12, 13, 16, 17, 18, 21, 22]
def qh_Ta_at : List (List Nat) := [[], [], [], [], [1040], [], [], [1038], [], [], [], [], []]
def qp_Ta_isSmallLetter : List Nat := [0, 1, 2, 5, 7, 10, 11, 12, 15, 17, 20, 21, 24, 25]
def qh_Ta_isSmallLetter : List (List Nat) := [[], [], [2095, 2088, 2089], [], [], [], [], [2095, 2088, 2089], [], [], [], [], [], []]
def qp_Ta_fourBytes : List Nat := [0, 1, 2, 5, 7, 8, 9, 10, 11, 12, 15, 17, 18, 19, 20, 21, 22, 23, 26, 28, 29, 30, 31, 32, 33, 34, 37, 38]
def qh_Ta_fourBytes : List (List Nat) := [[], [], [2095, 2088, 2089], [], [], [], [], [], [], [2095, 2088, 2089], [], [], [], [], [], [], [], [2095, 2088, 2089], [], [], [], [], [], [], [], [2095, 2088, 2089], [], []]
def qp_Re_readNumbers : List Nat := [0, 1, 2, 5, 6, 9, 10, 13, 16, 19, 20, 23, 25, 28, 29, 30, 33, 34, 35, 38, 41, 42, 43, 46, 47, 50, 51, 52, 55, 56, 57, 60, 61, 62, 65, 68, 69, 72, 73, 76, 77, 78, 81, 82, 85, 88, 89, 92]
def qh_Re_readNumbers : List (List Nat) := [[], [], [1092], [], [1088], [], [1083], [1041], [], [], [1092], [], [], [], [], [1092], [], [], [2104, 2106, 2], [], [], [], [1088], [], [2112, 2114, 3], [], [], [2083, 2085, 0], [], [], [1092], [], [], [1092], [], [], [1092], [], [], [], [], [1088], [], [2112, 2114, 3], [], [], [2116, 2118, 4], []]
def qp_Re_readNumber : List Nat := [0, 1, 2, 3, 4, 5, 6, 9, 10, 13, 14, 17, 18, 19, 22, 25, 27, 28, 29, 30, 33, 34, 37, 38, 39, 42, 43, 45, 46, 47, 50, 53, 54, 57, 58, 59, 62, 63, 64, 65, 68, 69, 70, 71, 72, 75, 76, 77, 80, 81, 82, 83, 86, 87, 88, 91, 92]
def qh_Re_readNumber : List (List Nat) := [[], [], [], [], [], [], [], [], [1083], [], [1088], [], [], [2108, 2109, 2110], [], [], [], [], [], [1083], [], [1088], [], [], [2087, 2088, 2089], [], [], [], [], [], [], [], [], [], [], [], [], [], [], [1090], [], [], [], [], [1087], [], [], [1088], [], [], [], [1088], [], [], [1088], [], []]
def qp_Ta_isDigit : List Nat := [0, 1, 2, 5, 7, 10, 11, 12, 15, 17, 20, 21, 24, 25]
def qh_Ta_isDigit : List (List Nat) := [[], [], [2095, 2088, 2089], [], [], [], [], [2095, 2088, 2089], [], [], [], [], [], []]
def qp_Re_fault : List Nat := [0, 2, 3, 4, 5, 6]
def qh_Re_fault : List (List Nat) := [[], [], [], [], [], []]
def qp_Re_faultOfNumbers : List Nat := [0, 1, 2, 3, 4, 7, 10, 11, 14, 15, 16, 19, 20, 23, 24, 25, 27, 30, 31, 32, 35, 36, 37, 38, 41, 42, 45, 48, 49, 50, 51, 52, 53, 54, 57, 60, 61, 64, 65, 66, 67, 70, 71, 74, 75, 76, 77, 78, 81, 82, 85, 86, 87, 90, 91, 92, 93, 96, 97, 98, 101, 102, 103, 104, 107, 110, 111, 114, 115, 116, 117, 120, 121, 124, 125, 128, 129, 130, 133, 134, 135, 136, 137, 140, 141, 142, 145, 146, 147, 148, 151, 152, 153, 154, 155, 156, 159, 162, 163]
def qh_Re_faultOfNumbers : List (List Nat) := [[], [], [], [], [1092], [], [], [1090], [], [], [], [], [1090], [], [], [], [], [], [], [1087], [], [], [], [2112, 2114, 3], [], [], [], [], [], [], [], [], [], [1092], [], [], [1090], [], [], [], [], [], [1090], [], [], [], [], [1092], [], [], [], [], [1087], [], [], [], [2112, 2114, 3], [], [], [1090], [], [], [], [1092], [], [], [1090], [], [], [], [1092], [], [], [], [1090], [], [], [2120, 2121], [], [], [], [], [], [], [], [1087], [], [], [], [2112, 2114, 3], [], [], [], [], [], [], [], [], []]
def qp_Se_only : List Nat := [0, 1, 2, 3, 4, 5]
def qh_Se_only : List (List Nat) := [[], [], [], [], [], []]
def qp_Re_readFilling : List Nat := [0, 1, 4, 7, 8, 9, 12, 13, 16, 17, 18, 19, 20, 21, 24, 27, 28, 31, 34, 35, 38, 41, 42, 43, 46, 49, 50, 51, 54, 55, 58, 59, 62, 65, 66, 69, 70, 73, 74, 77, 80, 83, 84, 85, 88, 89, 92, 95, 96, 99]
def qh_Re_readFilling : List (List Nat) := [[], [2127, 2129, 6], [], [], [], [1088], [], [2112, 2114, 3], [], [], [], [], [], [1092], [], [], [1085], [1058], [], [2142, 2143], [], [], [], [2145, 2147, 8], [], [], [], [1088], [], [2112, 2114, 3], [], [], [], [], [2083, 2085, 0], [], [1088], [], [1083], [1041], [], [], [], [1088], [], [2112, 2114, 3], [], [], [2159, 2161, 9], []]
def qp_Re_readPath : List Nat := [0, 1, 2, 3, 4, 7, 8, 11, 13, 16, 17, 20, 23, 24, 27, 28, 31, 34, 36, 39, 40, 41, 44, 45, 46, 49, 50, 51, 52, 53, 56, 57, 58, 61, 62, 63, 66, 67, 68, 71, 74, 75, 78, 79, 82, 83, 86, 87, 90, 91, 94, 95, 98, 101, 102, 105, 106]
def qh_Re_readPath : List (List Nat) := [[], [], [], [], [1092], [], [1092], [], [], [], [2131, 2133, 7], [], [], [1083], [], [1088], [2087, 2088, 2089], [], [], [], [], [1092], [], [], [2120, 2121], [], [], [], [], [1088], [], [], [1088], [], [], [1092], [], [], [1092], [], [], [1085], [], [1092], [], [2135, 2136, 2137], [], [1092], [], [], [], [2131, 2133, 7], [], [], [], [], []]
def qp_Re_isLetterOfPath : List Nat := [0, 1, 4, 5, 8, 11, 13, 16, 17, 20, 21, 24, 27, 29, 32, 33, 36, 37]
def qh_Re_isLetterOfPath : List (List Nat) := [[], [1083], [], [1088], [2087, 2088, 2089], [], [], [], [1083], [], [1088], [2087, 2088, 2089], [], [], [], [], [], []]
def qp_Di_clear : List Nat := [0, 1, 2, 5, 6, 7, 10, 11, 14, 15, 18]
def qh_Di_clear : List (List Nat) := [[], [], [1056], [], [], [1057], [], [1059], [], [2139, 2140], []]
def qp_J_fill : List Nat := [0, 1, 2, 3, 4, 5, 6, 7, 10, 11, 12, 13, 14, 17, 20]
def qh_J_fill : List (List Nat) := [[], [], [], [], [], [], [], [], [], [], [], [], [], [], []]
def qp_Se_holds : List Nat := [0, 1, 2, 3, 4, 5, 6, 7, 10, 11, 14, 15]
def qh_Se_holds : List (List Nat) := [[], [], [], [], [], [], [], [], [], [], [], []]
def qp_Re_readRow : List Nat := [0, 1, 4, 5, 8, 9, 12, 15, 17, 20, 21, 22, 23, 24, 27, 28, 29, 32, 33, 36, 37, 40, 41, 42, 45, 46, 47, 50, 51, 52, 53, 56, 57, 60, 61, 62, 65, 68, 69, 72, 73, 76, 79, 81, 84, 85, 88, 89, 90, 93, 96, 97, 100, 101, 104, 107, 109, 112, 113, 114, 115, 116, 119, 120, 121, 124, 127, 130, 131]
def qh_Re_readRow : List (List Nat) := [[], [2083, 2085, 0], [], [1083], [], [1088], [2087, 2088, 2089], [], [], [], [], [], [], [1088], [], [], [1088], [], [2083, 2085, 0], [], [1087], [], [], [1088], [], [], [1092], [], [], [], [], [], [1085], [], [], [2149, 2150, 2151], [], [], [1083], [], [1088], [2087, 2088, 2089], [], [], [], [1085], [], [], [2154, 2155, 2156], [], [], [1083], [], [1088], [2087, 2088, 2089], [], [], [], [], [], [], [1088], [], [], [1088], [], [], [], []]
def qp_Di_isBox : List Nat := [0, 1, 2, 5, 6, 9, 10, 13, 16, 17, 20, 21, 24, 27, 28, 31, 32]
def qh_Di_isBox : List (List Nat) := [[], [], [], [], [1057], [], [2153, 2143], [], [], [1057], [], [2153, 2143], [], [], [], [], []]
def qp_Di_setPlus : List Nat := [0, 1, 4, 5, 6, 7, 8, 11, 12, 13]
def qh_Di_setPlus : List (List Nat) := [[], [1059], [], [], [], [], [2158, 2121], [], [], []]
def qp_Re_faultOfBoxes : List Nat := [0, 1, 2, 3, 4, 7, 10, 11, 14, 15, 16, 17, 18, 21, 22, 23, 24, 27, 28, 31, 32, 33, 36, 39, 40, 43, 44, 45, 48, 51, 52, 53, 54, 57, 58, 61, 64, 67, 70, 73, 74, 75, 76, 77, 80, 83, 84, 87, 88, 89, 92, 93, 96, 97, 100, 103, 104]
def qh_Re_faultOfBoxes : List (List Nat) := [[], [], [], [], [1092], [], [], [1087], [], [], [], [], [1092], [], [], [], [], [], [1085], [], [], [2149, 2150, 2151], [], [], [1085], [], [], [2163, 2164, 2165], [], [], [], [], [2112, 2114, 3], [], [], [], [], [], [], [], [], [], [], [1092], [], [], [1090], [], [], [1085], [], [2171, 2172, 2173], [], [], [], [], []]
def qp_Di_breaksLe : List Nat := [0, 1, 2, 3, 6, 9, 10, 13, 14, 15, 16, 17, 20, 21, 22, 23, 24, 25, 26, 29, 30, 31, 32, 35, 38, 39, 40, 43, 46, 47]
def qh_Di_breaksLe : List (List Nat) := [[], [], [], [2167, 2168, 2169], [], [], [1059], [], [], [], [], [], [], [], [], [], [], [], [], [], [], [], [2167, 2168, 2169], [], [], [], [], [], [], []]
def qp_Di_isPlus : List Nat := [0, 1, 4, 5, 6, 7, 10]
def qh_Di_isPlus : List (List Nat) := [[], [1059], [], [], [], [2153, 2143], []]
def qp_Di_imageOf : List Nat := [0, 1, 4, 5, 8, 9, 10, 11, 12, 14, 15, 17, 19, 20, 21, 24, 25, 28, 29, 32, 33, 35, 38, 40, 42, 43, 46, 49, 50, 51, 54, 55, 56, 59, 60, 63, 64, 65, 66, 67, 70, 71, 72, 73, 76, 78, 79, 82, 84, 85, 88, 89, 92, 94, 95, 96, 97, 98, 100, 103, 104, 105, 108, 111, 112]
def qh_Di_imageOf : List (List Nat) := [[], [1057], [], [2153, 2143], [], [], [], [], [], [], [], [], [], [], [1056], [], [], [], [], [], [], [2175, 2177, 10], [], [], [], [1056], [], [], [], [], [], [], [1056], [], [], [], [], [], [], [2179, 2181, 11], [], [], [], [], [], [], [], [], [], [1056], [], [], [], [], [], [], [], [], [2167, 2168, 2169], [], [], [], [], [], []]
def qp_Di_nextColumn : List Nat := [0, 1, 2, 3, 4, 5, 6, 9, 12, 13, 16, 17, 20, 23, 26, 29, 30]
def qh_Di_nextColumn : List (List Nat) := [[], [], [], [], [], [], [1056], [], [], [1057], [], [2153, 2143], [], [], [], [], []]
def qp_Di_rowAbove : List Nat := [0, 1, 2, 3, 4, 5, 6, 9, 10, 13, 14, 17, 20, 23, 26, 27]
def qh_Di_rowAbove : List (List Nat) := [[], [], [], [], [], [], [], [], [1057], [], [2153, 2143], [], [], [], [], []]
def qp_Re_readSets : List Nat := [0, 1, 2, 5, 6, 9, 10, 13, 16, 19, 20, 23, 25, 28, 29, 30, 33, 34, 35, 38, 41, 42, 43, 46, 47, 50, 51, 52, 55, 56, 57, 60, 61, 62, 65, 68, 69, 72, 73, 76, 77, 78, 81, 82, 85, 88, 89, 92]
def qh_Re_readSets : List (List Nat) := [[], [], [1092], [], [1088], [], [1083], [1041], [], [], [1092], [], [], [], [], [1092], [], [], [2187, 2189, 13], [], [], [], [1088], [], [2112, 2114, 3], [], [], [2083, 2085, 0], [], [], [1092], [], [], [1092], [], [], [1092], [], [], [], [], [1088], [], [2112, 2114, 3], [], [], [2191, 2193, 14], []]
def qp_Re_readSet : List Nat := [0, 1, 2, 5, 7, 10, 11, 14, 15, 16, 17, 18, 20, 21, 24, 25, 26, 29, 30, 31, 34, 35, 36, 37, 38, 39, 42, 43, 46, 47, 50, 53, 56, 57, 60, 61, 64, 67, 69, 70, 72, 74, 76, 79, 81, 83, 86, 87, 88, 89, 92, 93, 94, 95, 97, 100, 101, 102, 104, 106, 109, 110, 111, 114, 115, 116, 119, 122, 123, 124, 127, 128, 129, 132, 133, 136, 137, 138, 141, 144, 145, 148, 149, 152, 155, 158, 159, 162, 163]
def qh_Re_readSet : List (List Nat) := [[], [], [], [], [], [], [1089], [], [], [], [], [], [], [1087], [], [], [1088], [], [], [1086], [], [], [], [], [], [], [], [1083], [], [1088], [2108, 2109, 2110], [], [], [1083], [], [1088], [2087, 2088, 2089], [], [], [], [], [], [], [], [], [], [], [], [], [1086], [], [], [], [], [2120, 2121], [], [], [], [], [], [], [], [1088], [], [], [1088], [], [], [], [], [], [], [1089], [], [], [], [], [1089], [], [], [1083], [], [1088], [2108, 2109, 2110], [], [], [], [], []]
def qp_Re_faultOfSets : List Nat := [0, 1, 2, 3, 4, 7, 10, 11, 14, 15, 16, 17, 20, 23, 24, 25, 26, 27, 30, 31, 32, 35, 36, 37, 40, 41, 42, 43, 46, 47, 48, 51, 52, 55, 58, 59, 60, 61, 62, 65, 68, 69, 72, 73, 74, 75, 76, 77, 78, 79, 80, 83, 84, 85, 88, 91, 92, 93, 96, 97, 98, 99, 102, 103, 106, 109, 110, 113, 114, 117, 118, 119, 122, 123, 126, 127, 128, 131, 134, 135, 136, 139, 140, 143, 144, 145, 148, 149, 150, 151, 152, 153, 156, 159, 160, 163, 164, 165, 166, 169, 170, 171, 172, 173, 176, 177, 178, 181, 184, 185, 186, 187, 190, 191, 192, 195, 196, 199, 202, 203]
def qh_Re_faultOfSets : List (List Nat) := [[], [], [], [], [1092], [], [], [1086], [], [], [], [1092], [2195, 2196], [], [], [], [], [1086], [], [], [], [], [], [1087], [], [], [], [2198, 2199], [], [], [2112, 2114, 3], [], [], [], [], [], [], [], [1092], [], [], [1086], [], [], [], [], [], [], [], [], [1086], [], [], [2204, 2205], [], [], [], [1087], [], [], [], [2112, 2114, 3], [], [], [], [], [1086], [], [1092], [], [], [1092], [], [1086], [], [], [2204, 2205], [], [], [], [1087], [], [1092], [], [], [2112, 2114, 3], [], [], [], [], [], [1092], [], [], [1090], [], [], [], [1086], [], [], [], [], [1086], [], [], [1092], [], [], [], [], [], [], [], [2210, 2212, 15], [], [], [], [], []]
def qp_Se_upTo : List Nat := [0, 1, 2, 3, 4, 5]
def qh_Se_upTo : List (List Nat) := [[], [], [], [], [], []]
def qp_J_bitCount : List Nat := [0, 1, 2, 3, 4, 7, 8, 9, 10, 11, 14, 15, 16, 17, 18, 21, 22, 23, 24, 25, 26, 27, 28, 29, 32, 33, 34, 35, 36, 38, 39, 40, 41, 42, 43, 45, 46, 47, 48, 49, 51, 52]
def qh_J_bitCount : List (List Nat) := [[], [], [], [], [2201], [], [], [], [], [2202], [], [], [], [], [2202], [], [], [], [], [], [], [], [], [2203], [], [], [], [], [], [], [], [], [], [], [], [], [], [], [], [], [], []]
def qp_Se_canStandBehind : List Nat := [0, 1, 2, 5, 8, 9, 10, 13, 14, 17, 18, 19, 20, 21, 24, 25, 26, 27, 28, 29, 30, 31, 32, 35, 36, 39, 40, 43, 46, 47, 50, 51]
def qh_Se_canStandBehind : List (List Nat) := [[], [], [2207, 2143], [], [], [], [], [], [], [], [], [], [], [2208, 2121], [], [], [], [], [], [], [], [], [], [], [2209, 2199], [], [2209, 2199], [], [], [], [], []]
def qp_Re_imageBetween : List Nat := [0, 1, 2, 5, 8, 9, 10, 11, 12, 13, 16, 17, 18, 19, 20, 21, 22, 25, 27, 29, 30, 33, 35, 38, 40, 41, 44, 45]
def qh_Re_imageBetween : List (List Nat) := [[], [], [2142, 2143], [], [], [], [], [], [], [2120, 2121], [], [], [], [], [], [], [2214, 2215], [], [], [], [], [], [], [], [], [1092], [], []]
def qp_Se_least : List Nat := [0, 1, 4, 5, 6]
def qh_Se_least : List (List Nat) := [[], [2217, 2218], [], [], []]
def qp_J_numberOfTrailingZeros : List Nat := [0, 1, 2, 3, 4, 5, 6, 7, 8, 9, 12, 13, 15, 16, 17, 18, 19, 20, 23, 26, 29, 30, 32, 33, 34, 35, 38, 41, 44, 45, 47, 48, 49, 50, 52, 55, 58, 59, 60, 61, 62, 63, 64, 67, 70, 71, 72, 73, 74, 75, 76, 77, 78, 79]
def qh_J_numberOfTrailingZeros : List (List Nat) := [[], [], [], [], [], [], [], [], [], [], [], [], [], [], [], [], [], [2220], [], [], [], [], [], [], [], [], [], [], [], [], [], [], [], [], [], [], [], [], [], [], [], [], [], [], [], [], [], [], [], [], [], [], [], []]
def qp_GC_become : List Nat := [0, 1, 4, 5, 8, 9, 12, 15, 16, 19, 20, 21, 24, 25, 28, 29, 32, 35]
def qh_GC_become : List (List Nat) := [[], [2042], [], [2039], [], [2040], [2225, 2226, 2227], [], [2039], [], [], [2236, 2237, 2238], [], [2040], [], [2039], [3036, 3037, 3038], []]
def qp_Pa_record : List Nat := [0, 1, 2, 5, 6, 7, 9, 12, 13, 16, 17, 18, 21, 22, 25, 26, 27, 30, 31, 32, 34, 37, 40, 41, 44, 45, 48, 49, 50, 51, 52, 55, 58, 59, 61, 63, 64, 67, 70, 71, 74, 76, 77, 80, 82, 83, 84, 87, 90, 91, 94, 95, 98]
def qh_Pa_record : List (List Nat) := [[], [], [1232], [], [], [], [], [], [1232], [], [], [], [], [1232], [], [], [1233], [], [], [], [2229, 2230, 1017, 2231], [1233], [], [1231], [], [1232], [], [], [], [], [1122], [1222], [], [], [], [], [1122], [], [], [1217], [], [], [1137], [], [], [], [], [], [], [1220], [], [2232, 2233, 2234], []]
def qp_J_min : List Nat := [0, 1, 2, 5, 6, 9, 10]
def qh_J_min : List (List Nat) := [[], [], [], [], [], [], []]
def qp_Co_copyFrom : List Nat := [0, 1, 2, 5, 8, 9, 10, 11, 12, 15, 18, 19, 22, 23, 24, 27, 28, 29, 30, 33, 36]
def qh_Co_copyFrom : List (List Nat) := [[], [], [1180], [1180], [], [], [], [], [1180], [], [], [1178], [], [], [1178], [], [], [], [], [], []]
def qp_Ce_take : List Nat := [0, 1, 2, 5, 6, 7, 8, 9, 12, 15, 16, 19, 20, 21, 22, 23, 24, 27, 30, 31, 34, 35, 38, 39, 40, 43, 44, 47, 50, 53, 54, 57, 58, 61]
def qh_Ce_take : List (List Nat) := [[], [], [1119], [], [], [], [], [1119], [], [], [1136], [], [], [], [], [], [], [], [], [3000, 3002, 17], [], [3006, 3008, 18], [], [], [1136], [], [1119], [3026, 3027], [1129], [], [1149], [], [3029, 3030, 3031], []]
def qp_Ce_layNecklace : List Nat := [0, 1, 2, 3, 4, 5, 6, 9, 12, 13, 16, 17, 18, 19, 22, 25, 26, 27, 30, 31, 32, 33, 36, 37, 40, 41, 42, 45, 48, 49, 50, 53, 56, 57, 60, 61, 62, 63, 64, 65, 66, 67, 70, 73, 74, 77, 78, 79, 80, 83, 84, 87, 88, 89, 90, 93, 96, 97, 100, 101, 102, 103, 106, 107, 110, 111, 114, 115, 116, 117, 118, 119, 122, 123, 124, 125, 126, 129, 130, 131, 132, 135, 136, 137, 138, 139, 140, 143, 146]
def qh_Ce_layNecklace : List (List Nat) := [[], [], [], [], [], [], [1119], [], [], [1136], [], [], [], [1119], [], [], [], [1136], [], [], [], [1119], [], [3004, 2121], [], [], [], [], [], [], [3005, 2199], [1127], [], [1141], [], [], [], [], [], [], [], [1119], [], [], [1136], [], [], [], [], [], [1136], [], [], [], [1119], [], [], [1136], [], [], [], [1119], [], [], [], [1136], [], [], [], [], [], [3004, 2121], [], [], [], [], [3004, 2121], [], [], [], [1141], [], [], [], [], [], [], [], []]
def qp_Ce_layBases : List Nat := [0, 1, 2, 5, 6, 7, 8, 11, 14, 15, 18, 19, 20, 21, 24, 27, 28, 29, 32, 35, 36, 39, 40, 41, 42, 45, 46, 47, 50, 51, 54, 56, 59, 60, 63, 64, 67, 68, 69, 70, 71, 74, 75, 76, 79, 82, 85]
def qh_Ce_layBases : List (List Nat) := [[], [], [1134], [], [], [], [], [], [], [1151], [], [], [], [3010, 3011, 3012], [], [], [], [3019, 3021, 19], [], [], [], [], [], [], [1151], [], [], [], [], [1134], [], [], [], [1145], [], [1134], [], [], [], [], [1134], [], [], [1134], [], [], []]
def qp_Ce_isSet : List Nat := [0, 1, 2, 5, 8, 9, 12, 13, 16, 19, 20, 23, 24]
def qh_Ce_isSet : List (List Nat) := [[], [], [3014, 3015, 3016], [], [], [3005, 2199], [], [1127], [], [], [], [], []]
def qp_Ce_areLabels : List Nat := [0, 1, 4, 7, 8, 11, 12, 13, 16, 19, 22, 23, 26, 27]
def qh_Ce_areLabels : List (List Nat) := [[], [1119], [], [], [], [], [], [1119], [3018, 2196], [], [], [], [], []]
def qp_Ce_isAtLeastNecklace : List Nat := [0, 1, 2, 3, 4, 7, 10, 11, 12, 15, 16, 17, 18, 19, 22, 25, 28, 29, 30, 33, 36, 37]
def qh_Ce_isAtLeastNecklace : List (List Nat) := [[], [], [], [], [1119], [], [], [], [1141], [], [], [], [], [1119], [3023, 3024], [], [], [], [], [], [], []]
def qp_Se_atLeast : List Nat := [0, 1, 3, 4, 6, 8, 9, 12, 13, 15, 16, 17, 20, 21, 23, 24, 27, 28, 30, 31, 32, 33, 35, 37, 38, 40, 41, 42, 43, 44, 45, 46, 48, 49, 50, 51, 52, 53, 54, 55, 57, 59, 62, 63, 64, 67, 70, 71]
def qh_Se_atLeast : List (List Nat) := [[], [], [], [], [], [], [], [], [], [], [], [], [], [], [], [], [], [], [], [], [], [], [], [], [], [], [], [], [], [], [], [], [], [], [], [], [], [], [], [], [], [], [], [], [], [], [], []]
def qp_Ce_inversionsOf : List Nat := [0, 1, 2, 3, 4, 5, 6, 9, 10, 11, 12, 14, 16, 17, 20, 21, 22, 23, 24, 25, 27, 28, 31, 32, 35, 36, 37, 38, 41, 44, 45, 47, 49, 50, 53, 54, 55, 56, 57, 58, 60, 61, 62, 63, 66, 67, 70, 71, 72, 73, 76, 79, 82, 85, 86]
def qh_Ce_inversionsOf : List (List Nat) := [[], [], [], [], [], [], [], [], [], [], [], [], [], [], [], [], [], [], [], [], [], [], [], [], [], [], [], [], [], [], [], [], [], [], [], [], [], [], [], [], [], [], [], [], [], [], [], [], [], [], [], [], [], [], []]
def qp_Di_drawFor : List Nat := [0, 1, 2, 5, 6, 9, 10, 11, 14, 15, 16, 17, 18, 21, 24, 25, 28, 29, 30, 31, 34, 37, 38, 41, 42, 43, 44, 47, 48, 51, 52, 55, 56, 57, 58, 59, 62, 63, 64, 65, 66, 69, 70, 71, 72, 75, 78, 79, 80, 81, 82, 85, 88, 89, 92, 93, 94, 95, 98, 99, 100, 101, 104, 107, 108, 111, 112, 113, 114, 117, 118, 119, 122, 123, 124, 125, 128, 129, 132, 133, 134, 136, 137, 140, 141, 142, 145, 146, 147, 148, 149, 152, 153, 155, 156, 159, 162, 165, 168]
def qh_Di_drawFor : List (List Nat) := [[], [], [1125], [], [1144], [], [], [3033, 2136, 2137], [], [], [], [], [1056], [], [], [1140], [], [], [], [1056], [], [], [1140], [], [], [], [1056], [], [], [], [1140], [], [], [], [], [1060], [], [], [], [], [1061], [], [], [], [], [], [], [], [], [], [1056], [], [], [1056], [], [], [], [], [], [], [], [3034, 2150, 2151], [], [], [1061], [], [], [], [1060], [], [], [], [], [], [], [3035, 2155, 2156], [], [1060], [], [], [], [], [1060], [], [], [1061], [], [], [], [], [1061], [], [], [], [], [], [], [], []]
def qp_Co_layFor : List Nat := [0, 1, 2, 5, 6, 7, 8, 9, 12, 15, 16, 17, 20, 21, 22, 25, 28, 31, 32, 33, 34, 35, 38, 41, 42, 43, 46, 47, 48, 49, 52, 55, 58, 59, 60, 63, 64, 65, 68, 71, 74]
def qh_Co_layFor : List (List Nat) := [[], [], [1180], [], [], [], [], [1121], [], [], [], [1142], [], [], [3040, 3041, 3042], [], [], [], [], [], [], [1133], [], [], [], [1147], [], [], [], [1121], [3048, 3050, 21], [], [], [], [1147], [], [], [3040, 3041, 3042], [], [], []]
def qp_Co_add : List Nat := [0, 1, 4, 6, 9, 10, 11, 14, 17, 18, 19, 22, 23, 24, 27, 28, 31, 32, 33, 34, 35, 36, 39, 40, 43, 44, 45, 48, 49, 50, 51, 52, 53, 56, 59, 60, 63, 64, 65, 66, 67, 68, 71, 72, 73, 76]
def qh_Co_add : List (List Nat) := [[], [1180], [], [], [], [], [3044, 3046, 20], [], [], [], [1180], [], [], [], [], [1178], [], [], [], [], [], [], [], [1178], [], [], [1178], [], [], [], [], [], [], [], [], [1178], [], [], [], [], [], [1180], [], [], [1180], []]
def qp_Co_contains : List Nat := [0, 1, 2, 3, 4, 7, 10, 11, 14, 15, 16, 17, 20, 21, 22, 25, 28, 29]
def qh_Co_contains : List (List Nat) := [[], [], [], [], [1180], [], [], [1178], [], [], [], [], [], [], [], [], [], []]
def qp_Co_crossesNone : List Nat := [0, 1, 2, 3, 4, 7, 10, 11, 12, 15, 16, 17, 18, 21, 24, 25, 26, 29, 32, 33]
def qh_Co_crossesNone : List (List Nat) := [[], [], [], [], [1180], [], [], [], [1178], [], [], [], [3052, 3053], [], [], [], [], [], [], []]
def qp_Se_crossing : List Nat := [0, 1, 2, 3, 4, 5, 7, 8, 10, 11, 13, 14, 16, 18, 19, 22, 23, 25, 28, 31, 32, 34, 37, 39, 41, 44, 46, 48, 51, 54, 55, 57, 59, 61, 64, 67, 69, 70, 73, 74, 77, 78]
def qh_Se_crossing : List (List Nat) := [[], [], [], [], [], [], [], [], [], [], [], [], [], [], [], [], [], [2207, 2143], [], [], [], [2207, 2143], [], [], [], [], [], [], [], [], [], [], [], [], [], [], [], [], [], [], [], []]
def qp_GC_f : List Nat := [0, 1, 4, 5, 8, 11, 12, 15, 18, 19, 20, 23, 24]
def qh_GC_f : List (List Nat) := [[], [2039], [], [3059, 3060, 3061], [], [], [2039], [1139], [], [], [], [], []]
def qp_Ce_isLabel : List Nat := [0, 1, 2, 5, 6, 7, 10, 13, 14, 17, 18]
def qh_Ce_isLabel : List (List Nat) := [[], [], [], [], [], [1119], [], [], [], [], []]
def qp_GC_neck : List Nat := [0, 1, 4, 5, 8, 11, 12, 15, 18, 19, 20, 23, 24]
def qh_GC_neck : List (List Nat) := [[], [2039], [], [3059, 3060, 3061], [], [], [2039], [1143], [], [], [], [], []]
def qp_GC_box : List Nat := [0, 1, 4, 5, 8, 11, 12, 15, 16, 19, 22, 23, 24, 25, 28, 31, 32, 33, 36, 39, 41, 42, 43, 46, 49, 50, 51, 54, 57, 58, 61, 62]
def qh_GC_box : List (List Nat) := [[], [2039], [], [3059, 3060, 3061], [], [], [2039], [], [3059, 3060, 3061], [], [], [], [], [2039], [1150], [], [], [3071, 2150, 2151], [], [], [], [], [2039], [1150], [], [], [3072, 2168, 2169], [], [], [], [], []]
def qp_GC_bases : List Nat := [0, 1, 4, 7, 10, 11, 14, 17, 20, 21]
def qh_GC_bases : List (List Nat) := [[], [2039], [1124], [], [], [2039], [1135], [], [], []]
def qp_GC_basis : List Nat := [0, 1, 4, 7, 10, 11, 14, 15, 16, 17, 18, 21, 24, 27, 28, 31, 34, 35, 36, 39, 41]
def qh_GC_basis : List (List Nat) := [[], [2039], [1124], [], [], [], [], [], [], [], [2039], [1135], [], [], [2039], [1148], [], [], [], [], []]
def qp_GC_rank : List Nat := [0, 1, 4, 5, 8, 11, 12, 15, 16, 19, 22, 23]
def qh_GC_rank : List (List Nat) := [[], [2039], [], [3085, 3015, 3016], [], [], [2039], [], [3086, 3087, 3088], [], [], []]
def qp_Ce_rankOf : List Nat := [0, 1, 2, 3, 4, 5, 6, 9, 12, 13, 14, 17, 18, 19, 20, 21, 24, 27, 28, 31, 34, 35]
def qh_Ce_rankOf : List (List Nat) := [[], [], [], [], [], [], [1134], [], [], [], [1145], [], [], [], [], [3005, 2199], [3090, 3091, 1017, 3092], [], [], [], [], []]
def qp_J_max : List Nat := [0, 1, 2, 5, 6, 9, 10]
def qh_J_max : List (List Nat) := [[], [], [], [], [], [], []]
def qp_GC_exchange : List Nat := [0, 1, 4, 5, 8, 11, 12, 15, 16, 19, 22, 23, 26, 27, 30, 33, 34, 35, 36, 37, 40, 43, 44, 45, 48, 51, 52, 53, 54, 57, 58, 59, 60, 63]
def qh_GC_exchange : List (List Nat) := [[], [2039], [], [3097, 3098, 3099], [], [], [2039], [], [3097, 3098, 3099], [], [], [2039], [], [3059, 3060, 3061], [], [], [], [], [], [3101, 2143], [], [], [], [3101, 2143], [], [], [], [], [2039], [], [], [], [3102, 3103, 3104], []]
def qp_Ce_isBasis : List Nat := [0, 1, 2, 5, 8, 9, 12, 13, 14, 17, 18, 21, 22]
def qh_Ce_isBasis : List (List Nat) := [[], [], [3014, 3015, 3016], [], [], [1151], [], [], [], [], [], [], []]
def qp_Ce_leastExchange : List Nat := [0, 1, 3, 5, 6, 9, 12, 13, 14, 15, 16, 17, 19, 22, 25, 26, 27, 28, 31, 32, 33, 34, 36, 39, 40, 43, 46, 48, 49, 52, 55, 57]
def qh_Ce_leastExchange : List (List Nat) := [[], [], [], [], [1119], [], [], [], [], [], [], [], [3106, 2143], [], [], [], [], [3004, 2121], [], [], [], [], [3004, 2121], [], [3107, 3098, 3099], [], [], [], [], [], [], []]
def qp_GC_part : List Nat := [0, 1, 4, 5, 8, 11, 12, 15, 16, 19, 22, 25, 26]
def qh_GC_part : List (List Nat) := [[], [2039], [], [3059, 3060, 3061], [], [], [2039], [], [3112, 3113, 3114], [3121, 2215], [], [], []]
def qp_Ce_hangingTogether : List Nat := [0, 1, 4, 5, 6, 7, 8, 10, 12, 13, 16, 19, 20, 21, 24, 25, 26, 27, 28, 29, 32, 34, 35, 37, 40, 41, 42, 43, 44, 46, 49, 50, 51, 54, 57, 58]
def qh_Ce_hangingTogether : List (List Nat) := [[], [3004, 2121], [], [], [], [], [], [], [], [1119], [], [], [], [], [], [], [], [], [], [3116, 2215], [], [], [], [3004, 2121], [], [], [], [], [], [3117, 3119, 22], [], [], [], [], [], []]
def qp_Ce_exchangeable : List Nat := [0, 1, 2, 3, 4, 5, 6, 9, 12, 13, 16, 17, 18, 19, 22, 25, 26, 28, 30, 31, 34, 37, 38, 41, 42, 43, 44, 45, 47, 50, 53, 54, 55, 58, 59, 60, 61, 64, 65, 66, 67, 69, 72, 73, 76, 79, 80, 82, 85, 86, 87, 90, 93, 96, 99, 100]
def qh_Ce_exchangeable : List (List Nat) := [[], [], [], [], [], [], [1134], [], [], [1145], [], [], [], [3106, 2143], [], [], [], [], [], [1119], [], [], [1145], [], [], [], [], [], [3106, 2143], [], [], [], [1145], [], [], [], [3004, 2121], [], [], [], [], [3004, 2121], [], [3107, 3098, 3099], [], [], [], [3004, 2121], [], [], [], [], [], [], [], []]
def qp_GC_ways : List Nat := [0, 1, 4, 5, 8, 11, 12, 15, 18, 19, 22, 25, 28]
def qh_GC_ways : List (List Nat) := [[], [2039], [], [3126, 3011, 3012], [], [], [2039], [1150], [], [3127, 3128, 3129], [], [3146], []]
def qp_Di_waysTo : List Nat := [0, 1, 4, 5, 6, 7, 8, 9, 10, 11, 14, 15, 16, 17, 18, 19, 21, 23, 24, 27, 30, 31, 33, 36, 39, 40, 42, 45, 48, 51, 52, 55, 56, 59, 60, 63, 64, 65, 66, 67, 69, 70, 72, 74, 75, 78, 81, 82, 84, 87, 90, 91, 93, 94, 96, 99, 102, 105, 108, 109, 112, 113, 114, 117]
def qh_Di_waysTo : List (List Nat) := [[], [1057], [], [], [], [], [], [], [], [1057], [], [], [], [], [], [], [], [], [1056], [], [], [], [2153, 2143], [], [], [], [3131, 3133, 23], [], [], [], [1064], [], [3135, 3136], [], [1064], [], [], [], [], [], [], [], [], [], [1056], [], [], [], [2153, 2143], [], [], [], [], [], [3138, 3140, 24], [], [], [], [], [1064], [], [], [3143, 3144, 1017, 3145], []]
def qp_Di_countPathsTo : List Nat := [0, 1, 4, 5, 8, 9, 12, 13, 14, 15, 16, 19, 20, 21, 22, 25, 26, 27, 28, 31, 33, 35, 36, 39, 40, 41, 43, 46, 49, 50, 51, 54, 56, 57, 58, 59, 60, 63, 65, 66, 67, 70, 73, 74, 77, 78, 79, 80, 81, 82, 85, 88]
def qh_Di_countPathsTo : List (List Nat) := [[], [1062], [], [3135, 3136], [], [1062], [], [], [], [], [1056], [], [], [], [], [], [], [], [1056], [], [], [], [], [], [], [], [2167, 2168, 2169], [], [], [], [1062], [], [], [], [], [], [1062], [], [], [], [], [], [], [1063], [], [], [], [], [], [], [], []]
def qp_J_fill2 : List Nat := [0, 1, 2, 3, 4, 6, 7, 9, 12, 13, 14, 15, 16, 19, 22]
def qh_J_fill2 : List (List Nat) := [[], [], [], [], [], [], [], [], [], [], [], [], [], [], []]
def qp_Di_expandRow : List Nat := [0, 1, 3, 5, 6, 9, 11, 12, 13, 14, 15, 18, 20, 23, 24, 27, 28, 29, 30, 32, 34, 35, 38, 41, 42, 44, 45, 46, 47, 49, 52, 55, 56, 59, 61, 62, 63, 66, 67, 68, 70, 71, 72, 74, 76, 78, 79, 82, 83, 84, 87, 88, 91, 92, 94, 95, 98, 100, 102, 105, 106, 107, 108, 110, 113, 115, 116, 119, 121, 122, 123, 126, 129, 132, 135]
def qh_Di_expandRow : List (List Nat) := [[], [], [], [], [], [], [], [], [], [], [], [], [3142, 2199], [], [], [], [], [], [], [], [], [1056], [], [], [], [], [], [], [], [2153, 2143], [], [], [1064], [], [], [], [1063], [], [], [], [], [], [], [], [], [], [3142, 2199], [], [], [], [], [], [], [], [], [1064], [], [], [2158, 2121], [], [], [], [], [], [], [], [], [], [], [], [], [], [], [], []]
def qp_J_abs : List Nat := [0, 1, 2, 3, 6, 7, 8, 11, 12]
def qh_J_abs : List (List Nat) := [[], [], [], [], [], [], [], [], []]
def qp_GC_cross : List Nat := [0, 1, 4, 5, 8, 11, 12, 15, 16, 19, 22, 23, 24, 25, 26, 27, 30, 33, 36, 39, 40, 43, 44]
def qh_GC_cross : List (List Nat) := [[], [2039], [], [3126, 3011, 3012], [], [], [2039], [], [3126, 3011, 3012], [], [], [], [], [], [], [2039], [1124], [3151, 3053], [], [], [], [], []]
def qp_GC_cluster : List Nat := [0, 1, 4, 7, 10, 11, 12, 15, 16, 17, 18, 19, 22, 23, 26, 29, 30, 31, 32, 35, 38, 41, 42, 45, 48, 49, 50, 53, 55]
def qh_GC_cluster : List (List Nat) := [[], [2039], [1124], [], [], [], [], [], [], [], [], [], [], [2040], [1181], [], [], [], [2040], [1181], [], [], [2040], [1179], [], [], [], [], []]
def qp_GC_square : List Nat := [0, 1, 4, 7, 10, 11, 12, 15, 16, 17, 18, 19, 20, 21, 22, 23, 26, 29, 32, 33, 36, 39, 40, 41, 43, 44, 47, 49, 50, 53, 56, 58, 61, 62, 63, 66, 68, 69, 72, 75, 78, 79, 80, 83, 84, 87, 89]
def qh_GC_square : List (List Nat) := [[], [2039], [1124], [], [], [], [], [], [], [], [], [], [], [], [], [2040], [1181], [], [], [2040], [1179], [], [], [], [], [2040], [], [], [2039], [3160, 3161, 3162], [], [], [], [], [], [], [], [], [], [], [], [], [], [], [], [], []]
def qp_Co_movedFrom : List Nat := [0, 1, 2, 5, 8, 9, 10, 13, 16, 18, 19, 20, 21, 22, 23, 26, 29, 30, 31, 32, 34, 36, 37, 40, 43, 44, 45, 48, 51, 52, 54, 57, 60, 61, 62, 63, 65, 66, 69, 72, 74, 76, 78, 81, 83, 84, 87, 90, 93, 96, 98]
def qh_Co_movedFrom : List (List Nat) := [[], [], [3044, 3046, 20], [], [], [], [3164, 3165, 3166], [], [], [], [], [], [], [], [1121], [], [], [], [], [], [], [], [1121], [], [], [], [3168, 2143], [], [], [], [3168, 2143], [], [], [], [], [], [], [1121], [3169, 3171, 25], [], [], [], [], [], [], [], [], [], [], [], []]
def qp_Ce_isOfNecklace : List Nat := [0, 1, 2, 3, 4, 7, 10, 11, 14, 15, 16, 17, 20, 21, 22, 25, 28, 29]
def qh_Ce_isOfNecklace : List (List Nat) := [[], [], [], [], [1119], [], [], [1141], [], [], [], [], [], [], [], [], [], []]
def qp_Co_movedAt : List Nat := [0, 1, 2, 5, 6, 7, 8, 9, 12, 13, 14, 15, 17, 18, 19, 20, 22, 24, 25, 28, 29, 31, 33, 35, 38, 40, 41, 44, 46, 47, 50, 51, 54, 55, 57, 59, 62, 63, 65, 68, 71, 72, 74, 77, 80, 81, 83, 84, 86, 87, 89, 92, 95, 97, 99, 102, 103, 105, 108, 109, 110, 113, 116, 119, 122, 124]
def qh_Co_movedAt : List (List Nat) := [[], [], [3173, 2121], [], [], [], [], [3173, 2121], [], [], [], [], [], [], [], [], [], [], [], [], [], [], [], [], [], [], [], [], [], [], [], [], [], [], [], [], [], [], [3168, 2143], [], [], [], [3168, 2143], [], [], [], [], [], [], [], [3174, 3176, 26], [], [], [], [3173, 2121], [], [], [3173, 2121], [], [], [], [], [], [], [], []]
def qp_Co_hasCorners : List Nat := [0, 1, 2, 3, 6, 7, 8, 11, 12, 15, 18, 19, 20, 21, 24, 25, 27, 30, 31, 34, 37, 38, 39, 41, 44, 45, 47, 50, 51, 54, 57, 58, 59, 60, 63, 64, 66, 69, 70, 73, 76, 77, 80, 81]
def qh_Co_hasCorners : List (List Nat) := [[], [], [], [3173, 2121], [], [], [3173, 2121], [], [3044, 3046, 20], [], [], [], [], [3173, 2121], [], [], [3173, 2121], [], [3044, 3046, 20], [], [], [], [], [3173, 2121], [], [], [3173, 2121], [], [3044, 3046, 20], [], [], [], [], [3173, 2121], [], [], [3173, 2121], [], [3044, 3046, 20], [], [], [], [], []]
def qp_GC_move : List Nat := [0, 1, 4, 7, 10, 11, 12, 13, 16, 17, 18, 21, 24, 25, 26, 28, 31, 33, 34, 35, 38, 39, 42, 43, 46, 49, 50, 53, 54, 57, 58, 61, 62, 65, 66]
def qh_GC_move : List (List Nat) := [[], [2039], [1124], [], [], [], [], [2040], [], [], [2039], [3160, 3161, 3162], [], [], [], [], [], [], [], [2042], [], [2039], [], [2040], [2225, 2226, 2227], [], [2040], [], [3182, 3183, 3184], [], [2040], [], [3186, 3041, 3042], [], []]
def qp_Co_remove : List Nat := [0, 1, 2, 3, 4, 5, 6, 9, 12, 13, 16, 17, 18, 19, 22, 23, 26, 27, 28, 31, 32, 33, 34, 37, 40, 43, 44, 45, 48]
def qh_Co_remove : List (List Nat) := [[], [], [], [], [], [], [1180], [], [], [1178], [], [], [], [], [], [1178], [], [], [1178], [], [], [], [], [], [], [], [], [1180], []]
def qp_GC_lower : List Nat := [0, 1, 2, 3, 4, 7]
def qh_GC_lower : List (List Nat) := [[], [], [], [], [3191, 3193, 27], []]
def qp_GC_valueOfNext : List Nat := [0, 1, 4, 7, 10, 11, 14, 15, 16, 19, 22, 25, 26, 27, 28, 31, 32, 35, 36, 39, 40, 43, 44, 45, 48, 49, 50, 51, 54, 55, 58, 59, 60, 63, 66, 67, 70, 73, 74, 75, 78, 80]
def qh_GC_valueOfNext : List (List Nat) := [[], [2039], [1124], [], [], [], [], [], [2039], [1124], [], [], [], [], [], [], [2041], [], [2039], [], [3195, 3196, 3197], [], [], [], [], [], [], [2041], [], [2039], [], [], [3208, 3200, 3201], [], [], [2041], [1194], [], [], [], [], []]
def qp_Ne_howManyFrom : List Nat := [0, 1, 2, 3, 4, 7, 8, 9, 12]
def qh_Ne_howManyFrom : List (List Nat) := [[], [], [], [], [3199, 3200, 3201], [], [], [1195], []]
def qp_Ne_seek : List Nat := [0, 1, 2, 5, 6, 8, 10, 11, 14, 17, 19, 20, 21, 23, 25, 27, 28, 31, 32, 35, 36, 37, 39, 41, 44, 47, 48, 51, 52, 55, 58, 59, 62, 63, 64, 67, 68, 71, 72, 75, 76, 77, 78, 79, 82, 83, 84, 87, 90, 93, 96, 99, 100]
def qh_Ne_seek : List (List Nat) := [[], [], [1195], [], [], [], [], [1123], [], [], [], [], [], [], [], [], [1123], [], [], [], [], [], [], [3203, 3205, 28], [], [], [1193], [], [1123], [3207, 3027], [], [1130], [], [], [], [], [1195], [], [], [], [], [], [], [1195], [], [], [1195], [], [], [], [], [], []]
def qp_Ne_swap : List Nat := [0, 1, 2, 5, 8, 9, 12, 15, 16, 18, 19, 21, 22, 24, 25, 28, 30, 31, 33, 34, 36, 37, 40, 41, 42, 44, 45, 47, 49, 50, 53, 55, 56, 57, 60, 61, 64, 66, 68, 71, 73, 75, 76, 79, 80, 83, 84, 85, 86, 88, 90, 91, 94, 97, 98, 101, 103, 104, 107, 109, 110, 111, 114, 117, 118, 121, 122, 124, 125, 126, 129, 131, 133, 134, 135]
def qh_Ne_swap : List (List Nat) := [[], [], [1123], [], [], [1123], [], [], [], [], [], [], [], [], [1138], [], [], [], [], [], [], [1138], [], [], [], [], [], [], [], [], [], [], [], [1123], [], [], [], [], [], [], [], [], [1123], [], [], [], [], [], [], [], [], [1123], [], [], [1193], [], [], [1138], [], [], [], [], [], [], [1193], [], [], [], [], [1193], [], [], [], [], []]
def qp_GC_upper : List Nat := [0, 1, 2, 3, 4, 7]
def qh_GC_upper : List (List Nat) := [[], [], [], [], [3191, 3193, 27], []]
def qp_GC_down : List Nat := [0, 1, 2, 3, 6]
def qh_GC_down : List (List Nat) := [[], [], [], [3217, 3219, 29], []]
def qp_GC_stepToNext : List Nat := [0, 1, 4, 7, 10, 11, 14, 15, 16, 17, 20, 21, 24, 25, 26, 29, 32, 34, 35, 36, 37, 40, 43, 44, 47, 50, 53, 54, 57, 60]
def qh_GC_stepToNext : List (List Nat) := [[], [2039], [1124], [], [], [], [], [], [], [2041], [], [2039], [], [], [3208, 3200, 3201], [], [], [], [], [], [2039], [1124], [], [2041], [1194], [2221, 2223, 16], [], [2039], [3221, 3222, 3223], []]
def qp_Ce_dimension : List Nat := [0, 1, 4, 7]
def qh_Ce_dimension : List (List Nat) := [[], [1149], [3225, 3226, 3227], []]
def qp_Di_plusCount : List Nat := [0, 1, 2, 3, 4, 5, 6, 9, 12, 13, 14, 17, 18, 19, 22, 23, 24, 27, 30, 31]
def qh_Di_plusCount : List (List Nat) := [[], [], [], [], [], [], [1056], [], [], [], [1059], [], [], [3142, 2199], [], [], [], [], [], []]
def qp_GC_up : List Nat := [0, 1, 2, 3, 6]
def qh_GC_up : List (List Nat) := [[], [], [], [3217, 3219, 29], []]
def qp_GC_turn : List Nat := [0, 1, 4, 7, 10, 11, 12, 13, 14, 15, 16, 19, 22, 25, 26, 29, 30, 31, 32, 33, 36, 39, 40, 41, 42, 43, 44, 47, 50, 51, 54, 55, 56, 59, 62, 63, 66, 69, 70, 71, 72, 73, 76, 79, 80, 81, 82, 83, 86, 89, 90, 93, 96, 97]
def qh_GC_turn : List (List Nat) := [[], [2039], [1124], [], [], [], [], [], [], [], [2039], [1124], [], [], [2045], [], [], [], [], [2039], [1139], [], [], [], [], [], [], [], [], [2045], [], [], [2039], [1139], [], [2039], [1124], [], [], [], [], [2039], [1124], [], [], [], [], [2039], [1124], [], [2045], [2221, 2223, 16], [], []]
def qp_GC_mirror : List Nat := [0, 1, 4, 7, 10, 11, 12, 13, 14, 15, 16, 19, 22, 25, 26, 29, 30, 33, 36, 37, 38, 39, 40, 41, 44, 47, 48, 49, 50, 53, 54, 57, 58, 59, 62, 65, 66, 67, 70, 73, 74, 77, 80, 81]
def qh_GC_mirror : List (List Nat) := [[], [2039], [1124], [], [], [], [], [], [], [], [2039], [1124], [], [], [2045], [], [2039], [1124], [], [], [], [], [], [2039], [1124], [], [], [], [2039], [], [4001, 4002, 4003], [], [], [], [], [], [], [2039], [1124], [], [2045], [2221, 2223, 16], [], []]
def qp_Ce_origin : List Nat := [0, 1, 2, 3, 4, 7, 10, 11, 14, 15, 16, 17, 20, 21, 22, 23, 26, 27, 28, 29, 30, 33, 34, 37, 38, 39, 42, 43, 44, 47, 50, 51]
def qh_Ce_origin : List (List Nat) := [[], [], [], [], [1119], [], [], [1136], [], [], [], [], [], [], [], [1136], [], [], [], [], [1119], [], [], [], [], [1119], [], [], [], [], [], []]
def qp_GC_complement : List Nat := [0, 1, 4, 7, 10, 11, 12, 13, 14, 15, 16, 19, 22, 25, 26, 29, 30, 31, 34, 35, 38, 39, 42, 45, 46, 47, 50, 53, 54, 55, 58, 61, 62, 65, 68, 69]
def qh_GC_complement : List (List Nat) := [[], [2039], [1124], [], [], [], [], [], [], [], [2039], [1124], [], [], [2045], [], [], [2039], [], [4001, 4002, 4003], [], [2039], [1124], [], [], [], [], [], [], [2039], [1124], [], [2045], [2221, 2223, 16], [], []]
def qp_GC_undo : List Nat := [0, 1, 4, 7, 10, 11, 12, 13, 16, 19, 20, 21, 24, 25, 28, 29, 32, 35, 36, 39, 40, 43, 46, 47, 50, 53]
def qh_GC_undo : List (List Nat) := [[], [2042], [1234], [], [], [], [], [2042], [4013, 4014, 4015], [], [], [2039], [], [1223], [], [1218], [2236, 2237, 2238], [], [2040], [], [1221], [4017, 2233, 2234], [], [2042], [1234], []]
def qp_Pa_takeLast : List Nat := [0, 1, 4, 5, 8, 9, 10, 11, 12, 15, 18, 19, 22, 23, 24, 27, 29, 32, 33, 34, 37, 38, 39, 42, 43]
def qh_Pa_takeLast : List (List Nat) := [[], [1231], [], [1232], [], [], [], [], [1232], [], [], [1232], [], [], [], [], [1232], [], [], [1233], [], [], [1233], [], []]
def qp_GC_howMany : List Nat := [0, 1, 2, 5, 6, 8, 11, 12, 15, 16, 17, 20, 21, 24, 25, 26, 27, 30, 31, 32, 33, 34, 35, 38, 39, 42]
def qh_GC_howMany : List (List Nat) := [[], [], [], [], [], [], [], [], [], [], [], [], [], [], [], [], [2043], [], [], [], [], [], [4022, 2230, 1017, 2231], [], [4023, 4024, 4025], []]
def qp_Cs_cells : List Nat := [0, 1, 3, 6, 7, 8, 9, 12, 13, 16, 17, 20, 21, 22, 23, 24, 25, 26, 27, 28, 30, 32, 33, 36, 37, 40, 41, 43, 45, 47, 50, 51, 53, 56, 57, 59, 62, 65, 68, 69, 72, 75, 78, 79, 82, 83, 84, 85, 86]
def qh_Cs_cells : List (List Nat) := [[], [], [], [], [], [], [4027, 4029, 30], [], [4032, 4034, 31], [], [2010], [], [], [], [], [], [], [], [], [], [], [], [], [], [4027, 4029, 30], [], [], [], [], [], [], [], [4036, 4038, 32], [], [], [4051, 4053, 34], [], [], [], [4032, 4034, 31], [], [], [], [2010], [], [], [], [], []]
def qp_Cs_clearThen : List Nat := [0, 1, 2, 3, 5, 8, 9, 12, 13, 14, 15, 18, 21, 24]
def qh_Cs_clearThen : List (List Nat) := [[], [], [], [], [], [], [2011], [], [], [], [4031, 2140], [], [], []]
def qp_Cs_flip : List Nat := [0, 1, 4, 5, 6, 7, 10, 13, 14, 15, 18]
def qh_Cs_flip : List (List Nat) := [[], [2010], [], [], [], [2011], [2010], [], [], [2011], []]
def qp_Cs_endLowestRow : List Nat := [0, 1, 4, 5, 6, 7, 10, 11, 12, 13, 14, 15, 16, 17, 18, 19, 20, 21, 22, 23, 24, 27]
def qh_Cs_endLowestRow : List (List Nat) := [[], [4040, 4041], [], [], [], [], [], [], [], [], [], [], [], [], [], [], [], [], [], [], [4047, 4049, 33], []]
def qp_J_highestOneBit : List Nat := [0, 1, 3, 4, 7, 8, 9]
def qh_J_highestOneBit : List (List Nat) := [[], [4043], [], [4044, 4045], [], [], []]
def qp_J_numberOfLeadingZeros : List Nat := [0, 1, 4, 5, 8, 10, 13, 14, 15, 17, 18, 19, 22, 25, 28, 29, 31, 32, 33, 34, 37, 40, 43, 44, 46, 47, 48, 49, 51, 54, 57, 58, 59, 60, 61, 62, 63, 66, 69, 70, 71, 72, 73, 74, 75, 76, 77, 78]
def qh_J_numberOfLeadingZeros : List (List Nat) := [[], [], [], [], [], [], [], [], [], [], [], [2220], [], [], [], [], [], [], [], [], [], [], [], [], [], [], [], [], [], [], [], [], [], [], [], [], [], [], [], [], [], [], [], [], [], [], [], []]
def qp_Cs_pass : List Nat := [0, 1, 3, 5, 6, 7, 9, 12, 13, 16, 17, 18, 20, 21, 22, 23, 24, 25, 28, 29, 30, 32, 33, 34, 35, 38, 41]
def qh_Cs_pass : List (List Nat) := [[], [], [], [], [], [], [], [], [2011], [], [], [], [], [], [], [], [], [2010], [], [], [], [], [], [], [], [], []]
def qp_Cs_addColumn : List Nat := [0, 1, 4, 5, 6, 7, 8, 9, 12, 13, 14, 15, 16, 17, 19, 20, 23, 24, 25, 26, 27, 28, 29, 30, 31, 32, 34, 35, 38, 39, 40, 41, 42, 43, 44, 47, 50, 53, 56]
def qh_Cs_addColumn : List (List Nat) := [[], [4040, 4041], [], [], [], [], [], [], [], [], [], [], [], [], [], [], [], [], [], [], [], [], [], [], [], [], [], [], [], [], [], [], [], [], [4055, 2199], [4047, 4049, 33], [], [], []]
def qp_GC_keep : List Nat := [0, 1, 4, 7, 10, 11, 14, 15, 16, 19, 20, 21, 22, 25, 26, 27, 28, 31, 34, 35, 38, 41]
def qh_GC_keep : List (List Nat) := [[], [2039], [1124], [], [], [], [], [], [], [], [], [], [2044], [], [], [], [2039], [4060, 4061, 4062], [], [2039], [3221, 3222, 3223], []]
def qp_Sh_put : List Nat := [0, 1, 2, 5, 8, 9, 10, 13, 16, 17, 18, 21, 24, 25, 26, 27, 28, 31, 34, 35, 38, 39, 40, 43, 44, 45, 46, 49, 52]
def qh_Sh_put : List (List Nat) := [[], [], [1120], [2024], [], [], [1126], [2026], [], [], [1132], [2027], [], [], [], [], [2027], [], [], [2028], [], [], [1146], [], [], [], [], [], []]
def qp_GC_has : List Nat := [0, 1, 4, 7, 10, 11, 14, 15, 16, 19, 20, 21, 22, 25, 26, 27, 30, 33, 35, 36, 37, 40, 41, 42, 43, 46, 49, 52, 53, 56, 57]
def qh_GC_has : List (List Nat) := [[], [2039], [1124], [], [], [], [], [], [], [], [], [], [2044], [], [], [2025], [], [], [], [], [2044], [], [], [], [2039], [4068, 4069, 4070], [], [], [], [], []]
def qp_Sh_isInClosureOf : List Nat := [0, 1, 4, 5, 8, 11, 12, 15, 16, 19, 22, 23, 24, 25, 26, 27, 28, 31, 34, 35, 36, 39, 40, 41, 44, 47, 48, 49, 52, 55, 56]
def qh_Sh_isInClosureOf : List (List Nat) := [[], [2024], [], [1120], [], [], [2026], [], [1126], [], [], [], [], [], [], [], [2027], [], [], [], [2028], [], [], [4072, 3098, 3099], [], [], [], [], [], [], []]
def qp_GC_count : List Nat := [0, 1, 28, 29, 32, 35, 36, 37, 40, 41, 42, 45, 48, 51, 52, 53, 56, 59, 62, 63, 64, 67, 70, 71]
def qh_GC_count : List (List Nat) := [[], [], [], [2042], [1234], [], [], [4077, 4079, 35], [], [], [2038], [1084], [1039], [], [], [2039], [1124], [], [], [], [4081, 4083, 36], [], [], []]
def qp_GC_filledShelves : List Nat := [0, 1, 2, 3, 4, 5, 6, 9, 10, 13, 14, 15, 18, 21, 22, 23, 24, 25, 26, 27, 30, 33, 34]
def qh_GC_filledShelves : List (List Nat) := [[], [], [], [], [], [], [], [], [2044], [], [], [2025], [], [], [], [], [], [], [], [], [], [], []]
def qp_GC_countOfLive : List Nat := [0, 1, 44, 45, 48, 51, 52, 53, 56, 59, 60, 61, 64, 67, 68, 69, 72, 75, 76, 77, 80, 81, 84, 85, 86, 89, 90, 93, 96, 99, 100, 101, 104, 107, 108, 109]
def qh_GC_countOfLive : List (List Nat) := [[], [], [], [2039], [1124], [], [], [2039], [1128], [], [], [2039], [3221, 3222, 3223], [], [], [2039], [1131], [], [], [2039], [], [4085, 4086, 4087], [], [], [2039], [], [2039], [1124], [4085, 4086, 4087], [], [], [2039], [4089, 4090, 4091], [], [], []]
def qp_Ce_fixedLabels : List Nat := [0, 1, 2, 3, 4, 5, 6, 9, 12, 13, 16, 17, 18, 19, 20, 21, 24, 25, 26, 29, 30, 31, 34, 37, 38]
def qh_Ce_fixedLabels : List (List Nat) := [[], [], [], [], [], [], [1119], [], [], [1136], [], [], [], [], [], [], [], [], [3004, 2121], [], [], [], [], [], []]
def qp_Ce_partCount : List Nat := [0, 1, 2, 3, 4, 5, 6, 7, 8, 11, 14, 15, 16, 19, 22, 23, 24, 25, 28, 29, 30, 33, 36, 39, 40]
def qh_Ce_partCount : List (List Nat) := [[], [], [], [], [], [], [], [], [1119], [], [], [], [3106, 2143], [], [], [], [], [4093, 3113, 3114], [], [], [], [], [], [], []]
def qp_Md_init : List Nat := [0, 1, 4, 5, 8, 10, 13, 14, 16, 18, 19, 20, 22, 23, 24, 25, 27, 28, 29, 30, 32, 33, 34, 35, 37, 38, 39, 40, 42, 43, 44, 45, 47, 48, 49, 51, 53, 54, 55, 57, 59, 60, 61, 63, 65, 66, 67, 69, 71, 72, 73, 75, 77, 78, 79, 81, 83, 84, 87, 88, 90, 92, 95, 96, 98, 100, 103, 104, 106, 108, 111, 112, 114, 116, 119, 120, 122, 124, 127, 128, 130, 132, 135, 136, 139, 141, 144, 145, 148, 150, 153, 154, 156, 158, 161, 162, 164, 166, 169, 170, 172, 174, 177, 178, 181, 183, 186, 187, 189, 191, 194, 195, 198, 200, 203, 204, 206, 208, 211, 212, 214, 216, 219, 220, 221, 223, 226, 227, 229, 231, 234, 235, 237, 239, 242, 243, 244, 245, 246, 249, 250, 253, 254, 255, 256, 259, 262]
def qh_Md_init : List (List Nat) := [[], [4099, 1024, 0], [], [], [4185], [4100], [], [], [4185], [], [], [], [], [], [], [], [], [], [], [], [], [], [], [], [], [], [], [], [], [], [], [], [], [], [], [], [], [], [], [], [], [], [], [], [], [], [], [], [], [], [], [], [], [], [], [], [], [4104], [], [], [1047], [4106], [], [], [1047], [4107], [], [], [1047], [4108], [], [], [1047], [4109], [], [], [1047], [4111], [], [], [1047], [4113], [], [], [1171], [4114], [], [], [1171], [4115], [], [], [1047], [4116], [], [], [1082], [4117], [], [], [1082], [4118], [], [], [1047], [4119], [], [], [1047], [4121], [], [], [1171], [4122], [], [], [1047], [4123], [], [], [1047], [4124], [], [], [1047], [4125], [], [], [1047], [4126], [], [], [1047], [4127], [], [], [], [], [], [], [4125], [], [], [], [], [], []]
def qp_Md_feed : List Nat := [0, 1, 4, 7, 10, 11, 12, 13, 15, 17, 19, 22, 24, 25, 28, 29, 32, 34, 36, 39, 40, 43, 45, 47, 50, 51, 54, 56, 58, 61, 63, 66, 68, 70, 71, 74, 75, 78, 80, 81, 83, 85, 87, 89, 90, 91, 92, 93, 94, 95, 96, 99, 102, 103, 104, 107, 109, 110, 113, 114, 117]
def qh_Md_feed : List (List Nat) := [[], [4101], [], [], [], [], [], [], [], [], [], [], [], [], [], [], [], [], [], [], [], [], [], [], [], [], [], [], [], [], [], [], [], [], [4100], [], [4101], [], [], [], [], [], [], [], [], [], [], [], [], [], [], [], [], [], [4101], [], [], [4101], [], [4101], []]
def qp_Md_end : List Nat := [0, 1, 2, 3, 4, 7, 8, 11, 14, 15, 16, 17, 18, 21, 22]
def qh_Md_end : List (List Nat) := [[], [], [], [], [4101], [], [4194, 4195], [], [], [], [], [], [4101], [], []]
def qp_Md_isIn : List Nat := [0, 1, 2, 3, 6, 7, 9, 10, 13, 14, 17, 18]
def qh_Md_isIn : List (List Nat) := [[], [], [], [], [], [], [], [], [], [], [], []]
def qp_Md_cell : List Nat := [0, 1, 2, 5, 6, 9, 10, 11, 14, 15, 16, 17, 20, 23, 26, 27, 28, 31, 32, 33, 34, 37, 38, 41, 42, 45, 48, 49, 52, 54, 55, 58, 59, 60, 61, 64, 65, 66, 69, 72, 73, 74, 75, 76, 79, 82, 83, 86, 87, 88, 91, 92, 93, 94, 97, 100, 101, 104, 105, 108]
def qh_Md_cell : List (List Nat) := [[], [], [4102], [], [4201, 4203, 37], [], [], [], [], [], [], [4102], [4216, 4218, 40], [], [], [], [4220, 4222, 41], [], [], [], [4101], [], [], [], [4110], [], [], [5061, 5063, 55], [], [], [4103], [], [], [], [5077, 5079, 59], [], [], [4105], [4110], [], [], [], [], [4110], [], [], [4111], [], [], [4106], [], [], [], [], [], [], [5081, 5083, 60], [], [4110], []]
def qp_Md_wordHere : List Nat := [0, 1, 4, 5, 6, 7, 8, 9, 12, 13, 14, 15, 16, 19, 20, 21, 24, 25, 26, 29, 30, 33, 34, 35, 36, 37, 38, 39, 42, 45, 48, 49, 50, 53, 54, 55, 58, 59, 60, 63, 66, 69, 70, 71, 74, 77, 78]
def qh_Md_wordHere : List (List Nat) := [[], [4205, 4207, 38], [], [], [], [], [], [], [], [], [], [], [], [], [], [4102], [], [], [4209, 4211, 39], [], [4104], [], [], [], [], [], [], [], [], [], [], [], [], [], [], [4102], [], [], [4209, 4211, 39], [4213, 4214], [], [], [], [], [], [], []]
def qp_Md_next : List Nat := [0, 1, 2, 5, 8, 10, 13, 14, 15, 18, 19, 20, 23, 26, 27, 28, 31, 34]
def qh_Md_next : List (List Nat) := [[], [], [4102], [4209, 4211, 39], [], [], [], [], [4102], [], [], [4102], [], [], [], [4102], [4209, 4211, 39], []]
def qp_Md_byteAt : List Nat := [0, 1, 2, 5, 8, 9, 12, 13, 14, 17, 18, 21, 22]
def qh_Md_byteAt : List (List Nat) := [[], [], [4101], [], [], [4100], [], [], [], [], [], [], []]
def qp_Md_isLetter : List Nat := [0, 1, 3, 6, 7, 9, 12, 13, 16, 17]
def qh_Md_isLetter : List (List Nat) := [[], [], [], [], [], [], [], [], [], []]
def qp_Md_fails : List Nat := [0, 1, 3, 4, 5, 6, 7, 10, 11]
def qh_Md_fails : List (List Nat) := [[], [], [], [], [], [], [4103], [], []]
def qp_Md_readsRest : List Nat := [0, 1, 2, 5, 6, 7, 10, 11, 14, 15, 18, 21, 22, 23, 26, 27, 30, 33, 34, 37]
def qh_Md_readsRest : List (List Nat) := [[], [], [4102], [], [], [4102], [], [], [], [4224, 4226, 42], [], [], [], [], [], [4236, 4238, 44], [], [], [5037, 5039, 52], []]
def qp_Md_readsPerm : List Nat := [0, 1, 2, 5, 6, 9, 12, 15, 16, 19, 20, 21, 22, 23, 24, 27, 30, 33, 36, 37, 40, 41, 42, 43, 46, 48, 49, 50, 51, 52, 55, 58, 59, 61, 62, 65, 66, 67, 68, 69, 72, 73, 74, 77, 80, 81, 84, 85, 86, 87, 90, 91, 94, 96, 99, 100, 101, 102, 105, 106, 107, 108, 111, 112, 113, 116, 117, 120, 121, 124, 125, 126, 127, 130, 131, 134, 135, 136, 139, 140, 143, 144, 147, 148, 151, 152, 155, 156, 157, 158, 161, 164, 165, 166, 167, 168, 169, 172, 175, 176, 179, 180, 181, 182, 183, 186, 189, 192, 193, 194, 195, 198, 199, 200, 203, 204, 207, 210, 211, 212, 213, 214, 217, 220, 221, 224, 225, 226, 227, 228, 229, 230, 231, 234, 235, 236, 239, 242, 243, 244, 247, 250, 251, 252, 253, 256, 257, 258, 261, 262, 265, 268, 269]
def qh_Md_readsPerm : List (List Nat) := [[], [], [4105], [], [4205, 4207, 38], [4228, 4229], [], [], [4102], [], [], [], [], [], [4102], [4209, 4211, 39], [4228, 4229], [], [], [4102], [], [], [], [], [], [], [], [], [], [4102], [4209, 4211, 39], [], [], [], [], [], [], [], [], [4102], [], [], [4102], [], [], [4102], [], [], [], [], [], [4105], [], [], [], [], [], [4216, 4218, 40], [], [], [], [4105], [], [], [4105], [], [4106], [], [4105], [], [], [], [4107], [], [4105], [], [], [], [], [4205, 4207, 38], [], [], [], [4105], [], [], [], [], [], [4102], [4216, 4218, 40], [], [], [], [], [], [4105], [], [], [4106], [], [], [], [], [4231], [4194, 4195], [], [], [], [], [4107], [], [], [4216, 4218, 40], [], [], [], [], [], [], [], [4105], [], [], [4106], [], [], [], [], [], [], [], [4105], [], [], [4194, 4195], [], [], [], [4232, 4234, 43], [], [], [], [], [4107], [], [], [4216, 4218, 40], [], [], [], [], []]
def qp_Md_isDigit : List Nat := [0, 1, 3, 6, 7, 9, 12, 13, 16, 17]
def qh_Md_isDigit : List (List Nat) := [[], [], [], [], [], [], [], [], [], []]
def qp_Md_isLikeAhead : List Nat := [0, 1, 2, 3, 4, 7, 8, 11, 12, 13, 14, 17, 18, 19, 20, 21, 24, 25, 28, 29, 30, 33, 36, 37]
def qh_Md_isLikeAhead : List (List Nat) := [[], [], [], [], [], [], [4106], [], [], [], [4106], [], [], [], [], [4105], [], [], [], [], [], [], [], []]
def qp_Md_readsFill : List Nat := [0, 1, 4, 5, 6, 7, 8, 9, 12, 13, 14, 17, 20, 23, 26, 27, 28, 31, 34, 36, 39, 40, 41, 44, 47, 49, 52, 53, 56, 58, 61, 62, 63, 64, 67, 70, 71, 72, 73, 76, 77, 78, 81, 82, 83, 86, 89, 91, 94, 95, 96, 99, 102, 105, 106, 107, 108, 109, 112, 113, 114, 117, 120, 121, 124, 125, 128, 129, 130, 131, 134, 137, 138, 139, 140, 141, 144, 147, 148, 149, 150, 151, 152, 153, 156, 159, 160, 161, 164, 167, 170, 171, 174, 176, 179, 180, 181, 182, 185, 188, 189, 190, 191, 194, 195, 196, 199, 200, 203, 204, 205, 208, 210, 212, 213, 216, 217, 218, 220, 223, 226, 229, 230, 231, 234, 237, 239, 242, 243, 244, 247, 250, 252, 255, 256, 257, 258, 261, 264, 265, 266, 267, 270, 273, 275, 278, 279, 282, 284, 285, 286, 288, 289, 290, 291, 294, 295, 298, 299, 300, 302, 303, 306, 309, 312, 313, 316, 317, 318, 319, 322, 323, 324, 327, 330, 333, 336, 339, 340, 343, 344, 347, 348, 349, 350, 353, 356, 357, 358, 361, 362, 363, 364, 367, 368, 369, 370, 371, 372, 375, 378, 379, 382, 383, 384, 385, 386, 387, 390, 393, 394, 397, 400, 401]
def qh_Md_readsFill : List (List Nat) := [[], [4205, 4207, 38], [], [], [], [], [], [4105], [], [], [4102], [4209, 4211, 39], [4213, 4214], [], [], [], [4102], [4209, 4211, 39], [], [], [], [], [4102], [4209, 4211, 39], [], [], [], [4105], [], [], [], [], [], [4102], [4216, 4218, 40], [], [], [], [4105], [], [], [4105], [], [], [4102], [4209, 4211, 39], [], [], [], [], [4105], [5000, 5001], [], [], [], [], [], [4102], [], [], [4102], [], [], [4105], [], [], [], [], [], [4102], [4216, 4218, 40], [], [], [], [], [4105], [5003, 5005, 45], [], [], [], [], [], [], [4105], [], [], [], [5007, 5008], [], [], [], [4205, 4207, 38], [], [], [], [], [], [4102], [4216, 4218, 40], [], [], [], [4102], [], [], [4102], [], [4205, 4207, 38], [], [], [4105], [], [], [], [], [], [], [], [5010, 5012, 46], [], [], [], [], [4102], [4209, 4211, 39], [], [], [], [], [4102], [4209, 4211, 39], [], [], [], [], [], [4102], [4216, 4218, 40], [], [], [], [4102], [4209, 4211, 39], [], [], [], [4109], [], [], [], [], [], [], [], [], [], [], [], [], [], [], [4105], [5014, 5016, 47], [], [], [4102], [], [], [], [4102], [], [], [4102], [], [], [], [], [], [4205, 4207, 38], [], [], [], [], [], [4102], [4216, 4218, 40], [], [], [], [], [], [], [4216, 4218, 40], [], [], [], [], [], [4105], [], [], [4106], [], [], [], [], [], [4105], [5022, 5024, 49], [], [], [], [], []]
def qp_Md_with : List Nat := [0, 1, 2, 3, 4, 5, 6, 7]
def qh_Md_with : List (List Nat) := [[], [], [], [], [], [], [], []]
def qp_Md_laysShape : List Nat := [0, 1, 2, 3, 5, 8, 9, 12, 13, 14, 15, 18, 21, 22, 23, 24, 25, 28, 29, 30, 31, 33, 35, 36, 39, 40, 41, 44, 47, 48, 50, 53, 56, 57, 60, 62, 63, 64, 66, 67, 68, 69, 72, 75, 78, 81]
def qh_Md_laysShape : List (List Nat) := [[], [], [], [], [], [], [4109], [], [], [], [], [], [], [], [], [], [], [], [], [], [], [], [], [], [], [], [5007, 5008], [], [], [], [5007, 5008], [], [], [4109], [], [], [], [], [], [], [], [], [], [], [], []]
def qp_Md_has : List Nat := [0, 1, 2, 3, 4, 5, 6, 7, 8, 11, 12, 15, 16]
def qh_Md_has : List (List Nat) := [[], [], [], [], [], [], [], [], [], [], [], [], []]
def qp_Md_isBox : List Nat := [0, 1, 4, 6, 7, 8, 9, 10, 11, 14, 15, 18, 19]
def qh_Md_isBox : List (List Nat) := [[], [4109], [], [], [], [], [], [], [], [], [], [], []]
def qp_Md_isLe : List Nat := [0, 1, 3, 4, 6, 7, 9, 11, 12, 15, 17, 20, 21, 23, 24, 27, 30, 31, 34, 35, 37, 40, 43, 44, 45, 46, 48, 50, 51, 54, 56, 59, 60, 61, 63, 66, 69, 70, 73, 74, 76, 79, 82, 84, 87, 89, 92, 93, 96, 97]
def qh_Md_isLe : List (List Nat) := [[], [], [], [], [], [], [], [], [], [], [], [], [], [], [5018, 5020, 48], [], [], [], [], [], [], [], [], [], [], [], [], [], [], [], [], [], [], [], [5018, 5020, 48], [], [], [], [], [], [], [], [], [], [], [], [], [], [], []]
def qp_Md_isPlus : List Nat := [0, 1, 4, 6, 7, 8, 9, 10, 11, 12, 15, 16, 19, 20]
def qh_Md_isPlus : List (List Nat) := [[], [4109], [], [], [], [], [], [], [], [], [], [], [], []]
def qp_Md_goesFrom : List Nat := [0, 1, 2, 5, 7, 9, 12, 13, 16, 17, 18, 19, 22, 24, 26, 29, 30, 31, 32, 33, 36, 39, 40, 42, 44, 47, 49, 52, 53, 55, 57, 60, 62, 65, 66, 69, 70, 72, 74, 77, 78, 80, 82, 83, 86, 88, 90, 93, 95, 96, 97, 98, 101, 102, 104, 106, 109, 110, 112, 114, 117, 119, 121, 124, 126, 127, 128, 129, 132, 133, 135, 137, 139, 141, 144, 145, 146, 147, 148, 151]
def qh_Md_goesFrom : List (List Nat) := [[], [], [5007, 5008], [], [], [], [], [], [], [], [], [5026, 5028, 50], [], [], [], [], [], [], [], [5030, 5032, 51], [], [], [], [], [], [], [], [], [], [], [5018, 5020, 48], [], [], [], [], [], [], [], [], [], [], [], [], [5030, 5032, 51], [], [], [], [], [], [], [], [5034, 5035], [], [], [], [], [], [], [], [5026, 5028, 50], [], [], [], [], [], [], [], [5034, 5035], [], [], [], [], [], [], [], [], [], [], [5034, 5035], []]
def qp_Md_rowAbove : List Nat := [0, 1, 2, 3, 4, 5, 8, 9, 10, 11, 14, 17, 20, 23, 24]
def qh_Md_rowAbove : List (List Nat) := [[], [], [], [], [], [], [], [], [], [5010, 5012, 46], [], [], [], [], []]
def qp_Md_columnLeft : List Nat := [0, 1, 2, 3, 5, 7, 8, 11, 12, 13, 15, 18, 21, 24, 27, 29, 30, 33, 34, 37, 39]
def qh_Md_columnLeft : List (List Nat) := [[], [], [], [], [], [], [], [], [], [], [5010, 5012, 46], [], [], [], [], [], [], [], [], [], []]
def qp_Md_outAt : List Nat := [0, 1, 2, 5, 6, 7, 10, 11, 12, 15, 18, 19, 20, 21, 24, 25]
def qh_Md_outAt : List (List Nat) := [[], [], [], [], [], [], [], [], [5007, 5008], [], [], [], [], [], [], []]
def qp_Md_readsNeck : List Nat := [0, 1, 2, 5, 6, 7, 8, 9, 10, 13, 16, 19, 20, 23, 25, 28, 29, 30, 31, 34, 37, 38, 39, 40, 43, 44, 45, 48, 49, 52, 53, 56, 57, 60, 61, 62, 65, 66, 69, 70, 71, 72, 73, 74, 76, 77, 78, 81, 84, 87, 90, 91, 92, 95, 98, 100, 101, 103, 105, 106, 109, 111, 113, 116, 117, 120, 121, 124, 126, 127, 130, 131, 132, 133, 136, 139, 140, 141, 144, 145, 148, 149, 152, 153, 156, 157, 159, 162, 163, 165, 166, 169, 170, 171, 174, 175, 176, 179, 182, 183, 186, 187, 190, 192, 193, 196, 198, 199, 202, 203, 204, 205, 208, 211, 212, 215, 216, 219, 220, 223, 224, 227, 228, 231, 232, 233, 234, 237, 240, 241, 242, 245, 248, 249, 252, 255, 256, 259, 260]
def qh_Md_readsNeck : List (List Nat) := [[], [], [4105], [], [], [], [], [], [4205, 4207, 38], [4228, 4229], [], [], [4105], [], [], [], [], [], [4102], [4216, 4218, 40], [], [], [], [4105], [], [], [4105], [], [4107], [], [4105], [], [4102], [], [], [4108], [], [4105], [], [], [], [], [], [], [], [], [4102], [4209, 4211, 39], [4228, 4229], [], [], [], [4102], [4209, 4211, 39], [], [], [], [], [], [], [], [], [], [], [4105], [], [], [], [], [], [], [], [], [4102], [4216, 4218, 40], [], [], [4108], [], [4105], [], [4108], [], [4105], [], [], [5000, 5001], [], [], [], [], [], [], [4102], [], [], [4102], [], [], [4105], [], [], [], [], [], [], [], [], [], [], [], [4102], [4216, 4218, 40], [], [], [], [4205, 4207, 38], [], [], [], [4105], [], [], [], [], [], [4102], [4216, 4218, 40], [], [], [5041, 5043, 53], [], [], [5054, 5056, 54], [], [], [], [], []]
def qp_Md_isNeck : List Nat := [0, 1, 2, 3, 4, 7, 10, 11, 14, 15, 16, 17, 18, 19, 20, 22, 25, 26, 29, 30, 31, 32, 35, 38, 41, 42, 43, 46, 49, 50, 51, 52, 55, 56, 59, 62, 65, 68, 71, 72, 73, 74, 75, 78, 81, 82, 85, 86, 87, 88, 91, 92, 93, 94, 95, 96, 97, 98, 101, 104, 105, 106, 107, 110, 111, 112, 115, 116, 119, 122, 123, 126, 127, 128, 129, 132, 133, 136, 137, 138, 141, 144, 147, 148, 149, 150, 153, 154, 157, 158, 161, 164, 165, 168, 169]
def qh_Md_isNeck : List (List Nat) := [[], [], [], [], [4105], [], [], [4107], [], [], [], [], [], [], [], [], [], [4108], [], [], [], [5007, 5008], [], [], [], [], [4105], [], [], [], [], [4216, 4218, 40], [], [], [], [], [], [], [], [], [], [], [4105], [], [], [4108], [], [], [], [4108], [], [], [], [], [], [], [], [5045, 5046], [], [], [], [], [4107], [], [], [4216, 4218, 40], [], [], [], [], [4108], [], [], [], [4108], [], [4105], [], [], [4105], [5045, 5046], [], [], [], [], [4107], [], [4105], [], [4216, 4218, 40], [], [], [], [], []]
def qp_Md_canStand : List Nat := [0, 1, 2, 5, 8, 9, 10, 13, 14, 17, 18, 19, 20, 21, 24, 25, 26, 27, 28, 29, 32, 33, 36, 37, 40, 43, 44, 47, 48]
def qh_Md_canStand : List (List Nat) := [[], [], [5007, 5008], [], [], [], [], [], [], [], [], [], [], [5048, 5049], [], [], [], [], [], [], [], [5051, 5052], [], [5051, 5052], [], [], [], [], []]
def qp_Md_without : List Nat := [0, 1, 2, 3, 4, 5, 6, 7, 8, 9]
def qh_Md_without : List (List Nat) := [[], [], [], [], [], [], [], [], [], []]
def qp_Md_sizeOf : List Nat := [0, 1, 2, 3, 4, 5, 7, 10, 11, 12, 13, 14, 15, 16, 17, 18, 21, 24, 25]
def qh_Md_sizeOf : List (List Nat) := [[], [], [], [], [], [], [], [], [], [], [], [], [], [], [], [], [], [], []]
def qp_Md_laysByNeck : List Nat := [0, 1, 2, 3, 4, 7, 10, 11, 14, 15, 16, 19, 20, 21, 22, 25, 26, 27, 30, 31, 32, 33, 34, 35, 36, 39, 42, 43, 46, 49, 50]
def qh_Md_laysByNeck : List (List Nat) := [[], [], [], [], [4105], [], [], [4106], [], [], [4108], [], [], [], [4108], [], [], [4105], [], [], [], [], [], [], [4105], [5058, 5059], [], [], [], [], []]
def qp_Md_stepOf : List Nat := [0, 1, 2, 5, 8, 9, 10, 11, 12, 13, 16, 17, 18, 19, 21, 22, 24, 26, 28, 31, 34, 37, 40, 42, 43, 46, 48, 51, 53, 54, 55]
def qh_Md_stepOf : List (List Nat) := [[], [], [5007, 5008], [], [], [], [], [], [], [5048, 5049], [], [], [], [], [], [], [], [], [5007, 5008], [], [], [], [], [], [], [], [], [], [], [], []]
def qp_Md_laysDiagram : List Nat := [0, 1, 2, 5, 6, 7, 8, 11, 14, 15, 16, 17, 18, 21, 24, 25, 28, 29, 30, 31, 34, 35, 36, 37, 38, 39, 40, 41, 44, 45, 46, 47, 50, 51, 52, 53, 54, 55, 56, 57, 59, 60, 63, 65, 67, 70, 71, 73, 76, 79, 82, 83, 85, 88, 91, 94, 97, 98, 100, 102, 105, 108, 109, 112, 114, 116, 117, 119, 120, 121, 122, 125, 128, 131, 134, 137, 138, 141, 144, 145, 148]
def qh_Md_laysDiagram : List (List Nat) := [[], [], [4113], [], [], [], [4110], [5003, 5005, 45], [], [], [], [], [4110], [], [], [4113], [], [], [], [4113], [], [], [], [], [], [], [], [4113], [], [], [], [4113], [], [], [], [], [], [], [], [], [], [4110], [], [], [], [], [], [5007, 5008], [], [], [], [], [5007, 5008], [], [], [], [], [], [], [5010, 5012, 46], [], [], [4109], [], [], [], [], [], [], [], [], [], [], [], [], [], [5065, 5067, 56], [], [], [5069, 5071, 57], []]
def qp_Md_isOwnDiagram : List Nat := [0, 1, 2, 3, 4, 7, 10, 11, 12, 13, 16, 17, 18, 19, 22, 25, 26, 29, 30, 31, 34, 35, 36, 39, 42, 43]
def qh_Md_isOwnDiagram : List (List Nat) := [[], [], [], [], [4110], [], [], [], [], [4113], [], [], [], [4110], [5022, 5024, 49], [], [4111], [], [], [], [], [], [], [], [], []]
def qp_Md_searchesDiagram : List Nat := [0, 1, 2, 3, 4, 5, 7, 10, 11, 12, 15, 16, 17, 20, 21, 24, 25, 26, 27, 30, 33, 34, 35, 36, 37, 38, 39, 42, 43, 44, 45, 47, 49, 51, 54, 55, 58, 60, 61, 64, 67, 68, 71, 73, 74, 75, 76, 77, 78, 79, 80, 81, 84, 87, 90, 91, 94, 97, 98, 101, 104, 105, 108, 111]
def qh_Md_searchesDiagram : List (List Nat) := [[], [], [], [], [], [], [], [], [], [4109], [], [], [], [], [], [], [], [], [], [], [], [], [], [], [], [], [], [], [], [], [], [], [], [], [], [4109], [], [], [], [], [], [4109], [], [], [], [], [], [], [], [], [], [], [], [], [], [5073, 5075, 58], [], [], [5065, 5067, 56], [], [], [], [], []]
def qp_Md_isAllLe : List Nat := [0, 1, 2, 3, 4, 7, 10, 11, 12, 13, 14, 15, 16, 19, 22, 23, 26, 28, 29, 30, 31, 32, 33, 34, 37, 38, 39, 40, 41, 44, 47, 50, 51, 52, 55, 58, 61, 64, 65]
def qh_Md_isAllLe : List (List Nat) := [[], [], [], [], [4110], [], [], [], [], [], [], [], [4110], [], [], [4109], [], [], [], [], [], [], [], [], [], [], [], [], [4110], [5014, 5016, 47], [], [], [], [], [], [], [], [], []]
def qp_Md_keepsAct : List Nat := [0, 1, 4, 6, 9, 11, 12, 13, 16, 19, 20, 23, 24, 26, 27, 28, 31, 32, 33, 34, 37, 40, 41, 42, 45, 46, 47, 50, 52, 53, 56, 57, 58, 59, 62, 63, 64, 67, 68, 69, 70, 71, 72, 75, 78, 79, 82, 83, 84, 85, 86, 89, 90, 91, 92, 95, 98, 99, 100, 101, 103, 106, 107, 110, 111, 113, 114, 115, 116, 117, 118, 121, 124, 125, 126, 127, 130, 133, 134, 137, 138, 139, 142, 143, 146, 147, 149, 150, 151, 153, 154, 155, 156, 157, 158, 159, 161, 162, 163, 164, 165, 168, 171, 172, 173, 176, 177, 178, 181]
def qh_Md_keepsAct : List (List Nat) := [[], [4120], [], [], [], [], [], [], [], [], [4119], [], [], [], [], [4119], [], [], [], [], [], [], [], [4120], [], [], [4120], [], [], [4120], [], [], [], [4119], [], [], [4110], [], [], [], [], [], [4110], [], [], [4119], [], [], [], [], [4111], [], [], [], [], [], [], [], [], [], [], [], [4119], [], [], [], [], [], [], [], [], [], [], [], [], [], [], [], [4115], [], [], [], [], [4119], [], [], [], [], [], [], [], [], [], [], [], [], [], [], [], [], [], [], [], [], [4120], [], [], [4120], []]
def qp_Md_changes : List Nat := [0, 1, 4, 5, 8]
def qh_Md_changes : List (List Nat) := [[], [5085, 5087, 61], [], [5101, 5103, 65], []]
def qp_Md_follows : List Nat := [0, 1, 4, 5, 8, 9, 12]
def qh_Md_follows : List (List Nat) := [[], [5089, 5091, 62], [], [5093, 5095, 63], [], [5061, 5063, 55], []]
def qp_Md_laysNeck : List Nat := [0, 1, 4, 5, 6, 7, 8, 9, 10, 11, 14, 17, 18, 21, 22, 23, 24, 27, 30, 31, 34, 35, 36, 39, 40, 41, 42, 45, 46, 47, 48, 51, 52, 55, 56, 59, 62, 63, 64, 65, 66, 69, 72, 73, 76, 77, 78, 79, 80, 83, 84, 85, 86, 89, 90, 93, 94, 95, 98, 99, 102, 103, 104, 105, 108, 109, 112, 113, 114, 115, 118, 121, 122, 125, 126, 127, 128, 131, 132, 135, 136, 139, 140, 141, 144, 145, 148, 151, 152, 153, 156, 157, 158, 161, 164]
def qh_Md_laysNeck : List (List Nat) := [[], [4113], [], [], [], [], [], [], [], [4110], [], [], [4111], [], [], [], [4110], [], [], [4113], [], [], [4113], [], [], [], [4111], [], [], [], [4110], [], [5000, 5001], [], [], [], [], [], [], [], [4110], [], [], [4113], [], [], [], [], [4111], [], [], [], [], [], [4113], [], [], [], [], [4113], [], [], [], [5048, 5049], [], [4111], [], [], [], [4110], [], [], [4111], [], [], [], [4110], [], [], [], [4111], [], [], [5000, 5001], [], [], [], [], [], [4113], [], [], [5051, 5052], [4112], []]
def qp_Md_laysBases : List Nat := [0, 1, 2, 3, 6, 9, 10, 11, 12, 15, 16, 19, 20, 23, 24, 27, 30, 31, 34, 35, 36, 37, 38, 39, 40, 43, 46, 47, 50, 51, 52, 53, 56, 57, 58, 59, 62, 63, 66, 69, 70, 73, 74, 75, 76, 79, 82]
def qh_Md_laysBases : List (List Nat) := [[], [], [], [], [], [], [], [], [4110], [], [], [], [5051, 5052], [], [4112], [], [], [], [], [], [], [], [], [], [4110], [], [], [], [], [], [], [4113], [], [], [], [5097, 5099, 64], [], [], [], [], [4114], [], [], [], [], [], []]
def qp_Md_isAtLeast : List Nat := [0, 1, 3, 4, 6, 8, 9, 12, 15, 16, 17, 18, 20, 21, 22, 25, 26, 27, 28, 30, 32, 33, 35, 38, 41, 42, 45, 46, 47, 49, 52, 55, 56, 59, 60, 61, 62, 64, 66, 69, 70, 71, 74, 77, 78]
def qh_Md_isAtLeast : List (List Nat) := [[], [], [], [], [], [], [4110], [], [], [], [], [], [], [], [4110], [], [], [], [], [], [], [], [5007, 5008], [], [], [], [], [], [], [5007, 5008], [], [], [], [], [], [], [], [], [], [], [], [], [], [], []]
def qp_Md_laysCluster : List Nat := [0, 1, 2, 3, 6, 9, 10, 13, 14, 15, 16, 19, 22, 23, 24, 25, 26, 29, 32, 33, 36, 37, 40, 41, 42, 43, 44, 47, 50, 51, 52, 53, 56, 59, 60, 63, 64, 65, 68, 69, 72, 73, 74, 77, 78, 79, 82, 85, 86, 89, 90, 91, 92, 95, 98]
def qh_Md_laysCluster : List (List Nat) := [[], [], [], [], [], [], [4115], [], [], [], [], [], [], [], [], [], [4110], [], [], [4115], [], [4113], [], [], [], [], [], [], [], [], [], [], [], [], [4114], [], [], [], [], [4115], [], [], [], [], [], [5105, 5107, 66], [], [], [4115], [], [], [], [], [], []]
def qp_Md_crossesNone : List Nat := [0, 1, 2, 3, 6, 9, 10, 13, 14, 15, 18, 19, 20, 21, 24, 27, 28, 29, 32, 35, 36]
def qh_Md_crossesNone : List (List Nat) := [[], [], [], [], [], [], [4115], [], [], [], [], [], [], [5109, 5111, 67], [], [], [], [], [], [], []]
def qp_Md_doCross : List Nat := [0, 1, 2, 3, 5, 6, 8, 9, 11, 13, 14, 17, 20, 21, 23, 26, 27, 29, 32, 35, 36, 39, 40, 42, 45, 48, 49, 52, 53, 55, 57, 60, 63, 64, 66, 69, 71, 73, 76, 77, 80, 81, 82, 83, 85, 88, 90, 93, 95, 97, 99, 101, 104, 107, 108, 110, 112, 115, 116, 119, 120, 121, 122, 123, 124, 127, 128, 131, 132]
def qh_Md_doCross : List (List Nat) := [[], [], [], [], [], [], [], [], [], [], [4110], [], [], [], [5007, 5008], [], [], [5007, 5008], [], [], [], [], [], [5007, 5008], [], [], [], [], [], [], [], [], [], [], [], [], [], [], [], [], [], [], [], [], [], [], [], [], [], [], [], [], [], [], [], [], [], [], [], [], [], [], [], [], [], [], [], [], []]
def qp_Md_f : List Nat := [0, 1, 2, 5, 8, 9, 12, 13, 14, 17, 18]
def qh_Md_f : List (List Nat) := [[], [], [5117, 5119, 68], [], [], [4111], [], [], [], [], []]
def qp_Md_isLabel : List Nat := [0, 1, 2, 5, 6, 7, 10, 13, 14, 17, 18]
def qh_Md_isLabel : List (List Nat) := [[], [], [], [], [], [4110], [], [], [], [], []]
def qp_Md_neck : List Nat := [0, 1, 2, 5, 8, 9, 12, 13, 14, 17, 18]
def qh_Md_neck : List (List Nat) := [[], [], [5117, 5119, 68], [], [], [4113], [], [], [], [], []]
def qp_Md_box : List Nat := [0, 1, 2, 5, 8, 9, 10, 13, 16, 17, 18, 19, 20, 21, 24, 27, 28, 31, 33, 34, 35, 36, 37, 38, 39, 40, 43, 45]
def qh_Md_box : List (List Nat) := [[], [], [5117, 5119, 68], [], [], [], [5117, 5119, 68], [], [], [], [], [], [], [5010, 5012, 46], [], [], [4109], [], [], [], [], [], [], [], [], [], [], []]
def qp_Md_bases : List Nat := [0, 1, 4, 7, 8, 9, 10, 11, 12, 13, 14, 17, 20, 21, 22, 25, 26, 27, 30, 31, 34, 35, 36, 37, 40, 43, 44]
def qh_Md_bases : List (List Nat) := [[], [5133, 5135, 69], [], [], [], [], [], [], [], [], [], [], [], [], [4114], [], [], [], [], [], [], [], [], [], [], [], []]
def qp_Md_isCell : List Nat := [0, 1, 4, 7, 8, 11, 12]
def qh_Md_isCell : List (List Nat) := [[], [4110], [], [], [], [], []]
def qp_Md_basis : List Nat := [0, 1, 4, 7, 8, 11, 12, 15, 16, 19, 22, 23]
def qh_Md_basis : List (List Nat) := [[], [5133, 5135, 69], [], [], [], [], [4114], [], [5141, 5142], [], [], []]
def qp_Md_kthOf : List Nat := [0, 1, 2, 3, 4, 5, 8, 11, 12, 13, 14, 17, 20, 21, 22, 25, 26, 27, 30, 33, 36, 37, 38, 41, 42, 45, 47]
def qh_Md_kthOf : List (List Nat) := [[], [], [], [], [], [], [], [], [], [], [], [], [], [], [], [], [], [], [], [], [], [], [], [], [], [], []]
def qp_Md_rank : List Nat := [0, 1, 4, 7, 8, 9, 10, 11, 12, 15, 16, 17, 18, 19, 22, 25, 26, 27, 28, 29, 30, 31, 32, 35, 38, 39, 42, 43, 44, 47, 48, 49, 50, 53, 54, 57, 58, 59, 60, 63, 64, 67, 70, 71]
def qh_Md_rank : List (List Nat) := [[], [5133, 5135, 69], [], [], [], [], [], [], [4110], [], [], [], [], [4194, 4195], [], [], [], [], [], [], [], [], [], [], [], [4114], [], [], [], [], [], [], [5051, 5052], [], [], [], [], [], [5051, 5052], [], [], [], [], []]
def qp_Md_exchange : List Nat := [0, 1, 2, 5, 8, 9, 10, 13, 16, 17, 18, 21, 24, 25, 26, 29, 32, 33, 34, 37, 40, 41, 42, 43, 45, 47, 48, 51, 54, 55, 57, 60, 63, 64, 66, 69, 72, 73, 76, 77, 78, 81, 83, 86, 87, 90, 92, 93, 96, 99, 101]
def qh_Md_exchange : List (List Nat) := [[], [], [5152, 5154, 70], [], [], [], [5152, 5154, 70], [], [], [], [5117, 5119, 68], [], [], [], [5007, 5008], [], [], [], [5007, 5008], [], [], [], [], [], [], [], [4110], [], [], [], [5007, 5008], [], [], [], [5007, 5008], [], [], [4114], [], [], [5048, 5049], [], [5000, 5001], [], [], [], [], [], [], [], []]
def qp_Md_isBasisHere : List Nat := [0, 1, 4, 7, 8, 9, 10, 13, 16, 19, 20, 23, 24, 25, 28, 29, 32, 33]
def qh_Md_isBasisHere : List (List Nat) := [[], [5133, 5135, 69], [], [], [], [], [5156], [4194, 4195], [], [], [4114], [], [], [], [], [], [], []]
def qp_Md_part : List Nat := [0, 1, 2, 5, 8, 9, 10, 11, 14, 15, 18, 19, 20]
def qh_Md_part : List (List Nat) := [[], [], [5117, 5119, 68], [], [], [], [], [5161, 5163, 71], [], [4116], [], [], []]
def qp_Md_laysParts : List Nat := [0, 1, 2, 3, 4, 7, 10, 11, 14, 15, 16, 17, 20, 23, 24, 25, 26, 27, 30, 33, 34, 35, 36, 37, 38, 39, 42, 45, 46, 49, 50, 51, 52, 55, 56, 57, 60, 61, 62, 63, 66, 69, 72, 73, 76, 77, 78, 79, 80, 83, 84, 85, 87, 88, 90, 92, 93, 96, 99, 100, 103, 105, 106, 107, 110, 111, 114, 116, 117, 119, 122, 123, 126, 128, 129, 131, 134, 135, 138, 140, 141, 144, 147, 150, 153, 156, 159]
def qh_Md_laysParts : List (List Nat) := [[], [], [], [], [4110], [], [], [4116], [], [], [], [], [], [], [], [], [], [4110], [], [], [], [], [], [], [], [4110], [], [], [4116], [], [], [], [4116], [], [], [], [], [], [], [5165, 5167, 72], [], [], [], [4116], [], [], [], [], [4116], [], [], [], [], [], [], [], [4110], [], [], [4116], [], [], [], [], [], [4116], [], [], [], [], [], [4116], [], [], [], [], [], [], [], [], [], [], [], [], [], [], []]
def qp_Md_hang : List Nat := [0, 1, 2, 3, 6, 9, 10, 13, 14, 15, 18, 19, 20, 23, 24, 25, 28, 31, 34, 35, 36, 39, 42, 43, 46, 47, 49, 50, 53, 54, 56, 59, 60, 61, 62, 64, 65, 68, 69, 72, 73, 74, 77, 80, 81]
def qh_Md_hang : List (List Nat) := [[], [], [], [], [], [], [4114], [], [], [], [], [], [5007, 5008], [], [], [5007, 5008], [], [], [], [], [5007, 5008], [], [], [], [], [], [], [4114], [], [], [5048, 5049], [], [], [], [], [], [5000, 5001], [], [], [], [], [], [], [], []]
def qp_Md_ways : List Nat := [0, 1, 2, 5, 8, 11, 12, 13, 16, 17, 18, 19, 20, 21, 22, 23, 24, 25, 28, 29, 30, 31, 32, 33, 34, 35, 38, 40, 41, 43, 44, 46, 48, 49, 52, 55, 56, 58, 61, 64, 67, 68, 70, 73, 74, 76, 77, 79, 81, 82, 85, 88, 89, 91, 94, 97, 100, 101, 104, 105, 107, 108, 110, 111, 112, 114, 117, 118, 121, 124, 127, 130, 133, 136, 137, 139, 142, 144, 146, 147, 148, 151, 153, 154, 157, 159]
def qh_Md_ways : List (List Nat) := [[], [], [5173, 5175, 73], [], [5177], [], [], [4113], [], [], [], [], [], [], [], [], [], [4113], [], [], [], [], [], [], [], [5051, 5052], [], [], [], [], [], [], [], [4110], [], [], [], [5007, 5008], [], [], [], [], [5178, 5180, 74], [], [], [], [], [], [], [4110], [], [], [], [5007, 5008], [], [], [], [4118], [], [], [], [], [], [], [], [5190, 5192, 77], [], [], [], [], [], [], [], [], [], [5194, 5196, 78], [], [], [], [], [], [], [], [], [], []]
def qp_Md_isSet : List Nat := [0, 1, 4, 7, 8, 9, 10, 11, 12, 15, 16, 17, 18, 19, 22, 25, 26, 29, 30, 33, 36, 37, 40, 41]
def qh_Md_isSet : List (List Nat) := [[], [5133, 5135, 69], [], [], [], [], [], [], [4110], [], [], [], [], [4194, 4195], [], [], [5051, 5052], [], [4112], [], [], [], [], []]
def qp_Md_laysPaths : List Nat := [0, 1, 2, 3, 5, 8, 9, 12, 13, 14, 15, 18, 21, 22, 23, 24, 25, 28, 31, 32, 33, 34, 35, 38, 41, 42, 43, 44, 47, 50, 53, 54, 55, 56, 59, 61, 62, 63, 64, 67, 69, 71, 74, 75, 78, 80, 81, 82, 84, 85, 86, 89, 90, 91, 94, 95, 98, 99, 101, 102, 105, 107, 108, 109, 110, 111, 113, 115, 118, 119, 122, 124, 126, 127, 128, 129, 130, 133, 134, 135, 136, 139, 142, 145, 148]
def qh_Md_laysPaths : List (List Nat) := [[], [], [], [], [], [], [4117], [], [], [], [], [], [], [], [], [], [4110], [], [], [], [], [], [4110], [], [], [], [], [5018, 5020, 48], [], [], [], [], [], [5182, 5184, 75], [], [], [], [], [5186, 5188, 76], [], [], [], [], [4117], [], [], [], [], [], [], [], [], [], [], [], [], [], [], [], [4117], [], [], [], [], [], [], [], [], [], [4117], [], [], [], [], [], [], [], [], [], [], [], [], [], [], []]
def qp_Md_plusToRight : List Nat := [0, 1, 2, 3, 4, 5, 8, 9, 10, 11, 14, 17, 20, 23, 24]
def qh_Md_plusToRight : List (List Nat) := [[], [], [], [], [], [], [], [], [], [5018, 5020, 48], [], [], [], [], []]
def qp_Md_plusAbove : List Nat := [0, 1, 2, 3, 4, 5, 8, 9, 10, 11, 14, 17, 20, 23, 24]
def qh_Md_plusAbove : List (List Nat) := [[], [], [], [], [], [], [], [], [], [5018, 5020, 48], [], [], [], [], []]
def qp_Md_endsAt : List Nat := [0, 1, 4, 5, 6, 9, 10, 11, 12, 15, 18, 21, 24, 25, 28, 29, 32, 33, 36, 38, 39, 40, 41, 42, 43]
def qh_Md_endsAt : List (List Nat) := [[], [4110], [], [], [], [], [], [], [5018, 5020, 48], [], [], [], [], [], [], [], [], [4117], [], [], [], [], [], [], []]
def qp_Md_determinant : List Nat := [0, 1, 32, 33, 34, 35, 36, 37, 40, 41, 42, 43, 44, 45, 46, 49, 50, 51, 52, 53, 54, 57, 58, 59, 60, 61, 64, 65, 66, 67, 68, 71, 72, 73, 74, 75, 78, 79, 80, 81, 82, 85, 86, 87, 88, 89, 90, 93, 94, 95, 96, 97, 100, 101, 102, 103, 104, 105, 108, 109, 110, 111, 112, 115, 116, 117]
def qh_Md_determinant : List (List Nat) := [[], [], [], [], [], [], [], [5198, 5200, 79], [], [], [], [], [], [], [5202, 5204, 80], [], [], [], [], [], [5206, 5208, 81], [], [], [], [], [5198, 5200, 79], [], [], [], [], [5206, 5208, 81], [], [], [], [], [5198, 5200, 79], [], [], [], [], [5206, 5208, 81], [], [], [], [], [], [5198, 5200, 79], [], [], [], [], [5206, 5208, 81], [], [], [], [], [], [5198, 5200, 79], [], [], [], [], [5206, 5208, 81], [], [], []]
def qp_Md_of : List Nat := [0, 1, 4, 5, 6, 7, 8, 9, 10]
def qh_Md_of : List (List Nat) := [[], [4118], [], [], [], [], [], [], []]
def qp_Md_two : List Nat := [0, 1, 2, 3, 6, 7, 8, 10, 13, 14, 15, 16, 18, 21, 22, 23, 24, 27, 28, 29]
def qh_Md_two : List (List Nat) := [[], [], [], [5198, 5200, 79], [], [], [], [5198, 5200, 79], [], [], [], [], [5198, 5200, 79], [], [], [], [5198, 5200, 79], [], [], []]
def qp_Md_three : List Nat := [0, 1, 2, 3, 6, 7, 8, 9, 10, 11, 14, 15, 16, 17, 18, 21, 22, 23, 24, 25, 26, 29, 30, 31, 32, 33, 34, 37, 38, 39, 40, 41, 42, 45, 46, 47]
def qh_Md_three : List (List Nat) := [[], [], [], [5198, 5200, 79], [], [], [], [], [], [5202, 5204, 80], [], [], [], [], [5198, 5200, 79], [], [], [], [], [], [5202, 5204, 80], [], [], [], [], [], [5198, 5200, 79], [], [], [], [], [], [5202, 5204, 80], [], [], []]
def qp_Md_cross : List Nat := [0, 1, 2, 5, 8, 9, 10, 13, 16, 17, 18, 19, 22, 25, 26, 29, 30, 33, 34]
def qh_Md_cross : List (List Nat) := [[], [], [5173, 5175, 73], [], [], [], [5173, 5175, 73], [], [], [], [], [5109, 5111, 67], [], [], [], [], [], [], []]
def qp_Md_cluster : List Nat := [0, 1, 4, 7, 8, 9, 12, 13, 16, 17, 20, 23, 24]
def qh_Md_cluster : List (List Nat) := [[], [5133, 5135, 69], [], [], [], [], [], [4115], [], [5141, 5142], [], [], []]
def qp_Md_square : List Nat := [0, 1, 4, 7, 8, 9, 12, 13, 14, 15, 16, 17, 18, 19, 22, 25, 26, 27, 30, 33, 36, 37, 38, 41, 42, 43, 46, 49, 52, 53, 54, 57, 58, 61, 63]
def qh_Md_square : List (List Nat) := [[], [5133, 5135, 69], [], [], [], [], [], [], [], [], [], [], [], [], [], [], [], [5222, 5224, 82], [], [], [], [], [], [], [], [], [], [], [], [], [], [], [], [], []]
def qp_Md_squareAt : List Nat := [0, 1, 2, 3, 6, 9, 12, 13, 16, 17, 18, 21, 22, 23, 26, 29, 30, 31, 32, 33, 34, 35, 38, 41, 42, 43, 44, 45, 46, 47, 50, 53, 54, 55, 58, 61, 62, 63, 66, 69, 72, 73, 74, 75, 76, 79, 81, 83, 86, 88, 89, 92, 95, 98, 101, 102]
def qh_Md_squareAt : List (List Nat) := [[], [], [], [5156], [4194, 4195], [], [], [4115], [], [], [], [], [], [5226, 5228, 83], [], [], [], [], [], [], [], [4110], [], [], [], [], [], [], [], [4110], [], [], [], [5007, 5008], [], [], [], [5007, 5008], [], [], [], [], [], [], [5230, 5232, 84], [], [], [], [], [], [], [], [], [], [], []]
def qp_Md_isOfNeck : List Nat := [0, 1, 2, 3, 4, 7, 10, 11, 14, 15, 16, 17, 20, 21, 22, 25, 28, 29]
def qh_Md_isOfNeck : List (List Nat) := [[], [], [], [], [4110], [], [], [4113], [], [], [], [], [], [], [], [], [], []]
def qp_Md_squareBy : List Nat := [0, 1, 2, 3, 5, 7, 8, 11, 12, 14, 17, 20, 21, 22, 23, 25, 28, 31, 32, 33, 34, 36, 39, 42, 45, 46, 48, 50, 51, 54, 57, 58, 60, 63, 66, 68, 69, 72, 74, 75, 78, 81, 82, 83, 84, 86, 89, 92, 93, 94, 95, 97, 100, 103, 104, 105, 108, 109, 112, 114, 117, 119, 122, 123, 126, 129, 132, 135, 136]
def qh_Md_squareBy : List (List Nat) := [[], [], [], [], [], [], [], [], [], [5007, 5008], [], [], [], [], [], [5234, 5236, 85], [], [], [], [], [], [5234, 5236, 85], [], [], [], [], [], [], [4110], [], [], [], [5007, 5008], [], [], [], [], [], [], [], [], [], [], [], [], [5234, 5236, 85], [], [], [], [], [], [5234, 5236, 85], [], [], [], [5048, 5049], [], [5048, 5049], [], [5000, 5001], [], [5000, 5001], [], [], [], [], [], [], []]
def qp_Md_isThere : List Nat := [0, 1, 4, 5, 6, 9, 10, 13, 14]
def qh_Md_isThere : List (List Nat) := [[], [4115], [], [], [5048, 5049], [], [5000, 5001], [], []]
def qp_Md_move : List Nat := [0, 1, 4, 7, 8, 9, 10, 11, 14, 15, 16, 19, 21, 22, 23, 26, 27, 30, 31, 32, 33, 34, 37, 38, 39, 40, 41]
def qh_Md_move : List (List Nat) := [[], [5133, 5135, 69], [], [], [], [], [], [5222, 5224, 82], [], [], [], [], [], [], [5077, 5079, 59], [], [4115], [], [], [], [], [4115], [], [], [], [], []]
def qp_Md_undo : List Nat := [0, 1, 4, 7, 8, 9, 10, 11, 14, 15, 16, 19, 21, 22, 25, 26, 27, 28, 29, 32, 33, 34, 37, 38, 39, 40, 41, 44, 47, 48, 51, 52, 53, 56, 57, 58, 59, 60, 61, 64, 67, 68, 71, 74, 75, 78, 79, 80, 81, 84, 87, 88, 91, 92, 93, 96, 97, 99, 100, 101, 103, 104, 105, 106, 107, 109, 110, 111, 112, 113, 114, 117, 118, 121, 122, 123, 126, 129, 130, 133]
def qh_Md_undo : List (List Nat) := [[], [4120], [], [], [], [], [], [4120], [], [], [4120], [], [], [4120], [], [], [], [], [4119], [], [], [4110], [], [], [], [], [4110], [], [], [4111], [], [], [4119], [], [], [], [], [], [], [], [], [4110], [], [], [5085, 5087, 61], [], [], [], [], [], [], [4115], [], [], [4119], [], [], [], [], [], [], [], [], [], [], [], [], [], [], [], [], [], [], [], [], [], [], [], [4120], []]
def qp_Md_lower : List Nat := [0, 1, 2, 3, 4, 7]
def qh_Md_lower : List (List Nat) := [[], [], [], [], [6010, 6012, 86], []]
def qp_Md_toldNext : List Nat := [0, 1, 4, 7, 8, 9, 10, 11, 14, 15, 18, 21, 22, 25, 26, 29, 30, 31, 32, 33, 36, 37, 40, 41, 42, 45, 47, 48, 51, 53, 54, 55, 56, 57, 60, 63, 64, 67, 68, 69, 72, 74]
def qh_Md_toldNext : List (List Nat) := [[], [5133, 5135, 69], [], [], [], [], [], [4110], [], [4194, 4195], [], [], [], [], [], [], [], [], [], [], [], [], [], [], [6014, 6016, 87], [], [], [], [], [], [], [], [], [6028, 6030, 89], [], [], [4121], [], [], [], [], []]
def qp_Md_nextOnes : List Nat := [0, 1, 2, 3, 6, 7, 10, 13, 14, 15, 17, 18, 20, 22, 23, 26, 29, 31, 32, 33, 35, 37, 39, 40, 43, 44, 47, 48, 50, 52, 55, 58, 59, 62, 63, 66, 69, 71, 74, 77, 78, 79, 82, 83, 84, 87, 90, 93, 96, 99, 100]
def qh_Md_nextOnes : List (List Nat) := [[], [], [], [4111], [], [4110], [6018, 6019], [], [], [], [], [], [], [], [4110], [], [], [], [], [], [], [], [], [4110], [], [], [], [], [], [6024, 6026, 88], [], [], [4121], [], [4110], [6018, 6019], [], [], [], [], [], [], [], [], [], [], [], [], [], [], []]
def qp_Md_inversionsOf : List Nat := [0, 1, 2, 3, 4, 5, 6, 9, 10, 11, 12, 14, 16, 17, 18, 19, 22, 23, 24, 25, 26, 27, 28, 30, 33, 36, 37, 40, 41, 42, 43, 46, 49, 52, 55, 56]
def qh_Md_inversionsOf : List (List Nat) := [[], [], [], [], [], [], [], [], [], [], [], [], [], [], [], [], [], [], [], [], [], [], [], [6021, 6022], [], [], [], [], [], [], [], [], [], [], [], []]
def qp_Md_at : List Nat := [0, 1, 2, 5, 6, 7, 8, 9, 10, 11, 12, 15, 16, 17, 18]
def qh_Md_at : List (List Nat) := [[], [], [], [], [], [], [], [], [], [], [], [], [], [], []]
def qp_Md_swaps : List Nat := [0, 1, 2, 3, 4, 7, 10, 11, 14, 15, 16, 19, 20, 21, 22, 25, 28, 29, 32, 33, 36, 37, 40, 41, 42, 43, 46, 49, 50, 53, 54, 55, 58, 59, 60, 63, 64, 65, 66, 69, 70, 71, 72, 75, 76, 77, 78, 81, 82, 85, 86, 87, 90, 91, 92, 93, 94, 97, 98, 99, 100, 101, 103, 105, 106, 109, 112, 113, 116, 118, 119, 120, 122, 123, 125, 126, 129, 130, 131, 134, 137, 138, 139, 142, 145, 146]
def qh_Md_swaps : List (List Nat) := [[], [], [], [], [4110], [], [], [4121], [], [], [4111], [], [], [], [], [], [], [4111], [], [4110], [], [6021, 6022], [], [], [], [4110], [], [], [4121], [], [], [4110], [], [], [4111], [], [], [], [4110], [], [], [], [4121], [], [], [], [], [], [4121], [], [], [4111], [], [], [], [], [4121], [], [], [], [], [], [], [], [4110], [], [], [4121], [], [], [], [], [], [], [], [4110], [], [], [4194, 4195], [], [], [], [], [], [], []]
def qp_Md_isNext : List Nat := [0, 1, 2, 3, 4, 7, 10, 11, 12, 13, 16, 17, 20, 21, 24, 25]
def qh_Md_isNext : List (List Nat) := [[], [], [], [], [6014, 6016, 87], [], [], [], [], [6014, 6016, 87], [], [], [], [], [], []]
def qp_Md_upper : List Nat := [0, 1, 2, 3, 4, 7]
def qh_Md_upper : List (List Nat) := [[], [], [], [], [6010, 6012, 86], []]
def qp_Md_down : List Nat := [0, 1, 2, 3, 6]
def qh_Md_down : List (List Nat) := [[], [], [], [6040, 6042, 90], []]
def qp_Md_goes : List Nat := [0, 1, 4, 7, 8, 11, 12, 13, 14, 15, 16, 19, 22, 24, 25, 26, 29, 30, 31, 32, 33, 36, 39, 40, 43, 44, 45, 48, 49, 50, 51, 54, 57, 58, 61, 62, 65]
def qh_Md_goes : List (List Nat) := [[], [5133, 5135, 69], [], [], [], [], [], [], [], [], [6028, 6030, 89], [], [], [], [], [5077, 5079, 59], [], [], [], [], [4110], [], [], [4111], [], [], [4121], [], [], [], [], [], [], [5081, 5083, 60], [], [6044, 6046, 91], []]
def qp_Md_dim : List Nat := [0, 1, 4, 5, 8, 9, 12, 13, 14, 15, 18, 19, 22, 25, 26]
def qh_Md_dim : List (List Nat) := [[], [4112], [], [4110], [], [4112], [], [], [], [4111], [], [4110], [6018, 6019], [], []]
def qp_Md_up : List Nat := [0, 1, 2, 3, 6]
def qh_Md_up : List (List Nat) := [[], [], [], [6040, 6042, 90], []]
def qp_Md_turn : List Nat := [0, 1, 4, 7, 8, 9, 10, 13, 14, 17, 18, 21, 22, 23, 24, 25, 28, 29, 30, 31, 34, 35, 36, 37, 40, 41, 44, 45, 46, 49, 50, 51, 52, 53, 54, 55, 56, 59, 62, 63, 66, 67, 68, 69, 70, 73, 74]
def qh_Md_turn : List (List Nat) := [[], [5133, 5135, 69], [], [], [], [], [5077, 5079, 59], [], [4111], [], [4110], [], [], [], [], [4110], [], [], [], [4110], [], [], [], [], [], [4111], [], [], [4111], [], [], [], [], [], [], [], [], [], [], [4111], [], [], [], [], [5081, 5083, 60], [], []]
def qp_Md_mirror : List Nat := [0, 1, 4, 7, 8, 9, 10, 13, 14, 15, 16, 19, 22, 23, 24, 25, 26, 27, 28, 31, 34, 35, 36, 39, 42, 43, 44, 47, 48, 49, 50, 51, 54, 55, 58, 61, 62, 65, 66, 67, 68, 69, 72, 73, 76, 77, 80, 81, 82, 85, 86, 89, 90, 91, 94, 97, 98, 101, 102]
def qh_Md_mirror : List (List Nat) := [[], [5133, 5135, 69], [], [], [], [], [5077, 5079, 59], [], [], [], [], [], [], [], [], [], [], [], [4110], [], [], [], [5007, 5008], [], [], [], [4110], [], [], [], [], [5000, 5001], [], [], [], [], [4122], [], [], [], [], [4110], [], [], [], [4114], [], [], [], [], [], [], [], [], [], [], [6060, 6062, 92], [], []]
def qp_Md_becomesNew : List Nat := [0, 1, 2, 3, 4, 7, 10, 11, 14, 15, 16, 17, 20, 21, 24, 27, 28, 29, 30, 31, 34, 37, 38, 41, 42, 43, 46, 47, 48, 49, 52, 53, 54, 57, 58, 59, 60, 61, 62, 63, 66, 69, 70, 73, 76, 77, 80]
def qh_Md_becomesNew : List (List Nat) := [[], [], [], [], [4110], [], [], [4123], [], [], [], [6064, 6066, 93], [], [], [], [], [], [], [], [4110], [], [], [4111], [], [], [4123], [], [], [], [4123], [], [], [4110], [], [], [], [], [], [], [4110], [5058, 5059], [], [], [], [], [5081, 5083, 60], []]
def qp_Md_leastFrom : List Nat := [0, 1, 2, 3, 6, 9, 10, 13, 14, 15, 18, 21, 22, 23, 24, 26, 28, 31, 34, 35, 38, 39, 42, 44, 45, 48, 49, 51, 52, 53, 56, 59, 60, 63, 64, 65, 68, 71, 72, 75, 76, 77, 80, 83, 84]
def qh_Md_leastFrom : List (List Nat) := [[], [], [], [], [], [], [4122], [], [], [], [], [], [], [], [], [], [], [], [], [], [], [4122], [], [], [], [], [], [], [], [5097, 5099, 64], [], [], [], [], [], [], [], [], [], [], [], [], [], [], []]
def qp_Md_complement : List Nat := [0, 1, 4, 7, 8, 9, 10, 13, 14, 15, 16, 19, 22, 23, 26, 27, 28, 29, 30, 33, 34, 37, 38, 41, 42, 43, 46, 47, 48, 49, 50, 51, 52, 53, 54, 57, 58, 61, 62, 63, 66, 69, 70, 73, 74]
def qh_Md_complement : List (List Nat) := [[], [5133, 5135, 69], [], [], [], [], [5077, 5079, 59], [], [], [], [], [], [], [4122], [], [], [], [], [4110], [], [], [], [4114], [], [], [4110], [], [], [], [], [], [], [], [], [], [], [], [], [], [], [], [], [6060, 6062, 92], [], []]
def qp_Md_howMany : List Nat := [0, 1, 2, 5, 8, 11, 14, 15, 16, 17, 18, 19, 22, 25, 26, 29, 30, 31, 32, 34, 35, 37, 38, 41, 42, 43, 44, 46, 49, 50, 53, 55, 56, 57, 58, 59, 60, 61, 64, 66, 67, 69, 70, 71, 74, 77, 80, 81, 83, 84, 87, 90, 93, 95, 96, 99, 101, 102, 103, 104, 105, 108, 111, 112, 115, 116, 117, 119, 122, 125, 126, 129, 131, 133, 134, 135, 136, 139, 141]
def qh_Md_howMany : List (List Nat) := [[], [], [6076], [6077], [4194, 4195], [], [], [], [], [], [], [4194, 4195], [], [], [], [], [], [], [], [], [], [], [4124], [], [], [], [], [], [], [4124], [], [], [], [], [], [], [], [4124], [], [], [], [], [], [], [], [], [], [], [], [6078, 6080, 94], [], [], [], [], [], [], [], [], [], [], [6082, 6084, 95], [], [], [], [], [], [], [], [], [], [4124], [], [], [], [], [], [], [], []]
def qp_Md_isFree : List Nat := [0, 1, 2, 3, 4, 7, 8, 11, 12, 13, 14, 17, 18, 19, 20, 21, 22, 25, 26, 27, 30, 33, 34]
def qh_Md_isFree : List (List Nat) := [[], [], [], [], [], [], [4124], [], [], [], [4124], [], [], [], [], [], [], [], [], [], [], [], []]
def qp_Md_isOne : List Nat := [0, 1, 3, 4, 6, 8, 9, 12, 14, 15, 18, 20, 21, 22, 25, 26, 29, 30, 31, 33, 36, 39, 41, 42, 45, 46, 47, 48, 49, 50, 51, 54, 55, 58, 59, 60, 63, 64, 67, 68]
def qh_Md_isOne : List (List Nat) := [[], [], [], [], [], [], [], [], [], [4124], [], [], [], [], [], [], [], [], [], [], [], [], [], [], [], [], [], [], [], [], [4124], [], [6018, 6019], [], [], [], [], [], [], []]
def qp_Md_keep : List Nat := [0, 1, 4, 7, 8, 9, 10, 13, 16, 19, 20, 21, 22, 25, 26, 27, 30, 31, 32, 33, 34, 35, 38, 41, 42, 45, 47, 48, 49, 50, 51, 52, 55, 56, 57, 58, 61, 64, 65, 68]
def qh_Md_keep : List (List Nat) := [[], [5133, 5135, 69], [], [], [], [], [6090], [4194, 4195], [], [], [], [], [4125], [], [], [4110], [], [], [], [], [], [4110], [], [], [4126], [], [], [], [], [], [], [4111], [], [], [], [], [], [], [6044, 6046, 91], []]
def qp_Md_has2 : List Nat := [0, 1, 4, 7, 8, 9, 10, 13, 16, 19, 20, 21, 22, 25, 26, 27, 30, 32, 33, 34, 37, 38, 39, 40, 43, 46, 47, 48, 49, 50, 53, 54, 57, 58, 59, 62, 63, 66, 69, 70, 71, 72, 73, 74, 75, 76, 79, 80, 83, 84, 87, 88, 91, 94, 95, 98, 99, 100, 101, 103, 105, 106, 109, 112, 113, 116, 117, 118, 119, 122, 124, 125, 127, 130, 131, 134, 137, 138, 141, 142, 145, 146, 147, 150, 151, 152, 155, 158, 159]
def qh_Md_has2 : List (List Nat) := [[], [5133, 5135, 69], [], [], [], [], [6090], [4194, 4195], [], [], [], [], [4125], [], [], [], [], [], [], [4125], [], [], [], [4110], [], [], [], [], [], [6095, 6097, 96], [], [4127], [], [], [5051, 5052], [], [4112], [], [], [], [], [], [], [], [], [4110], [], [], [], [5051, 5052], [], [4112], [], [], [], [], [], [], [], [], [], [4110], [], [], [], [], [], [], [4127], [], [], [], [5097, 5099, 64], [], [], [], [], [], [], [4114], [], [], [], [], [], [], [], [], []]
def qp_Md_laysItsNeck : List Nat := [0, 1, 4, 5, 6, 7, 8, 11, 12, 13, 14, 15, 16, 17, 18, 21, 22, 25, 27, 28, 29, 30, 31, 32, 33, 36, 37, 40, 41, 42, 45, 46, 47, 48, 51, 53, 54, 55, 56, 57, 58, 59, 60, 63, 64, 67, 70, 71, 72, 73, 74, 77, 78, 81, 83, 84, 85, 86, 87, 88, 90, 91, 94, 95, 96, 97, 99, 100, 103, 104, 107, 108, 109, 112, 113, 116, 117, 118, 119, 122, 124, 125, 128, 130, 131, 132, 135, 137, 140, 141, 144, 147]
def qh_Md_laysItsNeck : List (List Nat) := [[], [4125], [], [], [], [], [4127], [], [], [], [], [], [], [], [], [], [4126], [], [], [], [], [], [], [], [], [], [4127], [], [], [4127], [], [], [], [4126], [], [], [], [], [], [], [], [], [5000, 5001], [], [], [], [], [], [], [], [], [], [4126], [], [], [], [], [], [], [], [], [4127], [], [], [], [], [], [], [], [4127], [], [], [], [], [4127], [], [], [], [5048, 5049], [], [], [], [], [], [], [], [], [5000, 5001], [], [], [], []]
def qp_Md_count : List Nat := [0, 1, 2, 3, 6, 9, 12, 13, 16, 19, 20, 21, 22, 76, 77, 80, 81, 82, 85, 86, 87, 90, 91, 92, 95, 96, 99, 102, 103, 104, 105, 108, 109, 110, 111, 114, 115, 116, 119, 120, 121, 124, 125, 126, 129, 130, 131, 134, 135, 136]
def qh_Md_count : List (List Nat) := [[], [], [], [6103], [4194, 4195], [], [], [5133, 5135, 69], [], [], [], [], [], [], [4110], [], [], [4112], [], [], [6044, 6046, 91], [], [], [4111], [], [4110], [6018, 6019], [], [], [], [6104, 6106, 97], [], [], [], [6104, 6106, 97], [], [], [6108, 6110, 98], [], [], [4120], [], [], [6112, 6114, 99], [], [], [4101], [], [], []]
def qp_Md_loops : List Nat := [0, 1, 2, 3, 4, 5, 6, 9, 12, 13, 16, 17, 18, 19, 22, 23, 24, 27, 28, 31, 32, 35, 36, 37, 40, 41, 44, 47, 48]
def qh_Md_loops : List (List Nat) := [[], [], [], [], [], [], [4110], [], [], [4111], [], [], [], [], [], [], [4110], [], [], [], [], [], [], [5000, 5001], [], [], [], [], []]
def qp_Md_parts : List Nat := [0, 1, 4, 5, 6, 7, 8, 9, 10, 13, 16, 17, 18, 21, 22, 23, 24, 27, 28, 31, 32, 33, 34, 37, 40, 41]
def qh_Md_parts : List (List Nat) := [[], [5161, 5163, 71], [], [], [], [], [], [], [4110], [], [], [], [4116], [], [], [], [], [], [], [], [], [], [], [], [], []]
def qp_Md_kept : List Nat := [0, 1, 2, 3, 4, 5, 6, 9, 10, 11, 14, 15, 16, 19, 20, 21, 22, 25, 26, 27, 28, 31, 34, 35]
def qh_Md_kept : List (List Nat) := [[], [], [], [], [], [], [], [], [], [4125], [], [], [], [], [], [], [], [], [], [], [], [], [], []]
def q_y_0 : List MethodName := [⟨"GrassCellsLaw", "law", "([I)Z"⟩, ⟨"GrassCells", "<init>", "()V"⟩, ⟨"java/lang/Object", "<init>", "()V"⟩, ⟨"GrassCells$Reader", "<init>", "()V"⟩, ⟨"GrassCells$Tape", "<init>", "()V"⟩, ⟨"GrassCells$Diagram", "<init>", "()V"⟩, ⟨"GrassCells$Cell", "<init>", "()V"⟩, ⟨"GrassCells$Collection", "<init>", "()V"⟩, ⟨"GrassCells$Neighbours", "<init>", "()V"⟩, ⟨"GrassCells$Past", "<init>", "()V"⟩, ⟨"GrassCells$Moment", "<init>", "()V"⟩, ⟨"GrassCells$Census", "<init>", "()V"⟩, ⟨"GrassCells$Shelf", "<init>", "()V"⟩, ⟨"GrassCells", "feed", "(IIIII)I"⟩, ⟨"GrassCells$Tape", "append", "(I)V"⟩, ⟨"GrassCells", "end", "(I)I"⟩]
def q_y_1 : List MethodName := [⟨"GrassCells", "cell", "()I"⟩, ⟨"GrassCells$Reader", "read", "()I"⟩, ⟨"GrassCells$Reader", "skipBlanks", "()V"⟩, ⟨"GrassCells$Tape", "at", "(I)I"⟩, ⟨"GrassCells$Tape", "isSmallLetter", "(I)Z"⟩, ⟨"GrassCells$Tape", "fourBytes", "(I)I"⟩, ⟨"GrassCells$Reader", "readNumbers", "()I"⟩, ⟨"GrassCells$Reader", "readNumber", "(I)Z"⟩, ⟨"GrassCells$Tape", "isDigit", "(I)Z"⟩, ⟨"GrassCells$Reader", "fault", "(II)I"⟩, ⟨"GrassCells$Reader", "faultOfNumbers", "()I"⟩, ⟨"GrassCells$Sets", "only", "(I)I"⟩, ⟨"GrassCells$Reader", "readFilling", "()I"⟩, ⟨"GrassCells$Reader", "readPath", "()Z"⟩, ⟨"GrassCells$Reader", "isLetterOfPath", "()Z"⟩, ⟨"GrassCells$Diagram", "clear", "(II)V"⟩]
def q_y_2 : List MethodName := [⟨"java/util/Arrays", "fill", "([II)V"⟩, ⟨"GrassCells$Sets", "holds", "(II)Z"⟩, ⟨"GrassCells$Reader", "readRow", "(I)Z"⟩, ⟨"GrassCells$Diagram", "isBox", "(II)Z"⟩, ⟨"GrassCells$Diagram", "setPlus", "(II)V"⟩, ⟨"GrassCells$Reader", "faultOfBoxes", "()I"⟩, ⟨"GrassCells$Diagram", "breaksLe", "(II)Z"⟩, ⟨"GrassCells$Diagram", "isPlus", "(II)Z"⟩, ⟨"GrassCells$Diagram", "imageOf", "(I)I"⟩, ⟨"GrassCells$Diagram", "nextColumn", "(I)I"⟩, ⟨"GrassCells$Diagram", "rowAbove", "(I)I"⟩, ⟨"GrassCells$Reader", "readSets", "()I"⟩, ⟨"GrassCells$Reader", "readSet", "(I)Z"⟩, ⟨"GrassCells$Reader", "faultOfSets", "()I"⟩, ⟨"GrassCells$Sets", "upTo", "(I)I"⟩, ⟨"java/lang/Integer", "bitCount", "(I)I"⟩]
def q_y_3 : List MethodName := [⟨"GrassCells$Sets", "canStandBehind", "(III)Z"⟩, ⟨"GrassCells$Reader", "imageBetween", "(III)I"⟩, ⟨"GrassCells$Sets", "least", "(I)I"⟩, ⟨"java/lang/Integer", "numberOfTrailingZeros", "(I)I"⟩, ⟨"GrassCells", "become", "(I[I)V"⟩, ⟨"GrassCells$Past", "record", "(LGrassCells$Cell;LGrassCells$Collection;)V"⟩, ⟨"java/lang/Math", "min", "(II)I"⟩, ⟨"GrassCells$Collection", "copyFrom", "(LGrassCells$Collection;)V"⟩, ⟨"GrassCells$Cell", "take", "(I[I)V"⟩, ⟨"GrassCells$Cell", "layNecklace", "()V"⟩, ⟨"GrassCells$Cell", "layBases", "()V"⟩, ⟨"GrassCells$Cell", "isSet", "(I)Z"⟩, ⟨"GrassCells$Cell", "areLabels", "(I)Z"⟩, ⟨"GrassCells$Cell", "isAtLeastNecklace", "(I)Z"⟩, ⟨"GrassCells$Sets", "atLeast", "(IIII)Z"⟩, ⟨"GrassCells$Cell", "inversionsOf", "([II)I"⟩]
def q_y_4 : List MethodName := [⟨"GrassCells$Diagram", "drawFor", "(LGrassCells$Cell;)V"⟩, ⟨"GrassCells$Collection", "layFor", "(LGrassCells$Cell;)V"⟩, ⟨"GrassCells$Collection", "add", "(I)V"⟩, ⟨"GrassCells$Collection", "contains", "(I)Z"⟩, ⟨"GrassCells$Collection", "crossesNone", "(II)Z"⟩, ⟨"GrassCells$Sets", "crossing", "(III)Z"⟩, ⟨"GrassCells", "f", "(I)I"⟩, ⟨"GrassCells$Cell", "isLabel", "(I)Z"⟩, ⟨"GrassCells", "neck", "(I)I"⟩, ⟨"GrassCells", "box", "(II)I"⟩, ⟨"GrassCells", "bases", "()I"⟩, ⟨"GrassCells", "basis", "(I)I"⟩, ⟨"GrassCells", "rank", "(I)I"⟩, ⟨"GrassCells$Cell", "rankOf", "(I)I"⟩, ⟨"java/lang/Math", "max", "(II)I"⟩, ⟨"GrassCells", "exchange", "(III)I"⟩]
def q_y_5 : List MethodName := [⟨"GrassCells$Cell", "isBasis", "(I)Z"⟩, ⟨"GrassCells$Cell", "leastExchange", "(III)I"⟩, ⟨"GrassCells", "part", "(I)I"⟩, ⟨"GrassCells$Cell", "hangingTogether", "(I)I"⟩, ⟨"GrassCells$Cell", "exchangeable", "(I)I"⟩, ⟨"GrassCells", "ways", "(I)J"⟩, ⟨"GrassCells$Diagram", "waysTo", "(I)J"⟩, ⟨"GrassCells$Diagram", "countPathsTo", "(I)V"⟩, ⟨"java/util/Arrays", "fill", "([JJ)V"⟩, ⟨"GrassCells$Diagram", "expandRow", "(III)V"⟩, ⟨"java/lang/Math", "abs", "(J)J"⟩, ⟨"GrassCells", "cross", "(II)I"⟩, ⟨"GrassCells", "cluster", "(I)I"⟩, ⟨"GrassCells", "square", "(I)I"⟩, ⟨"GrassCells$Collection", "movedFrom", "(ILGrassCells$Cell;)I"⟩, ⟨"GrassCells$Cell", "isOfNecklace", "(I)Z"⟩]
def q_y_6 : List MethodName := [⟨"GrassCells$Collection", "movedAt", "(IIII)I"⟩, ⟨"GrassCells$Collection", "hasCorners", "(IIIII)Z"⟩, ⟨"GrassCells", "move", "(I)I"⟩, ⟨"GrassCells$Collection", "remove", "(I)V"⟩, ⟨"GrassCells", "lower", "(II)I"⟩, ⟨"GrassCells", "valueOfNext", "(III)I"⟩, ⟨"GrassCells$Neighbours", "howManyFrom", "(LGrassCells$Cell;I)I"⟩, ⟨"GrassCells$Neighbours", "seek", "(LGrassCells$Cell;II)Z"⟩, ⟨"GrassCells$Neighbours", "swap", "(LGrassCells$Cell;II)Z"⟩, ⟨"GrassCells", "upper", "(II)I"⟩, ⟨"GrassCells", "down", "(I)I"⟩, ⟨"GrassCells", "stepToNext", "(II)I"⟩, ⟨"GrassCells$Cell", "dimension", "()I"⟩, ⟨"GrassCells$Diagram", "plusCount", "()I"⟩, ⟨"GrassCells", "up", "(I)I"⟩, ⟨"GrassCells", "turn", "()Z"⟩]
def q_y_7 : List MethodName := [⟨"GrassCells", "mirror", "()Z"⟩, ⟨"GrassCells$Cell", "origin", "(I)I"⟩, ⟨"GrassCells", "complement", "()Z"⟩, ⟨"GrassCells", "undo", "()I"⟩, ⟨"GrassCells$Past", "takeLast", "()LGrassCells$Moment;"⟩, ⟨"GrassCells", "howMany", "(III)I"⟩, ⟨"GrassCells$Census", "cells", "(III)I"⟩, ⟨"GrassCells$Census", "clearThen", "()V"⟩, ⟨"GrassCells$Census", "flip", "()V"⟩, ⟨"GrassCells$Census", "endLowestRow", "(I)V"⟩, ⟨"java/lang/Integer", "highestOneBit", "(I)I"⟩, ⟨"java/lang/Integer", "numberOfLeadingZeros", "(I)I"⟩, ⟨"GrassCells$Census", "pass", "(III)V"⟩, ⟨"GrassCells$Census", "addColumn", "(I)V"⟩, ⟨"GrassCells", "keep", "(I)I"⟩, ⟨"GrassCells$Shelf", "put", "(LGrassCells$Cell;)V"⟩]
def q_y_8 : List MethodName := [⟨"GrassCells", "has", "(I)I"⟩, ⟨"GrassCells$Shelf", "isInClosureOf", "(LGrassCells$Cell;)Z"⟩, ⟨"GrassCells", "count", "(I)I"⟩, ⟨"GrassCells", "filledShelves", "()I"⟩, ⟨"GrassCells", "countOfLive", "(I)I"⟩, ⟨"GrassCells$Cell", "fixedLabels", "(I)I"⟩, ⟨"GrassCells$Cell", "partCount", "()I"⟩, ⟨"GrassCellsModel", "<init>", "()V"⟩, ⟨"GrassCellsModel", "feed", "(IIIII)I"⟩, ⟨"GrassCellsModel", "end", "(I)I"⟩, ⟨"GrassCellsModel", "isIn", "(JJJ)Z"⟩, ⟨"GrassCellsModel", "cell", "()I"⟩, ⟨"GrassCellsModel", "wordHere", "()I"⟩, ⟨"GrassCellsModel", "next", "()I"⟩, ⟨"GrassCellsModel", "byteAt", "(I)I"⟩, ⟨"GrassCellsModel", "isLetter", "(I)Z"⟩]
def q_y_9 : List MethodName := [⟨"GrassCellsModel", "fails", "(II)Z"⟩, ⟨"GrassCellsModel", "readsRest", "(I)Z"⟩, ⟨"GrassCellsModel", "readsPerm", "()Z"⟩, ⟨"GrassCellsModel", "isDigit", "(I)Z"⟩, ⟨"GrassCellsModel", "isLikeAhead", "(I)Z"⟩, ⟨"GrassCellsModel", "readsFill", "()Z"⟩, ⟨"GrassCellsModel", "with", "(II)I"⟩, ⟨"GrassCellsModel", "laysShape", "(II)V"⟩, ⟨"GrassCellsModel", "has", "(II)Z"⟩, ⟨"GrassCellsModel", "isBox", "(II)Z"⟩, ⟨"GrassCellsModel", "isLe", "(III)Z"⟩, ⟨"GrassCellsModel", "isPlus", "(II)Z"⟩, ⟨"GrassCellsModel", "goesFrom", "(III)I"⟩, ⟨"GrassCellsModel", "rowAbove", "(II)I"⟩, ⟨"GrassCellsModel", "columnLeft", "(III)I"⟩, ⟨"GrassCellsModel", "outAt", "(IIII)I"⟩]
def q_y_10 : List MethodName := [⟨"GrassCellsModel", "readsNeck", "()Z"⟩, ⟨"GrassCellsModel", "isNeck", "()Z"⟩, ⟨"GrassCellsModel", "canStand", "(III)Z"⟩, ⟨"GrassCellsModel", "without", "(II)I"⟩, ⟨"GrassCellsModel", "sizeOf", "(I)I"⟩, ⟨"GrassCellsModel", "laysByNeck", "()Z"⟩, ⟨"GrassCellsModel", "stepOf", "(IIII)I"⟩, ⟨"GrassCellsModel", "laysDiagram", "()V"⟩, ⟨"GrassCellsModel", "isOwnDiagram", "()Z"⟩, ⟨"GrassCellsModel", "searchesDiagram", "()V"⟩, ⟨"GrassCellsModel", "isAllLe", "()Z"⟩, ⟨"GrassCellsModel", "keepsAct", "()V"⟩, ⟨"GrassCellsModel", "changes", "()V"⟩, ⟨"GrassCellsModel", "follows", "()V"⟩, ⟨"GrassCellsModel", "laysNeck", "()V"⟩, ⟨"GrassCellsModel", "laysBases", "()V"⟩]
def q_y_11 : List MethodName := [⟨"GrassCellsModel", "isAtLeast", "(III)Z"⟩, ⟨"GrassCellsModel", "laysCluster", "()V"⟩, ⟨"GrassCellsModel", "crossesNone", "(I)Z"⟩, ⟨"GrassCellsModel", "doCross", "(II)Z"⟩, ⟨"GrassCellsModel", "f", "(I)I"⟩, ⟨"GrassCellsModel", "isLabel", "(I)Z"⟩, ⟨"GrassCellsModel", "neck", "(I)I"⟩, ⟨"GrassCellsModel", "box", "(II)I"⟩, ⟨"GrassCellsModel", "bases", "()I"⟩, ⟨"GrassCellsModel", "isCell", "()Z"⟩, ⟨"GrassCellsModel", "basis", "(I)I"⟩, ⟨"GrassCellsModel", "kthOf", "([ZI)I"⟩, ⟨"GrassCellsModel", "rank", "(I)I"⟩, ⟨"GrassCellsModel", "exchange", "(III)I"⟩, ⟨"GrassCellsModel", "isBasisHere", "(I)Z"⟩, ⟨"GrassCellsModel", "part", "(I)I"⟩]
def q_y_12 : List MethodName := [⟨"GrassCellsModel", "laysParts", "()V"⟩, ⟨"GrassCellsModel", "hang", "(II)Z"⟩, ⟨"GrassCellsModel", "ways", "(I)J"⟩, ⟨"GrassCellsModel", "isSet", "(I)Z"⟩, ⟨"GrassCellsModel", "laysPaths", "(I)V"⟩, ⟨"GrassCellsModel", "plusToRight", "(II)I"⟩, ⟨"GrassCellsModel", "plusAbove", "(II)I"⟩, ⟨"GrassCellsModel", "endsAt", "(I)J"⟩, ⟨"GrassCellsModel", "determinant", "(I)J"⟩, ⟨"GrassCellsModel", "of", "(II)J"⟩, ⟨"GrassCellsModel", "two", "(IIII)J"⟩, ⟨"GrassCellsModel", "three", "(III)J"⟩, ⟨"GrassCellsModel", "cross", "(II)I"⟩, ⟨"GrassCellsModel", "cluster", "(I)I"⟩, ⟨"GrassCellsModel", "square", "(I)I"⟩, ⟨"GrassCellsModel", "squareAt", "(I)I"⟩]
def q_y_13 : List MethodName := [⟨"GrassCellsModel", "isOfNeck", "(I)Z"⟩, ⟨"GrassCellsModel", "squareBy", "(III)I"⟩, ⟨"GrassCellsModel", "isThere", "(III)Z"⟩, ⟨"GrassCellsModel", "move", "(I)I"⟩, ⟨"GrassCellsModel", "undo", "()I"⟩, ⟨"GrassCellsModel", "lower", "(II)I"⟩, ⟨"GrassCellsModel", "toldNext", "(III)I"⟩, ⟨"GrassCellsModel", "nextOnes", "(II)I"⟩, ⟨"GrassCellsModel", "inversionsOf", "([II)I"⟩, ⟨"GrassCellsModel", "at", "([III)I"⟩, ⟨"GrassCellsModel", "swaps", "(II)Z"⟩, ⟨"GrassCellsModel", "isNext", "(II)Z"⟩, ⟨"GrassCellsModel", "upper", "(II)I"⟩, ⟨"GrassCellsModel", "down", "(I)I"⟩, ⟨"GrassCellsModel", "goes", "(II)I"⟩, ⟨"GrassCellsModel", "dim", "()I"⟩]
def q_y_14 : List MethodName := [⟨"GrassCellsModel", "up", "(I)I"⟩, ⟨"GrassCellsModel", "turn", "()Z"⟩, ⟨"GrassCellsModel", "mirror", "()Z"⟩, ⟨"GrassCellsModel", "becomesNew", "()V"⟩, ⟨"GrassCellsModel", "leastFrom", "(I)I"⟩, ⟨"GrassCellsModel", "complement", "()Z"⟩, ⟨"GrassCellsModel", "howMany", "(III)I"⟩, ⟨"GrassCellsModel", "isFree", "(II)Z"⟩, ⟨"GrassCellsModel", "isOne", "(III)Z"⟩, ⟨"GrassCellsModel", "keep", "(I)I"⟩, ⟨"GrassCellsModel", "has", "(I)I"⟩, ⟨"GrassCellsModel", "laysItsNeck", "(I)V"⟩, ⟨"GrassCellsModel", "count", "(I)I"⟩, ⟨"GrassCellsModel", "loops", "(Z)I"⟩, ⟨"GrassCellsModel", "parts", "()I"⟩, ⟨"GrassCellsModel", "kept", "()I"⟩]
def q_y_all : List (List MethodName) := [q_y_0, q_y_1, q_y_2, q_y_3, q_y_4, q_y_5, q_y_6, q_y_7, q_y_8, q_y_9, q_y_10, q_y_11, q_y_12, q_y_13, q_y_14]
def q_y (m : Nat) : MethodName := match q_y_all[m / 16]? with
  | some l => (match l[m % 16]? with
    | some c => c
    | none => ⟨"", "", ""⟩)
  | none => ⟨"", "", ""⟩
def q_cc_0 : List ByteArray := [code, prog_1_method_1_code, object_method_1_code, prog_9_method_1_code, prog_12_method_1_code, prog_5_method_1_code, prog_2_method_1_code, prog_4_method_1_code, prog_7_method_1_code, prog_8_method_1_code, prog_6_method_1_code, prog_3_method_1_code, prog_11_method_1_code, prog_1_method_2_code, prog_12_method_2_code, prog_1_method_3_code]
def q_cc_1 : List ByteArray := [prog_1_method_4_code, prog_9_method_2_code, prog_9_method_4_code, prog_12_method_3_code, prog_12_method_5_code, prog_12_method_6_code, prog_9_method_5_code, prog_9_method_6_code, prog_12_method_4_code, prog_9_method_3_code, prog_9_method_7_code, prog_10_method_2_code, prog_9_method_8_code, prog_9_method_10_code, prog_9_method_9_code, prog_5_method_2_code]
def q_cc_2 : List ByteArray := [prog_18_method_103_code, prog_10_method_4_code, prog_9_method_11_code, prog_5_method_3_code, prog_5_method_5_code, prog_9_method_12_code, prog_5_method_6_code, prog_5_method_4_code, prog_5_method_7_code, prog_5_method_8_code, prog_5_method_9_code, prog_9_method_13_code, prog_9_method_14_code, prog_9_method_15_code, prog_10_method_3_code, prog_15_method_49_code]
def q_cc_3 : List ByteArray := [prog_10_method_8_code, prog_9_method_16_code, prog_10_method_5_code, prog_15_method_48_code, prog_1_method_34_code, prog_8_method_2_code, prog_16_method_69_code, prog_4_method_3_code, prog_2_method_2_code, prog_2_method_3_code, prog_2_method_4_code, prog_2_method_10_code, prog_2_method_9_code, prog_2_method_5_code, prog_10_method_6_code, prog_2_method_6_code]
def q_cc_4 : List ByteArray := [prog_5_method_10_code, prog_4_method_2_code, prog_4_method_6_code, prog_4_method_5_code, prog_4_method_4_code, prog_10_method_7_code, prog_1_method_5_code, prog_2_method_8_code, prog_1_method_6_code, prog_1_method_7_code, prog_1_method_8_code, prog_1_method_9_code, prog_1_method_10_code, prog_2_method_13_code, prog_16_method_65_code, prog_1_method_11_code]
def q_cc_5 : List ByteArray := [prog_2_method_11_code, prog_2_method_14_code, prog_1_method_12_code, prog_2_method_15_code, prog_2_method_16_code, prog_1_method_13_code, prog_5_method_12_code, prog_5_method_14_code, prog_18_method_101_code, prog_5_method_13_code, prog_16_method_61_code, prog_1_method_14_code, prog_1_method_15_code, prog_1_method_16_code, prog_4_method_8_code, prog_2_method_12_code]
def q_cc_6 : List ByteArray := [prog_4_method_9_code, prog_4_method_10_code, prog_1_method_17_code, prog_4_method_7_code, prog_1_method_18_code, prog_1_method_32_code, prog_7_method_2_code, prog_7_method_3_code, prog_7_method_4_code, prog_1_method_19_code, prog_1_method_20_code, prog_1_method_33_code, prog_2_method_7_code, prog_5_method_11_code, prog_1_method_21_code, prog_1_method_22_code]
def q_cc_7 : List ByteArray := [prog_1_method_23_code, prog_2_method_19_code, prog_1_method_24_code, prog_1_method_25_code, prog_8_method_3_code, prog_1_method_26_code, prog_3_method_2_code, prog_3_method_4_code, prog_3_method_3_code, prog_3_method_5_code, prog_15_method_45_code, prog_15_method_47_code, prog_3_method_7_code, prog_3_method_6_code, prog_1_method_27_code, prog_11_method_2_code]
def q_cc_8 : List ByteArray := [prog_1_method_28_code, prog_11_method_3_code, prog_1_method_29_code, prog_1_method_31_code, prog_1_method_30_code, prog_2_method_18_code, prog_2_method_17_code, prog_14_method_1_code, prog_14_method_7_code, prog_14_method_8_code, prog_14_method_2_code, prog_14_method_31_code, prog_14_method_14_code, prog_14_method_11_code, prog_14_method_10_code, prog_14_method_12_code]
def q_cc_9 : List ByteArray := [prog_14_method_9_code, prog_14_method_32_code, prog_14_method_15_code, prog_14_method_13_code, prog_14_method_16_code, prog_14_method_25_code, prog_14_method_4_code, prog_14_method_24_code, prog_14_method_3_code, prog_14_method_23_code, prog_14_method_26_code, prog_14_method_22_code, prog_14_method_29_code, prog_14_method_27_code, prog_14_method_28_code, prog_14_method_30_code]
def q_cc_10 : List ByteArray := [prog_14_method_17_code, prog_14_method_18_code, prog_14_method_19_code, prog_14_method_5_code, prog_14_method_6_code, prog_14_method_20_code, prog_14_method_21_code, prog_14_method_39_code, prog_14_method_38_code, prog_14_method_40_code, prog_14_method_41_code, prog_14_method_77_code, prog_14_method_33_code, prog_14_method_34_code, prog_14_method_35_code, prog_14_method_37_code]
def q_cc_11 : List ByteArray := [prog_14_method_36_code, prog_14_method_69_code, prog_14_method_68_code, prog_14_method_66_code, prog_14_method_44_code, prog_14_method_43_code, prog_14_method_45_code, prog_14_method_46_code, prog_14_method_47_code, prog_14_method_42_code, prog_14_method_49_code, prog_14_method_48_code, prog_14_method_50_code, prog_14_method_52_code, prog_14_method_51_code, prog_14_method_55_code]
def q_cc_12 : List ByteArray := [prog_14_method_54_code, prog_14_method_53_code, prog_14_method_61_code, prog_14_method_56_code, prog_14_method_59_code, prog_14_method_58_code, prog_14_method_57_code, prog_14_method_60_code, prog_14_method_65_code, prog_14_method_62_code, prog_14_method_63_code, prog_14_method_64_code, prog_14_method_67_code, prog_14_method_70_code, prog_14_method_75_code, prog_14_method_73_code]
def q_cc_13 : List ByteArray := [prog_14_method_71_code, prog_14_method_74_code, prog_14_method_72_code, prog_14_method_76_code, prog_14_method_78_code, prog_14_method_86_code, prog_14_method_84_code, prog_14_method_83_code, prog_14_method_80_code, prog_14_method_79_code, prog_14_method_82_code, prog_14_method_85_code, prog_14_method_87_code, prog_14_method_89_code, prog_14_method_88_code, prog_14_method_81_code]
def q_cc_14 : List ByteArray := [prog_14_method_90_code, prog_14_method_91_code, prog_14_method_94_code, prog_14_method_93_code, prog_14_method_92_code, prog_14_method_95_code, prog_14_method_98_code, prog_14_method_96_code, prog_14_method_97_code, prog_14_method_99_code, prog_14_method_101_code, prog_14_method_100_code, prog_14_method_105_code, prog_14_method_102_code, prog_14_method_103_code, prog_14_method_104_code]
def q_cc_all : List (List ByteArray) := [q_cc_0, q_cc_1, q_cc_2, q_cc_3, q_cc_4, q_cc_5, q_cc_6, q_cc_7, q_cc_8, q_cc_9, q_cc_10, q_cc_11, q_cc_12, q_cc_13, q_cc_14]
def q_cc (m : Nat) : ByteArray := match q_cc_all[m / 16]? with
  | some l => (match l[m % 16]? with
    | some c => c
    | none => .empty)
  | none => .empty
def q_rtT_0 : List (Option FieldType) := [some .boolean, none, none, none, none, none, none, none, none, none, none, none, none, some .int, none, some .int]
def q_rtT_1 : List (Option FieldType) := [some .int, some .int, none, some .int, some .boolean, some .int, some .int, some .boolean, some .boolean, some .int, some .int, some .int, some .int, some .boolean, some .boolean, none]
def q_rtT_2 : List (Option FieldType) := [none, some .boolean, some .boolean, some .boolean, none, some .int, some .boolean, some .boolean, some .int, some .int, some .int, some .int, some .boolean, some .int, some .int, some .int]
def q_rtT_3 : List (Option FieldType) := [some .boolean, some .int, some .int, some .int, none, none, some .int, none, none, none, none, some .boolean, some .boolean, some .boolean, some .boolean, some .int]
def q_rtT_4 : List (Option FieldType) := [none, none, none, some .boolean, some .boolean, some .boolean, some .int, some .boolean, some .int, some .int, some .int, some .int, some .int, some .int, some .int, some .int]
def q_rtT_5 : List (Option FieldType) := [some .boolean, some .int, some .int, some .int, some .int, some .long, some .long, none, none, none, some .long, some .int, some .int, some .int, some .int, some .boolean]
def q_rtT_6 : List (Option FieldType) := [some .int, some .boolean, some .int, none, some .int, some .int, some .int, some .boolean, some .boolean, some .int, some .int, some .int, some .int, some .int, some .int, some .boolean]
def q_rtT_7 : List (Option FieldType) := [some .boolean, some .int, some .boolean, some .int, some (.object "GrassCells$Moment"), some .int, some .int, none, none, none, some .int, some .int, none, none, some .int, none]
def q_rtT_8 : List (Option FieldType) := [some .int, some .boolean, some .int, some .int, some .int, some .int, some .int, none, some .int, some .int, some .boolean, some .int, some .int, some .int, some .int, some .boolean]
def q_rtT_9 : List (Option FieldType) := [some .boolean, some .boolean, some .boolean, some .boolean, some .boolean, some .boolean, some .int, none, some .boolean, some .boolean, some .boolean, some .boolean, some .int, some .int, some .int, some .int]
def q_rtT_10 : List (Option FieldType) := [some .boolean, some .boolean, some .boolean, some .int, some .int, some .boolean, some .int, none, some .boolean, none, some .boolean, none, none, none, none, none]
def q_rtT_11 : List (Option FieldType) := [some .boolean, none, some .boolean, some .boolean, some .int, some .boolean, some .int, some .int, some .int, some .boolean, some .int, some .int, some .int, some .int, some .boolean, some .int]
def q_rtT_12 : List (Option FieldType) := [none, some .boolean, some .long, some .boolean, none, some .int, some .int, some .long, some .long, some .long, some .long, some .long, some .int, some .int, some .int, some .int]
def q_rtT_13 : List (Option FieldType) := [some .boolean, some .int, some .boolean, some .int, some .int, some .int, some .int, some .int, some .int, some .int, some .boolean, some .boolean, some .int, some .int, some .int, some .int]
def q_rtT_14 : List (Option FieldType) := [some .int, some .boolean, some .boolean, none, some .int, some .boolean, some .int, some .boolean, some .boolean, some .int, some .int, none, some .int, some .int, some .int, some .int]
def q_rtT_all : List (List (Option FieldType)) := [q_rtT_0, q_rtT_1, q_rtT_2, q_rtT_3, q_rtT_4, q_rtT_5, q_rtT_6, q_rtT_7, q_rtT_8, q_rtT_9, q_rtT_10, q_rtT_11, q_rtT_12, q_rtT_13, q_rtT_14]
def q_rtT (m : Nat) : Option FieldType := match q_rtT_all[m / 16]? with
  | some l => (match l[m % 16]? with
    | some c => c
    | none => none)
  | none => none
def q_fr_0 : List Nat := [10, 4, 0, 2, 1, 1, 2, 1, 1, 3, 2, 1, 1, 1, 0, 0]
def q_fr_1 : List Nat := [6, 5, 1, 0, 1, 1, 3, 2, 1, 0, 1, 0, 4, 2, 1, 1]
def q_fr_2 : List Nat := [0, 0, 2, 1, 1, 3, 2, 1, 2, 1, 1, 4, 2, 3, 0, 0]
def q_fr_3 : List Nat := [1, 2, 1, 0, 5, 1, 0, 0, 4, 1, 3, 2, 1, 1, 0, 0]
def q_fr_4 : List Nat := [2, 3, 1, 0, 2, 1, 1, 0, 1, 2, 0, 0, 2, 1, 0, 4]
def q_fr_5 : List Nat := [2, 3, 5, 4, 3, 4, 3, 2, 0, 1, 0, 3, 0, 4, 3, 0]
def q_fr_6 : List Nat := [2, 1, 4, 0, 4, 3, 2, 1, 0, 4, 7, 6, 2, 1, 7, 6]
def q_fr_7 : List Nat := [6, 0, 6, 5, 0, 4, 3, 1, 0, 2, 1, 0, 0, 2, 3, 0]
def q_fr_8 : List Nat := [4, 3, 7, 0, 6, 1, 5, 1, 0, 1, 0, 8, 2, 1, 0, 0]
def q_fr_9 : List Nat := [0, 4, 2, 0, 0, 3, 0, 1, 0, 0, 1, 0, 2, 1, 1, 1]
def q_fr_10 : List Nat := [3, 2, 1, 0, 0, 2, 1, 5, 3, 4, 2, 0, 7, 6, 1, 2]
def q_fr_11 : List Nat := [1, 3, 2, 1, 1, 0, 1, 1, 1, 0, 1, 0, 1, 2, 1, 3]
def q_fr_12 : List Nat := [2, 1, 4, 1, 2, 1, 1, 1, 3, 0, 1, 2, 2, 1, 4, 3]
def q_fr_13 : List Nat := [0, 2, 1, 4, 7, 5, 4, 2, 1, 0, 1, 3, 5, 9, 8, 2]
def q_fr_14 : List Nat := [9, 8, 9, 8, 2, 9, 3, 0, 2, 3, 2, 1, 4, 1, 3, 0]
def q_fr_all : List (List Nat) := [q_fr_0, q_fr_1, q_fr_2, q_fr_3, q_fr_4, q_fr_5, q_fr_6, q_fr_7, q_fr_8, q_fr_9, q_fr_10, q_fr_11, q_fr_12, q_fr_13, q_fr_14]
def q_fr (m : Nat) : Nat := match q_fr_all[m / 16]? with
  | some l => (match l[m % 16]? with
    | some c => c
    | none => 0)
  | none => 0
def q_lo_0 : List Nat := [228, 81, 0, 40, 20, 20, 40, 20, 20, 60, 40, 20, 20, 22, 0, 0]
def q_lo_1 : List Nat := [134, 112, 21, 0, 21, 21, 65, 42, 21, 0, 22, 0, 91, 45, 21, 23]
def q_lo_2 : List Nat := [0, 0, 43, 21, 20, 68, 43, 21, 43, 21, 21, 87, 42, 65, 0, 0]
def q_lo_3 : List Nat := [21, 41, 21, 0, 106, 22, 0, 0, 83, 20, 62, 41, 20, 26, 0, 0]
def q_lo_4 : List Nat := [45, 72, 22, 0, 49, 21, 21, 0, 21, 43, 0, 0, 44, 21, 0, 86]
def q_lo_5 : List Nat := [41, 62, 111, 86, 62, 93, 68, 43, 0, 21, 0, 62, 0, 100, 75, 0]
def q_lo_6 : List Nat := [47, 22, 100, 0, 98, 75, 53, 28, 0, 98, 150, 128, 42, 20, 150, 128]
def q_lo_7 : List Nat := [128, 0, 128, 106, 0, 90, 65, 23, 0, 41, 21, 0, 0, 41, 62, 0]
def q_lo_8 : List Nat := [84, 62, 155, 0, 134, 20, 111, 20, 0, 25, 0, 184, 41, 21, 0, 0]
def q_lo_9 : List Nat := [0, 98, 41, 0, 0, 74, 0, 21, 0, 0, 22, 0, 46, 22, 22, 21]
def q_lo_10 : List Nat := [68, 45, 22, 0, 0, 46, 21, 119, 74, 95, 48, 0, 164, 144, 22, 47]
def q_lo_11 : List Nat := [21, 70, 48, 21, 21, 0, 21, 22, 20, 0, 23, 0, 25, 46, 25, 70]
def q_lo_12 : List Nat := [45, 21, 90, 25, 45, 22, 22, 22, 69, 0, 22, 46, 48, 23, 93, 69]
def q_lo_13 : List Nat := [0, 44, 21, 93, 164, 121, 97, 49, 22, 0, 25, 75, 121, 207, 184, 46]
def q_lo_14 : List Nat := [207, 184, 205, 184, 47, 205, 71, 0, 46, 66, 47, 21, 92, 21, 70, 0]
def q_lo_all : List (List Nat) := [q_lo_0, q_lo_1, q_lo_2, q_lo_3, q_lo_4, q_lo_5, q_lo_6, q_lo_7, q_lo_8, q_lo_9, q_lo_10, q_lo_11, q_lo_12, q_lo_13, q_lo_14]
def q_lo (m : Nat) : Nat := match q_lo_all[m / 16]? with
  | some l => (match l[m % 16]? with
    | some c => c
    | none => 0)
  | none => 0
def q_pcs_0 : List (List Nat) := [qp_Law_law, qp_GC_init, qp_J_init, qp_Re_init, qp_Ta_init, qp_Di_init, qp_Ce_init, qp_Co_init, qp_Ne_init, qp_Pa_init, qp_Mo_init, qp_Cs_init, qp_Sh_init, qp_GC_feed, qp_Ta_append, qp_GC_end]
def q_pcs_1 : List (List Nat) := [qp_GC_cell, qp_Re_read, qp_Re_skipBlanks, qp_Ta_at, qp_Ta_isSmallLetter, qp_Ta_fourBytes, qp_Re_readNumbers, qp_Re_readNumber, qp_Ta_isDigit, qp_Re_fault, qp_Re_faultOfNumbers, qp_Se_only, qp_Re_readFilling, qp_Re_readPath, qp_Re_isLetterOfPath, qp_Di_clear]
def q_pcs_2 : List (List Nat) := [qp_J_fill, qp_Se_holds, qp_Re_readRow, qp_Di_isBox, qp_Di_setPlus, qp_Re_faultOfBoxes, qp_Di_breaksLe, qp_Di_isPlus, qp_Di_imageOf, qp_Di_nextColumn, qp_Di_rowAbove, qp_Re_readSets, qp_Re_readSet, qp_Re_faultOfSets, qp_Se_upTo, qp_J_bitCount]
def q_pcs_3 : List (List Nat) := [qp_Se_canStandBehind, qp_Re_imageBetween, qp_Se_least, qp_J_numberOfTrailingZeros, qp_GC_become, qp_Pa_record, qp_J_min, qp_Co_copyFrom, qp_Ce_take, qp_Ce_layNecklace, qp_Ce_layBases, qp_Ce_isSet, qp_Ce_areLabels, qp_Ce_isAtLeastNecklace, qp_Se_atLeast, qp_Ce_inversionsOf]
def q_pcs_4 : List (List Nat) := [qp_Di_drawFor, qp_Co_layFor, qp_Co_add, qp_Co_contains, qp_Co_crossesNone, qp_Se_crossing, qp_GC_f, qp_Ce_isLabel, qp_GC_neck, qp_GC_box, qp_GC_bases, qp_GC_basis, qp_GC_rank, qp_Ce_rankOf, qp_J_max, qp_GC_exchange]
def q_pcs_5 : List (List Nat) := [qp_Ce_isBasis, qp_Ce_leastExchange, qp_GC_part, qp_Ce_hangingTogether, qp_Ce_exchangeable, qp_GC_ways, qp_Di_waysTo, qp_Di_countPathsTo, qp_J_fill2, qp_Di_expandRow, qp_J_abs, qp_GC_cross, qp_GC_cluster, qp_GC_square, qp_Co_movedFrom, qp_Ce_isOfNecklace]
def q_pcs_6 : List (List Nat) := [qp_Co_movedAt, qp_Co_hasCorners, qp_GC_move, qp_Co_remove, qp_GC_lower, qp_GC_valueOfNext, qp_Ne_howManyFrom, qp_Ne_seek, qp_Ne_swap, qp_GC_upper, qp_GC_down, qp_GC_stepToNext, qp_Ce_dimension, qp_Di_plusCount, qp_GC_up, qp_GC_turn]
def q_pcs_7 : List (List Nat) := [qp_GC_mirror, qp_Ce_origin, qp_GC_complement, qp_GC_undo, qp_Pa_takeLast, qp_GC_howMany, qp_Cs_cells, qp_Cs_clearThen, qp_Cs_flip, qp_Cs_endLowestRow, qp_J_highestOneBit, qp_J_numberOfLeadingZeros, qp_Cs_pass, qp_Cs_addColumn, qp_GC_keep, qp_Sh_put]
def q_pcs_8 : List (List Nat) := [qp_GC_has, qp_Sh_isInClosureOf, qp_GC_count, qp_GC_filledShelves, qp_GC_countOfLive, qp_Ce_fixedLabels, qp_Ce_partCount, qp_Md_init, qp_Md_feed, qp_Md_end, qp_Md_isIn, qp_Md_cell, qp_Md_wordHere, qp_Md_next, qp_Md_byteAt, qp_Md_isLetter]
def q_pcs_9 : List (List Nat) := [qp_Md_fails, qp_Md_readsRest, qp_Md_readsPerm, qp_Md_isDigit, qp_Md_isLikeAhead, qp_Md_readsFill, qp_Md_with, qp_Md_laysShape, qp_Md_has, qp_Md_isBox, qp_Md_isLe, qp_Md_isPlus, qp_Md_goesFrom, qp_Md_rowAbove, qp_Md_columnLeft, qp_Md_outAt]
def q_pcs_10 : List (List Nat) := [qp_Md_readsNeck, qp_Md_isNeck, qp_Md_canStand, qp_Md_without, qp_Md_sizeOf, qp_Md_laysByNeck, qp_Md_stepOf, qp_Md_laysDiagram, qp_Md_isOwnDiagram, qp_Md_searchesDiagram, qp_Md_isAllLe, qp_Md_keepsAct, qp_Md_changes, qp_Md_follows, qp_Md_laysNeck, qp_Md_laysBases]
def q_pcs_11 : List (List Nat) := [qp_Md_isAtLeast, qp_Md_laysCluster, qp_Md_crossesNone, qp_Md_doCross, qp_Md_f, qp_Md_isLabel, qp_Md_neck, qp_Md_box, qp_Md_bases, qp_Md_isCell, qp_Md_basis, qp_Md_kthOf, qp_Md_rank, qp_Md_exchange, qp_Md_isBasisHere, qp_Md_part]
def q_pcs_12 : List (List Nat) := [qp_Md_laysParts, qp_Md_hang, qp_Md_ways, qp_Md_isSet, qp_Md_laysPaths, qp_Md_plusToRight, qp_Md_plusAbove, qp_Md_endsAt, qp_Md_determinant, qp_Md_of, qp_Md_two, qp_Md_three, qp_Md_cross, qp_Md_cluster, qp_Md_square, qp_Md_squareAt]
def q_pcs_13 : List (List Nat) := [qp_Md_isOfNeck, qp_Md_squareBy, qp_Md_isThere, qp_Md_move, qp_Md_undo, qp_Md_lower, qp_Md_toldNext, qp_Md_nextOnes, qp_Md_inversionsOf, qp_Md_at, qp_Md_swaps, qp_Md_isNext, qp_Md_upper, qp_Md_down, qp_Md_goes, qp_Md_dim]
def q_pcs_14 : List (List Nat) := [qp_Md_up, qp_Md_turn, qp_Md_mirror, qp_Md_becomesNew, qp_Md_leastFrom, qp_Md_complement, qp_Md_howMany, qp_Md_isFree, qp_Md_isOne, qp_Md_keep, qp_Md_has2, qp_Md_laysItsNeck, qp_Md_count, qp_Md_loops, qp_Md_parts, qp_Md_kept]
def q_pcs_all : List (List (List Nat)) := [q_pcs_0, q_pcs_1, q_pcs_2, q_pcs_3, q_pcs_4, q_pcs_5, q_pcs_6, q_pcs_7, q_pcs_8, q_pcs_9, q_pcs_10, q_pcs_11, q_pcs_12, q_pcs_13, q_pcs_14]
def q_pcs (m : Nat) : List Nat := match q_pcs_all[m / 16]? with
  | some l => (match l[m % 16]? with
    | some c => c
    | none => [])
  | none => []
def q_hints_0 : List (List (List Nat)) := [qh_Law_law, qh_GC_init, qh_J_init, qh_Re_init, qh_Ta_init, qh_Di_init, qh_Ce_init, qh_Co_init, qh_Ne_init, qh_Pa_init, qh_Mo_init, qh_Cs_init, qh_Sh_init, qh_GC_feed, qh_Ta_append, qh_GC_end]
def q_hints_1 : List (List (List Nat)) := [qh_GC_cell, qh_Re_read, qh_Re_skipBlanks, qh_Ta_at, qh_Ta_isSmallLetter, qh_Ta_fourBytes, qh_Re_readNumbers, qh_Re_readNumber, qh_Ta_isDigit, qh_Re_fault, qh_Re_faultOfNumbers, qh_Se_only, qh_Re_readFilling, qh_Re_readPath, qh_Re_isLetterOfPath, qh_Di_clear]
def q_hints_2 : List (List (List Nat)) := [qh_J_fill, qh_Se_holds, qh_Re_readRow, qh_Di_isBox, qh_Di_setPlus, qh_Re_faultOfBoxes, qh_Di_breaksLe, qh_Di_isPlus, qh_Di_imageOf, qh_Di_nextColumn, qh_Di_rowAbove, qh_Re_readSets, qh_Re_readSet, qh_Re_faultOfSets, qh_Se_upTo, qh_J_bitCount]
def q_hints_3 : List (List (List Nat)) := [qh_Se_canStandBehind, qh_Re_imageBetween, qh_Se_least, qh_J_numberOfTrailingZeros, qh_GC_become, qh_Pa_record, qh_J_min, qh_Co_copyFrom, qh_Ce_take, qh_Ce_layNecklace, qh_Ce_layBases, qh_Ce_isSet, qh_Ce_areLabels, qh_Ce_isAtLeastNecklace, qh_Se_atLeast, qh_Ce_inversionsOf]
def q_hints_4 : List (List (List Nat)) := [qh_Di_drawFor, qh_Co_layFor, qh_Co_add, qh_Co_contains, qh_Co_crossesNone, qh_Se_crossing, qh_GC_f, qh_Ce_isLabel, qh_GC_neck, qh_GC_box, qh_GC_bases, qh_GC_basis, qh_GC_rank, qh_Ce_rankOf, qh_J_max, qh_GC_exchange]
def q_hints_5 : List (List (List Nat)) := [qh_Ce_isBasis, qh_Ce_leastExchange, qh_GC_part, qh_Ce_hangingTogether, qh_Ce_exchangeable, qh_GC_ways, qh_Di_waysTo, qh_Di_countPathsTo, qh_J_fill2, qh_Di_expandRow, qh_J_abs, qh_GC_cross, qh_GC_cluster, qh_GC_square, qh_Co_movedFrom, qh_Ce_isOfNecklace]
def q_hints_6 : List (List (List Nat)) := [qh_Co_movedAt, qh_Co_hasCorners, qh_GC_move, qh_Co_remove, qh_GC_lower, qh_GC_valueOfNext, qh_Ne_howManyFrom, qh_Ne_seek, qh_Ne_swap, qh_GC_upper, qh_GC_down, qh_GC_stepToNext, qh_Ce_dimension, qh_Di_plusCount, qh_GC_up, qh_GC_turn]
def q_hints_7 : List (List (List Nat)) := [qh_GC_mirror, qh_Ce_origin, qh_GC_complement, qh_GC_undo, qh_Pa_takeLast, qh_GC_howMany, qh_Cs_cells, qh_Cs_clearThen, qh_Cs_flip, qh_Cs_endLowestRow, qh_J_highestOneBit, qh_J_numberOfLeadingZeros, qh_Cs_pass, qh_Cs_addColumn, qh_GC_keep, qh_Sh_put]
def q_hints_8 : List (List (List Nat)) := [qh_GC_has, qh_Sh_isInClosureOf, qh_GC_count, qh_GC_filledShelves, qh_GC_countOfLive, qh_Ce_fixedLabels, qh_Ce_partCount, qh_Md_init, qh_Md_feed, qh_Md_end, qh_Md_isIn, qh_Md_cell, qh_Md_wordHere, qh_Md_next, qh_Md_byteAt, qh_Md_isLetter]
def q_hints_9 : List (List (List Nat)) := [qh_Md_fails, qh_Md_readsRest, qh_Md_readsPerm, qh_Md_isDigit, qh_Md_isLikeAhead, qh_Md_readsFill, qh_Md_with, qh_Md_laysShape, qh_Md_has, qh_Md_isBox, qh_Md_isLe, qh_Md_isPlus, qh_Md_goesFrom, qh_Md_rowAbove, qh_Md_columnLeft, qh_Md_outAt]
def q_hints_10 : List (List (List Nat)) := [qh_Md_readsNeck, qh_Md_isNeck, qh_Md_canStand, qh_Md_without, qh_Md_sizeOf, qh_Md_laysByNeck, qh_Md_stepOf, qh_Md_laysDiagram, qh_Md_isOwnDiagram, qh_Md_searchesDiagram, qh_Md_isAllLe, qh_Md_keepsAct, qh_Md_changes, qh_Md_follows, qh_Md_laysNeck, qh_Md_laysBases]
def q_hints_11 : List (List (List Nat)) := [qh_Md_isAtLeast, qh_Md_laysCluster, qh_Md_crossesNone, qh_Md_doCross, qh_Md_f, qh_Md_isLabel, qh_Md_neck, qh_Md_box, qh_Md_bases, qh_Md_isCell, qh_Md_basis, qh_Md_kthOf, qh_Md_rank, qh_Md_exchange, qh_Md_isBasisHere, qh_Md_part]
def q_hints_12 : List (List (List Nat)) := [qh_Md_laysParts, qh_Md_hang, qh_Md_ways, qh_Md_isSet, qh_Md_laysPaths, qh_Md_plusToRight, qh_Md_plusAbove, qh_Md_endsAt, qh_Md_determinant, qh_Md_of, qh_Md_two, qh_Md_three, qh_Md_cross, qh_Md_cluster, qh_Md_square, qh_Md_squareAt]
def q_hints_13 : List (List (List Nat)) := [qh_Md_isOfNeck, qh_Md_squareBy, qh_Md_isThere, qh_Md_move, qh_Md_undo, qh_Md_lower, qh_Md_toldNext, qh_Md_nextOnes, qh_Md_inversionsOf, qh_Md_at, qh_Md_swaps, qh_Md_isNext, qh_Md_upper, qh_Md_down, qh_Md_goes, qh_Md_dim]
def q_hints_14 : List (List (List Nat)) := [qh_Md_up, qh_Md_turn, qh_Md_mirror, qh_Md_becomesNew, qh_Md_leastFrom, qh_Md_complement, qh_Md_howMany, qh_Md_isFree, qh_Md_isOne, qh_Md_keep, qh_Md_has2, qh_Md_laysItsNeck, qh_Md_count, qh_Md_loops, qh_Md_parts, qh_Md_kept]
def q_hints_all : List (List (List (List Nat))) := [q_hints_0, q_hints_1, q_hints_2, q_hints_3, q_hints_4, q_hints_5, q_hints_6, q_hints_7, q_hints_8, q_hints_9, q_hints_10, q_hints_11, q_hints_12, q_hints_13, q_hints_14]
def q_hints (m : Nat) : List (List Nat) := match q_hints_all[m / 16]? with
  | some l => (match l[m % 16]? with
    | some c => c
    | none => [])
  | none => []
def q_np_0 : List Nat := [1, 0, 0, 0, 0, 0, 0, 0, 0, 0, 0, 0, 0, 5, 1, 1]
def q_np_1 : List Nat := [0, 0, 0, 1, 1, 1, 0, 1, 1, 2, 0, 1, 0, 0, 0, 2]
def q_np_2 : List Nat := [2, 2, 1, 2, 2, 0, 2, 2, 1, 1, 1, 0, 1, 0, 1, 1]
def q_np_3 : List Nat := [3, 3, 1, 1, 2, 2, 2, 1, 2, 0, 0, 1, 1, 1, 4, 2]
def q_np_4 : List Nat := [1, 1, 1, 1, 2, 3, 1, 1, 1, 2, 0, 1, 1, 1, 2, 3]
def q_np_5 : List Nat := [1, 3, 1, 1, 1, 1, 1, 1, 2, 3, 1, 2, 1, 1, 2, 1]
def q_np_6 : List Nat := [4, 5, 1, 1, 2, 3, 2, 3, 3, 2, 1, 2, 0, 0, 1, 0]
def q_np_7 : List Nat := [0, 1, 0, 0, 0, 3, 3, 0, 0, 1, 1, 1, 3, 1, 1, 1]
def q_np_8 : List Nat := [1, 1, 1, 0, 1, 1, 0, 0, 5, 1, 3, 0, 0, 0, 1, 1]
def q_np_9 : List Nat := [2, 1, 0, 1, 1, 0, 2, 2, 2, 2, 3, 2, 3, 2, 3, 4]
def q_np_10 : List Nat := [0, 0, 3, 2, 1, 0, 4, 0, 0, 0, 0, 0, 0, 0, 0, 0]
def q_np_11 : List Nat := [3, 0, 1, 2, 1, 1, 1, 2, 0, 0, 1, 2, 1, 3, 1, 1]
def q_np_12 : List Nat := [0, 2, 1, 1, 1, 2, 2, 1, 1, 2, 4, 3, 2, 1, 1, 1]
def q_np_13 : List Nat := [1, 3, 3, 1, 0, 2, 3, 2, 2, 3, 2, 2, 2, 1, 2, 0]
def q_np_14 : List Nat := [1, 0, 0, 0, 1, 0, 3, 2, 3, 1, 1, 1, 1, 1, 0, 0]
def q_np_all : List (List Nat) := [q_np_0, q_np_1, q_np_2, q_np_3, q_np_4, q_np_5, q_np_6, q_np_7, q_np_8, q_np_9, q_np_10, q_np_11, q_np_12, q_np_13, q_np_14]
def q_np (m : Nat) : Nat := match q_np_all[m / 16]? with
  | some l => (match l[m % 16]? with
    | some c => c
    | none => 0)
  | none => 0
def q_mh_0 : List (List Nat) := [[], [1022, 1001], [], [1030, 1002], [1036, 1003], [1052, 1004], [1115, 1005], [1176, 1006], [1191, 1007], [1205, 1008], [1212, 1009], [2006, 1010], [2022, 1011], [2066, 1001], [2070, 1003], [2074, 1001]]
def q_mh_1 : List (List Nat) := [[2078, 1001], [2082, 1002], [2086, 1002], [2090, 1003], [2094, 1003], [2099, 1003], [2103, 1002], [2107, 1002], [2111, 1003], [2115, 1002], [2119, 1002], [2122, 1013], [2126, 1002], [2130, 1002], [2134, 1002], [2138, 1004]]
def q_mh_2 : List (List Nat) := [[2141, 1014], [2144, 1013], [2148, 1002], [2152, 1004], [2157, 1004], [2162, 1002], [2166, 1004], [2170, 1004], [2174, 1004], [2178, 1004], [2182, 1004], [2186, 1002], [2190, 1002], [2194, 1002], [2197, 1013], [2200, 1016]]
def q_mh_3 : List (List Nat) := [[2206, 1013], [2213, 1002], [2216, 1013], [2219, 1016], [2224, 1001], [2228, 1008], [2231, 1017], [2235, 1006], [2239, 1005], [3003, 1005], [3009, 1005], [3013, 1005], [3017, 1005], [3022, 1005], [3025, 1013], [3028, 1005]]
def q_mh_4 : List (List Nat) := [[3032, 1004], [3039, 1006], [3043, 1006], [3047, 1006], [3051, 1006], [3054, 1013], [3058, 1001], [3062, 1005], [3066, 1001], [3070, 1001], [3076, 1001], [3080, 1001], [3084, 1001], [3089, 1005], [3092, 1017], [3096, 1001]]
def q_mh_5 : List (List Nat) := [[3100, 1005], [3105, 1005], [3111, 1001], [3115, 1005], [3120, 1005], [3125, 1001], [3130, 1004], [3134, 1004], [3137, 1014], [3141, 1004], [3145, 1017], [3150, 1001], [3155, 1001], [3159, 1001], [3163, 1006], [3167, 1005]]
def q_mh_6 : List (List Nat) := [[3172, 1006], [3177, 1006], [3181, 1001], [3185, 1006], [3190, 1001], [3194, 1001], [3198, 1007], [3202, 1007], [3206, 1007], [3212, 1001], [3216, 1001], [3220, 1001], [3224, 1005], [3228, 1004], [3232, 1001], [3236, 1001]]
def q_mh_7 : List (List Nat) := [[4000, 1001], [4004, 1005], [4008, 1001], [4012, 1001], [4016, 1008], [4021, 1001], [4026, 1010], [4030, 1010], [4035, 1010], [4039, 1010], [4042, 1016], [4046, 1016], [4050, 1010], [4054, 1010], [4059, 1001], [4063, 1011]]
def q_mh_8 : List (List Nat) := [[4067, 1001], [4071, 1011], [4076, 1001], [4080, 1001], [4084, 1001], [4088, 1005], [4092, 1005], [4098, 1012], [4189, 1012], [4193, 1012], [4196, 1012], [4200, 1012], [4204, 1012], [4208, 1012], [4212, 1012], [4215, 1012]]
def q_mh_9 : List (List Nat) := [[4219, 1012], [4223, 1012], [4227, 1012], [4230, 1012], [4235, 1012], [4239, 1012], [5002, 1012], [5006, 1012], [5009, 1012], [5013, 1012], [5017, 1012], [5021, 1012], [5025, 1012], [5029, 1012], [5033, 1012], [5036, 1012]]
def q_mh_10 : List (List Nat) := [[5040, 1012], [5044, 1012], [5047, 1012], [5050, 1012], [5053, 1012], [5057, 1012], [5060, 1012], [5064, 1012], [5068, 1012], [5072, 1012], [5076, 1012], [5080, 1012], [5084, 1012], [5088, 1012], [5092, 1012], [5096, 1012]]
def q_mh_11 : List (List Nat) := [[5100, 1012], [5104, 1012], [5108, 1012], [5112, 1012], [5116, 1012], [5120, 1012], [5124, 1012], [5128, 1012], [5132, 1012], [5136, 1012], [5140, 1012], [5143, 1012], [5147, 1012], [5151, 1012], [5155, 1012], [5160, 1012]]
def q_mh_12 : List (List Nat) := [[5164, 1012], [5168, 1012], [5172, 1012], [5176, 1012], [5181, 1012], [5185, 1012], [5189, 1012], [5193, 1012], [5197, 1012], [5201, 1012], [5205, 1012], [5209, 1012], [5213, 1012], [5217, 1012], [5221, 1012], [5225, 1012]]
def q_mh_13 : List (List Nat) := [[5229, 1012], [5233, 1012], [5237, 1012], [6001, 1012], [6005, 1012], [6009, 1012], [6013, 1012], [6017, 1012], [6020, 1012], [6023, 1012], [6027, 1012], [6031, 1012], [6035, 1012], [6039, 1012], [6043, 1012], [6047, 1012]]
def q_mh_14 : List (List Nat) := [[6051, 1012], [6055, 1012], [6059, 1012], [6063, 1012], [6067, 1012], [6071, 1012], [6075, 1012], [6081, 1012], [6085, 1012], [6089, 1012], [6094, 1012], [6098, 1012], [6102, 1012], [6107, 1012], [6111, 1012], [6115, 1012]]
def q_mh_all : List (List (List Nat)) := [q_mh_0, q_mh_1, q_mh_2, q_mh_3, q_mh_4, q_mh_5, q_mh_6, q_mh_7, q_mh_8, q_mh_9, q_mh_10, q_mh_11, q_mh_12, q_mh_13, q_mh_14]
def q_mh (m : Nat) : List Nat := match q_mh_all[m / 16]? with
  | some l => (match l[m % 16]? with
    | some c => c
    | none => [])
  | none => []
end
section
/-! each instruction of the tables against the bytes and the words, by program -/
def q_seg (k : Nat) : List Cond := match k with
  | 0 => k2_sels lw_privs
  | 1 => tables_1_1
  | 2 => tables_1_2
  | 3 => tables_1_3
  | 4 => tables_1_4
  | 5 => tables_1_5
  | 6 => tables_1_6
  | _ => []
def q_at (i : Nat) (w : Cond) : Bool := decide ((q_seg (i / 1000))[i % 1000]? = some w)
def q_tg (pcs : List Nat) (pc : Nat) (off : Int) (a : Nat) : Bool := match pcs[a]? with
  | some t => decide ((pc : Int) + off = (t : Int))
  | none => false
def q_tsw (pcs : List Nat) (pc : Nat) (lo : Int) (offs : List Int) (ts : List (Int × Nat)) : Bool := match offs, ts with
  | [], [] => true
  | o :: os, (k, a) :: r => decide (k = lo) && (q_tg pcs pc o a && q_tsw pcs pc (lo + 1) os r)
  | _, _ => false
def q_lsw (pcs : List Nat) (pc : Nat) (ps : List (Int × Int)) (ts : List (Int × Nat)) : Bool := match ps, ts with
  | [], [] => true
  | (k0, o) :: os, (k, a) :: r => decide (k = k0) && (q_tg pcs pc o a && q_lsw pcs pc os r)
  | _, _ => false
/-- an instruction's length, where it is always the same (0: a switch) -/
def q_il (i : Instr) : Nat := match i with
  | .bipush _ => 2 | .ldc _ => 2 | .iload _ => 2 | .lload _ => 2 | .aload _ => 2 | .istore _ => 2 | .lstore _ => 2 | .astore _ => 2 | .newarray _ => 2
  | .sipush _ => 3 | .ldc_w _ => 3 | .ldc2_w _ => 3 | .iinc _ _ => 3 | .ifCond _ _ => 3 | .if_icmp _ _ => 3 | .goto _ => 3 | .getfield _ => 3 | .putfield _ => 3 | .invokevirtual _ => 3 | .invokespecial _ => 3 | .invokestatic _ => 3 | .new _ => 3 | .anewarray _ => 3
  | .multianewarray _ _ => 4
  | .tableswitch _ _ _ _ => 0 | .lookupswitch _ _ => 0
  | _ => 1
def q_fld (own : String) (k a b c h : Nat) (put : Bool) (nm : String) : Bool := match q_cls[a]? with
  | some (C, T, N) => decide (b < N) && (q_at h (.fieldLink own k C (T b).2.1 (T b).2.2.1) && (decide ((T b).1 = C) && (decide ((q_ft a)[b]? = some c) && (!put || (!(T b).2.2.2 || (decide (nm = "<init>") && decide (C = own)))))))
  | none => false
def q_room (mi a : Nat) : Bool := decide (q_fr a + 1 ≤ q_fr mi) && decide (8 + (q_ml a + 11) + q_lo a ≤ q_lo mi)
/-- of an instruction at pc of method mi -/
def q_ckI (mi : Nat) (pcs : List Nat) (pc : Nat) (op : qI) (h : List Nat) : Bool := match op with
  | (i, a, b, c, z, ts) => match i with
    | .iconst n => decide (Int32.ofInt n = Int32.ofInt z) && decide ((Int32.ofInt z).toInt = z)
    | .bipush n => decide ((Int8.ofInt n).toInt32 = Int32.ofInt z) && decide ((Int32.ofInt z).toInt = z)
    | .sipush n => decide ((Int16.ofInt n).toInt32 = Int32.ofInt z) && decide ((Int32.ofInt z).toInt = z)
    | .ldc k => q_at (h.getD 0 0) (.constant (q_y mi).cls k (Int32.ofInt z)) && decide ((Int32.ofInt z).toInt = z)
    | .ldc_w k => q_at (h.getD 0 0) (.constant (q_y mi).cls k (Int32.ofInt z)) && decide ((Int32.ofInt z).toInt = z)
    | .lconst n => decide (Int64.ofNat (n : Nat) = Int64.ofInt z)
    | .ldc2_w k => q_at (h.getD 0 0) (.constantLong (q_y mi).cls k (Int64.ofInt z))
    | .ifCond _ o => q_tg pcs pc o a
    | .if_icmp _ o => q_tg pcs pc o a
    | .goto o => q_tg pcs pc o a
    | .tableswitch d lo hi offs => q_tg pcs pc d a && (q_tsw pcs pc lo offs.toList ts && decide (hi + 1 = lo + (offs.size : Int)))
    | .lookupswitch d ps => q_tg pcs pc d a && (q_lsw pcs pc ps.toList ts && (ps.toList.zip (ps.toList.drop 1)).all (fun (a, next) => a.1 < next.1))
    | .getfield k => q_fld (q_y mi).cls k a b c (h.getD 0 0) false ""
    | .putfield k => q_fld (q_y mi).cls k a b c (h.getD 0 0) true (q_y mi).name
    | .invokevirtual k => decide (a ≠ 0) && (q_at (h.getD 0 0) (.methodLink (q_y mi).cls k (q_y a)) && (q_at (h.getD 1 0) (.instanceMethod (q_y a)) && (q_at (h.getD 2 0) (.selects (q_y a).cls (q_y a) (q_y a)) && (decide (b = q_np a + 1) && (q_room mi a && (match c with
      | 0 => false
      | c + 1 => (match q_cls[c]? with
        | some (C, _, _) => decide ((q_y a).cls = C)
        | none => false)))))))
    | .invokestatic k => (match c with
      | 0 => decide (a ≠ 0) && (q_at (h.getD 0 0) (.methodLink (q_y mi).cls k (q_y a)) && (q_at (h.getD 1 0) (.static (q_y a)) && (decide (b = q_np a) && q_room mi a)))
      | 91 => q_at (h.getD 0 0) (.methodLink (q_y mi).cls k Lib.Math.max.name) && (q_at (h.getD 1 0) (.static Lib.Math.max.name) && (q_at (h.getD 2 0) (.initialized "java/lang/Math") && (q_at (h.getD 3 0) (.code Lib.Math.max.name Lib.Math.max.code 2 (some .int)) && (decide (b = 2) && decide (1 ≤ q_fr mi ∧ 21 ≤ q_lo mi)))))
      | 92 => q_at (h.getD 0 0) (.methodLink (q_y mi).cls k Lib.Math.min.name) && (q_at (h.getD 1 0) (.static Lib.Math.min.name) && (q_at (h.getD 2 0) (.initialized "java/lang/Math") && (q_at (h.getD 3 0) (.code Lib.Math.min.name Lib.Math.min.code 2 (some .int)) && (decide (b = 2) && decide (1 ≤ q_fr mi ∧ 21 ≤ q_lo mi)))))
      | 93 => q_at (h.getD 0 0) (.methodLink (q_y mi).cls k Lib.MathLoose.abs_long.x) && (q_at (h.getD 1 0) (.static Lib.MathLoose.abs_long.x) && (q_at (h.getD 2 0) (.initialized "java/lang/Math") && (q_at (h.getD 3 0) (.code Lib.MathLoose.abs_long.x Lib.MathLoose.abs_long.code 2 (some .long)) && (decide (b = 1) && decide (1 ≤ q_fr mi ∧ 21 ≤ q_lo mi)))))
      | _ => false)
    | .invokespecial k => (match Nat.beq c 98 with
      | true => decide (a = 2) && (q_at (h.getD 0 0) (.methodLink (q_y mi).cls k Lib.objectInit) && (q_at (h.getD 1 0) (.instanceMethod Lib.objectInit) && (q_at 1025 (.code Lib.objectInit ⟨#[0xb1]⟩ 1 none) && decide (1 ≤ q_fr mi ∧ 20 ≤ q_lo mi))))
      | false => decide (a ≠ 0) && (q_at (h.getD 1 0) (.instanceMethod (q_y a)) && (decide ((q_y a).name = "<init>") && (decide (b = q_np a + 1) && (q_room mi a && (decide (q_rtT a = none) && (decide (c ≠ 0) && (match h.getD 2 0 with
        | 0 => q_at (h.getD 0 0) (.methodLink (q_y mi).cls k (q_y a))
        | _ => q_at (h.getD 0 0) (.methodLinkNest (q_y mi).cls k (q_y a) "GrassCells")))))))))
    | .ireturn => (match a with
      | 0 => decide (q_rtT mi = some .int)
      | _ => decide (q_rtT mi = some .boolean))
    | .lreturn => decide (q_rtT mi = some .long)
    | .areturn => (match q_rtT mi with
      | some (.object _) => true
      | _ => false)
    | .return_ => decide (q_rtT mi = none)
    | .new k => (match q_cls[a]? with
      | some (C, _, N) => decide (b = N) && (q_at (h.getD 0 0) (.classLink (q_y mi).cls k C) && (q_at (h.getD 1 0) (.instantiable C N) && q_at (h.getD 2 0) (.initialized C)))
      | none => false)
    | .newarray t => q_at (h.getD 0 0) (.arrayClass (newarray.typeOf t)) && (match t with
      | .int => decide (a = 1)
      | .byte => decide (a = 2)
      | .boolean => decide (a = 3)
      | .long => decide (a = 4)
      | _ => false)
    | .anewarray k => (match q_cls[a - 2]? with
      | some (C, _, _) => decide (2 ≤ a) && ((decide (a = 6) || decide (a = 10)) && (q_at (h.getD 0 0) (.classLink (q_y mi).cls k C) && q_at (h.getD 1 0) (.arrayOver (.object C))))
      | none => false)
    | .multianewarray k d => decide (d = 2) && (match a with
      | 0 => decide (b = 1) && (q_at (h.getD 0 0) (.classLink (q_y mi).cls k ("[" ++ (FieldType.array .int).toString)) && (q_at (h.getD 1 0) (.arrayOver (.array .int)) && q_at (h.getD 2 0) (.arrayClass .int)))
      | 1 => decide (b = 4) && (q_at (h.getD 0 0) (.classLink (q_y mi).cls k ("[" ++ (FieldType.array .long).toString)) && (q_at (h.getD 1 0) (.arrayOver (.array .long)) && q_at (h.getD 2 0) (.arrayClass .long)))
      | _ => false)
    | _ => true
/-- the list of instructions from place k on -/
def q_ckL (mi : Nat) (pcs0 : List Nat) : List Nat → List qI → List (List Nat) → Bool
  | [], [], [] => true
  | pc :: pcs, op :: is, h :: hs => (match pcs with
      | pc' :: _ => decide (decode (q_cc mi) pc = .ok (op.1, pc' - pc)) && (decide (pc < pc') && (Nat.beq (q_il op.1) 0 || Nat.beq (q_il op.1) (pc' - pc)))
      | [] => decide (decode (q_cc mi) pc = .ok (op.1, q_il op.1)) && decide (0 < q_il op.1)) && (q_ckI mi pcs0 pc op h && q_ckL mi pcs0 pcs is hs)
  | _, _, _ => false
def q_ckM (mi : Nat) : Bool := q_ckL mi (q_pcs mi) (q_pcs mi) (q_code mi) (q_hints mi) && decide ((q_pcs mi)[0]? = some 0)
def q_ckW (mi : Nat) : Bool := q_at ((q_mh mi).getD 0 0) (.code (q_y mi) (q_cc mi) (q_ml mi) (q_rtT mi)) && (q_at ((q_mh mi).getD 1 0) (.initialized (q_y mi).cls) && (decide ((q_y mi).cls ≠ "java/lang/invoke/MethodHandle" ∧ (q_y mi).cls ≠ "java/lang/invoke/VarHandle") && (decide ((parseMethodDescriptor (q_y mi).desc).map (fun d => d.parameters.length) = some (q_np mi)) && plainName (q_y mi).cls)))
/-- a stretch of the law's instructions -/
def q_ckC (a n : Nat) : Bool := q_ckL 0 (q_pcs 0) (((q_pcs 0).drop a).take n) (((q_code 0).drop a).take n) (((q_hints 0).drop a).take n)
theorem qk_M0 : ([1, 2, 3, 4, 5, 6, 7].all q_ckM) = true := by decide +kernel
theorem qk_W0 : ([1, 3, 4, 5, 6, 7].all q_ckW) = true := by decide +kernel
theorem qk_M1 : ([8, 9, 10, 11, 12, 13, 14, 15].all q_ckM) = true := by decide +kernel
theorem qk_W1 : ([8, 9, 10, 11, 12, 13, 14, 15].all q_ckW) = true := by decide +kernel
theorem qk_M2 : ([16, 17, 18, 19, 20, 21, 22, 23].all q_ckM) = true := by decide +kernel
theorem qk_W2 : ([16, 17, 18, 19, 20, 21, 22, 23].all q_ckW) = true := by decide +kernel
theorem qk_M3 : ([24, 25, 26, 27, 28, 29, 30, 31].all q_ckM) = true := by decide +kernel
theorem qk_W3 : ([24, 25, 26, 27, 28, 29, 30, 31].all q_ckW) = true := by decide +kernel
theorem qk_M4 : ([32, 33, 34, 35, 36, 37, 38, 39].all q_ckM) = true := by decide +kernel
theorem qk_W4 : ([32, 33, 34, 35, 36, 37, 38, 39].all q_ckW) = true := by decide +kernel
theorem qk_M5 : ([40, 41, 42, 43, 44, 45, 46, 47].all q_ckM) = true := by decide +kernel
theorem qk_W5 : ([40, 41, 42, 43, 44, 45, 46, 47].all q_ckW) = true := by decide +kernel
theorem qk_M6 : ([48, 49, 50, 51, 52, 53, 54, 55].all q_ckM) = true := by decide +kernel
theorem qk_W6 : ([48, 49, 50, 51, 52, 53, 55].all q_ckW) = true := by decide +kernel
theorem qk_M7 : ([56, 57, 58, 59, 60, 61, 62, 63].all q_ckM) = true := by decide +kernel
theorem qk_W7 : ([56, 57, 58, 59, 60, 61, 62, 63].all q_ckW) = true := by decide +kernel
theorem qk_M8 : ([64, 65, 66, 67, 68, 69, 70, 71].all q_ckM) = true := by decide +kernel
theorem qk_W8 : ([64, 65, 66, 67, 68, 69, 70, 71].all q_ckW) = true := by decide +kernel
theorem qk_M9 : ([72, 73, 74, 75, 76, 77, 78, 79].all q_ckM) = true := by decide +kernel
theorem qk_W9 : ([72, 73, 74, 75, 76, 77, 79].all q_ckW) = true := by decide +kernel
theorem qk_M10 : ([80, 81, 82, 83, 84, 85, 86, 87].all q_ckM) = true := by decide +kernel
theorem qk_W10 : ([80, 81, 82, 83, 84, 85, 86, 87].all q_ckW) = true := by decide +kernel
theorem qk_M11 : ([88, 89, 90, 91, 92, 93, 94, 95].all q_ckM) = true := by decide +kernel
theorem qk_W11 : ([88, 89, 91, 92, 93, 94, 95].all q_ckW) = true := by decide +kernel
theorem qk_M12 : ([96, 97, 98, 99, 100, 101, 102, 103].all q_ckM) = true := by decide +kernel
theorem qk_W12 : ([96, 97, 98, 99, 100, 101, 102, 103].all q_ckW) = true := by decide +kernel
theorem qk_M13 : ([104, 105, 106, 107, 108, 109, 110, 111].all q_ckM) = true := by decide +kernel
theorem qk_W13 : ([104, 105, 106, 107, 108, 109, 110, 111].all q_ckW) = true := by decide +kernel
theorem qk_M14 : ([112, 113, 114, 115, 116, 117, 118, 119].all q_ckM) = true := by decide +kernel
theorem qk_W14 : ([112, 113, 114, 115, 116, 117, 118, 119].all q_ckW) = true := by decide +kernel
theorem qk_M15 : ([120, 121, 122, 123, 124, 125, 126, 127].all q_ckM) = true := by decide +kernel
theorem qk_W15 : ([120, 121, 122, 123, 124, 125, 126, 127].all q_ckW) = true := by decide +kernel
theorem qk_M16 : ([128, 129, 130, 131, 132, 133, 134, 135].all q_ckM) = true := by decide +kernel
theorem qk_W16 : ([128, 129, 130, 131, 132, 133, 134, 135].all q_ckW) = true := by decide +kernel
theorem qk_M17 : ([136, 137, 138, 139, 140, 141, 142, 143].all q_ckM) = true := by decide +kernel
theorem qk_W17 : ([136, 137, 138, 139, 140, 141, 142, 143].all q_ckW) = true := by decide +kernel
theorem qk_M18 : ([144, 145, 146, 147, 148, 149, 150, 151].all q_ckM) = true := by decide +kernel
theorem qk_W18 : ([144, 145, 146, 147, 148, 149, 150, 151].all q_ckW) = true := by decide +kernel
theorem qk_M19 : ([152, 153, 154, 155, 156, 157, 158, 159].all q_ckM) = true := by decide +kernel
theorem qk_W19 : ([152, 153, 154, 155, 156, 157, 158, 159].all q_ckW) = true := by decide +kernel
theorem qk_M20 : ([160, 161, 162, 163, 164, 165, 166, 167].all q_ckM) = true := by decide +kernel
theorem qk_W20 : ([160, 161, 162, 163, 164, 165, 166, 167].all q_ckW) = true := by decide +kernel
theorem qk_M21 : ([168, 169, 170, 171, 172, 173, 174, 175].all q_ckM) = true := by decide +kernel
theorem qk_W21 : ([168, 169, 170, 171, 172, 173, 174, 175].all q_ckW) = true := by decide +kernel
theorem qk_M22 : ([176, 177, 178, 179, 180, 181, 182, 183].all q_ckM) = true := by decide +kernel
theorem qk_W22 : ([176, 177, 178, 179, 180, 181, 182, 183].all q_ckW) = true := by decide +kernel
theorem qk_M23 : ([184, 185, 186, 187, 188, 189, 190, 191].all q_ckM) = true := by decide +kernel
theorem qk_W23 : ([184, 185, 186, 187, 188, 189, 190, 191].all q_ckW) = true := by decide +kernel
theorem qk_M24 : ([192, 193, 194, 195, 196, 197, 198, 199].all q_ckM) = true := by decide +kernel
theorem qk_W24 : ([192, 193, 194, 195, 196, 197, 198, 199].all q_ckW) = true := by decide +kernel
theorem qk_M25 : ([200, 201, 202, 203, 204, 205, 206, 207].all q_ckM) = true := by decide +kernel
theorem qk_W25 : ([200, 201, 202, 203, 204, 205, 206, 207].all q_ckW) = true := by decide +kernel
theorem qk_M26 : ([208, 209, 210, 211, 212, 213, 214, 215].all q_ckM) = true := by decide +kernel
theorem qk_W26 : ([208, 209, 210, 211, 212, 213, 214, 215].all q_ckW) = true := by decide +kernel
theorem qk_M27 : ([216, 217, 218, 219, 220, 221, 222, 223].all q_ckM) = true := by decide +kernel
theorem qk_W27 : ([216, 217, 218, 219, 220, 221, 222, 223].all q_ckW) = true := by decide +kernel
theorem qk_M28 : ([224, 225, 226, 227, 228, 229, 230, 231].all q_ckM) = true := by decide +kernel
theorem qk_W28 : ([224, 225, 226, 227, 228, 229, 230, 231].all q_ckW) = true := by decide +kernel
theorem qk_M29 : ([232, 233, 234, 235, 236, 237, 238, 239].all q_ckM) = true := by decide +kernel
theorem qk_W29 : ([232, 233, 234, 235, 236, 237, 238, 239].all q_ckW) = true := by decide +kernel
end
section
/-! the law against its bytes, a stretch -/
theorem qk_C0 : q_ckC 0 49 = true := by decide +kernel
theorem qk_C48 : q_ckC 48 49 = true := by decide +kernel
theorem qk_C96 : q_ckC 96 49 = true := by decide +kernel
theorem qk_C144 : q_ckC 144 49 = true := by decide +kernel
end
section
/-! the law against its bytes, a stretch -/
theorem qk_C192 : q_ckC 192 49 = true := by decide +kernel
theorem qk_C240 : q_ckC 240 49 = true := by decide +kernel
theorem qk_C288 : q_ckC 288 49 = true := by decide +kernel
theorem qk_C336 : q_ckC 336 49 = true := by decide +kernel
end
section
/-! the law against its bytes, a stretch -/
theorem qk_C384 : q_ckC 384 49 = true := by decide +kernel
theorem qk_C432 : q_ckC 432 49 = true := by decide +kernel
theorem qk_C480 : q_ckC 480 49 = true := by decide +kernel
theorem qk_C528 : q_ckC 528 35 = true := by decide +kernel
end
section
/-! what the small machine's state is in the Statement's machine -/
def q_m (ad : qR → Nat) (v : qV) : Value := match v with
  | .inl x => .int (Int32.ofInt x)
  | .inr (.inl y) => .long y
  | .inr (.inr r) => .ref (ad r)
def q_can (x : Int) : Prop := (Int32.ofInt x).toInt = x
def q_old (rs : List qR) (r : qR) : Prop := r ∈ rs ∨ r = (1, 0)
def q_vok (rs : List qR) (v : qV) : Prop := match v with
  | .inl x => q_can x
  | .inr (.inl _) => True
  | .inr (.inr r) => q_old rs r
/-- a kind that stands in the tables -/
def q_kok (k : Nat × Nat) : Prop := (k.1 = 0 ∧ k.2 < 12) ∨ ((k.1 = 1 ∨ k.1 = 2 ∨ k.1 = 3 ∨ k.1 = 4 ∨ k.1 = 5 ∨ k.1 = 6 ∨ k.1 = 11 ∨ k.1 = 15) ∧ k.2 ≤ 1000)
def q_V (rs : List qR) (E : qE) (w : qW) : Prop :=
  (∀ r ∈ rs, ∃ kn, E.1 r = some kn ∧ q_kok kn) ∧ (∀ t i k, q_can (w.1 t i k)) ∧
  (∀ r ∈ rs, ∀ kn, E.1 r = some kn → ∀ k r', w.2.2 r.1 r.2 k = some r' → (5 ≤ kn.1 → k < kn.2) → r' ∈ rs) ∧
  (∀ j, (0, j) ∈ rs → j < E.2.1) ∧ (∀ j, E.2.1 ≤ j → ∀ k, w.1 0 j k = 0 ∧ w.2.1 0 j k = 0 ∧ w.2.2 0 j k = none) ∧
  (∀ kn, E.1 (1, 0) = some kn → kn.1 = 99) ∧ (∀ i, (1, i) ∉ rs) ∧ ∀ j, j < E.2.1 → (0, j) ∈ rs
def q_fv (w : qW) (ad : qR → Nat) (r : qR) (b c : Nat) : Value := match c with
  | 0 => .int (Int32.ofInt (w.1 r.1 r.2 b))
  | _ => va_rf ((w.2.2 r.1 r.2 b).map ad)
def q_flds (w : qW) (ad : qR → Nat) (r : qR) (c : Nat) : List Value := (q_ft c).zipIdx.map (fun q => q_fv w ad r q.2 q.1)
def q_cell (dA : Nat → ClassId) (env : qR → Option (Nat × Nat)) (w : qW) (ad : qR → Nat) (r : qR) : va_E := match env r with
  | some (k, n) => if k = 0 then .inr (n, q_flds w ad r n) else if k ≤ 3 then .inl (dA k, n, .inl (fun j => Int32.ofInt (w.1 r.1 r.2 j))) else if k = 4 then .inl (dA k, n, .inr (.inl (fun j => w.2.1 r.1 r.2 j))) else .inl (dA k, n, .inr (.inr (.inr (.inr (fun j => if j < n then (w.2.2 r.1 r.2 j).map ad else none)))))
  | none => .inr (0, [])
def q_ws (dA : Nat → ClassId) (env : qR → Option (Nat × Nat)) (w : qW) (ad : qR → Nat) (rs : List qR) : va_W := rs.map (fun r => (ad r, q_cell dA env w ad r))
def q_kty (k : Nat) : FieldType := match k with
  | 1 => .int
  | 2 => .byte
  | 3 => .boolean
  | 4 => .long
  | 5 => .array .int
  | 6 => .array .long
  | 11 => .object "GrassCells$Moment"
  | _ => .object "GrassCells$Shelf"
def q_tys (dA : Nat → ClassId) : List (ClassId × FieldType) := [(dA 1, .int), (dA 2, .byte), (dA 3, .boolean), (dA 4, .long), (dA 5, .array .int), (dA 6, .array .long), (dA 11, .object "GrassCells$Moment"), (dA 15, .object "GrassCells$Shelf")]
theorem q_tys_at (dA : Nat → ClassId) {k : Nat} (h : k = 1 ∨ k = 2 ∨ k = 3 ∨ k = 4 ∨ k = 5 ∨ k = 6 ∨ k = 11 ∨ k = 15) : ∃ t0 : Nat, (q_tys dA)[t0]? = some (dA k, q_kty k) := by
  rcases h with rfl | rfl | rfl | rfl | rfl | rfl | rfl | rfl
  · exact ⟨0, rfl⟩
  · exact ⟨1, rfl⟩
  · exact ⟨2, rfl⟩
  · exact ⟨3, rfl⟩
  · exact ⟨4, rfl⟩
  · exact ⟨5, rfl⟩
  · exact ⟨6, rfl⟩
  · exact ⟨7, rfl⟩
theorem q_ws_at {dA : Nat → ClassId} {env : qR → Option (Nat × Nat)} {w : qW} {ad : qR → Nat} {rs : List qR} {r : qR} (h : r ∈ rs) : ∃ q0 : Nat, rs[q0]? = some r ∧ (q_ws dA env w ad rs)[q0]? = some (ad r, q_cell dA env w ad r) := by
  obtain ⟨i, hi⟩ := List.getElem?_of_mem h
  exact ⟨i, hi, by unfold q_ws; rw [List.getElem?_map, hi]; rfl⟩
/-- a change of one cell -/
theorem q_ws_set {A : Nat → Prop} {dA : Nat → ClassId} {env : qR → Option (Nat × Nat)} {w w' : qW} {ad : qR → Nat} {rs : List qR} {r : qR} {q0 : Nat} {e : va_E} (hD : va_D A (q_ws dA env w ad rs)) (h0 : rs[q0]? = some r) (he : e = q_cell dA env w' ad r) (ho : ∀ r', r' ≠ r → q_cell dA env w' ad r' = q_cell dA env w ad r') : (q_ws dA env w ad rs).set q0 (ad r, e) = q_ws dA env w' ad rs := by
  subst he
  have hinj : ∀ i, rs[i]? = some r → i = q0 := by
    intro i hi
    exact hD.1 i q0 (ad r, q_cell dA env w ad r) (ad r, q_cell dA env w ad r) (by unfold q_ws; rw [List.getElem?_map, hi]; rfl) (by unfold q_ws; rw [List.getElem?_map, h0]; rfl) rfl
  have hlt : q0 < (q_ws dA env w ad rs).length := by unfold q_ws; rw [List.length_map]; exact (List.getElem?_eq_some_iff.mp h0).1
  refine List.ext_getElem? fun i => ?_
  by_cases hi : i = q0
  · subst hi
    rw [List.getElem?_set_self hlt]
    unfold q_ws
    rw [List.getElem?_map, h0]
    rfl
  · rw [List.getElem?_set_ne (Ne.symm hi)]
    unfold q_ws
    rw [List.getElem?_map, List.getElem?_map]
    cases hr : rs[i]? with
    | none => rfl
    | some r' =>
      have hne : r' ≠ r := fun z => hi (hinj i (by rw [hr, z]))
      simp only [Option.map_some, ho r' hne]
theorem q_can_w (x : Int) : q_can (q_w x) := by unfold q_can q_w; rw [Int32.ofInt_toInt]
theorem q_can_i (x : Int32) : q_can x.toInt := by unfold q_can; rw [Int32.ofInt_toInt]
theorem q_ofI (x : Int32) : Int32.ofInt x.toInt = x := Int32.ofInt_toInt x
theorem q_can_iff {x : Int} : q_can x ↔ -2147483648 ≤ x ∧ x < 2147483648 := by
  unfold q_can
  rw [Int32.toInt_ofInt]
  show x.bmod 4294967296 = x ↔ _
  have h3 := Int.le_bmod (x := x) (m := 4294967296) (by decide)
  have h4 := Int.bmod_lt (x := x) (m := 4294967296) (by decide)
  constructor
  · intro h
    omega
  · intro ⟨h1, h2⟩
    exact Int.bmod_eq_of_le (by omega) (by omega)
theorem q_w_id {x : Int} (h1 : -2147483648 ≤ x) (h2 : x < 2147483648) : q_w x = x := q_can_iff.mpr ⟨h1, h2⟩
theorem q_toI {x : Int} (h : q_can x) : (Int32.ofInt x).toInt = x := h
/-- an index within -/
theorem q_in {j : Int} {n : Nat} (hc : q_can j) (h0 : 0 ≤ j) (h1 : j < n) : vp_in (Int32.ofInt j) n := by
  rw [vp_in_iff, q_toI hc]
  exact ⟨h0, h1⟩
theorem q_ixn {j : Int} (hc : q_can j) : (Int32.ofInt j).toNatClampNeg = j.toNat := by
  rw [← q_toI hc, Int32.ofInt_toInt]
  rfl
theorem q_at_mem {i : Nat} {w : Cond} (h : q_at i w = true) : w ∈ lw_tbl := by
  unfold q_at at h
  have h1 := List.mem_of_getElem? (of_decide_eq_true h)
  unfold lw_tbl
  unfold q_seg at h1
  split at h1
  · exact List.mem_append_left _ h1
  all_goals refine List.mem_append_right _ ?_
  all_goals unfold tables_1
  all_goals simp only [List.mem_append]
  all_goals simp_all
/-- a word that goes over calls by itself; one that the contracts carry -/
def q_isN (w : Cond) : Bool := match w with
  | .methodLinkNest _ _ _ _ => true
  | .arrayOver _ => true
  | _ => false
def q_T : List Cond := lw_tbl.filter goodWord
def q_N : List Cond := lw_tbl.filter q_isN
/-- the words that a step may use -/
def q_W : List Cond := q_T ++ q_N
theorem q_at_T {i : Nat} {w : Cond} (h : q_at i w = true) (hg : goodWord w = true) : w ∈ q_W := List.mem_append_left _ (List.mem_filter.mpr ⟨q_at_mem h, hg⟩)
theorem q_at_N {i : Nat} {w : Cond} (h : q_at i w = true) (hg : q_isN w = true) : w ∈ q_W := List.mem_append_right _ (List.mem_filter.mpr ⟨q_at_mem h, hg⟩)
theorem q_cls_W {ci : Nat} {C : String} {T : u_T} {N : Nat} (h : q_cls[ci]? = some (C, T, N)) : ∀ w ∈ u_ws C T N, w ∈ q_W := by
  intro w hw
  refine List.mem_append_left _ (List.mem_filter.mpr ⟨(q_cls_ok ci C T N h).2.1 w hw, ?_⟩)
  unfold u_ws at hw
  obtain ⟨k, -, rfl⟩ := List.mem_map.mp hw
  unfold u_lay
  split <;> rfl
/-! more cells: what is made -/
theorem q_cell_ext {dA : Nat → ClassId} {env env' : qR → Option (Nat × Nat)} {w w' : qW} {ad ad' : qR → Nat} {rs : List qR} {E : qE} (hV : q_V rs E w) (hE : E.1 = env) (he : ∀ r ∈ rs, env' r = env r) (ha : ∀ r ∈ rs, ad' r = ad r) (hw : ∀ r ∈ rs, ∀ k, w'.1 r.1 r.2 k = w.1 r.1 r.2 k ∧ w'.2.1 r.1 r.2 k = w.2.1 r.1 r.2 k ∧ w'.2.2 r.1 r.2 k = w.2.2 r.1 r.2 k) : ∀ r ∈ rs, q_cell dA env' w' ad' r = q_cell dA env w ad r := by
  intro r hr
  obtain ⟨⟨k, n⟩, hk, hok⟩ := hV.1 r hr
  rw [hE] at hk
  have hcl := hV.2.2.1 r hr (k, n) (by rw [hE]; exact hk)
  unfold q_cell
  rw [he r hr, hk]
  dsimp only
  by_cases h0 : k = 0
  · rw [if_pos h0, if_pos h0]
    have : q_flds w' ad' r n = q_flds w ad r n := by
      unfold q_flds
      refine List.map_congr_left fun q _ => ?_
      unfold q_fv
      split
      · rw [(hw r hr _).1]
      · rw [(hw r hr _).2.2]
        cases hq : w.2.2 r.1 r.2 q.2 with
        | none => rfl
        | some r' =>
          have := hcl q.2 r' hq (fun h5 => by dsimp only at h5; omega)
          simp only [Option.map_some, ha r' this]
    rw [this]
  · rw [if_neg h0, if_neg h0]
    by_cases h3 : k ≤ 3
    · rw [if_pos h3, if_pos h3]
      simp only [(hw r hr _).1]
    · rw [if_neg h3, if_neg h3]
      by_cases h4 : k = 4
      · rw [if_pos h4, if_pos h4]
        simp only [(hw r hr _).2.1]
      · rw [if_neg h4, if_neg h4]
        have : (fun j => if j < n then (w'.2.2 r.1 r.2 j).map ad' else none) = (fun j => if j < n then (w.2.2 r.1 r.2 j).map ad else none) := by
          funext j
          by_cases hj : j < n
          · rw [if_pos hj, if_pos hj, (hw r hr j).2.2]
            cases hq : w.2.2 r.1 r.2 j with
            | none => rfl
            | some r' =>
              have := hcl j r' hq (fun _ => hj)
              simp only [Option.map_some, ha r' this]
          · rw [if_neg hj, if_neg hj]
        rw [this]
theorem q_ws_ext {dA : Nat → ClassId} {env env' : qR → Option (Nat × Nat)} {w w' : qW} {ad ad' : qR → Nat} {rs : List qR} {E : qE} (hV : q_V rs E w) (hE : E.1 = env) (he : ∀ r ∈ rs, env' r = env r) (ha : ∀ r ∈ rs, ad' r = ad r) (hw : ∀ r ∈ rs, ∀ k, w'.1 r.1 r.2 k = w.1 r.1 r.2 k ∧ w'.2.1 r.1 r.2 k = w.2.1 r.1 r.2 k ∧ w'.2.2 r.1 r.2 k = w.2.2 r.1 r.2 k) : q_ws dA env' w' ad' rs = q_ws dA env w ad rs := by
  unfold q_ws
  refine List.map_congr_left fun r hr => ?_
  rw [ha r hr, q_cell_ext hV hE he ha hw r hr]
end
section
/-! what a state of the small machine promises of the Statement's machine; one step after another -/
def q_St (D : va_G) (dA : Nat → ClassId) (A : Nat → Prop) (H0 H : Heap) (locs : List Loc) (ad : qR → Nat) (rs : List qR) (E : qE) (w : qW) : Prop := q_V rs E w ∧ va_P D q_cls (q_ws dA E.1 w ad rs) H ∧ va_D A (q_ws dA E.1 w ad rs) ∧ va_S A H0 H locs
def q_Lk (ad : qR → Nat) (rs : List qR) (loc : qLo) (ls : Array Slot) (nL : Nat) : Prop := loc.length ≤ nL ∧ ls.size = nL ∧ lv_wf ls ∧ ∀ (i : Nat) (v : qV), loc[i]? = some (some v) → q_vok rs v ∧ ls[i]? = some (.val (q_m ad v))
def q_Sc (mi : Nat) (s : State) (A : Nat → Prop) (H0 : Heap) (ad : qR → Nat) (env : qR → Option (Nat × Nat)) (w : qW) : Prop := mi = 0 → ∃ (b L : Nat) (xs : Nat → Int32), va_X b L xs s H0 ∧ b < H0.size ∧ ¬ A b ∧ ad (1, 0) = b ∧ L ≤ 3072 ∧ (env (1, 0) ≠ none → (∀ k, k < L → w.1 1 0 k = (xs k).toInt) ∧ w.1 1 1 0 = (L : Int))
def q_ret1 (mi pc : Nat) (rs : List qR) (ov : Option qV) : Prop := match ov with
  | none => decode (q_cc mi) pc = .ok (.return_, 1) ∧ q_rtT mi = none
  | some (.inl x) => decode (q_cc mi) pc = .ok (.ireturn, 1) ∧ q_can x ∧ (q_rtT mi = some .int ∨ (q_rtT mi = some .boolean ∧ (x = 0 ∨ x = 1)))
  | some (.inr (.inl _)) => decode (q_cc mi) pc = .ok (.lreturn, 1) ∧ q_rtT mi = some .long
  | some (.inr (.inr r)) => decode (q_cc mi) pc = .ok (.areturn, 1) ∧ q_old rs r ∧ ∃ C, q_rtT mi = some (.object C)
def q_K (p : Program) (l : Launch) (e : Env) (R : Room) (s : State) (m : MethodId) (args : Array Value) (below : List Frame) (meth : Method) (c : Code) (D : va_G) (dA : Nat → ClassId) (A : Nat → Prop) (H0 : Heap) (Q : State → Prop) (mi : Nat) (ov : Option qV) (E' : qE) (w' : qW) (ad : qR → Nat) (rs : List qR) (cells slots : Nat) : Prop :=
  ∀ (ad' : qR → Nat) (rs' : List qR) (H' : Heap) (locs' : List Loc) (ls' : Array Slot) (pc : Nat), q_St D dA A H0 H' locs' ad' rs' E' w' → (∀ r, q_old rs r → ad' r = ad r) → (∀ r ∈ rs, r ∈ rs') → q_ret1 mi pc rs' ov → W p l e R s m args below meth c H' locs' cells slots Q (F0 m pc ls' (ov.toList.map (q_m ad')))
def q_pcA (mi k : Nat) : Nat := (q_pcs mi).getD k 0
def q_Good (p : Program) (l : Launch) (e : Env) (R : Room) (s : State) (m : MethodId) (args : Array Value) (below : List Frame) (meth : Method) (c : Code) (D : va_G) (dA : Nat → ClassId) (A : Nat → Prop) (H0 : Heap) (Q : State → Prop) (mi : Nat) (ov : Option qV) (E' : qE) (w' : qW) (pc : Nat) (loc : qLo) (st : List qV) (E : qE) (w : qW) : Prop :=
  ∀ (ad : qR → Nat) (rs : List qR) (H : Heap) (locs : List Loc) (ls : Array Slot) (cells slots : Nat), q_St D dA A H0 H locs ad rs E w → q_Lk ad rs loc ls (q_ml mi) → (∀ v ∈ st, q_vok rs v) → q_Sc mi s A H0 ad E.1 w → cells + (E'.2.1 - E.2.1) ≤ R.cells → slots + (E'.2.2 - E.2.2) ≤ R.slots → E.2.1 ≤ E'.2.1 ∧ E.2.2 ≤ E'.2.2 →
  q_K p l e R s m args below meth c D dA A H0 Q mi ov E' w' ad rs (cells + (E'.2.1 - E.2.1)) (slots + (E'.2.2 - E.2.2)) → W p l e R s m args below meth c H locs cells slots Q (F0 m pc ls (st.map (q_m ad)))
def q_Cx (p : Program) (R : Room) (s : State) (m : MethodId) (args : Array Value) (meth : Method) (c : Code) (mi : Nat) : Prop :=
  p.tables.exec = Jvm.exec ∧ c.code = q_cc mi ∧ c.maxLocals = q_ml mi ∧ s.vm.findClass (q_y mi).cls = some m.cls ∧ (∀ w ∈ q_W, w.before args s = true) ∧ ((q_y mi).name = "<init>" → meth.name = "<init>") ∧ q_fr mi ≤ R.frames ∧ q_lo mi ≤ R.locals
theorem q_Lk_ld {ad : qR → Nat} {rs : List qR} {loc : qLo} {ls : Array Slot} {nL i : Nat} {v : qV} (h : q_Lk ad rs loc ls nL) (hi : loc[i]? = some (some v)) : q_vok rs v ∧ ls[i]? = some (.val (q_m ad v)) := h.2.2.2 i v hi
/-- the known locals as a list -/
def q_LL (ad : qR → Nat) (loc : qLo) : List (Nat × Value) := loc.zipIdx.filterMap (fun q => q.1.map (fun v => (q.2, q_m ad v)))
theorem q_LL_mem {ad : qR → Nat} {loc : qLo} {i : Nat} {u : Value} : (i, u) ∈ q_LL ad loc ↔ ∃ v, loc[i]? = some (some v) ∧ u = q_m ad v := by
  unfold q_LL
  rw [List.mem_filterMap]
  constructor
  · rintro ⟨⟨o, j⟩, h1, h2⟩
    rw [List.mem_zipIdx_iff_getElem?] at h1
    cases o with
    | none => simp at h2
    | some v =>
      simp only [Option.map_some, Option.some.injEq, Prod.mk.injEq] at h2
      exact ⟨v, by rw [← h2.1]; exact h1, h2.2.symm⟩
  · rintro ⟨v, h1, h2⟩
    exact ⟨(some v, i), by rw [List.mem_zipIdx_iff_getElem?]; exact h1, by rw [h2]; rfl⟩
theorem q_Lk_has {ad : qR → Nat} {rs : List qR} {loc : qLo} {ls : Array Slot} {nL : Nat} (h : q_Lk ad rs loc ls nL) : lv_has ls nL (q_LL ad loc) := ⟨h.2.1, h.2.2.1, fun q hq => by
  obtain ⟨v, h1, h2⟩ := q_LL_mem.mp (show (q.1, q.2) ∈ _ from hq)
  rw [h2]
  exact (h.2.2.2 q.1 v h1).2⟩
theorem q_m_cat (ad : qR → Nat) (v : qV) : (q_m ad v).category = q_cat v := by
  rcases v with x | x | x <;> rfl
theorem q_clr_at {loc : qLo} {k i : Nat} {v : qV} (h : (q_clr loc k)[i]? = some (some v)) : loc[i]? = some (some v) ∧ ¬ (i + 1 = k ∧ q_cat v = 2) := by
  unfold q_clr at h
  split at h
  · exact ⟨h, fun z => by omega⟩
  · rename_i j
    split at h
    · rename_i y hy
      by_cases hj : j = i
      · subst hj
        by_cases hl : j < loc.length
        · rw [List.getElem?_set_self hl] at h; cases h
        · rw [List.getElem?_eq_none (by simp; omega)] at h; cases h
      · rw [List.getElem?_set_ne hj] at h
        exact ⟨h, fun z => hj (by omega)⟩
    · rename_i hno
      refine ⟨h, fun z => ?_⟩
      obtain ⟨z1, z2⟩ := z
      have : i = j := by omega
      subst this
      rcases v with x | x | x
      · cases z2
      · exact hno _ h
      · cases z2
theorem q_clr_len (loc : qLo) (k : Nat) : (q_clr loc k).length = loc.length := by
  unfold q_clr
  split
  · rfl
  · split
    · simp
    · rfl
theorem q_Lk_st1 {ad : qR → Nat} {rs : List qR} {loc : qLo} {ls' : Array Slot} {nL k : Nat} {v : qV} (hlen : loc.length ≤ nL) (hok : ∀ (i : Nat) (u : qV), loc[i]? = some (some u) → q_vok rs u) (hv : q_vok rs v) (h : lv_has ls' nL ((k, q_m ad v) :: (q_LL ad loc).filter (fun q => !(q.1 == k) && !(q.1 + 1 == k && q.2.category == 2)))) : q_Lk ad rs ((q_clr loc k).set k (some v)) ls' nL := by
  refine ⟨by rw [List.length_set, q_clr_len]; exact hlen, h.1, h.2.1, fun i u hi => ?_⟩
  by_cases hik : k = i
  · subst hik
    by_cases hl : k < (q_clr loc k).length
    · rw [List.getElem?_set_self hl] at hi
      cases hi
      exact ⟨hv, h.2.2 _ List.mem_cons_self⟩
    · rw [List.getElem?_eq_none (by rw [List.length_set]; omega)] at hi
      cases hi
  · rw [List.getElem?_set_ne hik] at hi
    obtain ⟨h1, h2⟩ := q_clr_at hi
    refine ⟨hok i u h1, h.2.2 (i, q_m ad u) (List.mem_cons_of_mem _ (List.mem_filter.mpr ⟨q_LL_mem.mpr ⟨u, h1, rfl⟩, ?_⟩))⟩
    simp only [q_m_cat, Bool.and_eq_true, Bool.not_eq_true', beq_eq_false_iff_ne, Bool.and_eq_false_imp, beq_iff_eq]
    exact ⟨fun z => hik z.symm, fun z z2 => h2 ⟨z, z2⟩⟩
theorem q_Lk_st2 {ad : qR → Nat} {rs : List qR} {loc : qLo} {ls' : Array Slot} {nL k : Nat} {v : qV} (hlen : loc.length ≤ nL) (hok : ∀ (i : Nat) (u : qV), loc[i]? = some (some u) → q_vok rs u) (hv : q_vok rs v) (h : lv_has ls' nL ((k, q_m ad v) :: (q_LL ad loc).filter (fun q => !(q.1 == k) && (!(q.1 == k + 1) && !(q.1 + 1 == k && q.2.category == 2))))) : q_Lk ad rs (((q_clr loc k).set k (some v)).set (k + 1) none) ls' nL := by
  refine ⟨by rw [List.length_set, List.length_set, q_clr_len]; exact hlen, h.1, h.2.1, fun i u hi => ?_⟩
  by_cases hi1 : k + 1 = i
  · subst hi1
    by_cases hl : k + 1 < ((q_clr loc k).set k (some v)).length
    · rw [List.getElem?_set_self hl] at hi; cases hi
    · rw [List.getElem?_eq_none (by rw [List.length_set]; omega)] at hi; cases hi
  rw [List.getElem?_set_ne hi1] at hi
  by_cases hik : k = i
  · subst hik
    by_cases hl : k < (q_clr loc k).length
    · rw [List.getElem?_set_self hl] at hi
      cases hi
      exact ⟨hv, h.2.2 _ List.mem_cons_self⟩
    · rw [List.getElem?_eq_none (by rw [List.length_set]; omega)] at hi
      cases hi
  · rw [List.getElem?_set_ne hik] at hi
    obtain ⟨h1, h2⟩ := q_clr_at hi
    refine ⟨hok i u h1, h.2.2 (i, q_m ad u) (List.mem_cons_of_mem _ (List.mem_filter.mpr ⟨q_LL_mem.mpr ⟨u, h1, rfl⟩, ?_⟩))⟩
    simp only [q_m_cat, Bool.and_eq_true, Bool.not_eq_true', beq_eq_false_iff_ne, Bool.and_eq_false_imp, beq_iff_eq]
    exact ⟨fun z => hik z.symm, fun z => hi1 z.symm, fun z z2 => h2 ⟨z, z2⟩⟩
/-! the numbers -/
theorem q_e_add (x y : Int) : Int32.ofInt (q_w (x + y)) = Int32.ofInt x + Int32.ofInt y := by unfold q_w; rw [Int32.ofInt_toInt, Int32.ofInt_add]
theorem q_e_sub (x y : Int) : Int32.ofInt (q_w (x - y)) = Int32.ofInt x - Int32.ofInt y := by unfold q_w; rw [Int32.ofInt_toInt, Int32.ofInt_sub]
theorem q_e_mul (x y : Int) : Int32.ofInt (q_w (x * y)) = Int32.ofInt x * Int32.ofInt y := by unfold q_w; rw [Int32.ofInt_toInt, Int32.ofInt_mul]
theorem q_e_neg (x : Int) : Int32.ofInt (q_w (-x)) = -Int32.ofInt x := by unfold q_w; rw [Int32.ofInt_toInt, Int32.ofInt_neg]
theorem q_e_eq {x y : Int} (hx : q_can x) (hy : q_can y) : Int32.ofInt x = Int32.ofInt y ↔ x = y := ⟨fun h => by rw [← hx, ← hy, h], fun h => by rw [h]⟩
theorem q_e_le {x y : Int} (hx : q_can x) (hy : q_can y) : Int32.ofInt x ≤ Int32.ofInt y ↔ x ≤ y := by rw [Int32.le_iff_toInt_le, hx, hy]
theorem q_e_lt {x y : Int} (hx : q_can x) (hy : q_can y) : Int32.ofInt x < Int32.ofInt y ↔ x < y := by rw [Int32.lt_iff_toInt_lt, hx, hy]
theorem q_can_0 : q_can 0 := rfl
end
section
/-! printed by wip/whole/steps.py: a lemma an instruction -/
section QS
variable {p : Program} {l : Launch} {e : Env} {R : Room} {s : State} {m : MethodId} {args : Array Value} {below : List Frame} {meth : Method} {c : Code} {D : va_G} {dA : Nat → ClassId} {A : Nat → Prop} {H0 : Heap} {Q : State → Prop} {mi : Nat} {ov : Option qV} {E' E : qE} {w' w : qW} {pc : Nat} {loc : qLo} {st : List qV}
/-- a step that changes the stack alone -/
theorem q_push {n : Nat} {s1 s2 : List qV} (hr : ∀ (ad : qR → Nat) (rs : List qR) (H : Heap) (locs : List Loc) (ls : Array Slot) (cells slots : Nat), q_Lk ad rs loc ls (q_ml mi) → (∀ v ∈ s1, q_vok rs v) → (W p l e R s m args below meth c H locs cells slots Q (F0 m (pc + n) ls (s2.map (q_m ad))) → W p l e R s m args below meth c H locs cells slots Q (F0 m pc ls (s1.map (q_m ad)))) ∧ ∀ v ∈ s2, q_vok rs v) (k : q_Good p l e R s m args below meth c D dA A H0 Q mi ov E' w' (pc + n) loc s2 E w) : q_Good p l e R s m args below meth c D dA A H0 Q mi ov E' w' pc loc s1 E w := by
  intro ad rs H locs ls cells slots hSt hL hs hSc h1 h2 h3 hK
  obtain ⟨a, b⟩ := hr ad rs H locs ls cells slots hL hs
  exact a (k ad rs H locs ls cells slots hSt hL b hSc h1 h2 h3 hK)
/-- a step that changes the locals -/
theorem q_pushL {n : Nat} {s1 s2 : List qV} {loc2 : qLo} (hr : ∀ (ad : qR → Nat) (rs : List qR) (H : Heap) (locs : List Loc) (ls : Array Slot) (cells slots : Nat), q_Lk ad rs loc ls (q_ml mi) → (∀ v ∈ s1, q_vok rs v) → ((∀ ls2 : Array Slot, q_Lk ad rs loc2 ls2 (q_ml mi) → W p l e R s m args below meth c H locs cells slots Q (F0 m (pc + n) ls2 (s2.map (q_m ad)))) → W p l e R s m args below meth c H locs cells slots Q (F0 m pc ls (s1.map (q_m ad)))) ∧ ∀ v ∈ s2, q_vok rs v) (k : q_Good p l e R s m args below meth c D dA A H0 Q mi ov E' w' (pc + n) loc2 s2 E w) : q_Good p l e R s m args below meth c D dA A H0 Q mi ov E' w' pc loc s1 E w := by
  intro ad rs H locs ls cells slots hSt hL hs hSc h1 h2 h3 hK
  obtain ⟨a, b⟩ := hr ad rs H locs ls cells slots hL hs
  exact a (fun ls2 hL2 => k ad rs H locs ls2 cells slots hSt hL2 b hSc h1 h2 h3 hK)
/-- a branch -/
theorem q_pushB {s1 s2 : List qV} {P : Prop} {t f : Nat} (hr : ∀ (ad : qR → Nat) (rs : List qR) (H : Heap) (locs : List Loc) (ls : Array Slot) (cells slots : Nat), q_Lk ad rs loc ls (q_ml mi) → (∀ v ∈ s1, q_vok rs v) → ((P → W p l e R s m args below meth c H locs cells slots Q (F0 m t ls (s2.map (q_m ad)))) → (¬ P → W p l e R s m args below meth c H locs cells slots Q (F0 m f ls (s2.map (q_m ad)))) → W p l e R s m args below meth c H locs cells slots Q (F0 m pc ls (s1.map (q_m ad)))) ∧ ∀ v ∈ s2, q_vok rs v) (k1 : P → q_Good p l e R s m args below meth c D dA A H0 Q mi ov E' w' t loc s2 E w) (k2 : ¬ P → q_Good p l e R s m args below meth c D dA A H0 Q mi ov E' w' f loc s2 E w) : q_Good p l e R s m args below meth c D dA A H0 Q mi ov E' w' pc loc s1 E w := by
  intro ad rs H locs ls cells slots hSt hL hs hSc h1 h2 h3 hK
  obtain ⟨a, b⟩ := hr ad rs H locs ls cells slots hL hs
  exact a (fun h => k1 h ad rs H locs ls cells slots hSt hL b hSc h1 h2 h3 hK) (fun h => k2 h ad rs H locs ls cells slots hSt hL b hSc h1 h2 h3 hK)
theorem q_s_iconst (hC : q_Cx p R s m args meth c mi) {n z : Int} (hv : Int32.ofInt n = Int32.ofInt z) (hz : q_can z) (hdg : decode (q_cc mi) pc = .ok (.iconst n, 1)) (k : q_Good p l e R s m args below meth c D dA A H0 Q mi ov E' w' (pc + 1) loc (.inl z :: st) E w) : q_Good p l e R s m args below meth c D dA A H0 Q mi ov E' w' pc loc (st) E w := by
  refine q_push (n := 1) (fun ad rs H locs ls cells slots hL hs => ⟨fun h => ?_, ?_⟩) k
  · exact lv_iconst hC.1 hC.2.1 hdg hv h
  · exact List.forall_mem_cons.mpr ⟨hz, hs⟩
theorem q_s_bipush (hC : q_Cx p R s m args meth c mi) {n z : Int} (hv : (Int8.ofInt n).toInt32 = Int32.ofInt z) (hz : q_can z) (hdg : decode (q_cc mi) pc = .ok (.bipush n, 2)) (k : q_Good p l e R s m args below meth c D dA A H0 Q mi ov E' w' (pc + 2) loc (.inl z :: st) E w) : q_Good p l e R s m args below meth c D dA A H0 Q mi ov E' w' pc loc (st) E w := by
  refine q_push (n := 2) (fun ad rs H locs ls cells slots hL hs => ⟨fun h => ?_, ?_⟩) k
  · exact lv_bipush hC.1 hC.2.1 hdg hv h
  · exact List.forall_mem_cons.mpr ⟨hz, hs⟩
theorem q_s_sipush (hC : q_Cx p R s m args meth c mi) {n z : Int} (hv : (Int16.ofInt n).toInt32 = Int32.ofInt z) (hz : q_can z) (hdg : decode (q_cc mi) pc = .ok (.sipush n, 3)) (k : q_Good p l e R s m args below meth c D dA A H0 Q mi ov E' w' (pc + 3) loc (.inl z :: st) E w) : q_Good p l e R s m args below meth c D dA A H0 Q mi ov E' w' pc loc (st) E w := by
  refine q_push (n := 3) (fun ad rs H locs ls cells slots hL hs => ⟨fun h => ?_, ?_⟩) k
  · exact lv_sipush hC.1 hC.2.1 hdg hv h
  · exact List.forall_mem_cons.mpr ⟨hz, hs⟩
theorem q_s_ldc (hC : q_Cx p R s m args meth c mi) {i : Nat} {z : Int} (hw : Cond.constant (q_y mi).cls i (Int32.ofInt z) ∈ q_W) (hz : q_can z) (hdg : decode (q_cc mi) pc = .ok (.ldc i, 2)) (k : q_Good p l e R s m args below meth c D dA A H0 Q mi ov E' w' (pc + 2) loc (.inl z :: st) E w) : q_Good p l e R s m args below meth c D dA A H0 Q mi ov E' w' pc loc (st) E w := by
  refine q_push (n := 2) (fun ad rs H locs ls cells slots hL hs => ⟨fun h => ?_, ?_⟩) k
  · exact lv_ldc hC.1 hC.2.1 hC.2.2.2.1 (hC.2.2.2.2.1 _ hw) hdg h
  · exact List.forall_mem_cons.mpr ⟨hz, hs⟩
theorem q_s_ldc_w (hC : q_Cx p R s m args meth c mi) {i : Nat} {z : Int} (hw : Cond.constant (q_y mi).cls i (Int32.ofInt z) ∈ q_W) (hz : q_can z) (hdg : decode (q_cc mi) pc = .ok (.ldc_w i, 3)) (k : q_Good p l e R s m args below meth c D dA A H0 Q mi ov E' w' (pc + 3) loc (.inl z :: st) E w) : q_Good p l e R s m args below meth c D dA A H0 Q mi ov E' w' pc loc (st) E w := by
  refine q_push (n := 3) (fun ad rs H locs ls cells slots hL hs => ⟨fun h => ?_, ?_⟩) k
  · exact lv_ldcw hC.1 hC.2.1 hC.2.2.2.1 (hC.2.2.2.2.1 _ hw) hdg h
  · exact List.forall_mem_cons.mpr ⟨hz, hs⟩
theorem q_s_lconst (hC : q_Cx p R s m args meth c mi) {n : Fin 2} {z : Int64} (hv : Int64.ofNat (n : Nat) = z) (hdg : decode (q_cc mi) pc = .ok (.lconst n, 1)) (k : q_Good p l e R s m args below meth c D dA A H0 Q mi ov E' w' (pc + 1) loc (.inr (.inl z) :: st) E w) : q_Good p l e R s m args below meth c D dA A H0 Q mi ov E' w' pc loc (st) E w := by
  refine q_push (n := 1) (fun ad rs H locs ls cells slots hL hs => ⟨fun h => ?_, ?_⟩) k
  · exact lv_lconst hC.1 hC.2.1 hdg hv h
  · exact List.forall_mem_cons.mpr ⟨trivial, hs⟩
theorem q_s_ldc2 (hC : q_Cx p R s m args meth c mi) {i : Nat} {z : Int64} (hw : Cond.constantLong (q_y mi).cls i z ∈ q_W) (hdg : decode (q_cc mi) pc = .ok (.ldc2_w i, 3)) (k : q_Good p l e R s m args below meth c D dA A H0 Q mi ov E' w' (pc + 3) loc (.inr (.inl z) :: st) E w) : q_Good p l e R s m args below meth c D dA A H0 Q mi ov E' w' pc loc (st) E w := by
  refine q_push (n := 3) (fun ad rs H locs ls cells slots hL hs => ⟨fun h => ?_, ?_⟩) k
  · exact lv_ldc2 hC.1 hC.2.1 hC.2.2.2.1 (hC.2.2.2.2.1 _ hw) hdg h
  · exact List.forall_mem_cons.mpr ⟨trivial, hs⟩
theorem q_s_iload (hC : q_Cx p R s m args meth c mi) {i : Nat} {x : Int} (hi : loc[i]? = some (some (.inl x))) (hdg : decode (q_cc mi) pc = .ok (.iload i, 2)) (k : q_Good p l e R s m args below meth c D dA A H0 Q mi ov E' w' (pc + 2) loc (.inl x :: st) E w) : q_Good p l e R s m args below meth c D dA A H0 Q mi ov E' w' pc loc (st) E w := by
  refine q_push (n := 2) (fun ad rs H locs ls cells slots hL hs => ⟨fun h => ?_, ?_⟩) k
  · exact lv_iload hC.1 hC.2.1 hdg (q_Lk_ld hL hi).2 h
  · exact List.forall_mem_cons.mpr ⟨(q_Lk_ld hL hi).1, hs⟩
theorem q_s_iload_n (hC : q_Cx p R s m args meth c mi) {i : Fin 4} {x : Int} (hi : loc[(i : Nat)]? = some (some (.inl x))) (hdg : decode (q_cc mi) pc = .ok (.iload_n i, 1)) (k : q_Good p l e R s m args below meth c D dA A H0 Q mi ov E' w' (pc + 1) loc (.inl x :: st) E w) : q_Good p l e R s m args below meth c D dA A H0 Q mi ov E' w' pc loc (st) E w := by
  refine q_push (n := 1) (fun ad rs H locs ls cells slots hL hs => ⟨fun h => ?_, ?_⟩) k
  · exact lv_iload_n hC.1 hC.2.1 hdg rfl (q_Lk_ld hL hi).2 h
  · exact List.forall_mem_cons.mpr ⟨(q_Lk_ld hL hi).1, hs⟩
theorem q_s_lload (hC : q_Cx p R s m args meth c mi) {i : Nat} {x : Int64} (hi : loc[i]? = some (some (.inr (.inl x)))) (hdg : decode (q_cc mi) pc = .ok (.lload i, 2)) (k : q_Good p l e R s m args below meth c D dA A H0 Q mi ov E' w' (pc + 2) loc (.inr (.inl x) :: st) E w) : q_Good p l e R s m args below meth c D dA A H0 Q mi ov E' w' pc loc (st) E w := by
  refine q_push (n := 2) (fun ad rs H locs ls cells slots hL hs => ⟨fun h => ?_, ?_⟩) k
  · exact lv_lload hC.1 hC.2.1 hdg (q_Lk_ld hL hi).2 h
  · exact List.forall_mem_cons.mpr ⟨(q_Lk_ld hL hi).1, hs⟩
theorem q_s_lload_n (hC : q_Cx p R s m args meth c mi) {i : Fin 4} {x : Int64} (hi : loc[(i : Nat)]? = some (some (.inr (.inl x)))) (hdg : decode (q_cc mi) pc = .ok (.lload_n i, 1)) (k : q_Good p l e R s m args below meth c D dA A H0 Q mi ov E' w' (pc + 1) loc (.inr (.inl x) :: st) E w) : q_Good p l e R s m args below meth c D dA A H0 Q mi ov E' w' pc loc (st) E w := by
  refine q_push (n := 1) (fun ad rs H locs ls cells slots hL hs => ⟨fun h => ?_, ?_⟩) k
  · exact lv_lload_n hC.1 hC.2.1 hdg rfl (q_Lk_ld hL hi).2 h
  · exact List.forall_mem_cons.mpr ⟨(q_Lk_ld hL hi).1, hs⟩
theorem q_s_aload (hC : q_Cx p R s m args meth c mi) {i : Nat} {x : qR} (hi : loc[i]? = some (some (.inr (.inr x)))) (hdg : decode (q_cc mi) pc = .ok (.aload i, 2)) (k : q_Good p l e R s m args below meth c D dA A H0 Q mi ov E' w' (pc + 2) loc (.inr (.inr x) :: st) E w) : q_Good p l e R s m args below meth c D dA A H0 Q mi ov E' w' pc loc (st) E w := by
  refine q_push (n := 2) (fun ad rs H locs ls cells slots hL hs => ⟨fun h => ?_, ?_⟩) k
  · exact lv_aload hC.1 hC.2.1 hdg (q_Lk_ld hL hi).2 h
  · exact List.forall_mem_cons.mpr ⟨(q_Lk_ld hL hi).1, hs⟩
theorem q_s_aload_n (hC : q_Cx p R s m args meth c mi) {i : Fin 4} {x : qR} (hi : loc[(i : Nat)]? = some (some (.inr (.inr x)))) (hdg : decode (q_cc mi) pc = .ok (.aload_n i, 1)) (k : q_Good p l e R s m args below meth c D dA A H0 Q mi ov E' w' (pc + 1) loc (.inr (.inr x) :: st) E w) : q_Good p l e R s m args below meth c D dA A H0 Q mi ov E' w' pc loc (st) E w := by
  refine q_push (n := 1) (fun ad rs H locs ls cells slots hL hs => ⟨fun h => ?_, ?_⟩) k
  · exact lv_aload_n hC.1 hC.2.1 hdg rfl (q_Lk_ld hL hi).2 h
  · exact List.forall_mem_cons.mpr ⟨(q_Lk_ld hL hi).1, hs⟩
theorem q_s_iadd (hC : q_Cx p R s m args meth c mi) {x y : Int} (hdg : decode (q_cc mi) pc = .ok (.iadd, 1)) (k : q_Good p l e R s m args below meth c D dA A H0 Q mi ov E' w' (pc + 1) loc (.inl (q_w (x + y)) :: st) E w) : q_Good p l e R s m args below meth c D dA A H0 Q mi ov E' w' pc loc (.inl y :: .inl x :: st) E w := by
  refine q_push (n := 1) (fun ad rs H locs ls cells slots hL hs => ⟨fun h => ?_, ?_⟩) k
  · exact lv_iadd hC.1 hC.2.1 hdg (by rw [← q_e_add]; exact h)
  · exact List.forall_mem_cons.mpr ⟨q_can_w _, (List.forall_mem_cons.mp (List.forall_mem_cons.mp hs).2).2⟩
theorem q_s_isub (hC : q_Cx p R s m args meth c mi) {x y : Int} (hdg : decode (q_cc mi) pc = .ok (.isub, 1)) (k : q_Good p l e R s m args below meth c D dA A H0 Q mi ov E' w' (pc + 1) loc (.inl (q_w (x - y)) :: st) E w) : q_Good p l e R s m args below meth c D dA A H0 Q mi ov E' w' pc loc (.inl y :: .inl x :: st) E w := by
  refine q_push (n := 1) (fun ad rs H locs ls cells slots hL hs => ⟨fun h => ?_, ?_⟩) k
  · exact lv_isub hC.1 hC.2.1 hdg (by rw [← q_e_sub]; exact h)
  · exact List.forall_mem_cons.mpr ⟨q_can_w _, (List.forall_mem_cons.mp (List.forall_mem_cons.mp hs).2).2⟩
theorem q_s_imul (hC : q_Cx p R s m args meth c mi) {x y : Int} (hdg : decode (q_cc mi) pc = .ok (.imul, 1)) (k : q_Good p l e R s m args below meth c D dA A H0 Q mi ov E' w' (pc + 1) loc (.inl (q_w (x * y)) :: st) E w) : q_Good p l e R s m args below meth c D dA A H0 Q mi ov E' w' pc loc (.inl y :: .inl x :: st) E w := by
  refine q_push (n := 1) (fun ad rs H locs ls cells slots hL hs => ⟨fun h => ?_, ?_⟩) k
  · exact lv_imul hC.1 hC.2.1 hdg (by rw [← q_e_mul]; exact h)
  · exact List.forall_mem_cons.mpr ⟨q_can_w _, (List.forall_mem_cons.mp (List.forall_mem_cons.mp hs).2).2⟩
theorem q_e_iand (x y : Int) : Int32.ofInt (q_and x y) = Int32.ofInt x &&& Int32.ofInt y := q_ofI _
theorem q_e_ior (x y : Int) : Int32.ofInt (q_or x y) = Int32.ofInt x ||| Int32.ofInt y := q_ofI _
theorem q_e_ixor (x y : Int) : Int32.ofInt (q_xor x y) = Int32.ofInt x ^^^ Int32.ofInt y := q_ofI _
theorem q_e_ishl (x y : Int) : Int32.ofInt (q_shl x y) = Int32.ofInt x <<< (Int32.ofInt y &&& 31) := q_ofI _
theorem q_e_ishr (x y : Int) : Int32.ofInt (q_shr x y) = Int32.ofInt x >>> (Int32.ofInt y &&& 31) := q_ofI _
theorem q_e_idiv (x y : Int) : Int32.ofInt (q_div x y) = Int32.ofInt x / Int32.ofInt y := q_ofI _
theorem q_e_irem (x y : Int) : Int32.ofInt (q_rem x y) = Int32.ofInt x - Int32.ofInt x / Int32.ofInt y * Int32.ofInt y := q_ofI _
theorem q_s_iand (hC : q_Cx p R s m args meth c mi) {x y : Int} (hdg : decode (q_cc mi) pc = .ok (.iand, 1)) (k : q_Good p l e R s m args below meth c D dA A H0 Q mi ov E' w' (pc + 1) loc (.inl (q_and x y) :: st) E w) : q_Good p l e R s m args below meth c D dA A H0 Q mi ov E' w' pc loc (.inl y :: .inl x :: st) E w := by
  refine q_push (n := 1) (fun ad rs H locs ls cells slots hL hs => ⟨fun h => ?_, ?_⟩) k
  · exact lv_iand hC.1 hC.2.1 hdg (by rw [← q_e_iand]; exact h)
  · exact List.forall_mem_cons.mpr ⟨q_can_i _, (List.forall_mem_cons.mp (List.forall_mem_cons.mp hs).2).2⟩
theorem q_s_ior (hC : q_Cx p R s m args meth c mi) {x y : Int} (hdg : decode (q_cc mi) pc = .ok (.ior, 1)) (k : q_Good p l e R s m args below meth c D dA A H0 Q mi ov E' w' (pc + 1) loc (.inl (q_or x y) :: st) E w) : q_Good p l e R s m args below meth c D dA A H0 Q mi ov E' w' pc loc (.inl y :: .inl x :: st) E w := by
  refine q_push (n := 1) (fun ad rs H locs ls cells slots hL hs => ⟨fun h => ?_, ?_⟩) k
  · exact lv_ior hC.1 hC.2.1 hdg (by rw [← q_e_ior]; exact h)
  · exact List.forall_mem_cons.mpr ⟨q_can_i _, (List.forall_mem_cons.mp (List.forall_mem_cons.mp hs).2).2⟩
theorem q_s_ixor (hC : q_Cx p R s m args meth c mi) {x y : Int} (hdg : decode (q_cc mi) pc = .ok (.ixor, 1)) (k : q_Good p l e R s m args below meth c D dA A H0 Q mi ov E' w' (pc + 1) loc (.inl (q_xor x y) :: st) E w) : q_Good p l e R s m args below meth c D dA A H0 Q mi ov E' w' pc loc (.inl y :: .inl x :: st) E w := by
  refine q_push (n := 1) (fun ad rs H locs ls cells slots hL hs => ⟨fun h => ?_, ?_⟩) k
  · exact lv_ixor hC.1 hC.2.1 hdg (by rw [← q_e_ixor]; exact h)
  · exact List.forall_mem_cons.mpr ⟨q_can_i _, (List.forall_mem_cons.mp (List.forall_mem_cons.mp hs).2).2⟩
theorem q_s_ishl (hC : q_Cx p R s m args meth c mi) {x y : Int} (hdg : decode (q_cc mi) pc = .ok (.ishl, 1)) (k : q_Good p l e R s m args below meth c D dA A H0 Q mi ov E' w' (pc + 1) loc (.inl (q_shl x y) :: st) E w) : q_Good p l e R s m args below meth c D dA A H0 Q mi ov E' w' pc loc (.inl y :: .inl x :: st) E w := by
  refine q_push (n := 1) (fun ad rs H locs ls cells slots hL hs => ⟨fun h => ?_, ?_⟩) k
  · exact lv_ishl hC.1 hC.2.1 hdg (by rw [← q_e_ishl]; exact h)
  · exact List.forall_mem_cons.mpr ⟨q_can_i _, (List.forall_mem_cons.mp (List.forall_mem_cons.mp hs).2).2⟩
theorem q_s_ishr (hC : q_Cx p R s m args meth c mi) {x y : Int} (hdg : decode (q_cc mi) pc = .ok (.ishr, 1)) (k : q_Good p l e R s m args below meth c D dA A H0 Q mi ov E' w' (pc + 1) loc (.inl (q_shr x y) :: st) E w) : q_Good p l e R s m args below meth c D dA A H0 Q mi ov E' w' pc loc (.inl y :: .inl x :: st) E w := by
  refine q_push (n := 1) (fun ad rs H locs ls cells slots hL hs => ⟨fun h => ?_, ?_⟩) k
  · exact lv_ishr hC.1 hC.2.1 hdg (by rw [← q_e_ishr]; exact h)
  · exact List.forall_mem_cons.mpr ⟨q_can_i _, (List.forall_mem_cons.mp (List.forall_mem_cons.mp hs).2).2⟩
theorem q_s_iushr (hC : q_Cx p R s m args meth c mi) {x y : Int} (hdg : decode (q_cc mi) pc = .ok (.iushr, 1)) (k : q_Good p l e R s m args below meth c D dA A H0 Q mi ov E' w' (pc + 1) loc (.inl (q_ushr x y) :: st) E w) : q_Good p l e R s m args below meth c D dA A H0 Q mi ov E' w' pc loc (.inl y :: .inl x :: st) E w := by
  refine q_push (n := 1) (fun ad rs H locs ls cells slots hL hs => ⟨fun h => ?_, ?_⟩) k
  · exact lv_iushr hC.1 hC.2.1 hdg (q_ofI _).symm h
  · exact List.forall_mem_cons.mpr ⟨q_can_i _, (List.forall_mem_cons.mp (List.forall_mem_cons.mp hs).2).2⟩
theorem q_s_idiv (hC : q_Cx p R s m args meth c mi) {x y : Int} (hy : y ≠ 0) (hdg : decode (q_cc mi) pc = .ok (.idiv, 1)) (k : q_Good p l e R s m args below meth c D dA A H0 Q mi ov E' w' (pc + 1) loc (.inl (q_div x y) :: st) E w) : q_Good p l e R s m args below meth c D dA A H0 Q mi ov E' w' pc loc (.inl y :: .inl x :: st) E w := by
  refine q_push (n := 1) (fun ad rs H locs ls cells slots hL hs => ⟨fun h => ?_, ?_⟩) k
  · exact lv_idiv hC.1 hC.2.1 hdg (fun q => hy ((q_e_eq (List.forall_mem_cons.mp hs).1 q_can_0).mp q)) (by rw [← q_e_idiv]; exact h)
  · exact List.forall_mem_cons.mpr ⟨q_can_i _, (List.forall_mem_cons.mp (List.forall_mem_cons.mp hs).2).2⟩
theorem q_s_irem (hC : q_Cx p R s m args meth c mi) {x y : Int} (hy : y ≠ 0) (hdg : decode (q_cc mi) pc = .ok (.irem, 1)) (k : q_Good p l e R s m args below meth c D dA A H0 Q mi ov E' w' (pc + 1) loc (.inl (q_rem x y) :: st) E w) : q_Good p l e R s m args below meth c D dA A H0 Q mi ov E' w' pc loc (.inl y :: .inl x :: st) E w := by
  refine q_push (n := 1) (fun ad rs H locs ls cells slots hL hs => ⟨fun h => ?_, ?_⟩) k
  · exact lv_irem hC.1 hC.2.1 hdg (fun q => hy ((q_e_eq (List.forall_mem_cons.mp hs).1 q_can_0).mp q)) (by rw [← q_e_irem]; exact h)
  · exact List.forall_mem_cons.mpr ⟨q_can_i _, (List.forall_mem_cons.mp (List.forall_mem_cons.mp hs).2).2⟩
theorem q_s_ineg (hC : q_Cx p R s m args meth c mi) {x : Int} (hdg : decode (q_cc mi) pc = .ok (.ineg, 1)) (k : q_Good p l e R s m args below meth c D dA A H0 Q mi ov E' w' (pc + 1) loc (.inl (q_w (-x)) :: st) E w) : q_Good p l e R s m args below meth c D dA A H0 Q mi ov E' w' pc loc (.inl x :: st) E w := by
  refine q_push (n := 1) (fun ad rs H locs ls cells slots hL hs => ⟨fun h => ?_, ?_⟩) k
  · exact lv_ineg hC.1 hC.2.1 hdg (by rw [← q_e_neg]; exact h)
  · exact List.forall_mem_cons.mpr ⟨q_can_w _, (List.forall_mem_cons.mp hs).2⟩
theorem q_s_i2b (hC : q_Cx p R s m args meth c mi) {x : Int} (hdg : decode (q_cc mi) pc = .ok (.i2b, 1)) (k : q_Good p l e R s m args below meth c D dA A H0 Q mi ov E' w' (pc + 1) loc (.inl (q_i2b x) :: st) E w) : q_Good p l e R s m args below meth c D dA A H0 Q mi ov E' w' pc loc (.inl x :: st) E w := by
  refine q_push (n := 1) (fun ad rs H locs ls cells slots hL hs => ⟨fun h => ?_, ?_⟩) k
  · exact lv_i2b hC.1 hC.2.1 hdg (q_ofI _).symm h
  · exact List.forall_mem_cons.mpr ⟨q_can_i _, (List.forall_mem_cons.mp hs).2⟩
theorem q_s_i2l (hC : q_Cx p R s m args meth c mi) {x : Int} (hdg : decode (q_cc mi) pc = .ok (.i2l, 1)) (k : q_Good p l e R s m args below meth c D dA A H0 Q mi ov E' w' (pc + 1) loc (.inr (.inl (q_i2l x)) :: st) E w) : q_Good p l e R s m args below meth c D dA A H0 Q mi ov E' w' pc loc (.inl x :: st) E w := by
  refine q_push (n := 1) (fun ad rs H locs ls cells slots hL hs => ⟨fun h => ?_, ?_⟩) k
  · exact lv_i2l hC.1 hC.2.1 hdg rfl h
  · exact List.forall_mem_cons.mpr ⟨trivial, (List.forall_mem_cons.mp hs).2⟩
theorem q_s_ladd (hC : q_Cx p R s m args meth c mi) {x y : Int64} (hdg : decode (q_cc mi) pc = .ok (.ladd, 1)) (k : q_Good p l e R s m args below meth c D dA A H0 Q mi ov E' w' (pc + 1) loc (.inr (.inl (x + y)) :: st) E w) : q_Good p l e R s m args below meth c D dA A H0 Q mi ov E' w' pc loc (.inr (.inl y) :: .inr (.inl x) :: st) E w := by
  refine q_push (n := 1) (fun ad rs H locs ls cells slots hL hs => ⟨fun h => ?_, ?_⟩) k
  · exact lv_ladd hC.1 hC.2.1 hdg h
  · exact List.forall_mem_cons.mpr ⟨trivial, (List.forall_mem_cons.mp (List.forall_mem_cons.mp hs).2).2⟩
theorem q_s_lsub (hC : q_Cx p R s m args meth c mi) {x y : Int64} (hdg : decode (q_cc mi) pc = .ok (.lsub, 1)) (k : q_Good p l e R s m args below meth c D dA A H0 Q mi ov E' w' (pc + 1) loc (.inr (.inl (x - y)) :: st) E w) : q_Good p l e R s m args below meth c D dA A H0 Q mi ov E' w' pc loc (.inr (.inl y) :: .inr (.inl x) :: st) E w := by
  refine q_push (n := 1) (fun ad rs H locs ls cells slots hL hs => ⟨fun h => ?_, ?_⟩) k
  · exact lv_lsub hC.1 hC.2.1 hdg h
  · exact List.forall_mem_cons.mpr ⟨trivial, (List.forall_mem_cons.mp (List.forall_mem_cons.mp hs).2).2⟩
theorem q_s_lmul (hC : q_Cx p R s m args meth c mi) {x y : Int64} (hdg : decode (q_cc mi) pc = .ok (.lmul, 1)) (k : q_Good p l e R s m args below meth c D dA A H0 Q mi ov E' w' (pc + 1) loc (.inr (.inl (x * y)) :: st) E w) : q_Good p l e R s m args below meth c D dA A H0 Q mi ov E' w' pc loc (.inr (.inl y) :: .inr (.inl x) :: st) E w := by
  refine q_push (n := 1) (fun ad rs H locs ls cells slots hL hs => ⟨fun h => ?_, ?_⟩) k
  · exact lv_lmul hC.1 hC.2.1 hdg h
  · exact List.forall_mem_cons.mpr ⟨trivial, (List.forall_mem_cons.mp (List.forall_mem_cons.mp hs).2).2⟩
theorem q_s_lneg (hC : q_Cx p R s m args meth c mi) {x : Int64} (hdg : decode (q_cc mi) pc = .ok (.lneg, 1)) (k : q_Good p l e R s m args below meth c D dA A H0 Q mi ov E' w' (pc + 1) loc (.inr (.inl (-x)) :: st) E w) : q_Good p l e R s m args below meth c D dA A H0 Q mi ov E' w' pc loc (.inr (.inl x) :: st) E w := by
  refine q_push (n := 1) (fun ad rs H locs ls cells slots hL hs => ⟨fun h => ?_, ?_⟩) k
  · exact lv_lneg hC.1 hC.2.1 hdg h
  · exact List.forall_mem_cons.mpr ⟨trivial, (List.forall_mem_cons.mp hs).2⟩
theorem q_s_lcmp (hC : q_Cx p R s m args meth c mi) {x y : Int64} (hdg : decode (q_cc mi) pc = .ok (.lcmp, 1)) (k : q_Good p l e R s m args below meth c D dA A H0 Q mi ov E' w' (pc + 1) loc (.inl (q_lcmp x y) :: st) E w) : q_Good p l e R s m args below meth c D dA A H0 Q mi ov E' w' pc loc (.inr (.inl y) :: .inr (.inl x) :: st) E w := by
  refine q_push (n := 1) (fun ad rs H locs ls cells slots hL hs => ⟨fun h => ?_, ?_⟩) k
  · exact W.lcmp hC.1 hC.2.1 hdg (by rw [← q_ofI (lg_cmp x y)]; exact h)
  · exact List.forall_mem_cons.mpr ⟨q_can_i _, (List.forall_mem_cons.mp (List.forall_mem_cons.mp hs).2).2⟩
theorem q_s_dup (hC : q_Cx p R s m args meth c mi) {v : qV} (hv : q_cat v = 1) (hdg : decode (q_cc mi) pc = .ok (.dup, 1)) (k : q_Good p l e R s m args below meth c D dA A H0 Q mi ov E' w' (pc + 1) loc (v :: v :: st) E w) : q_Good p l e R s m args below meth c D dA A H0 Q mi ov E' w' pc loc (v :: st) E w := by
  refine q_push (n := 1) (fun ad rs H locs ls cells slots hL hs => ⟨fun h => ?_, ?_⟩) k
  · exact lv_dup hC.1 hC.2.1 hdg ((q_m_cat ad v).trans hv) h
  · exact List.forall_mem_cons.mpr ⟨(List.forall_mem_cons.mp hs).1, hs⟩
theorem q_s_pop (hC : q_Cx p R s m args meth c mi) {v : qV} (hv : q_cat v = 1) (hdg : decode (q_cc mi) pc = .ok (.pop, 1)) (k : q_Good p l e R s m args below meth c D dA A H0 Q mi ov E' w' (pc + 1) loc (st) E w) : q_Good p l e R s m args below meth c D dA A H0 Q mi ov E' w' pc loc (v :: st) E w := by
  refine q_push (n := 1) (fun ad rs H locs ls cells slots hL hs => ⟨fun h => ?_, ?_⟩) k
  · exact lv_pop hC.1 hC.2.1 hdg ((q_m_cat ad v).trans hv) h
  · exact (List.forall_mem_cons.mp hs).2
theorem q_s_dup2 (hC : q_Cx p R s m args meth c mi) {u v : qV} (hv : q_cat v = 1) (hu : q_cat u = 1) (hdg : decode (q_cc mi) pc = .ok (.dup2, 1)) (k : q_Good p l e R s m args below meth c D dA A H0 Q mi ov E' w' (pc + 1) loc (v :: u :: v :: u :: st) E w) : q_Good p l e R s m args below meth c D dA A H0 Q mi ov E' w' pc loc (v :: u :: st) E w := by
  refine q_push (n := 1) (fun ad rs H locs ls cells slots hL hs => ⟨fun h => ?_, ?_⟩) k
  · exact lv_dup2_11 hC.1 hC.2.1 hdg ((q_m_cat ad v).trans hv) ((q_m_cat ad u).trans hu) h
  · exact List.forall_mem_cons.mpr ⟨(List.forall_mem_cons.mp hs).1, List.forall_mem_cons.mpr ⟨(List.forall_mem_cons.mp (List.forall_mem_cons.mp hs).2).1, hs⟩⟩
theorem q_s_istore (hC : q_Cx p R s m args meth c mi) {i : Nat} {x : Int} (hi : i < loc.length) (hdg : decode (q_cc mi) pc = .ok (.istore i, 2)) (k : q_Good p l e R s m args below meth c D dA A H0 Q mi ov E' w' (pc + 2) ((q_clr loc i).set i (some (.inl x))) st E w) : q_Good p l e R s m args below meth c D dA A H0 Q mi ov E' w' pc loc (.inl x :: st) E w := by
  refine q_pushL (n := 2) (fun ad rs H locs ls cells slots hL hs => ⟨fun h => ?_, (List.forall_mem_cons.mp hs).2⟩) k
  · exact lv_istore hC.1 hC.2.1 hdg (q_Lk_has hL) (Nat.lt_of_lt_of_le hi hL.1) rfl (fun ls2 h2 => h ls2 (q_Lk_st1 hL.1 (fun i u hu => (hL.2.2.2 i u hu).1) (v := .inl x) (List.forall_mem_cons.mp hs).1 h2))
theorem q_s_istore_n (hC : q_Cx p R s m args meth c mi) {i : Fin 4} {x : Int} (hi : (i : Nat) < loc.length) (hdg : decode (q_cc mi) pc = .ok (.istore_n i, 1)) (k : q_Good p l e R s m args below meth c D dA A H0 Q mi ov E' w' (pc + 1) ((q_clr loc (i : Nat)).set (i : Nat) (some (.inl x))) st E w) : q_Good p l e R s m args below meth c D dA A H0 Q mi ov E' w' pc loc (.inl x :: st) E w := by
  refine q_pushL (n := 1) (fun ad rs H locs ls cells slots hL hs => ⟨fun h => ?_, (List.forall_mem_cons.mp hs).2⟩) k
  · exact lv_istore_n hC.1 hC.2.1 hdg rfl (q_Lk_has hL) (Nat.lt_of_lt_of_le hi hL.1) rfl (fun ls2 h2 => h ls2 (q_Lk_st1 hL.1 (fun i u hu => (hL.2.2.2 i u hu).1) (v := .inl x) (List.forall_mem_cons.mp hs).1 h2))
theorem q_s_astore (hC : q_Cx p R s m args meth c mi) {i : Nat} {x : qR} (hi : i < loc.length) (hdg : decode (q_cc mi) pc = .ok (.astore i, 2)) (k : q_Good p l e R s m args below meth c D dA A H0 Q mi ov E' w' (pc + 2) ((q_clr loc i).set i (some (.inr (.inr x)))) st E w) : q_Good p l e R s m args below meth c D dA A H0 Q mi ov E' w' pc loc (.inr (.inr x) :: st) E w := by
  refine q_pushL (n := 2) (fun ad rs H locs ls cells slots hL hs => ⟨fun h => ?_, (List.forall_mem_cons.mp hs).2⟩) k
  · exact lv_astore hC.1 hC.2.1 hdg (q_Lk_has hL) (Nat.lt_of_lt_of_le hi hL.1) rfl (fun ls2 h2 => h ls2 (q_Lk_st1 hL.1 (fun i u hu => (hL.2.2.2 i u hu).1) (v := .inr (.inr x)) (List.forall_mem_cons.mp hs).1 h2))
theorem q_s_astore_n (hC : q_Cx p R s m args meth c mi) {i : Fin 4} {x : qR} (hi : (i : Nat) < loc.length) (hdg : decode (q_cc mi) pc = .ok (.astore_n i, 1)) (k : q_Good p l e R s m args below meth c D dA A H0 Q mi ov E' w' (pc + 1) ((q_clr loc (i : Nat)).set (i : Nat) (some (.inr (.inr x)))) st E w) : q_Good p l e R s m args below meth c D dA A H0 Q mi ov E' w' pc loc (.inr (.inr x) :: st) E w := by
  refine q_pushL (n := 1) (fun ad rs H locs ls cells slots hL hs => ⟨fun h => ?_, (List.forall_mem_cons.mp hs).2⟩) k
  · exact lv_astore_n hC.1 hC.2.1 hdg rfl (q_Lk_has hL) (Nat.lt_of_lt_of_le hi hL.1) rfl (fun ls2 h2 => h ls2 (q_Lk_st1 hL.1 (fun i u hu => (hL.2.2.2 i u hu).1) (v := .inr (.inr x)) (List.forall_mem_cons.mp hs).1 h2))
theorem q_s_lstore (hC : q_Cx p R s m args meth c mi) {i : Nat} {x : Int64} (hi : i + 1 < loc.length) (hdg : decode (q_cc mi) pc = .ok (.lstore i, 2)) (k : q_Good p l e R s m args below meth c D dA A H0 Q mi ov E' w' (pc + 2) (((q_clr loc i).set i (some (.inr (.inl x)))).set (i + 1) none) st E w) : q_Good p l e R s m args below meth c D dA A H0 Q mi ov E' w' pc loc (.inr (.inl x) :: st) E w := by
  refine q_pushL (n := 2) (fun ad rs H locs ls cells slots hL hs => ⟨fun h => ?_, (List.forall_mem_cons.mp hs).2⟩) k
  · exact lv_lstore hC.1 hC.2.1 hdg (q_Lk_has hL) (Nat.lt_of_lt_of_le hi hL.1) rfl (fun ls2 h2 => h ls2 (q_Lk_st2 hL.1 (fun i u hu => (hL.2.2.2 i u hu).1) (v := .inr (.inl x)) (List.forall_mem_cons.mp hs).1 h2))
theorem q_s_lstore_n (hC : q_Cx p R s m args meth c mi) {i : Fin 4} {x : Int64} (hi : (i : Nat) + 1 < loc.length) (hdg : decode (q_cc mi) pc = .ok (.lstore_n i, 1)) (k : q_Good p l e R s m args below meth c D dA A H0 Q mi ov E' w' (pc + 1) (((q_clr loc (i : Nat)).set (i : Nat) (some (.inr (.inl x)))).set ((i : Nat) + 1) none) st E w) : q_Good p l e R s m args below meth c D dA A H0 Q mi ov E' w' pc loc (.inr (.inl x) :: st) E w := by
  refine q_pushL (n := 1) (fun ad rs H locs ls cells slots hL hs => ⟨fun h => ?_, (List.forall_mem_cons.mp hs).2⟩) k
  · exact lv_lstore_n hC.1 hC.2.1 hdg rfl (q_Lk_has hL) (Nat.lt_of_lt_of_le hi hL.1) rfl (fun ls2 h2 => h ls2 (q_Lk_st2 hL.1 (fun i u hu => (hL.2.2.2 i u hu).1) (v := .inr (.inl x)) (List.forall_mem_cons.mp hs).1 h2))
theorem q_s_iinc (hC : q_Cx p R s m args meth c mi) {i : Nat} {n x : Int} (hi : loc[i]? = some (some (.inl x))) (hdg : decode (q_cc mi) pc = .ok (.iinc i n, 3)) (k : q_Good p l e R s m args below meth c D dA A H0 Q mi ov E' w' (pc + 3) ((q_clr loc i).set i (some (.inl (q_w (x + n))))) st E w) : q_Good p l e R s m args below meth c D dA A H0 Q mi ov E' w' pc loc st E w := by
  refine q_pushL (n := 3) (fun ad rs H locs ls cells slots hL hs => ⟨fun h => ?_, hs⟩) k
  obtain ⟨k0, hk0⟩ := List.getElem?_of_mem (q_LL_mem.mpr ⟨_, hi, rfl⟩ : (i, q_m ad (.inl x)) ∈ q_LL ad loc)
  exact lv_iinc hC.1 hC.2.1 hdg (q_Lk_has hL) hk0 (q_e_add x n).symm (Nat.lt_of_lt_of_le (List.getElem?_eq_some_iff.mp hi).1 hL.1) rfl (fun ls2 h2 => h ls2 (q_Lk_st1 hL.1 (fun i u hu => (hL.2.2.2 i u hu).1) (v := .inl (q_w (x + n))) (q_can_w _) h2))
theorem q_s_icmp_eq (hC : q_Cx p R s m args meth c mi) {x y : Int} {off : Int} {tgt : Nat} (hdg : decode (q_cc mi) pc = .ok (.if_icmp .eq off, 3)) (ht : (pc : Int) + off = (tgt : Int)) (k1 : x = y → q_Good p l e R s m args below meth c D dA A H0 Q mi ov E' w' tgt loc st E w) (k2 : ¬ (x = y) → q_Good p l e R s m args below meth c D dA A H0 Q mi ov E' w' (pc + 3) loc st E w) : q_Good p l e R s m args below meth c D dA A H0 Q mi ov E' w' pc loc (.inl y :: .inl x :: st) E w := by
  refine q_pushB (fun ad rs H locs ls cells slots hL hs => ⟨fun h1 h2 => ?_, (List.forall_mem_cons.mp (List.forall_mem_cons.mp hs).2).2⟩) k1 k2
  exact lv_icmp_eq hC.1 hC.2.1 hdg ht (fun q => h1 ((q_e_eq (List.forall_mem_cons.mp (List.forall_mem_cons.mp hs).2).1 (List.forall_mem_cons.mp hs).1).mp q)) (fun q => h2 (fun z => q ((q_e_eq (List.forall_mem_cons.mp (List.forall_mem_cons.mp hs).2).1 (List.forall_mem_cons.mp hs).1).mpr z)))
theorem q_s_icmp_ne (hC : q_Cx p R s m args meth c mi) {x y : Int} {off : Int} {tgt : Nat} (hdg : decode (q_cc mi) pc = .ok (.if_icmp .ne off, 3)) (ht : (pc : Int) + off = (tgt : Int)) (k1 : ¬ x = y → q_Good p l e R s m args below meth c D dA A H0 Q mi ov E' w' tgt loc st E w) (k2 : ¬ (¬ x = y) → q_Good p l e R s m args below meth c D dA A H0 Q mi ov E' w' (pc + 3) loc st E w) : q_Good p l e R s m args below meth c D dA A H0 Q mi ov E' w' pc loc (.inl y :: .inl x :: st) E w := by
  refine q_pushB (fun ad rs H locs ls cells slots hL hs => ⟨fun h1 h2 => ?_, (List.forall_mem_cons.mp (List.forall_mem_cons.mp hs).2).2⟩) k1 k2
  exact lv_icmp_ne hC.1 hC.2.1 hdg ht (fun q => h1 ((not_congr (q_e_eq (List.forall_mem_cons.mp (List.forall_mem_cons.mp hs).2).1 (List.forall_mem_cons.mp hs).1)).mp q)) (fun q => h2 (fun z => z ((q_e_eq (List.forall_mem_cons.mp (List.forall_mem_cons.mp hs).2).1 (List.forall_mem_cons.mp hs).1).mp q)))
theorem q_s_icmp_lt (hC : q_Cx p R s m args meth c mi) {x y : Int} {off : Int} {tgt : Nat} (hdg : decode (q_cc mi) pc = .ok (.if_icmp .lt off, 3)) (ht : (pc : Int) + off = (tgt : Int)) (k1 : x < y → q_Good p l e R s m args below meth c D dA A H0 Q mi ov E' w' tgt loc st E w) (k2 : ¬ (x < y) → q_Good p l e R s m args below meth c D dA A H0 Q mi ov E' w' (pc + 3) loc st E w) : q_Good p l e R s m args below meth c D dA A H0 Q mi ov E' w' pc loc (.inl y :: .inl x :: st) E w := by
  refine q_pushB (fun ad rs H locs ls cells slots hL hs => ⟨fun h1 h2 => ?_, (List.forall_mem_cons.mp (List.forall_mem_cons.mp hs).2).2⟩) k1 k2
  exact lv_icmp_lt hC.1 hC.2.1 hdg ht (fun q => h1 ((q_e_lt (List.forall_mem_cons.mp (List.forall_mem_cons.mp hs).2).1 (List.forall_mem_cons.mp hs).1).mp q)) (fun q => h2 (fun z => q ((q_e_lt (List.forall_mem_cons.mp (List.forall_mem_cons.mp hs).2).1 (List.forall_mem_cons.mp hs).1).mpr z)))
theorem q_s_icmp_ge (hC : q_Cx p R s m args meth c mi) {x y : Int} {off : Int} {tgt : Nat} (hdg : decode (q_cc mi) pc = .ok (.if_icmp .ge off, 3)) (ht : (pc : Int) + off = (tgt : Int)) (k1 : y ≤ x → q_Good p l e R s m args below meth c D dA A H0 Q mi ov E' w' tgt loc st E w) (k2 : ¬ (y ≤ x) → q_Good p l e R s m args below meth c D dA A H0 Q mi ov E' w' (pc + 3) loc st E w) : q_Good p l e R s m args below meth c D dA A H0 Q mi ov E' w' pc loc (.inl y :: .inl x :: st) E w := by
  refine q_pushB (fun ad rs H locs ls cells slots hL hs => ⟨fun h1 h2 => ?_, (List.forall_mem_cons.mp (List.forall_mem_cons.mp hs).2).2⟩) k1 k2
  exact lv_icmp_ge hC.1 hC.2.1 hdg ht (fun q => h1 ((q_e_le (List.forall_mem_cons.mp hs).1 (List.forall_mem_cons.mp (List.forall_mem_cons.mp hs).2).1).mp q)) (fun q => h2 (fun z => q ((q_e_le (List.forall_mem_cons.mp hs).1 (List.forall_mem_cons.mp (List.forall_mem_cons.mp hs).2).1).mpr z)))
theorem q_s_icmp_gt (hC : q_Cx p R s m args meth c mi) {x y : Int} {off : Int} {tgt : Nat} (hdg : decode (q_cc mi) pc = .ok (.if_icmp .gt off, 3)) (ht : (pc : Int) + off = (tgt : Int)) (k1 : y < x → q_Good p l e R s m args below meth c D dA A H0 Q mi ov E' w' tgt loc st E w) (k2 : ¬ (y < x) → q_Good p l e R s m args below meth c D dA A H0 Q mi ov E' w' (pc + 3) loc st E w) : q_Good p l e R s m args below meth c D dA A H0 Q mi ov E' w' pc loc (.inl y :: .inl x :: st) E w := by
  refine q_pushB (fun ad rs H locs ls cells slots hL hs => ⟨fun h1 h2 => ?_, (List.forall_mem_cons.mp (List.forall_mem_cons.mp hs).2).2⟩) k1 k2
  exact lv_icmp_gt hC.1 hC.2.1 hdg ht (fun q => h1 ((q_e_lt (List.forall_mem_cons.mp hs).1 (List.forall_mem_cons.mp (List.forall_mem_cons.mp hs).2).1).mp q)) (fun q => h2 (fun z => q ((q_e_lt (List.forall_mem_cons.mp hs).1 (List.forall_mem_cons.mp (List.forall_mem_cons.mp hs).2).1).mpr z)))
theorem q_s_icmp_le (hC : q_Cx p R s m args meth c mi) {x y : Int} {off : Int} {tgt : Nat} (hdg : decode (q_cc mi) pc = .ok (.if_icmp .le off, 3)) (ht : (pc : Int) + off = (tgt : Int)) (k1 : x ≤ y → q_Good p l e R s m args below meth c D dA A H0 Q mi ov E' w' tgt loc st E w) (k2 : ¬ (x ≤ y) → q_Good p l e R s m args below meth c D dA A H0 Q mi ov E' w' (pc + 3) loc st E w) : q_Good p l e R s m args below meth c D dA A H0 Q mi ov E' w' pc loc (.inl y :: .inl x :: st) E w := by
  refine q_pushB (fun ad rs H locs ls cells slots hL hs => ⟨fun h1 h2 => ?_, (List.forall_mem_cons.mp (List.forall_mem_cons.mp hs).2).2⟩) k1 k2
  exact lv_icmp_le hC.1 hC.2.1 hdg ht (fun q => h1 ((q_e_le (List.forall_mem_cons.mp (List.forall_mem_cons.mp hs).2).1 (List.forall_mem_cons.mp hs).1).mp q)) (fun q => h2 (fun z => q ((q_e_le (List.forall_mem_cons.mp (List.forall_mem_cons.mp hs).2).1 (List.forall_mem_cons.mp hs).1).mpr z)))
theorem q_s_if_eq (hC : q_Cx p R s m args meth c mi) {x : Int} {off : Int} {tgt : Nat} (hdg : decode (q_cc mi) pc = .ok (.ifCond .eq off, 3)) (ht : (pc : Int) + off = (tgt : Int)) (k1 : x = 0 → q_Good p l e R s m args below meth c D dA A H0 Q mi ov E' w' tgt loc st E w) (k2 : ¬ (x = 0) → q_Good p l e R s m args below meth c D dA A H0 Q mi ov E' w' (pc + 3) loc st E w) : q_Good p l e R s m args below meth c D dA A H0 Q mi ov E' w' pc loc (.inl x :: st) E w := by
  refine q_pushB (fun ad rs H locs ls cells slots hL hs => ⟨fun h1 h2 => ?_, (List.forall_mem_cons.mp hs).2⟩) k1 k2
  exact lv_if_eq hC.1 hC.2.1 hdg ht (fun q => h1 ((q_e_eq (List.forall_mem_cons.mp hs).1 q_can_0).mp q)) (fun q => h2 (fun z => q ((q_e_eq (List.forall_mem_cons.mp hs).1 q_can_0).mpr z)))
theorem q_s_if_ne (hC : q_Cx p R s m args meth c mi) {x : Int} {off : Int} {tgt : Nat} (hdg : decode (q_cc mi) pc = .ok (.ifCond .ne off, 3)) (ht : (pc : Int) + off = (tgt : Int)) (k1 : ¬ x = 0 → q_Good p l e R s m args below meth c D dA A H0 Q mi ov E' w' tgt loc st E w) (k2 : ¬ (¬ x = 0) → q_Good p l e R s m args below meth c D dA A H0 Q mi ov E' w' (pc + 3) loc st E w) : q_Good p l e R s m args below meth c D dA A H0 Q mi ov E' w' pc loc (.inl x :: st) E w := by
  refine q_pushB (fun ad rs H locs ls cells slots hL hs => ⟨fun h1 h2 => ?_, (List.forall_mem_cons.mp hs).2⟩) k1 k2
  exact lv_if_ne hC.1 hC.2.1 hdg ht (fun q => h1 ((not_congr (q_e_eq (List.forall_mem_cons.mp hs).1 q_can_0)).mp q)) (fun q => h2 (fun z => z ((q_e_eq (List.forall_mem_cons.mp hs).1 q_can_0).mp q)))
theorem q_s_if_lt (hC : q_Cx p R s m args meth c mi) {x : Int} {off : Int} {tgt : Nat} (hdg : decode (q_cc mi) pc = .ok (.ifCond .lt off, 3)) (ht : (pc : Int) + off = (tgt : Int)) (k1 : x < 0 → q_Good p l e R s m args below meth c D dA A H0 Q mi ov E' w' tgt loc st E w) (k2 : ¬ (x < 0) → q_Good p l e R s m args below meth c D dA A H0 Q mi ov E' w' (pc + 3) loc st E w) : q_Good p l e R s m args below meth c D dA A H0 Q mi ov E' w' pc loc (.inl x :: st) E w := by
  refine q_pushB (fun ad rs H locs ls cells slots hL hs => ⟨fun h1 h2 => ?_, (List.forall_mem_cons.mp hs).2⟩) k1 k2
  exact lv_if_lt hC.1 hC.2.1 hdg ht (fun q => h1 ((q_e_lt (List.forall_mem_cons.mp hs).1 q_can_0).mp q)) (fun q => h2 (fun z => q ((q_e_lt (List.forall_mem_cons.mp hs).1 q_can_0).mpr z)))
theorem q_s_if_ge (hC : q_Cx p R s m args meth c mi) {x : Int} {off : Int} {tgt : Nat} (hdg : decode (q_cc mi) pc = .ok (.ifCond .ge off, 3)) (ht : (pc : Int) + off = (tgt : Int)) (k1 : 0 ≤ x → q_Good p l e R s m args below meth c D dA A H0 Q mi ov E' w' tgt loc st E w) (k2 : ¬ (0 ≤ x) → q_Good p l e R s m args below meth c D dA A H0 Q mi ov E' w' (pc + 3) loc st E w) : q_Good p l e R s m args below meth c D dA A H0 Q mi ov E' w' pc loc (.inl x :: st) E w := by
  refine q_pushB (fun ad rs H locs ls cells slots hL hs => ⟨fun h1 h2 => ?_, (List.forall_mem_cons.mp hs).2⟩) k1 k2
  exact lv_if_ge hC.1 hC.2.1 hdg ht (fun q => h1 ((q_e_le q_can_0 (List.forall_mem_cons.mp hs).1).mp q)) (fun q => h2 (fun z => q ((q_e_le q_can_0 (List.forall_mem_cons.mp hs).1).mpr z)))
theorem q_s_if_gt (hC : q_Cx p R s m args meth c mi) {x : Int} {off : Int} {tgt : Nat} (hdg : decode (q_cc mi) pc = .ok (.ifCond .gt off, 3)) (ht : (pc : Int) + off = (tgt : Int)) (k1 : 0 < x → q_Good p l e R s m args below meth c D dA A H0 Q mi ov E' w' tgt loc st E w) (k2 : ¬ (0 < x) → q_Good p l e R s m args below meth c D dA A H0 Q mi ov E' w' (pc + 3) loc st E w) : q_Good p l e R s m args below meth c D dA A H0 Q mi ov E' w' pc loc (.inl x :: st) E w := by
  refine q_pushB (fun ad rs H locs ls cells slots hL hs => ⟨fun h1 h2 => ?_, (List.forall_mem_cons.mp hs).2⟩) k1 k2
  exact lv_if_gt hC.1 hC.2.1 hdg ht (fun q => h1 ((q_e_lt q_can_0 (List.forall_mem_cons.mp hs).1).mp q)) (fun q => h2 (fun z => q ((q_e_lt q_can_0 (List.forall_mem_cons.mp hs).1).mpr z)))
theorem q_s_if_le (hC : q_Cx p R s m args meth c mi) {x : Int} {off : Int} {tgt : Nat} (hdg : decode (q_cc mi) pc = .ok (.ifCond .le off, 3)) (ht : (pc : Int) + off = (tgt : Int)) (k1 : x ≤ 0 → q_Good p l e R s m args below meth c D dA A H0 Q mi ov E' w' tgt loc st E w) (k2 : ¬ (x ≤ 0) → q_Good p l e R s m args below meth c D dA A H0 Q mi ov E' w' (pc + 3) loc st E w) : q_Good p l e R s m args below meth c D dA A H0 Q mi ov E' w' pc loc (.inl x :: st) E w := by
  refine q_pushB (fun ad rs H locs ls cells slots hL hs => ⟨fun h1 h2 => ?_, (List.forall_mem_cons.mp hs).2⟩) k1 k2
  exact lv_if_le hC.1 hC.2.1 hdg ht (fun q => h1 ((q_e_le (List.forall_mem_cons.mp hs).1 q_can_0).mp q)) (fun q => h2 (fun z => q ((q_e_le (List.forall_mem_cons.mp hs).1 q_can_0).mpr z)))
theorem q_s_goto (hC : q_Cx p R s m args meth c mi) {off : Int} {tgt : Nat} (hdg : decode (q_cc mi) pc = .ok (.goto off, 3)) (ht : (pc : Int) + off = (tgt : Int)) (k : q_Good p l e R s m args below meth c D dA A H0 Q mi ov E' w' tgt loc st E w) : q_Good p l e R s m args below meth c D dA A H0 Q mi ov E' w' pc loc st E w := by
  intro ad rs H locs ls cells slots hSt hL hs hSc h1 h2 h3 hK
  exact lv_goto hC.1 hC.2.1 hdg ht (k ad rs H locs ls cells slots hSt hL hs hSc h1 h2 h3 hK)
end QS
end
section
/-! the steps that read and write cells -/
theorem q_rs_of {rs : List qR} {E : qE} {w : qW} {r : qR} {kn : Nat × Nat} (hV : q_V rs E w) (ho : q_old rs r) (he : E.1 r = some kn) (hk : kn.1 ≠ 99) : r ∈ rs := by
  rcases ho with h | h
  · exact h
  · subst h
    exact absurd (hV.2.2.2.2.2.1 kn he) hk
theorem q_kok_of {rs : List qR} {E : qE} {w : qW} {r : qR} {kn : Nat × Nat} (hV : q_V rs E w) (hr : r ∈ rs) (he : E.1 r = some kn) : q_kok kn := by
  obtain ⟨kn', h1, h2⟩ := hV.1 r hr
  rw [he] at h1
  cases h1
  exact h2
theorem q_cell_o {dA : Nat → ClassId} {env : qR → Option (Nat × Nat)} {w : qW} {ad : qR → Nat} {r : qR} {ci : Nat} (he : env r = some (0, ci)) : q_cell dA env w ad r = .inr (ci, q_flds w ad r ci) := by
  unfold q_cell
  rw [he]
  rfl
theorem q_cell_i {dA : Nat → ClassId} {env : qR → Option (Nat × Nat)} {w : qW} {ad : qR → Nat} {r : qR} {k n : Nat} (he : env r = some (k, n)) (hk : k = 1 ∨ k = 2 ∨ k = 3) : q_cell dA env w ad r = .inl (dA k, n, .inl (fun j => Int32.ofInt (w.1 r.1 r.2 j))) := by
  unfold q_cell
  rw [he]
  rcases hk with rfl | rfl | rfl <;> rfl
theorem q_cell_l {dA : Nat → ClassId} {env : qR → Option (Nat × Nat)} {w : qW} {ad : qR → Nat} {r : qR} {n : Nat} (he : env r = some (4, n)) : q_cell dA env w ad r = .inl (dA 4, n, .inr (.inl (fun j => w.2.1 r.1 r.2 j))) := by
  unfold q_cell
  rw [he]
  rfl
theorem q_cell_q {dA : Nat → ClassId} {env : qR → Option (Nat × Nat)} {w : qW} {ad : qR → Nat} {r : qR} {k n : Nat} (he : env r = some (k, n)) (hk : 5 ≤ k) : q_cell dA env w ad r = .inl (dA k, n, .inr (.inr (.inr (.inr (fun j => if j < n then (w.2.2 r.1 r.2 j).map ad else none))))) := by
  unfold q_cell
  rw [he]
  dsimp only
  rw [if_neg (by omega), if_neg (by omega), if_neg (by omega)]
theorem q_flds_at {w : qW} {ad : qR → Nat} {r : qR} {ci b cd : Nat} (hft : (q_ft ci)[b]? = some cd) : (q_flds w ad r ci)[b]? = some (q_fv w ad r b cd) := by
  unfold q_flds
  rw [List.getElem?_map, List.getElem?_zipIdx, hft]
  simp
theorem q_flds_len {w : qW} {ad : qR → Nat} {r : qR} {ci : Nat} : (q_flds w ad r ci).length = (q_ft ci).length := by
  unfold q_flds
  simp
/-- another value in one field -/
theorem q_flds_set {w w2 : qW} {ad : qR → Nat} {r : qR} {ci b cd : Nat} {v : Value} (hft : (q_ft ci)[b]? = some cd) (hv : q_fv w2 ad r b cd = v) (ho : ∀ j cd', j ≠ b → q_fv w2 ad r j cd' = q_fv w ad r j cd') : (q_flds w ad r ci).set b v = q_flds w2 ad r ci := by
  refine List.ext_getElem? fun j => ?_
  by_cases hj : b = j
  · subst hj
    have hl : b < (q_flds w ad r ci).length := by rw [q_flds_len]; exact (List.getElem?_eq_some_iff.mp hft).1
    rw [List.getElem?_set_self hl, q_flds_at hft, hv]
  · rw [List.getElem?_set_ne hj]
    cases hq : (q_ft ci)[j]? with
    | none =>
      have : (q_ft ci).length ≤ j := List.getElem?_eq_none_iff.mp hq
      rw [List.getElem?_eq_none (by rw [q_flds_len]; exact this), List.getElem?_eq_none (by rw [q_flds_len]; exact this)]
    | some cd' => rw [q_flds_at hq, q_flds_at hq, ho j cd' (fun z => hj z.symm)]
theorem q_cell_oth {dA : Nat → ClassId} {env : qR → Option (Nat × Nat)} {w w2 : qW} {ad : qR → Nat} {r : qR} (h : ∀ k, w2.1 r.1 r.2 k = w.1 r.1 r.2 k ∧ w2.2.1 r.1 r.2 k = w.2.1 r.1 r.2 k ∧ w2.2.2 r.1 r.2 k = w.2.2 r.1 r.2 k) : q_cell dA env w2 ad r = q_cell dA env w ad r := by
  have e1 : (fun j => w2.1 r.1 r.2 j) = fun j => w.1 r.1 r.2 j := funext fun j => (h j).1
  have e2 : (fun j => w2.2.1 r.1 r.2 j) = fun j => w.2.1 r.1 r.2 j := funext fun j => (h j).2.1
  have e3 : q_fv w2 ad r = q_fv w ad r := by
    funext b cd
    unfold q_fv
    rw [(h b).1, (h b).2.2]
  unfold q_cell q_flds
  simp only [(h _).1, (h _).2.1, (h _).2.2, e3]
theorem q_setI_ne {w : qW} {r r' : qR} {j : Nat} {x : Int} (h : r' ≠ r) (k : Nat) : (q_setI w r.1 r.2 j x).1 r'.1 r'.2 k = w.1 r'.1 r'.2 k := by
  unfold q_setI
  dsimp only
  rw [if_neg]
  exact fun z => h (Prod.ext z.1 z.2.1)
theorem q_setL_ne {w : qW} {r r' : qR} {j : Nat} {x : Int64} (h : r' ≠ r) (k : Nat) : (q_setL w r.1 r.2 j x).2.1 r'.1 r'.2 k = w.2.1 r'.1 r'.2 k := by
  unfold q_setL
  dsimp only
  rw [if_neg]
  exact fun z => h (Prod.ext z.1 z.2.1)
theorem q_setR_ne {w : qW} {r r' : qR} {j : Nat} {x : Option qR} (h : r' ≠ r) (k : Nat) : (q_setR w r.1 r.2 j x).2.2 r'.1 r'.2 k = w.2.2 r'.1 r'.2 k := by
  unfold q_setR
  dsimp only
  rw [if_neg]
  exact fun z => h (Prod.ext z.1 z.2.1)
theorem q_V_setI {rs : List qR} {E : qE} {w : qW} {r : qR} {j : Nat} {x : Int} (hV : q_V rs E w) (hr : r ∈ rs) (hx : q_can x) : q_V rs E (q_setI w r.1 r.2 j x) := by
  obtain ⟨v1, v2, v3, v4, v5, v6, v7⟩ := hV
  refine ⟨v1, fun t i k => ?_, v3, v4, fun i hi k => ⟨?_, (v5 i hi k).2⟩, v6, v7⟩
  · unfold q_setI
    dsimp only
    split
    · exact hx
    · exact v2 t i k
  · unfold q_setI
    dsimp only
    rw [if_neg]
    · exact (v5 i hi k).1
    · rintro ⟨z1, z2, -⟩
      have := v4 i (by rw [z1, z2]; exact hr)
      omega
theorem q_V_setL {rs : List qR} {E : qE} {w : qW} {r : qR} {j : Nat} {x : Int64} (hV : q_V rs E w) (hr : r ∈ rs) : q_V rs E (q_setL w r.1 r.2 j x) := by
  obtain ⟨v1, v2, v3, v4, v5, v6, v7⟩ := hV
  refine ⟨v1, v2, v3, v4, fun i hi k => ⟨(v5 i hi k).1, ?_, (v5 i hi k).2.2⟩, v6, v7⟩
  unfold q_setL
  dsimp only
  rw [if_neg]
  · exact (v5 i hi k).2.1
  · rintro ⟨z1, z2, -⟩
    have := v4 i (by rw [z1, z2]; exact hr)
    omega
theorem q_V_setR {rs : List qR} {E : qE} {w : qW} {r x : qR} {j : Nat} (hV : q_V rs E w) (hr : r ∈ rs) (hx : x ∈ rs) : q_V rs E (q_setR w r.1 r.2 j (some x)) := by
  obtain ⟨v1, v2, v3, v4, v5, v6, v7⟩ := hV
  refine ⟨v1, v2, fun r1 h1 kn hk k r' he h5 => ?_, v4, fun i hi k => ⟨(v5 i hi k).1, (v5 i hi k).2.1, ?_⟩, v6, v7⟩
  · unfold q_setR at he
    dsimp only at he
    split at he
    · cases he; exact hx
    · exact v3 r1 h1 kn hk k r' he h5
  · unfold q_setR
    dsimp only
    rw [if_neg]
    · exact (v5 i hi k).2.2
    · rintro ⟨z1, z2, -⟩
      have := v4 i (by rw [z1, z2]; exact hr)
      omega
theorem q_Sc_of {mi : Nat} {s : State} {A : Nat → Prop} {H0 : Heap} {ad : qR → Nat} {env : qR → Option (Nat × Nat)} {w w2 : qW} (h : q_Sc mi s A H0 ad env w) (h0 : ∀ i k, w2.1 1 i k = w.1 1 i k) : q_Sc mi s A H0 ad env w2 := by
  intro hm
  obtain ⟨b, L, xs, a1, a2, a3, a4, a7, a5⟩ := h hm
  exact ⟨b, L, xs, a1, a2, a3, a4, a7, fun hn => ⟨fun k hk => by rw [h0]; exact (a5 hn).1 k hk, by rw [h0]; exact (a5 hn).2⟩⟩
theorem q_setI_sc {rs : List qR} {E : qE} {w : qW} {r : qR} {j : Nat} {x : Int} (hV : q_V rs E w) (hr : r ∈ rs) (i k : Nat) : (q_setI w r.1 r.2 j x).1 1 i k = w.1 1 i k := by
  unfold q_setI
  dsimp only
  rw [if_neg]
  rintro ⟨z1, z2, -⟩
  exact hV.2.2.2.2.2.2.1 r.2 (by rw [z1]; exact hr)

section QH
variable {p : Program} {l : Launch} {e : Env} {R : Room} {s : State} {m : MethodId} {args : Array Value} {below : List Frame} {meth : Method} {c : Code} {D : va_G} {dA : Nat → ClassId} {A : Nat → Prop} {H0 : Heap} {Q : State → Prop} {mi : Nat} {ov : Option qV} {E' E : qE} {w' w : qW} {pc : Nat} {loc : qLo} {st : List qV}
theorem q_s_getI (hC : q_Cx p R s m args meth c mi) (hK0 : va_K D q_cls (q_tys dA) s) {r : qR} {ci b idx cd : Nat} {C : String} {T : u_T} {N : Nat} (hc : q_cls[ci]? = some (C, T, N)) (hb : b < N) (hw : Cond.fieldLink (q_y mi).cls idx C (T b).2.1 (T b).2.2.1 ∈ q_W) (hd : (T b).1 = C) (hft : (q_ft ci)[b]? = some cd) (he : E.1 r = some (0, ci)) (hcd : cd = 0)  (hdg : decode (q_cc mi) pc = .ok (.getfield idx, 3)) (k : q_Good p l e R s m args below meth c D dA A H0 Q mi ov E' w' (pc + 3) loc (.inl (w.1 r.1 r.2 b) :: st) E w) : q_Good p l e R s m args below meth c D dA A H0 Q mi ov E' w' pc loc (.inr (.inr r) :: st) E w := by
  subst hcd
  intro ad rs H locs ls cells slots hSt hL hs hSc h1 h2 h3 hK
  obtain ⟨hV, hP, hD, hS⟩ := id hSt
  have hin := q_rs_of hV (List.forall_mem_cons.mp hs).1 he (by simp)
  obtain ⟨q0, -, hq⟩ := q_ws_at (dA := dA) (env := E.1) (w := w) (ad := ad) hin
  rw [q_cell_o he] at hq
  obtain ⟨c1, c2, c3, c4⟩ := q_cls_ok ci C T N hc
  exact va_get hC.1 hC.2.1 hC.2.2.2.2.1 (q_cls_W hc) hC.2.2.2.1 hK0 hP q0 hq hc b hb (hC.2.2.2.2.1 _ hw) (fun x hx => by rw [hd] at hx; exact hx) (q_flds_at hft) hdg (k ad rs H locs ls cells slots hSt hL (List.forall_mem_cons.mpr ⟨hSt.1.2.1 _ _ _, (List.forall_mem_cons.mp hs).2⟩) hSc h1 h2 h3 hK)
theorem q_s_getR (hC : q_Cx p R s m args meth c mi) (hK0 : va_K D q_cls (q_tys dA) s) {r : qR} {ci b idx cd : Nat} {C : String} {T : u_T} {N : Nat} (hc : q_cls[ci]? = some (C, T, N)) (hb : b < N) (hw : Cond.fieldLink (q_y mi).cls idx C (T b).2.1 (T b).2.2.1 ∈ q_W) (hd : (T b).1 = C) (hft : (q_ft ci)[b]? = some cd) (he : E.1 r = some (0, ci)) (hcd : cd = 2) {r' : qR} (hr : w.2.2 r.1 r.2 b = some r') (hdg : decode (q_cc mi) pc = .ok (.getfield idx, 3)) (k : q_Good p l e R s m args below meth c D dA A H0 Q mi ov E' w' (pc + 3) loc ((.inr (.inr r')) :: st) E w) : q_Good p l e R s m args below meth c D dA A H0 Q mi ov E' w' pc loc (.inr (.inr r) :: st) E w := by
  subst hcd
  intro ad rs H locs ls cells slots hSt hL hs hSc h1 h2 h3 hK
  obtain ⟨hV, hP, hD, hS⟩ := id hSt
  have hin := q_rs_of hV (List.forall_mem_cons.mp hs).1 he (by simp)
  obtain ⟨q0, -, hq⟩ := q_ws_at (dA := dA) (env := E.1) (w := w) (ad := ad) hin
  rw [q_cell_o he] at hq
  obtain ⟨c1, c2, c3, c4⟩ := q_cls_ok ci C T N hc
  have hm : r' ∈ rs := hV.2.2.1 r hin _ he b r' hr (fun h => by simp at h)
  have hf := q_flds_at (w := w) (ad := ad) (r := r) hft
  have ev : q_fv w ad r b 2 = .ref (ad r') := by unfold q_fv; rw [hr]; rfl
  rw [ev] at hf
  exact va_get hC.1 hC.2.1 hC.2.2.2.2.1 (q_cls_W hc) hC.2.2.2.1 hK0 hP q0 hq hc b hb (hC.2.2.2.2.1 _ hw) (fun x hx => by rw [hd] at hx; exact hx) hf hdg (k ad rs H locs ls cells slots hSt hL (List.forall_mem_cons.mpr ⟨Or.inl hm, (List.forall_mem_cons.mp hs).2⟩) hSc h1 h2 h3 hK)
theorem q_s_putI (hC : q_Cx p R s m args meth c mi) (hK0 : va_K D q_cls (q_tys dA) s) {r : qR} {ci b idx cd : Nat} {C : String} {T : u_T} {N : Nat} (hc : q_cls[ci]? = some (C, T, N)) (hb : b < N) (hw : Cond.fieldLink (q_y mi).cls idx C (T b).2.1 (T b).2.2.1 ∈ q_W) (hd : (T b).1 = C) (hft : (q_ft ci)[b]? = some cd) (he : E.1 r = some (0, ci)) (hcd : cd = 0) (hfin : (T b).2.2.2 = false ∨ ((q_y mi).name = "<init>" ∧ C = (q_y mi).cls)) {x : Int} (hdg : decode (q_cc mi) pc = .ok (.putfield idx, 3)) (k : q_Good p l e R s m args below meth c D dA A H0 Q mi ov E' w' (pc + 3) loc st E (q_setI w r.1 r.2 b x)) : q_Good p l e R s m args below meth c D dA A H0 Q mi ov E' w' pc loc (.inl x :: .inr (.inr r) :: st) E w := by
  subst hcd
  intro ad rs H locs ls cells slots hSt hL hs hSc h1 h2 h3 hK
  obtain ⟨hV, hP, hD, hS⟩ := id hSt
  have hs2 := (List.forall_mem_cons.mp hs).2
  have hin := q_rs_of hV (List.forall_mem_cons.mp hs2).1 he (by simp)
  obtain ⟨q0, hq0, hq⟩ := q_ws_at (dA := dA) (env := E.1) (w := w) (ad := ad) hin
  rw [q_cell_o he] at hq
  obtain ⟨c1, c2, c3, ty0, c4, c5⟩ := q_cls_ok ci C T N hc
  have hlen : b < (q_flds w ad r ci).length := by rw [q_flds_len, c1]; exact hb
  have hset : (q_ws dA E.1 w ad rs).set q0 (ad r, .inr (ci, (q_flds w ad r ci).set b (.int (Int32.ofInt x)))) = q_ws dA E.1 (q_setI w r.1 r.2 b x) ad rs := by
    refine q_ws_set hD hq0 ?_ (fun r2 hr2 => q_cell_oth (fun k => ⟨q_setI_ne hr2 k, rfl, rfl⟩))
    rw [q_cell_o he, q_flds_set hft]
    · unfold q_fv q_setI
      simp [va_rf]
    · intro j cd' hj
      unfold q_fv q_setI
      simp [hj]
  have hty : ty0 b = .int := by
    rcases c5 b hb with ⟨z1, z2⟩ | ⟨z1, z2⟩
    · exact z2
    · rw [hft] at z1; cases z1
  have hn : narrow (ty0 b) (.int (Int32.ofInt x)) = .int (Int32.ofInt x) := by rw [hty]; rfl
  have hf : fits (ty0 b) (.int (Int32.ofInt x)) = true := by rw [hty]; rfl
  have fin : ∀ (H1 : Heap) (locs1 : List Loc), va_P D q_cls ((q_ws dA E.1 w ad rs).set q0 (ad r, .inr (ci, (q_flds w ad r ci).set b (.int (Int32.ofInt x))))) H1 → va_D A ((q_ws dA E.1 w ad rs).set q0 (ad r, .inr (ci, (q_flds w ad r ci).set b (.int (Int32.ofInt x))))) → va_S A H0 H1 locs1 → W p l e R s m args below meth c H1 locs1 cells slots Q (F0 m (pc + 3) ls (st.map (q_m ad))) := fun H1 locs1 a1 a2 a3 => k ad rs H1 locs1 ls cells slots ⟨q_V_setI hV hin (List.forall_mem_cons.mp hs).1, by rw [← hset]; exact a1, by rw [← hset]; exact a2, a3⟩ hL (List.forall_mem_cons.mp hs2).2 (q_Sc_of hSc (q_setI_sc hV hin)) h1 h2 h3 hK
  rcases hfin with hfin | ⟨hi, hown⟩
  · exact va_put hC.1 hC.2.1 hC.2.2.2.2.1 (q_cls_W hc) ty0 c4 c3 hC.2.2.2.1 hK0 hP hD hS q0 hq hc b hb (hC.2.2.2.2.1 _ hw) (fun x hx => by rw [hd] at hx; exact hx) hfin (c4 b hb) hn hf hlen hdg fin
  · by_cases hfin : (T b).2.2.2 = true
    · exact va_putF hC.1 hC.2.1 hC.2.2.2.2.1 (q_cls_W hc) ty0 c4 c3 hC.2.2.2.1 hK0 hP hD hS q0 hq hc b hb (hC.2.2.2.2.1 _ hw) (fun x hx => by rw [hd] at hx; exact hx) hfin (hC.2.2.2.2.2.1 hi) (hd.trans hown) (c4 b hb) hn hf hlen hdg fin
    · exact va_put hC.1 hC.2.1 hC.2.2.2.2.1 (q_cls_W hc) ty0 c4 c3 hC.2.2.2.1 hK0 hP hD hS q0 hq hc b hb (hC.2.2.2.2.1 _ hw) (fun x hx => by rw [hd] at hx; exact hx) (by simpa using hfin) (c4 b hb) hn hf hlen hdg fin
theorem q_s_putR (hC : q_Cx p R s m args meth c mi) (hK0 : va_K D q_cls (q_tys dA) s) {r : qR} {ci b idx cd : Nat} {C : String} {T : u_T} {N : Nat} (hc : q_cls[ci]? = some (C, T, N)) (hb : b < N) (hw : Cond.fieldLink (q_y mi).cls idx C (T b).2.1 (T b).2.2.1 ∈ q_W) (hd : (T b).1 = C) (hft : (q_ft ci)[b]? = some cd) (he : E.1 r = some (0, ci)) (hcd : cd = 2) (hfin : (T b).2.2.2 = false ∨ ((q_y mi).name = "<init>" ∧ C = (q_y mi).cls)) {x : qR} {kx : Nat × Nat} (hx : E.1 x = some kx) (hx9 : kx.1 < 99) (hdg : decode (q_cc mi) pc = .ok (.putfield idx, 3)) (k : q_Good p l e R s m args below meth c D dA A H0 Q mi ov E' w' (pc + 3) loc st E (q_setR w r.1 r.2 b (some x))) : q_Good p l e R s m args below meth c D dA A H0 Q mi ov E' w' pc loc (.inr (.inr x) :: .inr (.inr r) :: st) E w := by
  subst hcd
  intro ad rs H locs ls cells slots hSt hL hs hSc h1 h2 h3 hK
  obtain ⟨hV, hP, hD, hS⟩ := id hSt
  have hs2 := (List.forall_mem_cons.mp hs).2
  have hin := q_rs_of hV (List.forall_mem_cons.mp hs2).1 he (by simp)
  have hxin := q_rs_of hV (List.forall_mem_cons.mp hs).1 hx (by omega)
  obtain ⟨q0, hq0, hq⟩ := q_ws_at (dA := dA) (env := E.1) (w := w) (ad := ad) hin
  rw [q_cell_o he] at hq
  obtain ⟨c1, c2, c3, ty0, c4, c5⟩ := q_cls_ok ci C T N hc
  have hlen : b < (q_flds w ad r ci).length := by rw [q_flds_len, c1]; exact hb
  have hset : (q_ws dA E.1 w ad rs).set q0 (ad r, .inr (ci, (q_flds w ad r ci).set b (.ref (ad x)))) = q_ws dA E.1 (q_setR w r.1 r.2 b (some x)) ad rs := by
    refine q_ws_set hD hq0 ?_ (fun r2 hr2 => q_cell_oth (fun k => ⟨rfl, rfl, q_setR_ne hr2 k⟩))
    rw [q_cell_o he, q_flds_set hft]
    · unfold q_fv q_setR
      simp [va_rf]
    · intro j cd' hj
      unfold q_fv q_setR
      simp [hj]
  have hty : (ty0 b).isReference = true := by
    rcases c5 b hb with ⟨z1, z2⟩ | ⟨z1, z2⟩
    · rw [hft] at z1; cases z1
    · exact z2
  have hn : narrow (ty0 b) (.ref (ad x)) = .ref (ad x) := by cases hh : ty0 b <;> first | rfl | (rw [hh] at hty; cases hty)
  have hf : fits (ty0 b) (.ref (ad x)) = true := by cases hh : ty0 b <;> first | rfl | (rw [hh] at hty; cases hty)
  have fin : ∀ (H1 : Heap) (locs1 : List Loc), va_P D q_cls ((q_ws dA E.1 w ad rs).set q0 (ad r, .inr (ci, (q_flds w ad r ci).set b (.ref (ad x))))) H1 → va_D A ((q_ws dA E.1 w ad rs).set q0 (ad r, .inr (ci, (q_flds w ad r ci).set b (.ref (ad x))))) → va_S A H0 H1 locs1 → W p l e R s m args below meth c H1 locs1 cells slots Q (F0 m (pc + 3) ls (st.map (q_m ad))) := fun H1 locs1 a1 a2 a3 => k ad rs H1 locs1 ls cells slots ⟨q_V_setR hV hin hxin, by rw [← hset]; exact a1, by rw [← hset]; exact a2, a3⟩ hL (List.forall_mem_cons.mp hs2).2 (q_Sc_of hSc (fun _ _ => rfl)) h1 h2 h3 hK
  rcases hfin with hfin | ⟨hi, hown⟩
  · exact va_put hC.1 hC.2.1 hC.2.2.2.2.1 (q_cls_W hc) ty0 c4 c3 hC.2.2.2.1 hK0 hP hD hS q0 hq hc b hb (hC.2.2.2.2.1 _ hw) (fun x hx => by rw [hd] at hx; exact hx) hfin (c4 b hb) hn hf hlen hdg fin
  · by_cases hfin : (T b).2.2.2 = true
    · exact va_putF hC.1 hC.2.1 hC.2.2.2.2.1 (q_cls_W hc) ty0 c4 c3 hC.2.2.2.1 hK0 hP hD hS q0 hq hc b hb (hC.2.2.2.2.1 _ hw) (fun x hx => by rw [hd] at hx; exact hx) hfin (hC.2.2.2.2.2.1 hi) (hd.trans hown) (c4 b hb) hn hf hlen hdg fin
    · exact va_put hC.1 hC.2.1 hC.2.2.2.2.1 (q_cls_W hc) ty0 c4 c3 hC.2.2.2.1 hK0 hP hD hS q0 hq hc b hb (hC.2.2.2.2.1 _ hw) (fun x hx => by rw [hd] at hx; exact hx) (by simpa using hfin) (c4 b hb) hn hf hlen hdg fin
theorem q_s_iald (hC : q_Cx p R s m args meth c mi) (hK0 : va_K D q_cls (q_tys dA) s) {r : qR} {n : Nat} {j : Int} (h0 : 0 ≤ j) (hn : j < n) (he : E.1 r = some (1, n)) (hdg : decode (q_cc mi) pc = .ok (.iaload, 1)) (k : q_Good p l e R s m args below meth c D dA A H0 Q mi ov E' w' (pc + 1) loc (.inl (w.1 r.1 r.2 j.toNat) :: st) E w) : q_Good p l e R s m args below meth c D dA A H0 Q mi ov E' w' pc loc (.inl j :: .inr (.inr r) :: st) E w := by
  intro ad rs H locs ls cells slots hSt hL hs hSc h1 h2 h3 hK
  obtain ⟨hV, hP, hD, hS⟩ := id hSt
  have hs2 := (List.forall_mem_cons.mp hs).2
  have hj := (List.forall_mem_cons.mp hs).1
  have hin := q_rs_of hV (List.forall_mem_cons.mp hs2).1 he (by simp)
  obtain ⟨q0, hq0, hq⟩ := q_ws_at (dA := dA) (env := E.1) (w := w) (ad := ad) hin
  obtain ⟨t0, ht⟩ := q_tys_at dA (k := 1) (by decide)
  rw [q_cell_i he (by decide)] at hq
  refine va_iald hC.1 hC.2.1 hK0 hP q0 t0 hq ht (q_in hj h0 hn) hdg ?_
  rw [q_ixn hj]
  exact k ad rs H locs ls cells slots hSt hL (List.forall_mem_cons.mpr ⟨hV.2.1 _ _ _, (List.forall_mem_cons.mp hs2).2⟩) hSc h1 h2 h3 hK
theorem q_s_bald (hC : q_Cx p R s m args meth c mi) (hK0 : va_K D q_cls (q_tys dA) s) {r : qR} {n : Nat} {j : Int} (h0 : 0 ≤ j) (hn : j < n) (he : E.1 r = some (2, n)) (hdg : decode (q_cc mi) pc = .ok (.baload, 1)) (k : q_Good p l e R s m args below meth c D dA A H0 Q mi ov E' w' (pc + 1) loc (.inl (w.1 r.1 r.2 j.toNat) :: st) E w) : q_Good p l e R s m args below meth c D dA A H0 Q mi ov E' w' pc loc (.inl j :: .inr (.inr r) :: st) E w := by
  intro ad rs H locs ls cells slots hSt hL hs hSc h1 h2 h3 hK
  obtain ⟨hV, hP, hD, hS⟩ := id hSt
  have hs2 := (List.forall_mem_cons.mp hs).2
  have hj := (List.forall_mem_cons.mp hs).1
  have hin := q_rs_of hV (List.forall_mem_cons.mp hs2).1 he (by simp)
  obtain ⟨q0, hq0, hq⟩ := q_ws_at (dA := dA) (env := E.1) (w := w) (ad := ad) hin
  obtain ⟨t0, ht⟩ := q_tys_at dA (k := 2) (by decide)
  rw [q_cell_i he (by decide)] at hq
  refine va_bald hC.1 hC.2.1 hK0 hP q0 t0 hq ht (q_in hj h0 hn) hdg ?_
  rw [q_ixn hj]
  exact k ad rs H locs ls cells slots hSt hL (List.forall_mem_cons.mpr ⟨hV.2.1 _ _ _, (List.forall_mem_cons.mp hs2).2⟩) hSc h1 h2 h3 hK
theorem q_s_zald (hC : q_Cx p R s m args meth c mi) (hK0 : va_K D q_cls (q_tys dA) s) {r : qR} {n : Nat} {j : Int} (h0 : 0 ≤ j) (hn : j < n) (he : E.1 r = some (3, n)) (hdg : decode (q_cc mi) pc = .ok (.baload, 1)) (k : q_Good p l e R s m args below meth c D dA A H0 Q mi ov E' w' (pc + 1) loc (.inl (w.1 r.1 r.2 j.toNat) :: st) E w) : q_Good p l e R s m args below meth c D dA A H0 Q mi ov E' w' pc loc (.inl j :: .inr (.inr r) :: st) E w := by
  intro ad rs H locs ls cells slots hSt hL hs hSc h1 h2 h3 hK
  obtain ⟨hV, hP, hD, hS⟩ := id hSt
  have hs2 := (List.forall_mem_cons.mp hs).2
  have hj := (List.forall_mem_cons.mp hs).1
  have hin := q_rs_of hV (List.forall_mem_cons.mp hs2).1 he (by simp)
  obtain ⟨q0, hq0, hq⟩ := q_ws_at (dA := dA) (env := E.1) (w := w) (ad := ad) hin
  obtain ⟨t0, ht⟩ := q_tys_at dA (k := 3) (by decide)
  rw [q_cell_i he (by decide)] at hq
  refine va_zald hC.1 hC.2.1 hK0 hP q0 t0 hq ht (q_in hj h0 hn) hdg ?_
  rw [q_ixn hj]
  exact k ad rs H locs ls cells slots hSt hL (List.forall_mem_cons.mpr ⟨hV.2.1 _ _ _, (List.forall_mem_cons.mp hs2).2⟩) hSc h1 h2 h3 hK
theorem q_s_lald (hC : q_Cx p R s m args meth c mi) (hK0 : va_K D q_cls (q_tys dA) s) {r : qR} {n : Nat} {j : Int} (h0 : 0 ≤ j) (hn : j < n) (he : E.1 r = some (4, n)) (hdg : decode (q_cc mi) pc = .ok (.laload, 1)) (k : q_Good p l e R s m args below meth c D dA A H0 Q mi ov E' w' (pc + 1) loc (.inr (.inl (w.2.1 r.1 r.2 j.toNat)) :: st) E w) : q_Good p l e R s m args below meth c D dA A H0 Q mi ov E' w' pc loc (.inl j :: .inr (.inr r) :: st) E w := by
  intro ad rs H locs ls cells slots hSt hL hs hSc h1 h2 h3 hK
  obtain ⟨hV, hP, hD, hS⟩ := id hSt
  have hs2 := (List.forall_mem_cons.mp hs).2
  have hj := (List.forall_mem_cons.mp hs).1
  have hin := q_rs_of hV (List.forall_mem_cons.mp hs2).1 he (by simp)
  obtain ⟨q0, hq0, hq⟩ := q_ws_at (dA := dA) (env := E.1) (w := w) (ad := ad) hin
  obtain ⟨t0, ht⟩ := q_tys_at dA (k := 4) (by decide)
  rw [q_cell_l he] at hq
  refine va_lald hC.1 hC.2.1 hK0 hP q0 t0 hq ht (q_in hj h0 hn) hdg ?_
  rw [q_ixn hj]
  exact k ad rs H locs ls cells slots hSt hL (List.forall_mem_cons.mpr ⟨trivial, (List.forall_mem_cons.mp hs2).2⟩) hSc h1 h2 h3 hK
theorem q_s_rald (hC : q_Cx p R s m args meth c mi) (hK0 : va_K D q_cls (q_tys dA) s) {r : qR} {n : Nat} {j : Int} (h0 : 0 ≤ j) (hn : j < n) {kd : Nat} {r' : qR} (h5 : 5 ≤ kd) (h9 : kd < 99) (he : E.1 r = some (kd, n)) (hr : w.2.2 r.1 r.2 j.toNat = some r') (hdg : decode (q_cc mi) pc = .ok (.aaload, 1)) (k : q_Good p l e R s m args below meth c D dA A H0 Q mi ov E' w' (pc + 1) loc (.inr (.inr r') :: st) E w) : q_Good p l e R s m args below meth c D dA A H0 Q mi ov E' w' pc loc (.inl j :: .inr (.inr r) :: st) E w := by
  intro ad rs H locs ls cells slots hSt hL hs hSc h1 h2 h3 hK
  obtain ⟨hV, hP, hD, hS⟩ := id hSt
  have hs2 := (List.forall_mem_cons.mp hs).2
  have hj := (List.forall_mem_cons.mp hs).1
  have hin := q_rs_of hV (List.forall_mem_cons.mp hs2).1 he (by dsimp only; omega)
  obtain ⟨q0, hq0, hq⟩ := q_ws_at (dA := dA) (env := E.1) (w := w) (ad := ad) hin
  have hko := q_kok_of hV hin he
  have hk8 : kd = 1 ∨ kd = 2 ∨ kd = 3 ∨ kd = 4 ∨ kd = 5 ∨ kd = 6 ∨ kd = 11 ∨ kd = 15 := by
    rcases hko with ⟨z, -⟩ | ⟨z, -⟩
    · dsimp only at z; omega
    · exact z
  have hrt : (q_kty kd).isReference = true := by
    rcases hk8 with rfl | rfl | rfl | rfl | rfl | rfl | rfl | rfl <;> first | omega | rfl
  obtain ⟨t0, ht⟩ := q_tys_at dA (k := kd) hk8
  have hlt : j.toNat < n := by omega
  have hm : r' ∈ rs := hV.2.2.1 r hin _ he j.toNat r' hr (fun _ => hlt)
  rw [q_cell_q he h5] at hq
  refine W.aald (v := .ref (ad r')) (ty := q_kty kd) hC.1 hC.2.1 (hP q0 _ hq) ((hK0.2 t0 _ ht).1 n (fun j => va_rf (if j < n then (w.2.2 r.1 r.2 j).map ad else none))) hrt (fun q => by cases q) (by show ¬ (_ < 0 ∨ (arrV _ _ _).slots.size ≤ _); rw [arrV_size]; exact q_in hj h0 hn) ?_ rfl rfl hdg (k ad rs H locs ls cells slots hSt hL (List.forall_mem_cons.mpr ⟨Or.inl hm, (List.forall_mem_cons.mp hs2).2⟩) hSc h1 h2 h3 hK)
  show (arrV _ _ _).slots[_]? = _
  rw [q_ixn hj, arrV_read _ _ hlt]
  dsimp only
  rw [if_pos hlt, hr]
  rfl
theorem q_s_iast (hC : q_Cx p R s m args meth c mi) (hK0 : va_K D q_cls (q_tys dA) s) {r : qR} {n : Nat} {j : Int} (h0 : 0 ≤ j) (hn : j < n) {x : Int} (he : E.1 r = some (1, n)) (hdg : decode (q_cc mi) pc = .ok (.iastore, 1)) (k : q_Good p l e R s m args below meth c D dA A H0 Q mi ov E' w' (pc + 1) loc st E (q_setI w r.1 r.2 j.toNat (q_nar 1 x))) : q_Good p l e R s m args below meth c D dA A H0 Q mi ov E' w' pc loc (.inl x :: .inl j :: .inr (.inr r) :: st) E w := by
  intro ad rs H locs ls cells slots hSt hL hs hSc h1 h2 h3 hK
  obtain ⟨hV, hP, hD, hS⟩ := id hSt
  have hs1 := (List.forall_mem_cons.mp hs).2
  have hs2 := (List.forall_mem_cons.mp hs1).2
  have hj := (List.forall_mem_cons.mp hs1).1
  have hx := (List.forall_mem_cons.mp hs).1
  have hin := q_rs_of hV (List.forall_mem_cons.mp hs2).1 he (by simp)
  obtain ⟨q0, hq0, hq⟩ := q_ws_at (dA := dA) (env := E.1) (w := w) (ad := ad) hin
  obtain ⟨t0, ht⟩ := q_tys_at dA (k := 1) (by decide)
  rw [q_cell_i he (by decide)] at hq
  have hnx : q_can (q_nar 1 x) := hx
  have hset : ∀ f : Nat → Int32, f = upd (fun j => Int32.ofInt (w.1 r.1 r.2 j)) (Int32.ofInt j).toNatClampNeg (Int32.ofInt x) → (q_ws dA E.1 w ad rs).set q0 (ad r, .inl (dA 1, n, .inl f)) = q_ws dA E.1 (q_setI w r.1 r.2 j.toNat (q_nar 1 x)) ad rs := by
    intro f hf
    refine q_ws_set hD hq0 ?_ (fun r2 hr2 => q_cell_oth (fun k => ⟨q_setI_ne hr2 k, rfl, rfl⟩))
    rw [q_cell_i he (by decide), hf, q_ixn hj]
    congr 4
    funext i
    unfold upd q_setI q_nar
    by_cases hi : i = j.toNat <;> simp [hi]
  exact va_iast hC.1 hC.2.1 hK0 hP hD hS q0 t0 hq ht (q_in hj h0 hn) hdg (fun H1 locs1 a1 a2 a3 => k ad rs H1 locs1 ls cells slots ⟨q_V_setI hV hin hnx, by rw [← hset _ rfl]; exact a1, by rw [← hset _ rfl]; exact a2, a3⟩ hL (List.forall_mem_cons.mp hs2).2 (q_Sc_of hSc (q_setI_sc hV hin)) h1 h2 h3 hK)
theorem q_s_bast (hC : q_Cx p R s m args meth c mi) (hK0 : va_K D q_cls (q_tys dA) s) {r : qR} {n : Nat} {j : Int} (h0 : 0 ≤ j) (hn : j < n) {x : Int} (he : E.1 r = some (2, n)) (hdg : decode (q_cc mi) pc = .ok (.bastore, 1)) (k : q_Good p l e R s m args below meth c D dA A H0 Q mi ov E' w' (pc + 1) loc st E (q_setI w r.1 r.2 j.toNat (q_nar 2 x))) : q_Good p l e R s m args below meth c D dA A H0 Q mi ov E' w' pc loc (.inl x :: .inl j :: .inr (.inr r) :: st) E w := by
  intro ad rs H locs ls cells slots hSt hL hs hSc h1 h2 h3 hK
  obtain ⟨hV, hP, hD, hS⟩ := id hSt
  have hs1 := (List.forall_mem_cons.mp hs).2
  have hs2 := (List.forall_mem_cons.mp hs1).2
  have hj := (List.forall_mem_cons.mp hs1).1
  have hx := (List.forall_mem_cons.mp hs).1
  have hin := q_rs_of hV (List.forall_mem_cons.mp hs2).1 he (by simp)
  obtain ⟨q0, hq0, hq⟩ := q_ws_at (dA := dA) (env := E.1) (w := w) (ad := ad) hin
  obtain ⟨t0, ht⟩ := q_tys_at dA (k := 2) (by decide)
  rw [q_cell_i he (by decide)] at hq
  have hnx : q_can (q_nar 2 x) := q_can_i _
  have hset : ∀ f : Nat → Int32, f = upd (fun j => Int32.ofInt (w.1 r.1 r.2 j)) (Int32.ofInt j).toNatClampNeg (vp_nar .byte (Int32.ofInt x)) → (q_ws dA E.1 w ad rs).set q0 (ad r, .inl (dA 2, n, .inl f)) = q_ws dA E.1 (q_setI w r.1 r.2 j.toNat (q_nar 2 x)) ad rs := by
    intro f hf
    refine q_ws_set hD hq0 ?_ (fun r2 hr2 => q_cell_oth (fun k => ⟨q_setI_ne hr2 k, rfl, rfl⟩))
    rw [q_cell_i he (by decide), hf, q_ixn hj]
    congr 4
    funext i
    unfold upd q_setI q_nar
    by_cases hi : i = j.toNat <;> simp [hi, q_ofI]
  exact va_bast hC.1 hC.2.1 hK0 hP hD hS q0 t0 hq ht (q_in hj h0 hn) hdg (fun H1 locs1 a1 a2 a3 => k ad rs H1 locs1 ls cells slots ⟨q_V_setI hV hin hnx, by rw [← hset _ rfl]; exact a1, by rw [← hset _ rfl]; exact a2, a3⟩ hL (List.forall_mem_cons.mp hs2).2 (q_Sc_of hSc (q_setI_sc hV hin)) h1 h2 h3 hK)
theorem q_s_zast (hC : q_Cx p R s m args meth c mi) (hK0 : va_K D q_cls (q_tys dA) s) {r : qR} {n : Nat} {j : Int} (h0 : 0 ≤ j) (hn : j < n) {x : Int} (he : E.1 r = some (3, n)) (hdg : decode (q_cc mi) pc = .ok (.bastore, 1)) (k : q_Good p l e R s m args below meth c D dA A H0 Q mi ov E' w' (pc + 1) loc st E (q_setI w r.1 r.2 j.toNat (q_nar 3 x))) : q_Good p l e R s m args below meth c D dA A H0 Q mi ov E' w' pc loc (.inl x :: .inl j :: .inr (.inr r) :: st) E w := by
  intro ad rs H locs ls cells slots hSt hL hs hSc h1 h2 h3 hK
  obtain ⟨hV, hP, hD, hS⟩ := id hSt
  have hs1 := (List.forall_mem_cons.mp hs).2
  have hs2 := (List.forall_mem_cons.mp hs1).2
  have hj := (List.forall_mem_cons.mp hs1).1
  have hx := (List.forall_mem_cons.mp hs).1
  have hin := q_rs_of hV (List.forall_mem_cons.mp hs2).1 he (by simp)
  obtain ⟨q0, hq0, hq⟩ := q_ws_at (dA := dA) (env := E.1) (w := w) (ad := ad) hin
  obtain ⟨t0, ht⟩ := q_tys_at dA (k := 3) (by decide)
  rw [q_cell_i he (by decide)] at hq
  have hnx : q_can (q_nar 3 x) := q_can_i _
  have hset : ∀ f : Nat → Int32, f = upd (fun j => Int32.ofInt (w.1 r.1 r.2 j)) (Int32.ofInt j).toNatClampNeg (vp_nar .boolean (Int32.ofInt x)) → (q_ws dA E.1 w ad rs).set q0 (ad r, .inl (dA 3, n, .inl f)) = q_ws dA E.1 (q_setI w r.1 r.2 j.toNat (q_nar 3 x)) ad rs := by
    intro f hf
    refine q_ws_set hD hq0 ?_ (fun r2 hr2 => q_cell_oth (fun k => ⟨q_setI_ne hr2 k, rfl, rfl⟩))
    rw [q_cell_i he (by decide), hf, q_ixn hj]
    congr 4
    funext i
    unfold upd q_setI q_nar
    by_cases hi : i = j.toNat <;> simp [hi, q_ofI]
  exact va_zast hC.1 hC.2.1 hK0 hP hD hS q0 t0 hq ht (q_in hj h0 hn) hdg (fun H1 locs1 a1 a2 a3 => k ad rs H1 locs1 ls cells slots ⟨q_V_setI hV hin hnx, by rw [← hset _ rfl]; exact a1, by rw [← hset _ rfl]; exact a2, a3⟩ hL (List.forall_mem_cons.mp hs2).2 (q_Sc_of hSc (q_setI_sc hV hin)) h1 h2 h3 hK)
theorem q_s_last (hC : q_Cx p R s m args meth c mi) (hK0 : va_K D q_cls (q_tys dA) s) {r : qR} {n : Nat} {j : Int} (h0 : 0 ≤ j) (hn : j < n) {x : Int64} (he : E.1 r = some (4, n)) (hdg : decode (q_cc mi) pc = .ok (.lastore, 1)) (k : q_Good p l e R s m args below meth c D dA A H0 Q mi ov E' w' (pc + 1) loc st E (q_setL w r.1 r.2 j.toNat x)) : q_Good p l e R s m args below meth c D dA A H0 Q mi ov E' w' pc loc (.inr (.inl x) :: .inl j :: .inr (.inr r) :: st) E w := by
  intro ad rs H locs ls cells slots hSt hL hs hSc h1 h2 h3 hK
  obtain ⟨hV, hP, hD, hS⟩ := id hSt
  have hs1 := (List.forall_mem_cons.mp hs).2
  have hs2 := (List.forall_mem_cons.mp hs1).2
  have hj := (List.forall_mem_cons.mp hs1).1
  have hin := q_rs_of hV (List.forall_mem_cons.mp hs2).1 he (by simp)
  obtain ⟨q0, hq0, hq⟩ := q_ws_at (dA := dA) (env := E.1) (w := w) (ad := ad) hin
  obtain ⟨t0, ht⟩ := q_tys_at dA (k := 4) (by decide)
  rw [q_cell_l he] at hq
  have hset : ∀ f : Nat → Int64, f = vp_updL (fun j => w.2.1 r.1 r.2 j) (Int32.ofInt j).toNatClampNeg x → (q_ws dA E.1 w ad rs).set q0 (ad r, .inl (dA 4, n, .inr (.inl f))) = q_ws dA E.1 (q_setL w r.1 r.2 j.toNat x) ad rs := by
    intro f hf
    refine q_ws_set hD hq0 ?_ (fun r2 hr2 => q_cell_oth (fun k => ⟨rfl, q_setL_ne hr2 k, rfl⟩))
    rw [q_cell_l he, hf, q_ixn hj]
    congr 5
    funext i
    unfold vp_updL q_setL
    by_cases hi : i = j.toNat <;> simp [hi]
  exact va_last hC.1 hC.2.1 hK0 hP hD hS q0 t0 hq ht (q_in hj h0 hn) hdg (fun H1 locs1 a1 a2 a3 => k ad rs H1 locs1 ls cells slots ⟨q_V_setL hV hin, by rw [← hset _ rfl]; exact a1, by rw [← hset _ rfl]; exact a2, a3⟩ hL (List.forall_mem_cons.mp hs2).2 (q_Sc_of hSc (fun _ _ => rfl)) h1 h2 h3 hK)
theorem q_s_rast (hC : q_Cx p R s m args meth c mi) (hK0 : va_K D q_cls (q_tys dA) s) {r : qR} {n : Nat} {j : Int} (h0 : 0 ≤ j) (hn : j < n) {x : qR} {kd cx : Nat} (h11 : kd = 11 ∧ cx = 4 ∨ kd = 15 ∧ cx = 8) (he : E.1 r = some (kd, n)) (hx : E.1 x = some (0, cx)) (hdg : decode (q_cc mi) pc = .ok (.aastore, 1)) (k : q_Good p l e R s m args below meth c D dA A H0 Q mi ov E' w' (pc + 1) loc st E (q_setR w r.1 r.2 j.toNat (some x))) : q_Good p l e R s m args below meth c D dA A H0 Q mi ov E' w' pc loc (.inr (.inr x) :: .inl j :: .inr (.inr r) :: st) E w := by
  intro ad rs H locs ls cells slots hSt hL hs hSc h1 h2 h3 hK
  obtain ⟨hV, hP, hD, hS⟩ := id hSt
  have hs1 := (List.forall_mem_cons.mp hs).2
  have hs2 := (List.forall_mem_cons.mp hs1).2
  have hj := (List.forall_mem_cons.mp hs1).1
  have hin := q_rs_of hV (List.forall_mem_cons.mp hs2).1 he (by dsimp only; omega)
  have hxin := q_rs_of hV (List.forall_mem_cons.mp hs).1 hx (by simp)
  obtain ⟨q0, hq0, hq⟩ := q_ws_at (dA := dA) (env := E.1) (w := w) (ad := ad) hin
  obtain ⟨qx, -, hqx⟩ := q_ws_at (dA := dA) (env := E.1) (w := w) (ad := ad) hxin
  rw [q_cell_o hx] at hqx
  rw [q_cell_q he (by omega)] at hq
  have hlt : j.toNat < n := by omega
  have hset : ∀ f : Nat → Option Nat, f = va_up (fun j => if j < n then (w.2.2 r.1 r.2 j).map ad else none) (Int32.ofInt j).toNatClampNeg (some (ad x)) → (q_ws dA E.1 w ad rs).set q0 (ad r, .inl (dA kd, n, .inr (.inr (.inr (.inr f))))) = q_ws dA E.1 (q_setR w r.1 r.2 j.toNat (some x)) ad rs := by
    intro f hf
    refine q_ws_set hD hq0 ?_ (fun r2 hr2 => q_cell_oth (fun k => ⟨rfl, rfl, q_setR_ne hr2 k⟩))
    rw [q_cell_q he (by omega), hf, q_ixn hj]
    congr 7
    funext i
    unfold va_up q_setR
    by_cases hi : i = j.toNat
    · subst hi; simp [hlt]
    · simp [hi]
  obtain ⟨t0, ht⟩ := q_tys_at dA (k := kd) (by omega)
  rcases h11 with ⟨rfl, rfl⟩ | ⟨rfl, rfl⟩
  · exact va_astq (r := (RX4, TX4, 3)) hC.1 hC.2.1 hK0 hP hD hS q0 t0 qx 4 hq ht hqx rfl (q_in hj h0 hn) hdg (fun H1 locs1 a1 a2 a3 => k ad rs H1 locs1 ls cells slots ⟨q_V_setR hV hin hxin, by rw [← hset _ rfl]; exact a1, by rw [← hset _ rfl]; exact a2, a3⟩ hL (List.forall_mem_cons.mp hs2).2 (q_Sc_of hSc (fun _ _ => rfl)) h1 h2 h3 hK)
  · exact va_astq (r := (RX9, TX9, 4)) hC.1 hC.2.1 hK0 hP hD hS q0 t0 qx 8 hq ht hqx rfl (q_in hj h0 hn) hdg (fun H1 locs1 a1 a2 a3 => k ad rs H1 locs1 ls cells slots ⟨q_V_setR hV hin hxin, by rw [← hset _ rfl]; exact a1, by rw [← hset _ rfl]; exact a2, a3⟩ hL (List.forall_mem_cons.mp hs2).2 (q_Sc_of hSc (fun _ _ => rfl)) h1 h2 h3 hK)
theorem q_s_alen (hC : q_Cx p R s m args meth c mi) (hK0 : va_K D q_cls (q_tys dA) s) {r : qR} {kd n : Nat} (h0 : kd ≠ 0) (h9 : kd ≠ 99) (he : E.1 r = some (kd, n)) (hdg : decode (q_cc mi) pc = .ok (.arraylength, 1)) (k : q_Good p l e R s m args below meth c D dA A H0 Q mi ov E' w' (pc + 1) loc (.inl n :: st) E w) : q_Good p l e R s m args below meth c D dA A H0 Q mi ov E' w' pc loc (.inr (.inr r) :: st) E w := by
  intro ad rs H locs ls cells slots hSt hL hs hSc h1 h2 h3 hK
  obtain ⟨hV, hP, hD, hS⟩ := id hSt
  have hin := q_rs_of hV (List.forall_mem_cons.mp hs).1 he h9
  obtain ⟨q0, hq0, hq⟩ := q_ws_at (dA := dA) (env := E.1) (w := w) (ad := ad) hin
  have hko := q_kok_of hV hin he
  have hk8 : (kd = 1 ∨ kd = 2 ∨ kd = 3 ∨ kd = 4 ∨ kd = 5 ∨ kd = 6 ∨ kd = 11 ∨ kd = 15) ∧ n ≤ 1000 := by
    rcases hko with ⟨z, -⟩ | z
    · exact absurd z h0
    · exact z
  obtain ⟨t0, ht⟩ := q_tys_at dA (k := kd) hk8.1
  have hcn : q_can n := q_can_iff.mpr ⟨by omega, by omega⟩
  have hv : Int32.ofNat n = Int32.ofInt (n : Int) := rfl
  obtain ⟨x, hx, hxn⟩ : ∃ x : vp_A, q_cell dA E.1 w ad r = .inl (dA kd, x) ∧ x.1 = n := by
    by_cases h4 : kd < 4
    · exact ⟨_, q_cell_i he (by omega), rfl⟩
    · by_cases h5 : kd = 4
      · subst h5; exact ⟨_, q_cell_l he, rfl⟩
      · exact ⟨_, q_cell_q he (by omega), rfl⟩
  rw [hx] at hq
  exact va_alen hC.1 hC.2.1 hK0 hP q0 t0 hq ht (v := Int32.ofInt (n : Int)) (by rw [hxn]; exact hv) hdg (k ad rs H locs ls cells slots hSt hL (List.forall_mem_cons.mpr ⟨hcn, (List.forall_mem_cons.mp hs).2⟩) hSc h1 h2 h3 hK)
theorem q_s_slen (hC : q_Cx p R s m args meth c mi) (hK0 : va_K D q_cls (q_tys dA) s) (h0 : mi = 0) (h9 : E.1 (1, 0) ≠ none) (hdg : decode (q_cc mi) pc = .ok (.arraylength, 1)) (k : q_Good p l e R s m args below meth c D dA A H0 Q mi ov E' w' (pc + 1) loc (.inl (w.1 1 1 0) :: st) E w) : q_Good p l e R s m args below meth c D dA A H0 Q mi ov E' w' pc loc (.inr (.inr (1, 0)) :: st) E w := by
  intro ad rs H locs ls cells slots hSt hL hs hSc h1 h2 h3 hK
  obtain ⟨b, L, xs, a1, a2, a3, a4, a7, a56⟩ := hSc h0
  obtain ⟨a5, a6⟩ := a56 h9
  have hcn : q_can (w.1 1 1 0) := hSt.1.2.1 _ _ _
  have := k ad rs H locs ls cells slots hSt hL (List.forall_mem_cons.mpr ⟨hcn, (List.forall_mem_cons.mp hs).2⟩) hSc h1 h2 h3 hK
  show W p l e R s m args below meth c H locs cells slots Q (F0 m pc ls (.ref (ad (1, 0)) :: st.map (q_m ad)))
  rw [a4]
  refine va_slen hC.1 hC.2.1 a1 a2 a3 hSt.2.2.2 hdg ?_
  have e : (Int32.ofNat L) = Int32.ofInt (w.1 1 1 0) := by rw [a6]; rfl
  rw [e]
  exact this
theorem q_s_sld (hC : q_Cx p R s m args meth c mi) (hK0 : va_K D q_cls (q_tys dA) s) (h0 : mi = 0) (h9 : E.1 (1, 0) ≠ none) {j : Int} (hj0 : 0 ≤ j) (hjn : j < w.1 1 1 0) (hdg : decode (q_cc mi) pc = .ok (.iaload, 1)) (k : q_Good p l e R s m args below meth c D dA A H0 Q mi ov E' w' (pc + 1) loc (.inl (w.1 1 0 j.toNat) :: st) E w) : q_Good p l e R s m args below meth c D dA A H0 Q mi ov E' w' pc loc (.inl j :: .inr (.inr (1, 0)) :: st) E w := by
  intro ad rs H locs ls cells slots hSt hL hs hSc h1 h2 h3 hK
  obtain ⟨b, L, xs, a1, a2, a3, a4, a7, a56⟩ := hSc h0
  obtain ⟨a5, a6⟩ := a56 h9
  have hj := (List.forall_mem_cons.mp hs).1
  have hs2 := (List.forall_mem_cons.mp hs).2
  have := k ad rs H locs ls cells slots hSt hL (List.forall_mem_cons.mpr ⟨hSt.1.2.1 _ _ _, (List.forall_mem_cons.mp hs2).2⟩) hSc h1 h2 h3 hK
  show W p l e R s m args below meth c H locs cells slots Q (F0 m pc ls (.int (Int32.ofInt j) :: .ref (ad (1, 0)) :: st.map (q_m ad)))
  rw [a4]
  rw [a6] at hjn
  refine va_sld hC.1 hC.2.1 a1 a2 a3 hSt.2.2.2 (q_in hj hj0 hjn) hdg ?_
  have e : xs (Int32.ofInt j).toNatClampNeg = Int32.ofInt (w.1 1 0 j.toNat) := by rw [q_ixn hj, a5 _ (by omega), q_ofI]
  rw [e]
  exact this
end QH
end
section
/-! the steps that make cells -/
theorem q_vok_ext {rs rs1 : List qR} (h : ∀ r ∈ rs, r ∈ rs1) {v : qV} (hv : q_vok rs v) : q_vok rs1 v := by
  rcases v with x | x | x
  · exact hv
  · trivial
  · rcases hv with z | z
    · exact Or.inl (h x z)
    · exact Or.inr z
theorem q_m_ext {rs : List qR} {ad ad1 : qR → Nat} (h : ∀ r, q_old rs r → ad1 r = ad r) {v : qV} (hv : q_vok rs v) : q_m ad1 v = q_m ad v := by
  rcases v with x | x | x
  · rfl
  · rfl
  · exact congrArg Value.ref (h x hv)
theorem q_map_ext {rs : List qR} {ad ad1 : qR → Nat} (h : ∀ r, q_old rs r → ad1 r = ad r) {st : List qV} (hs : ∀ v ∈ st, q_vok rs v) : st.map (q_m ad1) = st.map (q_m ad) := List.map_congr_left fun v hv => q_m_ext h (hs v hv)
theorem q_Lk_ext {rs rs1 : List qR} {ad ad1 : qR → Nat} (h : ∀ r, q_old rs r → ad1 r = ad r) (h2 : ∀ r ∈ rs, r ∈ rs1) {loc : qLo} {ls : Array Slot} {nL : Nat} (hL : q_Lk ad rs loc ls nL) : q_Lk ad1 rs1 loc ls nL := ⟨hL.1, hL.2.1, hL.2.2.1, fun i v hi => ⟨q_vok_ext h2 (hL.2.2.2 i v hi).1, by rw [q_m_ext h (hL.2.2.2 i v hi).1]; exact (hL.2.2.2 i v hi).2⟩⟩
theorem q_Sc_ext {mi : Nat} {s : State} {A : Nat → Prop} {H0 : Heap} {ad ad1 : qR → Nat} {env env1 : qR → Option (Nat × Nat)} {w w2 : qW} (h : q_Sc mi s A H0 ad env w) (ha : ad1 (1, 0) = ad (1, 0)) (hw : w2.1 = w.1) (hE : env1 (1, 0) = env (1, 0)) : q_Sc mi s A H0 ad1 env1 w2 := by
  intro hm
  obtain ⟨b, L, xs, a1, a2, a3, a4, a7, a5⟩ := h hm
  exact ⟨b, L, xs, a1, a2, a3, by rw [ha]; exact a4, a7, fun hn => by rw [hw]; exact a5 (by rw [← hE]; exact hn)⟩
theorem q_old_ext {rs rs1 : List qR} (h : ∀ r ∈ rs, r ∈ rs1) {r : qR} (ho : q_old rs r) : q_old rs1 r := ho.elim (fun z => Or.inl (h r z)) Or.inr
/-- the class of an array of a kind is the one that the tables name -/
theorem q_dA_eq {D : va_G} {dA : Nat → ClassId} {s : State} {cA : ClassId} {k : Nat} (hK0 : va_K D q_cls (q_tys dA) s) (hk : k = 1 ∨ k = 2 ∨ k = 3 ∨ k = 4 ∨ k = 5 ∨ k = 6 ∨ k = 11 ∨ k = 15) (hR : va_K D q_cls (q_tys dA ++ [(cA, q_kty k)]) s) : cA = dA k := by
  obtain ⟨t0, ht⟩ := q_tys_at dA (k := k) hk
  have h1 := (hK0.2 t0 _ ht).2
  have h2 := (hR.2 (q_tys dA).length (cA, q_kty k) (by simp)).2
  rcases hk with rfl | rfl | rfl | rfl | rfl | rfl | rfl | rfl
  · exact Option.some.inj ((show s.vm.findClass _ = some cA from h2).symm.trans (show s.vm.findClass _ = some (dA 1) from h1))
  · exact Option.some.inj ((show s.vm.findClass _ = some cA from h2).symm.trans (show s.vm.findClass _ = some (dA 2) from h1))
  · exact Option.some.inj ((show s.vm.findClass _ = some cA from h2).symm.trans (show s.vm.findClass _ = some (dA 3) from h1))
  · exact Option.some.inj ((show s.vm.findClass _ = some cA from h2).symm.trans (show s.vm.findClass _ = some (dA 4) from h1))
  · exact Option.some.inj ((show s.vm.findClass _ = some cA from h2).symm.trans (show s.vm.findClass _ = some (dA 5) from h1))
  · exact Option.some.inj ((show s.vm.findClass _ = some cA from h2).symm.trans (show s.vm.findClass _ = some (dA 6) from h1))
  · obtain ⟨_, _, _, _, _, z1⟩ := h1
    obtain ⟨_, _, _, _, _, z2⟩ := h2
    exact Option.some.inj (z2.symm.trans z1)
  · obtain ⟨_, _, _, _, _, z1⟩ := h1
    obtain ⟨_, _, _, _, _, z2⟩ := h2
    exact Option.some.inj (z2.symm.trans z1)
/-- one cell more -/
theorem q_V_new {rs : List qR} {E : qE} {w : qW} {k n sl : Nat} (hV : q_V rs E w) (hk : q_kok (k, n)) : q_V (rs ++ [(0, E.2.1)]) (q_kset E.1 (0, E.2.1) (k, n), E.2.1 + 1, sl) w ∧ (0, E.2.1) ∉ rs := by
  obtain ⟨v1, v2, v3, v4, v5, v6, v7⟩ := hV
  have hnew : (0, E.2.1) ∉ rs := fun h => Nat.lt_irrefl _ (v4 _ h)
  refine ⟨⟨fun r hr => ?_, v2, fun r hr kn he k' r' hr' h5 => ?_, fun j hj => ?_, fun j hj => v5 j (by dsimp only at hj; omega), fun kn he => ?_, fun i hi => ?_, fun j hj => ?_⟩, hnew⟩
  · dsimp only [q_kset]
    by_cases hq : r = (0, E.2.1)
    · exact ⟨_, if_pos hq, hk⟩
    · rw [if_neg hq]
      rcases List.mem_append.mp hr with z | z
      · exact v1 r z
      · exact absurd (List.mem_singleton.mp z) hq
  · dsimp only [q_kset] at he
    by_cases hq : r = (0, E.2.1)
    · subst hq
      have := (v5 E.2.1 (Nat.le_refl _) k').2.2
      rw [show (w.2.2 (0, E.2.1).1 (0, E.2.1).2 k') = none from this] at hr'
      cases hr'
    · rw [if_neg hq] at he
      rcases List.mem_append.mp hr with z | z
      · exact List.mem_append_left _ (v3 r z kn he k' r' hr' h5)
      · exact absurd (List.mem_singleton.mp z) hq
  · rcases List.mem_append.mp hj with z | z
    · exact Nat.lt_succ_of_lt (v4 j z)
    · have := List.mem_singleton.mp z
      simp only [Prod.mk.injEq, true_and] at this
      dsimp only
      omega
  · dsimp only [q_kset] at he
    rw [if_neg (by simp)] at he
    exact v6 kn he
  · rcases List.mem_append.mp hi with z | z
    · exact v7.1 i z
    · have := List.mem_singleton.mp z
      simp at this
  · by_cases hje : j = E.2.1
    · subst hje; exact List.mem_append_right _ (List.mem_singleton.mpr rfl)
    · exact List.mem_append_left _ (v7.2 j (by dsimp only at hj; omega))
theorem q_ws_new {dA : Nat → ClassId} {rs : List qR} {E : qE} {w : qW} {ad : qR → Nat} {q : Nat} {k n : Nat} {e : va_E} (hV : q_V rs E w) (hnew : (0, E.2.1) ∉ rs) (he : e = q_cell dA (q_kset E.1 (0, E.2.1) (k, n)) w (fun r => if r = (0, E.2.1) then q else ad r) (0, E.2.1)) : q_ws dA E.1 w ad rs ++ [(q, e)] = q_ws dA (q_kset E.1 (0, E.2.1) (k, n)) w (fun r => if r = (0, E.2.1) then q else ad r) (rs ++ [(0, E.2.1)]) := by
  have hne : ∀ r ∈ rs, r ≠ (0, E.2.1) := fun r hr z => hnew (by rw [← z]; exact hr)
  unfold q_ws
  rw [List.map_append]
  congr 1
  · have := q_ws_ext (dA := dA) (env' := q_kset E.1 (0, E.2.1) (k, n)) (w' := w) (ad' := fun r => if r = (0, E.2.1) then q else ad r) hV rfl (fun r hr => by unfold q_kset; rw [if_neg (hne r hr)]) (fun r hr => if_neg (hne r hr)) (fun r _ k => ⟨rfl, rfl, rfl⟩)
    exact this.symm
  · rw [List.map_singleton, he]
    dsimp only
    rw [if_pos rfl]

section QA
variable {p : Program} {l : Launch} {e : Env} {R : Room} {s : State} {m : MethodId} {args : Array Value} {below : List Frame} {meth : Method} {c : Code} {D : va_G} {dA : Nat → ClassId} {A : Nat → Prop} {H0 : Heap} {Q : State → Prop} {mi : Nat} {ov : Option qV} {E' E : qE} {w' w : qW} {pc : Nat} {loc : qLo} {st : List qV}
theorem q_s_new (hC : q_Cx p R s m args meth c mi) (hK0 : va_K D q_cls (q_tys dA) s) (hA : ∀ q, H0.size ≤ q → A q) {ci idx : Nat} {C : String} {T : u_T} {N : Nat} (hc : q_cls[ci]? = some (C, T, N)) (hci : ci < 12) (hw1 : Cond.classLink (q_y mi).cls idx C ∈ q_W) (hw2 : Cond.instantiable C N ∈ q_W) (hw3 : Cond.initialized C ∈ q_W) (hm1 : E.2.1 + 1 ≤ E'.2.1) (hm2 : E.2.2 + N ≤ E'.2.2) (hdg : decode (q_cc mi) pc = .ok (.new idx, 3)) (k : q_Good p l e R s m args below meth c D dA A H0 Q mi ov E' w' (pc + 3) loc (.inr (.inr (0, E.2.1)) :: st) (q_kset E.1 (0, E.2.1) (0, ci), E.2.1 + 1, E.2.2 + N) w) : q_Good p l e R s m args below meth c D dA A H0 Q mi ov E' w' pc loc (st) E w := by
  intro ad rs H locs ls cells slots hSt hL hs0 hSc h1 h2 h3 hK
  obtain ⟨hV, hP, hD, hS⟩ := id hSt
  have hs : ∀ v ∈ st, q_vok rs v := hs0
  have hkok : q_kok (0, ci) := Or.inl ⟨rfl, hci⟩
  obtain ⟨hV1, hnew⟩ := q_V_new (sl := E.2.2 + N) hV hkok
  have hz : ∀ j, w.1 0 E.2.1 j = 0 ∧ w.2.1 0 E.2.1 j = 0 ∧ w.2.2 0 E.2.1 j = none := fun j => hV.2.2.2.2.1 E.2.1 (Nat.le_refl _) j
  have fin : ∀ (q : Nat) (H1 : Heap), va_P D q_cls (q_ws dA (q_kset E.1 (0, E.2.1) (0, ci)) w (fun r => if r = (0, E.2.1) then q else ad r) (rs ++ [(0, E.2.1)])) H1 → va_D A (q_ws dA (q_kset E.1 (0, E.2.1) (0, ci)) w (fun r => if r = (0, E.2.1) then q else ad r) (rs ++ [(0, E.2.1)])) → va_S A H0 H1 locs → W p l e R s m args below meth c H1 locs (cells + 1) (slots + N) Q (F0 m (pc + 3) ls (.ref q :: st.map (q_m ad))) := by
    intro q H1 a1 a2 a3
    have hag : ∀ r, q_old rs r → (fun r => if r = (0, E.2.1) then q else ad r) r = ad r := fun r hr => if_neg (fun z => by
      rcases hr with y | y
      · exact hnew (by rw [← z]; exact y)
      · rw [y] at z; simp at z)
    have hsub : ∀ r ∈ rs, r ∈ rs ++ [(0, E.2.1)] := fun r hr => List.mem_append_left _ hr
    have hk := k (fun r => if r = (0, E.2.1) then q else ad r) (rs ++ [(0, E.2.1)]) H1 locs ls (cells + 1) (slots + N) ⟨hV1, a1, a2, a3⟩ (q_Lk_ext hag hsub hL) (List.forall_mem_cons.mpr ⟨Or.inl (List.mem_append_right _ (List.mem_singleton.mpr rfl)), fun v hv => q_vok_ext hsub (hs v hv)⟩) (q_Sc_ext hSc (hag _ (Or.inr rfl)) rfl (by simp [q_kset])) (by dsimp only; omega) (by dsimp only; omega) (by dsimp only; omega) (by
      have e1 : cells + 1 + (E'.2.1 - (E.2.1 + 1)) = cells + (E'.2.1 - E.2.1) := by omega
      have e2 : slots + N + (E'.2.2 - (E.2.2 + N)) = slots + (E'.2.2 - E.2.2) := by omega
      dsimp only
      rw [e1, e2]
      intro ad' rs' H' locs' ls' pc' b1 b2 b3 b4
      exact hK ad' rs' H' locs' ls' pc' b1 (fun r hr => (b2 r (q_old_ext hsub hr)).trans (hag r hr)) (fun r hr => b3 r (hsub r hr)) b4)
    have ev : List.map (q_m (fun r => if r = (0, E.2.1) then q else ad r)) (.inr (.inr (0, E.2.1)) :: st) = .ref q :: st.map (q_m ad) := by
      rw [List.map_cons, q_map_ext hag hs]
      simp [q_m]
    rw [ev] at hk
    exact hk
  obtain ⟨c1, c2, c3, ty0, c4, c5⟩ := q_cls_ok ci C T N hc
  refine va_new (ci := ci) (fs := q_flds w ad (0, E.2.1) ci) hC.1 hC.2.1 hC.2.2.2.2.1 (q_cls_W hc) ty0 c4 hC.2.2.2.1 (hC.2.2.2.2.1 _ hw1) (hC.2.2.2.2.1 _ hw2) (hC.2.2.2.2.1 _ hw3) hK0 hP hD hS hA hc (fun j hj => ?_) (by omega) (by omega) hdg (fun q H1 a1 a2 a3 => ?_)
  · unfold vp_V
    rw [List.getD_eq_getElem?_getD]
    rcases c5 j hj with ⟨z1, z2⟩ | ⟨z1, z2⟩
    · rw [q_flds_at z1, z2]
      show _ = Value.int (Int32.ofInt (w.1 0 E.2.1 j))
      rw [(hz j).1]
      rfl
    · rw [q_flds_at z1]
      show _ = va_rf ((w.2.2 0 E.2.1 j).map ad)
      rw [(hz j).2.2]
      cases hh : ty0 j <;> first | rfl | (rw [hh] at z2; cases z2)
  · have e1 : (.inr (ci, q_flds w ad (0, E.2.1) ci) : va_E) = q_cell dA (q_kset E.1 (0, E.2.1) (0, ci)) w (fun r => if r = (0, E.2.1) then q else ad r) (0, E.2.1) := by
      rw [q_cell_o (ci := ci) (by unfold q_kset; rw [if_pos rfl])]
      congr 2
      unfold q_flds
      refine List.map_congr_left fun x _ => ?_
      unfold q_fv
      dsimp only
      rw [(hz x.2).2.2]
      rfl
    rw [q_ws_new (k := 0) (n := ci) hV hnew e1] at a1 a2
    exact fin q H1 a1 a2 a3
theorem q_s_newI (hC : q_Cx p R s m args meth c mi) (hK0 : va_K D q_cls (q_tys dA) s) (hA : ∀ q, H0.size ≤ q → A q) {n : Int} (h0 : 0 ≤ n) (h1000 : n ≤ 1000) (hw : Cond.arrayClass (newarray.typeOf .int) ∈ q_W) (hm1 : E.2.1 + 1 ≤ E'.2.1) (hm2 : E.2.2 + n.toNat ≤ E'.2.2) (hdg : decode (q_cc mi) pc = .ok (.newarray .int, 2)) (k : q_Good p l e R s m args below meth c D dA A H0 Q mi ov E' w' (pc + 2) loc (.inr (.inr (0, E.2.1)) :: st) (q_kset E.1 (0, E.2.1) (1, n.toNat), E.2.1 + 1, E.2.2 + n.toNat) w) : q_Good p l e R s m args below meth c D dA A H0 Q mi ov E' w' pc loc (.inl n :: st) E w := by
  intro ad rs H locs ls cells slots hSt hL hs0 hSc h1 h2 h3 hK
  obtain ⟨hV, hP, hD, hS⟩ := id hSt
  have hs : ∀ v ∈ st, q_vok rs v := (List.forall_mem_cons.mp hs0).2
  have hkok : q_kok (1, n.toNat) := Or.inr ⟨by simp, by dsimp only; omega⟩
  obtain ⟨hV1, hnew⟩ := q_V_new (sl := E.2.2 + n.toNat) hV hkok
  have hz : ∀ j, w.1 0 E.2.1 j = 0 ∧ w.2.1 0 E.2.1 j = 0 ∧ w.2.2 0 E.2.1 j = none := fun j => hV.2.2.2.2.1 E.2.1 (Nat.le_refl _) j
  have fin : ∀ (q : Nat) (H1 : Heap), va_P D q_cls (q_ws dA (q_kset E.1 (0, E.2.1) (1, n.toNat)) w (fun r => if r = (0, E.2.1) then q else ad r) (rs ++ [(0, E.2.1)])) H1 → va_D A (q_ws dA (q_kset E.1 (0, E.2.1) (1, n.toNat)) w (fun r => if r = (0, E.2.1) then q else ad r) (rs ++ [(0, E.2.1)])) → va_S A H0 H1 locs → W p l e R s m args below meth c H1 locs (cells + 1) (slots + n.toNat) Q (F0 m (pc + 2) ls (.ref q :: st.map (q_m ad))) := by
    intro q H1 a1 a2 a3
    have hag : ∀ r, q_old rs r → (fun r => if r = (0, E.2.1) then q else ad r) r = ad r := fun r hr => if_neg (fun z => by
      rcases hr with y | y
      · exact hnew (by rw [← z]; exact y)
      · rw [y] at z; simp at z)
    have hsub : ∀ r ∈ rs, r ∈ rs ++ [(0, E.2.1)] := fun r hr => List.mem_append_left _ hr
    have hk := k (fun r => if r = (0, E.2.1) then q else ad r) (rs ++ [(0, E.2.1)]) H1 locs ls (cells + 1) (slots + n.toNat) ⟨hV1, a1, a2, a3⟩ (q_Lk_ext hag hsub hL) (List.forall_mem_cons.mpr ⟨Or.inl (List.mem_append_right _ (List.mem_singleton.mpr rfl)), fun v hv => q_vok_ext hsub (hs v hv)⟩) (q_Sc_ext hSc (hag _ (Or.inr rfl)) rfl (by simp [q_kset])) (by dsimp only; omega) (by dsimp only; omega) (by dsimp only; omega) (by
      have e1 : cells + 1 + (E'.2.1 - (E.2.1 + 1)) = cells + (E'.2.1 - E.2.1) := by omega
      have e2 : slots + n.toNat + (E'.2.2 - (E.2.2 + n.toNat)) = slots + (E'.2.2 - E.2.2) := by omega
      dsimp only
      rw [e1, e2]
      intro ad' rs' H' locs' ls' pc' b1 b2 b3 b4
      exact hK ad' rs' H' locs' ls' pc' b1 (fun r hr => (b2 r (q_old_ext hsub hr)).trans (hag r hr)) (fun r hr => b3 r (hsub r hr)) b4)
    have ev : List.map (q_m (fun r => if r = (0, E.2.1) then q else ad r)) (.inr (.inr (0, E.2.1)) :: st) = .ref q :: st.map (q_m ad) := by
      rw [List.map_cons, q_map_ext hag hs]
      simp [q_m]
    rw [ev] at hk
    exact hk
  have hcn := (List.forall_mem_cons.mp hs0).1
  have hby : n.toNat * componentBytes (.int : FieldType) ≤ 536870912 := Nat.le_trans (Nat.mul_le_mul_left _ (show componentBytes (.int : FieldType) ≤ 8 by decide)) (by omega)
  refine va_newa (atype := .int) (ty := .int) (N' := n.toNat) (a0 := (n.toNat, .inl (fun j => Int32.ofInt (w.1 0 E.2.1 j)))) hC.1 hC.2.1 (hC.2.2.2.2.1 _ hw) rfl hK0 hP hD hS hA (fun cA => ?_) (fun z => ?_) (q_ixn hcn) hby (by omega) (by omega) hdg (fun q cA H1 a0 a1 a2 a3 => ?_)
  · simp only [(hz _).1]
    rfl
  · have := (q_e_lt hcn q_can_0).mp z
    omega
  · have hcA := q_dA_eq (k := 1) hK0 (by decide) a0
    subst hcA
    rw [q_ws_new (k := 1) (n := n.toNat) hV hnew (q_cell_i (by unfold q_kset; rw [if_pos rfl]) (by decide)).symm] at a1 a2
    exact fin q H1 a1 a2 a3
theorem q_s_newB (hC : q_Cx p R s m args meth c mi) (hK0 : va_K D q_cls (q_tys dA) s) (hA : ∀ q, H0.size ≤ q → A q) {n : Int} (h0 : 0 ≤ n) (h1000 : n ≤ 1000) (hw : Cond.arrayClass (newarray.typeOf .byte) ∈ q_W) (hm1 : E.2.1 + 1 ≤ E'.2.1) (hm2 : E.2.2 + n.toNat ≤ E'.2.2) (hdg : decode (q_cc mi) pc = .ok (.newarray .byte, 2)) (k : q_Good p l e R s m args below meth c D dA A H0 Q mi ov E' w' (pc + 2) loc (.inr (.inr (0, E.2.1)) :: st) (q_kset E.1 (0, E.2.1) (2, n.toNat), E.2.1 + 1, E.2.2 + n.toNat) w) : q_Good p l e R s m args below meth c D dA A H0 Q mi ov E' w' pc loc (.inl n :: st) E w := by
  intro ad rs H locs ls cells slots hSt hL hs0 hSc h1 h2 h3 hK
  obtain ⟨hV, hP, hD, hS⟩ := id hSt
  have hs : ∀ v ∈ st, q_vok rs v := (List.forall_mem_cons.mp hs0).2
  have hkok : q_kok (2, n.toNat) := Or.inr ⟨by simp, by dsimp only; omega⟩
  obtain ⟨hV1, hnew⟩ := q_V_new (sl := E.2.2 + n.toNat) hV hkok
  have hz : ∀ j, w.1 0 E.2.1 j = 0 ∧ w.2.1 0 E.2.1 j = 0 ∧ w.2.2 0 E.2.1 j = none := fun j => hV.2.2.2.2.1 E.2.1 (Nat.le_refl _) j
  have fin : ∀ (q : Nat) (H1 : Heap), va_P D q_cls (q_ws dA (q_kset E.1 (0, E.2.1) (2, n.toNat)) w (fun r => if r = (0, E.2.1) then q else ad r) (rs ++ [(0, E.2.1)])) H1 → va_D A (q_ws dA (q_kset E.1 (0, E.2.1) (2, n.toNat)) w (fun r => if r = (0, E.2.1) then q else ad r) (rs ++ [(0, E.2.1)])) → va_S A H0 H1 locs → W p l e R s m args below meth c H1 locs (cells + 1) (slots + n.toNat) Q (F0 m (pc + 2) ls (.ref q :: st.map (q_m ad))) := by
    intro q H1 a1 a2 a3
    have hag : ∀ r, q_old rs r → (fun r => if r = (0, E.2.1) then q else ad r) r = ad r := fun r hr => if_neg (fun z => by
      rcases hr with y | y
      · exact hnew (by rw [← z]; exact y)
      · rw [y] at z; simp at z)
    have hsub : ∀ r ∈ rs, r ∈ rs ++ [(0, E.2.1)] := fun r hr => List.mem_append_left _ hr
    have hk := k (fun r => if r = (0, E.2.1) then q else ad r) (rs ++ [(0, E.2.1)]) H1 locs ls (cells + 1) (slots + n.toNat) ⟨hV1, a1, a2, a3⟩ (q_Lk_ext hag hsub hL) (List.forall_mem_cons.mpr ⟨Or.inl (List.mem_append_right _ (List.mem_singleton.mpr rfl)), fun v hv => q_vok_ext hsub (hs v hv)⟩) (q_Sc_ext hSc (hag _ (Or.inr rfl)) rfl (by simp [q_kset])) (by dsimp only; omega) (by dsimp only; omega) (by dsimp only; omega) (by
      have e1 : cells + 1 + (E'.2.1 - (E.2.1 + 1)) = cells + (E'.2.1 - E.2.1) := by omega
      have e2 : slots + n.toNat + (E'.2.2 - (E.2.2 + n.toNat)) = slots + (E'.2.2 - E.2.2) := by omega
      dsimp only
      rw [e1, e2]
      intro ad' rs' H' locs' ls' pc' b1 b2 b3 b4
      exact hK ad' rs' H' locs' ls' pc' b1 (fun r hr => (b2 r (q_old_ext hsub hr)).trans (hag r hr)) (fun r hr => b3 r (hsub r hr)) b4)
    have ev : List.map (q_m (fun r => if r = (0, E.2.1) then q else ad r)) (.inr (.inr (0, E.2.1)) :: st) = .ref q :: st.map (q_m ad) := by
      rw [List.map_cons, q_map_ext hag hs]
      simp [q_m]
    rw [ev] at hk
    exact hk
  have hcn := (List.forall_mem_cons.mp hs0).1
  have hby : n.toNat * componentBytes (.byte : FieldType) ≤ 536870912 := Nat.le_trans (Nat.mul_le_mul_left _ (show componentBytes (.byte : FieldType) ≤ 8 by decide)) (by omega)
  refine va_newa (atype := .byte) (ty := .byte) (N' := n.toNat) (a0 := (n.toNat, .inl (fun j => Int32.ofInt (w.1 0 E.2.1 j)))) hC.1 hC.2.1 (hC.2.2.2.2.1 _ hw) rfl hK0 hP hD hS hA (fun cA => ?_) (fun z => ?_) (q_ixn hcn) hby (by omega) (by omega) hdg (fun q cA H1 a0 a1 a2 a3 => ?_)
  · simp only [(hz _).1]
    rfl
  · have := (q_e_lt hcn q_can_0).mp z
    omega
  · have hcA := q_dA_eq (k := 2) hK0 (by decide) a0
    subst hcA
    rw [q_ws_new (k := 2) (n := n.toNat) hV hnew (q_cell_i (by unfold q_kset; rw [if_pos rfl]) (by decide)).symm] at a1 a2
    exact fin q H1 a1 a2 a3
theorem q_s_newZ (hC : q_Cx p R s m args meth c mi) (hK0 : va_K D q_cls (q_tys dA) s) (hA : ∀ q, H0.size ≤ q → A q) {n : Int} (h0 : 0 ≤ n) (h1000 : n ≤ 1000) (hw : Cond.arrayClass (newarray.typeOf .boolean) ∈ q_W) (hm1 : E.2.1 + 1 ≤ E'.2.1) (hm2 : E.2.2 + n.toNat ≤ E'.2.2) (hdg : decode (q_cc mi) pc = .ok (.newarray .boolean, 2)) (k : q_Good p l e R s m args below meth c D dA A H0 Q mi ov E' w' (pc + 2) loc (.inr (.inr (0, E.2.1)) :: st) (q_kset E.1 (0, E.2.1) (3, n.toNat), E.2.1 + 1, E.2.2 + n.toNat) w) : q_Good p l e R s m args below meth c D dA A H0 Q mi ov E' w' pc loc (.inl n :: st) E w := by
  intro ad rs H locs ls cells slots hSt hL hs0 hSc h1 h2 h3 hK
  obtain ⟨hV, hP, hD, hS⟩ := id hSt
  have hs : ∀ v ∈ st, q_vok rs v := (List.forall_mem_cons.mp hs0).2
  have hkok : q_kok (3, n.toNat) := Or.inr ⟨by simp, by dsimp only; omega⟩
  obtain ⟨hV1, hnew⟩ := q_V_new (sl := E.2.2 + n.toNat) hV hkok
  have hz : ∀ j, w.1 0 E.2.1 j = 0 ∧ w.2.1 0 E.2.1 j = 0 ∧ w.2.2 0 E.2.1 j = none := fun j => hV.2.2.2.2.1 E.2.1 (Nat.le_refl _) j
  have fin : ∀ (q : Nat) (H1 : Heap), va_P D q_cls (q_ws dA (q_kset E.1 (0, E.2.1) (3, n.toNat)) w (fun r => if r = (0, E.2.1) then q else ad r) (rs ++ [(0, E.2.1)])) H1 → va_D A (q_ws dA (q_kset E.1 (0, E.2.1) (3, n.toNat)) w (fun r => if r = (0, E.2.1) then q else ad r) (rs ++ [(0, E.2.1)])) → va_S A H0 H1 locs → W p l e R s m args below meth c H1 locs (cells + 1) (slots + n.toNat) Q (F0 m (pc + 2) ls (.ref q :: st.map (q_m ad))) := by
    intro q H1 a1 a2 a3
    have hag : ∀ r, q_old rs r → (fun r => if r = (0, E.2.1) then q else ad r) r = ad r := fun r hr => if_neg (fun z => by
      rcases hr with y | y
      · exact hnew (by rw [← z]; exact y)
      · rw [y] at z; simp at z)
    have hsub : ∀ r ∈ rs, r ∈ rs ++ [(0, E.2.1)] := fun r hr => List.mem_append_left _ hr
    have hk := k (fun r => if r = (0, E.2.1) then q else ad r) (rs ++ [(0, E.2.1)]) H1 locs ls (cells + 1) (slots + n.toNat) ⟨hV1, a1, a2, a3⟩ (q_Lk_ext hag hsub hL) (List.forall_mem_cons.mpr ⟨Or.inl (List.mem_append_right _ (List.mem_singleton.mpr rfl)), fun v hv => q_vok_ext hsub (hs v hv)⟩) (q_Sc_ext hSc (hag _ (Or.inr rfl)) rfl (by simp [q_kset])) (by dsimp only; omega) (by dsimp only; omega) (by dsimp only; omega) (by
      have e1 : cells + 1 + (E'.2.1 - (E.2.1 + 1)) = cells + (E'.2.1 - E.2.1) := by omega
      have e2 : slots + n.toNat + (E'.2.2 - (E.2.2 + n.toNat)) = slots + (E'.2.2 - E.2.2) := by omega
      dsimp only
      rw [e1, e2]
      intro ad' rs' H' locs' ls' pc' b1 b2 b3 b4
      exact hK ad' rs' H' locs' ls' pc' b1 (fun r hr => (b2 r (q_old_ext hsub hr)).trans (hag r hr)) (fun r hr => b3 r (hsub r hr)) b4)
    have ev : List.map (q_m (fun r => if r = (0, E.2.1) then q else ad r)) (.inr (.inr (0, E.2.1)) :: st) = .ref q :: st.map (q_m ad) := by
      rw [List.map_cons, q_map_ext hag hs]
      simp [q_m]
    rw [ev] at hk
    exact hk
  have hcn := (List.forall_mem_cons.mp hs0).1
  have hby : n.toNat * componentBytes (.boolean : FieldType) ≤ 536870912 := Nat.le_trans (Nat.mul_le_mul_left _ (show componentBytes (.boolean : FieldType) ≤ 8 by decide)) (by omega)
  refine va_newa (atype := .boolean) (ty := .boolean) (N' := n.toNat) (a0 := (n.toNat, .inl (fun j => Int32.ofInt (w.1 0 E.2.1 j)))) hC.1 hC.2.1 (hC.2.2.2.2.1 _ hw) rfl hK0 hP hD hS hA (fun cA => ?_) (fun z => ?_) (q_ixn hcn) hby (by omega) (by omega) hdg (fun q cA H1 a0 a1 a2 a3 => ?_)
  · simp only [(hz _).1]
    rfl
  · have := (q_e_lt hcn q_can_0).mp z
    omega
  · have hcA := q_dA_eq (k := 3) hK0 (by decide) a0
    subst hcA
    rw [q_ws_new (k := 3) (n := n.toNat) hV hnew (q_cell_i (by unfold q_kset; rw [if_pos rfl]) (by decide)).symm] at a1 a2
    exact fin q H1 a1 a2 a3
theorem q_s_newJ (hC : q_Cx p R s m args meth c mi) (hK0 : va_K D q_cls (q_tys dA) s) (hA : ∀ q, H0.size ≤ q → A q) {n : Int} (h0 : 0 ≤ n) (h1000 : n ≤ 1000) (hw : Cond.arrayClass (newarray.typeOf .long) ∈ q_W) (hm1 : E.2.1 + 1 ≤ E'.2.1) (hm2 : E.2.2 + n.toNat ≤ E'.2.2) (hdg : decode (q_cc mi) pc = .ok (.newarray .long, 2)) (k : q_Good p l e R s m args below meth c D dA A H0 Q mi ov E' w' (pc + 2) loc (.inr (.inr (0, E.2.1)) :: st) (q_kset E.1 (0, E.2.1) (4, n.toNat), E.2.1 + 1, E.2.2 + n.toNat) w) : q_Good p l e R s m args below meth c D dA A H0 Q mi ov E' w' pc loc (.inl n :: st) E w := by
  intro ad rs H locs ls cells slots hSt hL hs0 hSc h1 h2 h3 hK
  obtain ⟨hV, hP, hD, hS⟩ := id hSt
  have hs : ∀ v ∈ st, q_vok rs v := (List.forall_mem_cons.mp hs0).2
  have hkok : q_kok (4, n.toNat) := Or.inr ⟨by simp, by dsimp only; omega⟩
  obtain ⟨hV1, hnew⟩ := q_V_new (sl := E.2.2 + n.toNat) hV hkok
  have hz : ∀ j, w.1 0 E.2.1 j = 0 ∧ w.2.1 0 E.2.1 j = 0 ∧ w.2.2 0 E.2.1 j = none := fun j => hV.2.2.2.2.1 E.2.1 (Nat.le_refl _) j
  have fin : ∀ (q : Nat) (H1 : Heap), va_P D q_cls (q_ws dA (q_kset E.1 (0, E.2.1) (4, n.toNat)) w (fun r => if r = (0, E.2.1) then q else ad r) (rs ++ [(0, E.2.1)])) H1 → va_D A (q_ws dA (q_kset E.1 (0, E.2.1) (4, n.toNat)) w (fun r => if r = (0, E.2.1) then q else ad r) (rs ++ [(0, E.2.1)])) → va_S A H0 H1 locs → W p l e R s m args below meth c H1 locs (cells + 1) (slots + n.toNat) Q (F0 m (pc + 2) ls (.ref q :: st.map (q_m ad))) := by
    intro q H1 a1 a2 a3
    have hag : ∀ r, q_old rs r → (fun r => if r = (0, E.2.1) then q else ad r) r = ad r := fun r hr => if_neg (fun z => by
      rcases hr with y | y
      · exact hnew (by rw [← z]; exact y)
      · rw [y] at z; simp at z)
    have hsub : ∀ r ∈ rs, r ∈ rs ++ [(0, E.2.1)] := fun r hr => List.mem_append_left _ hr
    have hk := k (fun r => if r = (0, E.2.1) then q else ad r) (rs ++ [(0, E.2.1)]) H1 locs ls (cells + 1) (slots + n.toNat) ⟨hV1, a1, a2, a3⟩ (q_Lk_ext hag hsub hL) (List.forall_mem_cons.mpr ⟨Or.inl (List.mem_append_right _ (List.mem_singleton.mpr rfl)), fun v hv => q_vok_ext hsub (hs v hv)⟩) (q_Sc_ext hSc (hag _ (Or.inr rfl)) rfl (by simp [q_kset])) (by dsimp only; omega) (by dsimp only; omega) (by dsimp only; omega) (by
      have e1 : cells + 1 + (E'.2.1 - (E.2.1 + 1)) = cells + (E'.2.1 - E.2.1) := by omega
      have e2 : slots + n.toNat + (E'.2.2 - (E.2.2 + n.toNat)) = slots + (E'.2.2 - E.2.2) := by omega
      dsimp only
      rw [e1, e2]
      intro ad' rs' H' locs' ls' pc' b1 b2 b3 b4
      exact hK ad' rs' H' locs' ls' pc' b1 (fun r hr => (b2 r (q_old_ext hsub hr)).trans (hag r hr)) (fun r hr => b3 r (hsub r hr)) b4)
    have ev : List.map (q_m (fun r => if r = (0, E.2.1) then q else ad r)) (.inr (.inr (0, E.2.1)) :: st) = .ref q :: st.map (q_m ad) := by
      rw [List.map_cons, q_map_ext hag hs]
      simp [q_m]
    rw [ev] at hk
    exact hk
  have hcn := (List.forall_mem_cons.mp hs0).1
  have hby : n.toNat * componentBytes (.long : FieldType) ≤ 536870912 := Nat.le_trans (Nat.mul_le_mul_left _ (show componentBytes (.long : FieldType) ≤ 8 by decide)) (by omega)
  refine va_newa (atype := .long) (ty := .long) (N' := n.toNat) (a0 := (n.toNat, .inr (.inl (fun j => w.2.1 0 E.2.1 j)))) hC.1 hC.2.1 (hC.2.2.2.2.1 _ hw) rfl hK0 hP hD hS hA (fun cA => ?_) (fun z => ?_) (q_ixn hcn) hby (by omega) (by omega) hdg (fun q cA H1 a0 a1 a2 a3 => ?_)
  · simp only [(hz _).2.1]
    rfl
  · have := (q_e_lt hcn q_can_0).mp z
    omega
  · have hcA := q_dA_eq (k := 4) hK0 (by decide) a0
    subst hcA
    rw [q_ws_new (k := 4) (n := n.toNat) hV hnew (q_cell_l (by unfold q_kset; rw [if_pos rfl])).symm] at a1 a2
    exact fin q H1 a1 a2 a3
theorem q_s_newMo (hC : q_Cx p R s m args meth c mi) (hK0 : va_K D q_cls (q_tys dA) s) (hA : ∀ q, H0.size ≤ q → A q) {n : Int} (h0 : 0 ≤ n) (h1000 : n ≤ 1000) {idx : Nat} (hw1 : Cond.classLink (q_y mi).cls idx "GrassCells$Moment" ∈ q_W) (hw2 : Cond.arrayOver (.object "GrassCells$Moment") ∈ q_W) (hm1 : E.2.1 + 1 ≤ E'.2.1) (hm2 : E.2.2 + n.toNat ≤ E'.2.2) (hdg : decode (q_cc mi) pc = .ok (.anewarray idx, 3)) (k : q_Good p l e R s m args below meth c D dA A H0 Q mi ov E' w' (pc + 3) loc (.inr (.inr (0, E.2.1)) :: st) (q_kset E.1 (0, E.2.1) (11, n.toNat), E.2.1 + 1, E.2.2 + n.toNat) w) : q_Good p l e R s m args below meth c D dA A H0 Q mi ov E' w' pc loc (.inl n :: st) E w := by
  intro ad rs H locs ls cells slots hSt hL hs0 hSc h1 h2 h3 hK
  obtain ⟨hV, hP, hD, hS⟩ := id hSt
  have hs : ∀ v ∈ st, q_vok rs v := (List.forall_mem_cons.mp hs0).2
  have hkok : q_kok (11, n.toNat) := Or.inr ⟨by simp, by dsimp only; omega⟩
  obtain ⟨hV1, hnew⟩ := q_V_new (sl := E.2.2 + n.toNat) hV hkok
  have hz : ∀ j, w.1 0 E.2.1 j = 0 ∧ w.2.1 0 E.2.1 j = 0 ∧ w.2.2 0 E.2.1 j = none := fun j => hV.2.2.2.2.1 E.2.1 (Nat.le_refl _) j
  have fin : ∀ (q : Nat) (H1 : Heap), va_P D q_cls (q_ws dA (q_kset E.1 (0, E.2.1) (11, n.toNat)) w (fun r => if r = (0, E.2.1) then q else ad r) (rs ++ [(0, E.2.1)])) H1 → va_D A (q_ws dA (q_kset E.1 (0, E.2.1) (11, n.toNat)) w (fun r => if r = (0, E.2.1) then q else ad r) (rs ++ [(0, E.2.1)])) → va_S A H0 H1 locs → W p l e R s m args below meth c H1 locs (cells + 1) (slots + n.toNat) Q (F0 m (pc + 3) ls (.ref q :: st.map (q_m ad))) := by
    intro q H1 a1 a2 a3
    have hag : ∀ r, q_old rs r → (fun r => if r = (0, E.2.1) then q else ad r) r = ad r := fun r hr => if_neg (fun z => by
      rcases hr with y | y
      · exact hnew (by rw [← z]; exact y)
      · rw [y] at z; simp at z)
    have hsub : ∀ r ∈ rs, r ∈ rs ++ [(0, E.2.1)] := fun r hr => List.mem_append_left _ hr
    have hk := k (fun r => if r = (0, E.2.1) then q else ad r) (rs ++ [(0, E.2.1)]) H1 locs ls (cells + 1) (slots + n.toNat) ⟨hV1, a1, a2, a3⟩ (q_Lk_ext hag hsub hL) (List.forall_mem_cons.mpr ⟨Or.inl (List.mem_append_right _ (List.mem_singleton.mpr rfl)), fun v hv => q_vok_ext hsub (hs v hv)⟩) (q_Sc_ext hSc (hag _ (Or.inr rfl)) rfl (by simp [q_kset])) (by dsimp only; omega) (by dsimp only; omega) (by dsimp only; omega) (by
      have e1 : cells + 1 + (E'.2.1 - (E.2.1 + 1)) = cells + (E'.2.1 - E.2.1) := by omega
      have e2 : slots + n.toNat + (E'.2.2 - (E.2.2 + n.toNat)) = slots + (E'.2.2 - E.2.2) := by omega
      dsimp only
      rw [e1, e2]
      intro ad' rs' H' locs' ls' pc' b1 b2 b3 b4
      exact hK ad' rs' H' locs' ls' pc' b1 (fun r hr => (b2 r (q_old_ext hsub hr)).trans (hag r hr)) (fun r hr => b3 r (hsub r hr)) b4)
    have ev : List.map (q_m (fun r => if r = (0, E.2.1) then q else ad r)) (.inr (.inr (0, E.2.1)) :: st) = .ref q :: st.map (q_m ad) := by
      rw [List.map_cons, q_map_ext hag hs]
      simp [q_m]
    rw [ev] at hk
    exact hk
  have hcn := (List.forall_mem_cons.mp hs0).1
  have hAO : va_AO "GrassCells$Moment" s := by
    exact va_AO.of (hC.2.2.2.2.1 _ hw2)
  refine va_newq (N' := n.toNat) hC.1 hC.2.1 hC.2.2.2.1 (hC.2.2.2.2.1 _ hw1) hAO hK0 hP hD hS hA (fun z => ?_) (q_ixn hcn) (by omega) (by omega) (by omega) hdg (fun q cA H1 a0 a1 a2 a3 => ?_)
  · have := (q_e_lt hcn q_can_0).mp z
    omega
  · have hcA := q_dA_eq (k := 11) hK0 (by decide) a0
    subst hcA
    have e1 : (.inl (dA 11, n.toNat, .inr (.inr (.inr (.inr (fun _ => none))))) : va_E) = q_cell dA (q_kset E.1 (0, E.2.1) (11, n.toNat)) w (fun r => if r = (0, E.2.1) then q else ad r) (0, E.2.1) := by
      rw [q_cell_q (k := 11) (n := n.toNat) (by unfold q_kset; rw [if_pos rfl]) (by decide)]
      congr 7
      funext j
      dsimp only
      rw [(hz j).2.2]
      simp
    rw [q_ws_new (k := 11) (n := n.toNat) hV hnew e1] at a1 a2
    exact fin q H1 a1 a2 a3
theorem q_s_newSh (hC : q_Cx p R s m args meth c mi) (hK0 : va_K D q_cls (q_tys dA) s) (hA : ∀ q, H0.size ≤ q → A q) {n : Int} (h0 : 0 ≤ n) (h1000 : n ≤ 1000) {idx : Nat} (hw1 : Cond.classLink (q_y mi).cls idx "GrassCells$Shelf" ∈ q_W) (hw2 : Cond.arrayOver (.object "GrassCells$Shelf") ∈ q_W) (hm1 : E.2.1 + 1 ≤ E'.2.1) (hm2 : E.2.2 + n.toNat ≤ E'.2.2) (hdg : decode (q_cc mi) pc = .ok (.anewarray idx, 3)) (k : q_Good p l e R s m args below meth c D dA A H0 Q mi ov E' w' (pc + 3) loc (.inr (.inr (0, E.2.1)) :: st) (q_kset E.1 (0, E.2.1) (15, n.toNat), E.2.1 + 1, E.2.2 + n.toNat) w) : q_Good p l e R s m args below meth c D dA A H0 Q mi ov E' w' pc loc (.inl n :: st) E w := by
  intro ad rs H locs ls cells slots hSt hL hs0 hSc h1 h2 h3 hK
  obtain ⟨hV, hP, hD, hS⟩ := id hSt
  have hs : ∀ v ∈ st, q_vok rs v := (List.forall_mem_cons.mp hs0).2
  have hkok : q_kok (15, n.toNat) := Or.inr ⟨by simp, by dsimp only; omega⟩
  obtain ⟨hV1, hnew⟩ := q_V_new (sl := E.2.2 + n.toNat) hV hkok
  have hz : ∀ j, w.1 0 E.2.1 j = 0 ∧ w.2.1 0 E.2.1 j = 0 ∧ w.2.2 0 E.2.1 j = none := fun j => hV.2.2.2.2.1 E.2.1 (Nat.le_refl _) j
  have fin : ∀ (q : Nat) (H1 : Heap), va_P D q_cls (q_ws dA (q_kset E.1 (0, E.2.1) (15, n.toNat)) w (fun r => if r = (0, E.2.1) then q else ad r) (rs ++ [(0, E.2.1)])) H1 → va_D A (q_ws dA (q_kset E.1 (0, E.2.1) (15, n.toNat)) w (fun r => if r = (0, E.2.1) then q else ad r) (rs ++ [(0, E.2.1)])) → va_S A H0 H1 locs → W p l e R s m args below meth c H1 locs (cells + 1) (slots + n.toNat) Q (F0 m (pc + 3) ls (.ref q :: st.map (q_m ad))) := by
    intro q H1 a1 a2 a3
    have hag : ∀ r, q_old rs r → (fun r => if r = (0, E.2.1) then q else ad r) r = ad r := fun r hr => if_neg (fun z => by
      rcases hr with y | y
      · exact hnew (by rw [← z]; exact y)
      · rw [y] at z; simp at z)
    have hsub : ∀ r ∈ rs, r ∈ rs ++ [(0, E.2.1)] := fun r hr => List.mem_append_left _ hr
    have hk := k (fun r => if r = (0, E.2.1) then q else ad r) (rs ++ [(0, E.2.1)]) H1 locs ls (cells + 1) (slots + n.toNat) ⟨hV1, a1, a2, a3⟩ (q_Lk_ext hag hsub hL) (List.forall_mem_cons.mpr ⟨Or.inl (List.mem_append_right _ (List.mem_singleton.mpr rfl)), fun v hv => q_vok_ext hsub (hs v hv)⟩) (q_Sc_ext hSc (hag _ (Or.inr rfl)) rfl (by simp [q_kset])) (by dsimp only; omega) (by dsimp only; omega) (by dsimp only; omega) (by
      have e1 : cells + 1 + (E'.2.1 - (E.2.1 + 1)) = cells + (E'.2.1 - E.2.1) := by omega
      have e2 : slots + n.toNat + (E'.2.2 - (E.2.2 + n.toNat)) = slots + (E'.2.2 - E.2.2) := by omega
      dsimp only
      rw [e1, e2]
      intro ad' rs' H' locs' ls' pc' b1 b2 b3 b4
      exact hK ad' rs' H' locs' ls' pc' b1 (fun r hr => (b2 r (q_old_ext hsub hr)).trans (hag r hr)) (fun r hr => b3 r (hsub r hr)) b4)
    have ev : List.map (q_m (fun r => if r = (0, E.2.1) then q else ad r)) (.inr (.inr (0, E.2.1)) :: st) = .ref q :: st.map (q_m ad) := by
      rw [List.map_cons, q_map_ext hag hs]
      simp [q_m]
    rw [ev] at hk
    exact hk
  have hcn := (List.forall_mem_cons.mp hs0).1
  have hAO : va_AO "GrassCells$Shelf" s := by
    exact va_AO.of (hC.2.2.2.2.1 _ hw2)
  refine va_newq (N' := n.toNat) hC.1 hC.2.1 hC.2.2.2.1 (hC.2.2.2.2.1 _ hw1) hAO hK0 hP hD hS hA (fun z => ?_) (q_ixn hcn) (by omega) (by omega) (by omega) hdg (fun q cA H1 a0 a1 a2 a3 => ?_)
  · have := (q_e_lt hcn q_can_0).mp z
    omega
  · have hcA := q_dA_eq (k := 15) hK0 (by decide) a0
    subst hcA
    have e1 : (.inl (dA 15, n.toNat, .inr (.inr (.inr (.inr (fun _ => none))))) : va_E) = q_cell dA (q_kset E.1 (0, E.2.1) (15, n.toNat)) w (fun r => if r = (0, E.2.1) then q else ad r) (0, E.2.1) := by
      rw [q_cell_q (k := 15) (n := n.toNat) (by unfold q_kset; rw [if_pos rfl]) (by decide)]
      congr 7
      funext j
      dsimp only
      rw [(hz j).2.2]
      simp
    rw [q_ws_new (k := 15) (n := n.toNat) hV hnew e1] at a1 a2
    exact fin q H1 a1 a2 a3
end QA
end
section
/-! begun with the rows of claim/NAMES.whole for new T[n][m]; then that step of the small machine -/
/-- f, but v at every address of l -/
def vr_up {α : Type} (f : Nat → α) (l : List Nat) (v : α) : Nat → α := fun a => if a ∈ l then v else f a
theorem vr_up_in {α : Type} {f : Nat → α} {l : List Nat} {v : α} {a : Nat} (h : a ∈ l) : vr_up f l v a = v := if_pos h
theorem vr_up_ne {α : Type} {f : Nat → α} {l : List Nat} {v : α} {a : Nat} (h : a ∉ l) : vr_up f l v a = f a := if_neg h
theorem vr_rows {L l : List Nat} {f : Nat → va_E} {e : va_E} (h : ∀ a, a ∈ l → a ∉ L) : va_pl L f ++ l.map (fun a => (a, e)) = va_pl (L ++ l) (vr_up f l e) := by
  unfold va_pl
  rw [List.map_append]
  congr 1
  · apply List.map_congr_left
    intro a ha
    rw [vr_up_ne (fun q => h a q ha)]
  · apply List.map_congr_left
    intro a ha
    rw [vr_up_in ha]
theorem vr_lay {X rows : va_W} {x : Nat × va_E} {pl : va_W} {D : va_G} {cl : List vw_C} {H : Heap} (hP : va_P D cl (((X ++ pl) ++ [x]) ++ rows) H) : va_P D cl ((X ++ [x]) ++ (pl ++ rows)) H := by
  rw [List.append_assoc (X ++ pl)] at hP
  have h := va_P.swap hP
  rw [← List.append_assoc X] at h
  have h2 := va_P.swap h
  rw [List.append_assoc (X ++ [x])] at h2
  exact h2
theorem vr_layD {X rows : va_W} {x : Nat × va_E} {pl : va_W} {A : Nat → Prop} (hD : va_D A (((X ++ pl) ++ [x]) ++ rows)) : va_D A ((X ++ [x]) ++ (pl ++ rows)) := by
  rw [List.append_assoc (X ++ pl)] at hD
  have h := va_D.swap hD
  rw [← List.append_assoc X] at h
  have h2 := va_D.swap h
  rw [List.append_assoc (X ++ [x])] at h2
  exact h2
theorem vr_outer (c : ClassId) (N h0 : Nat) : ∀ i : Nat, Jvm.Free.Multi.outerC c N h0 i = arrV c N (fun j => va_rf (if j < i then some (h0 + 1 + j) else none))
  | 0 => by
    show ({ cls := c, slots := Array.replicate N .null, vm := .none } : Cell) = _
    rw [arrV_new]
    refine congrArg (arrV c N) (funext fun j => ?_)
    simp [va_rf]
  | i + 1 => by
    show (Jvm.Free.Multi.outerC c N h0 i).setSlot i (.ref (h0 + 1 + i)) = _
    rw [vr_outer c N h0 i, arrV_store]
    refine congrArg (arrV c N) (funext fun j => ?_)
    by_cases e : j = i
    · subst e
      simp [updV, va_rf]
    · by_cases h : j < i
      · simp [updV, e, h, Nat.lt_succ_of_lt h]
      · simp [updV, e, h, show ¬ j < i + 1 by omega]
section VGM
variable {p : Program} {l : Launch} {e : Env} {R : Room} {s : State} {m : MethodId} {args : Array Value} {below : List Frame} {meth : Method} {c : Code} {H : Heap} {locs : List Loc} {cells slots : Nat} {Q : State → Prop}
variable {cc : ByteArray} {pc : Nat} {ls : Array Slot} {rest : List Value} {D : va_G} {cl : List vw_C} {A : Nat → Prop} {a : Nat} {tys : List (ClassId × FieldType)} {ws : va_W} {H0 : Heap}
theorem va_mna {X : va_W} {L : List Nat} {f : Nat → va_E} {cc : ByteArray} (hexec : p.tables.exec = Jvm.exec) (hb : c.code = cc) {own : String} {index : Nat} {ty : FieldType} {cy : ClassId} (hown : s.vm.findClass own = some m.cls) (hclink : (Cond.classLink own index ("[" ++ (FieldType.array ty).toString)).before args s = true) (hover : (Cond.arrayOver (.array ty)).before args s = true) (harr : (Cond.arrayClass ty).before args s = true) (hcy : s.vm.findClass (FieldType.array ty).toString = some cy)
    (hK : va_K D cl tys s) (hP : va_P D cl (X ++ va_pl L f) H) (hD : va_D A (X ++ va_pl L f)) (hS : va_S A H0 H locs) (hA : ∀ q, H0.size ≤ q → A q) {n k : Int32} {N' K' : Nat} {z : vp_A} (hn : ¬ n < 0) (hk : ¬ k < 0) (hN : n.toNatClampNeg = N') (hM : k.toNatClampNeg = K')
    (hb1 : N' * 4 ≤ 536870912) (hb2 : K' * componentBytes ty ≤ 536870912) (hb3 : K' ≤ 536870912) (hdf : fits ty (defaultValue ty) = true) (hdd : (defaultValue ty).isDefault = true) (hcells : cells + (1 + N') ≤ R.cells) (hslots : slots + (N' + N' * K') ≤ R.slots) (hz : ∀ c : ClassId, Jvm.Free.Multi.innerC c K' (defaultValue ty) = vp_cell c z) (hdg : decode cc pc = .ok (.multianewarray index 2, 4))
    (kk : ∀ (q : Nat) (r : Nat → Nat) (cA : ClassId) (H1 : Heap), (∀ i j : Nat, i < N' → j < N' → r i = r j → i = j) → (∀ i : Nat, i < N' → r i ∉ L) → va_K D cl (tys ++ [(cA, .array ty)]) s →
      va_P D cl ((X ++ [(q, .inl (cA, N', .inr (.inr (.inr (.inr (fun i => if i < N' then some (r i) else none))))))]) ++ va_pl (L ++ (List.range N').map r) (vr_up f ((List.range N').map r) (.inl (cy, z)))) H1 → va_D A ((X ++ [(q, .inl (cA, N', .inr (.inr (.inr (.inr (fun i => if i < N' then some (r i) else none))))))]) ++ va_pl (L ++ (List.range N').map r) (vr_up f ((List.range N').map r) (.inl (cy, z)))) → va_S A H0 H1 locs →
      W p l e R s m args below meth c H1 locs (cells + 1 + N') (slots + N' + N' * K') Q (F0 m (pc + 4) ls (.ref q :: rest))) : W p l e R s m args below meth c H locs cells slots Q (F0 m pc ls (.int k :: .int n :: rest)) := by
  subst hN
  subst hM
  intro T hT Xs
  obtain ⟨vm₁, cA, comp, -, fA, fC, hO, -, X', step⟩ := Xs.multianewarray2F hexec hown hclink hover harr (g := F0 m pc ls (.int k :: .int n :: rest)) rfl (by rw [hb]; exact hdg) rfl hn hk hb1 hb2 hb3 hdf hdd hcells hslots
  have ec : some cy = some comp := hcy.symm.trans fC
  cases ec
  generalize hF : Jvm.Free.Multi.fill (T.setVm vm₁) cA cy n.toNatClampNeg k.toNatClampNeg (defaultValue ty) n.toNatClampNeg = F at X' step
  have hTh : (T.setVm vm₁).heap = H := hT
  obtain ⟨f1, f2, -, -⟩ := Jvm.Free.Multi.fill_facts (T.setVm vm₁) cA cy n.toNatClampNeg k.toNatClampNeg (defaultValue ty) n.toNatClampNeg
  rw [hF, hTh] at f1 f2
  have hold : ∀ x : Nat, x < H.size → F.heap[x]? = H[x]? := fun x hx => by
    have := Jvm.Free.Multi.fill_old (T.setVm vm₁) cA cy n.toNatClampNeg k.toNatClampNeg (defaultValue ty) (a := x) (by rw [hTh]; exact hx) n.toNatClampNeg
    rw [hF, hTh] at this
    exact this
  have hrow : ∀ j : Nat, j < n.toNatClampNeg → F.heap[H.size + 1 + j]? = some (vp_cell cy z) := fun j hj => by
    have := Jvm.Free.Multi.fill_inner (T.setVm vm₁) cA cy n.toNatClampNeg k.toNatClampNeg (defaultValue ty) n.toNatClampNeg j hj
    rw [hF, hTh, hz] at this
    exact this
  have hout : Jvm.Free.Multi.outerC cA n.toNatClampNeg H.size n.toNatClampNeg = vp_cell cA (n.toNatClampNeg, .inr (.inr (.inr (.inr (fun i => if i < n.toNatClampNeg then some (H.size + 1 + i) else none))))) := by
    rw [vp_cell_q]
    exact vr_outer cA n.toNatClampNeg H.size n.toNatClampNeg
  rw [hout] at f2
  have hlt : ∀ a, a ∈ L → a < H.size := fun a ha => by
    obtain ⟨k9, hk9⟩ := va_pl_get (X := X) (f := f) ha
    exact (hP k9 _ hk9).lt
  have hnl : ∀ i : Nat, i < n.toNatClampNeg → H.size + 1 + i ∉ L := fun i _ h => by
    have := hlt _ h
    omega
  have hnm : ∀ a, a ∈ (List.range n.toNatClampNeg).map (fun i => H.size + 1 + i) → a ∉ L := fun a ha h => by
    obtain ⟨i, -, rfl⟩ := List.mem_map.mp ha
    have := hlt _ h
    omega
  have hP0 : va_P D cl (X ++ va_pl L f) F.heap := hP.kept (fun k9 x hx => hold x.1 ((hP k9 x hx).lt))
  have hP1 : va_P D cl ((X ++ va_pl L f) ++ [(H.size, .inl (cA, n.toNatClampNeg, .inr (.inr (.inr (.inr (fun i => if i < n.toNatClampNeg then some (H.size + 1 + i) else none))))))]) F.heap := hP0.app (fun k9 x hx => by
    have h0 : k9 < 1 := (List.getElem?_eq_some_iff.mp hx).1
    rw [show k9 = 0 by omega] at hx
    cases hx
    exact f2)
  have hP2 : va_P D cl (((X ++ va_pl L f) ++ [(H.size, .inl (cA, n.toNatClampNeg, .inr (.inr (.inr (.inr (fun i => if i < n.toNatClampNeg then some (H.size + 1 + i) else none))))))]) ++ ((List.range n.toNatClampNeg).map (fun i => H.size + 1 + i)).map (fun a => (a, .inl (cy, z)))) F.heap := hP1.app (fun k9 x hx => by
    obtain ⟨a, ha, rfl⟩ := List.mem_map.mp (List.mem_of_getElem? hx)
    obtain ⟨i, hi, rfl⟩ := List.mem_map.mp ha
    exact hrow i (List.mem_range.mp hi))
  have hD2 : va_D A (((X ++ va_pl L f) ++ [(H.size, .inl (cA, n.toNatClampNeg, .inr (.inr (.inr (.inr (fun i => if i < n.toNatClampNeg then some (H.size + 1 + i) else none))))))]) ++ ((List.range n.toNatClampNeg).map (fun i => H.size + 1 + i)).map (fun a => (a, .inl (cy, z)))) := by
    have hD1 := hD.push (e := .inl (cA, n.toNatClampNeg, .inr (.inr (.inr (.inr (fun i => if i < n.toNatClampNeg then some (H.size + 1 + i) else none)))))) hP rfl (hA _ hS.1)
    generalize hW1 : (X ++ va_pl L f) ++ [(H.size, .inl (cA, n.toNatClampNeg, .inr (.inr (.inr (.inr (fun i => if i < n.toNatClampNeg then some (H.size + 1 + i) else none))))))] = W1 at hD1 hP1 ⊢
    have hle : ∀ (k9 : Nat) (x : Nat × va_E), W1[k9]? = some x → x.1 ≤ H.size := fun k9 x hx => by
      rw [← hW1] at hx
      by_cases hl : k9 < (X ++ va_pl L f).length
      · rw [List.getElem?_append_left hl] at hx
        exact Nat.le_of_lt ((hP k9 x hx).lt)
      · rw [List.getElem?_append_right (by omega)] at hx
        have h0 : k9 - (X ++ va_pl L f).length < 1 := (List.getElem?_eq_some_iff.mp hx).1
        rw [show k9 - (X ++ va_pl L f).length = 0 by omega] at hx
        cases hx
        exact Nat.le_refl _
    have hr : ∀ (k9 : Nat) (x : Nat × va_E), (((List.range n.toNatClampNeg).map (fun i => H.size + 1 + i)).map (fun a => ((a, .inl (cy, z)) : Nat × va_E)))[k9]? = some x → x.1 = H.size + 1 + k9 := fun k9 x hx => by
      rw [List.getElem?_map, List.getElem?_map] at hx
      by_cases h9 : k9 < n.toNatClampNeg
      · rw [List.getElem?_range h9] at hx
        cases hx
        rfl
      · have hn0 : (List.range n.toNatClampNeg)[k9]? = none := List.getElem?_eq_none (by rw [List.length_range]; omega)
        rw [hn0] at hx
        cases hx
    refine ⟨fun i j x y hi hj hxy => ?_, fun k9 x hx => ?_⟩
    · by_cases h1 : i < W1.length <;> by_cases h2 : j < W1.length
      · rw [List.getElem?_append_left h1] at hi
        rw [List.getElem?_append_left h2] at hj
        exact hD1.1 i j x y hi hj hxy
      · rw [List.getElem?_append_left h1] at hi
        rw [List.getElem?_append_right (by omega)] at hj
        have := hle _ _ hi
        have := hr _ _ hj
        omega
      · rw [List.getElem?_append_right (by omega)] at hi
        rw [List.getElem?_append_left h2] at hj
        have := hle _ _ hj
        have := hr _ _ hi
        omega
      · rw [List.getElem?_append_right (by omega)] at hi hj
        have := hr _ _ hi
        have := hr _ _ hj
        omega
    · by_cases h1 : k9 < W1.length
      · rw [List.getElem?_append_left h1] at hx
        exact hD1.2 k9 x hx
      · rw [List.getElem?_append_right (by omega)] at hx
        have := hr _ _ hx
        exact hA _ (by have := hS.1; omega)
  have hAr : ArrOfT s cA (.array ty) := fun N9 z9 => by
    obtain ⟨-, k9, hk9, cm9, hkk9⟩ := (hO 0 0 0).1
    exact ⟨(fun q hq => by cases hq), k9, hk9, cm9, hkk9⟩
  have hK2 : va_K D cl (tys ++ [(cA, .array ty)]) s := ⟨hK.1, fun k9 x hx => by
    by_cases hl : k9 < tys.length
    · rw [List.getElem?_append_left hl] at hx
      exact hK.2 k9 x hx
    · rw [List.getElem?_append_right (by omega)] at hx
      have h0 : k9 - tys.length < 1 := (List.getElem?_eq_some_iff.mp hx).1
      rw [show k9 - tys.length = 0 by omega] at hx
      cases hx
      exact ⟨hAr, fA⟩⟩
  obtain ⟨t, a1, b1⟩ := kk H.size (fun i => H.size + 1 + i) cA F.heap (fun i j _ _ h => by have h9 : H.size + 1 + i = H.size + 1 + j := h; omega) hnl hK2 (by rw [← vr_rows hnm]; exact vr_lay hP2) (by rw [← vr_rows hnm]; exact vr_layD hD2) ⟨by rw [f1]; have := hS.1; omega, fun x h1 h2 => (hold x (Nat.lt_of_lt_of_le h1 hS.1)).trans (hS.2.1 x h1 h2), hS.2.2⟩ F rfl X'
  refine ⟨t, step t ?_, b1⟩
  have e : T.heap.size = H.size := by rw [hT]
  rw [e]
  exact a1
end VGM
section QM
variable {p : Program} {l : Launch} {e : Env} {R : Room} {s : State} {m : MethodId} {args : Array Value} {below : List Frame} {meth : Method} {c : Code} {D : va_G} {dA : Nat → ClassId} {A : Nat → Prop} {H0 : Heap} {Q : State → Prop} {mi : Nat} {ov : Option qV} {E' E : qE} {w' w : qW} {pc : Nat} {loc : qLo} {st : List qV}
/-- the address function behind a row of rows -/
def q_adm (ad : qR → Nat) (nx n q : Nat) (r : Nat → Nat) : qR → Nat := fun x => if x = (0, nx) then q else if x.1 = 0 ∧ nx + 1 ≤ x.2 ∧ x.2 < nx + 1 + n then r (x.2 - (nx + 1)) else ad x
def q_newr (nx n : Nat) : List qR := (0, nx) :: (List.range n).map (fun i => (0, nx + 1 + i))
def q_envm (E : qR → Option (Nat × Nat)) (nx kk n kb m : Nat) : qR → Option (Nat × Nat) := q_rows (q_kset E (0, nx) (kk, n)) (nx + 1) n (kb, m)
theorem q_newr_mem {nx n : Nat} {x : qR} : x ∈ q_newr nx n ↔ x.1 = 0 ∧ nx ≤ x.2 ∧ x.2 < nx + 1 + n := by
  obtain ⟨t, j⟩ := x
  unfold q_newr
  rw [List.mem_cons, List.mem_map]
  constructor
  · rintro (h | ⟨i, h1, h2⟩)
    · simp only [Prod.mk.injEq] at h
      dsimp only
      omega
    · rw [List.mem_range] at h1
      simp only [Prod.mk.injEq] at h2
      dsimp only
      omega
  · rintro ⟨h1, h2, h3⟩
    dsimp only at h1 h2 h3
    subst h1
    by_cases hj : j = nx
    · left; rw [hj]
    · right; exact ⟨j - (nx + 1), List.mem_range.mpr (by omega), by simp only [Prod.mk.injEq, true_and]; omega⟩
theorem q_envm_old {E : qR → Option (Nat × Nat)} {nx kk n kb m : Nat} {x : qR} (h : ¬ (x.1 = 0 ∧ nx ≤ x.2)) : q_envm E nx kk n kb m x = E x := by
  unfold q_envm q_rows q_kset
  rw [if_neg (fun z => h ⟨z.1, by omega⟩), if_neg (fun z => h (by rw [z]; exact ⟨rfl, Nat.le_refl _⟩))]
theorem q_envm_top {E : qR → Option (Nat × Nat)} {nx kk n kb m : Nat} : q_envm E nx kk n kb m (0, nx) = some (kk, n) := by
  unfold q_envm q_rows q_kset
  rw [if_neg (by dsimp only; omega), if_pos rfl]
theorem q_envm_row {E : qR → Option (Nat × Nat)} {nx kk n kb m i : Nat} (hi : i < n) : q_envm E nx kk n kb m (0, nx + 1 + i) = some (kb, m) := by
  unfold q_envm q_rows
  rw [if_pos (by dsimp only; omega)]
theorem q_V_rows {rs : List qR} {E : qE} {w : qW} {kk n kb mm sl : Nat} (hV : q_V rs E w) (hk : q_kok (kk, n)) (hb : q_kok (kb, mm)) (hb5 : kb < 5) : q_V (rs ++ q_newr E.2.1 n) (q_envm E.1 E.2.1 kk n kb mm, E.2.1 + (1 + n), sl) (q_setRs w E.2.1 n) := by
  obtain ⟨v1, v2, v3, v4, v5, v6, v7⟩ := hV
  have hold : ∀ r ∈ rs, ¬ (r.1 = 0 ∧ E.2.1 ≤ r.2) := fun r hr z => by
    have := v4 r.2 (by rw [← z.1]; exact hr)
    omega
  refine ⟨fun r hr => ?_, v2, fun r hr kn he k' r' hr' h5 => ?_, fun j hj => ?_, fun j hj k => ⟨(v5 j (by dsimp only at hj; omega) k).1, (v5 j (by dsimp only at hj; omega) k).2.1, ?_⟩, fun kn he => ?_, fun i hi => ?_, fun j hj => ?_⟩
  · rcases List.mem_append.mp hr with z | z
    · dsimp only
      rw [q_envm_old (hold r z)]
      exact v1 r z
    · obtain ⟨z1, z2, z3⟩ := q_newr_mem.mp z
      obtain ⟨t, j⟩ := r
      dsimp only at z1 z2 z3
      subst z1
      by_cases hj : j = E.2.1
      · subst hj
        exact ⟨_, q_envm_top, hk⟩
      · refine ⟨_, ?_, hb⟩
        have := q_envm_row (E := E.1) (nx := E.2.1) (kk := kk) (kb := kb) (m := mm) (i := j - (E.2.1 + 1)) (n := n) (by omega)
        rw [show E.2.1 + 1 + (j - (E.2.1 + 1)) = j by omega] at this
        exact this
  · rcases List.mem_append.mp hr with z | z
    · dsimp only at he
      rw [q_envm_old (hold r z)] at he
      unfold q_setRs at hr'
      dsimp only at hr'
      rw [if_neg (fun y => hold r z ⟨y.1, by omega⟩)] at hr'
      exact List.mem_append_left _ (v3 r z kn he k' r' hr' h5)
    · unfold q_setRs at hr'
      dsimp only at hr'
      split at hr'
      · rename_i hc
        cases hr'
        exact List.mem_append_right _ (q_newr_mem.mpr ⟨rfl, by dsimp only; omega, by dsimp only; omega⟩)
      · obtain ⟨z1, z2, z3⟩ := q_newr_mem.mp z
        have := (v5 r.2 z2 k').2.2
        rw [← z1] at this
        rw [this] at hr'
        cases hr'
  · dsimp only
    rcases List.mem_append.mp hj with z | z
    · have := v4 j z
      omega
    · obtain ⟨z1, z2, z3⟩ := q_newr_mem.mp z
      dsimp only at z1 z2 z3
      omega
  · unfold q_setRs
    dsimp only at hj ⊢
    rw [if_neg (by omega)]
    exact (v5 j (by omega) k).2.2
  · dsimp only at he
    rw [q_envm_old (by simp)] at he
    exact v6 kn he
  · rcases List.mem_append.mp hi with z | z
    · exact v7.1 i z
    · have := (q_newr_mem.mp z).1
      simp at this
  · by_cases hje : j < E.2.1
    · exact List.mem_append_left _ (v7.2 j hje)
    · exact List.mem_append_right _ (q_newr_mem.mpr ⟨rfl, by dsimp only; omega, by dsimp only at hj ⊢; omega⟩)
theorem q_s_mnaI (hC : q_Cx p R s m args meth c mi) (hK0 : va_K D q_cls (q_tys dA) s) (hA : ∀ q, H0.size ≤ q → A q) {n mm : Int} (h0 : 0 ≤ n) (h1000 : n ≤ 1000) (hm0 : 0 ≤ mm) (hm1000 : mm ≤ 1000) {idx : Nat} (hw1 : Cond.classLink (q_y mi).cls idx ("[" ++ (FieldType.array .int).toString) ∈ q_W) (hw2 : Cond.arrayOver (.array .int) ∈ q_W) (hw3 : Cond.arrayClass .int ∈ q_W) (hm1 : E.2.1 + (1 + n.toNat) ≤ E'.2.1) (hm2 : E.2.2 + (n.toNat + n.toNat * mm.toNat) ≤ E'.2.2) (hdg : decode (q_cc mi) pc = .ok (.multianewarray idx 2, 4)) (k : q_Good p l e R s m args below meth c D dA A H0 Q mi ov E' w' (pc + 4) loc (.inr (.inr (0, E.2.1)) :: st) (q_envm E.1 E.2.1 5 n.toNat 1 mm.toNat, E.2.1 + (1 + n.toNat), E.2.2 + (n.toNat + n.toNat * mm.toNat)) (q_setRs w E.2.1 n.toNat)) : q_Good p l e R s m args below meth c D dA A H0 Q mi ov E' w' pc loc (.inl mm :: .inl n :: st) E w := by
  intro ad rs H locs ls cells slots hSt hL hs0 hSc h1 h2 h3 hK
  obtain ⟨hV, hP, hD, hS⟩ := id hSt
  have hs1 := (List.forall_mem_cons.mp hs0).2
  have hs := (List.forall_mem_cons.mp hs1).2
  have hcn := (List.forall_mem_cons.mp hs1).1
  have hcm := (List.forall_mem_cons.mp hs0).1
  have hV1 := q_V_rows (sl := E.2.2 + (n.toNat + n.toNat * mm.toNat)) (kk := 5) (n := n.toNat) (kb := 1) (mm := mm.toNat) hV (Or.inr ⟨by simp, by dsimp only; omega⟩) (Or.inr ⟨by simp, by dsimp only; omega⟩) (by decide)
  have hold : ∀ r ∈ rs, ¬ (r.1 = 0 ∧ E.2.1 ≤ r.2) := fun r hr z => by
    have := hV.2.2.2.1 r.2 (by rw [← z.1]; exact hr)
    omega
  obtain ⟨t1, ht1⟩ := q_tys_at dA (k := 1) (by decide)
  have hcy : s.vm.findClass (FieldType.array .int).toString = some (dA 1) := (hK0.2 t1 _ ht1).2
  have hz : ∀ i, i < n.toNat → ∀ j, w.1 0 (E.2.1 + 1 + i) j = 0 ∧ w.2.1 0 (E.2.1 + 1 + i) j = 0 := fun i _ j => ⟨(hV.2.2.2.2.1 _ (by omega) j).1, (hV.2.2.2.2.1 _ (by omega) j).2.1⟩
  refine va_mna (X := q_ws dA E.1 w ad rs) (L := []) (f := fun _ => .inr (0, [])) (N' := n.toNat) (K' := mm.toNat) (z := (mm.toNat, .inl (fun _ => 0))) (cy := dA 1) (ty := .int) hC.1 hC.2.1 hC.2.2.2.1 (hC.2.2.2.2.1 _ hw1) (hC.2.2.2.2.1 _ hw2) (hC.2.2.2.2.1 _ hw3) hcy hK0 (by simpa [va_pl] using hP) (by simpa [va_pl] using hD) hS hA (fun z => by have := (q_e_lt hcn q_can_0).mp z; omega) (fun z => by have := (q_e_lt hcm q_can_0).mp z; omega) (q_ixn hcn) (q_ixn hcm) (by omega) (Nat.le_trans (Nat.mul_le_mul_left _ (show componentBytes (.int : FieldType) ≤ 8 by decide)) (by omega)) (by omega) rfl rfl (by omega) (by omega) (fun c => ?_) hdg (fun q r cA H1 hinj _ a0 a1 a2 a3 => ?_)
  · rw [Jvm.Free.Multi.innerC, arrV_new]
    rfl
  · have hcA := q_dA_eq (k := 5) hK0 (by decide) a0
    subst hcA
    have hag : ∀ x, q_old rs x → q_adm ad E.2.1 n.toNat q r x = ad x := fun x hx => by
      unfold q_adm
      rcases hx with y | y
      · rw [if_neg (fun z => hold x y (by rw [z]; exact ⟨rfl, Nat.le_refl _⟩)), if_neg (fun z => hold x y ⟨z.1, by omega⟩)]
      · subst y; rw [if_neg (by simp), if_neg (by simp)]
    have hsub : ∀ x ∈ rs, x ∈ rs ++ q_newr E.2.1 n.toNat := fun x hx => List.mem_append_left _ hx
    have htop : q_adm ad E.2.1 n.toNat q r (0, E.2.1) = q := if_pos rfl
    have hrow : ∀ i, i < n.toNat → q_adm ad E.2.1 n.toNat q r (0, E.2.1 + 1 + i) = r i := fun i hi => by
      unfold q_adm
      rw [if_neg (by simp only [Prod.mk.injEq]; omega), if_pos (by dsimp only; omega)]
      dsimp only
      congr 1
      omega
    have hws : (q_ws dA E.1 w ad rs ++ [(q, .inl (dA 5, n.toNat, .inr (.inr (.inr (.inr (fun i => if i < n.toNat then some (r i) else none))))))]) ++ va_pl ([] ++ (List.range n.toNat).map r) (vr_up (fun _ => .inr (0, [])) ((List.range n.toNat).map r) (.inl (dA 1, mm.toNat, .inl (fun _ => 0)))) = q_ws dA (q_envm E.1 E.2.1 5 n.toNat 1 mm.toNat) (q_setRs w E.2.1 n.toNat) (q_adm ad E.2.1 n.toNat q r) (rs ++ q_newr E.2.1 n.toNat) := by
      rw [List.append_assoc]
      unfold q_ws
      rw [List.map_append]
      congr 1
      · exact (q_ws_ext (dA := dA) (env' := q_envm E.1 E.2.1 5 n.toNat 1 mm.toNat) (w' := q_setRs w E.2.1 n.toNat) (ad' := q_adm ad E.2.1 n.toNat q r) hV rfl (fun x hx => q_envm_old (hold x hx)) (fun x hx => hag x (Or.inl hx)) (fun x hx k => ⟨rfl, rfl, by unfold q_setRs; dsimp only; rw [if_neg (fun z => hold x hx ⟨z.1, by omega⟩)]⟩)).symm
      · unfold q_newr
        rw [List.map_cons, List.singleton_append, htop]
        congr 1
        · congr 1
          rw [q_cell_q (k := 5) (n := n.toNat) q_envm_top (by decide)]
          congr 7
          funext j
          by_cases hj : j < n.toNat
          · rw [if_pos hj, if_pos hj]
            unfold q_setRs
            dsimp only
            rw [if_pos ⟨rfl, rfl, hj⟩, Option.map_some, hrow j hj]
          · rw [if_neg hj, if_neg hj]
        · unfold va_pl
          rw [List.nil_append, List.map_map, List.map_map]
          refine List.map_congr_left fun i hi => ?_
          have hi' := List.mem_range.mp hi
          simp only [Function.comp]
          rw [hrow i hi', vr_up_in (List.mem_map_of_mem hi), q_cell_i (q_envm_row hi') (by simp)]
          congr 5
          funext j
          first | (show _ = Int32.ofInt (w.1 0 (E.2.1 + 1 + i) j); rw [(hz i hi' j).1]; rfl) | (show _ = w.2.1 0 (E.2.1 + 1 + i) j; rw [(hz i hi' j).2])
    rw [hws] at a1 a2
    have he10 : q_envm E.1 E.2.1 5 n.toNat 1 mm.toNat (1, 0) = E.1 (1, 0) := q_envm_old (by simp)
    have hk := k (q_adm ad E.2.1 n.toNat q r) (rs ++ q_newr E.2.1 n.toNat) H1 locs ls (cells + 1 + n.toNat) (slots + n.toNat + n.toNat * mm.toNat) ⟨hV1, a1, a2, a3⟩ (q_Lk_ext hag hsub hL) (List.forall_mem_cons.mpr ⟨Or.inl (List.mem_append_right _ (q_newr_mem.mpr ⟨rfl, Nat.le_refl _, by dsimp only; omega⟩)), fun v hv => q_vok_ext hsub (hs v hv)⟩) (q_Sc_ext hSc (hag _ (Or.inr rfl)) rfl he10) (by dsimp only; omega) (by dsimp only; omega) (by dsimp only; omega) (by
      have e1 : cells + 1 + n.toNat + (E'.2.1 - (E.2.1 + (1 + n.toNat))) = cells + (E'.2.1 - E.2.1) := by omega
      have e2 : slots + n.toNat + n.toNat * mm.toNat + (E'.2.2 - (E.2.2 + (n.toNat + n.toNat * mm.toNat))) = slots + (E'.2.2 - E.2.2) := by omega
      dsimp only
      rw [e1, e2]
      intro ad' rs' H' locs' ls' pc' b1 b2 b3 b4
      exact hK ad' rs' H' locs' ls' pc' b1 (fun x hx => (b2 x (q_old_ext hsub hx)).trans (hag x hx)) (fun x hx => b3 x (hsub x hx)) b4)
    have ev : List.map (q_m (q_adm ad E.2.1 n.toNat q r)) (.inr (.inr (0, E.2.1)) :: st) = .ref q :: st.map (q_m ad) := by
      rw [List.map_cons, q_map_ext hag hs]
      simp only [q_m, htop]
    rw [ev] at hk
    exact hk
theorem q_s_mnaJ (hC : q_Cx p R s m args meth c mi) (hK0 : va_K D q_cls (q_tys dA) s) (hA : ∀ q, H0.size ≤ q → A q) {n mm : Int} (h0 : 0 ≤ n) (h1000 : n ≤ 1000) (hm0 : 0 ≤ mm) (hm1000 : mm ≤ 1000) {idx : Nat} (hw1 : Cond.classLink (q_y mi).cls idx ("[" ++ (FieldType.array .long).toString) ∈ q_W) (hw2 : Cond.arrayOver (.array .long) ∈ q_W) (hw3 : Cond.arrayClass .long ∈ q_W) (hm1 : E.2.1 + (1 + n.toNat) ≤ E'.2.1) (hm2 : E.2.2 + (n.toNat + n.toNat * mm.toNat) ≤ E'.2.2) (hdg : decode (q_cc mi) pc = .ok (.multianewarray idx 2, 4)) (k : q_Good p l e R s m args below meth c D dA A H0 Q mi ov E' w' (pc + 4) loc (.inr (.inr (0, E.2.1)) :: st) (q_envm E.1 E.2.1 6 n.toNat 4 mm.toNat, E.2.1 + (1 + n.toNat), E.2.2 + (n.toNat + n.toNat * mm.toNat)) (q_setRs w E.2.1 n.toNat)) : q_Good p l e R s m args below meth c D dA A H0 Q mi ov E' w' pc loc (.inl mm :: .inl n :: st) E w := by
  intro ad rs H locs ls cells slots hSt hL hs0 hSc h1 h2 h3 hK
  obtain ⟨hV, hP, hD, hS⟩ := id hSt
  have hs1 := (List.forall_mem_cons.mp hs0).2
  have hs := (List.forall_mem_cons.mp hs1).2
  have hcn := (List.forall_mem_cons.mp hs1).1
  have hcm := (List.forall_mem_cons.mp hs0).1
  have hV1 := q_V_rows (sl := E.2.2 + (n.toNat + n.toNat * mm.toNat)) (kk := 6) (n := n.toNat) (kb := 4) (mm := mm.toNat) hV (Or.inr ⟨by simp, by dsimp only; omega⟩) (Or.inr ⟨by simp, by dsimp only; omega⟩) (by decide)
  have hold : ∀ r ∈ rs, ¬ (r.1 = 0 ∧ E.2.1 ≤ r.2) := fun r hr z => by
    have := hV.2.2.2.1 r.2 (by rw [← z.1]; exact hr)
    omega
  obtain ⟨t1, ht1⟩ := q_tys_at dA (k := 4) (by decide)
  have hcy : s.vm.findClass (FieldType.array .long).toString = some (dA 4) := (hK0.2 t1 _ ht1).2
  have hz : ∀ i, i < n.toNat → ∀ j, w.1 0 (E.2.1 + 1 + i) j = 0 ∧ w.2.1 0 (E.2.1 + 1 + i) j = 0 := fun i _ j => ⟨(hV.2.2.2.2.1 _ (by omega) j).1, (hV.2.2.2.2.1 _ (by omega) j).2.1⟩
  refine va_mna (X := q_ws dA E.1 w ad rs) (L := []) (f := fun _ => .inr (0, [])) (N' := n.toNat) (K' := mm.toNat) (z := (mm.toNat, .inr (.inl (fun _ => 0)))) (cy := dA 4) (ty := .long) hC.1 hC.2.1 hC.2.2.2.1 (hC.2.2.2.2.1 _ hw1) (hC.2.2.2.2.1 _ hw2) (hC.2.2.2.2.1 _ hw3) hcy hK0 (by simpa [va_pl] using hP) (by simpa [va_pl] using hD) hS hA (fun z => by have := (q_e_lt hcn q_can_0).mp z; omega) (fun z => by have := (q_e_lt hcm q_can_0).mp z; omega) (q_ixn hcn) (q_ixn hcm) (by omega) (Nat.le_trans (Nat.mul_le_mul_left _ (show componentBytes (.long : FieldType) ≤ 8 by decide)) (by omega)) (by omega) rfl rfl (by omega) (by omega) (fun c => ?_) hdg (fun q r cA H1 hinj _ a0 a1 a2 a3 => ?_)
  · rw [Jvm.Free.Multi.innerC, arrV_new]
    rfl
  · have hcA := q_dA_eq (k := 6) hK0 (by decide) a0
    subst hcA
    have hag : ∀ x, q_old rs x → q_adm ad E.2.1 n.toNat q r x = ad x := fun x hx => by
      unfold q_adm
      rcases hx with y | y
      · rw [if_neg (fun z => hold x y (by rw [z]; exact ⟨rfl, Nat.le_refl _⟩)), if_neg (fun z => hold x y ⟨z.1, by omega⟩)]
      · subst y; rw [if_neg (by simp), if_neg (by simp)]
    have hsub : ∀ x ∈ rs, x ∈ rs ++ q_newr E.2.1 n.toNat := fun x hx => List.mem_append_left _ hx
    have htop : q_adm ad E.2.1 n.toNat q r (0, E.2.1) = q := if_pos rfl
    have hrow : ∀ i, i < n.toNat → q_adm ad E.2.1 n.toNat q r (0, E.2.1 + 1 + i) = r i := fun i hi => by
      unfold q_adm
      rw [if_neg (by simp only [Prod.mk.injEq]; omega), if_pos (by dsimp only; omega)]
      dsimp only
      congr 1
      omega
    have hws : (q_ws dA E.1 w ad rs ++ [(q, .inl (dA 6, n.toNat, .inr (.inr (.inr (.inr (fun i => if i < n.toNat then some (r i) else none))))))]) ++ va_pl ([] ++ (List.range n.toNat).map r) (vr_up (fun _ => .inr (0, [])) ((List.range n.toNat).map r) (.inl (dA 4, mm.toNat, .inr (.inl (fun _ => 0))))) = q_ws dA (q_envm E.1 E.2.1 6 n.toNat 4 mm.toNat) (q_setRs w E.2.1 n.toNat) (q_adm ad E.2.1 n.toNat q r) (rs ++ q_newr E.2.1 n.toNat) := by
      rw [List.append_assoc]
      unfold q_ws
      rw [List.map_append]
      congr 1
      · exact (q_ws_ext (dA := dA) (env' := q_envm E.1 E.2.1 6 n.toNat 4 mm.toNat) (w' := q_setRs w E.2.1 n.toNat) (ad' := q_adm ad E.2.1 n.toNat q r) hV rfl (fun x hx => q_envm_old (hold x hx)) (fun x hx => hag x (Or.inl hx)) (fun x hx k => ⟨rfl, rfl, by unfold q_setRs; dsimp only; rw [if_neg (fun z => hold x hx ⟨z.1, by omega⟩)]⟩)).symm
      · unfold q_newr
        rw [List.map_cons, List.singleton_append, htop]
        congr 1
        · congr 1
          rw [q_cell_q (k := 6) (n := n.toNat) q_envm_top (by decide)]
          congr 7
          funext j
          by_cases hj : j < n.toNat
          · rw [if_pos hj, if_pos hj]
            unfold q_setRs
            dsimp only
            rw [if_pos ⟨rfl, rfl, hj⟩, Option.map_some, hrow j hj]
          · rw [if_neg hj, if_neg hj]
        · unfold va_pl
          rw [List.nil_append, List.map_map, List.map_map]
          refine List.map_congr_left fun i hi => ?_
          have hi' := List.mem_range.mp hi
          simp only [Function.comp]
          rw [hrow i hi', vr_up_in (List.mem_map_of_mem hi), q_cell_l (q_envm_row hi')]
          congr 6
          funext j
          first | (show _ = Int32.ofInt (w.1 0 (E.2.1 + 1 + i) j); rw [(hz i hi' j).1]; rfl) | (show _ = w.2.1 0 (E.2.1 + 1 + i) j; rw [(hz i hi' j).2])
    rw [hws] at a1 a2
    have he10 : q_envm E.1 E.2.1 6 n.toNat 4 mm.toNat (1, 0) = E.1 (1, 0) := q_envm_old (by simp)
    have hk := k (q_adm ad E.2.1 n.toNat q r) (rs ++ q_newr E.2.1 n.toNat) H1 locs ls (cells + 1 + n.toNat) (slots + n.toNat + n.toNat * mm.toNat) ⟨hV1, a1, a2, a3⟩ (q_Lk_ext hag hsub hL) (List.forall_mem_cons.mpr ⟨Or.inl (List.mem_append_right _ (q_newr_mem.mpr ⟨rfl, Nat.le_refl _, by dsimp only; omega⟩)), fun v hv => q_vok_ext hsub (hs v hv)⟩) (q_Sc_ext hSc (hag _ (Or.inr rfl)) rfl he10) (by dsimp only; omega) (by dsimp only; omega) (by dsimp only; omega) (by
      have e1 : cells + 1 + n.toNat + (E'.2.1 - (E.2.1 + (1 + n.toNat))) = cells + (E'.2.1 - E.2.1) := by omega
      have e2 : slots + n.toNat + n.toNat * mm.toNat + (E'.2.2 - (E.2.2 + (n.toNat + n.toNat * mm.toNat))) = slots + (E'.2.2 - E.2.2) := by omega
      dsimp only
      rw [e1, e2]
      intro ad' rs' H' locs' ls' pc' b1 b2 b3 b4
      exact hK ad' rs' H' locs' ls' pc' b1 (fun x hx => (b2 x (q_old_ext hsub hx)).trans (hag x hx)) (fun x hx => b3 x (hsub x hx)) b4)
    have ev : List.map (q_m (q_adm ad E.2.1 n.toNat q r)) (.inr (.inr (0, E.2.1)) :: st) = .ref q :: st.map (q_m ad) := by
      rw [List.map_cons, q_map_ext hag hs]
      simp only [q_m, htop]
    rw [ev] at hk
    exact hk
end QM
end
section
/-! calls: a method's contract is its run in the small machine -/
theorem q_goodIn {ws : List Cond} (h : ∀ w ∈ ws, w ∈ q_T) : GoodIn q_W ws := fun w hw => ⟨List.mem_append_left _ (h w hw), good_of_word (List.mem_filter.mp (h w hw)).2⟩
def q_wsM (mi : Nat) : List Cond := Cond.code (q_y mi) (q_cc mi) (q_ml mi) (q_rtT mi) :: q_T
/-- the words that the contracts carry -/
def q_Nt (U : State) : Prop := ∀ w ∈ q_N, w.before #[] U = true
theorem q_N_kind {w : Cond} (h : w ∈ q_N) : (∃ a i x h, w = .methodLinkNest a i x h) ∨ ∃ ty, w = .arrayOver ty := by
  have h2 := (List.mem_filter.mp h).2
  cases w <;> first | exact Or.inl ⟨_, _, _, _, rfl⟩ | exact Or.inr ⟨_, rfl⟩ | cases h2
theorem q_Nt_use {U : State} {args : Array Value} (h : q_Nt U) : ∀ w ∈ q_N, w.before args U = true := by
  intro w hw
  rcases q_N_kind hw with ⟨a, i, x, h9, rfl⟩ | ⟨ty, rfl⟩
  · exact va_tabs rfl rfl (h _ hw)
  · exact h _ hw
theorem q_Nt_of {U : State} {args : Array Value} (h : ∀ w ∈ q_N, w.before args U = true) : q_Nt U := by
  intro w hw
  rcases q_N_kind hw with ⟨a, i, x, h9, rfl⟩ | ⟨ty, rfl⟩
  · exact va_tabs rfl rfl (h _ hw)
  · exact h _ hw
theorem q_Nt_call {U : State} {g : JFrame} {mk : MethodId} {a : Array Value} (h : q_Nt U) : q_Nt (U.calling g mk a) := by
  intro w hw
  rcases q_N_kind hw with ⟨a9, i, x, h9, rfl⟩ | ⟨ty, rfl⟩
  · exact va_tabs (A := #[]) (u := U) (U := U.calling g mk a) rfl rfl (h _ hw)
  · exact h _ hw
theorem q_AO_spec {t : FieldType} {u : State} (h : (Cond.arrayOver (.array t)).before #[] u = true) : ∃ (comp c : ClassId) (k : Class), u.vm.findClass (FieldType.array t).toString = some comp ∧ (u.vm.classes.findIdx? fun (x : Class) => match x.kind with | .array component _ => component == comp | _ => false) = some c ∧ u.vm.classes[c]? = some k ∧ k.kind = .array comp (.array t) ∧ u.vm.findClass ("[" ++ (FieldType.array t).toString) = some c := by
  unfold Cond.before at h
  simp only [Cond.holds, Cond.value, beq_iff_eq] at h
  cases hc : u.vm.findClass (FieldType.array t).toString with
  | none => simp [hc] at h
  | some comp =>
    simp only [hc, Option.bind_some, Option.bind_eq_some_iff, Option.map_eq_some_iff] at h
    obtain ⟨c, hi, k, hk, hb⟩ := h
    obtain ⟨hlt, hp, -⟩ := Array.findIdx?_eq_some_iff_getElem.mp hi
    have hkk : u.vm.classes[c] = k := (Array.getElem?_eq_some_iff.mp hk).2
    rw [hkk] at hp
    cases hkind : k.kind with
    | array component ty =>
      rw [hkind] at hb hp
      simp at hb hp
      exact ⟨comp, c, k, rfl, hi, hk, by rw [hkind, hp, hb.1], hb.2⟩
    | _ => rw [hkind] at hb; simp at hb
theorem q_AO_moved {t : FieldType} {u U : State} (hvm : u.vm.Alike U.vm) (h : (Cond.arrayOver (.array t)).before #[] u = true) : (Cond.arrayOver (.array t)).before #[] U = true := by
  obtain ⟨comp, c, k, h1, h2, h3, h4, h5⟩ := q_AO_spec h
  obtain ⟨k', hk', he⟩ := hvm.2.2 _ _ h3
  have hi : (U.vm.classes.findIdx? fun (x : Class) => match x.kind with | .array component _ => component == comp | _ => false) = some c := by
    have eb : U.vm.bare = u.vm.bare := by first | exact hvm.bare_eq | exact hvm.bare_eq.symm
    have e1 := va_idx_bare U.vm comp
    rw [eb] at e1
    exact (e1.symm.trans (va_idx_bare u.vm comp)).trans h2
  have hkind : k'.kind = .array comp (.array t) := by rw [he]; exact h4
  have f1 : U.vm.findClass (FieldType.array t).toString = some comp := by rw [hvm.findClass]; exact h1
  have f2 : U.vm.findClass ("[" ++ (FieldType.array t).toString) = some c := by rw [hvm.findClass]; exact h5
  unfold Cond.before Cond.holds
  simp only [Cond.value]
  rw [f1, Option.bind_some]
  refine (congrArg (fun o : Option Nat => (o.bind (fun c => (U.vm.classes[c]?).map fun (k : Class) => match k.kind with | .array _ ty => decide (ty = FieldType.array t) && decide (U.vm.findClass ("[" ++ (FieldType.array t).toString) = some c) | _ => false) == some true)) hi).trans ?_
  simp [hk', hkind, f2]
theorem q_Nt_warm {s U : State} (hW : s.WarmedH U.vm) (h : q_Nt s) : q_Nt U := by
  intro w hw
  have h1 := h w hw
  rcases q_N_kind hw with ⟨a, i, x, h9, rfl⟩ | ⟨ty, rfl⟩
  · exact va_Nw.use rfl (va_Nw.warmM hW (va_Nw.of rfl h1))
  · cases ty with
    | object C => exact va_AO.use (va_AO.moved hW.alike (va_AO.of h1))
    | array t => exact q_AO_moved hW.alike h1
    | _ => simp [Cond.before, Cond.holds, Cond.value] at h1
def q_Pre (D : va_G) (dA : Nat → ClassId) (ad : qR → Nat) (rs : List qR) (E : qE) (w : qW) (sz : Nat) : State → Prop := fun U => U.heap.size = sz ∧ va_P D q_cls (q_ws dA E.1 w ad rs) U.heap ∧ va_K D q_cls (q_tys dA) U ∧ va_D (fun _ => True) (q_ws dA E.1 w ad rs) ∧ q_Nt U
abbrev qS : Type := (qR → Nat) × List qR
def q_B (D : va_G) (dA : Nat → ClassId) (A1 : Nat → Prop) (ad : qR → Nat) (rs : List qR) (E' : qE) (w' : qW) (u : qS) (t : State) : Prop := q_V u.2 E' w' ∧ va_P D q_cls (q_ws dA E'.1 w' u.1 u.2) t.heap ∧ va_K D q_cls (q_tys dA) t ∧ va_D A1 (q_ws dA E'.1 w' u.1 u.2) ∧ (∀ r, q_old rs r → u.1 r = ad r) ∧ ∀ r ∈ rs, r ∈ u.2
def q_Qc (D : va_G) (dA : Nat → ClassId) (A1 : Nat → Prop) (ad : qR → Nat) (rs : List qR) (ov : Option qV) (E' : qE) (w' : qW) : Array Value → State → Outcome → State → Prop := match ov with
  | none => va_Qv (fun _ : qS => True) (q_B D dA A1 ad rs E' w') A1
  | some (.inl x) => va_Qi (fun (r : Int32) (_ : qS) => r = Int32.ofInt x ∧ q_can x) (q_B D dA A1 ad rs E' w') A1
  | some (.inr (.inl y)) => va_Ql (fun (r : Int64) (_ : qS) => r = y) (q_B D dA A1 ad rs E' w') A1
  | some (.inr (.inr r)) => va_Qr (fun u : qS => q_old u.2 r) (fun u a t => q_B D dA A1 ad rs E' w' u t ∧ a = u.1 r) A1
def q_rm (mi : Nat) (E E' : qE) : Room := { frames := q_fr mi, cells := E'.2.1 - E.2.1, slots := E'.2.2 - E.2.2, locals := q_lo mi }
def q_Met (l : Launch) (D : va_G) (dA : Nat → ClassId) (mi : Nat) (as : List qV) (ad : qR → Nat) (rs : List qR) (E : qE) (w : qW) (sz : Nat) (ov : Option qV) (E' : qE) (w' : qW) : Prop := Met l (q_y mi) (q_wsM mi) (q_rm mi E E') (va_Pc (as.map (q_m ad)) (q_Pre D dA ad rs E w sz)) (q_Qc D dA (va_A (q_ws dA E.1 w ad rs) sz) ad rs ov E' w') (E'.2.1 - E.2.1) (E'.2.2 - E.2.2) (va_A (q_ws dA E.1 w ad rs) sz)
theorem q_range_map {α : Type} (l : List α) : (List.range l.length).map (fun i => l[i]?) = l.map some := by
  refine List.ext_getElem? fun i => ?_
  rw [List.getElem?_map, List.getElem?_map]
  by_cases h : i < l.length
  · rw [List.getElem?_range h, List.getElem?_eq_getElem h]
    simp [h]
  · rw [List.getElem?_eq_none (by rw [List.length_range]; omega), List.getElem?_eq_none (by omega)]
    rfl
theorem q_blind {D : va_G} {dA : Nat → ClassId} {as : List Value} {ad : qR → Nat} {rs : List qR} {E : qE} {w : qW} {sz : Nat} : FrameBlind (va_Pc as (q_Pre D dA ad rs E w sz)) := fun a U g mk q => by
  obtain ⟨q0, q1, qP, qK, qD, qN⟩ := q
  exact ⟨q0, q1, qP, va_K.moved (u := U) (U := U.calling g mk a) (Vm.Alike.refl U.vm) qK, qD, q_Nt_call qN⟩
section QC
variable {p : Program} {l : Launch} {e : Env} {R : Room} {s : State} {m : MethodId} {args : Array Value} {below : List Frame} {meth : Method} {c : Code} {D : va_G} {dA : Nat → ClassId} {A : Nat → Prop} {H0 : Heap} {Q : State → Prop} {mi : Nat} {ov : Option qV} {E' E : qE} {w' w : qW} {pc : Nat} {loc : qLo} {st : List qV}
/-- behind a call -/
theorem q_behind {ad : qR → Nat} {rs : List qR} {H : Heap} {locs : List Loc} {ls : Array Slot} {cells slots : Nat} {st0 : List Value} {rest : List qV} {ov1 : Option qV} {E1 : qE} {w1 : qW} {a : Array Value}
    (hK0 : va_K D q_cls (q_tys dA) s) (hA : ∀ q, H0.size ≤ q → A q) (hSt : q_St D dA A H0 H locs ad rs E w) (hL : q_Lk ad rs loc ls (q_ml mi)) (hs : ∀ v ∈ rest, q_vok rs v) (hSc : q_Sc mi s A H0 ad E.1 w) (hw1 : (∀ i k, w1.1 1 i k = w.1 1 i k) ∧ E1.1 (1, 0) = E.1 (1, 0))
    (h1 : cells + (E'.2.1 - E.2.1) ≤ R.cells) (h2 : slots + (E'.2.2 - E.2.2) ≤ R.slots) (h3 : E.2.1 ≤ E1.2.1 ∧ E.2.2 ≤ E1.2.2) (h4 : E1.2.1 ≤ E'.2.1 ∧ E1.2.2 ≤ E'.2.2)
    (hK : q_K p l e R s m args below meth c D dA A H0 Q mi ov E' w' ad rs (cells + (E'.2.1 - E.2.1)) (slots + (E'.2.2 - E.2.2)))
    (hr : va_Run p l e R s m args below meth c H locs cells slots (E1.2.1 - E.2.1) (E1.2.2 - E.2.2) (F0 m pc ls st0) (rest.map (q_m ad)) (q_Qc D dA (va_A (q_ws dA E.1 w ad rs) H.size) ad rs ov1 E1 w1 a) (va_A (q_ws dA E.1 w ad rs) H.size))
    (k : q_Good p l e R s m args below meth c D dA A H0 Q mi ov E' w' (pc + 3) loc (ov1.toList ++ rest) E1 w1) : W p l e R s m args below meth c H locs cells slots Q (F0 m pc ls st0) := by
  obtain ⟨hV, hP, hD, hS⟩ := id hSt
  have hF : ∀ q, va_A (q_ws dA E.1 w ad rs) H.size q → A q := va_free hD hS hA _ (q_range_map _)
  have fin : ∀ (u : qS) (t : State) (H1 : Heap) (locs1 : List Loc), t.heap = H1 → q_B D dA (va_A (q_ws dA E.1 w ad rs) H.size) ad rs E1 w1 u t → va_S A H0 H1 locs1 → (∀ v ∈ ov1.toList, q_vok u.2 v) → W p l e R s m args below meth c H1 locs1 (cells + (E1.2.1 - E.2.1)) (slots + (E1.2.2 - E.2.2)) Q (F0 m (pc + 3) ls ((ov1.toList ++ rest).map (q_m u.1))) := by
    intro u t H1 locs1 ht hB hS1 hov
    obtain ⟨b1, b2, b3, b4, b5, b6⟩ := hB
    rw [ht] at b2
    refine k u.1 u.2 H1 locs1 ls (cells + (E1.2.1 - E.2.1)) (slots + (E1.2.2 - E.2.2)) ⟨b1, b2, b4.weaken (fun _ _ _ h => hF _ h), hS1⟩ (q_Lk_ext b5 b6 hL) (fun v hv => ?_) ?_ (by omega) (by omega) h4 ?_
    · rcases List.mem_append.mp hv with z | z
      · exact hov v z
      · exact q_vok_ext b6 (hs v z)
    · intro hm
      obtain ⟨b, L, xs, a1, a2, a3, a4, a7, a5⟩ := hSc hm
      exact ⟨b, L, xs, a1, a2, a3, by rw [b5 _ (Or.inr rfl)]; exact a4, a7, fun hn => ⟨fun k hk => by rw [hw1.1]; exact (a5 (by rw [← hw1.2]; exact hn)).1 k hk, by rw [hw1.1]; exact (a5 (by rw [← hw1.2]; exact hn)).2⟩⟩
    · have e1 : cells + (E1.2.1 - E.2.1) + (E'.2.1 - E1.2.1) = cells + (E'.2.1 - E.2.1) := by omega
      have e2 : slots + (E1.2.2 - E.2.2) + (E'.2.2 - E1.2.2) = slots + (E'.2.2 - E.2.2) := by omega
      rw [e1, e2]
      intro ad' rs' H' locs' ls' pc' c1 c2 c3 c4
      exact hK ad' rs' H' locs' ls' pc' c1 (fun r hr => (c2 r (q_old_ext b6 hr)).trans (b5 r hr)) (fun r hr => c3 r (b6 r hr)) c4
  have emap : ∀ u : qS, (∀ r, q_old rs r → u.1 r = ad r) → rest.map (q_m u.1) = rest.map (q_m ad) := fun u hu => q_map_ext hu hs
  rcases ov1 with _ | x | y | r
  · refine va_callv (a := a) hr hS (fun q _ h => hF q h) hF (fun u t H1 locs1 ht hvm hp hb hz hk hS1 => ?_)
    have := fin u t H1 locs1 ht hb hS1 (fun v hv => by cases hv)
    rw [show (none : Option qV).toList ++ rest = rest from rfl, emap u hb.2.2.2.2.1] at this
    exact this
  · refine va_calli (a := a) hr hS (fun q _ h => hF q h) hF (fun r u t H1 locs1 ht hvm hp hb hz hk hS1 => ?_)
    have := fin u t H1 locs1 ht hb hS1 (fun v hv => by rw [List.mem_singleton.mp hv]; exact hp.2)
    rw [show (some (.inl x) : Option qV).toList ++ rest = .inl x :: rest from rfl, List.map_cons, emap u hb.2.2.2.2.1] at this
    rw [hp.1]
    exact this
  · refine va_calll (a := a) hr hS (fun q _ h => hF q h) hF (fun r u t H1 locs1 ht hvm hp hb hz hk hS1 => ?_)
    have := fin u t H1 locs1 ht hb hS1 (fun v hv => by rw [List.mem_singleton.mp hv]; trivial)
    rw [show (some (.inr (.inl y)) : Option qV).toList ++ rest = .inr (.inl y) :: rest from rfl, List.map_cons, emap u hb.2.2.2.2.1] at this
    rw [hp]
    exact this
  · refine va_callr (a := a) hr hS (fun q _ h => hF q h) hF (fun u ra t H1 locs1 ht hvm hp hb hz hk hS1 => ?_)
    have := fin u t H1 locs1 ht hb.1 hS1 (fun v hv => by rw [List.mem_singleton.mp hv]; exact hp)
    rw [show (some (.inr (.inr r)) : Option qV).toList ++ rest = .inr (.inr r) :: rest from rfl, List.map_cons, emap u hb.1.2.2.2.2.1] at this
    rw [hb.2]
    exact this
/-- a method's words, as the tables have them -/
def q_MF (a : Nat) : Prop := Cond.code (q_y a) (q_cc a) (q_ml a) (q_rtT a) ∈ q_T ∧ Cond.initialized (q_y a).cls ∈ q_T ∧ ((q_y a).cls ≠ "java/lang/invoke/MethodHandle" ∧ (q_y a).cls ≠ "java/lang/invoke/VarHandle") ∧ (parseMethodDescriptor (q_y a).desc).map (fun d => d.parameters.length) = some (q_np a) ∧ plainName (q_y a).cls = true
theorem q_T_W {w : Cond} (h : w ∈ q_T) : w ∈ q_W := List.mem_append_left _ h
theorem q_wsM_in {a : Nat} (h : q_MF a) : ∀ w ∈ q_wsM a, w ∈ q_T := fun w hw => by
  rcases List.mem_cons.mp hw with z | z
  · rw [z]; exact h.1
  · exact z
theorem q_s_callV (hC : q_Cx p R s m args meth c mi) (hK0 : va_K D q_cls (q_tys dA) s) (hA : ∀ q, H0.size ≤ q → A q) (hN : q_Nt s) {a idx ci : Nat} {C : String} {T : u_T} {N : Nat} {r : qR} {as rest : List qV} {ov1 : Option qV} {E1 : qE} {w1 : qW} (hMF : q_MF a) (hl : Cond.methodLink (q_y mi).cls idx (q_y a) ∈ q_T) (hi : Cond.instanceMethod (q_y a) ∈ q_T) (hse : Cond.selects (q_y a).cls (q_y a) (q_y a) ∈ q_T) (hf : q_fr a + 1 ≤ q_fr mi) (hlo : 8 + (q_ml a + 11) + q_lo a ≤ q_lo mi) (hc : q_cls[ci]? = some (C, T, N)) (hcl : (q_y a).cls = C) (he : E.1 r = some (0, ci)) (hn : as.length = q_np a) (hsum : (rest.map q_cat).sum ≤ 8) (hst : st = as.reverse ++ .inr (.inr r) :: rest) (hdg : decode (q_cc mi) pc = .ok (.invokevirtual idx, 3)) (h3 : E.2.1 ≤ E1.2.1 ∧ E.2.2 ≤ E1.2.2) (h4 : E1.2.1 ≤ E'.2.1 ∧ E1.2.2 ≤ E'.2.2) (hw1 : (∀ i k, w1.1 1 i k = w.1 1 i k) ∧ E1.1 (1, 0) = E.1 (1, 0))
    (hM : ∀ (ad : qR → Nat) (rs : List qR) (sz : Nat), q_V rs E w → (∀ v ∈ (.inr (.inr r) :: as), q_vok rs v) → q_Met l D dA a (.inr (.inr r) :: as) ad rs E w sz ov1 E1 w1) (k : q_Good p l e R s m args below meth c D dA A H0 Q mi ov E' w' (pc + 3) loc (ov1.toList ++ rest) E1 w1) : q_Good p l e R s m args below meth c D dA A H0 Q mi ov E' w' pc loc st E w := by
  subst hst
  intro ad rs H locs ls cells slots hSt hL hs hSc h1 h2 _ hK
  obtain ⟨hV, hP, hD, hS⟩ := id hSt
  have hs1 : ∀ v ∈ as, q_vok rs v := fun v hv => hs v (List.mem_append_left _ (List.mem_reverse.mpr hv))
  have hs2 : q_vok rs (.inr (.inr r)) := hs _ (List.mem_append_right _ List.mem_cons_self)
  have hs3 : ∀ v ∈ rest, q_vok rs v := fun v hv => hs v (List.mem_append_right _ (List.mem_cons_of_mem _ hv))
  have hin := q_rs_of hV hs2 he (by simp)
  obtain ⟨q0, -, hq⟩ := q_ws_at (dA := dA) (env := E.1) (w := w) (ad := ad) hin
  rw [q_cell_o he] at hq
  have hMM := hM ad rs H.size hV (List.forall_mem_cons.mpr ⟨hs2, hs1⟩)
  have estk : ((as.reverse ++ .inr (.inr r) :: rest).map (q_m ad)) = (as.map (q_m ad)).reverse ++ .ref (ad r) :: rest.map (q_m ad) := by
    rw [List.map_append, List.map_reverse, List.map_cons]
    rfl
  rw [estk]
  have hsum' : ((rest.map (q_m ad)).map fun v => v.category).sum ≤ 8 := by
    rw [List.map_map]
    have : (fun v : Value => v.category) ∘ q_m ad = q_cat := funext fun v => q_m_cat ad v
    rw [this]
    exact hsum
  subst hcl
  have hcw := cwV (R := R) (mc := E1.2.1 - E.2.1) (ms := E1.2.2 - E.2.2) (q_np a) hC.2.2.2.2.1 (q_goodIn (ws := wsV (q_y mi).cls idx (q_y a).cls (q_y a) (q_wsM a)) (fun w hw => by
    unfold wsV at hw
    rcases List.mem_append.mp hw with z | z
    · simp only [List.mem_cons, List.not_mem_nil, or_false] at z
      rcases z with rfl | rfl | rfl | rfl
      · exact hl
      · exact hi
      · exact hse
      · exact hMF.2.1
    · exact q_wsM_in hMF w z)) (rm := q_rm a E E1) rfl rfl rfl ⟨rfl, hMF.2.2.1.1, hMF.2.2.1.2, hMF.2.2.2.1⟩ ⟨Nat.le_trans hf hC.2.2.2.2.2.2.1, Nat.le_trans hlo hC.2.2.2.2.2.2.2⟩
  have hrun := va_runV (meth := meth) (e := e) (As := as.map (q_m ad)) (rest := rest.map (q_m ad)) (b := ad r) (g := F0 m pc ls ((as.map (q_m ad)).reverse ++ .ref (ad r) :: rest.map (q_m ad))) (locs := locs) (cells := cells) (slots := slots) (H := H) (below := below) ⟨hC.1, hC.2.1, hC.2.2.1, hC.2.2.2.1, hC.2.2.2.2.1⟩ hMM hcw ⟨q_blind, va_recv hK0 hP (ci := ci) (q0 := q0) hc hq, fun U hU hW => ⟨rfl, by rw [hU], by rw [hU]; exact hP, va_K.moved hW.alike hK0, hD.weaken (fun _ _ _ _ => trivial), q_Nt_warm hW hN⟩⟩ rfl (by rw [List.length_map]; exact hn) hL.2.1 rfl (lv_room hsum') hdg ⟨by omega, by omega⟩
  exact q_behind hK0 hA hSt hL hs3 hSc hw1 h1 h2 h3 h4 hK hrun k
theorem q_s_callS (hC : q_Cx p R s m args meth c mi) (hK0 : va_K D q_cls (q_tys dA) s) (hA : ∀ q, H0.size ≤ q → A q) (hN : q_Nt s) {a idx : Nat} {as rest : List qV} {ov1 : Option qV} {E1 : qE} {w1 : qW} (hMF : q_MF a) (hl : Cond.methodLink (q_y mi).cls idx (q_y a) ∈ q_T) (hi : Cond.static (q_y a) ∈ q_T) (hf : q_fr a + 1 ≤ q_fr mi) (hlo : 8 + (q_ml a + 11) + q_lo a ≤ q_lo mi) (hn : as.length = q_np a) (hsum : (rest.map q_cat).sum ≤ 8) (hst : st = as.reverse ++ rest) (hdg : decode (q_cc mi) pc = .ok (.invokestatic idx, 3)) (h3 : E.2.1 ≤ E1.2.1 ∧ E.2.2 ≤ E1.2.2) (h4 : E1.2.1 ≤ E'.2.1 ∧ E1.2.2 ≤ E'.2.2) (hw1 : (∀ i k, w1.1 1 i k = w.1 1 i k) ∧ E1.1 (1, 0) = E.1 (1, 0))
    (hM : ∀ (ad : qR → Nat) (rs : List qR) (sz : Nat), q_V rs E w → (∀ v ∈ as, q_vok rs v) → q_Met l D dA a as ad rs E w sz ov1 E1 w1) (k : q_Good p l e R s m args below meth c D dA A H0 Q mi ov E' w' (pc + 3) loc (ov1.toList ++ rest) E1 w1) : q_Good p l e R s m args below meth c D dA A H0 Q mi ov E' w' pc loc st E w := by
  subst hst
  intro ad rs H locs ls cells slots hSt hL hs hSc h1 h2 _ hK
  obtain ⟨hV, hP, hD, hS⟩ := id hSt
  have hs1 : ∀ v ∈ as, q_vok rs v := fun v hv => hs v (List.mem_append_left _ (List.mem_reverse.mpr hv))
  have hs3 : ∀ v ∈ rest, q_vok rs v := fun v hv => hs v (List.mem_append_right _ hv)
  have hMM := hM ad rs H.size hV hs1
  have estk : ((as.reverse ++ rest).map (q_m ad)) = (as.map (q_m ad)).reverse ++ rest.map (q_m ad) := by
    rw [List.map_append, List.map_reverse]
  rw [estk]
  have hsum' : ((rest.map (q_m ad)).map fun v => v.category).sum ≤ 8 := by
    rw [List.map_map]
    have : (fun v : Value => v.category) ∘ q_m ad = q_cat := funext fun v => q_m_cat ad v
    rw [this]
    exact hsum
  have hcw := va_cwS (R := R) (mc := E1.2.1 - E.2.1) (ms := E1.2.2 - E.2.2) (q_np a) hC.2.2.2.2.1 (q_goodIn (ws := va_wsS (q_y mi).cls idx (q_y a) (q_wsM a)) (fun w hw => by
    unfold va_wsS at hw
    rcases List.mem_append.mp hw with z | z
    · simp only [List.mem_cons, List.not_mem_nil, or_false] at z
      rcases z with rfl | rfl | rfl
      · exact hl
      · exact hi
      · exact hMF.2.1
    · exact q_wsM_in hMF w z)) (rm := q_rm a E E1) rfl rfl rfl ⟨hMF.2.2.1.1, hMF.2.2.1.2, hMF.2.2.2.1⟩ ⟨Nat.le_trans hf hC.2.2.2.2.2.2.1, Nat.le_trans hlo hC.2.2.2.2.2.2.2⟩
  have hrun := va_runS (meth := meth) (e := e) (As := as.map (q_m ad)) (rest := rest.map (q_m ad)) (g := F0 m pc ls ((as.map (q_m ad)).reverse ++ rest.map (q_m ad))) (locs := locs) (cells := cells) (slots := slots) (H := H) (below := below) ⟨hC.1, hC.2.1, hC.2.2.1, hC.2.2.2.1, hC.2.2.2.2.1⟩ hMM hcw ⟨q_blind, fun U hU hW => ⟨rfl, by rw [hU], by rw [hU]; exact hP, va_K.moved hW.alike hK0, hD.weaken (fun _ _ _ _ => trivial), q_Nt_warm hW hN⟩⟩ rfl (by rw [List.length_map]; exact hn) hL.2.1 rfl (lv_room hsum') hdg ⟨by omega, by omega⟩
  exact q_behind hK0 hA hSt hL hs3 hSc hw1 h1 h2 h3 h4 hK hrun k
theorem q_s_callI (hC : q_Cx p R s m args meth c mi) (hK0 : va_K D q_cls (q_tys dA) s) (hA : ∀ q, H0.size ≤ q → A q) (hN : q_Nt s) {a idx : Nat} {r : qR} {as rest : List qV} {ov1 : Option qV} {E1 : qE} {w1 : qW} (hMF : q_MF a) (hl : Cond.methodLink (q_y mi).cls idx (q_y a) ∈ q_T ∨ Cond.methodLinkNest (q_y mi).cls idx (q_y a) "GrassCells" ∈ q_W) (hi : Cond.instanceMethod (q_y a) ∈ q_T) (hin1 : (q_y a).name = "<init>") (hrt : q_rtT a = none) (hf : q_fr a + 1 ≤ q_fr mi) (hlo : 8 + (q_ml a + 11) + q_lo a ≤ q_lo mi) (hn : as.length = q_np a) (hsum : (rest.map q_cat).sum ≤ 8) (hst : st = as.reverse ++ .inr (.inr r) :: rest) (hdg : decode (q_cc mi) pc = .ok (.invokespecial idx, 3)) (h3 : E.2.1 ≤ E1.2.1 ∧ E.2.2 ≤ E1.2.2) (h4 : E1.2.1 ≤ E'.2.1 ∧ E1.2.2 ≤ E'.2.2) (hw1 : (∀ i k, w1.1 1 i k = w.1 1 i k) ∧ E1.1 (1, 0) = E.1 (1, 0))
    (hM : ∀ (ad : qR → Nat) (rs : List qR) (sz : Nat), q_V rs E w → (∀ v ∈ (.inr (.inr r) :: as), q_vok rs v) → q_Met l D dA a (.inr (.inr r) :: as) ad rs E w sz ov1 E1 w1) (k : q_Good p l e R s m args below meth c D dA A H0 Q mi ov E' w' (pc + 3) loc (ov1.toList ++ rest) E1 w1) : q_Good p l e R s m args below meth c D dA A H0 Q mi ov E' w' pc loc st E w := by
  subst hst
  intro ad rs H locs ls cells slots hSt hL hs hSc h1 h2 _ hK
  obtain ⟨hV, hP, hD, hS⟩ := id hSt
  have hs1 : ∀ v ∈ as, q_vok rs v := fun v hv => hs v (List.mem_append_left _ (List.mem_reverse.mpr hv))
  have hs2 : q_vok rs (.inr (.inr r)) := hs _ (List.mem_append_right _ List.mem_cons_self)
  have hs3 : ∀ v ∈ rest, q_vok rs v := fun v hv => hs v (List.mem_append_right _ (List.mem_cons_of_mem _ hv))
  have hMM := hM ad rs H.size hV (List.forall_mem_cons.mpr ⟨hs2, hs1⟩)
  have estk : ((as.reverse ++ .inr (.inr r) :: rest).map (q_m ad)) = (as.map (q_m ad)).reverse ++ .ref (ad r) :: rest.map (q_m ad) := by
    rw [List.map_append, List.map_reverse, List.map_cons]
    rfl
  rw [estk]
  have hsum' : ((rest.map (q_m ad)).map fun v => v.category).sum ≤ 8 := by
    rw [List.map_map]
    have : (fun v : Value => v.category) ∘ q_m ad = q_cat := funext fun v => q_m_cat ad v
    rw [this]
    exact hsum
  have hwsM : q_wsM a = Cond.code (q_y a) (q_cc a) (q_ml a) none :: q_T := by unfold q_wsM; rw [hrt]
  have hG : GoodIn q_W (q_wsM a) := q_goodIn (q_wsM_in hMF)
  have hts := hC.2.2.2.2.1
  have hrun : va_Run p l e R s m args below meth c H locs cells slots (E1.2.1 - E.2.1) (E1.2.2 - E.2.2) (F0 m pc ls ((as.map (q_m ad)).reverse ++ .ref (ad r) :: rest.map (q_m ad))) (rest.map (q_m ad)) (q_Qc D dA (va_A (q_ws dA E.1 w ad rs) H.size) ad rs ov1 E1 w1 (Value.ref (ad r) :: as.map (q_m ad)).toArray) (va_A (q_ws dA E.1 w ad rs) H.size) := by
    rcases hl with hl | hl
    · have hcw := cwI (R := R) (own := (q_y mi).cls) (index := idx) (mc := E1.2.1 - E.2.1) (ms := E1.2.2 - E.2.2) (q_np a) hts hG hwsM (rm := q_rm a E E1) rfl rfl (hts _ (q_T_W hMF.2.1)) (hts _ (q_T_W hl)) (hts _ (q_T_W hi)) hin1 ⟨hMF.2.2.1.1, hMF.2.2.1.2, hMF.2.2.2.1⟩ ⟨Nat.le_trans hf hC.2.2.2.2.2.2.1, Nat.le_trans hlo hC.2.2.2.2.2.2.2⟩
      exact va_runI (meth := meth) (e := e) (As := as.map (q_m ad)) (rest := rest.map (q_m ad)) (b := ad r) (g := F0 m pc ls ((as.map (q_m ad)).reverse ++ .ref (ad r) :: rest.map (q_m ad))) (locs := locs) (cells := cells) (slots := slots) (H := H) (below := below) ⟨hC.1, hC.2.1, hC.2.2.1, hC.2.2.2.1, hts⟩ hMM hcw ⟨q_blind, fun U hU hW => ⟨rfl, by rw [hU], by rw [hU]; exact hP, va_K.moved hW.alike hK0, hD.weaken (fun _ _ _ _ => trivial), q_Nt_warm hW hN⟩⟩ rfl (by rw [List.length_map]; exact hn) hL.2.1 rfl (lv_room hsum') hdg ⟨by omega, by omega⟩
    · have hcn := va_cnB (R := R) (own := (q_y mi).cls) (index := idx) (host := "GrassCells") (mc := E1.2.1 - E.2.1) (ms := E1.2.2 - E.2.2) (q_np a) hts hG hwsM (rm := q_rm a E E1) rfl rfl (va_Nw.of rfl (hts _ hl)) (hts _ (q_T_W hMF.2.1)) ⟨hMF.2.2.1.1, hMF.2.2.1.2, hMF.2.2.2.1⟩ ⟨Nat.le_trans hf hC.2.2.2.2.2.2.1, Nat.le_trans hlo hC.2.2.2.2.2.2.2⟩
      exact va_runIN (meth := meth) (e := e) (As := as.map (q_m ad)) (rest := rest.map (q_m ad)) (b := ad r) (g := F0 m pc ls ((as.map (q_m ad)).reverse ++ .ref (ad r) :: rest.map (q_m ad))) (locs := locs) (cells := cells) (slots := slots) (H := H) (below := below) ⟨hC.1, hC.2.1, hC.2.2.1, hC.2.2.2.1, hts⟩ hMM ⟨hcn, hin1, hts _ (q_T_W hi)⟩ ⟨q_blind, fun U hU hW => ⟨rfl, by rw [hU], by rw [hU]; exact hP, va_K.moved hW.alike hK0, hD.weaken (fun _ _ _ _ => trivial), q_Nt_warm hW hN⟩⟩ rfl (by rw [List.length_map]; exact hn) hL.2.1 rfl (lv_room hsum') hdg ⟨by omega, by omega⟩
  exact q_behind hK0 hA hSt hL hs3 hSc hw1 h1 h2 h3 h4 hK hrun k
/-! the JDK's methods that a row of the kit tells -/
theorem q_s_objI (hC : q_Cx p R s m args meth c mi) {idx : Nat} {r : qR} (hl : Cond.methodLink (q_y mi).cls idx Lib.objectInit ∈ q_W) (hi : Cond.instanceMethod Lib.objectInit ∈ q_W) (hco : Cond.code Lib.objectInit ⟨#[0xb1]⟩ 1 none ∈ q_W) (hf : 1 ≤ q_fr mi) (hlo : 20 ≤ q_lo mi) (hsum : (st.map q_cat).sum ≤ 8) (hdg : decode (q_cc mi) pc = .ok (.invokespecial idx, 3)) (k : q_Good p l e R s m args below meth c D dA A H0 Q mi ov E' w' (pc + 3) loc st E w) : q_Good p l e R s m args below meth c D dA A H0 Q mi ov E' w' pc loc (.inr (.inr r) :: st) E w := by
  intro ad rs H locs ls cells slots hSt hL hs hSc h1 h2 h3 hK
  have hsum' : ((st.map (q_m ad)).map fun v => v.category).sum ≤ 8 := by
    rw [List.map_map]
    have : (fun v : Value => v.category) ∘ q_m ad = q_cat := funext fun v => q_m_cat ad v
    rw [this]
    exact hsum
  refine W.objInit (g := F0 m pc ls (.ref (ad r) :: st.map (q_m ad))) hC.1 hC.2.1 hC.2.2.2.1 (hC.2.2.2.2.1 _ hl) (hC.2.2.2.2.1 _ hi) (hC.2.2.2.2.1 _ hco) rfl (hL.2.1.trans hC.2.2.1.symm) rfl hdg (Nat.le_trans hf hC.2.2.2.2.2.2.1) ?_ (k ad rs H locs ls cells slots hSt hL (List.forall_mem_cons.mp hs).2 hSc h1 h2 h3 hK)
  show 2 * 0 + _ + 12 ≤ _
  have := hC.2.2.2.2.2.2.2
  omega
theorem q_s_max (hC : q_Cx p R s m args meth c mi) {idx : Nat} {x y : Int} (hl : Cond.methodLink (q_y mi).cls idx Lib.Math.max.name ∈ q_W) (hi : Cond.static Lib.Math.max.name ∈ q_W) (hini : Cond.initialized "java/lang/Math" ∈ q_W) (hco : Cond.code Lib.Math.max.name Lib.Math.max.code 2 (some .int) ∈ q_W) (hf : 1 ≤ q_fr mi) (hlo : 21 ≤ q_lo mi) (hsum : (st.map q_cat).sum ≤ 8) (hdg : decode (q_cc mi) pc = .ok (.invokestatic idx, 3)) (k : q_Good p l e R s m args below meth c D dA A H0 Q mi ov E' w' (pc + 3) loc (.inl (q_max x y) :: st) E w) : q_Good p l e R s m args below meth c D dA A H0 Q mi ov E' w' pc loc (.inl y :: .inl x :: st) E w := by
  intro ad rs H locs ls cells slots hSt hL hs hSc h1 h2 h3 hK
  have hy := (List.forall_mem_cons.mp hs).1
  have hs1 := (List.forall_mem_cons.mp hs).2
  have hx := (List.forall_mem_cons.mp hs1).1
  have hsum' : ((st.map (q_m ad)).map fun v => v.category).sum ≤ 8 := by
    rw [List.map_map]
    have : (fun v : Value => v.category) ∘ q_m ad = q_cat := funext fun v => q_m_cat ad v
    rw [this]
    exact hsum
  have hcan : q_can (q_max x y) := by unfold q_max; split <;> assumption
  have hk := k ad rs H locs ls cells slots hSt hL (List.forall_mem_cons.mpr ⟨hcan, (List.forall_mem_cons.mp hs1).2⟩) hSc h1 h2 h3 hK
  refine va_mmax hC.1 hC.2.1 (hC.2.2.1.trans hL.2.1.symm) hC.2.2.2.1 (hC.2.2.2.2.1 _ hl) (hC.2.2.2.2.1 _ hi) (hC.2.2.2.2.1 _ hini) (hC.2.2.2.2.1 _ hco) (Nat.le_trans hf hC.2.2.2.2.2.2.1) (by have := hC.2.2.2.2.2.2.2; omega) (by omega) (by omega) hdg ?_
  have ev : (if Int32.ofInt x < Int32.ofInt y then Int32.ofInt y else Int32.ofInt x) = Int32.ofInt (q_max x y) := by
    unfold q_max
    by_cases h : x < y
    · rw [if_pos h, if_pos ((q_e_lt hx hy).mpr h)]
    · rw [if_neg h, if_neg (fun z => h ((q_e_lt hx hy).mp z))]
  rw [ev]
  exact hk
theorem q_s_min (hC : q_Cx p R s m args meth c mi) {idx : Nat} {x y : Int} (hl : Cond.methodLink (q_y mi).cls idx Lib.Math.min.name ∈ q_W) (hi : Cond.static Lib.Math.min.name ∈ q_W) (hini : Cond.initialized "java/lang/Math" ∈ q_W) (hco : Cond.code Lib.Math.min.name Lib.Math.min.code 2 (some .int) ∈ q_W) (hf : 1 ≤ q_fr mi) (hlo : 21 ≤ q_lo mi) (hsum : (st.map q_cat).sum ≤ 8) (hdg : decode (q_cc mi) pc = .ok (.invokestatic idx, 3)) (k : q_Good p l e R s m args below meth c D dA A H0 Q mi ov E' w' (pc + 3) loc (.inl (q_min x y) :: st) E w) : q_Good p l e R s m args below meth c D dA A H0 Q mi ov E' w' pc loc (.inl y :: .inl x :: st) E w := by
  intro ad rs H locs ls cells slots hSt hL hs hSc h1 h2 h3 hK
  have hy := (List.forall_mem_cons.mp hs).1
  have hs1 := (List.forall_mem_cons.mp hs).2
  have hx := (List.forall_mem_cons.mp hs1).1
  have hsum' : ((st.map (q_m ad)).map fun v => v.category).sum ≤ 8 := by
    rw [List.map_map]
    have : (fun v : Value => v.category) ∘ q_m ad = q_cat := funext fun v => q_m_cat ad v
    rw [this]
    exact hsum
  have hcan : q_can (q_min x y) := by unfold q_min; split <;> assumption
  have hk := k ad rs H locs ls cells slots hSt hL (List.forall_mem_cons.mpr ⟨hcan, (List.forall_mem_cons.mp hs1).2⟩) hSc h1 h2 h3 hK
  refine va_mmin hC.1 hC.2.1 (hC.2.2.1.trans hL.2.1.symm) hC.2.2.2.1 (hC.2.2.2.2.1 _ hl) (hC.2.2.2.2.1 _ hi) (hC.2.2.2.2.1 _ hini) (hC.2.2.2.2.1 _ hco) (Nat.le_trans hf hC.2.2.2.2.2.2.1) (by have := hC.2.2.2.2.2.2.2; omega) (by omega) (by omega) hdg ?_
  have ev : (if Int32.ofInt y < Int32.ofInt x then Int32.ofInt y else Int32.ofInt x) = Int32.ofInt (q_min x y) := by
    unfold q_min
    by_cases h : y < x
    · rw [if_pos h, if_pos ((q_e_lt hy hx).mpr h)]
    · rw [if_neg h, if_neg (fun z => h ((q_e_lt hy hx).mp z))]
  rw [ev]
  exact hk
theorem q_s_labs (hC : q_Cx p R s m args meth c mi) {idx : Nat} {x : Int64} (hl : Cond.methodLink (q_y mi).cls idx Lib.MathLoose.abs_long.x ∈ q_W) (hi : Cond.static Lib.MathLoose.abs_long.x ∈ q_W) (hini : Cond.initialized "java/lang/Math" ∈ q_W) (hco : Cond.code Lib.MathLoose.abs_long.x Lib.MathLoose.abs_long.code 2 (some .long) ∈ q_W) (hf : 1 ≤ q_fr mi) (hlo : 21 ≤ q_lo mi) (hsum : (st.map q_cat).sum ≤ 8) (hdg : decode (q_cc mi) pc = .ok (.invokestatic idx, 3)) (k : q_Good p l e R s m args below meth c D dA A H0 Q mi ov E' w' (pc + 3) loc (.inr (.inl (q_labs x)) :: st) E w) : q_Good p l e R s m args below meth c D dA A H0 Q mi ov E' w' pc loc (.inr (.inl x) :: st) E w := by
  intro ad rs H locs ls cells slots hSt hL hs hSc h1 h2 h3 hK
  have hs1 := (List.forall_mem_cons.mp hs).2
  have hsum' : ((st.map (q_m ad)).map fun v => v.category).sum ≤ 8 := by
    rw [List.map_map]
    have : (fun v : Value => v.category) ∘ q_m ad = q_cat := funext fun v => q_m_cat ad v
    rw [this]
    exact hsum
  have hk := k ad rs H locs ls cells slots hSt hL (List.forall_mem_cons.mpr ⟨trivial, hs1⟩) hSc h1 h2 h3 hK
  exact va_mabs_long hC.1 hC.2.1 (hC.2.2.1.trans hL.2.1.symm) hC.2.2.2.1 (hC.2.2.2.2.1 _ hl) (hC.2.2.2.2.1 _ hi) (hC.2.2.2.2.1 _ hini) (hC.2.2.2.2.1 _ hco) (Nat.le_trans hf hC.2.2.2.2.2.2.1) (by have := hC.2.2.2.2.2.2.2; omega) (by omega) (by omega) hdg hk
end QC
end
section
/-! soundness: a run of the small machine is a run of the Statement's machine -/
theorem q_ckL_at {mi : Nat} {P : List Nat} : ∀ {pcs : List Nat} {is : List qI} {hs : List (List Nat)}, q_ckL mi P pcs is hs = true → ∀ (k : Nat) (op : qI), is[k]? = some op → ∃ (pc : Nat) (h : List Nat), pcs[k]? = some pc ∧ q_ckI mi P pc op h = true ∧ ∃ len, decode (q_cc mi) pc = .ok (op.1, len) ∧ (q_il op.1 = 0 ∨ len = q_il op.1) ∧ (k + 1 < is.length → pcs[k + 1]? = some (pc + len))
  | [], [], [], _, k, op, hk => by simp at hk
  | [], _ :: _, _, h, _, _, _ => by simp [q_ckL] at h
  | [], [], _ :: _, h, _, _, _ => by simp [q_ckL] at h
  | _ :: _, [], _, h, _, _, _ => by simp [q_ckL] at h
  | _ :: _, _ :: _, [], h, _, _, _ => by simp [q_ckL] at h
  | pc :: pcs, op0 :: is, h0 :: hs, h, k, op, hk => by
    unfold q_ckL at h
    rw [Bool.and_eq_true, Bool.and_eq_true] at h
    obtain ⟨h1, h2, h3⟩ := h
    cases k with
    | zero =>
      rw [List.getElem?_cons_zero] at hk
      cases hk
      cases pcs with
      | nil =>
        simp only [Bool.and_eq_true, decide_eq_true_eq] at h1
        refine ⟨pc, h0, rfl, h2, _, h1.1, Or.inr rfl, fun hlt => ?_⟩
        cases is with
        | nil => simp at hlt
        | cons a b => simp [q_ckL] at h3
      | cons pc' pcs =>
        simp only [Bool.and_eq_true, decide_eq_true_eq, Bool.or_eq_true, Nat.beq_eq] at h1
        refine ⟨pc, h0, rfl, h2, pc' - pc, h1.1, ?_, fun _ => ?_⟩
        · rcases h1.2.2 with z | z
          · exact Or.inl z
          · exact Or.inr z.symm
        · rw [List.getElem?_cons_succ, List.getElem?_cons_zero]
          congr 1
          omega
    | succ k =>
      rw [List.getElem?_cons_succ] at hk
      obtain ⟨pc1, h1', a1, a2, len, a3, a4, a5⟩ := q_ckL_at h3 k op hk
      exact ⟨pc1, h1', by rw [List.getElem?_cons_succ]; exact a1, a2, len, a3, a4, fun hlt => by rw [List.getElem?_cons_succ]; exact a5 (by simpa using hlt)⟩
/-- what is known of the k-th instruction of a method -/
def q_fact (mi k : Nat) (op : qI) : Prop := ∃ (pc : Nat) (h : List Nat), (q_pcs mi)[k]? = some pc ∧ q_ckI mi (q_pcs mi) pc op h = true ∧ ∃ len, decode (q_cc mi) pc = .ok (op.1, len) ∧ (q_il op.1 = 0 ∨ len = q_il op.1) ∧ (k + 1 < (q_code mi).length → (q_pcs mi)[k + 1]? = some (pc + len))
theorem q_fact_M {mi : Nat} (h : q_ckM mi = true) (k : Nat) (op : qI) (hk : (q_code mi)[k]? = some op) : q_fact mi k op := by
  unfold q_ckM at h
  rw [Bool.and_eq_true] at h
  exact q_ckL_at h.1 k op hk
theorem q_fact_C {a n : Nat} (h : q_ckC a n = true) (k : Nat) (op : qI) (hk : (q_code 0)[k]? = some op) (h1 : a ≤ k) (h2 : k < a + n) (h3 : k + 1 < (q_code 0).length → k + 1 < a + n) : q_fact 0 k op := by
  unfold q_ckC at h
  obtain ⟨pc, hh, b1, b2, len, b3, b4, b5⟩ := q_ckL_at h (k - a) op (by
    rw [List.getElem?_take, if_pos (by omega), List.getElem?_drop]
    rw [show a + (k - a) = k by omega]
    exact hk)
  rw [List.getElem?_take, if_pos (by omega), List.getElem?_drop, show a + (k - a) = k by omega] at b1
  refine ⟨pc, hh, b1, b2, len, b3, b4, fun hlt => ?_⟩
  have h4 := h3 hlt
  have := b5 (by rw [List.length_take, List.length_drop]; omega)
  rw [List.getElem?_take, if_pos (by omega), List.getElem?_drop, show a + (k - a + 1) = k + 1 by omega] at this
  exact this
theorem q_fact_law (k : Nat) (op : qI) (hk : (q_code 0)[k]? = some op) : q_fact 0 k op := by
  have hl : (q_code 0).length = 563 := by decide +kernel
  have hlt : k < 563 := by rw [← hl]; exact (List.getElem?_eq_some_iff.mp hk).1
  rcases (by omega : (0 ≤ k ∧ k < 48) ∨ (48 ≤ k ∧ k < 96) ∨ (96 ≤ k ∧ k < 144) ∨ (144 ≤ k ∧ k < 192) ∨ (192 ≤ k ∧ k < 240) ∨ (240 ≤ k ∧ k < 288) ∨ (288 ≤ k ∧ k < 336) ∨ (336 ≤ k ∧ k < 384) ∨ (384 ≤ k ∧ k < 432) ∨ (432 ≤ k ∧ k < 480) ∨ (480 ≤ k ∧ k < 528) ∨ (528 ≤ k ∧ k < 563)) with q | q | q | q | q | q | q | q | q | q | q | q
  · exact q_fact_C qk_C0 k op hk q.1 (by omega) (by omega)
  · exact q_fact_C qk_C48 k op hk q.1 (by omega) (by omega)
  · exact q_fact_C qk_C96 k op hk q.1 (by omega) (by omega)
  · exact q_fact_C qk_C144 k op hk q.1 (by omega) (by omega)
  · exact q_fact_C qk_C192 k op hk q.1 (by omega) (by omega)
  · exact q_fact_C qk_C240 k op hk q.1 (by omega) (by omega)
  · exact q_fact_C qk_C288 k op hk q.1 (by omega) (by omega)
  · exact q_fact_C qk_C336 k op hk q.1 (by omega) (by omega)
  · exact q_fact_C qk_C384 k op hk q.1 (by omega) (by omega)
  · exact q_fact_C qk_C432 k op hk q.1 (by omega) (by omega)
  · exact q_fact_C qk_C480 k op hk q.1 (by omega) (by omega)
  · exact q_fact_C qk_C528 k op hk q.1 (by omega) (by omega)
theorem q_ckM_all (mi : Nat) (h0 : mi ≠ 0) (h : mi < 240) : q_ckM mi = true := by
  rcases (by omega : (0 ≤ mi ∧ mi < 8) ∨ (8 ≤ mi ∧ mi < 16) ∨ (16 ≤ mi ∧ mi < 24) ∨ (24 ≤ mi ∧ mi < 32) ∨ (32 ≤ mi ∧ mi < 40) ∨ (40 ≤ mi ∧ mi < 48) ∨ (48 ≤ mi ∧ mi < 56) ∨ (56 ≤ mi ∧ mi < 64) ∨ (64 ≤ mi ∧ mi < 72) ∨ (72 ≤ mi ∧ mi < 80) ∨ (80 ≤ mi ∧ mi < 88) ∨ (88 ≤ mi ∧ mi < 96) ∨ (96 ≤ mi ∧ mi < 104) ∨ (104 ≤ mi ∧ mi < 112) ∨ (112 ≤ mi ∧ mi < 120) ∨ (120 ≤ mi ∧ mi < 128) ∨ (128 ≤ mi ∧ mi < 136) ∨ (136 ≤ mi ∧ mi < 144) ∨ (144 ≤ mi ∧ mi < 152) ∨ (152 ≤ mi ∧ mi < 160) ∨ (160 ≤ mi ∧ mi < 168) ∨ (168 ≤ mi ∧ mi < 176) ∨ (176 ≤ mi ∧ mi < 184) ∨ (184 ≤ mi ∧ mi < 192) ∨ (192 ≤ mi ∧ mi < 200) ∨ (200 ≤ mi ∧ mi < 208) ∨ (208 ≤ mi ∧ mi < 216) ∨ (216 ≤ mi ∧ mi < 224) ∨ (224 ≤ mi ∧ mi < 232) ∨ (232 ≤ mi ∧ mi < 240)) with q | q | q | q | q | q | q | q | q | q | q | q | q | q | q | q | q | q | q | q | q | q | q | q | q | q | q | q | q | q
  · have hz := List.all_eq_true.mp qk_M0 mi (by
      have hz : mi = 0 ∨ mi = 1 ∨ mi = 2 ∨ mi = 3 ∨ mi = 4 ∨ mi = 5 ∨ mi = 6 ∨ mi = 7 := by omega
      rcases hz with rfl | rfl | rfl | rfl | rfl | rfl | rfl | rfl
      · first | exact absurd rfl h0 | (cases h0)
      · simp
      · simp
      · simp
      · simp
      · simp
      · simp
      · simp)
    exact hz
  · have hz := List.all_eq_true.mp qk_M1 mi (by
      have hz : mi = 8 ∨ mi = 9 ∨ mi = 10 ∨ mi = 11 ∨ mi = 12 ∨ mi = 13 ∨ mi = 14 ∨ mi = 15 := by omega
      rcases hz with rfl | rfl | rfl | rfl | rfl | rfl | rfl | rfl
      · simp
      · simp
      · simp
      · simp
      · simp
      · simp
      · simp
      · simp)
    exact hz
  · have hz := List.all_eq_true.mp qk_M2 mi (by
      have hz : mi = 16 ∨ mi = 17 ∨ mi = 18 ∨ mi = 19 ∨ mi = 20 ∨ mi = 21 ∨ mi = 22 ∨ mi = 23 := by omega
      rcases hz with rfl | rfl | rfl | rfl | rfl | rfl | rfl | rfl
      · simp
      · simp
      · simp
      · simp
      · simp
      · simp
      · simp
      · simp)
    exact hz
  · have hz := List.all_eq_true.mp qk_M3 mi (by
      have hz : mi = 24 ∨ mi = 25 ∨ mi = 26 ∨ mi = 27 ∨ mi = 28 ∨ mi = 29 ∨ mi = 30 ∨ mi = 31 := by omega
      rcases hz with rfl | rfl | rfl | rfl | rfl | rfl | rfl | rfl
      · simp
      · simp
      · simp
      · simp
      · simp
      · simp
      · simp
      · simp)
    exact hz
  · have hz := List.all_eq_true.mp qk_M4 mi (by
      have hz : mi = 32 ∨ mi = 33 ∨ mi = 34 ∨ mi = 35 ∨ mi = 36 ∨ mi = 37 ∨ mi = 38 ∨ mi = 39 := by omega
      rcases hz with rfl | rfl | rfl | rfl | rfl | rfl | rfl | rfl
      · simp
      · simp
      · simp
      · simp
      · simp
      · simp
      · simp
      · simp)
    exact hz
  · have hz := List.all_eq_true.mp qk_M5 mi (by
      have hz : mi = 40 ∨ mi = 41 ∨ mi = 42 ∨ mi = 43 ∨ mi = 44 ∨ mi = 45 ∨ mi = 46 ∨ mi = 47 := by omega
      rcases hz with rfl | rfl | rfl | rfl | rfl | rfl | rfl | rfl
      · simp
      · simp
      · simp
      · simp
      · simp
      · simp
      · simp
      · simp)
    exact hz
  · have hz := List.all_eq_true.mp qk_M6 mi (by
      have hz : mi = 48 ∨ mi = 49 ∨ mi = 50 ∨ mi = 51 ∨ mi = 52 ∨ mi = 53 ∨ mi = 54 ∨ mi = 55 := by omega
      rcases hz with rfl | rfl | rfl | rfl | rfl | rfl | rfl | rfl
      · simp
      · simp
      · simp
      · simp
      · simp
      · simp
      · simp
      · simp)
    exact hz
  · have hz := List.all_eq_true.mp qk_M7 mi (by
      have hz : mi = 56 ∨ mi = 57 ∨ mi = 58 ∨ mi = 59 ∨ mi = 60 ∨ mi = 61 ∨ mi = 62 ∨ mi = 63 := by omega
      rcases hz with rfl | rfl | rfl | rfl | rfl | rfl | rfl | rfl
      · simp
      · simp
      · simp
      · simp
      · simp
      · simp
      · simp
      · simp)
    exact hz
  · have hz := List.all_eq_true.mp qk_M8 mi (by
      have hz : mi = 64 ∨ mi = 65 ∨ mi = 66 ∨ mi = 67 ∨ mi = 68 ∨ mi = 69 ∨ mi = 70 ∨ mi = 71 := by omega
      rcases hz with rfl | rfl | rfl | rfl | rfl | rfl | rfl | rfl
      · simp
      · simp
      · simp
      · simp
      · simp
      · simp
      · simp
      · simp)
    exact hz
  · have hz := List.all_eq_true.mp qk_M9 mi (by
      have hz : mi = 72 ∨ mi = 73 ∨ mi = 74 ∨ mi = 75 ∨ mi = 76 ∨ mi = 77 ∨ mi = 78 ∨ mi = 79 := by omega
      rcases hz with rfl | rfl | rfl | rfl | rfl | rfl | rfl | rfl
      · simp
      · simp
      · simp
      · simp
      · simp
      · simp
      · simp
      · simp)
    exact hz
  · have hz := List.all_eq_true.mp qk_M10 mi (by
      have hz : mi = 80 ∨ mi = 81 ∨ mi = 82 ∨ mi = 83 ∨ mi = 84 ∨ mi = 85 ∨ mi = 86 ∨ mi = 87 := by omega
      rcases hz with rfl | rfl | rfl | rfl | rfl | rfl | rfl | rfl
      · simp
      · simp
      · simp
      · simp
      · simp
      · simp
      · simp
      · simp)
    exact hz
  · have hz := List.all_eq_true.mp qk_M11 mi (by
      have hz : mi = 88 ∨ mi = 89 ∨ mi = 90 ∨ mi = 91 ∨ mi = 92 ∨ mi = 93 ∨ mi = 94 ∨ mi = 95 := by omega
      rcases hz with rfl | rfl | rfl | rfl | rfl | rfl | rfl | rfl
      · simp
      · simp
      · simp
      · simp
      · simp
      · simp
      · simp
      · simp)
    exact hz
  · have hz := List.all_eq_true.mp qk_M12 mi (by
      have hz : mi = 96 ∨ mi = 97 ∨ mi = 98 ∨ mi = 99 ∨ mi = 100 ∨ mi = 101 ∨ mi = 102 ∨ mi = 103 := by omega
      rcases hz with rfl | rfl | rfl | rfl | rfl | rfl | rfl | rfl
      · simp
      · simp
      · simp
      · simp
      · simp
      · simp
      · simp
      · simp)
    exact hz
  · have hz := List.all_eq_true.mp qk_M13 mi (by
      have hz : mi = 104 ∨ mi = 105 ∨ mi = 106 ∨ mi = 107 ∨ mi = 108 ∨ mi = 109 ∨ mi = 110 ∨ mi = 111 := by omega
      rcases hz with rfl | rfl | rfl | rfl | rfl | rfl | rfl | rfl
      · simp
      · simp
      · simp
      · simp
      · simp
      · simp
      · simp
      · simp)
    exact hz
  · have hz := List.all_eq_true.mp qk_M14 mi (by
      have hz : mi = 112 ∨ mi = 113 ∨ mi = 114 ∨ mi = 115 ∨ mi = 116 ∨ mi = 117 ∨ mi = 118 ∨ mi = 119 := by omega
      rcases hz with rfl | rfl | rfl | rfl | rfl | rfl | rfl | rfl
      · simp
      · simp
      · simp
      · simp
      · simp
      · simp
      · simp
      · simp)
    exact hz
  · have hz := List.all_eq_true.mp qk_M15 mi (by
      have hz : mi = 120 ∨ mi = 121 ∨ mi = 122 ∨ mi = 123 ∨ mi = 124 ∨ mi = 125 ∨ mi = 126 ∨ mi = 127 := by omega
      rcases hz with rfl | rfl | rfl | rfl | rfl | rfl | rfl | rfl
      · simp
      · simp
      · simp
      · simp
      · simp
      · simp
      · simp
      · simp)
    exact hz
  · have hz := List.all_eq_true.mp qk_M16 mi (by
      have hz : mi = 128 ∨ mi = 129 ∨ mi = 130 ∨ mi = 131 ∨ mi = 132 ∨ mi = 133 ∨ mi = 134 ∨ mi = 135 := by omega
      rcases hz with rfl | rfl | rfl | rfl | rfl | rfl | rfl | rfl
      · simp
      · simp
      · simp
      · simp
      · simp
      · simp
      · simp
      · simp)
    exact hz
  · have hz := List.all_eq_true.mp qk_M17 mi (by
      have hz : mi = 136 ∨ mi = 137 ∨ mi = 138 ∨ mi = 139 ∨ mi = 140 ∨ mi = 141 ∨ mi = 142 ∨ mi = 143 := by omega
      rcases hz with rfl | rfl | rfl | rfl | rfl | rfl | rfl | rfl
      · simp
      · simp
      · simp
      · simp
      · simp
      · simp
      · simp
      · simp)
    exact hz
  · have hz := List.all_eq_true.mp qk_M18 mi (by
      have hz : mi = 144 ∨ mi = 145 ∨ mi = 146 ∨ mi = 147 ∨ mi = 148 ∨ mi = 149 ∨ mi = 150 ∨ mi = 151 := by omega
      rcases hz with rfl | rfl | rfl | rfl | rfl | rfl | rfl | rfl
      · simp
      · simp
      · simp
      · simp
      · simp
      · simp
      · simp
      · simp)
    exact hz
  · have hz := List.all_eq_true.mp qk_M19 mi (by
      have hz : mi = 152 ∨ mi = 153 ∨ mi = 154 ∨ mi = 155 ∨ mi = 156 ∨ mi = 157 ∨ mi = 158 ∨ mi = 159 := by omega
      rcases hz with rfl | rfl | rfl | rfl | rfl | rfl | rfl | rfl
      · simp
      · simp
      · simp
      · simp
      · simp
      · simp
      · simp
      · simp)
    exact hz
  · have hz := List.all_eq_true.mp qk_M20 mi (by
      have hz : mi = 160 ∨ mi = 161 ∨ mi = 162 ∨ mi = 163 ∨ mi = 164 ∨ mi = 165 ∨ mi = 166 ∨ mi = 167 := by omega
      rcases hz with rfl | rfl | rfl | rfl | rfl | rfl | rfl | rfl
      · simp
      · simp
      · simp
      · simp
      · simp
      · simp
      · simp
      · simp)
    exact hz
  · have hz := List.all_eq_true.mp qk_M21 mi (by
      have hz : mi = 168 ∨ mi = 169 ∨ mi = 170 ∨ mi = 171 ∨ mi = 172 ∨ mi = 173 ∨ mi = 174 ∨ mi = 175 := by omega
      rcases hz with rfl | rfl | rfl | rfl | rfl | rfl | rfl | rfl
      · simp
      · simp
      · simp
      · simp
      · simp
      · simp
      · simp
      · simp)
    exact hz
  · have hz := List.all_eq_true.mp qk_M22 mi (by
      have hz : mi = 176 ∨ mi = 177 ∨ mi = 178 ∨ mi = 179 ∨ mi = 180 ∨ mi = 181 ∨ mi = 182 ∨ mi = 183 := by omega
      rcases hz with rfl | rfl | rfl | rfl | rfl | rfl | rfl | rfl
      · simp
      · simp
      · simp
      · simp
      · simp
      · simp
      · simp
      · simp)
    exact hz
  · have hz := List.all_eq_true.mp qk_M23 mi (by
      have hz : mi = 184 ∨ mi = 185 ∨ mi = 186 ∨ mi = 187 ∨ mi = 188 ∨ mi = 189 ∨ mi = 190 ∨ mi = 191 := by omega
      rcases hz with rfl | rfl | rfl | rfl | rfl | rfl | rfl | rfl
      · simp
      · simp
      · simp
      · simp
      · simp
      · simp
      · simp
      · simp)
    exact hz
  · have hz := List.all_eq_true.mp qk_M24 mi (by
      have hz : mi = 192 ∨ mi = 193 ∨ mi = 194 ∨ mi = 195 ∨ mi = 196 ∨ mi = 197 ∨ mi = 198 ∨ mi = 199 := by omega
      rcases hz with rfl | rfl | rfl | rfl | rfl | rfl | rfl | rfl
      · simp
      · simp
      · simp
      · simp
      · simp
      · simp
      · simp
      · simp)
    exact hz
  · have hz := List.all_eq_true.mp qk_M25 mi (by
      have hz : mi = 200 ∨ mi = 201 ∨ mi = 202 ∨ mi = 203 ∨ mi = 204 ∨ mi = 205 ∨ mi = 206 ∨ mi = 207 := by omega
      rcases hz with rfl | rfl | rfl | rfl | rfl | rfl | rfl | rfl
      · simp
      · simp
      · simp
      · simp
      · simp
      · simp
      · simp
      · simp)
    exact hz
  · have hz := List.all_eq_true.mp qk_M26 mi (by
      have hz : mi = 208 ∨ mi = 209 ∨ mi = 210 ∨ mi = 211 ∨ mi = 212 ∨ mi = 213 ∨ mi = 214 ∨ mi = 215 := by omega
      rcases hz with rfl | rfl | rfl | rfl | rfl | rfl | rfl | rfl
      · simp
      · simp
      · simp
      · simp
      · simp
      · simp
      · simp
      · simp)
    exact hz
  · have hz := List.all_eq_true.mp qk_M27 mi (by
      have hz : mi = 216 ∨ mi = 217 ∨ mi = 218 ∨ mi = 219 ∨ mi = 220 ∨ mi = 221 ∨ mi = 222 ∨ mi = 223 := by omega
      rcases hz with rfl | rfl | rfl | rfl | rfl | rfl | rfl | rfl
      · simp
      · simp
      · simp
      · simp
      · simp
      · simp
      · simp
      · simp)
    exact hz
  · have hz := List.all_eq_true.mp qk_M28 mi (by
      have hz : mi = 224 ∨ mi = 225 ∨ mi = 226 ∨ mi = 227 ∨ mi = 228 ∨ mi = 229 ∨ mi = 230 ∨ mi = 231 := by omega
      rcases hz with rfl | rfl | rfl | rfl | rfl | rfl | rfl | rfl
      · simp
      · simp
      · simp
      · simp
      · simp
      · simp
      · simp
      · simp)
    exact hz
  · have hz := List.all_eq_true.mp qk_M29 mi (by
      have hz : mi = 232 ∨ mi = 233 ∨ mi = 234 ∨ mi = 235 ∨ mi = 236 ∨ mi = 237 ∨ mi = 238 ∨ mi = 239 := by omega
      rcases hz with rfl | rfl | rfl | rfl | rfl | rfl | rfl | rfl
      · simp
      · simp
      · simp
      · simp
      · simp
      · simp
      · simp
      · simp)
    exact hz
def q_isSp (a : Nat) : Bool := Nat.beq a 0 || (Nat.beq a 2 || (Nat.beq a 54 || (Nat.beq a 78 || Nat.beq a 90)))
theorem q_ckW_all (mi : Nat) (h0 : q_isSp mi = false) (h : mi < 240) : q_ckW mi = true := by
  rcases (by omega : (0 ≤ mi ∧ mi < 8) ∨ (8 ≤ mi ∧ mi < 16) ∨ (16 ≤ mi ∧ mi < 24) ∨ (24 ≤ mi ∧ mi < 32) ∨ (32 ≤ mi ∧ mi < 40) ∨ (40 ≤ mi ∧ mi < 48) ∨ (48 ≤ mi ∧ mi < 56) ∨ (56 ≤ mi ∧ mi < 64) ∨ (64 ≤ mi ∧ mi < 72) ∨ (72 ≤ mi ∧ mi < 80) ∨ (80 ≤ mi ∧ mi < 88) ∨ (88 ≤ mi ∧ mi < 96) ∨ (96 ≤ mi ∧ mi < 104) ∨ (104 ≤ mi ∧ mi < 112) ∨ (112 ≤ mi ∧ mi < 120) ∨ (120 ≤ mi ∧ mi < 128) ∨ (128 ≤ mi ∧ mi < 136) ∨ (136 ≤ mi ∧ mi < 144) ∨ (144 ≤ mi ∧ mi < 152) ∨ (152 ≤ mi ∧ mi < 160) ∨ (160 ≤ mi ∧ mi < 168) ∨ (168 ≤ mi ∧ mi < 176) ∨ (176 ≤ mi ∧ mi < 184) ∨ (184 ≤ mi ∧ mi < 192) ∨ (192 ≤ mi ∧ mi < 200) ∨ (200 ≤ mi ∧ mi < 208) ∨ (208 ≤ mi ∧ mi < 216) ∨ (216 ≤ mi ∧ mi < 224) ∨ (224 ≤ mi ∧ mi < 232) ∨ (232 ≤ mi ∧ mi < 240)) with q | q | q | q | q | q | q | q | q | q | q | q | q | q | q | q | q | q | q | q | q | q | q | q | q | q | q | q | q | q
  · have hz := List.all_eq_true.mp qk_W0 mi (by
      have hz : mi = 0 ∨ mi = 1 ∨ mi = 2 ∨ mi = 3 ∨ mi = 4 ∨ mi = 5 ∨ mi = 6 ∨ mi = 7 := by omega
      rcases hz with rfl | rfl | rfl | rfl | rfl | rfl | rfl | rfl
      · first | exact absurd rfl h0 | (cases h0)
      · simp
      · first | exact absurd rfl h0 | (cases h0)
      · simp
      · simp
      · simp
      · simp
      · simp)
    exact hz
  · have hz := List.all_eq_true.mp qk_W1 mi (by
      have hz : mi = 8 ∨ mi = 9 ∨ mi = 10 ∨ mi = 11 ∨ mi = 12 ∨ mi = 13 ∨ mi = 14 ∨ mi = 15 := by omega
      rcases hz with rfl | rfl | rfl | rfl | rfl | rfl | rfl | rfl
      · simp
      · simp
      · simp
      · simp
      · simp
      · simp
      · simp
      · simp)
    exact hz
  · have hz := List.all_eq_true.mp qk_W2 mi (by
      have hz : mi = 16 ∨ mi = 17 ∨ mi = 18 ∨ mi = 19 ∨ mi = 20 ∨ mi = 21 ∨ mi = 22 ∨ mi = 23 := by omega
      rcases hz with rfl | rfl | rfl | rfl | rfl | rfl | rfl | rfl
      · simp
      · simp
      · simp
      · simp
      · simp
      · simp
      · simp
      · simp)
    exact hz
  · have hz := List.all_eq_true.mp qk_W3 mi (by
      have hz : mi = 24 ∨ mi = 25 ∨ mi = 26 ∨ mi = 27 ∨ mi = 28 ∨ mi = 29 ∨ mi = 30 ∨ mi = 31 := by omega
      rcases hz with rfl | rfl | rfl | rfl | rfl | rfl | rfl | rfl
      · simp
      · simp
      · simp
      · simp
      · simp
      · simp
      · simp
      · simp)
    exact hz
  · have hz := List.all_eq_true.mp qk_W4 mi (by
      have hz : mi = 32 ∨ mi = 33 ∨ mi = 34 ∨ mi = 35 ∨ mi = 36 ∨ mi = 37 ∨ mi = 38 ∨ mi = 39 := by omega
      rcases hz with rfl | rfl | rfl | rfl | rfl | rfl | rfl | rfl
      · simp
      · simp
      · simp
      · simp
      · simp
      · simp
      · simp
      · simp)
    exact hz
  · have hz := List.all_eq_true.mp qk_W5 mi (by
      have hz : mi = 40 ∨ mi = 41 ∨ mi = 42 ∨ mi = 43 ∨ mi = 44 ∨ mi = 45 ∨ mi = 46 ∨ mi = 47 := by omega
      rcases hz with rfl | rfl | rfl | rfl | rfl | rfl | rfl | rfl
      · simp
      · simp
      · simp
      · simp
      · simp
      · simp
      · simp
      · simp)
    exact hz
  · have hz := List.all_eq_true.mp qk_W6 mi (by
      have hz : mi = 48 ∨ mi = 49 ∨ mi = 50 ∨ mi = 51 ∨ mi = 52 ∨ mi = 53 ∨ mi = 54 ∨ mi = 55 := by omega
      rcases hz with rfl | rfl | rfl | rfl | rfl | rfl | rfl | rfl
      · simp
      · simp
      · simp
      · simp
      · simp
      · simp
      · first | exact absurd rfl h0 | (cases h0)
      · simp)
    exact hz
  · have hz := List.all_eq_true.mp qk_W7 mi (by
      have hz : mi = 56 ∨ mi = 57 ∨ mi = 58 ∨ mi = 59 ∨ mi = 60 ∨ mi = 61 ∨ mi = 62 ∨ mi = 63 := by omega
      rcases hz with rfl | rfl | rfl | rfl | rfl | rfl | rfl | rfl
      · simp
      · simp
      · simp
      · simp
      · simp
      · simp
      · simp
      · simp)
    exact hz
  · have hz := List.all_eq_true.mp qk_W8 mi (by
      have hz : mi = 64 ∨ mi = 65 ∨ mi = 66 ∨ mi = 67 ∨ mi = 68 ∨ mi = 69 ∨ mi = 70 ∨ mi = 71 := by omega
      rcases hz with rfl | rfl | rfl | rfl | rfl | rfl | rfl | rfl
      · simp
      · simp
      · simp
      · simp
      · simp
      · simp
      · simp
      · simp)
    exact hz
  · have hz := List.all_eq_true.mp qk_W9 mi (by
      have hz : mi = 72 ∨ mi = 73 ∨ mi = 74 ∨ mi = 75 ∨ mi = 76 ∨ mi = 77 ∨ mi = 78 ∨ mi = 79 := by omega
      rcases hz with rfl | rfl | rfl | rfl | rfl | rfl | rfl | rfl
      · simp
      · simp
      · simp
      · simp
      · simp
      · simp
      · first | exact absurd rfl h0 | (cases h0)
      · simp)
    exact hz
  · have hz := List.all_eq_true.mp qk_W10 mi (by
      have hz : mi = 80 ∨ mi = 81 ∨ mi = 82 ∨ mi = 83 ∨ mi = 84 ∨ mi = 85 ∨ mi = 86 ∨ mi = 87 := by omega
      rcases hz with rfl | rfl | rfl | rfl | rfl | rfl | rfl | rfl
      · simp
      · simp
      · simp
      · simp
      · simp
      · simp
      · simp
      · simp)
    exact hz
  · have hz := List.all_eq_true.mp qk_W11 mi (by
      have hz : mi = 88 ∨ mi = 89 ∨ mi = 90 ∨ mi = 91 ∨ mi = 92 ∨ mi = 93 ∨ mi = 94 ∨ mi = 95 := by omega
      rcases hz with rfl | rfl | rfl | rfl | rfl | rfl | rfl | rfl
      · simp
      · simp
      · first | exact absurd rfl h0 | (cases h0)
      · simp
      · simp
      · simp
      · simp
      · simp)
    exact hz
  · have hz := List.all_eq_true.mp qk_W12 mi (by
      have hz : mi = 96 ∨ mi = 97 ∨ mi = 98 ∨ mi = 99 ∨ mi = 100 ∨ mi = 101 ∨ mi = 102 ∨ mi = 103 := by omega
      rcases hz with rfl | rfl | rfl | rfl | rfl | rfl | rfl | rfl
      · simp
      · simp
      · simp
      · simp
      · simp
      · simp
      · simp
      · simp)
    exact hz
  · have hz := List.all_eq_true.mp qk_W13 mi (by
      have hz : mi = 104 ∨ mi = 105 ∨ mi = 106 ∨ mi = 107 ∨ mi = 108 ∨ mi = 109 ∨ mi = 110 ∨ mi = 111 := by omega
      rcases hz with rfl | rfl | rfl | rfl | rfl | rfl | rfl | rfl
      · simp
      · simp
      · simp
      · simp
      · simp
      · simp
      · simp
      · simp)
    exact hz
  · have hz := List.all_eq_true.mp qk_W14 mi (by
      have hz : mi = 112 ∨ mi = 113 ∨ mi = 114 ∨ mi = 115 ∨ mi = 116 ∨ mi = 117 ∨ mi = 118 ∨ mi = 119 := by omega
      rcases hz with rfl | rfl | rfl | rfl | rfl | rfl | rfl | rfl
      · simp
      · simp
      · simp
      · simp
      · simp
      · simp
      · simp
      · simp)
    exact hz
  · have hz := List.all_eq_true.mp qk_W15 mi (by
      have hz : mi = 120 ∨ mi = 121 ∨ mi = 122 ∨ mi = 123 ∨ mi = 124 ∨ mi = 125 ∨ mi = 126 ∨ mi = 127 := by omega
      rcases hz with rfl | rfl | rfl | rfl | rfl | rfl | rfl | rfl
      · simp
      · simp
      · simp
      · simp
      · simp
      · simp
      · simp
      · simp)
    exact hz
  · have hz := List.all_eq_true.mp qk_W16 mi (by
      have hz : mi = 128 ∨ mi = 129 ∨ mi = 130 ∨ mi = 131 ∨ mi = 132 ∨ mi = 133 ∨ mi = 134 ∨ mi = 135 := by omega
      rcases hz with rfl | rfl | rfl | rfl | rfl | rfl | rfl | rfl
      · simp
      · simp
      · simp
      · simp
      · simp
      · simp
      · simp
      · simp)
    exact hz
  · have hz := List.all_eq_true.mp qk_W17 mi (by
      have hz : mi = 136 ∨ mi = 137 ∨ mi = 138 ∨ mi = 139 ∨ mi = 140 ∨ mi = 141 ∨ mi = 142 ∨ mi = 143 := by omega
      rcases hz with rfl | rfl | rfl | rfl | rfl | rfl | rfl | rfl
      · simp
      · simp
      · simp
      · simp
      · simp
      · simp
      · simp
      · simp)
    exact hz
  · have hz := List.all_eq_true.mp qk_W18 mi (by
      have hz : mi = 144 ∨ mi = 145 ∨ mi = 146 ∨ mi = 147 ∨ mi = 148 ∨ mi = 149 ∨ mi = 150 ∨ mi = 151 := by omega
      rcases hz with rfl | rfl | rfl | rfl | rfl | rfl | rfl | rfl
      · simp
      · simp
      · simp
      · simp
      · simp
      · simp
      · simp
      · simp)
    exact hz
  · have hz := List.all_eq_true.mp qk_W19 mi (by
      have hz : mi = 152 ∨ mi = 153 ∨ mi = 154 ∨ mi = 155 ∨ mi = 156 ∨ mi = 157 ∨ mi = 158 ∨ mi = 159 := by omega
      rcases hz with rfl | rfl | rfl | rfl | rfl | rfl | rfl | rfl
      · simp
      · simp
      · simp
      · simp
      · simp
      · simp
      · simp
      · simp)
    exact hz
  · have hz := List.all_eq_true.mp qk_W20 mi (by
      have hz : mi = 160 ∨ mi = 161 ∨ mi = 162 ∨ mi = 163 ∨ mi = 164 ∨ mi = 165 ∨ mi = 166 ∨ mi = 167 := by omega
      rcases hz with rfl | rfl | rfl | rfl | rfl | rfl | rfl | rfl
      · simp
      · simp
      · simp
      · simp
      · simp
      · simp
      · simp
      · simp)
    exact hz
  · have hz := List.all_eq_true.mp qk_W21 mi (by
      have hz : mi = 168 ∨ mi = 169 ∨ mi = 170 ∨ mi = 171 ∨ mi = 172 ∨ mi = 173 ∨ mi = 174 ∨ mi = 175 := by omega
      rcases hz with rfl | rfl | rfl | rfl | rfl | rfl | rfl | rfl
      · simp
      · simp
      · simp
      · simp
      · simp
      · simp
      · simp
      · simp)
    exact hz
  · have hz := List.all_eq_true.mp qk_W22 mi (by
      have hz : mi = 176 ∨ mi = 177 ∨ mi = 178 ∨ mi = 179 ∨ mi = 180 ∨ mi = 181 ∨ mi = 182 ∨ mi = 183 := by omega
      rcases hz with rfl | rfl | rfl | rfl | rfl | rfl | rfl | rfl
      · simp
      · simp
      · simp
      · simp
      · simp
      · simp
      · simp
      · simp)
    exact hz
  · have hz := List.all_eq_true.mp qk_W23 mi (by
      have hz : mi = 184 ∨ mi = 185 ∨ mi = 186 ∨ mi = 187 ∨ mi = 188 ∨ mi = 189 ∨ mi = 190 ∨ mi = 191 := by omega
      rcases hz with rfl | rfl | rfl | rfl | rfl | rfl | rfl | rfl
      · simp
      · simp
      · simp
      · simp
      · simp
      · simp
      · simp
      · simp)
    exact hz
  · have hz := List.all_eq_true.mp qk_W24 mi (by
      have hz : mi = 192 ∨ mi = 193 ∨ mi = 194 ∨ mi = 195 ∨ mi = 196 ∨ mi = 197 ∨ mi = 198 ∨ mi = 199 := by omega
      rcases hz with rfl | rfl | rfl | rfl | rfl | rfl | rfl | rfl
      · simp
      · simp
      · simp
      · simp
      · simp
      · simp
      · simp
      · simp)
    exact hz
  · have hz := List.all_eq_true.mp qk_W25 mi (by
      have hz : mi = 200 ∨ mi = 201 ∨ mi = 202 ∨ mi = 203 ∨ mi = 204 ∨ mi = 205 ∨ mi = 206 ∨ mi = 207 := by omega
      rcases hz with rfl | rfl | rfl | rfl | rfl | rfl | rfl | rfl
      · simp
      · simp
      · simp
      · simp
      · simp
      · simp
      · simp
      · simp)
    exact hz
  · have hz := List.all_eq_true.mp qk_W26 mi (by
      have hz : mi = 208 ∨ mi = 209 ∨ mi = 210 ∨ mi = 211 ∨ mi = 212 ∨ mi = 213 ∨ mi = 214 ∨ mi = 215 := by omega
      rcases hz with rfl | rfl | rfl | rfl | rfl | rfl | rfl | rfl
      · simp
      · simp
      · simp
      · simp
      · simp
      · simp
      · simp
      · simp)
    exact hz
  · have hz := List.all_eq_true.mp qk_W27 mi (by
      have hz : mi = 216 ∨ mi = 217 ∨ mi = 218 ∨ mi = 219 ∨ mi = 220 ∨ mi = 221 ∨ mi = 222 ∨ mi = 223 := by omega
      rcases hz with rfl | rfl | rfl | rfl | rfl | rfl | rfl | rfl
      · simp
      · simp
      · simp
      · simp
      · simp
      · simp
      · simp
      · simp)
    exact hz
  · have hz := List.all_eq_true.mp qk_W28 mi (by
      have hz : mi = 224 ∨ mi = 225 ∨ mi = 226 ∨ mi = 227 ∨ mi = 228 ∨ mi = 229 ∨ mi = 230 ∨ mi = 231 := by omega
      rcases hz with rfl | rfl | rfl | rfl | rfl | rfl | rfl | rfl
      · simp
      · simp
      · simp
      · simp
      · simp
      · simp
      · simp
      · simp)
    exact hz
  · have hz := List.all_eq_true.mp qk_W29 mi (by
      have hz : mi = 232 ∨ mi = 233 ∨ mi = 234 ∨ mi = 235 ∨ mi = 236 ∨ mi = 237 ∨ mi = 238 ∨ mi = 239 := by omega
      rcases hz with rfl | rfl | rfl | rfl | rfl | rfl | rfl | rfl
      · simp
      · simp
      · simp
      · simp
      · simp
      · simp
      · simp
      · simp)
    exact hz
theorem q_fact_all {mi k : Nat} {op : qI} (h : mi < 240) (hk : (q_code mi)[k]? = some op) : q_fact mi k op := by
  by_cases h0 : mi = 0
  · subst h0; exact q_fact_law k op hk
  · exact q_fact_M (q_ckM_all mi h0 h) k op hk
theorem q_MF_all {a : Nat} (h0 : q_isSp a = false) (h : a < 240) : q_MF a := by
  have h1 := q_ckW_all a h0 h
  unfold q_ckW at h1
  simp only [Bool.and_eq_true, decide_eq_true_eq] at h1
  obtain ⟨a1, a2, a3, a4, a5⟩ := h1
  exact ⟨List.mem_filter.mpr ⟨q_at_mem a1, rfl⟩, List.mem_filter.mpr ⟨q_at_mem a2, rfl⟩, a3, a4, a5⟩
theorem q_pc0 (mi : Nat) (h : mi < 240) : (q_pcs mi)[0]? = some 0 := by
  by_cases h0 : mi = 0
  · subst h0; decide +kernel
  · have := q_ckM_all mi h0 h
    unfold q_ckM at this
    rw [Bool.and_eq_true, decide_eq_true_eq] at this
    exact this.2
end
section
/-! what a run keeps: the counts grow, the script stays -/
def q_e1 (E : qR → Option (Nat × Nat)) : Prop := ∀ i kn, E (1, i) = some kn → kn.1 = 99
def q_scr (w w2 : qW) : Prop := ∀ i k, w2.1 1 i k = w.1 1 i k
theorem q_scr_rfl (w : qW) : q_scr w w := fun _ _ => rfl
theorem q_scr_set {w : qW} {t i j : Nat} {x : Int} (h : t ≠ 1) : q_scr w (q_setI w t i j x) := fun i' k => by
  unfold q_setI
  dsimp only
  rw [if_neg (fun z => h z.1.symm)]
/-- the world that a step leaves -/
def q_actW (act : qA) (P : qW → Prop) : Prop := match act with
  | none => True
  | some (.inl (_, _, _, w')) => P w'
  | some (.inr (.inl (_, _, _, w'))) => P w'
  | some (.inr (.inr (.inl (_, _, _, _, _, _, w')))) => P w'
  | some (.inr (.inr (.inr (.inl (_, _, _, _, _, w'))))) => P w'
  | some (.inr (.inr (.inr (.inr (.inl (_, _, _, _, w')))))) => P w'
  | some (.inr (.inr (.inr (.inr (.inr (_, _, w')))))) => P w'
theorem q_put_scr {a b c : Nat} {loc : qLo} {st : List qV} {env : qR → Option (Nat × Nat)} {w : qW} (he : q_e1 env) : q_actW (q_put a b c loc st env w) (q_scr w) := by
  unfold q_put
  split
  · rename_i v t i s
    split
    · rename_i c' h0
      have ht : t ≠ 1 := fun z => by subst z; exact absurd (he i _ h0) (by simp)
      split
      · split
        · exact q_scr_set ht
        · split
          · split
            · exact q_scr_rfl w
            · trivial
          · trivial
        · trivial
      · trivial
    · trivial
  · trivial
theorem q_ast_scr {k : Nat} {loc : qLo} {st : List qV} {env : qR → Option (Nat × Nat)} {w : qW} (hk : k < 3) (he : q_e1 env) : q_actW (q_ast k loc st env w) (q_scr w) := by
  unfold q_ast
  split
  · rename_i x j t i s
    split
    · rename_i k' n h0
      split
      · rename_i hb
        have ht : t ≠ 1 := fun z => by
          subst z
          have h9 : k' = 99 := he i _ h0
          subst h9
          simp only [Bool.or_eq_true, Nat.beq_eq, Bool.and_eq_true] at hb
          omega
        exact q_scr_set ht
      · trivial
    · trivial
  · trivial
theorem q_step_scr {mi : Nat} {op : qI} {loc : qLo} {st : List qV} {env : qR → Option (Nat × Nat)} {w : qW} (he : q_e1 env) : q_actW (q_step mi op loc st env w) (q_scr w) := by
  obtain ⟨i, a, b, c, z, ts⟩ := op
  cases i
  case putfield => exact q_put_scr he
  case iastore => exact q_ast_scr (by decide) he
  case bastore => exact q_ast_scr (by decide) he
  all_goals first | trivial | exact q_scr_rfl w | skip
  all_goals dsimp only [q_step]
  all_goals first | (unfold q_ld; split <;> (try split) <;> first | trivial | exact q_scr_rfl w) | (unfold q_st1; split <;> (try split) <;> first | trivial | exact q_scr_rfl w) | (unfold q_st2; split <;> (try split) <;> first | trivial | exact q_scr_rfl w) | (unfold q_inc; split <;> first | trivial | exact q_scr_rfl w) | (unfold q_bin; split <;> first | trivial | exact q_scr_rfl w) | (unfold q_dv; split <;> first | trivial | exact q_scr_rfl w) | (unfold q_binL; split <;> first | trivial | exact q_scr_rfl w) | (unfold q_un; split <;> first | trivial | exact q_scr_rfl w) | (unfold q_unL; split <;> first | trivial | exact q_scr_rfl w) | (unfold q_if1; split <;> first | trivial | exact q_scr_rfl w) | (unfold q_if2; split <;> first | trivial | exact q_scr_rfl w) | (unfold q_swi; split <;> first | trivial | exact q_scr_rfl w) | (unfold q_dup; split <;> (try split) <;> first | trivial | exact q_scr_rfl w) | (unfold q_dup2; split <;> (try split) <;> first | trivial | exact q_scr_rfl w) | (unfold q_pop; split <;> (try split) <;> first | trivial | exact q_scr_rfl w) | (unfold q_get; repeat' split) | (unfold q_ald; repeat' split) | (unfold q_lld; repeat' split) | (unfold q_lst; repeat' split) | (unfold q_rld; repeat' split) | (unfold q_rst; repeat' split) | (unfold q_len; repeat' split) | (unfold q_inv; repeat' split) | (unfold q_ret; repeat' split) | (unfold q_retL; repeat' split) | (unfold q_retR; repeat' split) | (repeat' split)
  all_goals first | trivial | exact q_scr_rfl w | exact (fun _ _ => rfl)
theorem q_new_scr {op : qI} {st s' : List qV} {E E1 : qE} {w w1 : qW} (h : q_new op st E w = some (s', E1, w1)) (he : q_e1 E.1) : q_scr w w1 ∧ q_e1 E1.1 ∧ E1.1 (1, 0) = E.1 (1, 0) ∧ E.2.1 ≤ E1.2.1 ∧ E.2.2 ≤ E1.2.2 := by
  have hk0 : ∀ j k, q_kset E.1 (0, j) k (1, 0) = E.1 (1, 0) := fun j k => by
    unfold q_kset
    rw [if_neg (by simp)]
  obtain ⟨i, a, b, c, z, ts⟩ := op
  have hk : ∀ j k, q_e1 (q_kset E.1 (0, j) k) := fun j k i kn hh => by
    unfold q_kset at hh
    rw [if_neg (by simp)] at hh
    exact he i kn hh
  cases i
  case new =>
    simp only [q_new, Option.some.injEq, Prod.mk.injEq] at h
    obtain ⟨-, rfl, rfl⟩ := h
    exact ⟨q_scr_rfl w, hk E.2.1 (0, a), hk0 E.2.1 (0, a), by dsimp only; omega, by dsimp only; omega⟩
  case newarray =>
    dsimp only [q_new] at h
    split at h
    · split at h
      · cases h
        rename_i n r hg
        exact ⟨q_scr_rfl w, hk E.2.1 (a, n.toNat), hk0 E.2.1 (a, n.toNat), by dsimp only; omega, by dsimp only; omega⟩
      · cases h
    · cases h
  case anewarray =>
    dsimp only [q_new] at h
    split at h
    · split at h
      · cases h
        rename_i n r hg
        exact ⟨q_scr_rfl w, hk E.2.1 (5 + a, n.toNat), hk0 E.2.1 (5 + a, n.toNat), by dsimp only; omega, by dsimp only; omega⟩
      · cases h
    · cases h
  case multianewarray =>
    dsimp only [q_new] at h
    split at h
    · split at h
      · cases h
        refine ⟨fun _ _ => rfl, fun i kn hh => ?_, ?_, by dsimp only; omega, by dsimp only; omega⟩
        · dsimp only at hh
          unfold q_rows at hh
          rw [if_neg (by simp)] at hh
          exact hk _ _ i kn hh
        · dsimp only
          unfold q_rows
          rw [if_neg (by simp)]
          exact hk0 _ _
      · cases h
    · cases h
  all_goals cases h
theorem q_run_keeps : ∀ (n mi : Nat) (is : List qI) (loc : qLo) (st : List qV) (E : qE) (w : qW) (ov : Option qV) (E1 : qE) (w1 : qW), q_run n mi is loc st E w = some (ov, E1, w1) → q_e1 E.1 → q_scr w w1 ∧ q_e1 E1.1 ∧ E1.1 (1, 0) = E.1 (1, 0) ∧ E.2.1 ≤ E1.2.1 ∧ E.2.2 ≤ E1.2.2
  | 0, _, _, _, _, _, _, _, _, _, h, _ => by cases h
  | _ + 1, _, [], _, _, _, _, _, _, _, h, _ => by cases h
  | n + 1, mi, op :: is, loc, st, E, w, ov, E1, w1, h, he => by
    rw [q_run_succ] at h
    cases hn : q_new op st E w with
    | some x =>
      obtain ⟨s', E2, w2⟩ := x
      rw [hn] at h
      obtain ⟨a1, a2, a5, a3, a4⟩ := q_new_scr hn he
      obtain ⟨b1, b2, b5, b3, b4⟩ := q_run_keeps n _ _ _ _ _ _ _ _ _ h a2
      exact ⟨fun i k => (b1 i k).trans (a1 i k), b2, b5.trans a5, by omega, by omega⟩
    | none =>
      rw [hn] at h
      dsimp only at h
      have hs := q_step_scr (mi := mi) (op := op) (loc := loc) (st := st) (w := w) he
      cases hq : q_step mi op loc st E.1 w with
      | none => rw [hq] at h; cases h
      | some act =>
        rw [hq] at h hs
        rcases act with ⟨g, l', s', w'⟩ | ⟨t, l', s', w'⟩ | ⟨o, x, y, t, l', s', w'⟩ | ⟨x, ts, d, l', s', w'⟩ | ⟨m, as, l', s', w'⟩ | ⟨g, v, w'⟩
        · dsimp only at h
          split at h
          · obtain ⟨b1, b2, b5, b3, b4⟩ := q_run_keeps n _ _ _ _ _ _ _ _ _ h he
            exact ⟨fun i k => (b1 i k).trans (hs i k), b2, b5, b3, b4⟩
          · cases h
        · obtain ⟨b1, b2, b5, b3, b4⟩ := q_run_keeps n _ _ _ _ _ _ _ _ _ h he
          exact ⟨fun i k => (b1 i k).trans (hs i k), b2, b5, b3, b4⟩
        · dsimp only at h
          split at h
          · obtain ⟨b1, b2, b5, b3, b4⟩ := q_run_keeps n _ _ _ _ _ _ _ _ _ h he
            exact ⟨fun i k => (b1 i k).trans (hs i k), b2, b5, b3, b4⟩
          · obtain ⟨b1, b2, b5, b3, b4⟩ := q_run_keeps n _ _ _ _ _ _ _ _ _ h he
            exact ⟨fun i k => (b1 i k).trans (hs i k), b2, b5, b3, b4⟩
        · obtain ⟨b1, b2, b5, b3, b4⟩ := q_run_keeps n _ _ _ _ _ _ _ _ _ h he
          exact ⟨fun i k => (b1 i k).trans (hs i k), b2, b5, b3, b4⟩
        · dsimp only at h
          split at h
          · cases h
          · rename_i v E3 w3 hc
            obtain ⟨c1, c2, c5, c3, c4⟩ := q_run_keeps n _ _ _ _ _ _ _ _ _ hc he
            obtain ⟨b1, b2, b5, b3, b4⟩ := q_run_keeps n _ _ _ _ _ _ _ _ _ h c2
            exact ⟨fun i k => (b1 i k).trans ((c1 i k).trans (hs i k)), b2, b5.trans c5, by omega, by omega⟩
        · dsimp only at h
          split at h
          · cases h
            exact ⟨hs, he, rfl, Nat.le_refl _, Nat.le_refl _⟩
          · cases h
end
section
/-! a step is sound -/
def q_act (G : Nat → qLo → List qV → qE → qW → Prop) (M : Nat → List qV → qW → Option qV → qE → qW → Prop) (mi pc len : Nat) (E : qE) (ov : Option qV) (E' : qE) (w' : qW) (act : qA) : Prop := match act with
  | none => False
  | some (.inl (g, l', s', w2)) => g.all (fun q => q_condb q.1 q.2.1 q.2.2) = true ∧ G (pc + len) l' s' E w2
  | some (.inr (.inl (t, l', s', w2))) => ∃ tpc, (q_pcs mi)[t]? = some tpc ∧ G tpc l' s' E w2
  | some (.inr (.inr (.inl (o, x, y, t, l', s', w2)))) => (q_cond o x y → ∃ tpc, (q_pcs mi)[t]? = some tpc ∧ G tpc l' s' E w2) ∧ (¬ q_cond o x y → G (pc + len) l' s' E w2)
  | some (.inr (.inr (.inr (.inl (x, ts, d, l', s', w2))))) => ∃ tpc, (q_pcs mi)[q_swt x ts d]? = some tpc ∧ G tpc l' s' E w2
  | some (.inr (.inr (.inr (.inr (.inl (a, as, l', s', w2)))))) => ∃ ov1 E1 w1, M a as w2 ov1 E1 w1 ∧ G (pc + len) l' (ov1.toList ++ s') E1 w1
  | some (.inr (.inr (.inr (.inr (.inr (g, v, w2)))))) => g.all (fun q => q_condb q.1 q.2.1 q.2.2) = true ∧ ov = v ∧ E' = E ∧ w' = w2
theorem q_tg_at {pcs : List Nat} {pc : Nat} {off : Int} {a tpc : Nat} (h : q_tg pcs pc off a = true) (ht : pcs[a]? = some tpc) : (pc : Int) + off = (tpc : Int) := by
  unfold q_tg at h
  rw [ht] at h
  exact of_decide_eq_true h
theorem q_tsw_at {pcs : List Nat} {pc : Nat} : ∀ {offs : List Int} {lo : Int} {ts : List (Int × Nat)} {x : Int} {d tpc : Nat}, q_tsw pcs pc lo offs ts = true → pcs[q_swt x ts d]? = some tpc → (lo ≤ x ∧ x < lo + offs.length ∧ ∃ off, offs[(x - lo).toNat]? = some off ∧ (pc : Int) + off = (tpc : Int)) ∨ ((x < lo ∨ lo + offs.length ≤ x) ∧ q_swt x ts d = d)
  | [], lo, [], x, d, tpc, _, _ => Or.inr ⟨by simp only [List.length_nil]; omega, rfl⟩
  | [], _, _ :: _, _, _, _, h, _ => by simp [q_tsw] at h
  | _ :: _, _, [], _, _, _, h, _ => by simp [q_tsw] at h
  | o :: os, lo, (k, a) :: r, x, d, tpc, h, ht => by
    unfold q_tsw at h
    simp only [Bool.and_eq_true, decide_eq_true_eq] at h
    obtain ⟨rfl, h1, h2⟩ := h
    unfold q_swt at ht ⊢
    by_cases hx : x = k
    · rw [if_pos hx] at ht
      refine Or.inl ⟨by omega, by simp only [List.length_cons]; omega, o, ?_, q_tg_at h1 ht⟩
      rw [show (x - k).toNat = 0 by omega]
      rfl
    · rw [if_neg hx] at ht ⊢
      rcases q_tsw_at h2 ht with ⟨a1, a2, off, a3, a4⟩ | ⟨a1, a2⟩
      · refine Or.inl ⟨by omega, by simp only [List.length_cons]; omega, off, ?_, a4⟩
        rw [show (x - k).toNat = (x - (k + 1)).toNat + 1 by omega, List.getElem?_cons_succ]
        exact a3
      · exact Or.inr ⟨by simp only [List.length_cons]; omega, a2⟩
theorem q_lsw_at {pcs : List Nat} {pc : Nat} {df : Int} {d : Nat} (hd : q_tg pcs pc df d = true) : ∀ {ps : List (Int × Int)} {ts : List (Int × Nat)} {x : Int} {tpc : Nat}, q_lsw pcs pc ps ts = true → pcs[q_swt x ts d]? = some tpc → (pc : Int) + Op.lookupswitch.offset ps df x = (tpc : Int)
  | [], [], x, tpc, _, ht => q_tg_at hd ht
  | [], _ :: _, _, _, h, _ => by simp [q_lsw] at h
  | _ :: _, [], _, _, h, _ => by simp [q_lsw] at h
  | (k0, o) :: os, (k, a) :: r, x, tpc, h, ht => by
    unfold q_lsw at h
    simp only [Bool.and_eq_true, decide_eq_true_eq] at h
    obtain ⟨rfl, h1, h2⟩ := h
    unfold q_swt at ht
    unfold Op.lookupswitch.offset
    by_cases hx : x = k
    · rw [if_pos hx] at ht
      rw [if_pos hx.symm]
      exact q_tg_at h1 ht
    · rw [if_neg hx] at ht
      rw [if_neg (fun z => hx z.symm)]
      exact q_lsw_at hd h2 ht
/-- which methods a call may name -/
def q_ck2 (op : qI) : Bool := match op with
  | (i, a, b, c, _, _) => match i with
    | .invokevirtual _ => !(q_isSp a) && (Nat.blt 0 c && Nat.blt c 13)
    | .invokestatic _ => !(Nat.beq c 0) || !(q_isSp a)
    | .invokespecial _ => (Nat.beq c 98 && Nat.beq b 1) || (!(q_isSp a) && (Nat.blt 0 c && Nat.blt c 13))
    | _ => true
theorem q_ck2_all : ((List.range 240).all fun mi => (q_code mi).all q_ck2) = true := by decide +kernel
theorem q_ck2_at {mi : Nat} {op : qI} (h : mi < 240) (ho : op ∈ q_code mi) : q_ck2 op = true := List.all_eq_true.mp (List.all_eq_true.mp q_ck2_all mi (List.mem_range.mpr h)) op ho
theorem q_cat_of {v : qV} (h : q_isL v = false) : q_cat v = 1 := by
  rcases v with x | x | x
  · rfl
  · cases h
  · rfl
theorem q_tgd {pcs : List Nat} {pc : Nat} {off : Int} {a : Nat} (h : q_tg pcs pc off a = true) : (pc : Int) + off = ((pcs.getD a 0 : Nat) : Int) := by
  unfold q_tg at h
  split at h
  · rename_i t ht
    rw [List.getD_eq_getElem?_getD, ht]
    exact of_decide_eq_true h
  · cases h
theorem q_tgG {P : Nat → Prop} {pcs : List Nat} {a : Nat} (h : ∃ tpc, pcs[a]? = some tpc ∧ P tpc) : P (pcs.getD a 0) := by
  obtain ⟨t, h1, h2⟩ := h
  rw [List.getD_eq_getElem?_getD, h1]
  exact h2
theorem q_fld_at {own : String} {k a b c h : Nat} {put : Bool} {nm : String} (hh : q_fld own k a b c h put nm = true) : ∃ (C : String) (T : u_T) (N : Nat), q_cls[a]? = some (C, T, N) ∧ b < N ∧ Cond.fieldLink own k C (T b).2.1 (T b).2.2.1 ∈ q_W ∧ (T b).1 = C ∧ (q_ft a)[b]? = some c ∧ (put = true → (T b).2.2.2 = false ∨ (nm = "<init>" ∧ C = own)) := by
  unfold q_fld at hh
  split at hh
  · rename_i C T N hc
    simp only [Bool.and_eq_true, decide_eq_true_eq, Bool.or_eq_true, Bool.not_eq_true'] at hh
    obtain ⟨h1, h2, h3, h4, h5⟩ := hh
    refine ⟨C, T, N, hc, h1, q_at_T h2 rfl, h3, h4, fun hp => ?_⟩
    rcases h5 with z | z | z
    · rw [hp] at z; cases z
    · exact Or.inl z
    · exact Or.inr z
  · cases hh
theorem q_ft_02 {a b c : Nat} {C : String} {T : u_T} {N : Nat} (hc : q_cls[a]? = some (C, T, N)) (hb : b < N) (hf : (q_ft a)[b]? = some c) (h0 : c ≠ 0) : c = 2 := by
  obtain ⟨-, -, -, ty0, -, h5⟩ := q_cls_ok a C T N hc
  rcases h5 b hb with ⟨z, -⟩ | ⟨z, -⟩
  · rw [hf] at z; cases z; exact absurd rfl h0
  · rw [hf] at z; cases z; rfl
theorem q_gd {j n : Int} (h : [(Jvm.ClassFile.Cond.ge, j, (0 : Int)), (Jvm.ClassFile.Cond.lt, j, n)].all (fun q => q_condb q.1 q.2.1 q.2.2) = true) : 0 ≤ j ∧ j < n := by
  simpa [q_condb] using h
theorem q_kok_c {rs : List qR} {E : qE} {w : qW} {x : qR} {c : Nat} (hV : q_V rs E w) (ho : q_vok rs (.inr (.inr x))) (he : E.1 x = some (0, c)) : c < 12 := by
  have hin := q_rs_of hV ho he (by simp)
  rcases q_kok_of hV hin he with z | z
  · exact z.2
  · dsimp only at z; omega
theorem q_kok_r {rs : List qR} {E : qE} {w : qW} {r : qR} {k n c : Nat} (hV : q_V rs E w) (hin : r ∈ rs) (he : E.1 r = some (k, n)) (hk : k = 7 + c) (hc : c < 12) : k = 11 ∧ c = 4 ∨ k = 15 ∧ c = 8 := by
  rcases q_kok_of hV hin he with z | z
  · dsimp only at z; omega
  · dsimp only at z; omega
theorem q_room_at {mi a : Nat} (h : q_room mi a = true) : q_fr a + 1 ≤ q_fr mi ∧ 8 + (q_ml a + 11) + q_lo a ≤ q_lo mi := by
  unfold q_room at h
  simpa using h
theorem q_at_TT {i : Nat} {w : Cond} (h : q_at i w = true) (hg : goodWord w = true) : w ∈ q_T := List.mem_filter.mpr ⟨q_at_mem h, hg⟩
theorem q_take_rev {st as : List qV} {b n : Nat} (hb : b ≤ st.length) (hta : (st.take b).reverse = as) : st = as.reverse ++ st.drop b ∧ as.length = b := by
  constructor
  · rw [← hta, List.reverse_reverse, List.take_append_drop]
  · rw [← hta, List.length_reverse, List.length_take]; omega
theorem q_take_rev1 {st as : List qV} {b : Nat} {r : qR} (hb : b ≤ st.length) (hta : (st.take b).reverse = .inr (.inr r) :: as) : st = as.reverse ++ .inr (.inr r) :: st.drop b ∧ as.length + 1 = b := by
  obtain ⟨h1, h2⟩ := q_take_rev (n := 0) hb hta
  refine ⟨?_, by simpa using h2⟩
  rw [List.reverse_cons, List.append_assoc] at h1
  exact h1
section QT
variable {p : Program} {l : Launch} {e : Env} {R : Room} {s : State} {m : MethodId} {args : Array Value} {below : List Frame} {meth : Method} {c : Code} {D : va_G} {dA : Nat → ClassId} {A : Nat → Prop} {H0 : Heap} {Q : State → Prop} {mi : Nat} {ov : Option qV} {E' E : qE} {w' w : qW} {pc : Nat} {loc : qLo} {st : List qV}
theorem q_s_iinc2 (hC : q_Cx p R s m args meth c mi) {i : Nat} {n x : Int} (hi : loc[i]? = some (some (.inl x))) (hdg : decode (q_cc mi) pc = .ok (.iinc i n, 3)) (k : q_Good p l e R s m args below meth c D dA A H0 Q mi ov E' w' (pc + 3) (loc.set i (some (.inl (q_w (x + n))))) st E w) : q_Good p l e R s m args below meth c D dA A H0 Q mi ov E' w' pc loc st E w := by
  intro ad rs H locs ls cells slots hSt hL hs hSc h1 h2 h3 hK
  have hcl : q_clr loc i = loc := by
    unfold q_clr
    split
    · rfl
    · rename_i j
      split
      · rename_i y hy
        have a1 := (hL.2.2.2 j _ hy).2
        have a2 := (hL.2.2.2 (j + 1) _ hi).2
        have a3 := hL.2.2.1.1 j _ a1 rfl
        rw [a2] at a3
        cases a3
      · rfl
  exact q_s_iinc hC hi hdg (by rw [hcl]; exact k) ad rs H locs ls cells slots hSt hL hs hSc h1 h2 h3 hK
def q_MM (l : Launch) (D : va_G) (dA : Nat → ClassId) (E E' : qE) : Nat → List qV → qW → Option qV → qE → qW → Prop := fun a as w2 ov1 E1 w1 => a < 240 ∧ (q_isSp a = false → (q_args as).length ≤ q_ml a → ∀ (ad : qR → Nat) (rs : List qR) (sz : Nat), q_V rs E w2 → (∀ v ∈ as, q_vok rs v) → q_Met l D dA a as ad rs E w2 sz ov1 E1 w1) ∧ (E.2.1 ≤ E1.2.1 ∧ E.2.2 ≤ E1.2.2) ∧ (E1.2.1 ≤ E'.2.1 ∧ E1.2.2 ≤ E'.2.2) ∧ (q_scr w2 w1 ∧ E1.1 (1, 0) = E.1 (1, 0))
theorem q_s_tsw (hC : q_Cx p R s m args meth c mi) {x : Int} {d lo hi : Int} {offs : Array Int} {len a tpc : Nat} {ts : List (Int × Nat)} (hd : q_tg (q_pcs mi) pc d a = true) (ho : q_tsw (q_pcs mi) pc lo offs.toList ts = true) (hh : hi + 1 = lo + (offs.size : Int)) (ht : (q_pcs mi)[q_swt x ts a]? = some tpc) (hdg : decode (q_cc mi) pc = .ok (.tableswitch d lo hi offs, len)) (k : q_Good p l e R s m args below meth c D dA A H0 Q mi ov E' w' tpc loc st E w) : q_Good p l e R s m args below meth c D dA A H0 Q mi ov E' w' pc loc (.inl x :: st) E w := by
  intro ad rs H locs ls cells slots hSt hL hs hSc h1 h2 h3 hK
  have hx := q_toI (List.forall_mem_cons.mp hs).1
  have hk := k ad rs H locs ls cells slots hSt hL (List.forall_mem_cons.mp hs).2 hSc h1 h2 h3 hK
  rcases q_tsw_at ho ht with ⟨a1, a2, off, a3, a4⟩ | ⟨a1, a2⟩
  · rw [Array.length_toList] at a2
    exact lv_tableIn hC.1 hC.2.1 hdg (by rw [hx]; omega) (by rw [hx]; omega) (by rw [hx, ← Array.getElem?_toList]; exact a3) a4 hk
  · rw [Array.length_toList] at a1
    rw [a2] at ht
    exact lv_tableOut hC.1 hC.2.1 hdg (by rw [hx]; omega) (q_tg_at hd ht) hk
theorem q_s_lsw (hC : q_Cx p R s m args meth c mi) {x : Int} {d : Int} {ps : Array (Int × Int)} {len a tpc : Nat} {ts : List (Int × Nat)} (hd : q_tg (q_pcs mi) pc d a = true) (ho : q_lsw (q_pcs mi) pc ps.toList ts = true) (hp : (ps.toList.zip (ps.toList.drop 1)).all (fun (a, next) => a.1 < next.1) = true) (ht : (q_pcs mi)[q_swt x ts a]? = some tpc) (hdg : decode (q_cc mi) pc = .ok (.lookupswitch d ps, len)) (k : q_Good p l e R s m args below meth c D dA A H0 Q mi ov E' w' tpc loc st E w) : q_Good p l e R s m args below meth c D dA A H0 Q mi ov E' w' pc loc (.inl x :: st) E w := by
  intro ad rs H locs ls cells slots hSt hL hs hSc h1 h2 h3 hK
  have hx := q_toI (List.forall_mem_cons.mp hs).1
  have hk := k ad rs H locs ls cells slots hSt hL (List.forall_mem_cons.mp hs).2 hSc h1 h2 h3 hK
  exact lv_lookup hC.1 hC.2.1 hdg hp rfl (by rw [hx]; exact q_lsw_at hd ho ht) hk
theorem q_ret_of (ov1 : Option qV) (h : ∀ rs, (∀ v ∈ st, q_vok rs v) → q_ret1 mi pc rs ov1) (hst : st = ov1.toList) (h1 : ov = ov1) (h2 : E' = E) (h3 : w' = w) : q_Good p l e R s m args below meth c D dA A H0 Q mi ov E' w' pc loc st E w := by
  subst h1; subst h2; subst h3; subst hst
  intro ad rs H locs ls cells slots hSt hL hs hSc h1 h2 h3 hK
  have := hK ad rs H locs ls pc hSt (fun _ _ => rfl) (fun _ h => h) (h rs hs)
  rw [Nat.sub_self, Nat.sub_self] at this
  exact this
set_option maxHeartbeats 4000000 in
theorem q_step_sound (hC : q_Cx p R s m args meth c mi) (hK0 : va_K D q_cls (q_tys dA) s) (hN : q_Nt s) (hA : ∀ q, H0.size ≤ q → A q) {op : qI} {h : List Nat} {len : Nat} (hdg : decode (q_cc mi) pc = .ok (op.1, len)) (hlen : q_il op.1 = 0 ∨ len = q_il op.1) (hck : q_ckI mi (q_pcs mi) pc op h = true) (hck2 : q_ck2 op = true) (ha : q_act (q_Good p l e R s m args below meth c D dA A H0 Q mi ov E' w') (q_MM l D dA E E') mi pc len E ov E' w' (q_step mi op loc st E.1 w)) : q_Good p l e R s m args below meth c D dA A H0 Q mi ov E' w' pc loc st E w := by
  obtain ⟨i, a, b, cc, z, ts⟩ := op
  dsimp only at hdg hlen
  cases i
  case iconst n =>
    obtain rfl : len = 1 := hlen.resolve_left (by simp [q_il])
    simp only [q_ckI, Bool.and_eq_true, decide_eq_true_eq] at hck
    exact q_s_iconst hC hck.1 hck.2 hdg ha.2
  case bipush n =>
    obtain rfl : len = 2 := hlen.resolve_left (by simp [q_il])
    simp only [q_ckI, Bool.and_eq_true, decide_eq_true_eq] at hck
    exact q_s_bipush hC hck.1 hck.2 hdg ha.2
  case sipush n =>
    obtain rfl : len = 3 := hlen.resolve_left (by simp [q_il])
    simp only [q_ckI, Bool.and_eq_true, decide_eq_true_eq] at hck
    exact q_s_sipush hC hck.1 hck.2 hdg ha.2
  case ldc n =>
    obtain rfl : len = 2 := hlen.resolve_left (by simp [q_il])
    simp only [q_ckI, Bool.and_eq_true, decide_eq_true_eq] at hck
    exact q_s_ldc hC (q_at_T hck.1 rfl) hck.2 hdg ha.2
  case ldc_w n =>
    obtain rfl : len = 3 := hlen.resolve_left (by simp [q_il])
    simp only [q_ckI, Bool.and_eq_true, decide_eq_true_eq] at hck
    exact q_s_ldc_w hC (q_at_T hck.1 rfl) hck.2 hdg ha.2
  case lconst n =>
    obtain rfl : len = 1 := hlen.resolve_left (by simp [q_il])
    simp only [q_ckI, Bool.and_eq_true, decide_eq_true_eq] at hck
    exact q_s_lconst hC hck hdg ha.2
  case ldc2_w n =>
    obtain rfl : len = 3 := hlen.resolve_left (by simp [q_il])
    simp only [q_ckI] at hck
    exact q_s_ldc2 hC (q_at_T hck rfl) hdg ha.2
  case iload k =>
    obtain rfl : len = 2 := hlen.resolve_left (by simp [q_il])
    replace ha : q_act (q_Good p l e R s m args below meth c D dA A H0 Q mi ov E' w') (q_MM l D dA E E') mi pc 2 E ov E' w' (q_ld loc k st w q_isI) := ha
    unfold q_ld at ha
    split at ha
    · rename_i v hv
      split at ha
      · rename_i hg
        rcases v with x | x | x <;> first | exact q_s_iload hC hv hdg ha.2 | (cases hg)
      · exact ha.elim
    · exact ha.elim
  case iload_n k =>
    obtain rfl : len = 1 := hlen.resolve_left (by simp [q_il])
    replace ha : q_act (q_Good p l e R s m args below meth c D dA A H0 Q mi ov E' w') (q_MM l D dA E E') mi pc 1 E ov E' w' (q_ld loc (k : Nat) st w q_isI) := ha
    unfold q_ld at ha
    split at ha
    · rename_i v hv
      split at ha
      · rename_i hg
        rcases v with x | x | x <;> first | exact q_s_iload_n hC hv hdg ha.2 | (cases hg)
      · exact ha.elim
    · exact ha.elim
  case lload k =>
    obtain rfl : len = 2 := hlen.resolve_left (by simp [q_il])
    replace ha : q_act (q_Good p l e R s m args below meth c D dA A H0 Q mi ov E' w') (q_MM l D dA E E') mi pc 2 E ov E' w' (q_ld loc k st w q_isL) := ha
    unfold q_ld at ha
    split at ha
    · rename_i v hv
      split at ha
      · rename_i hg
        rcases v with x | x | x <;> first | exact q_s_lload hC hv hdg ha.2 | (cases hg)
      · exact ha.elim
    · exact ha.elim
  case lload_n k =>
    obtain rfl : len = 1 := hlen.resolve_left (by simp [q_il])
    replace ha : q_act (q_Good p l e R s m args below meth c D dA A H0 Q mi ov E' w') (q_MM l D dA E E') mi pc 1 E ov E' w' (q_ld loc (k : Nat) st w q_isL) := ha
    unfold q_ld at ha
    split at ha
    · rename_i v hv
      split at ha
      · rename_i hg
        rcases v with x | x | x <;> first | exact q_s_lload_n hC hv hdg ha.2 | (cases hg)
      · exact ha.elim
    · exact ha.elim
  case aload k =>
    obtain rfl : len = 2 := hlen.resolve_left (by simp [q_il])
    replace ha : q_act (q_Good p l e R s m args below meth c D dA A H0 Q mi ov E' w') (q_MM l D dA E E') mi pc 2 E ov E' w' (q_ld loc k st w q_isR) := ha
    unfold q_ld at ha
    split at ha
    · rename_i v hv
      split at ha
      · rename_i hg
        rcases v with x | x | x <;> first | exact q_s_aload hC hv hdg ha.2 | (cases hg)
      · exact ha.elim
    · exact ha.elim
  case aload_n k =>
    obtain rfl : len = 1 := hlen.resolve_left (by simp [q_il])
    replace ha : q_act (q_Good p l e R s m args below meth c D dA A H0 Q mi ov E' w') (q_MM l D dA E E') mi pc 1 E ov E' w' (q_ld loc (k : Nat) st w q_isR) := ha
    unfold q_ld at ha
    split at ha
    · rename_i v hv
      split at ha
      · rename_i hg
        rcases v with x | x | x <;> first | exact q_s_aload_n hC hv hdg ha.2 | (cases hg)
      · exact ha.elim
    · exact ha.elim
  case istore k =>
    obtain rfl : len = 2 := hlen.resolve_left (by simp [q_il])
    replace ha : q_act (q_Good p l e R s m args below meth c D dA A H0 Q mi ov E' w') (q_MM l D dA E E') mi pc 2 E ov E' w' (q_st1 loc k st w q_isI) := ha
    unfold q_st1 at ha
    split at ha
    · rename_i v r
      split at ha
      · rename_i hg
        rw [Bool.and_eq_true, Nat.blt_eq] at hg
        rcases v with x | x | x <;> first | exact q_s_istore hC hg.2 hdg ha.2 | (cases hg.1)
      · exact ha.elim
    · exact ha.elim
  case istore_n k =>
    obtain rfl : len = 1 := hlen.resolve_left (by simp [q_il])
    replace ha : q_act (q_Good p l e R s m args below meth c D dA A H0 Q mi ov E' w') (q_MM l D dA E E') mi pc 1 E ov E' w' (q_st1 loc (k : Nat) st w q_isI) := ha
    unfold q_st1 at ha
    split at ha
    · rename_i v r
      split at ha
      · rename_i hg
        rw [Bool.and_eq_true, Nat.blt_eq] at hg
        rcases v with x | x | x <;> first | exact q_s_istore_n hC hg.2 hdg ha.2 | (cases hg.1)
      · exact ha.elim
    · exact ha.elim
  case astore k =>
    obtain rfl : len = 2 := hlen.resolve_left (by simp [q_il])
    replace ha : q_act (q_Good p l e R s m args below meth c D dA A H0 Q mi ov E' w') (q_MM l D dA E E') mi pc 2 E ov E' w' (q_st1 loc k st w q_isR) := ha
    unfold q_st1 at ha
    split at ha
    · rename_i v r
      split at ha
      · rename_i hg
        rw [Bool.and_eq_true, Nat.blt_eq] at hg
        rcases v with x | x | x <;> first | exact q_s_astore hC hg.2 hdg ha.2 | (cases hg.1)
      · exact ha.elim
    · exact ha.elim
  case astore_n k =>
    obtain rfl : len = 1 := hlen.resolve_left (by simp [q_il])
    replace ha : q_act (q_Good p l e R s m args below meth c D dA A H0 Q mi ov E' w') (q_MM l D dA E E') mi pc 1 E ov E' w' (q_st1 loc (k : Nat) st w q_isR) := ha
    unfold q_st1 at ha
    split at ha
    · rename_i v r
      split at ha
      · rename_i hg
        rw [Bool.and_eq_true, Nat.blt_eq] at hg
        rcases v with x | x | x <;> first | exact q_s_astore_n hC hg.2 hdg ha.2 | (cases hg.1)
      · exact ha.elim
    · exact ha.elim
  case lstore k =>
    obtain rfl : len = 2 := hlen.resolve_left (by simp [q_il])
    replace ha : q_act (q_Good p l e R s m args below meth c D dA A H0 Q mi ov E' w') (q_MM l D dA E E') mi pc 2 E ov E' w' (q_st2 loc k st w) := ha
    unfold q_st2 at ha
    split at ha
    · rename_i v r
      split at ha
      · rename_i hg
        rw [Nat.blt_eq] at hg
        exact q_s_lstore hC hg hdg ha.2
      · exact ha.elim
    · exact ha.elim
  case lstore_n k =>
    obtain rfl : len = 1 := hlen.resolve_left (by simp [q_il])
    replace ha : q_act (q_Good p l e R s m args below meth c D dA A H0 Q mi ov E' w') (q_MM l D dA E E') mi pc 1 E ov E' w' (q_st2 loc (k : Nat) st w) := ha
    unfold q_st2 at ha
    split at ha
    · rename_i v r
      split at ha
      · rename_i hg
        rw [Nat.blt_eq] at hg
        exact q_s_lstore_n hC hg hdg ha.2
      · exact ha.elim
    · exact ha.elim
  case iinc k n =>
    obtain rfl : len = 3 := hlen.resolve_left (by simp [q_il])
    replace ha : q_act (q_Good p l e R s m args below meth c D dA A H0 Q mi ov E' w') (q_MM l D dA E E') mi pc 3 E ov E' w' (q_inc loc k n st w) := ha
    unfold q_inc at ha
    split at ha
    · rename_i x hx
      exact q_s_iinc2 hC hx hdg ha.2
    · exact ha.elim
  case iadd =>
    obtain rfl : len = 1 := hlen.resolve_left (by simp [q_il])
    replace ha : q_act (q_Good p l e R s m args below meth c D dA A H0 Q mi ov E' w') (q_MM l D dA E E') mi pc 1 E ov E' w' (q_bin loc st w (fun x y => q_w (x + y))) := ha
    unfold q_bin at ha
    split at ha
    · exact q_s_iadd hC hdg ha.2
    · exact ha.elim
  case isub =>
    obtain rfl : len = 1 := hlen.resolve_left (by simp [q_il])
    replace ha : q_act (q_Good p l e R s m args below meth c D dA A H0 Q mi ov E' w') (q_MM l D dA E E') mi pc 1 E ov E' w' (q_bin loc st w (fun x y => q_w (x - y))) := ha
    unfold q_bin at ha
    split at ha
    · exact q_s_isub hC hdg ha.2
    · exact ha.elim
  case imul =>
    obtain rfl : len = 1 := hlen.resolve_left (by simp [q_il])
    replace ha : q_act (q_Good p l e R s m args below meth c D dA A H0 Q mi ov E' w') (q_MM l D dA E E') mi pc 1 E ov E' w' (q_bin loc st w (fun x y => q_w (x * y))) := ha
    unfold q_bin at ha
    split at ha
    · exact q_s_imul hC hdg ha.2
    · exact ha.elim
  case iand =>
    obtain rfl : len = 1 := hlen.resolve_left (by simp [q_il])
    replace ha : q_act (q_Good p l e R s m args below meth c D dA A H0 Q mi ov E' w') (q_MM l D dA E E') mi pc 1 E ov E' w' (q_bin loc st w (q_and)) := ha
    unfold q_bin at ha
    split at ha
    · exact q_s_iand hC hdg ha.2
    · exact ha.elim
  case ior =>
    obtain rfl : len = 1 := hlen.resolve_left (by simp [q_il])
    replace ha : q_act (q_Good p l e R s m args below meth c D dA A H0 Q mi ov E' w') (q_MM l D dA E E') mi pc 1 E ov E' w' (q_bin loc st w (q_or)) := ha
    unfold q_bin at ha
    split at ha
    · exact q_s_ior hC hdg ha.2
    · exact ha.elim
  case ixor =>
    obtain rfl : len = 1 := hlen.resolve_left (by simp [q_il])
    replace ha : q_act (q_Good p l e R s m args below meth c D dA A H0 Q mi ov E' w') (q_MM l D dA E E') mi pc 1 E ov E' w' (q_bin loc st w (q_xor)) := ha
    unfold q_bin at ha
    split at ha
    · exact q_s_ixor hC hdg ha.2
    · exact ha.elim
  case ishl =>
    obtain rfl : len = 1 := hlen.resolve_left (by simp [q_il])
    replace ha : q_act (q_Good p l e R s m args below meth c D dA A H0 Q mi ov E' w') (q_MM l D dA E E') mi pc 1 E ov E' w' (q_bin loc st w (q_shl)) := ha
    unfold q_bin at ha
    split at ha
    · exact q_s_ishl hC hdg ha.2
    · exact ha.elim
  case ishr =>
    obtain rfl : len = 1 := hlen.resolve_left (by simp [q_il])
    replace ha : q_act (q_Good p l e R s m args below meth c D dA A H0 Q mi ov E' w') (q_MM l D dA E E') mi pc 1 E ov E' w' (q_bin loc st w (q_shr)) := ha
    unfold q_bin at ha
    split at ha
    · exact q_s_ishr hC hdg ha.2
    · exact ha.elim
  case iushr =>
    obtain rfl : len = 1 := hlen.resolve_left (by simp [q_il])
    replace ha : q_act (q_Good p l e R s m args below meth c D dA A H0 Q mi ov E' w') (q_MM l D dA E E') mi pc 1 E ov E' w' (q_bin loc st w (q_ushr)) := ha
    unfold q_bin at ha
    split at ha
    · exact q_s_iushr hC hdg ha.2
    · exact ha.elim
  case idiv =>
    obtain rfl : len = 1 := hlen.resolve_left (by simp [q_il])
    replace ha : q_act (q_Good p l e R s m args below meth c D dA A H0 Q mi ov E' w') (q_MM l D dA E E') mi pc 1 E ov E' w' (q_dv loc st w (q_div)) := ha
    unfold q_dv at ha
    split at ha
    · exact q_s_idiv hC (by simpa [q_condb] using ha.1) hdg ha.2
    · exact ha.elim
  case irem =>
    obtain rfl : len = 1 := hlen.resolve_left (by simp [q_il])
    replace ha : q_act (q_Good p l e R s m args below meth c D dA A H0 Q mi ov E' w') (q_MM l D dA E E') mi pc 1 E ov E' w' (q_dv loc st w (q_rem)) := ha
    unfold q_dv at ha
    split at ha
    · exact q_s_irem hC (by simpa [q_condb] using ha.1) hdg ha.2
    · exact ha.elim
  case ineg =>
    obtain rfl : len = 1 := hlen.resolve_left (by simp [q_il])
    replace ha : q_act (q_Good p l e R s m args below meth c D dA A H0 Q mi ov E' w') (q_MM l D dA E E') mi pc 1 E ov E' w' (q_un loc st w (fun x => .inl (q_w (-x)))) := ha
    unfold q_un at ha
    split at ha
    · exact q_s_ineg hC hdg ha.2
    · exact ha.elim
  case i2b =>
    obtain rfl : len = 1 := hlen.resolve_left (by simp [q_il])
    replace ha : q_act (q_Good p l e R s m args below meth c D dA A H0 Q mi ov E' w') (q_MM l D dA E E') mi pc 1 E ov E' w' (q_un loc st w (fun x => .inl (q_i2b x))) := ha
    unfold q_un at ha
    split at ha
    · exact q_s_i2b hC hdg ha.2
    · exact ha.elim
  case i2l =>
    obtain rfl : len = 1 := hlen.resolve_left (by simp [q_il])
    replace ha : q_act (q_Good p l e R s m args below meth c D dA A H0 Q mi ov E' w') (q_MM l D dA E E') mi pc 1 E ov E' w' (q_un loc st w (fun x => .inr (.inl (q_i2l x)))) := ha
    unfold q_un at ha
    split at ha
    · exact q_s_i2l hC hdg ha.2
    · exact ha.elim
  case lneg =>
    obtain rfl : len = 1 := hlen.resolve_left (by simp [q_il])
    replace ha : q_act (q_Good p l e R s m args below meth c D dA A H0 Q mi ov E' w') (q_MM l D dA E E') mi pc 1 E ov E' w' (q_unL loc st w (fun x => .inr (.inl (-x)))) := ha
    unfold q_unL at ha
    split at ha
    · exact q_s_lneg hC hdg ha.2
    · exact ha.elim
  case ladd =>
    obtain rfl : len = 1 := hlen.resolve_left (by simp [q_il])
    replace ha : q_act (q_Good p l e R s m args below meth c D dA A H0 Q mi ov E' w') (q_MM l D dA E E') mi pc 1 E ov E' w' (q_binL loc st w (fun x y => .inr (.inl (x + y)))) := ha
    unfold q_binL at ha
    split at ha
    · exact q_s_ladd hC hdg ha.2
    · exact ha.elim
  case lsub =>
    obtain rfl : len = 1 := hlen.resolve_left (by simp [q_il])
    replace ha : q_act (q_Good p l e R s m args below meth c D dA A H0 Q mi ov E' w') (q_MM l D dA E E') mi pc 1 E ov E' w' (q_binL loc st w (fun x y => .inr (.inl (x - y)))) := ha
    unfold q_binL at ha
    split at ha
    · exact q_s_lsub hC hdg ha.2
    · exact ha.elim
  case lmul =>
    obtain rfl : len = 1 := hlen.resolve_left (by simp [q_il])
    replace ha : q_act (q_Good p l e R s m args below meth c D dA A H0 Q mi ov E' w') (q_MM l D dA E E') mi pc 1 E ov E' w' (q_binL loc st w (fun x y => .inr (.inl (x * y)))) := ha
    unfold q_binL at ha
    split at ha
    · exact q_s_lmul hC hdg ha.2
    · exact ha.elim
  case lcmp =>
    obtain rfl : len = 1 := hlen.resolve_left (by simp [q_il])
    replace ha : q_act (q_Good p l e R s m args below meth c D dA A H0 Q mi ov E' w') (q_MM l D dA E E') mi pc 1 E ov E' w' (q_binL loc st w (fun x y => .inl (q_lcmp x y))) := ha
    unfold q_binL at ha
    split at ha
    · exact q_s_lcmp hC hdg ha.2
    · exact ha.elim
  case dup =>
    obtain rfl : len = 1 := hlen.resolve_left (by simp [q_il])
    replace ha : q_act (q_Good p l e R s m args below meth c D dA A H0 Q mi ov E' w') (q_MM l D dA E E') mi pc 1 E ov E' w' (q_dup loc st w) := ha
    unfold q_dup at ha
    split at ha
    · rename_i v r
      split at ha
      · exact ha.elim
      · rename_i hb
        exact q_s_dup hC (q_cat_of hb) hdg ha.2
    · exact ha.elim
  case pop =>
    obtain rfl : len = 1 := hlen.resolve_left (by simp [q_il])
    replace ha : q_act (q_Good p l e R s m args below meth c D dA A H0 Q mi ov E' w') (q_MM l D dA E E') mi pc 1 E ov E' w' (q_pop loc st w) := ha
    unfold q_pop at ha
    split at ha
    · rename_i v r
      split at ha
      · exact ha.elim
      · rename_i hb
        exact q_s_pop hC (q_cat_of hb) hdg ha.2
    · exact ha.elim
  case dup2 =>
    obtain rfl : len = 1 := hlen.resolve_left (by simp [q_il])
    replace ha : q_act (q_Good p l e R s m args below meth c D dA A H0 Q mi ov E' w') (q_MM l D dA E E') mi pc 1 E ov E' w' (q_dup2 loc st w) := ha
    unfold q_dup2 at ha
    split at ha
    · rename_i v u r
      split at ha
      · exact ha.elim
      · rename_i hb
        rw [Bool.or_eq_false_iff] at hb
        exact q_s_dup2 hC (q_cat_of hb.1) (q_cat_of hb.2) hdg ha.2
    · exact ha.elim
  case ifCond o off =>
    obtain rfl : len = 3 := hlen.resolve_left (by simp [q_il])
    replace ha : q_act (q_Good p l e R s m args below meth c D dA A H0 Q mi ov E' w') (q_MM l D dA E E') mi pc 3 E ov E' w' (q_if1 o a loc st w) := ha
    simp only [q_ckI] at hck
    unfold q_if1 at ha
    split at ha
    · cases o
      case eq => exact q_s_if_eq hC hdg (tgt := (q_pcs mi).getD a 0) (q_tgd hck) (fun q => q_tgG (ha.1 q)) (fun q => ha.2 q)
      case ne => exact q_s_if_ne hC hdg (tgt := (q_pcs mi).getD a 0) (q_tgd hck) (fun q => q_tgG (ha.1 q)) (fun q => ha.2 q)
      case lt => exact q_s_if_lt hC hdg (tgt := (q_pcs mi).getD a 0) (q_tgd hck) (fun q => q_tgG (ha.1 q)) (fun q => ha.2 q)
      case ge => exact q_s_if_ge hC hdg (tgt := (q_pcs mi).getD a 0) (q_tgd hck) (fun q => q_tgG (ha.1 q)) (fun q => ha.2 q)
      case gt => exact q_s_if_gt hC hdg (tgt := (q_pcs mi).getD a 0) (q_tgd hck) (fun q => q_tgG (ha.1 q)) (fun q => ha.2 q)
      case le => exact q_s_if_le hC hdg (tgt := (q_pcs mi).getD a 0) (q_tgd hck) (fun q => q_tgG (ha.1 q)) (fun q => ha.2 q)
    · exact ha.elim
  case if_icmp o off =>
    obtain rfl : len = 3 := hlen.resolve_left (by simp [q_il])
    replace ha : q_act (q_Good p l e R s m args below meth c D dA A H0 Q mi ov E' w') (q_MM l D dA E E') mi pc 3 E ov E' w' (q_if2 o a loc st w) := ha
    simp only [q_ckI] at hck
    unfold q_if2 at ha
    split at ha
    · cases o
      case eq => exact q_s_icmp_eq hC hdg (tgt := (q_pcs mi).getD a 0) (q_tgd hck) (fun q => q_tgG (ha.1 q)) (fun q => ha.2 q)
      case ne => exact q_s_icmp_ne hC hdg (tgt := (q_pcs mi).getD a 0) (q_tgd hck) (fun q => q_tgG (ha.1 q)) (fun q => ha.2 q)
      case lt => exact q_s_icmp_lt hC hdg (tgt := (q_pcs mi).getD a 0) (q_tgd hck) (fun q => q_tgG (ha.1 q)) (fun q => ha.2 q)
      case ge => exact q_s_icmp_ge hC hdg (tgt := (q_pcs mi).getD a 0) (q_tgd hck) (fun q => q_tgG (ha.1 q)) (fun q => ha.2 q)
      case gt => exact q_s_icmp_gt hC hdg (tgt := (q_pcs mi).getD a 0) (q_tgd hck) (fun q => q_tgG (ha.1 q)) (fun q => ha.2 q)
      case le => exact q_s_icmp_le hC hdg (tgt := (q_pcs mi).getD a 0) (q_tgd hck) (fun q => q_tgG (ha.1 q)) (fun q => ha.2 q)
    · exact ha.elim
  case goto off =>
    obtain rfl : len = 3 := hlen.resolve_left (by simp [q_il])
    simp only [q_ckI] at hck
    obtain ⟨tpc, h1, h2⟩ := ha
    exact q_s_goto hC hdg (q_tg_at hck h1) h2
  case tableswitch d lo hi offs =>
    replace ha : q_act (q_Good p l e R s m args below meth c D dA A H0 Q mi ov E' w') (q_MM l D dA E E') mi pc len E ov E' w' (q_swi ts a loc st w) := ha
    simp only [q_ckI, Bool.and_eq_true, decide_eq_true_eq] at hck
    unfold q_swi at ha
    split at ha
    · obtain ⟨tpc, h1, h2⟩ := ha
      exact q_s_tsw hC hck.1 hck.2.1 hck.2.2 h1 hdg h2
    · exact ha.elim
  case lookupswitch d ps =>
    replace ha : q_act (q_Good p l e R s m args below meth c D dA A H0 Q mi ov E' w') (q_MM l D dA E E') mi pc len E ov E' w' (q_swi ts a loc st w) := ha
    simp only [q_ckI, Bool.and_eq_true] at hck
    unfold q_swi at ha
    split at ha
    · obtain ⟨tpc, h1, h2⟩ := ha
      exact q_s_lsw hC hck.1 hck.2.1 hck.2.2 h1 hdg h2
    · exact ha.elim
  case getfield k =>
    obtain rfl : len = 3 := hlen.resolve_left (by simp [q_il])
    replace ha : q_act (q_Good p l e R s m args below meth c D dA A H0 Q mi ov E' w') (q_MM l D dA E E') mi pc 3 E ov E' w' (q_get a b cc loc st E.1 w) := ha
    simp only [q_ckI] at hck
    obtain ⟨C, T, N, f1, f2, f3, f4, f5, -⟩ := q_fld_at hck
    unfold q_get at ha
    split at ha
    · split at ha
      · rename_i hev
        split at ha
        · rename_i hb
          rw [Nat.beq_eq] at hb
          subst hb
          split at ha
          · exact q_s_getI hC hK0 f1 f2 f3 f4 f5 hev rfl hdg ha.2
          · split at ha
            · rename_i hne _ r1 hr1
              have hcd : cc = 2 := q_ft_02 f1 f2 f5 (fun z => hne z)
              exact q_s_getR hC hK0 f1 f2 f3 f4 f5 hev hcd hr1 hdg ha.2
            · exact ha.elim
        · exact ha.elim
      · exact ha.elim
    · exact ha.elim
  case putfield k =>
    obtain rfl : len = 3 := hlen.resolve_left (by simp [q_il])
    replace ha : q_act (q_Good p l e R s m args below meth c D dA A H0 Q mi ov E' w') (q_MM l D dA E E') mi pc 3 E ov E' w' (q_put a b cc loc st E.1 w) := ha
    simp only [q_ckI] at hck
    obtain ⟨C, T, N, f1, f2, f3, f4, f5, f6⟩ := q_fld_at hck
    have f6 := f6 rfl
    unfold q_put at ha
    split at ha
    · split at ha
      · rename_i hev
        split at ha
        · rename_i hb
          rw [Nat.beq_eq] at hb
          subst hb
          split at ha
          · exact q_s_putI hC hK0 f1 f2 f3 f4 f5 hev rfl f6 hdg ha.2
          · split at ha
            · rename_i hx
              split at ha
              · rename_i h9
                rw [Nat.blt_eq] at h9
                exact q_s_putR hC hK0 f1 f2 f3 f4 f5 hev rfl f6 hx h9 hdg ha.2
              · exact ha.elim
            · exact ha.elim
          · exact ha.elim
        · exact ha.elim
      · exact ha.elim
    · exact ha.elim
  case iaload =>
    obtain rfl : len = 1 := hlen.resolve_left (by simp [q_il])
    replace ha : q_act (q_Good p l e R s m args below meth c D dA A H0 Q mi ov E' w') (q_MM l D dA E E') mi pc 1 E ov E' w' (q_ald mi 1 loc st E.1 w) := ha
    unfold q_ald at ha
    split at ha
    · rename_i j t i s1
      split at ha
      · rename_i k9 n9 hev
        split at ha
        · rename_i h99
          split at ha
          · rename_i hb
            simp only [Bool.and_eq_true, Nat.beq_eq] at hb
            obtain ⟨hb1, hb2, hb3, hb4⟩ := hb
            subst hb3; subst hb4
            have hg := q_gd ha.1
            exact q_s_sld hC hK0 hb1 (by rw [hev]; simp) hg.1 hg.2 hdg ha.2
          · exact ha.elim
        · split at ha
          · rename_i hb
            have hg := q_gd ha.1
            have hk : k9 = 1 := by simpa using hb
            subst hk
            exact q_s_iald hC hK0 hg.1 hg.2 hev hdg ha.2
          · exact ha.elim
      · exact ha.elim
    · exact ha.elim
  case baload =>
    obtain rfl : len = 1 := hlen.resolve_left (by simp [q_il])
    replace ha : q_act (q_Good p l e R s m args below meth c D dA A H0 Q mi ov E' w') (q_MM l D dA E E') mi pc 1 E ov E' w' (q_ald mi 2 loc st E.1 w) := ha
    unfold q_ald at ha
    split at ha
    · rename_i j t i s1
      split at ha
      · rename_i k9 n9 hev
        split at ha
        · rename_i h99
          split at ha
          · rename_i hb
            simp only [Bool.and_eq_true, Nat.beq_eq] at hb
            obtain ⟨hb1, hb2, hb3, hb4⟩ := hb
            subst hb3; subst hb4
            have hg := q_gd ha.1
            exact absurd hb2 (by decide)
          · exact ha.elim
        · split at ha
          · rename_i hb
            have hg := q_gd ha.1
            have hk : k9 = 2 ∨ k9 = 3 := by simpa using hb
            rcases hk with rfl | rfl
            · exact q_s_bald hC hK0 hg.1 hg.2 hev hdg ha.2
            · exact q_s_zald hC hK0 hg.1 hg.2 hev hdg ha.2
          · exact ha.elim
      · exact ha.elim
    · exact ha.elim
  case iastore =>
    obtain rfl : len = 1 := hlen.resolve_left (by simp [q_il])
    replace ha : q_act (q_Good p l e R s m args below meth c D dA A H0 Q mi ov E' w') (q_MM l D dA E E') mi pc 1 E ov E' w' (q_ast 1 loc st E.1 w) := ha
    unfold q_ast at ha
    split at ha
    · split at ha
      · rename_i k9 n9 hev
        split at ha
        · rename_i hb
          have hg := q_gd ha.1
          have hk : k9 = 1 := by simpa using hb
          subst hk
          exact q_s_iast hC hK0 hg.1 hg.2 hev hdg ha.2
        · exact ha.elim
      · exact ha.elim
    · exact ha.elim
  case bastore =>
    obtain rfl : len = 1 := hlen.resolve_left (by simp [q_il])
    replace ha : q_act (q_Good p l e R s m args below meth c D dA A H0 Q mi ov E' w') (q_MM l D dA E E') mi pc 1 E ov E' w' (q_ast 2 loc st E.1 w) := ha
    unfold q_ast at ha
    split at ha
    · split at ha
      · rename_i k9 n9 hev
        split at ha
        · rename_i hb
          have hg := q_gd ha.1
          have hk : k9 = 2 ∨ k9 = 3 := by simpa using hb
          rcases hk with rfl | rfl
          · exact q_s_bast hC hK0 hg.1 hg.2 hev hdg ha.2
          · exact q_s_zast hC hK0 hg.1 hg.2 hev hdg ha.2
        · exact ha.elim
      · exact ha.elim
    · exact ha.elim
  case laload =>
    obtain rfl : len = 1 := hlen.resolve_left (by simp [q_il])
    replace ha : q_act (q_Good p l e R s m args below meth c D dA A H0 Q mi ov E' w') (q_MM l D dA E E') mi pc 1 E ov E' w' (q_lld loc st E.1 w) := ha
    unfold q_lld at ha
    split at ha
    · split at ha
      · rename_i hev
        have hg := q_gd ha.1
        exact q_s_lald hC hK0 hg.1 hg.2 hev hdg ha.2
      · exact ha.elim
    · exact ha.elim
  case lastore =>
    obtain rfl : len = 1 := hlen.resolve_left (by simp [q_il])
    replace ha : q_act (q_Good p l e R s m args below meth c D dA A H0 Q mi ov E' w') (q_MM l D dA E E') mi pc 1 E ov E' w' (q_lst loc st E.1 w) := ha
    unfold q_lst at ha
    split at ha
    · split at ha
      · rename_i hev
        have hg := q_gd ha.1
        exact q_s_last hC hK0 hg.1 hg.2 hev hdg ha.2
      · exact ha.elim
    · exact ha.elim
  case aaload =>
    obtain rfl : len = 1 := hlen.resolve_left (by simp [q_il])
    replace ha : q_act (q_Good p l e R s m args below meth c D dA A H0 Q mi ov E' w') (q_MM l D dA E E') mi pc 1 E ov E' w' (q_rld loc st E.1 w) := ha
    unfold q_rld at ha
    split at ha
    · split at ha
      · rename_i hev
        split at ha
        · rename_i hb
          rw [Bool.and_eq_true, Nat.ble_eq, Nat.blt_eq] at hb
          split at ha
          · rename_i hr
            have hg := q_gd ha.1
            exact q_s_rald hC hK0 hg.1 hg.2 hb.1 hb.2 hev hr hdg ha.2
          · exact ha.elim
        · exact ha.elim
      · exact ha.elim
    · exact ha.elim
  case aastore =>
    obtain rfl : len = 1 := hlen.resolve_left (by simp [q_il])
    replace ha : q_act (q_Good p l e R s m args below meth c D dA A H0 Q mi ov E' w') (q_MM l D dA E E') mi pc 1 E ov E' w' (q_rst loc st E.1 w) := ha
    intro ad rs H locs ls cells slots hSt hL hs hSc g1 g2 g3 hK
    unfold q_rst at ha
    split at ha
    · split at ha
      · rename_i k9 n9 c9 hev hex
        split at ha
        · rename_i hb
          rw [Nat.beq_eq] at hb
          have hg := q_gd ha.1
          have hin := q_rs_of hSt.1 (hs _ (List.mem_cons_of_mem _ (List.mem_cons_of_mem _ List.mem_cons_self))) hev (fun z => by have := q_kok_c hSt.1 (hs _ List.mem_cons_self) hex; dsimp only at z; omega)
          have h11 := q_kok_r hSt.1 hin hev hb (q_kok_c hSt.1 (hs _ List.mem_cons_self) hex)
          exact q_s_rast hC hK0 hg.1 hg.2 h11 hev hex hdg ha.2 ad rs H locs ls cells slots hSt hL hs hSc g1 g2 g3 hK
        · exact ha.elim
      · exact ha.elim
    · exact ha.elim
  case arraylength =>
    obtain rfl : len = 1 := hlen.resolve_left (by simp [q_il])
    replace ha : q_act (q_Good p l e R s m args below meth c D dA A H0 Q mi ov E' w') (q_MM l D dA E E') mi pc 1 E ov E' w' (q_len mi loc st E.1 w) := ha
    unfold q_len at ha
    split at ha
    · rename_i t i s1
      split at ha
      · rename_i k9 n9 hev
        split at ha
        · split at ha
          · rename_i hb
            simp only [Bool.and_eq_true, Nat.beq_eq] at hb
            obtain ⟨hb1, hb2, hb3⟩ := hb
            subst hb2; subst hb3
            exact q_s_slen hC hK0 hb1 (by rw [hev]; simp) hdg ha.2
          · exact ha.elim
        · rename_i h99
          split at ha
          · exact ha.elim
          · rename_i h0
            exact q_s_alen hC hK0 (fun z => by subst z; cases h0) (fun z => by subst z; cases h99) hev hdg ha.2
      · exact ha.elim
    · exact ha.elim
  case invokevirtual k =>
    obtain rfl : len = 3 := hlen.resolve_left (by simp [q_il])
    replace ha : q_act (q_Good p l e R s m args below meth c D dA A H0 Q mi ov E' w') (q_MM l D dA E E') mi pc 3 E ov E' w' (q_inv a b cc loc st E.1 w) := ha
    simp only [q_ckI, Bool.and_eq_true, decide_eq_true_eq] at hck
    obtain ⟨k0, k1, k2, k3, k4, k5, k6⟩ := hck
    simp only [q_ck2, Bool.and_eq_true, Bool.not_eq_true', Nat.blt_eq] at hck2
    unfold q_inv at ha
    split at ha
    · rename_i hb
      rw [Bool.and_eq_true, Bool.and_eq_true, Nat.ble_eq, Nat.ble_eq, Nat.ble_eq] at hb
      obtain ⟨hb1, hb2, hb3⟩ := hb
      have hb := And.intro hb1 hb2
      split at ha
      · omega
      · omega
      · omega
      · omega
      · omega
      · rename_i c1 _ _ _ _ _
        dsimp only at k6
        split at k6
        · rename_i C T N hcl
          have k6 := of_decide_eq_true k6
          split at ha
          · rename_i t i as hta
            split at ha
            · rename_i c2 hev
              split at ha
              · rename_i hbq
                rw [Nat.beq_eq] at hbq
                subst hbq
                obtain ⟨ov1, E1, w1, ⟨m1, m2, m3, m4, m5⟩, hG⟩ := ha
                obtain ⟨hst, hln⟩ := q_take_rev1 hb.1 hta
                have hkr := q_room_at k5
                exact q_s_callV hC hK0 hA hN (q_MF_all hck2.1 m1) (q_at_TT k1 rfl) (q_at_TT k2 rfl) (q_at_TT k3 rfl) hkr.1 hkr.2 hcl k6 hev (by omega) hb.2 hst hdg m3 m4 m5 (m2 hck2.1 (by rw [← hta]; exact hb3)) hG
              · exact ha.elim
            · exact ha.elim
          · exact ha.elim
        · cases k6
    · exact ha.elim
  case invokestatic k =>
    obtain rfl : len = 3 := hlen.resolve_left (by simp [q_il])
    replace ha : q_act (q_Good p l e R s m args below meth c D dA A H0 Q mi ov E' w') (q_MM l D dA E E') mi pc 3 E ov E' w' (q_inv a b cc loc st E.1 w) := ha
    simp only [q_ck2, Bool.or_eq_true, Bool.not_eq_true'] at hck2
    unfold q_inv at ha
    split at ha
    · rename_i hb
      rw [Bool.and_eq_true, Bool.and_eq_true, Nat.ble_eq, Nat.ble_eq, Nat.ble_eq] at hb
      obtain ⟨hb1, hb2, hb3⟩ := hb
      have hb := And.intro hb1 hb2
      split at ha
      · simp only [q_ckI, Bool.and_eq_true, decide_eq_true_eq] at hck
        obtain ⟨k0, k1, k2, k3, k4⟩ := hck
        obtain ⟨ov1, E1, w1, ⟨m1, m2, m3, m4, m5⟩, hG⟩ := ha
        have hkr := q_room_at k4
        obtain ⟨hst, hln⟩ := q_take_rev (n := 0) hb.1 rfl
        have hsp : q_isSp a = false := by
          rcases hck2 with z | z
          · cases z
          · exact z
        exact q_s_callS hC hK0 hA hN (q_MF_all hsp m1) (q_at_TT k1 rfl) (q_at_TT k2 rfl) hkr.1 hkr.2 (by omega) hb.2 hst hdg m3 m4 m5 (m2 hsp hb3) hG
      · simp only [q_ckI, Bool.and_eq_true, decide_eq_true_eq] at hck
        obtain ⟨k0, k1, k2, k3, k4, k5⟩ := hck
        split at ha
        · subst k4
          exact q_s_max hC (q_at_T k0 rfl) (q_at_T k1 rfl) (q_at_T k2 rfl) (q_at_T k3 rfl) k5.1 k5.2 hb.2 hdg ha.2
        · exact ha.elim
      · simp only [q_ckI, Bool.and_eq_true, decide_eq_true_eq] at hck
        obtain ⟨k0, k1, k2, k3, k4, k5⟩ := hck
        split at ha
        · subst k4
          exact q_s_min hC (q_at_T k0 rfl) (q_at_T k1 rfl) (q_at_T k2 rfl) (q_at_T k3 rfl) k5.1 k5.2 hb.2 hdg ha.2
        · exact ha.elim
      · simp only [q_ckI, Bool.and_eq_true, decide_eq_true_eq] at hck
        obtain ⟨k0, k1, k2, k3, k4, k5⟩ := hck
        split at ha
        · subst k4
          exact q_s_labs hC (q_at_T k0 rfl) (q_at_T k1 rfl) (q_at_T k2 rfl) (q_at_T k3 rfl) k5.1 k5.2 hb.2 hdg ha.2
        · exact ha.elim
      · simp [q_ckI] at hck
      · rename_i c1 n1 n2 n3 n4
        simp only [q_ckI] at hck
        split at hck
        · rename_i q; exact absurd q (Nat.succ_ne_zero _)
        · rename_i q; exact absurd (Nat.succ.inj q) n1
        · rename_i q; exact absurd (Nat.succ.inj q) n2
        · rename_i q; exact absurd (Nat.succ.inj q) n3
        · cases hck
    · exact ha.elim
  case invokespecial k =>
    obtain rfl : len = 3 := hlen.resolve_left (by simp [q_il])
    replace ha : q_act (q_Good p l e R s m args below meth c D dA A H0 Q mi ov E' w') (q_MM l D dA E E') mi pc 3 E ov E' w' (q_inv a b cc loc st E.1 w) := ha
    simp only [q_ck2, Bool.or_eq_true, Bool.and_eq_true, Bool.not_eq_true', Nat.blt_eq, Nat.beq_eq] at hck2
    simp only [q_ckI] at hck
    unfold q_inv at ha
    split at ha
    · rename_i hb
      rw [Bool.and_eq_true, Bool.and_eq_true, Nat.ble_eq, Nat.ble_eq, Nat.ble_eq] at hb
      obtain ⟨hb1, hb2, hb3⟩ := hb
      have hb := And.intro hb1 hb2
      split at ha
      · split at hck
        · rename_i z; cases z
        · rename_i z; simp only [Bool.and_eq_true, decide_eq_true_eq] at hck; exact absurd rfl hck.2.2.2.2.2.2.1
      · omega
      · omega
      · omega
      · split at ha
        · rename_i r0 s0
          split at hck
          · simp only [Bool.and_eq_true, decide_eq_true_eq] at hck
            obtain ⟨k0, k1, k2, k3, k4⟩ := hck
            have hb1 : b = 1 := by
              rcases hck2 with z | z
              · exact z.2
              · omega
            subst hb1
            have hs8 : (s0.map q_cat).sum ≤ 8 := hb.2
            exact q_s_objI hC (q_at_T k1 rfl) (q_at_T k2 rfl) (q_at_T k3 rfl) k4.1 k4.2 hs8 hdg ha.2
          · rename_i z; cases z
        · exact ha.elim
      · rename_i c1 n1 n2 n3 n4
        split at hck
        · rename_i z; rw [Nat.beq_eq] at z; exact absurd (Nat.succ.inj z) n4
        · simp only [Bool.and_eq_true, decide_eq_true_eq] at hck
          obtain ⟨k0, k1, k2, k3, k4, k5, k6, k7⟩ := hck
          split at ha
          · rename_i t i as hta
            split at ha
            · rename_i c2 hev
              split at ha
              · rename_i hbq
                obtain ⟨ov1, E1, w1, ⟨m1, m2, m3, m4, m5⟩, hG⟩ := ha
                obtain ⟨hst, hln⟩ := q_take_rev1 hb.1 hta
                have hkr := q_room_at k4
                have hsp : q_isSp a = false := by
                  rcases hck2 with z | z
                  · exact absurd (Nat.succ.inj z.1) n4
                  · exact z.1
                have hl : Cond.methodLink (q_y mi).cls k (q_y a) ∈ q_T ∨ Cond.methodLinkNest (q_y mi).cls k (q_y a) "GrassCells" ∈ q_W := by
                  split at k7
                  · exact Or.inl (q_at_TT k7 rfl)
                  · exact Or.inr (q_at_N k7 rfl)
                exact q_s_callI hC hK0 hA hN (q_MF_all hsp m1) hl (q_at_TT k1 rfl) k2 k5 hkr.1 hkr.2 (by omega) hb.2 hst hdg m3 m4 m5 (m2 hsp (by rw [← hta]; exact hb3)) hG
              · exact ha.elim
            · exact ha.elim
          · exact ha.elim
    · exact ha.elim
  case ireturn =>
    obtain rfl : len = 1 := hlen.resolve_left (by simp [q_il])
    replace ha : q_act (q_Good p l e R s m args below meth c D dA A H0 Q mi ov E' w') (q_MM l D dA E E') mi pc 1 E ov E' w' (q_ret a st w) := ha
    simp only [q_ckI] at hck
    unfold q_ret at ha
    split at ha
    · rename_i x
      split at ha
      · obtain ⟨g1, g2, g3, g4⟩ := ha
        have hck := of_decide_eq_true hck
        exact q_ret_of (some (.inl x)) (fun rs hs => ⟨hdg, hs _ List.mem_cons_self, Or.inl hck⟩) rfl g2 g3 g4
      · rename_i hne
        obtain ⟨g1, g2, g3, g4⟩ := ha
        have hg := q_gd g1
        split at hck
        · exact absurd rfl hne
        · have hck := of_decide_eq_true hck
          exact q_ret_of (some (.inl x)) (fun rs hs => ⟨hdg, hs _ List.mem_cons_self, Or.inr ⟨hck, by omega⟩⟩) rfl g2 g3 g4
    · exact ha.elim
  case lreturn =>
    obtain rfl : len = 1 := hlen.resolve_left (by simp [q_il])
    replace ha : q_act (q_Good p l e R s m args below meth c D dA A H0 Q mi ov E' w') (q_MM l D dA E E') mi pc 1 E ov E' w' (q_retL st w) := ha
    simp only [q_ckI, decide_eq_true_eq] at hck
    unfold q_retL at ha
    split at ha
    · rename_i x
      obtain ⟨g1, g2, g3, g4⟩ := ha
      exact q_ret_of (some (.inr (.inl x))) (fun rs hs => ⟨hdg, hck⟩) rfl g2 g3 g4
    · exact ha.elim
  case areturn =>
    obtain rfl : len = 1 := hlen.resolve_left (by simp [q_il])
    replace ha : q_act (q_Good p l e R s m args below meth c D dA A H0 Q mi ov E' w') (q_MM l D dA E E') mi pc 1 E ov E' w' (q_retR st w) := ha
    simp only [q_ckI] at hck
    unfold q_retR at ha
    split at ha
    · rename_i x
      obtain ⟨g1, g2, g3, g4⟩ := ha
      split at hck
      · rename_i C hC2
        exact q_ret_of (some (.inr (.inr x))) (fun rs hs => ⟨hdg, hs _ List.mem_cons_self, C, hC2⟩) rfl g2 g3 g4
      · cases hck
    · exact ha.elim
  case return_ =>
    obtain rfl : len = 1 := hlen.resolve_left (by simp [q_il])
    simp only [q_ckI, decide_eq_true_eq] at hck
    dsimp only [q_step] at ha
    split at ha
    · obtain ⟨g1, g2, g3, g4⟩ := ha
      exact q_ret_of none (fun rs hs => ⟨hdg, hck⟩) rfl g2 g3 g4
    · exact ha.elim
  all_goals exact ha.elim
end QT
end
section
/-! every run is sound -/
theorem q_lgsl_len (ad : qR → Nat) : ∀ as : List qV, (lg_sl (as.map (q_m ad))).length = (q_args as).length
  | [] => rfl
  | .inl x :: r => by
    show (lg_sl (_ :: _)).length = _
    unfold lg_sl
    rw [List.flatMap_cons, List.length_append]
    have := q_lgsl_len ad r
    unfold lg_sl at this
    rw [this]
    simp [q_m, Value.category, q_args]
    omega
  | .inr (.inl x) :: r => by
    show (lg_sl (_ :: _)).length = _
    unfold lg_sl
    rw [List.flatMap_cons, List.length_append]
    have := q_lgsl_len ad r
    unfold lg_sl at this
    rw [this]
    simp [q_m, Value.category, q_args]
    omega
  | .inr (.inr x) :: r => by
    show (lg_sl (_ :: _)).length = _
    unfold lg_sl
    rw [List.flatMap_cons, List.length_append]
    have := q_lgsl_len ad r
    unfold lg_sl at this
    rw [this]
    simp [q_m, Value.category, q_args]
    omega
theorem q_args_at (ad : qR → Nat) : ∀ (as : List qV) (off i : Nat) (v : qV), (q_args as)[i]? = some (some v) → v ∈ as ∧ (off + i, q_m ad v) ∈ lv_args off (as.map (q_m ad))
  | [], _, i, v, h => by simp [q_args] at h
  | .inl x :: r, off, i, v, h => by
    cases i with
    | zero =>
      simp only [q_args, List.getElem?_cons_zero, Option.some.injEq] at h
      subst h
      exact ⟨List.mem_cons_self, by rw [List.map_cons]; exact List.mem_cons_self⟩
    | succ i =>
      simp only [q_args, List.getElem?_cons_succ] at h
      obtain ⟨h1, h2⟩ := q_args_at ad r (off + 1) i v h
      refine ⟨List.mem_cons_of_mem _ h1, ?_⟩
      rw [List.map_cons]
      refine List.mem_cons_of_mem _ ?_
      rw [show off + (i + 1) = off + 1 + i by omega]
      exact h2
  | .inr (.inl x) :: r, off, i, v, h => by
    cases i with
    | zero =>
      simp only [q_args, List.getElem?_cons_zero, Option.some.injEq] at h
      subst h
      exact ⟨List.mem_cons_self, by rw [List.map_cons]; exact List.mem_cons_self⟩
    | succ i =>
      cases i with
      | zero => simp [q_args] at h
      | succ i =>
        simp only [q_args, List.getElem?_cons_succ] at h
        obtain ⟨h1, h2⟩ := q_args_at ad r (off + 2) i v h
        refine ⟨List.mem_cons_of_mem _ h1, ?_⟩
        rw [List.map_cons]
        refine List.mem_cons_of_mem _ ?_
        rw [show off + (i + 1 + 1) = off + 2 + i by omega]
        exact h2
  | .inr (.inr x) :: r, off, i, v, h => by
    cases i with
    | zero =>
      simp only [q_args, List.getElem?_cons_zero, Option.some.injEq] at h
      subst h
      exact ⟨List.mem_cons_self, by rw [List.map_cons]; exact List.mem_cons_self⟩
    | succ i =>
      simp only [q_args, List.getElem?_cons_succ] at h
      obtain ⟨h1, h2⟩ := q_args_at ad r (off + 1) i v h
      refine ⟨List.mem_cons_of_mem _ h1, ?_⟩
      rw [List.map_cons]
      refine List.mem_cons_of_mem _ ?_
      rw [show off + (i + 1) = off + 1 + i by omega]
      exact h2
theorem q_entry_at (ad : qR → Nat) {n : Nat} {as : List qV} {i : Nat} {v : qV} (h : (q_entry n as)[i]? = some (some v)) : v ∈ as ∧ (i, q_m ad v) ∈ lv_args 0 (as.map (q_m ad)) := by
  unfold q_entry at h
  by_cases hi : i < (q_args as).length
  · rw [List.getElem?_append_left hi] at h
    have := q_args_at ad as 0 i v h
    rw [Nat.zero_add] at this
    exact this
  · rw [List.getElem?_append_right (by omega), List.getElem?_replicate] at h
    split at h <;> cases h
theorem q_entry_len {n : Nat} {as : List qV} (h : (q_args as).length ≤ n) : (q_entry n as).length = n := by
  unfold q_entry
  rw [List.length_append, List.length_replicate]
  omega
theorem q_Lk_entry {ad : qR → Nat} {rs : List qR} {as : List qV} {n : Nat} (h : (q_args as).length ≤ n) (hv : ∀ v ∈ as, q_vok rs v) : q_Lk ad rs (q_entry n as) ((lg_sl (as.map (q_m ad)) ++ List.replicate (n - (lg_sl (as.map (q_m ad))).length) Slot.unset).toArray) n := by
  have hl := lv_entry (as.map (q_m ad)) (n := n) (by rw [q_lgsl_len]; exact h)
  refine ⟨Nat.le_of_eq (q_entry_len h), hl.1, hl.2.1, fun i v hi => ?_⟩
  obtain ⟨h1, h2⟩ := q_entry_at ad hi
  exact ⟨hv v h1, hl.2.2 _ h2⟩
def q_F (n : Nat) : Prop := ∀ (mi k : Nat) (loc : qLo) (st : List qV) (E : qE) (w : qW) (ov : Option qV) (E' : qE) (w' : qW), mi < 240 → q_e1 E.1 → q_run n mi ((q_code mi).drop k) loc st E w = some (ov, E', w') → ∀ {p : Program} {l : Launch} {e : Env} {R : Room} {s : State} {m : MethodId} {args : Array Value} {below : List Frame} {meth : Method} {c : Code} {D : va_G} {dA : Nat → ClassId} {A : Nat → Prop} {H0 : Heap} {Q : State → Prop}, q_Cx p R s m args meth c mi → va_K D q_cls (q_tys dA) s → q_Nt s → (∀ q, H0.size ≤ q → A q) → q_Good p l e R s m args below meth c D dA A H0 Q mi ov E' w' (q_pcA mi k) loc st E w
theorem q_met_of {n : Nat} (ih : q_F n) {a : Nat} {as : List qV} {E : qE} {w : qW} {ov1 : Option qV} {E1 : qE} {w1 : qW} (ha : a < 240) (hsp : q_isSp a = false) (hle : (q_args as).length ≤ q_ml a) (he : q_e1 E.1) (hrun : q_run n a (q_code a) (q_entry (q_ml a) as) [] E w = some (ov1, E1, w1)) (l : Launch) (D : va_G) (dA : Nat → ClassId) (ad : qR → Nat) (rs : List qR) (sz : Nat) (hV : q_V rs E w) (hok : ∀ v ∈ as, q_vok rs v) : q_Met l D dA a as ad rs E w sz ov1 E1 w1 := by
  have hMF := q_MF_all hsp ha
  have h0 : a ≠ 0 := fun z => by subst z; cases hsp
  unfold q_Met
  refine Met.ofW (cc := q_cc a) (maxL := q_ml a) (ret := q_rtT a) hMF.2.2.2.2 rfl ?_
  intro p e s m args below meth c s₁ B hml hv
  obtain ⟨rfl, hsz, hP, hK, hD0, hN⟩ := hv
  have hr := B.returns
  have hts := atoms_spec (ws := q_wsM a) B.pre
  have hown : s.vm.findClass (q_y a).cls = some m.cls := findClass_of_methodNamed B.named
  have hlocks := B.notSynchronized
  have hin : meth.name = (q_y a).name := (name_of_methodNamed B.named B.method).1
  subst hsz
  have hD := hD0.self (sz := s.heap.size)
  have hA : ∀ q : Nat, s.heap.size ≤ q → va_A (q_ws dA E.1 w ad rs) s.heap.size q := fun q h => Or.inr h
  have hS : va_S (va_A (q_ws dA E.1 w ad rs) s.heap.size) s.heap s.heap [] := va_S.rf
  have hC : q_Cx p (headSpec (q_wsM a) (q_rm a E E1)).room s m (as.map (q_m ad)).toArray meth c a := ⟨B.exec, B.bytes, hml, hown, fun w hw => by
    rcases List.mem_append.mp hw with z | z
    · exact hts w (List.mem_cons_of_mem _ z)
    · exact q_Nt_use hN w z, fun z => hin.trans z, Nat.le_refl _, Nat.le_refl _⟩
  have hkeep := (q_run_keeps n _ _ _ _ _ _ _ _ _ hrun he).2.2.2
  rw [lg_entry_eq]
  have hg := ih a 0 (q_entry (q_ml a) as) [] E w ov1 E1 w1 ha he (by rw [List.drop_zero]; exact hrun) (p := p) (l := l) (e := e) (R := (headSpec (q_wsM a) (q_rm a E E1)).room) (s := s) (m := m) (args := (as.map (q_m ad)).toArray) (below := below) (meth := meth) (c := c) (D := D) (dA := dA) (A := va_A (q_ws dA E.1 w ad rs) s.heap.size) (H0 := s.heap) (Q := MQ below (q_Qc D dA (va_A (q_ws dA E.1 w ad rs) s.heap.size) ad rs ov1 E1 w1) (as.map (q_m ad)).toArray s (E1.2.1 - E.2.1) (E1.2.2 - E.2.2) (va_A (q_ws dA E.1 w ad rs) s.heap.size)) hC hK hN hA
  have hpc : q_pcA a 0 = 0 := by unfold q_pcA; rw [List.getD_eq_getElem?_getD, q_pc0 a ha]; rfl
  rw [hpc] at hg
  refine hg ad rs s.heap [] _ 0 0 ⟨hV, hP, hD, hS⟩ (q_Lk_entry hle hok) (fun v hv => by cases hv) (fun z => absurd z h0) (by show 0 + _ ≤ E1.2.1 - E.2.1; omega) (by show 0 + _ ≤ E1.2.2 - E.2.2; omega) hkeep ?_
  intro ad' rs' H' locs' ls' pc hSt hag hsub hret
  obtain ⟨hV', hP', hD', hS'⟩ := hSt
  rw [Nat.zero_add, Nat.zero_add]
  have hB : ∀ t : State, t.heap = H' → s.WarmedH t.vm → q_B D dA (va_A (q_ws dA E.1 w ad rs) s.heap.size) ad rs E1 w1 (ad', rs') t := fun t ht hW => ⟨hV', by rw [ht]; exact hP', va_K.moved hW.alike hK, hD', hag, hsub⟩
  rcases ov1 with _ | x | y | r
  · obtain ⟨g1, g2⟩ := hret
    exact W.vret B.exec B.bytes (hr.trans g2) (fun t ht hW => ⟨⟨(ad', rs'), rfl, trivial, hB t ht hW⟩, hS'.F ht⟩) hS'.2.2 g1
  · obtain ⟨g1, g2, g3⟩ := hret
    rcases g3 with g3 | ⟨g3, g4⟩
    · exact W.iret B.exec B.bytes (hr.trans g3) (fun t ht hW => ⟨⟨_, (ad', rs'), rfl, ⟨rfl, g2⟩, hB t ht hW⟩, hS'.F ht⟩) hS'.2.2 g1
    · exact W.zret (ty := .boolean) B.exec B.bytes (hr.trans g3) (by rcases g4 with rfl | rfl <;> rfl) (fun t ht hW => ⟨⟨_, (ad', rs'), rfl, ⟨rfl, g2⟩, hB t ht hW⟩, hS'.F ht⟩) hS'.2.2 g1
  · obtain ⟨g1, g2⟩ := hret
    exact W.lret B.exec B.bytes (hr.trans g2) (fun t ht hW => ⟨⟨_, (ad', rs'), rfl, rfl, hB t ht hW⟩, hS'.F ht⟩) hS'.2.2 g1
  · obtain ⟨g1, g2, C, g3⟩ := hret
    exact W.aret (rt := .object C) B.exec B.bytes (hr.trans g3) (Or.inl ⟨C, rfl⟩) (Or.inr ⟨_, rfl⟩) (fun t ht hW => ⟨⟨(ad', rs'), ad' r, rfl, g2, hB t ht hW, rfl⟩, hS'.F ht⟩) hS'.2.2 g1
theorem q_code_big {a : Nat} (h : ¬ a < 240) : q_code a = [] := by
  unfold q_code
  have : q_code_all[a / 16]? = none := List.getElem?_eq_none (by show 15 ≤ a / 16; omega)
  rw [this]
theorem q_run_nil {n mi : Nat} {loc : qLo} {st : List qV} {E : qE} {w : qW} : q_run n mi [] loc st E w = none := by
  cases n <;> rfl
theorem q_pcA_of {mi k pc : Nat} (h : (q_pcs mi)[k]? = some pc) : q_pcA mi k = pc := by
  unfold q_pcA
  rw [List.getD_eq_getElem?_getD, h]
  rfl
section QZ
variable {p : Program} {l : Launch} {e : Env} {R : Room} {s : State} {m : MethodId} {args : Array Value} {below : List Frame} {meth : Method} {c : Code} {D : va_G} {dA : Nat → ClassId} {A : Nat → Prop} {H0 : Heap} {Q : State → Prop} {mi : Nat} {ov : Option qV} {E' E : qE} {w' w : qW} {pc : Nat} {loc : qLo} {st : List qV}
theorem q_new_sound (hC : q_Cx p R s m args meth c mi) (hK0 : va_K D q_cls (q_tys dA) s) (hA : ∀ q, H0.size ≤ q → A q) {op : qI} {h : List Nat} {len : Nat} (hdg : decode (q_cc mi) pc = .ok (op.1, len)) (hlen : q_il op.1 = 0 ∨ len = q_il op.1) (hck : q_ckI mi (q_pcs mi) pc op h = true) {s' : List qV} {E1 : qE} {w1 : qW} (hn : q_new op st E w = some (s', E1, w1)) (h4 : E1.2.1 ≤ E'.2.1 ∧ E1.2.2 ≤ E'.2.2) (k : q_Good p l e R s m args below meth c D dA A H0 Q mi ov E' w' (pc + len) loc s' E1 w1) : q_Good p l e R s m args below meth c D dA A H0 Q mi ov E' w' pc loc st E w := by
  obtain ⟨i, a, b, cc, z, ts⟩ := op
  dsimp only at hdg hlen
  cases i
  case new x =>
    obtain rfl : len = 3 := hlen.resolve_left (by simp [q_il])
    simp only [q_new, Option.some.injEq, Prod.mk.injEq] at hn
    obtain ⟨rfl, rfl, rfl⟩ := hn
    simp only [q_ckI] at hck
    split at hck
    · rename_i C T N hc
      simp only [Bool.and_eq_true, decide_eq_true_eq] at hck
      obtain ⟨rfl, k1, k2, k3⟩ := hck
      have hci : a < 12 := (List.getElem?_eq_some_iff.mp hc).1
      exact q_s_new hC hK0 hA hc hci (q_at_T k1 rfl) (q_at_T k2 rfl) (q_at_T k3 rfl) h4.1 h4.2 hdg k
    · cases hck
  case newarray t =>
    obtain rfl : len = 2 := hlen.resolve_left (by simp [q_il])
    dsimp only [q_new] at hn
    split at hn
    · split at hn
      · rename_i n r hg
        cases hn
        simp only [q_ckI, Bool.and_eq_true] at hck
        obtain ⟨k1, k2⟩ := hck
        have hw := q_at_T k1 rfl
        cases t <;> first | (cases k2; done) | skip
        · have := of_decide_eq_true k2; subst this; exact q_s_newZ hC hK0 hA hg.1 hg.2 hw h4.1 h4.2 hdg k
        · have := of_decide_eq_true k2; subst this; exact q_s_newB hC hK0 hA hg.1 hg.2 hw h4.1 h4.2 hdg k
        · have := of_decide_eq_true k2; subst this; exact q_s_newI hC hK0 hA hg.1 hg.2 hw h4.1 h4.2 hdg k
        · have := of_decide_eq_true k2; subst this; exact q_s_newJ hC hK0 hA hg.1 hg.2 hw h4.1 h4.2 hdg k
      · cases hn
    · cases hn
  case anewarray x =>
    obtain rfl : len = 3 := hlen.resolve_left (by simp [q_il])
    dsimp only [q_new] at hn
    split at hn
    · split at hn
      · rename_i n r hg
        cases hn
        simp only [q_ckI] at hck
        split at hck
        · rename_i C T N hc
          simp only [Bool.and_eq_true, decide_eq_true_eq, Bool.or_eq_true] at hck
          obtain ⟨k1, k2, k3, k4⟩ := hck
          rcases k2 with rfl | rfl
          · cases hc
            exact q_s_newMo hC hK0 hA hg.1 hg.2 (q_at_T k3 rfl) (q_at_N k4 rfl) h4.1 h4.2 hdg k
          · cases hc
            exact q_s_newSh hC hK0 hA hg.1 hg.2 (q_at_T k3 rfl) (q_at_N k4 rfl) h4.1 h4.2 hdg k
        · cases hck
      · cases hn
    · cases hn
  case multianewarray x d =>
    obtain rfl : len = 4 := hlen.resolve_left (by simp [q_il])
    dsimp only [q_new] at hn
    split at hn
    · split at hn
      · rename_i mm n r hg
        cases hn
        simp only [q_ckI, Bool.and_eq_true, decide_eq_true_eq] at hck
        obtain ⟨rfl, hck⟩ := hck
        split at hck
        · simp only [Bool.and_eq_true, decide_eq_true_eq] at hck
          obtain ⟨rfl, k1, k2, k3⟩ := hck
          exact q_s_mnaI hC hK0 hA hg.1 hg.2.1 hg.2.2.1 hg.2.2.2 (q_at_T k1 rfl) (q_at_N k2 rfl) (q_at_T k3 rfl) h4.1 h4.2 hdg k
        · simp only [Bool.and_eq_true, decide_eq_true_eq] at hck
          obtain ⟨rfl, k1, k2, k3⟩ := hck
          exact q_s_mnaJ hC hK0 hA hg.1 hg.2.1 hg.2.2.1 hg.2.2.2 (q_at_T k1 rfl) (q_at_N k2 rfl) (q_at_T k3 rfl) h4.1 h4.2 hdg k
        · cases hck
      · cases hn
    · cases hn
  all_goals cases hn
end QZ
theorem q_sound : ∀ n : Nat, q_F n
  | 0 => fun _ _ _ _ _ _ _ _ _ _ _ h => by cases h
  | n + 1 => by
    have ih := q_sound n
    intro mi k loc st E w ov E' w' hmi he h p l e R s m args below meth c D dA A H0 Q hC hK hN hA
    cases hd : (q_code mi).drop k with
    | nil => rw [hd] at h; cases h
    | cons op is =>
      have hk : (q_code mi)[k]? = some op := by
        have := congrArg (fun l => l[0]?) hd
        simpa [List.getElem?_drop] using this
      have hd1 : (q_code mi).drop (k + 1) = is := by
        have := congrArg (List.drop 1) hd
        rw [List.drop_drop] at this
        simpa using this
      obtain ⟨pc, hh, hpc, hck, len, hdg, hlen, hnext⟩ := q_fact_all hmi hk
      have hck2 := q_ck2_at hmi (List.mem_of_getElem? hk)
      rw [q_pcA_of hpc]
      rw [hd, q_run_succ] at h
      have next : ∀ {l2 s2 E2 w2}, q_run n mi is l2 s2 E2 w2 = some (ov, E', w') → q_e1 E2.1 → q_Good p l e R s m args below meth c D dA A H0 Q mi ov E' w' (pc + len) l2 s2 E2 w2 := by
        intro l2 s2 E2 w2 hr he2
        have hne : k + 1 < (q_code mi).length := by
          rcases Nat.lt_or_ge (k + 1) (q_code mi).length with q | q
          · exact q
          · rw [← hd1, List.drop_eq_nil_of_le q, q_run_nil] at hr
            cases hr
        have := ih mi (k + 1) l2 s2 E2 w2 ov E' w' hmi he2 (by rw [hd1]; exact hr) hC hK hN hA (p := p) (l := l) (e := e) (below := below) (Q := Q)
        rw [q_pcA_of (hnext hne)] at this
        exact this
      have jump : ∀ {t l2 s2 w2}, q_run n mi ((q_code mi).drop t) l2 s2 E w2 = some (ov, E', w') → ∃ tpc, (q_pcs mi)[t]? = some tpc ∧ q_Good p l e R s m args below meth c D dA A H0 Q mi ov E' w' tpc l2 s2 E w2 := by
        intro t l2 s2 w2 hr
        have hne : t < (q_code mi).length := by
          rcases Nat.lt_or_ge t (q_code mi).length with q | q
          · exact q
          · rw [List.drop_eq_nil_of_le q, q_run_nil] at hr
            cases hr
        obtain ⟨tpc, -, htp, -⟩ := q_fact_all hmi (List.getElem?_eq_getElem hne)
        refine ⟨tpc, htp, ?_⟩
        have := ih mi t l2 s2 E w2 ov E' w' hmi he hr hC hK hN hA (p := p) (l := l) (e := e) (below := below) (Q := Q)
        rw [q_pcA_of htp] at this
        exact this
      cases hn : q_new op st E w with
      | some x =>
        obtain ⟨s2, E2, w2⟩ := x
        rw [hn] at h
        obtain ⟨a1, a2, a5, a3, a4⟩ := q_new_scr hn he
        have hkp := q_run_keeps n _ _ _ _ _ _ _ _ _ h a2
        exact q_new_sound hC hK hA hdg hlen hck hn hkp.2.2.2 (next h a2)
      | none =>
        rw [hn] at h
        dsimp only at h
        refine q_step_sound hC hK hN hA hdg hlen hck hck2 ?_
        cases hq : q_step mi op loc st E.1 w with
        | none => rw [hq] at h; cases h
        | some act =>
          rw [hq] at h
          rcases act with ⟨g, l', s', w2⟩ | ⟨t, l', s', w2⟩ | ⟨o, x, y, t, l', s', w2⟩ | ⟨x, ts, d, l', s', w2⟩ | ⟨a, as, l', s', w2⟩ | ⟨g, v, w2⟩
          · dsimp only at h
            split at h
            · rename_i hg
              exact ⟨hg, next h he⟩
            · cases h
          · exact jump h
          · dsimp only at h
            by_cases hc : q_cond o x y
            · rw [if_pos (q_condb_iff.mpr hc)] at h
              exact ⟨fun _ => jump h, fun z => absurd hc z⟩
            · rw [if_neg (fun z => hc (q_condb_iff.mp z))] at h
              exact ⟨fun z => absurd z hc, fun _ => next h he⟩
          · exact jump h
          · dsimp only at h
            split at h
            · cases h
            · rename_i v E3 w3 hcall
              have hk1 := q_run_keeps n _ _ _ _ _ _ _ _ _ hcall he
              have hk2 := q_run_keeps n _ _ _ _ _ _ _ _ _ h hk1.2.1
              have ha : a < 240 := by
                rcases Nat.lt_or_ge a 240 with q | q
                · exact q
                · rw [q_code_big (by omega), q_run_nil] at hcall
                  cases hcall
              exact ⟨v, E3, w3, ⟨ha, fun hsp hle ad rs sz hV hok => q_met_of ih ha hsp hle he hcall l D dA ad rs sz hV hok, hk1.2.2.2, hk2.2.2.2, hk1.1, hk1.2.2.1⟩, next h hk1.2.1⟩
          · dsimp only at h
            split at h
            · rename_i hg
              cases h
              exact ⟨hg, rfl, rfl, rfl⟩
            · cases h
end
section
/-! a stretch of a method's run, from one place to another -/
def q_part : Nat → Nat → Nat → qLo → List qV → qE → qW → Option (Nat × qLo × List qV × qE × qW)
  | 0, mi, k, loc, st, E, w => if k < (q_code mi).length then some (k, loc, st, E, w) else none
  | n + 1, mi, k, loc, st, E, w => match (q_code mi)[k]? with
    | none => none
    | some op => match q_new op st E w with
      | some (s', E', w') => q_part n mi (k + 1) loc s' E' w'
      | none => match q_step mi op loc st E.1 w with
        | some (.inl (g, l', s', w')) => if g.all (fun q => q_condb q.1 q.2.1 q.2.2) = true then q_part n mi (k + 1) l' s' E w' else none
        | some (.inr (.inr (.inr (.inr (.inl (m, as, l', s', w')))))) => (match q_run 4000 m (q_code m) (q_entry (q_ml m) as) [] E w' with
          | none => none
          | some (v, E', w2) => q_part n mi (k + 1) l' (v.toList ++ s') E' w2)
        | _ => none
theorem q_part_in : ∀ (n mi k : Nat) (loc : qLo) (st : List qV) (E : qE) (w : qW) (r : Nat × qLo × List qV × qE × qW), q_part n mi k loc st E w = some r → k < (q_code mi).length
  | 0, mi, k, loc, st, E, w, r, h => by
    unfold q_part at h
    split at h
    · assumption
    · cases h
  | n + 1, mi, k, loc, st, E, w, r, h => by
    unfold q_part at h
    split at h
    · cases h
    · rename_i op ho
      exact (List.getElem?_eq_some_iff.mp ho).1
theorem q_part_keeps : ∀ (n mi k : Nat) (loc : qLo) (st : List qV) (E : qE) (w : qW) (k1 : Nat) (l1 : qLo) (s1 : List qV) (E1 : qE) (w1 : qW), q_part n mi k loc st E w = some (k1, l1, s1, E1, w1) → q_e1 E.1 → q_e1 E1.1 ∧ E.2.1 ≤ E1.2.1 ∧ E.2.2 ≤ E1.2.2
  | 0, mi, k, loc, st, E, w, _, _, _, _, _, h, he => by
    unfold q_part at h
    split at h
    · cases h; exact ⟨he, Nat.le_refl _, Nat.le_refl _⟩
    · cases h
  | n + 1, mi, k, loc, st, E, w, k1, l1, s1, E1, w1, h, he => by
    unfold q_part at h
    split at h
    · cases h
    · rename_i op ho
      split at h
      · rename_i s' E' w' hn
        obtain ⟨a1, a2, a5, a3, a4⟩ := q_new_scr hn he
        obtain ⟨b1, b2, b3⟩ := q_part_keeps n _ _ _ _ _ _ _ _ _ _ _ h a2
        exact ⟨b1, by omega, by omega⟩
      · split at h
        · split at h
          · exact q_part_keeps n _ _ _ _ _ _ _ _ _ _ _ h he
          · cases h
        · split at h
          · cases h
          · rename_i v E' w2 hc
            have hk := q_run_keeps _ _ _ _ _ _ _ _ _ _ hc he
            obtain ⟨b1, b2, b3⟩ := q_part_keeps n _ _ _ _ _ _ _ _ _ _ _ h hk.2.1
            have := hk.2.2.2
            exact ⟨b1, by omega, by omega⟩
        · cases h
section QP
variable {p : Program} {l : Launch} {e : Env} {R : Room} {s : State} {m : MethodId} {args : Array Value} {below : List Frame} {meth : Method} {c : Code} {D : va_G} {dA : Nat → ClassId} {A : Nat → Prop} {H0 : Heap} {Q : State → Prop} {mi : Nat} {ov : Option qV} {E' : qE} {w' : qW}
theorem q_part_sound (hmi : mi < 240) (hC : q_Cx p R s m args meth c mi) (hK : va_K D q_cls (q_tys dA) s) (hN : q_Nt s) (hA : ∀ q, H0.size ≤ q → A q) : ∀ (n k : Nat) (loc : qLo) (st : List qV) (E : qE) (w : qW) (k1 : Nat) (l1 : qLo) (s1 : List qV) (E1 : qE) (w1 : qW), q_part n mi k loc st E w = some (k1, l1, s1, E1, w1) → q_e1 E.1 → E1.2.1 ≤ E'.2.1 ∧ E1.2.2 ≤ E'.2.2 → q_Good p l e R s m args below meth c D dA A H0 Q mi ov E' w' (q_pcA mi k1) l1 s1 E1 w1 → q_Good p l e R s m args below meth c D dA A H0 Q mi ov E' w' (q_pcA mi k) loc st E w
  | 0, k, loc, st, E, w, _, _, _, _, _, h, he, h4, hG => by
    unfold q_part at h
    split at h
    · cases h; exact hG
    · cases h
  | n + 1, k, loc, st, E, w, k1, l1, s1, E1, w1, h, he, h4, hG => by
    unfold q_part at h
    split at h
    · cases h
    · rename_i op hk
      obtain ⟨pc, hh, hpc, hck, len, hdg, hlen, hnext⟩ := q_fact_all hmi hk
      have hck2 := q_ck2_at hmi (List.mem_of_getElem? hk)
      rw [q_pcA_of hpc]
      have next : ∀ {l2 s2 E2 w2}, q_part n mi (k + 1) l2 s2 E2 w2 = some (k1, l1, s1, E1, w1) → q_e1 E2.1 → q_Good p l e R s m args below meth c D dA A H0 Q mi ov E' w' (pc + len) l2 s2 E2 w2 := by
        intro l2 s2 E2 w2 hr he2
        have := q_part_sound hmi hC hK hN hA n (k + 1) l2 s2 E2 w2 k1 l1 s1 E1 w1 hr he2 h4 hG
        rw [q_pcA_of (hnext (q_part_in _ _ _ _ _ _ _ _ hr))] at this
        exact this
      split at h
      · rename_i s' E2 w2 hn
        obtain ⟨a1, a2, a5, a3, a4⟩ := q_new_scr hn he
        have hkp := q_part_keeps n _ _ _ _ _ _ _ _ _ _ _ h a2
        exact q_new_sound hC hK hA hdg hlen hck hn ⟨by omega, by omega⟩ (next h a2)
      · refine q_step_sound hC hK hN hA hdg hlen hck hck2 ?_
        split at h
        · rename_i g l' s' w2 hq
          split at h
          · rename_i hg
            rw [hq]
            exact ⟨hg, next h he⟩
          · cases h
        · rename_i a as l' s' w2 hq
          split at h
          · cases h
          · rename_i v E3 w3 hcall
            have hk1 := q_run_keeps _ _ _ _ _ _ _ _ _ _ hcall he
            have hk2 := q_part_keeps n _ _ _ _ _ _ _ _ _ _ _ h hk1.2.1
            have ha : a < 240 := by
              rcases Nat.lt_or_ge a 240 with q | q
              · exact q
              · rw [q_code_big (by omega), q_run_nil] at hcall
                cases hcall
            rw [hq]
            exact ⟨v, E3, w3, ⟨ha, fun hsp hle ad rs sz hV hok => q_met_of (q_sound 4000) ha hsp hle he hcall l D dA ad rs sz hV hok, hk1.2.2.2, ⟨by omega, by omega⟩, hk1.1, hk1.2.2.1⟩, next h hk1.2.1⟩
        · cases h
end QP
/-! the law's beginning: all objects made -/
def q_pl : List (List Nat) := [[], [], [0], [166], [165], [167, 169, 171, 173], [168, 170, 172, 174], [1], [20], [21], [22], [2], [3], [4, 27], [5, 28], [6, 29], [7, 30], [8, 31], [9, 32], [10, 11, 12, 13, 14, 15, 16, 17, 18, 33, 34, 35, 36, 37, 38, 39, 40, 41], [19, 42], [23], [24], [25], [26], [43], [52, 56, 60, 64, 68, 72, 76, 80, 84, 88, 92, 96, 100, 104, 108, 112, 116, 120, 124, 128, 44], [53, 57, 61, 65, 69, 73, 77, 81, 85, 89, 93, 97, 101, 105, 109, 113, 117, 121, 125, 129, 45], [46], [47], [48], [49], [50, 54, 58, 62, 66, 70, 74, 78, 82, 86, 90, 94, 98, 102, 106, 110, 114, 118, 122, 126], [51, 55, 59, 63, 67, 71, 75, 79, 83, 87, 91, 95, 99, 103, 107, 111, 115, 119, 123, 127], [130], [131, 148], [132, 133, 134, 135, 136, 137, 138, 139, 140, 141, 142, 143, 144, 145, 146, 147, 149, 150, 151, 152, 153, 154, 155, 156, 157, 158, 159, 160, 161, 162, 163, 164], [175], [176], [177], [178], [179], [180], [181], [182], [183], [184], [185], [186], [187], [188], [189], [190], [191], [192], [193], [194], [195], [196]]
/-- in which order the objects are made -/
def q_perm (r : qR) : Nat := (q_pl.getD r.1 []).getD r.2 0
def q_permI : List qR := [(t_GC, 0), (t_Re, 0), (t_Ta, 0), (t_bytes, 0), (t_Di, 0), (t_plus, 0), (t_atLeft, 0), (t_atTop, 0), (t_below, 0), (t_paths, 0), (t_pathRow, 0), (t_pathRow, 1), (t_pathRow, 2), (t_pathRow, 3), (t_pathRow, 4), (t_pathRow, 5), (t_pathRow, 6), (t_pathRow, 7), (t_pathRow, 8), (t_minors, 0), (t_sets, 0), (t_begins, 0), (t_reImg, 0), (t_Ce, 0), (t_img, 0), (t_nl, 0), (t_bl, 0), (t_Di, 1), (t_plus, 1), (t_atLeft, 1), (t_atTop, 1), (t_below, 1), (t_paths, 1), (t_pathRow, 9), (t_pathRow, 10), (t_pathRow, 11), (t_pathRow, 12), (t_pathRow, 13), (t_pathRow, 14), (t_pathRow, 15), (t_pathRow, 16), (t_pathRow, 17), (t_minors, 1), (t_inB, 0), (t_Co, 20), (t_coSets, 20), (t_Ne, 0), (t_neImg, 0), (t_Pa, 0), (t_ring, 0), (t_Mo, 0), (t_moImg, 0), (t_Co, 0), (t_coSets, 0), (t_Mo, 1), (t_moImg, 1), (t_Co, 1), (t_coSets, 1), (t_Mo, 2), (t_moImg, 2), (t_Co, 2), (t_coSets, 2), (t_Mo, 3), (t_moImg, 3), (t_Co, 3), (t_coSets, 3), (t_Mo, 4), (t_moImg, 4), (t_Co, 4), (t_coSets, 4), (t_Mo, 5), (t_moImg, 5), (t_Co, 5), (t_coSets, 5), (t_Mo, 6), (t_moImg, 6), (t_Co, 6), (t_coSets, 6), (t_Mo, 7), (t_moImg, 7), (t_Co, 7), (t_coSets, 7), (t_Mo, 8), (t_moImg, 8), (t_Co, 8), (t_coSets, 8), (t_Mo, 9), (t_moImg, 9), (t_Co, 9), (t_coSets, 9), (t_Mo, 10), (t_moImg, 10), (t_Co, 10), (t_coSets, 10), (t_Mo, 11), (t_moImg, 11), (t_Co, 11), (t_coSets, 11), (t_Mo, 12), (t_moImg, 12), (t_Co, 12), (t_coSets, 12), (t_Mo, 13), (t_moImg, 13), (t_Co, 13), (t_coSets, 13), (t_Mo, 14), (t_moImg, 14), (t_Co, 14), (t_coSets, 14), (t_Mo, 15), (t_moImg, 15), (t_Co, 15), (t_coSets, 15), (t_Mo, 16), (t_moImg, 16), (t_Co, 16), (t_coSets, 16), (t_Mo, 17), (t_moImg, 17), (t_Co, 17), (t_coSets, 17), (t_Mo, 18), (t_moImg, 18), (t_Co, 18), (t_coSets, 18), (t_Mo, 19), (t_moImg, 19), (t_Co, 19), (t_coSets, 19), (t_Cs, 0), (t_tab, 0), (t_tabRow, 0), (t_tabRow, 1), (t_tabRow, 2), (t_tabRow, 3), (t_tabRow, 4), (t_tabRow, 5), (t_tabRow, 6), (t_tabRow, 7), (t_tabRow, 8), (t_tabRow, 9), (t_tabRow, 10), (t_tabRow, 11), (t_tabRow, 12), (t_tabRow, 13), (t_tabRow, 14), (t_tabRow, 15), (t_tab, 1), (t_tabRow, 16), (t_tabRow, 17), (t_tabRow, 18), (t_tabRow, 19), (t_tabRow, 20), (t_tabRow, 21), (t_tabRow, 22), (t_tabRow, 23), (t_tabRow, 24), (t_tabRow, 25), (t_tabRow, 26), (t_tabRow, 27), (t_tabRow, 28), (t_tabRow, 29), (t_tabRow, 30), (t_tabRow, 31), (t_shelves, 0), (t_scratch, 0), (t_Sh, 0), (t_shBL, 0), (t_Sh, 1), (t_shBL, 1), (t_Sh, 2), (t_shBL, 2), (t_Sh, 3), (t_shBL, 3), (t_Md, 0), (t_mTape, 0), (t_mWords, 0), (t_mReadF, 0), (t_mPlaces, 0), (t_mReadSet, 0), (t_mBoxes, 0), (t_mF, 0), (t_mNeck, 0), (t_mIsB, 0), (t_mInC, 0), (t_mPartOf, 0), (t_mCome, 0), (t_mMatrix, 0), (t_mWas, 0), (t_mOther, 0), (t_mIsNew, 0), (t_mNewNeck, 0), (t_mTried, 0), (t_mShN, 0), (t_mShF, 0), (t_mItsNeck, 0)]
def q_w00 : qW := (fun _ _ _ => 0, fun _ _ _ => 0, fun _ _ _ => none)
def q_p1 : Option (Nat × qLo × List qV × qE × qW) := q_part 10 0 0 (q_entry 4 [.inr (.inr (1, 0))]) [] (fun _ => none, 0, 0) q_w00
def q_words : List Int := [112, 101, 114, 109, 102, 105, 108, 108, 110, 101, 99, 107]
/-- references, ints of one object or row, as they are due -/
def q_p1r (w : qW) (r : qR) : Bool := match q_env r with
  | some (0, c) => (List.range (q_ft c).length).all (fun b => decide ((q_ft c)[b]? = some 2 → w.2.2 0 (q_perm r) b = (q_R 0 r.1 r.2 b).map (fun x => (0, q_perm x))) && decide ((q_ft c)[b]? = some 0 → w.1 0 (q_perm r) b = 0))
  | some (k, n) => if 5 ≤ k then (List.range n).all (fun b => decide (w.2.2 0 (q_perm r) b = (q_R 0 r.1 r.2 b).map (fun x => (0, q_perm x)))) else if k = 4 then true else (List.range n).all (fun b => decide (w.1 0 (q_perm r) b = if r.1 = t_mWords then q_words.getD b 0 else 0))
  | none => false
def q_p1ok : Bool := match q_p1 with
  | some (k, loc, st, E, w) => decide (k = 10) && (decide (loc = [some (.inr (.inr (1, 0))), some (.inr (.inr (0, q_perm (t_GC, 0)))), some (.inr (.inr (0, q_perm (t_Md, 0)))), some (.inl 0)]) && (decide (st = []) && (decide (E.2.1 = 197) && (decide (E.2.2 = 5573) && q_refs.all (fun r => decide (E.1 (0, q_perm r) = q_env r) && q_p1r w r)))))
  | none => false
theorem q_p1_ok : q_p1ok = true := by decide +kernel
theorem q_perm_ok : (q_refs.all fun r => decide (q_perm r < 197) && decide (q_permI[q_perm r]? = some r)) = true := by decide +kernel
end
section
/-! the law's beginning is walked; from its loop on it is the small machine's, with its own names of the objects -/
def q_p1E : qE := match q_p1 with
  | some (_, _, _, E, _) => E
  | none => (fun _ => none, 0, 0)
def q_p1w : qW := match q_p1 with
  | some (_, _, _, _, w) => w
  | none => q_w00
theorem q_p1_facts : q_p1 = some (10, [some (.inr (.inr (1, 0))), some (.inr (.inr (0, q_perm (t_GC, 0)))), some (.inr (.inr (0, q_perm (t_Md, 0)))), some (.inl 0)], [], q_p1E, q_p1w) ∧ q_p1E.2.1 = 197 ∧ q_p1E.2.2 = 5573 ∧ ∀ r ∈ q_refs, q_p1E.1 (0, q_perm r) = q_env r ∧ q_p1r q_p1w r = true := by
  have h := q_p1_ok
  unfold q_p1ok at h
  unfold q_p1E q_p1w
  cases hq : q_p1 with
  | none => rw [hq] at h; cases h
  | some x =>
    obtain ⟨k, loc, st, E, w⟩ := x
    rw [hq] at h
    simp only [Bool.and_eq_true, decide_eq_true_eq] at h
    obtain ⟨rfl, rfl, rfl, h1, h2, h3⟩ := h
    refine ⟨rfl, h1, h2, fun r hr => ?_⟩
    have := List.all_eq_true.mp h3 r hr
    rw [Bool.and_eq_true, decide_eq_true_eq] at this
    exact this
theorem q_perm_lt {r : qR} (hr : r ∈ q_refs) : q_perm r < 197 ∧ q_permI[q_perm r]? = some r := by
  have := List.all_eq_true.mp q_perm_ok r hr
  rw [Bool.and_eq_true, decide_eq_true_eq, decide_eq_true_eq] at this
  exact this
theorem q_perm_inj {r r' : qR} (hr : r ∈ q_refs) (hr' : r' ∈ q_refs) (h : q_perm r = q_perm r') : r = r' := by
  have h1 := (q_perm_lt hr).2
  rw [h, (q_perm_lt hr').2] at h1
  exact (Option.some.inj h1).symm
/-- the world at the law's loop, for a script -/
def q_ws0 (xs : Nat → Int32) (L : Nat) : qW := (fun t i k => if t = 0 then 0 else if t = 1 then (if i = 0 then (if k < L then (xs k).toInt else 0) else if i = 1 ∧ k = 0 then (L : Int) else 0) else q_p1w.1 0 (q_perm (t, i)) k, fun t i k => if t = 0 then 0 else q_p1w.2.1 0 (q_perm (t, i)) k, q_R 0)
def q_refsok : Bool := q_refs.all (fun r => decide (2 ≤ r.1) && (decide (r.1 < 59) && (match q_env r with
  | some kn => decide ((kn.1 = 0 ∧ kn.2 < 12) ∨ ((kn.1 = 1 ∨ kn.1 = 2 ∨ kn.1 = 3 ∨ kn.1 = 4 ∨ kn.1 = 5 ∨ kn.1 = 6 ∨ kn.1 = 11 ∨ kn.1 = 15) ∧ kn.2 ≤ 1000)) && ((List.range (if 5 ≤ kn.1 then kn.2 else 28)).all (fun k => match q_R 0 r.1 r.2 k with
    | some r' => decide (r' ∈ q_refs)
    | none => true) && decide (kn.1 < 5 → r.1 ≠ t_shelves ∧ r.1 ≠ t_paths ∧ r.1 ≠ t_ring ∧ r.1 ≠ t_tab))
  | none => false)))
theorem q_refs_ok : q_refsok = true := by decide +kernel
theorem q_refs_nd : q_refs.Nodup := by decide +kernel
theorem q_R_hi : ∀ t, t < 59 → t ≠ t_shelves → t ≠ t_paths → t ≠ t_ring → t ≠ t_tab → ∀ i k, q_R 0 t i (k + 28) = none
  | 0, _, _, _, _, _, _, _ => rfl
  | 1, _, _, _, _, _, _, _ => rfl
  | 2, _, _, _, _, _, _, _ => rfl
  | 3, _, _, _, _, _, _, _ => rfl
  | 4, _, h1, h2, h3, h4, _, _ => by first | exact absurd rfl h1 | exact absurd rfl h2 | exact absurd rfl h3 | exact absurd rfl h4
  | 5, _, _, _, _, _, _, _ => rfl
  | 6, _, _, _, _, _, _, _ => rfl
  | 7, _, _, _, _, _, _, _ => rfl
  | 8, _, _, _, _, _, _, _ => rfl
  | 9, _, _, _, _, _, _, _ => rfl
  | 10, _, _, _, _, _, _, _ => rfl
  | 11, _, _, _, _, _, _, _ => rfl
  | 12, _, _, _, _, _, _, _ => rfl
  | 13, _, _, _, _, _, _, _ => rfl
  | 14, _, _, _, _, _, _, _ => rfl
  | 15, _, _, _, _, _, _, _ => rfl
  | 16, _, _, _, _, _, _, _ => rfl
  | 17, _, _, _, _, _, _, _ => rfl
  | 18, _, h1, h2, h3, h4, _, _ => by first | exact absurd rfl h1 | exact absurd rfl h2 | exact absurd rfl h3 | exact absurd rfl h4
  | 19, _, _, _, _, _, _, _ => rfl
  | 20, _, _, _, _, _, _, _ => rfl
  | 21, _, _, _, _, _, _, _ => rfl
  | 22, _, _, _, _, _, _, _ => rfl
  | 23, _, _, _, _, _, _, _ => rfl
  | 24, _, _, _, _, _, _, _ => rfl
  | 25, _, _, _, _, _, _, _ => rfl
  | 26, _, _, _, _, _, _, _ => rfl
  | 27, _, _, _, _, _, _, _ => rfl
  | 28, _, _, _, _, _, _, _ => rfl
  | 29, _, _, _, _, _, _, _ => rfl
  | 30, _, _, _, _, _, _, _ => rfl
  | 31, _, h1, h2, h3, h4, _, _ => by first | exact absurd rfl h1 | exact absurd rfl h2 | exact absurd rfl h3 | exact absurd rfl h4
  | 32, _, _, _, _, _, _, _ => rfl
  | 33, _, _, _, _, _, _, _ => rfl
  | 34, _, _, _, _, _, _, _ => rfl
  | 35, _, h1, h2, h3, h4, _, _ => by first | exact absurd rfl h1 | exact absurd rfl h2 | exact absurd rfl h3 | exact absurd rfl h4
  | 36, _, _, _, _, _, _, _ => rfl
  | 37, _, _, _, _, _, _, _ => rfl
  | 38, _, _, _, _, _, _, _ => rfl
  | 39, _, _, _, _, _, _, _ => rfl
  | 40, _, _, _, _, _, _, _ => rfl
  | 41, _, _, _, _, _, _, _ => rfl
  | 42, _, _, _, _, _, _, _ => rfl
  | 43, _, _, _, _, _, _, _ => rfl
  | 44, _, _, _, _, _, _, _ => rfl
  | 45, _, _, _, _, _, _, _ => rfl
  | 46, _, _, _, _, _, _, _ => rfl
  | 47, _, _, _, _, _, _, _ => rfl
  | 48, _, _, _, _, _, _, _ => rfl
  | 49, _, _, _, _, _, _, _ => rfl
  | 50, _, _, _, _, _, _, _ => rfl
  | 51, _, _, _, _, _, _, _ => rfl
  | 52, _, _, _, _, _, _, _ => rfl
  | 53, _, _, _, _, _, _, _ => rfl
  | 54, _, _, _, _, _, _, _ => rfl
  | 55, _, _, _, _, _, _, _ => rfl
  | 56, _, _, _, _, _, _, _ => rfl
  | 57, _, _, _, _, _, _, _ => rfl
  | 58, _, _, _, _, _, _, _ => rfl
  | n + 59, h, _, _, _, _, _, _ => absurd h (by omega)
theorem q_refs_at {r : qR} (hr : r ∈ q_refs) : 2 ≤ r.1 ∧ ∃ kn, q_env r = some kn ∧ q_kok kn ∧ ∀ k r', q_R 0 r.1 r.2 k = some r' → (5 ≤ kn.1 → k < kn.2) → r' ∈ q_refs := by
  have h := List.all_eq_true.mp q_refs_ok r hr
  simp only [Bool.and_eq_true, decide_eq_true_eq] at h
  obtain ⟨h1, h2, h3⟩ := h
  refine ⟨h1, ?_⟩
  cases he : q_env r with
  | none => rw [he] at h3; cases h3
  | some kn =>
    rw [he] at h3
    simp only [Bool.and_eq_true, decide_eq_true_eq] at h3
    obtain ⟨g1, g2, g3⟩ := h3
    refine ⟨kn, rfl, g1, fun k r' hk h5 => ?_⟩
    by_cases hb : 5 ≤ kn.1
    · have := List.all_eq_true.mp g2 k (List.mem_range.mpr (by rw [if_pos hb]; exact h5 hb))
      rw [hk] at this
      exact of_decide_eq_true this
    · by_cases hk28 : k < 28
      · have := List.all_eq_true.mp g2 k (List.mem_range.mpr (by rw [if_neg hb]; exact hk28))
        rw [hk] at this
        exact of_decide_eq_true this
      · obtain ⟨n1, n2, n3, n4⟩ := g3 (by omega)
        have := q_R_hi r.1 h2 n1 n2 n3 n4 r.2 (k - 28)
        rw [show k - 28 + 28 = k by omega, hk] at this
        cases this
theorem q_V_s {xs : Nat → Int32} {L : Nat} (hL : L ≤ 3072) (hc : ∀ t i k, q_can (q_p1w.1 t i k)) : q_V q_refs (q_env, 0, 0) (q_ws0 xs L) := by
  refine ⟨fun r hr => ?_, fun t i k => ?_, fun r hr kn he k r' hk h5 => ?_, fun j hj => ?_, fun j _ k => ⟨rfl, rfl, rfl⟩, fun kn he => ?_, fun i hi => ?_, fun j hj => absurd hj (Nat.not_lt_zero _)⟩
  · obtain ⟨-, kn, h1, h2, -⟩ := q_refs_at hr
    exact ⟨kn, h1, h2⟩
  · unfold q_ws0
    dsimp only
    split
    · exact q_can_0
    · split
      · split
        · split
          · exact q_can_i _
          · exact q_can_0
        · split
          · exact q_can_iff.mpr ⟨by omega, by omega⟩
          · exact q_can_0
      · exact hc _ _ _
  · obtain ⟨-, kn', h1, h2, h3⟩ := q_refs_at hr
    dsimp only at he
    rw [he] at h1
    cases h1
    exact h3 k r' hk h5
  · have := (q_refs_at hj).1
    dsimp only at this
    omega
  · have : q_env (1, 0) = some (99, 0) := rfl
    dsimp only at he
    rw [this] at he
    cases he
    rfl
  · have := (q_refs_at hi).1
    dsimp only at this
    omega
def q_ads (ad : qR → Nat) (b : Nat) (r : qR) : Nat := if r.1 = 1 then b else ad (0, q_perm r)
theorem q_cell_s {dA : Nat → ClassId} {xs : Nat → Int32} {L b : Nat} {ad : qR → Nat} {r : qR} (hr : r ∈ q_refs) : q_cell dA q_env (q_ws0 xs L) (q_ads ad b) r = q_cell dA q_p1E.1 q_p1w ad (0, q_perm r) := by
  obtain ⟨-, -, -, hf⟩ := q_p1_facts
  obtain ⟨f1, f2⟩ := hf r hr
  obtain ⟨h2, kn, he, hok, hcl⟩ := q_refs_at hr
  have hn0 : r.1 ≠ 0 := by omega
  have hn1 : r.1 ≠ 1 := by omega
  have e1 : ∀ j, (q_ws0 xs L).1 r.1 r.2 j = q_p1w.1 0 (q_perm r) j := fun j => by
    unfold q_ws0
    dsimp only
    rw [if_neg hn0, if_neg hn1]
  have e2 : ∀ j, (q_ws0 xs L).2.1 r.1 r.2 j = q_p1w.2.1 0 (q_perm r) j := fun j => by
    unfold q_ws0
    dsimp only
    rw [if_neg hn0]
  have e3 : (q_ws0 xs L).2.2 = q_R 0 := rfl
  have eR : ∀ (o : Option qR), (∀ x, o = some x → x ∈ q_refs) → o.map (q_ads ad b) = (o.map (fun x => (0, q_perm x))).map ad := fun o ho => by
    cases o with
    | none => rfl
    | some x =>
      have := (q_refs_at (ho x rfl)).1
      simp only [Option.map_some]
      unfold q_ads
      rw [if_neg (by omega)]
  obtain ⟨kk, n⟩ := kn
  unfold q_p1r at f2
  rw [he] at f2 f1
  unfold q_cell
  rw [f1, he]
  dsimp only
  by_cases h0 : kk = 0
  · subst h0
    rw [if_pos rfl, if_pos rfl]
    refine congrArg (fun z => (Sum.inr (n, z) : va_E)) ?_
    unfold q_flds
    refine List.map_congr_left fun x hx => ?_
    have hx2 : (q_ft n)[x.2]? = some x.1 := by
      have := List.mem_zipIdx_iff_getElem?.mp (show (x.1, x.2) ∈ (q_ft n).zipIdx from hx)
      exact this
    have hlt : x.2 < (q_ft n).length := (List.getElem?_eq_some_iff.mp hx2).1
    have f3 := List.all_eq_true.mp f2 x.2 (List.mem_range.mpr hlt)
    rw [Bool.and_eq_true, decide_eq_true_eq, decide_eq_true_eq] at f3
    unfold q_fv
    split
    · rw [e1]
    · rename_i hne
      have hx12 : x.1 = 2 := by
        have hci : n < 12 := by
          rcases hok with z | z
          · exact z.2
          · dsimp only at z; omega
        obtain ⟨⟨C, T, N⟩, hq⟩ : ∃ q, q_cls[n]? = some q := ⟨_, List.getElem?_eq_getElem (by show n < 12; exact hci)⟩
        exact q_ft_02 hq (by rw [← (q_cls_ok n C T N hq).1]; exact hlt) hx2 hne
      rw [e3, f3.1 (by rw [hx2, hx12]), eR _ (fun y hy => hcl x.2 y hy (fun z => by dsimp only at z; omega))]
  · rw [if_neg h0, if_neg h0]
    by_cases h3 : kk ≤ 3
    · rw [if_pos h3, if_pos h3]
      simp only [e1]
    · rw [if_neg h3, if_neg h3]
      by_cases h4 : kk = 4
      · rw [if_pos h4, if_pos h4]
        simp only [e2]
      · rw [if_neg h4, if_neg h4]
        refine congrArg (fun z => (Sum.inl (dA kk, n, Sum.inr (Sum.inr (Sum.inr (Sum.inr z)))) : va_E)) (funext fun j => ?_)
        by_cases hj : j < n
        · rw [if_pos hj, if_pos hj, e3, eR _ (fun y hy => hcl j y hy (fun _ => hj))]
          have f3 : (List.range n).all (fun b => decide (q_p1w.2.2 0 (q_perm r) b = (q_R 0 r.1 r.2 b).map (fun x => (0, q_perm x)))) = true := by
            split at f2
            · rename_i z; cases z; exact absurd rfl h0
            · rename_i k9 n9 z9 _ z; cases z; rw [if_pos (by omega)] at f2; exact f2
            · cases f2
          rw [of_decide_eq_true (List.all_eq_true.mp f3 j (List.mem_range.mpr hj))]
        · rw [if_neg hj, if_neg hj]
end
section
/-! begun with kit/laws/SKELETON.whole; the law from its entry, out of its loop in the small machine -/
def R_law : String := "GrassCellsLaw"
def lw_P (b : Addr) (xs : List Int32) (args : Array Value) (s : State) : Prop := args = #[.ref b] ∧ s.IntsAt b xs ∧ xs.length ≤ 3072 ∧ (Jvm.Cond.and given_1 narrow_1).before args s = true
def lw_Q (_ : Array Value) (s : State) (o : Outcome) (t : State) : Prop := o = .returned (some (.int 1)) ∧ Framed s o t [] 600000 7302250
def lw_Z (below : List Frame) (a : Array Value) (s : State) : State → Prop := fun t => ∃ o, t.status = .running ∧ Ended t below o ∧ lw_Q a s o t
/-- the law's own end, with 1 on the stack, nothing written that was there before, its room as the claim has it -/
theorem lw_ret {p : Program} {l : Launch} {e : Env} {s : State} {m : MethodId} {below : List Frame} {meth : Method} {c : Code} {b : Nat} (hx : p.tables.exec = Jvm.exec) (hb : c.code = code) (hr : meth.sig.returnType = ret) (hlocks : meth.locks = false) {pc : Nat} {H : Heap} {ls : Array Slot} (hdg : decode code pc = .ok (.ireturn, 1)) : W p l e room_1 s m #[Value.ref b] below meth c H [] 600000 7302250 (lw_Z below #[Value.ref b] s) (F0 m pc ls [.int 1]) := by
  intro T hT X
  obtain ⟨fs, hret, hrun, hended, hW, hframe⟩ := X.leave (v := some (.int 1)) (hlocks := hlocks) (fun h => by rw [hr] at h; cases h)
  have hmeth' : T.vm.method? m = some meth := X.method'
  refine ⟨T.setFrames fs, ?_, .returned (some (.int 1)), hrun, hended, rfl, ⟨_, rfl⟩, hW, hframe⟩
  jvm_step X.here [X.here.top, hx, hb, hdg, hmeth', hr, ret, narrow_b1]
  (try refine ⟨rfl, ?_⟩); (try refine ⟨rfl, ?_⟩)
  first | (intro acts; rw [hret _ acts rfl rfl rfl]) | rw [hret _ _ rfl rfl rfl]
  exact Steps.refl _
/-- what holds at the law's entry: the machine, the code, the tables' words (any of lw_tbl by 'hts w (by decide +kernel)'), the script of L ints xs at the cell b, what the Statement gives of the start (any of its parts by flat_of_before) -/
def lw_At (p : Program) (s : State) (m : MethodId) (meth : Method) (c : Code) (b L : Nat) (xs : Nat → Int32) : Prop :=
  p.tables.exec = Jvm.exec ∧ c.code = code ∧ meth.sig.returnType = ret ∧ c.maxLocals = 4 ∧ s.vm.findClass R_law = some m.cls ∧ (∀ w ∈ lw_tbl, w.before #[Value.ref b] s = true) ∧ va_X b L xs s s.heap ∧ b < s.heap.size ∧ meth.locks = false ∧ (Jvm.Cond.and given_1 narrow_1).before #[Value.ref b] s = true

/-- what is due of the small machine: from its loop on the law answers 1 -/
def q_Goal : Prop := ∀ (xs : Nat → Int32) (L : Nat), L ≤ 3072 → ∃ w', q_Ev m_Law_law 10 [some (.inr (.inr (1, 0))), some (.inr (.inr (t_GC, 0))), some (.inr (.inr (t_Md, 0))), some (.inl 0)] [] (q_ws0 xs L) (some (.inl 1), w')
theorem q_arr1 {s : State} {A : Array Value} {ty : FieldType} (hty : ∀ C, ty ≠ .object C) (h : (Cond.arrayClass ty).before A s = true) : ∃ cA, ArrOfT s cA ty ∧ va_RA s cA ty := by
  obtain ⟨cA, kA, comp, h1, h2, h3⟩ := Cond.arrayClass_spec h
  refine ⟨cA, fun n z => ⟨fun k h => (by cases h), kA, h2, comp, h3⟩, ?_⟩
  cases ty with
  | object C => exact absurd rfl (hty C)
  | _ => exact h1
theorem q_arr2 {s : State} {t : FieldType} (h : (Cond.arrayOver (.array t)).before #[] s = true) : ∃ cA, ArrOfT s cA (.array t) ∧ va_RA s cA (.array t) := by
  obtain ⟨comp, c, k, h1, h2, h3, h4, h5⟩ := q_AO_spec h
  exact ⟨c, fun n z => ⟨fun k h => (by cases h), k, h3, comp, h4⟩, h5⟩
theorem q_arr3 {s : State} {C : String} (h : (Cond.arrayOver (.object C)).before #[] s = true) : ∃ cA, ArrOfT s cA (.object C) ∧ va_RA s cA (.object C) := by
  obtain ⟨comp, c, k, h1, h2, h3, h4, h5⟩ := Cond.arrayOver_spec h
  exact ⟨c, fun n z => ⟨fun k h => (by cases h), k, h3, comp, h4⟩, k, comp, h3, h4, h1, h5⟩
theorem q_K_all {s : State} {A : Array Value} (hts : ∀ w ∈ lw_tbl, w.before A s = true) : ∃ (D : va_G) (dA : Nat → ClassId), va_K D q_cls (q_tys dA) s := by
  have hi : ∀ {w : Cond} (i : Nat), q_at i w = true → w.before A s = true := fun i h => hts _ (q_at_mem h)
  have H : ∀ ci : Nat, ∃ (cC : ClassId) (iS : Nat → Nat), ∀ q, q_cls[ci]? = some q → u_Kn s q.1 q.2.1 q.2.2 cC iS := by
    intro ci
    by_cases hlt : ci < 12
    · have hz : ci = 0 ∨ ci = 1 ∨ ci = 2 ∨ ci = 3 ∨ ci = 4 ∨ ci = 5 ∨ ci = 6 ∨ ci = 7 ∨ ci = 8 ∨ ci = 9 ∨ ci = 10 ∨ ci = 11 := by omega
      rcases hz with rfl | rfl | rfl | rfl | rfl | rfl | rfl | rfl | rfl | rfl | rfl | rfl
      · obtain ⟨cC, iS, h⟩ := u_known (C := RX0) (T := TX0) (N := 9) (n := 9) hts iX0 (hi 1112 (by decide +kernel)); exact ⟨cC, iS, fun q hq => by cases hq; exact h⟩
      · obtain ⟨cC, iS, h⟩ := u_known (C := RX1) (T := TX1) (N := 2) (n := 2) hts iX1 (hi 2003 (by decide +kernel)); exact ⟨cC, iS, fun q hq => by cases hq; exact h⟩
      · obtain ⟨cC, iS, h⟩ := u_known (C := RX2) (T := TX2) (N := 2) (n := 2) hts iX2 (hi 1173 (by decide +kernel)); exact ⟨cC, iS, fun q hq => by cases hq; exact h⟩
      · obtain ⟨cC, iS, h⟩ := u_known (C := RX3) (T := TX3) (N := 8) (n := 8) hts iX3 (hi 1049 (by decide +kernel)); exact ⟨cC, iS, fun q hq => by cases hq; exact h⟩
      · obtain ⟨cC, iS, h⟩ := u_known (C := RX4) (T := TX4) (N := 3) (n := 3) hts iX4 (hi 1209 (by decide +kernel)); exact ⟨cC, iS, fun q hq => by cases hq; exact h⟩
      · obtain ⟨cC, iS, h⟩ := u_known (C := RX5) (T := TX5) (N := 2) (n := 2) hts iX5 (hi 1188 (by decide +kernel)); exact ⟨cC, iS, fun q hq => by cases hq; exact h⟩
      · obtain ⟨cC, iS, h⟩ := u_known (C := RX6) (T := TX6) (N := 3) (n := 3) hts iX6 (hi 1202 (by decide +kernel)); exact ⟨cC, iS, fun q hq => by cases hq; exact h⟩
      · obtain ⟨cC, iS, h⟩ := u_known (C := RX7) (T := TX7) (N := 8) (n := 8) hts iX7 (hi 1027 (by decide +kernel)); exact ⟨cC, iS, fun q hq => by cases hq; exact h⟩
      · obtain ⟨cC, iS, h⟩ := u_known (C := RX9) (T := TX9) (N := 4) (n := 4) hts iX9 (hi 2019 (by decide +kernel)); exact ⟨cC, iS, fun q hq => by cases hq; exact h⟩
      · obtain ⟨cC, iS, h⟩ := u_known (C := RX10) (T := TX10) (N := 2) (n := 2) hts iX10 (hi 1033 (by decide +kernel)); exact ⟨cC, iS, fun q hq => by cases hq; exact h⟩
      · obtain ⟨cC, iS, h⟩ := u_known (C := RX11) (T := TX11) (N := 8) (n := 8) hts iX11 (hi 1019 (by decide +kernel)); exact ⟨cC, iS, fun q hq => by cases hq; exact h⟩
      · obtain ⟨cC, iS, h⟩ := u_known (C := RX12) (T := TX12) (N := 28) (n := 28) hts iX12 (hi 4095 (by decide +kernel)); exact ⟨cC, iS, fun q hq => by cases hq; exact h⟩
    · refine ⟨0, fun _ => 0, fun q hq => ?_⟩
      rw [List.getElem?_eq_none (by show 12 ≤ ci; omega)] at hq
      cases hq
  have HA : ∀ k : Nat, ∃ cA : ClassId, (k = 1 ∨ k = 2 ∨ k = 3 ∨ k = 4 ∨ k = 5 ∨ k = 6 ∨ k = 11 ∨ k = 15) → ArrOfT s cA (q_kty k) ∧ va_RA s cA (q_kty k) := by
    intro k
    by_cases hk : k = 1 ∨ k = 2 ∨ k = 3 ∨ k = 4 ∨ k = 5 ∨ k = 6 ∨ k = 11 ∨ k = 15
    · rcases hk with rfl | rfl | rfl | rfl | rfl | rfl | rfl | rfl
      · obtain ⟨cA, h⟩ := q_arr1 (ty := .int) (fun _ => by simp) (hi 1047 (by decide +kernel)); exact ⟨cA, fun _ => h⟩
      · obtain ⟨cA, h⟩ := q_arr1 (ty := .byte) (fun _ => by simp) (hi 4185 (by decide +kernel)); exact ⟨cA, fun _ => h⟩
      · obtain ⟨cA, h⟩ := q_arr1 (ty := .boolean) (fun _ => by simp) (hi 1171 (by decide +kernel)); exact ⟨cA, fun _ => h⟩
      · obtain ⟨cA, h⟩ := q_arr1 (ty := .long) (fun _ => by simp) (hi 1082 (by decide +kernel)); exact ⟨cA, fun _ => h⟩
      · obtain ⟨cA, h⟩ := q_arr2 (t := .int) (hi (w := .arrayOver (.array .int)) 2009 (by decide +kernel)); exact ⟨cA, fun _ => h⟩
      · obtain ⟨cA, h⟩ := q_arr2 (t := .long) (hi (w := .arrayOver (.array .long)) 1055 (by decide +kernel)); exact ⟨cA, fun _ => h⟩
      · obtain ⟨cA, h⟩ := q_arr3 (C := "GrassCells$Moment") (hi (w := .arrayOver (.object "GrassCells$Moment")) 1208 (by decide +kernel)); exact ⟨cA, fun _ => h⟩
      · obtain ⟨cA, h⟩ := q_arr3 (C := "GrassCells$Shelf") (hi (w := .arrayOver (.object "GrassCells$Shelf")) 2018 (by decide +kernel)); exact ⟨cA, fun _ => h⟩
    · exact ⟨0, fun z => absurd z hk⟩
  refine ⟨(fun ci => (H ci).choose, fun ci => (H ci).choose_spec.choose), fun k => (HA k).choose, fun ci q hq => (H ci).choose_spec.choose_spec q hq, fun k q hq => ?_⟩
  have hz : ∀ kk : Nat, (kk = 1 ∨ kk = 2 ∨ kk = 3 ∨ kk = 4 ∨ kk = 5 ∨ kk = 6 ∨ kk = 11 ∨ kk = 15) → ArrOfT s ((HA kk).choose) (q_kty kk) ∧ va_RA s ((HA kk).choose) (q_kty kk) := fun kk h => (HA kk).choose_spec h
  match k, hq with
  | 0, hq => cases hq; exact hz 1 (by simp)
  | 1, hq => cases hq; exact hz 2 (by simp)
  | 2, hq => cases hq; exact hz 3 (by simp)
  | 3, hq => cases hq; exact hz 4 (by simp)
  | 4, hq => cases hq; exact hz 5 (by simp)
  | 5, hq => cases hq; exact hz 6 (by simp)
  | 6, hq => cases hq; exact hz 11 (by simp)
  | 7, hq => cases hq; exact hz 15 (by simp)
  | k + 8, hq => simp [q_tys] at hq
set_option maxRecDepth 100000 in
theorem q_law_start (hGoal : q_Goal) {p : Program} {e : Env} {s : State} {m : MethodId} {below : List Frame} {meth : Method} {c : Code} (l : Launch) (hflags : l.flags = flags0) {b L : Nat} {xs : Nat → Int32} (hL : L ≤ 3072) (C0 : lw_At p s m meth c b L xs) : W p l e room_1 s m #[Value.ref b] below meth c s.heap [] 0 0 (lw_Z below #[Value.ref b] s) (entryFrame m ([Value.ref b] : List Value).toArray 4) := by
  obtain ⟨hx, hb, hr, hml, hown, hts, hX, hbl, hlocks, hgv⟩ := id C0
  obtain ⟨D, dA, hK⟩ := q_K_all hts
  have hA : ∀ q : Nat, s.heap.size ≤ q → (fun q : Nat => s.heap.size ≤ q) q := fun _ h => h
  have hbA : ¬ (fun q : Nat => s.heap.size ≤ q) b := Nat.not_le.mpr hbl
  have hN : q_Nt s := q_Nt_of (fun w hw => hts w (List.mem_filter.mp hw).1)
  have hC : q_Cx p room_1 s m #[Value.ref b] meth c 0 := ⟨hx, hb, hml, hown, fun w hw => by
    rcases List.mem_append.mp hw with z | z
    · exact hts w (List.mem_filter.mp z).1
    · exact hts w (List.mem_filter.mp z).1, fun z => absurd z (by decide), by decide, by decide⟩
  obtain ⟨f1, f2, f3, f4⟩ := q_p1_facts
  have he0 : q_e1 (fun _ => none : qR → Option (Nat × Nat)) := fun _ _ h => by cases h
  -- the law's end
  have fin : ∀ (H : Heap) (locs : List Loc) (ls : Array Slot) (cells slots pc : Nat), va_S (fun q : Nat => s.heap.size ≤ q) s.heap H locs → cells ≤ 600000 → slots ≤ 7302250 → decode code pc = .ok (.ireturn, 1) → W p l e room_1 s m #[Value.ref b] below meth c H locs cells slots (lw_Z below #[Value.ref b] s) (F0 m pc ls [.int 1]) := by
    intro H locs ls cells slots pc hS h1 h2 hdg
    refine va_forget (fun q hq => hS.2.2 q hq) ?_
    refine W.widen (k := 600000) (n := 7302250) h1 h2 ?_
    exact lw_ret hx hb hr hlocks hdg
  -- from the loop on, in the static names
  have hloop : q_Good p l e room_1 s m #[Value.ref b] below meth c D dA (fun q : Nat => s.heap.size ≤ q) s.heap (lw_Z below #[Value.ref b] s) 0 none q_p1E q_p1w (q_pcA 0 10) [some (.inr (.inr (1, 0))), some (.inr (.inr (0, q_perm (t_GC, 0)))), some (.inr (.inr (0, q_perm (t_Md, 0)))), some (.inl 0)] [] q_p1E q_p1w := by
    intro ad rs H locs ls cells slots hSt hLk hs hSc h1 h2 h3 hKK
    obtain ⟨hV, hP, hD, hS⟩ := hSt
    obtain ⟨b9, L9, xs9, hX9, hbl9, hbA9, had9, hL9, -⟩ := hSc rfl
    obtain ⟨w', N, hrun⟩ := hGoal xs9 L9 hL9
    have hr0 := hrun N (Nat.le_refl _) (0, 0)
    have hin : ∀ r ∈ q_refs, (0, q_perm r) ∈ rs := fun r hr => hV.2.2.2.2.2.2.2 _ (by rw [f2]; exact (q_perm_lt hr).1)
    have hads1 : q_ads ad (ad (1, 0)) (1, 0) = ad (1, 0) := rfl
    have hads : ∀ r ∈ q_refs, q_ads ad (ad (1, 0)) r = ad (0, q_perm r) := fun r hr => by
      have := (q_refs_at hr).1
      unfold q_ads
      rw [if_neg (by omega)]
    have hat : ∀ r ∈ q_refs, ∃ i : Nat, rs[i]? = some (0, q_perm r) ∧ (q_ws dA q_p1E.1 q_p1w ad rs)[i]? = some (ad (0, q_perm r), q_cell dA q_p1E.1 q_p1w ad (0, q_perm r)) := fun r hr => q_ws_at (hin r hr)
    have hws : ∀ (k : Nat) (q : Nat × va_E), (q_ws dA q_env (q_ws0 xs9 L9) (q_ads ad (ad (1, 0))) q_refs)[k]? = some q → ∃ r, q_refs[k]? = some r ∧ r ∈ q_refs ∧ q = (ad (0, q_perm r), q_cell dA q_p1E.1 q_p1w ad (0, q_perm r)) := by
      intro k q hq
      unfold q_ws at hq
      rw [List.getElem?_map] at hq
      cases hr : q_refs[k]? with
      | none => rw [hr] at hq; cases hq
      | some r =>
        rw [hr] at hq
        have hm := List.mem_of_getElem? hr
        refine ⟨r, rfl, hm, ?_⟩
        simp only [Option.map_some, Option.some.injEq] at hq
        rw [← hq, hads r hm, q_cell_s hm]
    have hP2 : va_P D q_cls (q_ws dA q_env (q_ws0 xs9 L9) (q_ads ad (ad (1, 0))) q_refs) H := by
      intro k q hq
      obtain ⟨r, -, hm, rfl⟩ := hws k q hq
      obtain ⟨i, -, hi⟩ := hat r hm
      exact hP i _ hi
    have hD2 : va_D (fun q : Nat => s.heap.size ≤ q) (q_ws dA q_env (q_ws0 xs9 L9) (q_ads ad (ad (1, 0))) q_refs) := by
      refine ⟨fun i j x y hi hj hxy => ?_, fun k q hq => ?_⟩
      · obtain ⟨r, hr, hm, rfl⟩ := hws i x hi
        obtain ⟨r', hr', hm', rfl⟩ := hws j y hj
        obtain ⟨i1, g1, g2⟩ := hat r hm
        obtain ⟨i2, g3, g4⟩ := hat r' hm'
        have e1 := hD.1 i1 i2 _ _ g2 g4 hxy
        rw [e1, g3] at g1
        have e2 : q_perm r = q_perm r' := by
          have := Option.some.inj g1
          simp only [Prod.mk.injEq, true_and] at this
          exact this.symm
        have e3 := q_perm_inj hm hm' e2
        subst e3
        have h9 := (List.getElem?_eq_some_iff.mp hr)
        have h8 := (List.getElem?_eq_some_iff.mp hr')
        have hne := List.pairwise_iff_getElem.mp q_refs_nd
        rcases Nat.lt_trichotomy i j with z | z | z
        · exact absurd (h9.2.trans h8.2.symm) (hne i j h9.1 h8.1 z)
        · exact z
        · exact absurd (h8.2.trans h9.2.symm) (hne j i h8.1 h9.1 z)
      · obtain ⟨r, -, hm, rfl⟩ := hws k q hq
        obtain ⟨i, -, hi⟩ := hat r hm
        exact hD.2 i _ hi
    have hlx := hLk.2.2.2
    have hL2 : q_Lk (q_ads ad (ad (1, 0))) q_refs [some (.inr (.inr (1, 0))), some (.inr (.inr (t_GC, 0))), some (.inr (.inr (t_Md, 0))), some (.inl 0)] ls (q_ml 0) := by
      refine ⟨hLk.1, hLk.2.1, hLk.2.2.1, fun i v hi => ?_⟩
      have hGC : (t_GC, 0) ∈ q_refs := by decide +kernel
      have hMd : (t_Md, 0) ∈ q_refs := by decide +kernel
      match i, hi with
      | 0, hi => cases hi; exact ⟨Or.inr rfl, (hlx 0 _ rfl).2⟩
      | 1, hi => cases hi; exact ⟨Or.inl hGC, (hlx 1 _ rfl).2⟩
      | 2, hi => cases hi; exact ⟨Or.inl hMd, (hlx 2 _ rfl).2⟩
      | 3, hi => cases hi; exact ⟨q_can_0, (hlx 3 _ rfl).2⟩
      | i + 4, hi => simp at hi
    have hscr : q_Sc 0 s (fun q : Nat => s.heap.size ≤ q) s.heap (q_ads ad (ad (1, 0))) q_env (q_ws0 xs9 L9) := by
      refine fun _ => ⟨b9, L9, xs9, hX9, hbl9, hbA9, had9, hL9, fun _ => ⟨fun k hk => ?_, rfl⟩⟩
      unfold q_ws0
      dsimp only
      rw [if_neg (by decide), if_pos rfl, if_pos rfl, if_pos hk]
    have hE1 : q_e1 q_env := fun i kn h => by
      have : q_env (1, i) = some (99, 0) := rfl
      rw [this] at h
      cases h
      rfl
    have hgo := q_sound N 0 10 _ _ (q_env, 0, 0) _ _ _ _ (by decide) hE1 hr0 (p := p) (l := l) (e := e) (below := below) (Q := lw_Z below #[Value.ref b] s) hC hK hN hA
    have hst : List.map (q_m ad) [] = List.map (q_m (q_ads ad (ad (1, 0)))) [] := rfl
    rw [hst]
    refine hgo (q_ads ad (ad (1, 0))) q_refs H locs ls cells slots ⟨q_V_s hL9 hV.2.1, hP2, hD2, hS⟩ hL2 (fun v hv => by cases hv) hscr (by show cells + (0 - 0) ≤ _; omega) (by show slots + (0 - 0) ≤ _; omega) ⟨Nat.le_refl _, Nat.le_refl _⟩ ?_
    intro ad' rs' H' locs' ls' pc' c1 c2 c3 c4
    exact fin H' locs' ls' _ _ pc' c1.2.2.2 (by show cells + (0 - 0) ≤ _; have h9 : cells + (q_p1E.2.1 - q_p1E.2.1) ≤ 600000 := h1; omega) (by show slots + (0 - 0) ≤ _; have h9 : slots + (q_p1E.2.2 - q_p1E.2.2) ≤ 7302250 := h2; omega) c4.1
  have hgo := q_part_sound (l := l) (e := e) (below := below) (Q := lw_Z below #[Value.ref b] s) (mi := 0) (by decide) hC hK hN hA 10 0 _ _ _ _ _ _ _ _ _ f1 he0 ⟨Nat.le_refl _, Nat.le_refl _⟩ hloop
  have hpc : q_pcA 0 0 = 0 := by unfold q_pcA; rw [List.getD_eq_getElem?_getD, q_pc0 0 (by decide)]; rfl
  rw [hpc] at hgo
  rw [lg_entry_eq]
  refine hgo (fun _ => b) [] s.heap [] _ 0 0 ⟨?_, fun k q hq => by simp [q_ws] at hq, ⟨fun i j x y hi _ _ => by simp [q_ws] at hi, fun k q hq => by simp [q_ws] at hq⟩, va_S.rf⟩ (q_Lk_entry (by decide) (fun v hv => by rw [List.mem_singleton.mp hv]; exact Or.inr rfl)) (fun v hv => by cases hv) (fun _ => ⟨b, L, xs, hX, hbl, hbA, rfl, hL, fun z => absurd rfl z⟩) (by rw [f2]; decide) (by rw [f3]; decide) ⟨by rw [f2]; decide, by rw [f3]; decide⟩ ?_
  · exact ⟨fun r hr => (by cases hr), fun _ _ _ => q_can_0, fun r hr => (by cases hr), fun j hj => (by cases hj), fun _ _ _ => ⟨rfl, rfl, rfl⟩, fun kn h => (by cases h), fun i hi => (by cases hi), fun j hj => absurd hj (Nat.not_lt_zero _)⟩
  · intro ad' rs' H' locs' ls' pc' c1 c2 c3 c4
    exact absurd c4.2 (by decide)
end
section
/-! locals that nobody reads may be forgotten; the walk with stops -/
def q_sub (l l' : qLo) : Prop := l.length = l'.length ∧ ∀ (i : Nat) (v : qV), l[i]? = some (some v) → l'[i]? = some (some v)
theorem q_sub_set {l l' : qLo} (h : q_sub l l') (k : Nat) (v : Option qV) : q_sub (l.set k v) (l'.set k v) := by
  refine ⟨by rw [List.length_set, List.length_set]; exact h.1, fun i u hi => ?_⟩
  by_cases hk : k = i
  · subst hk
    by_cases hl : k < l.length
    · rw [List.getElem?_set_self hl] at hi
      rw [List.getElem?_set_self (by rw [← h.1]; exact hl)]
      exact hi
    · rw [List.getElem?_eq_none (by rw [List.length_set]; omega)] at hi
      cases hi
  · rw [List.getElem?_set_ne hk] at hi
    rw [List.getElem?_set_ne hk]
    exact h.2 i u hi
theorem q_sub_clr {l l' : qLo} (h : q_sub l l') (k : Nat) (v : Option qV) : q_sub ((q_clr l k).set k v) ((q_clr l' k).set k v) := by
  refine q_sub_set ⟨by rw [q_clr_len, q_clr_len]; exact h.1, fun i u hi => ?_⟩ k v
  obtain ⟨h1, h2⟩ := q_clr_at hi
  have h3 := h.2 i u h1
  unfold q_clr
  split
  · exact h3
  · rename_i j
    split
    · rename_i y hy
      by_cases hj : j = i
      · subst hj
        rw [h3] at hy
        cases hy
        exact absurd ⟨rfl, rfl⟩ h2
      · rw [List.getElem?_set_ne hj]
        exact h3
    · exact h3
/-- two steps that differ in what is known of the locals alone -/
def q_actS (a b : qA) : Prop := match a with
  | none => True
  | some (.inl (g, l, s, w)) => ∃ l2, b = some (.inl (g, l2, s, w)) ∧ q_sub l l2
  | some (.inr (.inl (t, l, s, w))) => ∃ l2, b = some (.inr (.inl (t, l2, s, w))) ∧ q_sub l l2
  | some (.inr (.inr (.inl (o, x, y, t, l, s, w)))) => ∃ l2, b = some (.inr (.inr (.inl (o, x, y, t, l2, s, w)))) ∧ q_sub l l2
  | some (.inr (.inr (.inr (.inl (x, ts, d, l, s, w))))) => ∃ l2, b = some (.inr (.inr (.inr (.inl (x, ts, d, l2, s, w))))) ∧ q_sub l l2
  | some (.inr (.inr (.inr (.inr (.inl (m, as, l, s, w)))))) => ∃ l2, b = some (.inr (.inr (.inr (.inr (.inl (m, as, l2, s, w)))))) ∧ q_sub l l2
  | some (.inr (.inr (.inr (.inr (.inr (g, v, w)))))) => b = some (.inr (.inr (.inr (.inr (.inr (g, v, w))))))
theorem q_step_sub {mi : Nat} {op : qI} {loc loc' : qLo} {st : List qV} {env : qR → Option (Nat × Nat)} {w : qW} (h : q_sub loc loc') : q_actS (q_step mi op loc st env w) (q_step mi op loc' st env w) := by
  obtain ⟨i, a, b, c, z, ts⟩ := op
  have ld : ∀ (k : Nat) (g : qV → Bool), q_actS (q_ld loc k st w g) (q_ld loc' k st w g) := fun k g => by
    unfold q_ld
    split
    · rename_i v hv
      rw [h.2 k v hv]
      dsimp only
      split
      · exact ⟨_, rfl, h⟩
      · trivial
    · trivial
  have s1 : ∀ (k : Nat) (g : qV → Bool), q_actS (q_st1 loc k st w g) (q_st1 loc' k st w g) := fun k g => by
    unfold q_st1
    rw [h.1]
    split
    · split
      · exact ⟨_, rfl, q_sub_clr h _ _⟩
      · trivial
    · trivial
  have s2 : ∀ (k : Nat), q_actS (q_st2 loc k st w) (q_st2 loc' k st w) := fun k => by
    unfold q_st2
    rw [h.1]
    split
    · split
      · exact ⟨_, rfl, q_sub_set (q_sub_clr h _ _) _ _⟩
      · trivial
    · trivial
  have ic : ∀ (k : Nat) (n : Int), q_actS (q_inc loc k n st w) (q_inc loc' k n st w) := fun k n => by
    unfold q_inc
    split
    · rename_i x hx
      rw [h.2 k _ hx]
      exact ⟨_, rfl, q_sub_set h _ _⟩
    · trivial
  cases i
  case iload k => exact ld _ _
  case iload_n k => exact ld _ _
  case lload k => exact ld _ _
  case lload_n k => exact ld _ _
  case aload k => exact ld _ _
  case aload_n k => exact ld _ _
  case istore k => exact s1 _ _
  case istore_n k => exact s1 _ _
  case astore k => exact s1 _ _
  case astore_n k => exact s1 _ _
  case lstore k => exact s2 _
  case lstore_n k => exact s2 _
  case iinc k n => exact ic _ _
  all_goals first | trivial | exact ⟨_, rfl, h⟩ | skip
  all_goals dsimp only [q_step]
  all_goals first | (unfold q_bin; split <;> first | trivial | exact ⟨_, rfl, h⟩) | (unfold q_dv; split <;> first | trivial | exact ⟨_, rfl, h⟩) | (unfold q_binL; split <;> first | trivial | exact ⟨_, rfl, h⟩) | (unfold q_un; split <;> first | trivial | exact ⟨_, rfl, h⟩) | (unfold q_unL; split <;> first | trivial | exact ⟨_, rfl, h⟩) | (unfold q_if1; split <;> first | trivial | exact ⟨_, rfl, h⟩) | (unfold q_if2; split <;> first | trivial | exact ⟨_, rfl, h⟩) | (unfold q_swi; split <;> first | trivial | exact ⟨_, rfl, h⟩) | (unfold q_dup; repeat' split) | (unfold q_dup2; repeat' split) | (unfold q_pop; repeat' split) | (unfold q_get; repeat' split) | (unfold q_put; repeat' split) | (unfold q_ald; repeat' split) | (unfold q_ast; repeat' split) | (unfold q_lld; repeat' split) | (unfold q_lst; repeat' split) | (unfold q_rld; repeat' split) | (unfold q_rst; repeat' split) | (unfold q_len; repeat' split) | (unfold q_inv; repeat' split) | (unfold q_ret; repeat' split) | (unfold q_retL; repeat' split) | (unfold q_retR; repeat' split) | (repeat' split)
  all_goals first | trivial | exact ⟨_, rfl, h⟩ | rfl
theorem q_run_sub : ∀ (n mi : Nat) (is : List qI) (loc loc' : qLo) (st : List qV) (E : qE) (w : qW) (r : Option qV × qE × qW), q_sub loc loc' → q_run n mi is loc st E w = some r → q_run n mi is loc' st E w = some r
  | 0, _, _, _, _, _, _, _, _, _, h => by cases h
  | _ + 1, _, [], _, _, _, _, _, _, _, h => by cases h
  | n + 1, mi, op :: is, loc, loc', st, E, w, r, hs, h => by
    rw [q_run_succ] at h ⊢
    cases hn : q_new op st E w with
    | some x =>
      obtain ⟨s', E2, w2⟩ := x
      rw [hn] at h
      exact q_run_sub n _ _ _ _ _ _ _ _ hs h
    | none =>
      rw [hn] at h
      dsimp only at h ⊢
      have ha := q_step_sub (mi := mi) (op := op) (st := st) (env := E.1) (w := w) hs
      cases hq : q_step mi op loc st E.1 w with
      | none => rw [hq] at h; cases h
      | some act =>
        rw [hq] at h ha
        rcases act with ⟨g, l', s', w'⟩ | ⟨t, l', s', w'⟩ | ⟨o, x, y, t, l', s', w'⟩ | ⟨x, ts, d, l', s', w'⟩ | ⟨m, as, l', s', w'⟩ | ⟨g, v, w'⟩
        · obtain ⟨l2, e1, e2⟩ := ha
          rw [e1]
          dsimp only at h ⊢
          split at h
          · rename_i hg
            rw [if_pos hg]
            exact q_run_sub n _ _ _ _ _ _ _ _ e2 h
          · cases h
        · obtain ⟨l2, e1, e2⟩ := ha
          rw [e1]
          exact q_run_sub n _ _ _ _ _ _ _ _ e2 h
        · obtain ⟨l2, e1, e2⟩ := ha
          rw [e1]
          dsimp only at h ⊢
          split at h
          · rename_i hg
            rw [if_pos hg]
            exact q_run_sub n _ _ _ _ _ _ _ _ e2 h
          · rename_i hg
            rw [if_neg hg]
            exact q_run_sub n _ _ _ _ _ _ _ _ e2 h
        · obtain ⟨l2, e1, e2⟩ := ha
          rw [e1]
          exact q_run_sub n _ _ _ _ _ _ _ _ e2 h
        · obtain ⟨l2, e1, e2⟩ := ha
          rw [e1]
          dsimp only at h ⊢
          split at h
          · cases h
          · rename_i v E3 w3 hc
            rw [hc]
            exact q_run_sub n _ _ _ _ _ _ _ _ e2 h
        · rw [show q_step mi op loc' st E.1 w = _ from ha]
          exact h
theorem q_Ev_sub {mi k : Nat} {loc loc' : qLo} {st : List qV} {w : qW} {r : Option qV × qW} (hs : q_sub loc loc') (h : q_Ev mi k loc st w r) : q_Ev mi k loc' st w r := by
  obtain ⟨N, h⟩ := h
  exact ⟨N, fun n hn E => q_run_sub _ _ _ _ _ _ _ _ _ hs (h n hn E)⟩
/-- some locals forgotten -/
def q_fgt (ks : List Nat) (l : qLo) : qLo := match ks with
  | [] => l
  | k :: r => q_fgt r (l.set k none)
theorem q_fgt_sub : ∀ (ks : List Nat) (l : qLo), q_sub (q_fgt ks l) l
  | [], l => ⟨rfl, fun _ _ h => h⟩
  | k :: r, l => by
    have h := q_fgt_sub r (l.set k none)
    refine ⟨h.1.trans (List.length_set ..), fun i v hi => ?_⟩
    have h2 := h.2 i v hi
    by_cases hk : k = i
    · subst hk
      by_cases hl : k < l.length
      · rw [List.getElem?_set_self hl] at h2; cases h2
      · rw [List.getElem?_eq_none (by rw [List.length_set]; omega)] at h2; cases h2
    · rw [List.getElem?_set_ne hk] at h2
      exact h2
/-- at a stop, what is forgotten there -/
def q_stp (k : Nat) (S : List (Nat × List Nat)) : Option (List Nat) := match S with
  | [] => none
  | (a, ks) :: r => (match Nat.beq k a with
    | true => some ks
    | false => q_stp k r)
def q_wk (r : Option qV × qW) : Nat → List (Nat × List Nat) → Nat → Nat → List qI → qLo → List qV → qW → Prop
  | 0, _, mi, k, _, loc, st, w => q_Ev mi k loc st w r
  | _ + 1, _, _, _, [], _, _, _ => False
  | n + 1, S, mi, k, op :: is, loc, st, w => match q_step mi op loc st q_env w with
    | none => False
    | some (.inl (g, l', s', w')) => q_gs g (match q_stp (k + 1) S with
      | some ks => q_Ev mi (k + 1) (q_fgt ks l') s' w' r
      | none => q_wk r n S mi (k + 1) is l' s' w')
    | some (.inr (.inl (t, l', s', w'))) => (match q_stp t S with
      | some ks => q_Ev mi t (q_fgt ks l') s' w' r
      | none => q_wk r n S mi t ((q_code mi).drop t) l' s' w')
    | some (.inr (.inr (.inl (o, x, y, t, l', s', w')))) => (q_cond o x y → (match q_stp t S with
      | some ks => q_Ev mi t (q_fgt ks l') s' w' r
      | none => q_wk r n S mi t ((q_code mi).drop t) l' s' w')) ∧ (q_cond (q_neg o) x y → (match q_stp (k + 1) S with
      | some ks => q_Ev mi (k + 1) (q_fgt ks l') s' w' r
      | none => q_wk r n S mi (k + 1) is l' s' w'))
    | some (.inr (.inr (.inr (.inl (x, ts, d, l', s', w'))))) => q_sws x ts d (fun t => match q_stp t S with
      | some ks => q_Ev mi t (q_fgt ks l') s' w' r
      | none => q_wk r n S mi t ((q_code mi).drop t) l' s' w')
    | some (.inr (.inr (.inr (.inr (.inl (m, as, l', s', w')))))) => ∃ (v : Option qV) (w2 : qW), q_Ev m 0 (q_entry (q_ml m) as) [] w' (v, w2) ∧ (match q_stp (k + 1) S with
      | some ks => q_Ev mi (k + 1) (q_fgt ks l') (v.toList ++ s') w2 r
      | none => q_wk r n S mi (k + 1) is l' (v.toList ++ s') w2)
    | some (.inr (.inr (.inr (.inr (.inr (g, v, w')))))) => q_gs g (r = (v, w'))
theorem q_wk_sound {r : Option qV × qW} : ∀ (n : Nat) (S : List (Nat × List Nat)) (mi k : Nat) (is : List qI) (loc : qLo) (st : List qV) (w : qW), (q_code mi).drop k = is → q_wk r n S mi k is loc st w → q_Ev mi k loc st w r
  | 0, _, _, _, _, _, _, _, _, h => h
  | n + 1, _, _, _, [], _, _, _, _, h => h.elim
  | n + 1, S, mi, k, op :: is, loc, st, w, hd, h => by
    have hd1 : (q_code mi).drop (k + 1) = is := by
      have := congrArg (List.drop 1) hd
      rw [List.drop_drop] at this
      simpa using this
    have key1 : ∀ l' s' w', (match q_stp (k + 1) S with
      | some ks => q_Ev mi (k + 1) (q_fgt ks l') s' w' r
      | none => q_wk r n S mi (k + 1) is l' s' w') → q_Ev mi (k + 1) l' s' w' r := by
      intro l' s' w' h
      cases hq : q_stp (k + 1) S with
      | some ks => rw [hq] at h; exact q_Ev_sub (q_fgt_sub ks l') h
      | none => rw [hq] at h; exact q_wk_sound n S mi (k + 1) is l' s' w' hd1 h
    have key2 : ∀ t l' s' w', (match q_stp t S with
      | some ks => q_Ev mi t (q_fgt ks l') s' w' r
      | none => q_wk r n S mi t ((q_code mi).drop t) l' s' w') → q_Ev mi t l' s' w' r := by
      intro t l' s' w' h
      cases hq : q_stp t S with
      | some ks => rw [hq] at h; exact q_Ev_sub (q_fgt_sub ks l') h
      | none => rw [hq] at h; exact q_wk_sound n S mi t _ l' s' w' rfl h
    refine q_ev_step hd ?_
    unfold q_wk at h
    cases hs : q_step mi op loc st q_env w with
    | none => rw [hs] at h; exact h
    | some a =>
      rw [hs] at h
      rcases a with ⟨g, l', s', w'⟩ | ⟨t, l', s', w'⟩ | ⟨o, x, y, t, l', s', w'⟩ | ⟨x, ts, d, l', s', w'⟩ | ⟨m, as, l', s', w'⟩ | ⟨g, v, w'⟩
      · exact q_gs_iff.mpr ⟨(q_gs_iff.mp h).1, key1 _ _ _ (q_gs_iff.mp h).2⟩
      · exact key2 _ _ _ _ h
      · exact ⟨fun hc => key2 _ _ _ _ (h.1 hc), fun hc => key1 _ _ _ (h.2 hc)⟩
      · exact key2 _ _ _ _ (q_sws_spec h)
      · obtain ⟨v, w2, h1, h2⟩ := h
        exact ⟨v, w2, h1, key1 _ _ _ h2⟩
      · exact h
theorem q_walk (n : Nat) (S : List (Nat × List Nat)) {r : Option qV × qW} {mi k : Nat} {loc : qLo} {st : List qV} {w : qW} (h : q_wk r n S mi k ((q_code mi).drop k) loc st w) : q_Ev mi k loc st w r := q_wk_sound n S mi k _ loc st w rfl h
/-! worlds in the static phase -/
abbrev qD : Type := (Nat → Nat → Nat → Int) × (Nat → Nat → Nat → Int64)
def q_mk (d : qD) (b : Nat) : qW := (d.1, d.2, q_R b)
def q_sI (d : qD) (t i k : Nat) (v : Int) : qD := (fun t' i' k' => if t' = t ∧ i' = i ∧ k' = k then v else d.1 t' i' k', d.2)
def q_sL (d : qD) (t i k : Nat) (v : Int64) : qD := (d.1, fun t' i' k' => if t' = t ∧ i' = i ∧ k' = k then v else d.2 t' i' k')
end
