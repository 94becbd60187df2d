/-! begun with kit/laws/SKELETON.whole PART A and the class rows of claim/NAMES.whole; the rest printed by wip/whole/sound.py -/
/-- a private method of a class that the tables say can be made, by its rows of tables_1 -/
def lw_okq (q : MethodName × Nat) : Prop := (q.1.cls ≠ "java/lang/invoke/MethodHandle" ∧ q.1.cls ≠ "java/lang/invoke/VarHandle") ∧ Cond.instantiable q.1.cls q.2 ∈ tables_1 ∧ Cond.privateMethod q.1 ∈ tables_1 ∧ Cond.instanceMethod q.1 ∈ tables_1
theorem lw_p0 : lw_okq (⟨"GrassCells$Reader", "skipBlanks", "()V"⟩, 8) := ⟨⟨by decide +kernel, by decide +kernel⟩, List.mem_of_getElem? (i := 27) (by decide +kernel), List.mem_of_getElem? (i := 324) (by decide +kernel), List.mem_of_getElem? (i := 325) (by decide +kernel)⟩
theorem lw_p1 : lw_okq (⟨"GrassCells$Reader", "readNumbers", "()I"⟩, 8) := ⟨⟨by decide +kernel, by decide +kernel⟩, List.mem_of_getElem? (i := 27) (by decide +kernel), List.mem_of_getElem? (i := 341) (by decide +kernel), List.mem_of_getElem? (i := 342) (by decide +kernel)⟩
theorem lw_p2 : lw_okq (⟨"GrassCells$Reader", "readNumber", "(I)Z"⟩, 8) := ⟨⟨by decide +kernel, by decide +kernel⟩, List.mem_of_getElem? (i := 27) (by decide +kernel), List.mem_of_getElem? (i := 345) (by decide +kernel), List.mem_of_getElem? (i := 346) (by decide +kernel)⟩
theorem lw_p3 : lw_okq (⟨"GrassCells$Reader", "fault", "(II)I"⟩, 8) := ⟨⟨by decide +kernel, by decide +kernel⟩, List.mem_of_getElem? (i := 27) (by decide +kernel), List.mem_of_getElem? (i := 353) (by decide +kernel), List.mem_of_getElem? (i := 354) (by decide +kernel)⟩
theorem lw_p4 : lw_okq (⟨"GrassCells$Reader", "faultOfNumbers", "()I"⟩, 8) := ⟨⟨by decide +kernel, by decide +kernel⟩, List.mem_of_getElem? (i := 27) (by decide +kernel), List.mem_of_getElem? (i := 357) (by decide +kernel), List.mem_of_getElem? (i := 358) (by decide +kernel)⟩
theorem lw_p5 : lw_okq (⟨"GrassCells$Reader", "readFilling", "()I"⟩, 8) := ⟨⟨by decide +kernel, by decide +kernel⟩, List.mem_of_getElem? (i := 27) (by decide +kernel), List.mem_of_getElem? (i := 364) (by decide +kernel), List.mem_of_getElem? (i := 365) (by decide +kernel)⟩
theorem lw_p6 : lw_okq (⟨"GrassCells$Reader", "readPath", "()Z"⟩, 8) := ⟨⟨by decide +kernel, by decide +kernel⟩, List.mem_of_getElem? (i := 27) (by decide +kernel), List.mem_of_getElem? (i := 368) (by decide +kernel), List.mem_of_getElem? (i := 369) (by decide +kernel)⟩
theorem lw_p7 : lw_okq (⟨"GrassCells$Reader", "isLetterOfPath", "()Z"⟩, 8) := ⟨⟨by decide +kernel, by decide +kernel⟩, List.mem_of_getElem? (i := 27) (by decide +kernel), List.mem_of_getElem? (i := 372) (by decide +kernel), List.mem_of_getElem? (i := 373) (by decide +kernel)⟩
theorem lw_p8 : lw_okq (⟨"GrassCells$Reader", "readRow", "(I)Z"⟩, 8) := ⟨⟨by decide +kernel, by decide +kernel⟩, List.mem_of_getElem? (i := 27) (by decide +kernel), List.mem_of_getElem? (i := 386) (by decide +kernel), List.mem_of_getElem? (i := 387) (by decide +kernel)⟩
theorem lw_p9 : lw_okq (⟨"GrassCells$Reader", "faultOfBoxes", "()I"⟩, 8) := ⟨⟨by decide +kernel, by decide +kernel⟩, List.mem_of_getElem? (i := 27) (by decide +kernel), List.mem_of_getElem? (i := 400) (by decide +kernel), List.mem_of_getElem? (i := 401) (by decide +kernel)⟩
theorem lw_p10 : lw_okq (⟨"GrassCells$Diagram", "nextColumn", "(I)I"⟩, 8) := ⟨⟨by decide +kernel, by decide +kernel⟩, List.mem_of_getElem? (i := 49) (by decide +kernel), List.mem_of_getElem? (i := 416) (by decide +kernel), List.mem_of_getElem? (i := 417) (by decide +kernel)⟩
theorem lw_p11 : lw_okq (⟨"GrassCells$Diagram", "rowAbove", "(I)I"⟩, 8) := ⟨⟨by decide +kernel, by decide +kernel⟩, List.mem_of_getElem? (i := 49) (by decide +kernel), List.mem_of_getElem? (i := 420) (by decide +kernel), List.mem_of_getElem? (i := 421) (by decide +kernel)⟩
theorem lw_p12 : lw_okq (⟨"GrassCells$Reader", "readSets", "()I"⟩, 8) := ⟨⟨by decide +kernel, by decide +kernel⟩, List.mem_of_getElem? (i := 27) (by decide +kernel), List.mem_of_getElem? (i := 424) (by decide +kernel), List.mem_of_getElem? (i := 425) (by decide +kernel)⟩
theorem lw_p13 : lw_okq (⟨"GrassCells$Reader", "readSet", "(I)Z"⟩, 8) := ⟨⟨by decide +kernel, by decide +kernel⟩, List.mem_of_getElem? (i := 27) (by decide +kernel), List.mem_of_getElem? (i := 428) (by decide +kernel), List.mem_of_getElem? (i := 429) (by decide +kernel)⟩
theorem lw_p14 : lw_okq (⟨"GrassCells$Reader", "faultOfSets", "()I"⟩, 8) := ⟨⟨by decide +kernel, by decide +kernel⟩, List.mem_of_getElem? (i := 27) (by decide +kernel), List.mem_of_getElem? (i := 432) (by decide +kernel), List.mem_of_getElem? (i := 433) (by decide +kernel)⟩
theorem lw_p15 : lw_okq (⟨"GrassCells$Reader", "imageBetween", "(III)I"⟩, 8) := ⟨⟨by decide +kernel, by decide +kernel⟩, List.mem_of_getElem? (i := 27) (by decide +kernel), List.mem_of_getElem? (i := 451) (by decide +kernel), List.mem_of_getElem? (i := 452) (by decide +kernel)⟩
def lw_privs_1 : List (MethodName × Nat) := [(⟨"GrassCells$Reader", "skipBlanks", "()V"⟩, 8), (⟨"GrassCells$Reader", "readNumbers", "()I"⟩, 8), (⟨"GrassCells$Reader", "readNumber", "(I)Z"⟩, 8), (⟨"GrassCells$Reader", "fault", "(II)I"⟩, 8), (⟨"GrassCells$Reader", "faultOfNumbers", "()I"⟩, 8), (⟨"GrassCells$Reader", "readFilling", "()I"⟩, 8), (⟨"GrassCells$Reader", "readPath", "()Z"⟩, 8), (⟨"GrassCells$Reader", "isLetterOfPath", "()Z"⟩, 8), (⟨"GrassCells$Reader", "readRow", "(I)Z"⟩, 8), (⟨"GrassCells$Reader", "faultOfBoxes", "()I"⟩, 8), (⟨"GrassCells$Diagram", "nextColumn", "(I)I"⟩, 8), (⟨"GrassCells$Diagram", "rowAbove", "(I)I"⟩, 8), (⟨"GrassCells$Reader", "readSets", "()I"⟩, 8), (⟨"GrassCells$Reader", "readSet", "(I)Z"⟩, 8), (⟨"GrassCells$Reader", "faultOfSets", "()I"⟩, 8), (⟨"GrassCells$Reader", "imageBetween", "(III)I"⟩, 8)]
theorem lw_r1 : ∀ q ∈ lw_privs_1, lw_okq q := List.forall_mem_cons.mpr ⟨lw_p0, List.forall_mem_cons.mpr ⟨lw_p1, List.forall_mem_cons.mpr ⟨lw_p2, List.forall_mem_cons.mpr ⟨lw_p3, List.forall_mem_cons.mpr ⟨lw_p4, List.forall_mem_cons.mpr ⟨lw_p5, List.forall_mem_cons.mpr ⟨lw_p6, List.forall_mem_cons.mpr ⟨lw_p7, List.forall_mem_cons.mpr ⟨lw_p8, List.forall_mem_cons.mpr ⟨lw_p9, List.forall_mem_cons.mpr ⟨lw_p10, List.forall_mem_cons.mpr ⟨lw_p11, List.forall_mem_cons.mpr ⟨lw_p12, List.forall_mem_cons.mpr ⟨lw_p13, List.forall_mem_cons.mpr ⟨lw_p14, List.forall_mem_cons.mpr ⟨lw_p15, fun _ h => absurd h List.not_mem_nil⟩⟩⟩⟩⟩⟩⟩⟩⟩⟩⟩⟩⟩⟩⟩⟩
theorem lw_p16 : lw_okq (⟨"GrassCells", "become", "(I[I)V"⟩, 8) := ⟨⟨by decide +kernel, by decide +kernel⟩, List.mem_of_getElem? (i := 19) (by decide +kernel), List.mem_of_getElem? (i := 462) (by decide +kernel), List.mem_of_getElem? (i := 463) (by decide +kernel)⟩
theorem lw_p17 : lw_okq (⟨"GrassCells$Cell", "layNecklace", "()V"⟩, 9) := ⟨⟨by decide +kernel, by decide +kernel⟩, List.mem_of_getElem? (i := 112) (by decide +kernel), List.mem_of_getElem? (i := 481) (by decide +kernel), List.mem_of_getElem? (i := 482) (by decide +kernel)⟩
theorem lw_p18 : lw_okq (⟨"GrassCells$Cell", "layBases", "()V"⟩, 9) := ⟨⟨by decide +kernel, by decide +kernel⟩, List.mem_of_getElem? (i := 112) (by decide +kernel), List.mem_of_getElem? (i := 487) (by decide +kernel), List.mem_of_getElem? (i := 488) (by decide +kernel)⟩
theorem lw_p19 : lw_okq (⟨"GrassCells$Cell", "isAtLeastNecklace", "(I)Z"⟩, 9) := ⟨⟨by decide +kernel, by decide +kernel⟩, List.mem_of_getElem? (i := 112) (by decide +kernel), List.mem_of_getElem? (i := 500) (by decide +kernel), List.mem_of_getElem? (i := 501) (by decide +kernel)⟩
theorem lw_p20 : lw_okq (⟨"GrassCells$Collection", "contains", "(I)Z"⟩, 2) := ⟨⟨by decide +kernel, by decide +kernel⟩, List.mem_of_getElem? (i := 173) (by decide +kernel), List.mem_of_getElem? (i := 525) (by decide +kernel), List.mem_of_getElem? (i := 526) (by decide +kernel)⟩
theorem lw_p21 : lw_okq (⟨"GrassCells$Collection", "crossesNone", "(II)Z"⟩, 2) := ⟨⟨by decide +kernel, by decide +kernel⟩, List.mem_of_getElem? (i := 173) (by decide +kernel), List.mem_of_getElem? (i := 529) (by decide +kernel), List.mem_of_getElem? (i := 530) (by decide +kernel)⟩
theorem lw_p22 : lw_okq (⟨"GrassCells$Cell", "exchangeable", "(I)I"⟩, 9) := ⟨⟨by decide +kernel, by decide +kernel⟩, List.mem_of_getElem? (i := 112) (by decide +kernel), List.mem_of_getElem? (i := 598) (by decide +kernel), List.mem_of_getElem? (i := 599) (by decide +kernel)⟩
theorem lw_p23 : lw_okq (⟨"GrassCells$Diagram", "countPathsTo", "(I)V"⟩, 8) := ⟨⟨by decide +kernel, by decide +kernel⟩, List.mem_of_getElem? (i := 49) (by decide +kernel), List.mem_of_getElem? (i := 612) (by decide +kernel), List.mem_of_getElem? (i := 613) (by decide +kernel)⟩
theorem lw_p24 : lw_okq (⟨"GrassCells$Diagram", "expandRow", "(III)V"⟩, 8) := ⟨⟨by decide +kernel, by decide +kernel⟩, List.mem_of_getElem? (i := 49) (by decide +kernel), List.mem_of_getElem? (i := 619) (by decide +kernel), List.mem_of_getElem? (i := 620) (by decide +kernel)⟩
theorem lw_p25 : lw_okq (⟨"GrassCells$Collection", "movedAt", "(IIII)I"⟩, 2) := ⟨⟨by decide +kernel, by decide +kernel⟩, List.mem_of_getElem? (i := 173) (by decide +kernel), List.mem_of_getElem? (i := 650) (by decide +kernel), List.mem_of_getElem? (i := 651) (by decide +kernel)⟩
theorem lw_p26 : lw_okq (⟨"GrassCells$Collection", "hasCorners", "(IIIII)Z"⟩, 2) := ⟨⟨by decide +kernel, by decide +kernel⟩, List.mem_of_getElem? (i := 173) (by decide +kernel), List.mem_of_getElem? (i := 655) (by decide +kernel), List.mem_of_getElem? (i := 656) (by decide +kernel)⟩
theorem lw_p27 : lw_okq (⟨"GrassCells", "valueOfNext", "(III)I"⟩, 8) := ⟨⟨by decide +kernel, by decide +kernel⟩, List.mem_of_getElem? (i := 19) (by decide +kernel), List.mem_of_getElem? (i := 672) (by decide +kernel), List.mem_of_getElem? (i := 673) (by decide +kernel)⟩
theorem lw_p28 : lw_okq (⟨"GrassCells$Neighbours", "swap", "(LGrassCells$Cell;II)Z"⟩, 2) := ⟨⟨by decide +kernel, by decide +kernel⟩, List.mem_of_getElem? (i := 188) (by decide +kernel), List.mem_of_getElem? (i := 684) (by decide +kernel), List.mem_of_getElem? (i := 685) (by decide +kernel)⟩
theorem lw_p29 : lw_okq (⟨"GrassCells", "stepToNext", "(II)I"⟩, 8) := ⟨⟨by decide +kernel, by decide +kernel⟩, List.mem_of_getElem? (i := 19) (by decide +kernel), List.mem_of_getElem? (i := 698) (by decide +kernel), List.mem_of_getElem? (i := 699) (by decide +kernel)⟩
theorem lw_p30 : lw_okq (⟨"GrassCells$Census", "clearThen", "()V"⟩, 2) := ⟨⟨by decide +kernel, by decide +kernel⟩, List.mem_of_getElem? (i := 243) (by decide +kernel), List.mem_of_getElem? (i := 748) (by decide +kernel), List.mem_of_getElem? (i := 749) (by decide +kernel)⟩
theorem lw_p31 : lw_okq (⟨"GrassCells$Census", "flip", "()V"⟩, 2) := ⟨⟨by decide +kernel, by decide +kernel⟩, List.mem_of_getElem? (i := 243) (by decide +kernel), List.mem_of_getElem? (i := 753) (by decide +kernel), List.mem_of_getElem? (i := 754) (by decide +kernel)⟩
def lw_privs_2 : List (MethodName × Nat) := [(⟨"GrassCells", "become", "(I[I)V"⟩, 8), (⟨"GrassCells$Cell", "layNecklace", "()V"⟩, 9), (⟨"GrassCells$Cell", "layBases", "()V"⟩, 9), (⟨"GrassCells$Cell", "isAtLeastNecklace", "(I)Z"⟩, 9), (⟨"GrassCells$Collection", "contains", "(I)Z"⟩, 2), (⟨"GrassCells$Collection", "crossesNone", "(II)Z"⟩, 2), (⟨"GrassCells$Cell", "exchangeable", "(I)I"⟩, 9), (⟨"GrassCells$Diagram", "countPathsTo", "(I)V"⟩, 8), (⟨"GrassCells$Diagram", "expandRow", "(III)V"⟩, 8), (⟨"GrassCells$Collection", "movedAt", "(IIII)I"⟩, 2), (⟨"GrassCells$Collection", "hasCorners", "(IIIII)Z"⟩, 2), (⟨"GrassCells", "valueOfNext", "(III)I"⟩, 8), (⟨"GrassCells$Neighbours", "swap", "(LGrassCells$Cell;II)Z"⟩, 2), (⟨"GrassCells", "stepToNext", "(II)I"⟩, 8), (⟨"GrassCells$Census", "clearThen", "()V"⟩, 2), (⟨"GrassCells$Census", "flip", "()V"⟩, 2)]
theorem lw_r2 : ∀ q ∈ lw_privs_2, lw_okq q := List.forall_mem_cons.mpr ⟨lw_p16, List.forall_mem_cons.mpr ⟨lw_p17, List.forall_mem_cons.mpr ⟨lw_p18, List.forall_mem_cons.mpr ⟨lw_p19, List.forall_mem_cons.mpr ⟨lw_p20, List.forall_mem_cons.mpr ⟨lw_p21, List.forall_mem_cons.mpr ⟨lw_p22, List.forall_mem_cons.mpr ⟨lw_p23, List.forall_mem_cons.mpr ⟨lw_p24, List.forall_mem_cons.mpr ⟨lw_p25, List.forall_mem_cons.mpr ⟨lw_p26, List.forall_mem_cons.mpr ⟨lw_p27, List.forall_mem_cons.mpr ⟨lw_p28, List.forall_mem_cons.mpr ⟨lw_p29, List.forall_mem_cons.mpr ⟨lw_p30, List.forall_mem_cons.mpr ⟨lw_p31, fun _ h => absurd h List.not_mem_nil⟩⟩⟩⟩⟩⟩⟩⟩⟩⟩⟩⟩⟩⟩⟩⟩
theorem lw_p32 : lw_okq (⟨"GrassCells$Census", "endLowestRow", "(I)V"⟩, 2) := ⟨⟨by decide +kernel, by decide +kernel⟩, List.mem_of_getElem? (i := 243) (by decide +kernel), List.mem_of_getElem? (i := 757) (by decide +kernel), List.mem_of_getElem? (i := 758) (by decide +kernel)⟩
theorem lw_p33 : lw_okq (⟨"GrassCells$Census", "pass", "(III)V"⟩, 2) := ⟨⟨by decide +kernel, by decide +kernel⟩, List.mem_of_getElem? (i := 243) (by decide +kernel), List.mem_of_getElem? (i := 768) (by decide +kernel), List.mem_of_getElem? (i := 769) (by decide +kernel)⟩
theorem lw_p34 : lw_okq (⟨"GrassCells$Census", "addColumn", "(I)V"⟩, 2) := ⟨⟨by decide +kernel, by decide +kernel⟩, List.mem_of_getElem? (i := 243) (by decide +kernel), List.mem_of_getElem? (i := 772) (by decide +kernel), List.mem_of_getElem? (i := 773) (by decide +kernel)⟩
theorem lw_p35 : lw_okq (⟨"GrassCells", "filledShelves", "()I"⟩, 8) := ⟨⟨by decide +kernel, by decide +kernel⟩, List.mem_of_getElem? (i := 19) (by decide +kernel), List.mem_of_getElem? (i := 798) (by decide +kernel), List.mem_of_getElem? (i := 799) (by decide +kernel)⟩
theorem lw_p36 : lw_okq (⟨"GrassCells", "countOfLive", "(I)I"⟩, 8) := ⟨⟨by decide +kernel, by decide +kernel⟩, List.mem_of_getElem? (i := 19) (by decide +kernel), List.mem_of_getElem? (i := 802) (by decide +kernel), List.mem_of_getElem? (i := 803) (by decide +kernel)⟩
theorem lw_p37 : lw_okq (⟨"GrassCellsModel", "wordHere", "()I"⟩, 28) := ⟨⟨by decide +kernel, by decide +kernel⟩, List.mem_of_getElem? (i := 815) (by decide +kernel), List.mem_of_getElem? (i := 922) (by decide +kernel), List.mem_of_getElem? (i := 923) (by decide +kernel)⟩
theorem lw_p38 : lw_okq (⟨"GrassCellsModel", "next", "()I"⟩, 28) := ⟨⟨by decide +kernel, by decide +kernel⟩, List.mem_of_getElem? (i := 815) (by decide +kernel), List.mem_of_getElem? (i := 926) (by decide +kernel), List.mem_of_getElem? (i := 927) (by decide +kernel)⟩
theorem lw_p39 : lw_okq (⟨"GrassCellsModel", "byteAt", "(I)I"⟩, 28) := ⟨⟨by decide +kernel, by decide +kernel⟩, List.mem_of_getElem? (i := 815) (by decide +kernel), List.mem_of_getElem? (i := 930) (by decide +kernel), List.mem_of_getElem? (i := 931) (by decide +kernel)⟩
theorem lw_p40 : lw_okq (⟨"GrassCellsModel", "fails", "(II)Z"⟩, 28) := ⟨⟨by decide +kernel, by decide +kernel⟩, List.mem_of_getElem? (i := 815) (by decide +kernel), List.mem_of_getElem? (i := 937) (by decide +kernel), List.mem_of_getElem? (i := 938) (by decide +kernel)⟩
theorem lw_p41 : lw_okq (⟨"GrassCellsModel", "readsRest", "(I)Z"⟩, 28) := ⟨⟨by decide +kernel, by decide +kernel⟩, List.mem_of_getElem? (i := 815) (by decide +kernel), List.mem_of_getElem? (i := 941) (by decide +kernel), List.mem_of_getElem? (i := 942) (by decide +kernel)⟩
theorem lw_p42 : lw_okq (⟨"GrassCellsModel", "readsPerm", "()Z"⟩, 28) := ⟨⟨by decide +kernel, by decide +kernel⟩, List.mem_of_getElem? (i := 815) (by decide +kernel), List.mem_of_getElem? (i := 945) (by decide +kernel), List.mem_of_getElem? (i := 946) (by decide +kernel)⟩
theorem lw_p43 : lw_okq (⟨"GrassCellsModel", "isLikeAhead", "(I)Z"⟩, 28) := ⟨⟨by decide +kernel, by decide +kernel⟩, List.mem_of_getElem? (i := 815) (by decide +kernel), List.mem_of_getElem? (i := 953) (by decide +kernel), List.mem_of_getElem? (i := 954) (by decide +kernel)⟩
theorem lw_p44 : lw_okq (⟨"GrassCellsModel", "readsFill", "()Z"⟩, 28) := ⟨⟨by decide +kernel, by decide +kernel⟩, List.mem_of_getElem? (i := 815) (by decide +kernel), List.mem_of_getElem? (i := 957) (by decide +kernel), List.mem_of_getElem? (i := 958) (by decide +kernel)⟩
theorem lw_p45 : lw_okq (⟨"GrassCellsModel", "laysShape", "(II)V"⟩, 28) := ⟨⟨by decide +kernel, by decide +kernel⟩, List.mem_of_getElem? (i := 815) (by decide +kernel), List.mem_of_getElem? (i := 964) (by decide +kernel), List.mem_of_getElem? (i := 965) (by decide +kernel)⟩
theorem lw_p46 : lw_okq (⟨"GrassCellsModel", "isBox", "(II)Z"⟩, 28) := ⟨⟨by decide +kernel, by decide +kernel⟩, List.mem_of_getElem? (i := 815) (by decide +kernel), List.mem_of_getElem? (i := 971) (by decide +kernel), List.mem_of_getElem? (i := 972) (by decide +kernel)⟩
theorem lw_p47 : lw_okq (⟨"GrassCellsModel", "isLe", "(III)Z"⟩, 28) := ⟨⟨by decide +kernel, by decide +kernel⟩, List.mem_of_getElem? (i := 815) (by decide +kernel), List.mem_of_getElem? (i := 975) (by decide +kernel), List.mem_of_getElem? (i := 976) (by decide +kernel)⟩
def lw_privs_3 : List (MethodName × Nat) := [(⟨"GrassCells$Census", "endLowestRow", "(I)V"⟩, 2), (⟨"GrassCells$Census", "pass", "(III)V"⟩, 2), (⟨"GrassCells$Census", "addColumn", "(I)V"⟩, 2), (⟨"GrassCells", "filledShelves", "()I"⟩, 8), (⟨"GrassCells", "countOfLive", "(I)I"⟩, 8), (⟨"GrassCellsModel", "wordHere", "()I"⟩, 28), (⟨"GrassCellsModel", "next", "()I"⟩, 28), (⟨"GrassCellsModel", "byteAt", "(I)I"⟩, 28), (⟨"GrassCellsModel", "fails", "(II)Z"⟩, 28), (⟨"GrassCellsModel", "readsRest", "(I)Z"⟩, 28), (⟨"GrassCellsModel", "readsPerm", "()Z"⟩, 28), (⟨"GrassCellsModel", "isLikeAhead", "(I)Z"⟩, 28), (⟨"GrassCellsModel", "readsFill", "()Z"⟩, 28), (⟨"GrassCellsModel", "laysShape", "(II)V"⟩, 28), (⟨"GrassCellsModel", "isBox", "(II)Z"⟩, 28), (⟨"GrassCellsModel", "isLe", "(III)Z"⟩, 28)]
theorem lw_r3 : ∀ q ∈ lw_privs_3, lw_okq q := List.forall_mem_cons.mpr ⟨lw_p32, List.forall_mem_cons.mpr ⟨lw_p33, List.forall_mem_cons.mpr ⟨lw_p34, List.forall_mem_cons.mpr ⟨lw_p35, List.forall_mem_cons.mpr ⟨lw_p36, List.forall_mem_cons.mpr ⟨lw_p37, List.forall_mem_cons.mpr ⟨lw_p38, List.forall_mem_cons.mpr ⟨lw_p39, List.forall_mem_cons.mpr ⟨lw_p40, List.forall_mem_cons.mpr ⟨lw_p41, List.forall_mem_cons.mpr ⟨lw_p42, List.forall_mem_cons.mpr ⟨lw_p43, List.forall_mem_cons.mpr ⟨lw_p44, List.forall_mem_cons.mpr ⟨lw_p45, List.forall_mem_cons.mpr ⟨lw_p46, List.forall_mem_cons.mpr ⟨lw_p47, fun _ h => absurd h List.not_mem_nil⟩⟩⟩⟩⟩⟩⟩⟩⟩⟩⟩⟩⟩⟩⟩⟩
theorem lw_p48 : lw_okq (⟨"GrassCellsModel", "isPlus", "(II)Z"⟩, 28) := ⟨⟨by decide +kernel, by decide +kernel⟩, List.mem_of_getElem? (i := 815) (by decide +kernel), List.mem_of_getElem? (i := 979) (by decide +kernel), List.mem_of_getElem? (i := 980) (by decide +kernel)⟩
theorem lw_p49 : lw_okq (⟨"GrassCellsModel", "goesFrom", "(III)I"⟩, 28) := ⟨⟨by decide +kernel, by decide +kernel⟩, List.mem_of_getElem? (i := 815) (by decide +kernel), List.mem_of_getElem? (i := 983) (by decide +kernel), List.mem_of_getElem? (i := 984) (by decide +kernel)⟩
theorem lw_p50 : lw_okq (⟨"GrassCellsModel", "rowAbove", "(II)I"⟩, 28) := ⟨⟨by decide +kernel, by decide +kernel⟩, List.mem_of_getElem? (i := 815) (by decide +kernel), List.mem_of_getElem? (i := 987) (by decide +kernel), List.mem_of_getElem? (i := 988) (by decide +kernel)⟩
theorem lw_p51 : lw_okq (⟨"GrassCellsModel", "columnLeft", "(III)I"⟩, 28) := ⟨⟨by decide +kernel, by decide +kernel⟩, List.mem_of_getElem? (i := 815) (by decide +kernel), List.mem_of_getElem? (i := 991) (by decide +kernel), List.mem_of_getElem? (i := 992) (by decide +kernel)⟩
theorem lw_p52 : lw_okq (⟨"GrassCellsModel", "readsNeck", "()Z"⟩, 28) := ⟨⟨by decide +kernel, by decide +kernel⟩, List.mem_of_getElem? (i := 815) (by decide +kernel), List.mem_of_getElem? (i := 998) (by decide +kernel), List.mem_of_getElem? (i := 999) (by decide +kernel)⟩
theorem lw_p53 : lw_okq (⟨"GrassCellsModel", "isNeck", "()Z"⟩, 28) := ⟨⟨by decide +kernel, by decide +kernel⟩, List.mem_of_getElem? (i := 815) (by decide +kernel), List.mem_of_getElem? (i := 1002) (by decide +kernel), List.mem_of_getElem? (i := 1003) (by decide +kernel)⟩
theorem lw_p54 : lw_okq (⟨"GrassCellsModel", "laysByNeck", "()Z"⟩, 28) := ⟨⟨by decide +kernel, by decide +kernel⟩, List.mem_of_getElem? (i := 815) (by decide +kernel), List.mem_of_getElem? (i := 1015) (by decide +kernel), List.mem_of_getElem? (i := 1016) (by decide +kernel)⟩
theorem lw_p55 : lw_okq (⟨"GrassCellsModel", "laysDiagram", "()V"⟩, 28) := ⟨⟨by decide +kernel, by decide +kernel⟩, List.mem_of_getElem? (i := 815) (by decide +kernel), List.mem_of_getElem? (i := 1022) (by decide +kernel), List.mem_of_getElem? (i := 1023) (by decide +kernel)⟩
theorem lw_p56 : lw_okq (⟨"GrassCellsModel", "isOwnDiagram", "()Z"⟩, 28) := ⟨⟨by decide +kernel, by decide +kernel⟩, List.mem_of_getElem? (i := 815) (by decide +kernel), List.mem_of_getElem? (i := 1026) (by decide +kernel), List.mem_of_getElem? (i := 1027) (by decide +kernel)⟩
theorem lw_p57 : lw_okq (⟨"GrassCellsModel", "searchesDiagram", "()V"⟩, 28) := ⟨⟨by decide +kernel, by decide +kernel⟩, List.mem_of_getElem? (i := 815) (by decide +kernel), List.mem_of_getElem? (i := 1030) (by decide +kernel), List.mem_of_getElem? (i := 1031) (by decide +kernel)⟩
theorem lw_p58 : lw_okq (⟨"GrassCellsModel", "isAllLe", "()Z"⟩, 28) := ⟨⟨by decide +kernel, by decide +kernel⟩, List.mem_of_getElem? (i := 815) (by decide +kernel), List.mem_of_getElem? (i := 1034) (by decide +kernel), List.mem_of_getElem? (i := 1035) (by decide +kernel)⟩
theorem lw_p59 : lw_okq (⟨"GrassCellsModel", "keepsAct", "()V"⟩, 28) := ⟨⟨by decide +kernel, by decide +kernel⟩, List.mem_of_getElem? (i := 815) (by decide +kernel), List.mem_of_getElem? (i := 1038) (by decide +kernel), List.mem_of_getElem? (i := 1039) (by decide +kernel)⟩
theorem lw_p60 : lw_okq (⟨"GrassCellsModel", "changes", "()V"⟩, 28) := ⟨⟨by decide +kernel, by decide +kernel⟩, List.mem_of_getElem? (i := 815) (by decide +kernel), List.mem_of_getElem? (i := 1042) (by decide +kernel), List.mem_of_getElem? (i := 1043) (by decide +kernel)⟩
theorem lw_p61 : lw_okq (⟨"GrassCellsModel", "follows", "()V"⟩, 28) := ⟨⟨by decide +kernel, by decide +kernel⟩, List.mem_of_getElem? (i := 815) (by decide +kernel), List.mem_of_getElem? (i := 1046) (by decide +kernel), List.mem_of_getElem? (i := 1047) (by decide +kernel)⟩
theorem lw_p62 : lw_okq (⟨"GrassCellsModel", "laysNeck", "()V"⟩, 28) := ⟨⟨by decide +kernel, by decide +kernel⟩, List.mem_of_getElem? (i := 815) (by decide +kernel), List.mem_of_getElem? (i := 1050) (by decide +kernel), List.mem_of_getElem? (i := 1051) (by decide +kernel)⟩
theorem lw_p63 : lw_okq (⟨"GrassCellsModel", "laysBases", "()V"⟩, 28) := ⟨⟨by decide +kernel, by decide +kernel⟩, List.mem_of_getElem? (i := 815) (by decide +kernel), List.mem_of_getElem? (i := 1054) (by decide +kernel), List.mem_of_getElem? (i := 1055) (by decide +kernel)⟩
def lw_privs_4 : List (MethodName × Nat) := [(⟨"GrassCellsModel", "isPlus", "(II)Z"⟩, 28), (⟨"GrassCellsModel", "goesFrom", "(III)I"⟩, 28), (⟨"GrassCellsModel", "rowAbove", "(II)I"⟩, 28), (⟨"GrassCellsModel", "columnLeft", "(III)I"⟩, 28), (⟨"GrassCellsModel", "readsNeck", "()Z"⟩, 28), (⟨"GrassCellsModel", "isNeck", "()Z"⟩, 28), (⟨"GrassCellsModel", "laysByNeck", "()Z"⟩, 28), (⟨"GrassCellsModel", "laysDiagram", "()V"⟩, 28), (⟨"GrassCellsModel", "isOwnDiagram", "()Z"⟩, 28), (⟨"GrassCellsModel", "searchesDiagram", "()V"⟩, 28), (⟨"GrassCellsModel", "isAllLe", "()Z"⟩, 28), (⟨"GrassCellsModel", "keepsAct", "()V"⟩, 28), (⟨"GrassCellsModel", "changes", "()V"⟩, 28), (⟨"GrassCellsModel", "follows", "()V"⟩, 28), (⟨"GrassCellsModel", "laysNeck", "()V"⟩, 28), (⟨"GrassCellsModel", "laysBases", "()V"⟩, 28)]
theorem lw_r4 : ∀ q ∈ lw_privs_4, lw_okq q := List.forall_mem_cons.mpr ⟨lw_p48, List.forall_mem_cons.mpr ⟨lw_p49, List.forall_mem_cons.mpr ⟨lw_p50, List.forall_mem_cons.mpr ⟨lw_p51, List.forall_mem_cons.mpr ⟨lw_p52, List.forall_mem_cons.mpr ⟨lw_p53, List.forall_mem_cons.mpr ⟨lw_p54, List.forall_mem_cons.mpr ⟨lw_p55, List.forall_mem_cons.mpr ⟨lw_p56, List.forall_mem_cons.mpr ⟨lw_p57, List.forall_mem_cons.mpr ⟨lw_p58, List.forall_mem_cons.mpr ⟨lw_p59, List.forall_mem_cons.mpr ⟨lw_p60, List.forall_mem_cons.mpr ⟨lw_p61, List.forall_mem_cons.mpr ⟨lw_p62, List.forall_mem_cons.mpr ⟨lw_p63, fun _ h => absurd h List.not_mem_nil⟩⟩⟩⟩⟩⟩⟩⟩⟩⟩⟩⟩⟩⟩⟩⟩
theorem lw_p64 : lw_okq (⟨"GrassCellsModel", "isAtLeast", "(III)Z"⟩, 28) := ⟨⟨by decide +kernel, by decide +kernel⟩, List.mem_of_getElem? (i := 815) (by decide +kernel), List.mem_of_getElem? (i := 1058) (by decide +kernel), List.mem_of_getElem? (i := 1059) (by decide +kernel)⟩
theorem lw_p65 : lw_okq (⟨"GrassCellsModel", "laysCluster", "()V"⟩, 28) := ⟨⟨by decide +kernel, by decide +kernel⟩, List.mem_of_getElem? (i := 815) (by decide +kernel), List.mem_of_getElem? (i := 1062) (by decide +kernel), List.mem_of_getElem? (i := 1063) (by decide +kernel)⟩
theorem lw_p66 : lw_okq (⟨"GrassCellsModel", "crossesNone", "(I)Z"⟩, 28) := ⟨⟨by decide +kernel, by decide +kernel⟩, List.mem_of_getElem? (i := 815) (by decide +kernel), List.mem_of_getElem? (i := 1066) (by decide +kernel), List.mem_of_getElem? (i := 1067) (by decide +kernel)⟩
theorem lw_p67 : lw_okq (⟨"GrassCellsModel", "doCross", "(II)Z"⟩, 28) := ⟨⟨by decide +kernel, by decide +kernel⟩, List.mem_of_getElem? (i := 815) (by decide +kernel), List.mem_of_getElem? (i := 1070) (by decide +kernel), List.mem_of_getElem? (i := 1071) (by decide +kernel)⟩
theorem lw_p68 : lw_okq (⟨"GrassCellsModel", "isLabel", "(I)Z"⟩, 28) := ⟨⟨by decide +kernel, by decide +kernel⟩, List.mem_of_getElem? (i := 815) (by decide +kernel), List.mem_of_getElem? (i := 1078) (by decide +kernel), List.mem_of_getElem? (i := 1079) (by decide +kernel)⟩
theorem lw_p69 : lw_okq (⟨"GrassCellsModel", "isCell", "()Z"⟩, 28) := ⟨⟨by decide +kernel, by decide +kernel⟩, List.mem_of_getElem? (i := 815) (by decide +kernel), List.mem_of_getElem? (i := 1094) (by decide +kernel), List.mem_of_getElem? (i := 1095) (by decide +kernel)⟩
theorem lw_p70 : lw_okq (⟨"GrassCellsModel", "isBasisHere", "(I)Z"⟩, 28) := ⟨⟨by decide +kernel, by decide +kernel⟩, List.mem_of_getElem? (i := 815) (by decide +kernel), List.mem_of_getElem? (i := 1113) (by decide +kernel), List.mem_of_getElem? (i := 1114) (by decide +kernel)⟩
theorem lw_p71 : lw_okq (⟨"GrassCellsModel", "laysParts", "()V"⟩, 28) := ⟨⟨by decide +kernel, by decide +kernel⟩, List.mem_of_getElem? (i := 815) (by decide +kernel), List.mem_of_getElem? (i := 1122) (by decide +kernel), List.mem_of_getElem? (i := 1123) (by decide +kernel)⟩
theorem lw_p72 : lw_okq (⟨"GrassCellsModel", "hang", "(II)Z"⟩, 28) := ⟨⟨by decide +kernel, by decide +kernel⟩, List.mem_of_getElem? (i := 815) (by decide +kernel), List.mem_of_getElem? (i := 1126) (by decide +kernel), List.mem_of_getElem? (i := 1127) (by decide +kernel)⟩
theorem lw_p73 : lw_okq (⟨"GrassCellsModel", "isSet", "(I)Z"⟩, 28) := ⟨⟨by decide +kernel, by decide +kernel⟩, List.mem_of_getElem? (i := 815) (by decide +kernel), List.mem_of_getElem? (i := 1134) (by decide +kernel), List.mem_of_getElem? (i := 1135) (by decide +kernel)⟩
theorem lw_p74 : lw_okq (⟨"GrassCellsModel", "laysPaths", "(I)V"⟩, 28) := ⟨⟨by decide +kernel, by decide +kernel⟩, List.mem_of_getElem? (i := 815) (by decide +kernel), List.mem_of_getElem? (i := 1139) (by decide +kernel), List.mem_of_getElem? (i := 1140) (by decide +kernel)⟩
theorem lw_p75 : lw_okq (⟨"GrassCellsModel", "plusToRight", "(II)I"⟩, 28) := ⟨⟨by decide +kernel, by decide +kernel⟩, List.mem_of_getElem? (i := 815) (by decide +kernel), List.mem_of_getElem? (i := 1143) (by decide +kernel), List.mem_of_getElem? (i := 1144) (by decide +kernel)⟩
theorem lw_p76 : lw_okq (⟨"GrassCellsModel", "plusAbove", "(II)I"⟩, 28) := ⟨⟨by decide +kernel, by decide +kernel⟩, List.mem_of_getElem? (i := 815) (by decide +kernel), List.mem_of_getElem? (i := 1147) (by decide +kernel), List.mem_of_getElem? (i := 1148) (by decide +kernel)⟩
theorem lw_p77 : lw_okq (⟨"GrassCellsModel", "endsAt", "(I)J"⟩, 28) := ⟨⟨by decide +kernel, by decide +kernel⟩, List.mem_of_getElem? (i := 815) (by decide +kernel), List.mem_of_getElem? (i := 1151) (by decide +kernel), List.mem_of_getElem? (i := 1152) (by decide +kernel)⟩
theorem lw_p78 : lw_okq (⟨"GrassCellsModel", "determinant", "(I)J"⟩, 28) := ⟨⟨by decide +kernel, by decide +kernel⟩, List.mem_of_getElem? (i := 815) (by decide +kernel), List.mem_of_getElem? (i := 1155) (by decide +kernel), List.mem_of_getElem? (i := 1156) (by decide +kernel)⟩
theorem lw_p79 : lw_okq (⟨"GrassCellsModel", "of", "(II)J"⟩, 28) := ⟨⟨by decide +kernel, by decide +kernel⟩, List.mem_of_getElem? (i := 815) (by decide +kernel), List.mem_of_getElem? (i := 1159) (by decide +kernel), List.mem_of_getElem? (i := 1160) (by decide +kernel)⟩
def lw_privs_5 : List (MethodName × Nat) := [(⟨"GrassCellsModel", "isAtLeast", "(III)Z"⟩, 28), (⟨"GrassCellsModel", "laysCluster", "()V"⟩, 28), (⟨"GrassCellsModel", "crossesNone", "(I)Z"⟩, 28), (⟨"GrassCellsModel", "doCross", "(II)Z"⟩, 28), (⟨"GrassCellsModel", "isLabel", "(I)Z"⟩, 28), (⟨"GrassCellsModel", "isCell", "()Z"⟩, 28), (⟨"GrassCellsModel", "isBasisHere", "(I)Z"⟩, 28), (⟨"GrassCellsModel", "laysParts", "()V"⟩, 28), (⟨"GrassCellsModel", "hang", "(II)Z"⟩, 28), (⟨"GrassCellsModel", "isSet", "(I)Z"⟩, 28), (⟨"GrassCellsModel", "laysPaths", "(I)V"⟩, 28), (⟨"GrassCellsModel", "plusToRight", "(II)I"⟩, 28), (⟨"GrassCellsModel", "plusAbove", "(II)I"⟩, 28), (⟨"GrassCellsModel", "endsAt", "(I)J"⟩, 28), (⟨"GrassCellsModel", "determinant", "(I)J"⟩, 28), (⟨"GrassCellsModel", "of", "(II)J"⟩, 28)]
theorem lw_r5 : ∀ q ∈ lw_privs_5, lw_okq q := List.forall_mem_cons.mpr ⟨lw_p64, List.forall_mem_cons.mpr ⟨lw_p65, List.forall_mem_cons.mpr ⟨lw_p66, List.forall_mem_cons.mpr ⟨lw_p67, List.forall_mem_cons.mpr ⟨lw_p68, List.forall_mem_cons.mpr ⟨lw_p69, List.forall_mem_cons.mpr ⟨lw_p70, List.forall_mem_cons.mpr ⟨lw_p71, List.forall_mem_cons.mpr ⟨lw_p72, List.forall_mem_cons.mpr ⟨lw_p73, List.forall_mem_cons.mpr ⟨lw_p74, List.forall_mem_cons.mpr ⟨lw_p75, List.forall_mem_cons.mpr ⟨lw_p76, List.forall_mem_cons.mpr ⟨lw_p77, List.forall_mem_cons.mpr ⟨lw_p78, List.forall_mem_cons.mpr ⟨lw_p79, fun _ h => absurd h List.not_mem_nil⟩⟩⟩⟩⟩⟩⟩⟩⟩⟩⟩⟩⟩⟩⟩⟩
theorem lw_p80 : lw_okq (⟨"GrassCellsModel", "two", "(IIII)J"⟩, 28) := ⟨⟨by decide +kernel, by decide +kernel⟩, List.mem_of_getElem? (i := 815) (by decide +kernel), List.mem_of_getElem? (i := 1163) (by decide +kernel), List.mem_of_getElem? (i := 1164) (by decide +kernel)⟩
theorem lw_p81 : lw_okq (⟨"GrassCellsModel", "three", "(III)J"⟩, 28) := ⟨⟨by decide +kernel, by decide +kernel⟩, List.mem_of_getElem? (i := 815) (by decide +kernel), List.mem_of_getElem? (i := 1167) (by decide +kernel), List.mem_of_getElem? (i := 1168) (by decide +kernel)⟩
theorem lw_p82 : lw_okq (⟨"GrassCellsModel", "squareAt", "(I)I"⟩, 28) := ⟨⟨by decide +kernel, by decide +kernel⟩, List.mem_of_getElem? (i := 815) (by decide +kernel), List.mem_of_getElem? (i := 1183) (by decide +kernel), List.mem_of_getElem? (i := 1184) (by decide +kernel)⟩
theorem lw_p83 : lw_okq (⟨"GrassCellsModel", "isOfNeck", "(I)Z"⟩, 28) := ⟨⟨by decide +kernel, by decide +kernel⟩, List.mem_of_getElem? (i := 815) (by decide +kernel), List.mem_of_getElem? (i := 1187) (by decide +kernel), List.mem_of_getElem? (i := 1188) (by decide +kernel)⟩
theorem lw_p84 : lw_okq (⟨"GrassCellsModel", "squareBy", "(III)I"⟩, 28) := ⟨⟨by decide +kernel, by decide +kernel⟩, List.mem_of_getElem? (i := 815) (by decide +kernel), List.mem_of_getElem? (i := 1191) (by decide +kernel), List.mem_of_getElem? (i := 1192) (by decide +kernel)⟩
theorem lw_p85 : lw_okq (⟨"GrassCellsModel", "isThere", "(III)Z"⟩, 28) := ⟨⟨by decide +kernel, by decide +kernel⟩, List.mem_of_getElem? (i := 815) (by decide +kernel), List.mem_of_getElem? (i := 1195) (by decide +kernel), List.mem_of_getElem? (i := 1196) (by decide +kernel)⟩
theorem lw_p86 : lw_okq (⟨"GrassCellsModel", "toldNext", "(III)I"⟩, 28) := ⟨⟨by decide +kernel, by decide +kernel⟩, List.mem_of_getElem? (i := 815) (by decide +kernel), List.mem_of_getElem? (i := 1211) (by decide +kernel), List.mem_of_getElem? (i := 1212) (by decide +kernel)⟩
theorem lw_p87 : lw_okq (⟨"GrassCellsModel", "nextOnes", "(II)I"⟩, 28) := ⟨⟨by decide +kernel, by decide +kernel⟩, List.mem_of_getElem? (i := 815) (by decide +kernel), List.mem_of_getElem? (i := 1215) (by decide +kernel), List.mem_of_getElem? (i := 1216) (by decide +kernel)⟩
theorem lw_p88 : lw_okq (⟨"GrassCellsModel", "swaps", "(II)Z"⟩, 28) := ⟨⟨by decide +kernel, by decide +kernel⟩, List.mem_of_getElem? (i := 815) (by decide +kernel), List.mem_of_getElem? (i := 1225) (by decide +kernel), List.mem_of_getElem? (i := 1226) (by decide +kernel)⟩
theorem lw_p89 : lw_okq (⟨"GrassCellsModel", "isNext", "(II)Z"⟩, 28) := ⟨⟨by decide +kernel, by decide +kernel⟩, List.mem_of_getElem? (i := 815) (by decide +kernel), List.mem_of_getElem? (i := 1229) (by decide +kernel), List.mem_of_getElem? (i := 1230) (by decide +kernel)⟩
theorem lw_p90 : lw_okq (⟨"GrassCellsModel", "goes", "(II)I"⟩, 28) := ⟨⟨by decide +kernel, by decide +kernel⟩, List.mem_of_getElem? (i := 815) (by decide +kernel), List.mem_of_getElem? (i := 1241) (by decide +kernel), List.mem_of_getElem? (i := 1242) (by decide +kernel)⟩
theorem lw_p91 : lw_okq (⟨"GrassCellsModel", "dim", "()I"⟩, 28) := ⟨⟨by decide +kernel, by decide +kernel⟩, List.mem_of_getElem? (i := 815) (by decide +kernel), List.mem_of_getElem? (i := 1245) (by decide +kernel), List.mem_of_getElem? (i := 1246) (by decide +kernel)⟩
theorem lw_p92 : lw_okq (⟨"GrassCellsModel", "becomesNew", "()V"⟩, 28) := ⟨⟨by decide +kernel, by decide +kernel⟩, List.mem_of_getElem? (i := 815) (by decide +kernel), List.mem_of_getElem? (i := 1261) (by decide +kernel), List.mem_of_getElem? (i := 1262) (by decide +kernel)⟩
theorem lw_p93 : lw_okq (⟨"GrassCellsModel", "leastFrom", "(I)I"⟩, 28) := ⟨⟨by decide +kernel, by decide +kernel⟩, List.mem_of_getElem? (i := 815) (by decide +kernel), List.mem_of_getElem? (i := 1265) (by decide +kernel), List.mem_of_getElem? (i := 1266) (by decide +kernel)⟩
theorem lw_p94 : lw_okq (⟨"GrassCellsModel", "isFree", "(II)Z"⟩, 28) := ⟨⟨by decide +kernel, by decide +kernel⟩, List.mem_of_getElem? (i := 815) (by decide +kernel), List.mem_of_getElem? (i := 1279) (by decide +kernel), List.mem_of_getElem? (i := 1280) (by decide +kernel)⟩
theorem lw_p95 : lw_okq (⟨"GrassCellsModel", "isOne", "(III)Z"⟩, 28) := ⟨⟨by decide +kernel, by decide +kernel⟩, List.mem_of_getElem? (i := 815) (by decide +kernel), List.mem_of_getElem? (i := 1283) (by decide +kernel), List.mem_of_getElem? (i := 1284) (by decide +kernel)⟩
def lw_privs_6 : List (MethodName × Nat) := [(⟨"GrassCellsModel", "two", "(IIII)J"⟩, 28), (⟨"GrassCellsModel", "three", "(III)J"⟩, 28), (⟨"GrassCellsModel", "squareAt", "(I)I"⟩, 28), (⟨"GrassCellsModel", "isOfNeck", "(I)Z"⟩, 28), (⟨"GrassCellsModel", "squareBy", "(III)I"⟩, 28), (⟨"GrassCellsModel", "isThere", "(III)Z"⟩, 28), (⟨"GrassCellsModel", "toldNext", "(III)I"⟩, 28), (⟨"GrassCellsModel", "nextOnes", "(II)I"⟩, 28), (⟨"GrassCellsModel", "swaps", "(II)Z"⟩, 28), (⟨"GrassCellsModel", "isNext", "(II)Z"⟩, 28), (⟨"GrassCellsModel", "goes", "(II)I"⟩, 28), (⟨"GrassCellsModel", "dim", "()I"⟩, 28), (⟨"GrassCellsModel", "becomesNew", "()V"⟩, 28), (⟨"GrassCellsModel", "leastFrom", "(I)I"⟩, 28), (⟨"GrassCellsModel", "isFree", "(II)Z"⟩, 28), (⟨"GrassCellsModel", "isOne", "(III)Z"⟩, 28)]
theorem lw_r6 : ∀ q ∈ lw_privs_6, lw_okq q := List.forall_mem_cons.mpr ⟨lw_p80, List.forall_mem_cons.mpr ⟨lw_p81, List.forall_mem_cons.mpr ⟨lw_p82, List.forall_mem_cons.mpr ⟨lw_p83, List.forall_mem_cons.mpr ⟨lw_p84, List.forall_mem_cons.mpr ⟨lw_p85, List.forall_mem_cons.mpr ⟨lw_p86, List.forall_mem_cons.mpr ⟨lw_p87, List.forall_mem_cons.mpr ⟨lw_p88, List.forall_mem_cons.mpr ⟨lw_p89, List.forall_mem_cons.mpr ⟨lw_p90, List.forall_mem_cons.mpr ⟨lw_p91, List.forall_mem_cons.mpr ⟨lw_p92, List.forall_mem_cons.mpr ⟨lw_p93, List.forall_mem_cons.mpr ⟨lw_p94, List.forall_mem_cons.mpr ⟨lw_p95, fun _ h => absurd h List.not_mem_nil⟩⟩⟩⟩⟩⟩⟩⟩⟩⟩⟩⟩⟩⟩⟩⟩
theorem lw_p96 : lw_okq (⟨"GrassCellsModel", "laysItsNeck", "(I)V"⟩, 28) := ⟨⟨by decide +kernel, by decide +kernel⟩, List.mem_of_getElem? (i := 815) (by decide +kernel), List.mem_of_getElem? (i := 1296) (by decide +kernel), List.mem_of_getElem? (i := 1297) (by decide +kernel)⟩
theorem lw_p97 : lw_okq (⟨"GrassCellsModel", "loops", "(Z)I"⟩, 28) := ⟨⟨by decide +kernel, by decide +kernel⟩, List.mem_of_getElem? (i := 815) (by decide +kernel), List.mem_of_getElem? (i := 1305) (by decide +kernel), List.mem_of_getElem? (i := 1306) (by decide +kernel)⟩
theorem lw_p98 : lw_okq (⟨"GrassCellsModel", "parts", "()I"⟩, 28) := ⟨⟨by decide +kernel, by decide +kernel⟩, List.mem_of_getElem? (i := 815) (by decide +kernel), List.mem_of_getElem? (i := 1309) (by decide +kernel), List.mem_of_getElem? (i := 1310) (by decide +kernel)⟩
theorem lw_p99 : lw_okq (⟨"GrassCellsModel", "kept", "()I"⟩, 28) := ⟨⟨by decide +kernel, by decide +kernel⟩, List.mem_of_getElem? (i := 815) (by decide +kernel), List.mem_of_getElem? (i := 1313) (by decide +kernel), List.mem_of_getElem? (i := 1314) (by decide +kernel)⟩
def lw_privs_7 : List (MethodName × Nat) := [(⟨"GrassCellsModel", "laysItsNeck", "(I)V"⟩, 28), (⟨"GrassCellsModel", "loops", "(Z)I"⟩, 28), (⟨"GrassCellsModel", "parts", "()I"⟩, 28), (⟨"GrassCellsModel", "kept", "()I"⟩, 28)]
theorem lw_r7 : ∀ q ∈ lw_privs_7, lw_okq q := List.forall_mem_cons.mpr ⟨lw_p96, List.forall_mem_cons.mpr ⟨lw_p97, List.forall_mem_cons.mpr ⟨lw_p98, List.forall_mem_cons.mpr ⟨lw_p99, fun _ h => absurd h List.not_mem_nil⟩⟩⟩⟩
def lw_privs : List (MethodName × Nat) := lw_privs_1 ++ (lw_privs_2 ++ (lw_privs_3 ++ (lw_privs_4 ++ (lw_privs_5 ++ (lw_privs_6 ++ (lw_privs_7))))))
def lw_tbl : List Cond := k2_sels lw_privs ++ tables_1
theorem lw_privs_ok : ∀ q ∈ lw_privs, lw_okq q := by
  show ∀ q ∈ lw_privs_1 ++ (lw_privs_2 ++ (lw_privs_3 ++ (lw_privs_4 ++ (lw_privs_5 ++ (lw_privs_6 ++ (lw_privs_7)))))), lw_okq q
  exact List.forall_mem_append.mpr ⟨lw_r1, List.forall_mem_append.mpr ⟨lw_r2, List.forall_mem_append.mpr ⟨lw_r3, List.forall_mem_append.mpr ⟨lw_r4, List.forall_mem_append.mpr ⟨lw_r5, List.forall_mem_append.mpr ⟨lw_r6, lw_r7⟩⟩⟩⟩⟩⟩
def RX0 : String := "GrassCells$Cell"
def TX0 : u_T := fun k => match k with
  | 0 => ("GrassCells$Cell", "n", "I", false)
  | 1 => ("GrassCells$Cell", "size", "I", false)
  | 2 => ("GrassCells$Cell", "inversions", "I", false)
  | 3 => ("GrassCells$Cell", "baseCount", "I", false)
  | 4 => ("GrassCells$Cell", "image", "[I", true)
  | 5 => ("GrassCells$Cell", "necklace", "[I", true)
  | 6 => ("GrassCells$Cell", "baseList", "[I", true)
  | 7 => ("GrassCells$Cell", "diagram", "LGrassCells$Diagram;", true)
  | _ => ("GrassCells$Cell", "inBases", "[Z", true)
def tyX0 : Nat → FieldType := fun k => match k with
  | 0 => .int
  | 1 => .int
  | 2 => .int
  | 3 => .int
  | 4 => .array .int
  | 5 => .array .int
  | 6 => .array .int
  | 7 => .object "GrassCells$Diagram"
  | _ => .array .boolean
abbrev wsX00 : List Cond := u_ws RX0 TX0 9
theorem nmX0 : ∀ a, a < 9 → ∀ b, b < 9 → a ≠ b → (TX0 a).2.1 ≠ (TX0 b).2.1 := by decide +kernel
theorem tyX0_ok : ∀ k, k < 9 → parseFieldDescriptor (TX0 k).2.2.1 = some (tyX0 k) := by decide +kernel
theorem iX0 : ∀ w ∈ wsX00, w ∈ lw_tbl := by decide +kernel
def RX1 : String := "GrassCells$Census"
def TX1 : u_T := fun k => match k with
  | 0 => ("GrassCells$Census", "now", "[[I", false)
  | _ => ("GrassCells$Census", "then", "[[I", false)
def tyX1 : Nat → FieldType := fun k => match k with
  | 0 => .array (.array .int)
  | _ => .array (.array .int)
abbrev wsX10 : List Cond := u_ws RX1 TX1 2
theorem nmX1 : ∀ a, a < 2 → ∀ b, b < 2 → a ≠ b → (TX1 a).2.1 ≠ (TX1 b).2.1 := by decide +kernel
theorem tyX1_ok : ∀ k, k < 2 → parseFieldDescriptor (TX1 k).2.2.1 = some (tyX1 k) := by decide +kernel
theorem iX1 : ∀ w ∈ wsX10, w ∈ lw_tbl := by decide +kernel
def RX2 : String := "GrassCells$Collection"
def TX2 : u_T := fun k => match k with
  | 0 => ("GrassCells$Collection", "sets", "[I", true)
  | _ => ("GrassCells$Collection", "count", "I", false)
def tyX2 : Nat → FieldType := fun k => match k with
  | 0 => .array .int
  | _ => .int
abbrev wsX20 : List Cond := u_ws RX2 TX2 2
theorem nmX2 : ∀ a, a < 2 → ∀ b, b < 2 → a ≠ b → (TX2 a).2.1 ≠ (TX2 b).2.1 := by decide +kernel
theorem tyX2_ok : ∀ k, k < 2 → parseFieldDescriptor (TX2 k).2.2.1 = some (tyX2 k) := by decide +kernel
theorem iX2 : ∀ w ∈ wsX20, w ∈ lw_tbl := by decide +kernel
def RX3 : String := "GrassCells$Diagram"
def TX3 : u_T := fun k => match k with
  | 0 => ("GrassCells$Diagram", "n", "I", false)
  | 1 => ("GrassCells$Diagram", "first", "I", false)
  | 2 => ("GrassCells$Diagram", "plus", "[I", true)
  | 3 => ("GrassCells$Diagram", "atLeft", "[I", true)
  | 4 => ("GrassCells$Diagram", "atTop", "[I", true)
  | 5 => ("GrassCells$Diagram", "below", "[J", true)
  | 6 => ("GrassCells$Diagram", "paths", "[[J", true)
  | _ => ("GrassCells$Diagram", "minors", "[J", true)
def tyX3 : Nat → FieldType := fun k => match k with
  | 0 => .int
  | 1 => .int
  | 2 => .array .int
  | 3 => .array .int
  | 4 => .array .int
  | 5 => .array .long
  | 6 => .array (.array .long)
  | _ => .array .long
abbrev wsX30 : List Cond := u_ws RX3 TX3 8
theorem nmX3 : ∀ a, a < 8 → ∀ b, b < 8 → a ≠ b → (TX3 a).2.1 ≠ (TX3 b).2.1 := by decide +kernel
theorem tyX3_ok : ∀ k, k < 8 → parseFieldDescriptor (TX3 k).2.2.1 = some (tyX3 k) := by decide +kernel
theorem iX3 : ∀ w ∈ wsX30, w ∈ lw_tbl := by decide +kernel
def RX4 : String := "GrassCells$Moment"
def TX4 : u_T := fun k => match k with
  | 0 => ("GrassCells$Moment", "image", "[I", true)
  | 1 => ("GrassCells$Moment", "collection", "LGrassCells$Collection;", true)
  | _ => ("GrassCells$Moment", "n", "I", false)
def tyX4 : Nat → FieldType := fun k => match k with
  | 0 => .array .int
  | 1 => .object "GrassCells$Collection"
  | _ => .int
abbrev wsX40 : List Cond := u_ws RX4 TX4 3
theorem nmX4 : ∀ a, a < 3 → ∀ b, b < 3 → a ≠ b → (TX4 a).2.1 ≠ (TX4 b).2.1 := by decide +kernel
theorem tyX4_ok : ∀ k, k < 3 → parseFieldDescriptor (TX4 k).2.2.1 = some (tyX4 k) := by decide +kernel
theorem iX4 : ∀ w ∈ wsX40, w ∈ lw_tbl := by decide +kernel
def RX5 : String := "GrassCells$Neighbours"
def TX5 : u_T := fun k => match k with
  | 0 => ("GrassCells$Neighbours", "image", "[I", true)
  | _ => ("GrassCells$Neighbours", "found", "I", false)
def tyX5 : Nat → FieldType := fun k => match k with
  | 0 => .array .int
  | _ => .int
abbrev wsX50 : List Cond := u_ws RX5 TX5 2
theorem nmX5 : ∀ a, a < 2 → ∀ b, b < 2 → a ≠ b → (TX5 a).2.1 ≠ (TX5 b).2.1 := by decide +kernel
theorem tyX5_ok : ∀ k, k < 2 → parseFieldDescriptor (TX5 k).2.2.1 = some (tyX5 k) := by decide +kernel
theorem iX5 : ∀ w ∈ wsX50, w ∈ lw_tbl := by decide +kernel
def RX6 : String := "GrassCells$Past"
def TX6 : u_T := fun k => match k with
  | 0 => ("GrassCells$Past", "ring", "[LGrassCells$Moment;", true)
  | 1 => ("GrassCells$Past", "newest", "I", false)
  | _ => ("GrassCells$Past", "count", "I", false)
def tyX6 : Nat → FieldType := fun k => match k with
  | 0 => .array (.object "GrassCells$Moment")
  | 1 => .int
  | _ => .int
abbrev wsX60 : List Cond := u_ws RX6 TX6 3
theorem nmX6 : ∀ a, a < 3 → ∀ b, b < 3 → a ≠ b → (TX6 a).2.1 ≠ (TX6 b).2.1 := by decide +kernel
theorem tyX6_ok : ∀ k, k < 3 → parseFieldDescriptor (TX6 k).2.2.1 = some (tyX6 k) := by decide +kernel
theorem iX6 : ∀ w ∈ wsX60, w ∈ lw_tbl := by decide +kernel
def RX7 : String := "GrassCells$Reader"
def TX7 : u_T := fun k => match k with
  | 0 => ("GrassCells$Reader", "tape", "LGrassCells$Tape;", true)
  | 1 => ("GrassCells$Reader", "diagram", "LGrassCells$Diagram;", true)
  | 2 => ("GrassCells$Reader", "sets", "[I", true)
  | 3 => ("GrassCells$Reader", "begins", "[I", true)
  | 4 => ("GrassCells$Reader", "place", "I", false)
  | 5 => ("GrassCells$Reader", "size", "I", false)
  | 6 => ("GrassCells$Reader", "image", "[I", true)
  | _ => ("GrassCells$Reader", "n", "I", false)
def tyX7 : Nat → FieldType := fun k => match k with
  | 0 => .object "GrassCells$Tape"
  | 1 => .object "GrassCells$Diagram"
  | 2 => .array .int
  | 3 => .array .int
  | 4 => .int
  | 5 => .int
  | 6 => .array .int
  | _ => .int
abbrev wsX70 : List Cond := u_ws RX7 TX7 8
theorem nmX7 : ∀ a, a < 8 → ∀ b, b < 8 → a ≠ b → (TX7 a).2.1 ≠ (TX7 b).2.1 := by decide +kernel
theorem tyX7_ok : ∀ k, k < 8 → parseFieldDescriptor (TX7 k).2.2.1 = some (tyX7 k) := by decide +kernel
theorem iX7 : ∀ w ∈ wsX70, w ∈ lw_tbl := by decide +kernel
def RX9 : String := "GrassCells$Shelf"
def TX9 : u_T := fun k => match k with
  | 0 => ("GrassCells$Shelf", "n", "I", false)
  | 1 => ("GrassCells$Shelf", "size", "I", false)
  | 2 => ("GrassCells$Shelf", "baseCount", "I", false)
  | _ => ("GrassCells$Shelf", "baseList", "[I", true)
def tyX9 : Nat → FieldType := fun k => match k with
  | 0 => .int
  | 1 => .int
  | 2 => .int
  | _ => .array .int
abbrev wsX90 : List Cond := u_ws RX9 TX9 4
theorem nmX9 : ∀ a, a < 4 → ∀ b, b < 4 → a ≠ b → (TX9 a).2.1 ≠ (TX9 b).2.1 := by decide +kernel
theorem tyX9_ok : ∀ k, k < 4 → parseFieldDescriptor (TX9 k).2.2.1 = some (tyX9 k) := by decide +kernel
theorem iX9 : ∀ w ∈ wsX90, w ∈ lw_tbl := by decide +kernel
def RX10 : String := "GrassCells$Tape"
def TX10 : u_T := fun k => match k with
  | 0 => ("GrassCells$Tape", "bytes", "[I", true)
  | _ => ("GrassCells$Tape", "size", "I", false)
def tyX10 : Nat → FieldType := fun k => match k with
  | 0 => .array .int
  | _ => .int
abbrev wsX100 : List Cond := u_ws RX10 TX10 2
theorem nmX10 : ∀ a, a < 2 → ∀ b, b < 2 → a ≠ b → (TX10 a).2.1 ≠ (TX10 b).2.1 := by decide +kernel
theorem tyX10_ok : ∀ k, k < 2 → parseFieldDescriptor (TX10 k).2.2.1 = some (tyX10 k) := by decide +kernel
theorem iX10 : ∀ w ∈ wsX100, w ∈ lw_tbl := by decide +kernel
def RX11 : String := "GrassCells"
def TX11 : u_T := fun k => match k with
  | 0 => ("GrassCells", "reader", "LGrassCells$Reader;", true)
  | 1 => ("GrassCells", "live", "LGrassCells$Cell;", true)
  | 2 => ("GrassCells", "clusterNow", "LGrassCells$Collection;", true)
  | 3 => ("GrassCells", "neighbours", "LGrassCells$Neighbours;", true)
  | 4 => ("GrassCells", "past", "LGrassCells$Past;", true)
  | 5 => ("GrassCells", "census", "LGrassCells$Census;", true)
  | 6 => ("GrassCells", "shelves", "[LGrassCells$Shelf;", true)
  | _ => ("GrassCells", "scratch", "[I", true)
def tyX11 : Nat → FieldType := fun k => match k with
  | 0 => .object "GrassCells$Reader"
  | 1 => .object "GrassCells$Cell"
  | 2 => .object "GrassCells$Collection"
  | 3 => .object "GrassCells$Neighbours"
  | 4 => .object "GrassCells$Past"
  | 5 => .object "GrassCells$Census"
  | 6 => .array (.object "GrassCells$Shelf")
  | _ => .array .int
abbrev wsX110 : List Cond := u_ws RX11 TX11 8
theorem nmX11 : ∀ a, a < 8 → ∀ b, b < 8 → a ≠ b → (TX11 a).2.1 ≠ (TX11 b).2.1 := by decide +kernel
theorem tyX11_ok : ∀ k, k < 8 → parseFieldDescriptor (TX11 k).2.2.1 = some (tyX11 k) := by decide +kernel
theorem iX11 : ∀ w ∈ wsX110, w ∈ lw_tbl := by decide +kernel
def RX12 : String := "GrassCellsModel"
def TX12 : u_T := fun k => match k with
  | 0 => ("GrassCellsModel", "tape", "[B", true)
  | 1 => ("GrassCellsModel", "taped", "I", false)
  | 2 => ("GrassCellsModel", "at", "I", false)
  | 3 => ("GrassCellsModel", "wrong", "I", false)
  | 4 => ("GrassCellsModel", "words", "[B", true)
  | 5 => ("GrassCellsModel", "readN", "I", false)
  | 6 => ("GrassCellsModel", "readF", "[I", true)
  | 7 => ("GrassCellsModel", "places", "[I", true)
  | 8 => ("GrassCellsModel", "readSet", "[I", true)
  | 9 => ("GrassCellsModel", "boxes", "[I", true)
  | 10 => ("GrassCellsModel", "n", "I", false)
  | 11 => ("GrassCellsModel", "f", "[I", true)
  | 12 => ("GrassCellsModel", "k", "I", false)
  | 13 => ("GrassCellsModel", "neck", "[I", true)
  | 14 => ("GrassCellsModel", "isBasis", "[Z", true)
  | 15 => ("GrassCellsModel", "inCluster", "[Z", true)
  | 16 => ("GrassCellsModel", "partOf", "[I", true)
  | 17 => ("GrassCellsModel", "come", "[J", true)
  | 18 => ("GrassCellsModel", "matrix", "[J", true)
  | 19 => ("GrassCellsModel", "was", "[I", true)
  | 20 => ("GrassCellsModel", "undone", "I", false)
  | 21 => ("GrassCellsModel", "other", "[I", true)
  | 22 => ("GrassCellsModel", "isNew", "[Z", true)
  | 23 => ("GrassCellsModel", "newNeck", "[I", true)
  | 24 => ("GrassCellsModel", "tried", "[I", true)
  | 25 => ("GrassCellsModel", "shelfN", "[I", true)
  | 26 => ("GrassCellsModel", "shelfF", "[I", true)
  | _ => ("GrassCellsModel", "itsNeck", "[I", true)
def tyX12 : Nat → FieldType := fun k => match k with
  | 0 => .array .byte
  | 1 => .int
  | 2 => .int
  | 3 => .int
  | 4 => .array .byte
  | 5 => .int
  | 6 => .array .int
  | 7 => .array .int
  | 8 => .array .int
  | 9 => .array .int
  | 10 => .int
  | 11 => .array .int
  | 12 => .int
  | 13 => .array .int
  | 14 => .array .boolean
  | 15 => .array .boolean
  | 16 => .array .int
  | 17 => .array .long
  | 18 => .array .long
  | 19 => .array .int
  | 20 => .int
  | 21 => .array .int
  | 22 => .array .boolean
  | 23 => .array .int
  | 24 => .array .int
  | 25 => .array .int
  | 26 => .array .int
  | _ => .array .int
abbrev wsX120 : List Cond := u_ws RX12 TX12 28
theorem nmX12 : ∀ a, a < 28 → ∀ b, b < 28 → a ≠ b → (TX12 a).2.1 ≠ (TX12 b).2.1 := by decide +kernel
theorem tyX12_ok : ∀ k, k < 28 → parseFieldDescriptor (TX12 k).2.2.1 = some (tyX12 k) := by decide +kernel
theorem iX12 : ∀ w ∈ wsX120, w ∈ lw_tbl := by decide +kernel
def q_cls : List vw_C := [(RX0, TX0, 9), (RX1, TX1, 2), (RX2, TX2, 2), (RX3, TX3, 8), (RX4, TX4, 3), (RX5, TX5, 2), (RX6, TX6, 3), (RX7, TX7, 8), (RX9, TX9, 4), (RX10, TX10, 2), (RX11, TX11, 8), (RX12, TX12, 28)]
/-- the fields of a class: 0 an int, 2 a reference -/
def q_ft (c : Nat) : List Nat := match [[0, 0, 0, 0, 2, 2, 2, 2, 2], [2, 2], [2, 0], [0, 0, 2, 2, 2, 2, 2, 2], [2, 2, 0], [2, 0], [2, 0, 0], [2, 2, 2, 2, 0, 0, 2, 0], [0, 0, 0, 2], [2, 0], [2, 2, 2, 2, 2, 2, 2, 2], [2, 0, 0, 0, 2, 0, 2, 2, 2, 2, 0, 2, 0, 2, 2, 2, 2, 2, 2, 2, 0, 2, 2, 2, 2, 2, 2, 2]][c]? with
  | some l => l
  | none => []
def q_ClsOK (C : String) (T : u_T) (N : Nat) (fl : List Nat) : Prop := fl.length = N ∧ (∀ w ∈ u_ws C T N, w ∈ lw_tbl) ∧ (∀ a, a < N → ∀ b, b < N → a ≠ b → (T a).2.1 ≠ (T b).2.1) ∧ ∃ ty0 : Nat → FieldType, (∀ k, k < N → parseFieldDescriptor (T k).2.2.1 = some (ty0 k)) ∧ ∀ k, k < N → (fl[k]? = some 0 ∧ ty0 k = .int) ∨ (fl[k]? = some 2 ∧ (ty0 k).isReference = true)
theorem q_clsok_0 : q_ClsOK RX0 TX0 9 (q_ft 0) := ⟨by decide +kernel, iX0, nmX0, tyX0, tyX0_ok, by decide +kernel⟩
theorem q_clsok_1 : q_ClsOK RX1 TX1 2 (q_ft 1) := ⟨by decide +kernel, iX1, nmX1, tyX1, tyX1_ok, by decide +kernel⟩
theorem q_clsok_2 : q_ClsOK RX2 TX2 2 (q_ft 2) := ⟨by decide +kernel, iX2, nmX2, tyX2, tyX2_ok, by decide +kernel⟩
theorem q_clsok_3 : q_ClsOK RX3 TX3 8 (q_ft 3) := ⟨by decide +kernel, iX3, nmX3, tyX3, tyX3_ok, by decide +kernel⟩
theorem q_clsok_4 : q_ClsOK RX4 TX4 3 (q_ft 4) := ⟨by decide +kernel, iX4, nmX4, tyX4, tyX4_ok, by decide +kernel⟩
theorem q_clsok_5 : q_ClsOK RX5 TX5 2 (q_ft 5) := ⟨by decide +kernel, iX5, nmX5, tyX5, tyX5_ok, by decide +kernel⟩
theorem q_clsok_6 : q_ClsOK RX6 TX6 3 (q_ft 6) := ⟨by decide +kernel, iX6, nmX6, tyX6, tyX6_ok, by decide +kernel⟩
theorem q_clsok_7 : q_ClsOK RX7 TX7 8 (q_ft 7) := ⟨by decide +kernel, iX7, nmX7, tyX7, tyX7_ok, by decide +kernel⟩
theorem q_clsok_8 : q_ClsOK RX9 TX9 4 (q_ft 8) := ⟨by decide +kernel, iX9, nmX9, tyX9, tyX9_ok, by decide +kernel⟩
theorem q_clsok_9 : q_ClsOK RX10 TX10 2 (q_ft 9) := ⟨by decide +kernel, iX10, nmX10, tyX10, tyX10_ok, by decide +kernel⟩
theorem q_clsok_10 : q_ClsOK RX11 TX11 8 (q_ft 10) := ⟨by decide +kernel, iX11, nmX11, tyX11, tyX11_ok, by decide +kernel⟩
theorem q_clsok_11 : q_ClsOK RX12 TX12 28 (q_ft 11) := ⟨by decide +kernel, iX12, nmX12, tyX12, tyX12_ok, by decide +kernel⟩
theorem q_cls_ok : ∀ (ci : Nat) (C : String) (T : u_T) (N : Nat), q_cls[ci]? = some (C, T, N) → q_ClsOK C T N (q_ft ci)
  | 0, _, _, _, h => by cases h; exact q_clsok_0
  | 1, _, _, _, h => by cases h; exact q_clsok_1
  | 2, _, _, _, h => by cases h; exact q_clsok_2
  | 3, _, _, _, h => by cases h; exact q_clsok_3
  | 4, _, _, _, h => by cases h; exact q_clsok_4
  | 5, _, _, _, h => by cases h; exact q_clsok_5
  | 6, _, _, _, h => by cases h; exact q_clsok_6
  | 7, _, _, _, h => by cases h; exact q_clsok_7
  | 8, _, _, _, h => by cases h; exact q_clsok_8
  | 9, _, _, _, h => by cases h; exact q_clsok_9
  | 10, _, _, _, h => by cases h; exact q_clsok_10
  | 11, _, _, _, h => by cases h; exact q_clsok_11
  | _ + 12, _, _, _, h => by simp [q_cls] at h
def qp_Law_law : List Nat := [0, 3, 4, 7, 8, 11, 12, 15, 16, 17, 18, 19, 20, 21, 23, 24, 27, 28, 29, 30, 32, 33, 160, 161, 162, 163, 164, 165, 166, 167, 168, 169, 170, 171, 172, 173, 174, 175, 176, 177, 178, 179, 180, 181, 182, 183, 184, 185, 186, 189, 190, 191, 192, 193, 194, 195, 196, 197, 198, 199, 200, 201, 202, 203, 204, 205, 206, 207, 208, 209, 210, 211, 212, 213, 214, 215, 218, 221, 222, 223, 224, 225, 226, 227, 228, 229, 232, 233, 234, 235, 236, 237, 238, 241, 244, 245, 246, 247, 250, 251, 254, 257, 258, 259, 260, 261, 262, 263, 264, 265, 268, 269, 270, 271, 272, 273, 274, 277, 280, 281, 282, 283, 284, 285, 286, 287, 288, 291, 292, 293, 294, 295, 296, 297, 300, 303, 304, 305, 306, 307, 308, 309, 310, 311, 312, 313, 314, 315, 316, 319, 320, 321, 322, 323, 324, 325, 326, 327, 328, 329, 330, 333, 336, 337, 338, 339, 342, 343, 346, 349, 350, 351, 352, 353, 354, 355, 356, 357, 360, 361, 362, 363, 364, 365, 366, 369, 372, 373, 374, 375, 376, 377, 378, 379, 380, 383, 384, 385, 386, 387, 388, 389, 392, 395, 396, 397, 398, 399, 400, 401, 402, 403, 404, 405, 406, 407, 408, 409, 410, 411, 412, 413, 416, 417, 418, 419, 420, 421, 422, 423, 424, 425, 426, 427, 428, 429, 430, 431, 432, 435, 438, 439, 440, 441, 442, 443, 444, 445, 446, 449, 450, 451, 452, 453, 454, 455, 458, 461, 462, 463, 464, 465, 466, 467, 468, 469, 472, 473, 474, 475, 476, 477, 478, 481, 482, 485, 486, 487, 488, 489, 490, 491, 492, 493, 494, 495, 496, 497, 498, 501, 502, 503, 504, 505, 506, 507, 508, 509, 510, 511, 512, 515, 518, 519, 520, 521, 522, 523, 524, 525, 526, 529, 530, 531, 532, 533, 534, 535, 538, 541, 542, 543, 544, 545, 546, 547, 548, 549, 552, 553, 554, 555, 556, 557, 558, 561, 564, 565, 566, 567, 568, 569, 570, 571, 572, 575, 576, 577, 578, 579, 580, 581, 584, 587, 588, 589, 590, 591, 592, 593, 594, 595, 596, 597, 598, 599, 600, 603, 604, 605, 606, 607, 608, 609, 610, 611, 612, 613, 614, 617, 620, 621, 622, 623, 624, 625, 626, 627, 628, 629, 630, 631, 632, 633, 636, 637, 638, 639, 640, 641, 642, 643, 644, 645, 646, 647, 650, 653, 654, 655, 656, 657, 658, 659, 660, 661, 664, 665, 666, 667, 668, 669, 670, 673, 676, 677, 678, 679, 680, 681, 682, 683, 684, 687, 688, 689, 690, 691, 692, 693, 696, 699, 700, 701, 702, 705, 706, 709, 712, 713, 714, 715, 718, 719, 722, 725, 726, 727, 728, 731, 732, 735, 738, 739, 740, 741, 744, 745, 748, 751, 752, 753, 754, 755, 756, 757, 758, 759, 760, 761, 762, 763, 764, 765, 766, 767, 768, 769, 772, 773, 774, 775, 776, 777, 778, 779, 780, 781, 782, 783, 784, 785, 786, 787, 788, 791, 794, 795, 796, 797, 798, 799, 800, 801, 802, 805, 806, 807, 808, 809, 810, 811, 814, 817, 818, 819, 820, 821, 822, 823, 824, 825, 828, 829, 830, 831, 832, 833, 834, 837, 840, 841, 842, 843, 844, 845, 846, 847, 848, 851, 852, 853, 854, 855, 856, 857, 860, 863, 864, 865, 868, 871, 872]
def qh_Law_law : List (List Nat) := [[1018, 1019, 1001], [], [1020, 1021, 0], [], [4094, 4095, 1012], [], [4096, 4097, 0], [], [], [], [], [], [], [], [], [], [], [], [], [], [], [], [], [], [], [], [], [], [], [], [], [], [], [], [], [], [], [], [], [], [], [], [], [], [], [], [], [], [2063, 2064, 2065], [], [], [], [], [], [], [], [], [], [], [], [], [], [], [], [], [], [], [], [], [], [], [], [], [], [], [4186, 4187, 4188], [], [], [], [], [], [], [], [], [], [2071, 2072, 2073], [], [], [], [], [], [], [4190, 4191, 4192], [], [], [], [], [2075, 2076, 2077], [], [4197, 4198, 4199], [], [], [], [], [], [], [], [], [], [3055, 3056, 3057], [], [], [], [], [], [], [5113, 5114, 5115], [], [], [], [], [], [], [], [], [], [3063, 3064, 3065], [], [], [], [], [], [], [5121, 5122, 5123], [], [], [], [], [], [], [], [], [], [], [], [], [], [], [3067, 3068, 3069], [], [], [], [], [], [], [], [], [], [], [], [5125, 5126, 5127], [], [], [], [], [3073, 3074, 3075], [], [5129, 5130, 5131], [], [], [], [], [], [], [], [], [], [3077, 3078, 3079], [], [], [], [], [], [], [5137, 5138, 5139], [], [], [], [], [], [], [], [], [], [3081, 3082, 3083], [], [], [], [], [], [], [5144, 5145, 5146], [], [], [], [], [], [], [], [], [], [], [], [], [], [], [], [], [], [], [], [3093, 3094, 3095], [], [], [], [], [], [], [], [], [], [], [], [], [], [], [], [], [5148, 5149, 5150], [], [], [], [], [], [], [], [], [], [3108, 3109, 3110], [], [], [], [], [], [], [5157, 5158, 5159], [], [], [], [], [], [], [], [], [], [3122, 3123, 3124], [], [], [], [], [], [], [5169, 5170, 5171], [], [], [], [], [], [], [], [], [], [], [], [], [], [], [], [3147, 3148, 3149], [], [], [], [], [], [], [], [], [], [], [], [5210, 5211, 5212], [], [], [], [], [], [], [], [], [], [3152, 3153, 3154], [], [], [], [], [], [], [5214, 5215, 5216], [], [], [], [], [], [], [], [], [], [3156, 3157, 3158], [], [], [], [], [], [], [5218, 5219, 5220], [], [], [], [], [], [], [], [], [], [3178, 3179, 3180], [], [], [], [], [], [], [5238, 5239, 6000], [], [], [], [], [], [], [], [], [], [], [], [], [], [], [3187, 3188, 3189], [], [], [], [], [], [], [], [], [], [], [], [6006, 6007, 6008], [], [], [], [], [], [], [], [], [], [], [], [], [], [], [3209, 3210, 3211], [], [], [], [], [], [], [], [], [], [], [], [6032, 6033, 6034], [], [], [], [], [], [], [], [], [], [3213, 3214, 3215], [], [], [], [], [], [], [6036, 6037, 6038], [], [], [], [], [], [], [], [], [], [3229, 3230, 3231], [], [], [], [], [], [], [6048, 6049, 6050], [], [], [], [], [3233, 3234, 3235], [], [6052, 6053, 6054], [], [], [], [], [3237, 3238, 3239], [], [6056, 6057, 6058], [], [], [], [], [4005, 4006, 4007], [], [6068, 6069, 6070], [], [], [], [], [4009, 4010, 4011], [], [6002, 6003, 6004], [], [], [], [], [], [], [], [], [], [], [], [], [], [], [], [], [], [], [], [4018, 4019, 4020], [], [], [], [], [], [], [], [], [], [], [], [], [], [], [], [], [6072, 6073, 6074], [], [], [], [], [], [], [], [], [], [4056, 4057, 4058], [], [], [], [], [], [], [6086, 6087, 6088], [], [], [], [], [], [], [], [], [], [4064, 4065, 4066], [], [], [], [], [], [], [6091, 6092, 6093], [], [], [], [], [], [], [], [], [], [4073, 4074, 4075], [], [], [], [], [], [], [6099, 6100, 6101], [], [], [], [], [], [], []]
def qp_GC_init : List Nat := [0, 1, 4, 5, 8, 9, 12, 15, 16, 19, 20, 23, 26, 27, 30, 31, 34, 37, 38, 41, 42, 45, 48, 49, 52, 53, 56, 59, 60, 63, 64, 67, 70, 71, 72, 75, 78, 79, 81, 83, 86, 87, 88, 89, 90, 93, 94, 97, 98, 101, 102, 105, 106, 109, 112]
def qh_GC_init : List (List Nat) := [[], [1023, 1024, 0], [], [1026, 1027, 1002], [], [1028, 1029, 1], [2038], [], [1111, 1112, 1005], [], [1113, 1114, 1], [2039], [], [1172, 1173, 1006], [], [1174, 1175, 1], [2040], [], [1187, 1188, 1007], [], [1189, 1190, 1], [2041], [], [1201, 1202, 1008], [], [1203, 1204, 0], [2042], [], [2002, 2003, 1010], [], [2004, 2005, 1], [2043], [], [], [2017, 2018], [2044], [], [], [1047], [2045], [], [], [], [], [], [], [2044], [], [2017, 2019, 1011], [], [2020, 2021, 1], [], [], [], []]
def qp_J_init : List Nat := [0]
def qh_J_init : List (List Nat) := [[]]
def qp_Re_init : List Nat := [0, 1, 4, 5, 8, 9, 12, 15, 16, 19, 20, 23, 26, 27, 29, 31, 34, 35, 37, 39, 42, 43, 45, 47, 50]
def qh_Re_init : List (List Nat) := [[], [1031, 1024, 0], [], [1032, 1033, 1003], [], [1034, 1035, 1], [1083], [], [1048, 1049, 1004], [], [1050, 1051, 1], [1085], [], [], [1047], [1086], [], [], [1047], [1087], [], [], [1047], [1090], []]
def qp_Ta_init : List Nat := [0, 1, 4, 5, 8, 10, 13]
def qh_Ta_init : List (List Nat) := [[], [1037, 1024, 0], [], [], [1047], [1038], []]
def qp_Di_init : List Nat := [0, 1, 4, 5, 7, 9, 12, 13, 15, 17, 20, 21, 23, 25, 28, 29, 31, 33, 36, 37, 39, 41, 45, 48, 49, 52, 54, 57]
def qh_Di_init : List (List Nat) := [[], [1053, 1024, 0], [], [], [1047], [1059], [], [], [1047], [1060], [], [], [1047], [1061], [], [], [1082], [1062], [], [], [], [1054, 1055, 1082], [1063], [], [], [1082], [1064], []]
def qp_Ce_init : List Nat := [0, 1, 4, 5, 7, 9, 12, 13, 15, 17, 20, 21, 23, 25, 28, 29, 32, 33, 36, 39, 40, 43, 45, 48]
def qh_Ce_init : List (List Nat) := [[], [1116, 1024, 0], [], [], [1047], [1136], [], [], [1047], [1141], [], [], [1047], [1145], [], [1117, 1049, 1004], [], [1118, 1051, 1], [1149], [], [], [1171], [1151], []]
def qp_Co_init : List Nat := [0, 1, 4, 5, 7, 9, 12]
def qh_Co_init : List (List Nat) := [[], [1177, 1024, 0], [], [], [1047], [1178], []]
def qp_Ne_init : List Nat := [0, 1, 4, 5, 7, 9, 12]
def qh_Ne_init : List (List Nat) := [[], [1192, 1024, 0], [], [], [1047], [1193], []]
def qp_Pa_init : List Nat := [0, 1, 4, 5, 7, 10, 13, 14, 15, 16, 18, 21, 22, 25, 26, 29, 30, 33, 34, 37, 40]
def qh_Pa_init : List (List Nat) := [[], [1206, 1024, 0], [], [], [1207, 1208], [1231], [], [], [], [], [], [], [1231], [], [1207, 1209, 1009], [], [1210, 1211, 1], [], [], [], []]
def qp_Mo_init : List Nat := [0, 1, 4, 5, 7, 9, 12, 13, 16, 17, 20, 23]
def qh_Mo_init : List (List Nat) := [[], [1213, 1024, 0], [], [], [1047], [1216], [], [1214, 1173, 1006], [], [1215, 1175, 1], [1219], []]
def qp_Cs_init : List Nat := [0, 1, 4, 5, 7, 9, 13, 16, 17, 19, 21, 25, 28]
def qh_Cs_init : List (List Nat) := [[], [2007, 1024, 0], [], [], [], [2008, 2009, 1047], [2010], [], [], [], [2008, 2009, 1047], [2011], []]
def qp_Sh_init : List Nat := [0, 1, 4, 5, 7, 9, 12]
def qh_Sh_init : List (List Nat) := [[], [2023, 1024, 0], [], [], [1047], [2028], []]
def qp_GC_feed : List Nat := [0, 1, 4, 7, 10, 12, 13, 16, 19, 20, 21, 22, 25, 28, 29, 32, 33, 36, 39, 40, 43, 44, 47, 50, 51, 54, 55, 58, 61, 63, 66, 67, 70, 73, 75, 78, 79, 82, 85, 88]
def qh_GC_feed : List (List Nat) := [[], [2038], [1084], [1039], [], [], [], [], [], [], [], [2038], [1084], [], [2067, 2068, 2069], [], [2038], [1084], [], [2067, 2068, 2069], [], [2038], [1084], [], [2067, 2068, 2069], [], [2038], [1084], [], [2067, 2068, 2069], [], [2038], [1084], [], [2067, 2068, 2069], [], [2038], [1084], [1039], []]
def qp_Ta_append : List Nat := [0, 2, 3, 4, 7, 8, 11, 14, 17, 18, 21, 22, 25, 26, 27, 28, 31, 32, 33, 34, 35, 38, 39, 40, 43, 46, 49]
def qh_Ta_append : List (List Nat) := [[], [], [], [], [], [1040], [], [], [], [1038], [], [1040], [], [], [], [], [], [], [], [], [1040], [], [], [1040], [], [], []]
def qp_GC_end : List Nat := [0, 1, 4, 5, 6, 9, 12, 15, 18, 19, 20, 21, 24, 27, 28, 31, 32]
def qh_GC_end : List (List Nat) := [[], [], [], [], [2038], [1084], [1039], [], [], [], [], [2038], [1084], [], [1039], [], []]
def qp_GC_cell : List Nat := [0, 1, 4, 7, 8, 9, 12, 15, 16, 19, 20, 23, 25, 26, 27, 28, 29, 30, 33, 36, 37, 40, 43, 46, 47, 50, 53]
def qh_GC_cell : List (List Nat) := [[], [2038], [2079, 2080, 2081], [], [], [2038], [1084], [], [1039], [], [], [], [], [], [], [], [], [2038], [1093], [], [2038], [1091], [2221, 2223, 16], [], [2039], [1124], []]
def qp_Re_read : List Nat := [0, 1, 2, 5, 6, 7, 10, 11, 12, 15, 16, 19, 20, 23, 24, 25, 28, 29, 32, 35, 38, 39, 42, 43, 46, 49, 52, 53, 54, 57, 58, 59, 62, 65, 66, 69, 70, 71, 72, 75, 76, 79, 80, 83, 86, 87, 88, 89, 92, 93, 128, 129, 132, 133, 134, 137, 138, 139, 142, 143, 144, 145, 146, 149]
def qh_Re_read : List (List Nat) := [[], [], [1088], [], [], [1092], [], [], [1089], [], [2083, 2085, 0], [], [1088], [], [], [1088], [], [1083], [1041], [], [], [1083], [], [1088], [2091, 2092, 2093], [], [], [], [1088], [], [], [1088], [], [], [1088], [], [], [], [], [], [1083], [], [2096, 2097, 2098], [], [], [], [], [2083, 2085, 0], [], [], [], [2100, 2102, 1], [], [], [2123, 2125, 5], [], [], [2183, 2185, 12], [], [], [], [], [2112, 2114, 3], []]
def qp_Re_skipBlanks : List Nat := [0, 1, 4, 5, 8, 11, 14, 15, 18, 19, 22, 25, 27, 30, 31, 32, 35, 36, 37, 40, 43]
def qh_Re_skipBlanks : List (List Nat) := [[], [1088], [], [1083], [1041], [], [], [1083], [], [1088], [2087, 2088, 2089], [], [], [], [], [1088], [], [], [1088], [], []]
def qp_Ta_at : List Nat := [0, 1, 4, 5, 6, 9, 12, 13, 16, 17, 18, 21, 22]
def qh_Ta_at : List (List Nat) := [[], [], [], [], [1040], [], [], [1038], [], [], [], [], []]
def qp_Ta_isSmallLetter : List Nat := [0, 1, 2, 5, 7, 10, 11, 12, 15, 17, 20, 21, 24, 25]
def qh_Ta_isSmallLetter : List (List Nat) := [[], [], [2095, 2088, 2089], [], [], [], [], [2095, 2088, 2089], [], [], [], [], [], []]
def qp_Ta_fourBytes : List Nat := [0, 1, 2, 5, 7, 8, 9, 10, 11, 12, 15, 17, 18, 19, 20, 21, 22, 23, 26, 28, 29, 30, 31, 32, 33, 34, 37, 38]
def qh_Ta_fourBytes : List (List Nat) := [[], [], [2095, 2088, 2089], [], [], [], [], [], [], [2095, 2088, 2089], [], [], [], [], [], [], [], [2095, 2088, 2089], [], [], [], [], [], [], [], [2095, 2088, 2089], [], []]
def qp_Re_readNumbers : List Nat := [0, 1, 2, 5, 6, 9, 10, 13, 16, 19, 20, 23, 25, 28, 29, 30, 33, 34, 35, 38, 41, 42, 43, 46, 47, 50, 51, 52, 55, 56, 57, 60, 61, 62, 65, 68, 69, 72, 73, 76, 77, 78, 81, 82, 85, 88, 89, 92]
def qh_Re_readNumbers : List (List Nat) := [[], [], [1092], [], [1088], [], [1083], [1041], [], [], [1092], [], [], [], [], [1092], [], [], [2104, 2106, 2], [], [], [], [1088], [], [2112, 2114, 3], [], [], [2083, 2085, 0], [], [], [1092], [], [], [1092], [], [], [1092], [], [], [], [], [1088], [], [2112, 2114, 3], [], [], [2116, 2118, 4], []]
def qp_Re_readNumber : List Nat := [0, 1, 2, 3, 4, 5, 6, 9, 10, 13, 14, 17, 18, 19, 22, 25, 27, 28, 29, 30, 33, 34, 37, 38, 39, 42, 43, 45, 46, 47, 50, 53, 54, 57, 58, 59, 62, 63, 64, 65, 68, 69, 70, 71, 72, 75, 76, 77, 80, 81, 82, 83, 86, 87, 88, 91, 92]
def qh_Re_readNumber : List (List Nat) := [[], [], [], [], [], [], [], [], [1083], [], [1088], [], [], [2108, 2109, 2110], [], [], [], [], [], [1083], [], [1088], [], [], [2087, 2088, 2089], [], [], [], [], [], [], [], [], [], [], [], [], [], [], [1090], [], [], [], [], [1087], [], [], [1088], [], [], [], [1088], [], [], [1088], [], []]
def qp_Ta_isDigit : List Nat := [0, 1, 2, 5, 7, 10, 11, 12, 15, 17, 20, 21, 24, 25]
def qh_Ta_isDigit : List (List Nat) := [[], [], [2095, 2088, 2089], [], [], [], [], [2095, 2088, 2089], [], [], [], [], [], []]
def qp_Re_fault : List Nat := [0, 2, 3, 4, 5, 6]
def qh_Re_fault : List (List Nat) := [[], [], [], [], [], []]
def qp_Re_faultOfNumbers : List Nat := [0, 1, 2, 3, 4, 7, 10, 11, 14, 15, 16, 19, 20, 23, 24, 25, 27, 30, 31, 32, 35, 36, 37, 38, 41, 42, 45, 48, 49, 50, 51, 52, 53, 54, 57, 60, 61, 64, 65, 66, 67, 70, 71, 74, 75, 76, 77, 78, 81, 82, 85, 86, 87, 90, 91, 92, 93, 96, 97, 98, 101, 102, 103, 104, 107, 110, 111, 114, 115, 116, 117, 120, 121, 124, 125, 128, 129, 130, 133, 134, 135, 136, 137, 140, 141, 142, 145, 146, 147, 148, 151, 152, 153, 154, 155, 156, 159, 162, 163]
def qh_Re_faultOfNumbers : List (List Nat) := [[], [], [], [], [1092], [], [], [1090], [], [], [], [], [1090], [], [], [], [], [], [], [1087], [], [], [], [2112, 2114, 3], [], [], [], [], [], [], [], [], [], [1092], [], [], [1090], [], [], [], [], [], [1090], [], [], [], [], [1092], [], [], [], [], [1087], [], [], [], [2112, 2114, 3], [], [], [1090], [], [], [], [1092], [], [], [1090], [], [], [], [1092], [], [], [], [1090], [], [], [2120, 2121], [], [], [], [], [], [], [], [1087], [], [], [], [2112, 2114, 3], [], [], [], [], [], [], [], [], []]
def qp_Se_only : List Nat := [0, 1, 2, 3, 4, 5]
def qh_Se_only : List (List Nat) := [[], [], [], [], [], []]
def qp_Re_readFilling : List Nat := [0, 1, 4, 7, 8, 9, 12, 13, 16, 17, 18, 19, 20, 21, 24, 27, 28, 31, 34, 35, 38, 41, 42, 43, 46, 49, 50, 51, 54, 55, 58, 59, 62, 65, 66, 69, 70, 73, 74, 77, 80, 83, 84, 85, 88, 89, 92, 95, 96, 99]
def qh_Re_readFilling : List (List Nat) := [[], [2127, 2129, 6], [], [], [], [1088], [], [2112, 2114, 3], [], [], [], [], [], [1092], [], [], [1085], [1058], [], [2142, 2143], [], [], [], [2145, 2147, 8], [], [], [], [1088], [], [2112, 2114, 3], [], [], [], [], [2083, 2085, 0], [], [1088], [], [1083], [1041], [], [], [], [1088], [], [2112, 2114, 3], [], [], [2159, 2161, 9], []]
def qp_Re_readPath : List Nat := [0, 1, 2, 3, 4, 7, 8, 11, 13, 16, 17, 20, 23, 24, 27, 28, 31, 34, 36, 39, 40, 41, 44, 45, 46, 49, 50, 51, 52, 53, 56, 57, 58, 61, 62, 63, 66, 67, 68, 71, 74, 75, 78, 79, 82, 83, 86, 87, 90, 91, 94, 95, 98, 101, 102, 105, 106]
def qh_Re_readPath : List (List Nat) := [[], [], [], [], [1092], [], [1092], [], [], [], [2131, 2133, 7], [], [], [1083], [], [1088], [2087, 2088, 2089], [], [], [], [], [1092], [], [], [2120, 2121], [], [], [], [], [1088], [], [], [1088], [], [], [1092], [], [], [1092], [], [], [1085], [], [1092], [], [2135, 2136, 2137], [], [1092], [], [], [], [2131, 2133, 7], [], [], [], [], []]
def qp_Re_isLetterOfPath : List Nat := [0, 1, 4, 5, 8, 11, 13, 16, 17, 20, 21, 24, 27, 29, 32, 33, 36, 37]
def qh_Re_isLetterOfPath : List (List Nat) := [[], [1083], [], [1088], [2087, 2088, 2089], [], [], [], [1083], [], [1088], [2087, 2088, 2089], [], [], [], [], [], []]
def qp_Di_clear : List Nat := [0, 1, 2, 5, 6, 7, 10, 11, 14, 15, 18]
def qh_Di_clear : List (List Nat) := [[], [], [1056], [], [], [1057], [], [1059], [], [2139, 2140], []]
def qp_J_fill : List Nat := [0, 1, 2, 3, 4, 5, 6, 7, 10, 11, 12, 13, 14, 17, 20]
def qh_J_fill : List (List Nat) := [[], [], [], [], [], [], [], [], [], [], [], [], [], [], []]
def qp_Se_holds : List Nat := [0, 1, 2, 3, 4, 5, 6, 7, 10, 11, 14, 15]
def qh_Se_holds : List (List Nat) := [[], [], [], [], [], [], [], [], [], [], [], []]
def qp_Re_readRow : List Nat := [0, 1, 4, 5, 8, 9, 12, 15, 17, 20, 21, 22, 23, 24, 27, 28, 29, 32, 33, 36, 37, 40, 41, 42, 45, 46, 47, 50, 51, 52, 53, 56, 57, 60, 61, 62, 65, 68, 69, 72, 73, 76, 79, 81, 84, 85, 88, 89, 90, 93, 96, 97, 100, 101, 104, 107, 109, 112, 113, 114, 115, 116, 119, 120, 121, 124, 127, 130, 131]
def qh_Re_readRow : List (List Nat) := [[], [2083, 2085, 0], [], [1083], [], [1088], [2087, 2088, 2089], [], [], [], [], [], [], [1088], [], [], [1088], [], [2083, 2085, 0], [], [1087], [], [], [1088], [], [], [1092], [], [], [], [], [], [1085], [], [], [2149, 2150, 2151], [], [], [1083], [], [1088], [2087, 2088, 2089], [], [], [], [1085], [], [], [2154, 2155, 2156], [], [], [1083], [], [1088], [2087, 2088, 2089], [], [], [], [], [], [], [1088], [], [], [1088], [], [], [], []]
def qp_Di_isBox : List Nat := [0, 1, 2, 5, 6, 9, 10, 13, 16, 17, 20, 21, 24, 27, 28, 31, 32]
def qh_Di_isBox : List (List Nat) := [[], [], [], [], [1057], [], [2153, 2143], [], [], [1057], [], [2153, 2143], [], [], [], [], []]
def qp_Di_setPlus : List Nat := [0, 1, 4, 5, 6, 7, 8, 11, 12, 13]
def qh_Di_setPlus : List (List Nat) := [[], [1059], [], [], [], [], [2158, 2121], [], [], []]
def qp_Re_faultOfBoxes : List Nat := [0, 1, 2, 3, 4, 7, 10, 11, 14, 15, 16, 17, 18, 21, 22, 23, 24, 27, 28, 31, 32, 33, 36, 39, 40, 43, 44, 45, 48, 51, 52, 53, 54, 57, 58, 61, 64, 67, 70, 73, 74, 75, 76, 77, 80, 83, 84, 87, 88, 89, 92, 93, 96, 97, 100, 103, 104]
def qh_Re_faultOfBoxes : List (List Nat) := [[], [], [], [], [1092], [], [], [1087], [], [], [], [], [1092], [], [], [], [], [], [1085], [], [], [2149, 2150, 2151], [], [], [1085], [], [], [2163, 2164, 2165], [], [], [], [], [2112, 2114, 3], [], [], [], [], [], [], [], [], [], [], [1092], [], [], [1090], [], [], [1085], [], [2171, 2172, 2173], [], [], [], [], []]
def qp_Di_breaksLe : List Nat := [0, 1, 2, 3, 6, 9, 10, 13, 14, 15, 16, 17, 20, 21, 22, 23, 24, 25, 26, 29, 30, 31, 32, 35, 38, 39, 40, 43, 46, 47]
def qh_Di_breaksLe : List (List Nat) := [[], [], [], [2167, 2168, 2169], [], [], [1059], [], [], [], [], [], [], [], [], [], [], [], [], [], [], [], [2167, 2168, 2169], [], [], [], [], [], [], []]
def qp_Di_isPlus : List Nat := [0, 1, 4, 5, 6, 7, 10]
def qh_Di_isPlus : List (List Nat) := [[], [1059], [], [], [], [2153, 2143], []]
def qp_Di_imageOf : List Nat := [0, 1, 4, 5, 8, 9, 10, 11, 12, 14, 15, 17, 19, 20, 21, 24, 25, 28, 29, 32, 33, 35, 38, 40, 42, 43, 46, 49, 50, 51, 54, 55, 56, 59, 60, 63, 64, 65, 66, 67, 70, 71, 72, 73, 76, 78, 79, 82, 84, 85, 88, 89, 92, 94, 95, 96, 97, 99, 102, 105, 106, 109, 110, 113, 114, 115, 118, 121, 122]
def qh_Di_imageOf : List (List Nat) := [[], [1057], [], [2153, 2143], [], [], [], [], [], [], [], [], [], [], [1056], [], [], [], [], [], [], [2175, 2177, 10], [], [], [], [1056], [], [], [], [], [], [], [1056], [], [], [], [], [], [], [2179, 2181, 11], [], [], [], [], [], [], [], [], [], [1056], [], [], [], [], [], [], [], [2167, 2168, 2169], [], [], [], [], [], [], [], [], [], [], []]
def qp_Di_nextColumn : List Nat := [0, 1, 2, 3, 4, 5, 6, 9, 12, 13, 16, 17, 20, 23, 26, 29, 30]
def qh_Di_nextColumn : List (List Nat) := [[], [], [], [], [], [], [1056], [], [], [1057], [], [2153, 2143], [], [], [], [], []]
def qp_Di_rowAbove : List Nat := [0, 1, 2, 3, 4, 5, 6, 9, 10, 13, 14, 17, 20, 23, 26, 27]
def qh_Di_rowAbove : List (List Nat) := [[], [], [], [], [], [], [], [], [1057], [], [2153, 2143], [], [], [], [], []]
def qp_Re_readSets : List Nat := [0, 1, 2, 5, 6, 9, 10, 13, 16, 19, 20, 23, 25, 28, 29, 30, 33, 34, 35, 38, 41, 42, 43, 46, 47, 50, 51, 52, 55, 56, 57, 60, 61, 62, 65, 68, 69, 72, 73, 76, 77, 78, 81, 82, 85, 88, 89, 92]
def qh_Re_readSets : List (List Nat) := [[], [], [1092], [], [1088], [], [1083], [1041], [], [], [1092], [], [], [], [], [1092], [], [], [2187, 2189, 13], [], [], [], [1088], [], [2112, 2114, 3], [], [], [2083, 2085, 0], [], [], [1092], [], [], [1092], [], [], [1092], [], [], [], [], [1088], [], [2112, 2114, 3], [], [], [2191, 2193, 14], []]
def qp_Re_readSet : List Nat := [0, 1, 2, 5, 7, 10, 11, 14, 15, 16, 17, 18, 20, 21, 24, 25, 26, 29, 30, 31, 34, 35, 36, 37, 38, 39, 42, 43, 46, 47, 50, 53, 56, 57, 60, 61, 64, 67, 69, 70, 72, 74, 76, 79, 81, 83, 86, 87, 88, 89, 92, 93, 94, 95, 97, 100, 101, 102, 104, 106, 109, 110, 111, 114, 115, 116, 119, 122, 123, 124, 127, 128, 129, 132, 133, 136, 137, 138, 141, 144, 145, 148, 149, 152, 155, 158, 159, 162, 163]
def qh_Re_readSet : List (List Nat) := [[], [], [], [], [], [], [1089], [], [], [], [], [], [], [1087], [], [], [1088], [], [], [1086], [], [], [], [], [], [], [], [1083], [], [1088], [2108, 2109, 2110], [], [], [1083], [], [1088], [2087, 2088, 2089], [], [], [], [], [], [], [], [], [], [], [], [], [1086], [], [], [], [], [2120, 2121], [], [], [], [], [], [], [], [1088], [], [], [1088], [], [], [], [], [], [], [1089], [], [], [], [], [1089], [], [], [1083], [], [1088], [2108, 2109, 2110], [], [], [], [], []]
def qp_Re_faultOfSets : List Nat := [0, 1, 2, 3, 4, 7, 10, 11, 14, 15, 16, 17, 20, 23, 24, 25, 26, 27, 30, 31, 32, 35, 36, 37, 40, 41, 42, 43, 46, 47, 48, 51, 52, 55, 58, 59, 60, 61, 62, 65, 68, 69, 72, 73, 74, 75, 76, 77, 78, 79, 80, 83, 84, 85, 88, 91, 92, 93, 96, 97, 98, 99, 102, 103, 106, 109, 110, 113, 114, 117, 118, 119, 122, 123, 126, 127, 128, 131, 134, 135, 136, 139, 140, 143, 144, 145, 148, 149, 150, 151, 152, 153, 156, 159, 160, 163, 164, 165, 166, 169, 170, 171, 172, 173, 176, 177, 178, 181, 184, 185, 186, 187, 190, 191, 192, 195, 196, 199, 202, 203]
def qh_Re_faultOfSets : List (List Nat) := [[], [], [], [], [1092], [], [], [1086], [], [], [], [1092], [2195, 2196], [], [], [], [], [1086], [], [], [], [], [], [1087], [], [], [], [2198, 2199], [], [], [2112, 2114, 3], [], [], [], [], [], [], [], [1092], [], [], [1086], [], [], [], [], [], [], [], [], [1086], [], [], [2204, 2205], [], [], [], [1087], [], [], [], [2112, 2114, 3], [], [], [], [], [1086], [], [1092], [], [], [1092], [], [1086], [], [], [2204, 2205], [], [], [], [1087], [], [1092], [], [], [2112, 2114, 3], [], [], [], [], [], [1092], [], [], [1090], [], [], [], [1086], [], [], [], [], [1086], [], [], [1092], [], [], [], [], [], [], [], [2210, 2212, 15], [], [], [], [], []]
def qp_Se_upTo : List Nat := [0, 1, 2, 3, 4, 5]
def qh_Se_upTo : List (List Nat) := [[], [], [], [], [], []]
def qp_J_bitCount : List Nat := [0, 1, 2, 3, 4, 7, 8, 9, 10, 11, 14, 15, 16, 17, 18, 21, 22, 23, 24, 25, 26, 27, 28, 29, 32, 33, 34, 35, 36, 38, 39, 40, 41, 42, 43, 45, 46, 47, 48, 49, 51, 52]
def qh_J_bitCount : List (List Nat) := [[], [], [], [], [2201], [], [], [], [], [2202], [], [], [], [], [2202], [], [], [], [], [], [], [], [], [2203], [], [], [], [], [], [], [], [], [], [], [], [], [], [], [], [], [], []]
def qp_Se_canStandBehind : List Nat := [0, 1, 2, 5, 8, 9, 10, 13, 14, 17, 18, 19, 20, 21, 24, 25, 26, 27, 28, 29, 30, 31, 32, 35, 36, 39, 40, 43, 46, 47, 50, 51]
def qh_Se_canStandBehind : List (List Nat) := [[], [], [2207, 2143], [], [], [], [], [], [], [], [], [], [], [2208, 2121], [], [], [], [], [], [], [], [], [], [], [2209, 2199], [], [2209, 2199], [], [], [], [], []]
def qp_Re_imageBetween : List Nat := [0, 1, 2, 5, 8, 9, 10, 11, 12, 13, 16, 17, 18, 19, 20, 21, 22, 25, 27, 29, 30, 33, 35, 38, 40, 41, 44, 45]
def qh_Re_imageBetween : List (List Nat) := [[], [], [2142, 2143], [], [], [], [], [], [], [2120, 2121], [], [], [], [], [], [], [2214, 2215], [], [], [], [], [], [], [], [], [1092], [], []]
def qp_Se_least : List Nat := [0, 1, 4, 5, 6]
def qh_Se_least : List (List Nat) := [[], [2217, 2218], [], [], []]
def qp_J_numberOfTrailingZeros : List Nat := [0, 1, 2, 3, 4, 5, 6, 7, 8, 9, 12, 13, 15, 16, 17, 18, 19, 20, 23, 26, 29, 30, 32, 33, 34, 35, 38, 41, 44, 45, 47, 48, 49, 50, 52, 55, 58, 59, 60, 61, 62, 63, 64, 67, 70, 71, 72, 73, 74, 75, 76, 77, 78, 79]
def qh_J_numberOfTrailingZeros : List (List Nat) := [[], [], [], [], [], [], [], [], [], [], [], [], [], [], [], [], [], [2220], [], [], [], [], [], [], [], [], [], [], [], [], [], [], [], [], [], [], [], [], [], [], [], [], [], [], [], [], [], [], [], [], [], [], [], []]
def qp_GC_become : List Nat := [0, 1, 4, 5, 8, 9, 12, 15, 16, 19, 20, 21, 24, 25, 28, 29, 32, 35]
def qh_GC_become : List (List Nat) := [[], [2042], [], [2039], [], [2040], [2225, 2226, 2227], [], [2039], [], [], [2236, 2237, 2238], [], [2040], [], [2039], [3036, 3037, 3038], []]
def qp_Pa_record : List Nat := [0, 1, 2, 5, 6, 7, 9, 12, 13, 16, 17, 18, 21, 22, 25, 26, 27, 30, 31, 32, 34, 37, 40, 41, 44, 45, 48, 49, 50, 51, 52, 55, 58, 59, 61, 63, 64, 67, 70, 71, 74, 76, 77, 80, 82, 83, 84, 87, 90, 91, 94, 95, 98]
def qh_Pa_record : List (List Nat) := [[], [], [1232], [], [], [], [], [], [1232], [], [], [], [], [1232], [], [], [1233], [], [], [], [2229, 2230, 1017, 2231], [1233], [], [1231], [], [1232], [], [], [], [], [1122], [1222], [], [], [], [], [1122], [], [], [1217], [], [], [1137], [], [], [], [], [], [], [1220], [], [2232, 2233, 2234], []]
def qp_J_min : List Nat := [0, 1, 2, 5, 6, 9, 10]
def qh_J_min : List (List Nat) := [[], [], [], [], [], [], []]
def qp_Co_copyFrom : List Nat := [0, 1, 2, 5, 8, 9, 10, 11, 12, 15, 18, 19, 22, 23, 24, 27, 28, 29, 30, 33, 36]
def qh_Co_copyFrom : List (List Nat) := [[], [], [1180], [1180], [], [], [], [], [1180], [], [], [1178], [], [], [1178], [], [], [], [], [], []]
def qp_Ce_take : List Nat := [0, 1, 2, 5, 6, 7, 8, 9, 12, 15, 16, 19, 20, 21, 22, 23, 24, 27, 30, 31, 34, 35, 38, 39, 40, 43, 44, 47, 50, 53, 54, 57, 58, 61]
def qh_Ce_take : List (List Nat) := [[], [], [1119], [], [], [], [], [1119], [], [], [1136], [], [], [], [], [], [], [], [], [3000, 3002, 17], [], [3006, 3008, 18], [], [], [1136], [], [1119], [3026, 3027], [1129], [], [1149], [], [3029, 3030, 3031], []]
def qp_Ce_layNecklace : List Nat := [0, 1, 2, 3, 4, 5, 6, 9, 12, 13, 16, 17, 18, 19, 22, 25, 26, 27, 30, 31, 32, 33, 36, 37, 40, 41, 42, 45, 48, 49, 50, 53, 56, 57, 60, 61, 62, 63, 64, 65, 66, 67, 70, 73, 74, 77, 78, 79, 80, 83, 84, 87, 88, 89, 90, 93, 96, 97, 100, 101, 102, 103, 106, 107, 110, 111, 114, 115, 116, 117, 118, 119, 122, 123, 124, 125, 126, 129, 130, 131, 132, 135, 136, 137, 138, 139, 140, 143, 146]
def qh_Ce_layNecklace : List (List Nat) := [[], [], [], [], [], [], [1119], [], [], [1136], [], [], [], [1119], [], [], [], [1136], [], [], [], [1119], [], [3004, 2121], [], [], [], [], [], [], [3005, 2199], [1127], [], [1141], [], [], [], [], [], [], [], [1119], [], [], [1136], [], [], [], [], [], [1136], [], [], [], [1119], [], [], [1136], [], [], [], [1119], [], [], [], [1136], [], [], [], [], [], [3004, 2121], [], [], [], [], [3004, 2121], [], [], [], [1141], [], [], [], [], [], [], [], []]
def qp_Ce_layBases : List Nat := [0, 1, 2, 5, 6, 7, 8, 11, 14, 15, 18, 19, 20, 21, 24, 27, 28, 29, 32, 35, 36, 39, 40, 41, 42, 45, 46, 47, 50, 51, 54, 56, 59, 60, 63, 64, 67, 68, 69, 70, 71, 74, 75, 76, 79, 82, 85]
def qh_Ce_layBases : List (List Nat) := [[], [], [1134], [], [], [], [], [], [], [1151], [], [], [], [3010, 3011, 3012], [], [], [], [3019, 3021, 19], [], [], [], [], [], [], [1151], [], [], [], [], [1134], [], [], [], [1145], [], [1134], [], [], [], [], [1134], [], [], [1134], [], [], []]
def qp_Ce_isSet : List Nat := [0, 1, 2, 5, 8, 9, 12, 13, 16, 19, 20, 23, 24]
def qh_Ce_isSet : List (List Nat) := [[], [], [3014, 3015, 3016], [], [], [3005, 2199], [], [1127], [], [], [], [], []]
def qp_Ce_areLabels : List Nat := [0, 1, 4, 7, 8, 11, 12, 13, 16, 19, 22, 23, 26, 27]
def qh_Ce_areLabels : List (List Nat) := [[], [1119], [], [], [], [], [], [1119], [3018, 2196], [], [], [], [], []]
def qp_Ce_isAtLeastNecklace : List Nat := [0, 1, 2, 3, 4, 7, 10, 11, 12, 15, 16, 17, 18, 19, 22, 25, 28, 29, 30, 33, 36, 37]
def qh_Ce_isAtLeastNecklace : List (List Nat) := [[], [], [], [], [1119], [], [], [], [1141], [], [], [], [], [1119], [3023, 3024], [], [], [], [], [], [], []]
def qp_Se_atLeast : List Nat := [0, 1, 3, 4, 6, 8, 9, 12, 13, 15, 16, 17, 20, 21, 23, 24, 27, 28, 30, 31, 32, 33, 35, 37, 38, 40, 41, 42, 43, 44, 45, 46, 48, 49, 50, 51, 52, 53, 54, 55, 57, 59, 62, 63, 64, 67, 70, 71]
def qh_Se_atLeast : List (List Nat) := [[], [], [], [], [], [], [], [], [], [], [], [], [], [], [], [], [], [], [], [], [], [], [], [], [], [], [], [], [], [], [], [], [], [], [], [], [], [], [], [], [], [], [], [], [], [], [], []]
def qp_Ce_inversionsOf : List Nat := [0, 1, 2, 3, 4, 5, 6, 9, 10, 11, 12, 14, 16, 17, 20, 21, 22, 23, 24, 25, 27, 28, 31, 32, 35, 36, 37, 38, 41, 44, 45, 47, 49, 50, 53, 54, 55, 56, 57, 58, 60, 61, 62, 63, 66, 67, 70, 71, 72, 73, 76, 79, 82, 85, 86]
def qh_Ce_inversionsOf : List (List Nat) := [[], [], [], [], [], [], [], [], [], [], [], [], [], [], [], [], [], [], [], [], [], [], [], [], [], [], [], [], [], [], [], [], [], [], [], [], [], [], [], [], [], [], [], [], [], [], [], [], [], [], [], [], [], [], []]
def qp_Di_drawFor : List Nat := [0, 1, 2, 5, 6, 9, 10, 11, 14, 15, 16, 17, 18, 21, 24, 25, 28, 29, 30, 31, 34, 37, 38, 41, 42, 43, 44, 47, 48, 51, 52, 55, 56, 57, 58, 59, 62, 63, 64, 65, 66, 69, 70, 71, 72, 75, 78, 79, 80, 81, 82, 85, 88, 89, 92, 93, 94, 95, 98, 99, 100, 101, 104, 107, 108, 111, 112, 113, 114, 117, 118, 119, 122, 123, 124, 125, 128, 129, 132, 133, 134, 136, 137, 140, 141, 142, 145, 146, 147, 148, 149, 152, 153, 155, 156, 159, 162, 165, 168]
def qh_Di_drawFor : List (List Nat) := [[], [], [1125], [], [1144], [], [], [3033, 2136, 2137], [], [], [], [], [1056], [], [], [1140], [], [], [], [1056], [], [], [1140], [], [], [], [1056], [], [], [], [1140], [], [], [], [], [1060], [], [], [], [], [1061], [], [], [], [], [], [], [], [], [], [1056], [], [], [1056], [], [], [], [], [], [], [], [3034, 2150, 2151], [], [], [1061], [], [], [], [1060], [], [], [], [], [], [], [3035, 2155, 2156], [], [1060], [], [], [], [], [1060], [], [], [1061], [], [], [], [], [1061], [], [], [], [], [], [], [], []]
def qp_Co_layFor : List Nat := [0, 1, 2, 5, 6, 7, 8, 9, 12, 15, 16, 17, 20, 21, 22, 25, 28, 31, 32, 33, 34, 35, 38, 41, 42, 43, 46, 47, 48, 49, 52, 55, 58, 59, 60, 63, 64, 65, 68, 71, 74]
def qh_Co_layFor : List (List Nat) := [[], [], [1180], [], [], [], [], [1121], [], [], [], [1142], [], [], [3040, 3041, 3042], [], [], [], [], [], [], [1133], [], [], [], [1147], [], [], [], [1121], [3048, 3050, 21], [], [], [], [1147], [], [], [3040, 3041, 3042], [], [], []]
def qp_Co_add : List Nat := [0, 1, 4, 6, 9, 10, 11, 14, 17, 18, 19, 22, 23, 24, 27, 28, 31, 32, 33, 34, 35, 36, 39, 40, 43, 44, 45, 48, 49, 50, 51, 52, 53, 56, 59, 60, 63, 64, 65, 66, 67, 68, 71, 72, 73, 76]
def qh_Co_add : List (List Nat) := [[], [1180], [], [], [], [], [3044, 3046, 20], [], [], [], [1180], [], [], [], [], [1178], [], [], [], [], [], [], [], [1178], [], [], [1178], [], [], [], [], [], [], [], [], [1178], [], [], [], [], [], [1180], [], [], [1180], []]
def qp_Co_contains : List Nat := [0, 1, 2, 3, 4, 7, 10, 11, 14, 15, 16, 17, 20, 21, 22, 25, 28, 29]
def qh_Co_contains : List (List Nat) := [[], [], [], [], [1180], [], [], [1178], [], [], [], [], [], [], [], [], [], []]
def qp_Co_crossesNone : List Nat := [0, 1, 2, 3, 4, 7, 10, 11, 12, 15, 16, 17, 18, 21, 24, 25, 26, 29, 32, 33]
def qh_Co_crossesNone : List (List Nat) := [[], [], [], [], [1180], [], [], [], [1178], [], [], [], [3052, 3053], [], [], [], [], [], [], []]
def qp_Se_crossing : List Nat := [0, 1, 2, 3, 4, 5, 7, 8, 10, 11, 13, 14, 16, 18, 19, 22, 23, 25, 28, 31, 32, 34, 37, 39, 41, 44, 46, 48, 51, 54, 55, 57, 59, 61, 64, 67, 69, 70, 73, 74, 77, 78]
def qh_Se_crossing : List (List Nat) := [[], [], [], [], [], [], [], [], [], [], [], [], [], [], [], [], [], [2207, 2143], [], [], [], [2207, 2143], [], [], [], [], [], [], [], [], [], [], [], [], [], [], [], [], [], [], [], []]
def qp_GC_f : List Nat := [0, 1, 4, 5, 8, 11, 12, 15, 18, 19, 20, 23, 24]
def qh_GC_f : List (List Nat) := [[], [2039], [], [3059, 3060, 3061], [], [], [2039], [1139], [], [], [], [], []]
def qp_Ce_isLabel : List Nat := [0, 1, 2, 5, 6, 7, 10, 13, 14, 17, 18]
def qh_Ce_isLabel : List (List Nat) := [[], [], [], [], [], [1119], [], [], [], [], []]
def qp_GC_neck : List Nat := [0, 1, 4, 5, 8, 11, 12, 15, 18, 19, 20, 23, 24]
def qh_GC_neck : List (List Nat) := [[], [2039], [], [3059, 3060, 3061], [], [], [2039], [1143], [], [], [], [], []]
def qp_GC_box : List Nat := [0, 1, 4, 5, 8, 11, 12, 15, 16, 19, 22, 23, 24, 25, 28, 31, 32, 33, 36, 39, 41, 42, 43, 46, 49, 50, 51, 54, 57, 58, 61, 62]
def qh_GC_box : List (List Nat) := [[], [2039], [], [3059, 3060, 3061], [], [], [2039], [], [3059, 3060, 3061], [], [], [], [], [2039], [1150], [], [], [3071, 2150, 2151], [], [], [], [], [2039], [1150], [], [], [3072, 2168, 2169], [], [], [], [], []]
def qp_GC_bases : List Nat := [0, 1, 4, 7, 10, 11, 14, 17, 20, 21]
def qh_GC_bases : List (List Nat) := [[], [2039], [1124], [], [], [2039], [1135], [], [], []]
def qp_GC_basis : List Nat := [0, 1, 4, 7, 10, 11, 14, 15, 16, 17, 18, 21, 24, 27, 28, 31, 34, 35, 36, 39, 41]
def qh_GC_basis : List (List Nat) := [[], [2039], [1124], [], [], [], [], [], [], [], [2039], [1135], [], [], [2039], [1148], [], [], [], [], []]
def qp_GC_rank : List Nat := [0, 1, 4, 5, 8, 11, 12, 15, 16, 19, 22, 23]
def qh_GC_rank : List (List Nat) := [[], [2039], [], [3085, 3015, 3016], [], [], [2039], [], [3086, 3087, 3088], [], [], []]
def qp_Ce_rankOf : List Nat := [0, 1, 2, 3, 4, 5, 6, 9, 12, 13, 14, 17, 18, 19, 20, 21, 24, 27, 28, 31, 34, 35]
def qh_Ce_rankOf : List (List Nat) := [[], [], [], [], [], [], [1134], [], [], [], [1145], [], [], [], [], [3005, 2199], [3090, 3091, 1017, 3092], [], [], [], [], []]
def qp_J_max : List Nat := [0, 1, 2, 5, 6, 9, 10]
def qh_J_max : List (List Nat) := [[], [], [], [], [], [], []]
def qp_GC_exchange : List Nat := [0, 1, 4, 5, 8, 11, 12, 15, 16, 19, 22, 23, 26, 27, 30, 33, 34, 35, 36, 37, 40, 43, 44, 45, 48, 51, 52, 53, 54, 57, 58, 59, 60, 63]
def qh_GC_exchange : List (List Nat) := [[], [2039], [], [3097, 3098, 3099], [], [], [2039], [], [3097, 3098, 3099], [], [], [2039], [], [3059, 3060, 3061], [], [], [], [], [], [3101, 2143], [], [], [], [3101, 2143], [], [], [], [], [2039], [], [], [], [3102, 3103, 3104], []]
def qp_Ce_isBasis : List Nat := [0, 1, 2, 5, 8, 9, 12, 13, 14, 17, 18, 21, 22]
def qh_Ce_isBasis : List (List Nat) := [[], [], [3014, 3015, 3016], [], [], [1151], [], [], [], [], [], [], []]
def qp_Ce_leastExchange : List Nat := [0, 1, 3, 5, 6, 9, 12, 13, 14, 15, 16, 17, 19, 22, 25, 26, 27, 28, 31, 32, 33, 34, 36, 39, 40, 43, 46, 48, 49, 52, 55, 57]
def qh_Ce_leastExchange : List (List Nat) := [[], [], [], [], [1119], [], [], [], [], [], [], [], [3106, 2143], [], [], [], [], [3004, 2121], [], [], [], [], [3004, 2121], [], [3107, 3098, 3099], [], [], [], [], [], [], []]
def qp_GC_part : List Nat := [0, 1, 4, 5, 8, 11, 12, 15, 16, 19, 22, 25, 26]
def qh_GC_part : List (List Nat) := [[], [2039], [], [3059, 3060, 3061], [], [], [2039], [], [3112, 3113, 3114], [3121, 2215], [], [], []]
def qp_Ce_hangingTogether : List Nat := [0, 1, 4, 5, 6, 7, 8, 10, 12, 13, 16, 19, 20, 21, 24, 25, 26, 27, 28, 29, 32, 34, 35, 37, 40, 41, 42, 43, 44, 46, 49, 50, 51, 54, 57, 58]
def qh_Ce_hangingTogether : List (List Nat) := [[], [3004, 2121], [], [], [], [], [], [], [], [1119], [], [], [], [], [], [], [], [], [], [3116, 2215], [], [], [], [3004, 2121], [], [], [], [], [], [3117, 3119, 22], [], [], [], [], [], []]
def qp_Ce_exchangeable : List Nat := [0, 1, 2, 3, 4, 5, 6, 9, 12, 13, 16, 17, 18, 19, 22, 25, 26, 28, 30, 31, 34, 37, 38, 41, 42, 43, 44, 45, 47, 50, 53, 54, 55, 58, 59, 60, 61, 64, 65, 66, 67, 69, 72, 73, 76, 79, 80, 82, 85, 86, 87, 90, 93, 96, 99, 100]
def qh_Ce_exchangeable : List (List Nat) := [[], [], [], [], [], [], [1134], [], [], [1145], [], [], [], [3106, 2143], [], [], [], [], [], [1119], [], [], [1145], [], [], [], [], [], [3106, 2143], [], [], [], [1145], [], [], [], [3004, 2121], [], [], [], [], [3004, 2121], [], [3107, 3098, 3099], [], [], [], [3004, 2121], [], [], [], [], [], [], [], []]
def qp_GC_ways : List Nat := [0, 1, 4, 5, 8, 11, 12, 15, 18, 19, 22, 25, 28]
def qh_GC_ways : List (List Nat) := [[], [2039], [], [3126, 3011, 3012], [], [], [2039], [1150], [], [3127, 3128, 3129], [], [3146], []]
def qp_Di_waysTo : List Nat := [0, 1, 4, 5, 6, 7, 8, 9, 10, 11, 14, 15, 16, 17, 18, 19, 21, 23, 24, 27, 30, 31, 33, 36, 39, 40, 42, 45, 48, 51, 52, 55, 56, 59, 60, 63, 64, 65, 66, 67, 69, 70, 72, 74, 75, 78, 81, 82, 84, 87, 90, 91, 93, 94, 96, 99, 102, 105, 108, 109, 112, 113, 114, 117]
def qh_Di_waysTo : List (List Nat) := [[], [1057], [], [], [], [], [], [], [], [1057], [], [], [], [], [], [], [], [], [1056], [], [], [], [2153, 2143], [], [], [], [3131, 3133, 23], [], [], [], [1064], [], [3135, 3136], [], [1064], [], [], [], [], [], [], [], [], [], [1056], [], [], [], [2153, 2143], [], [], [], [], [], [3138, 3140, 24], [], [], [], [], [1064], [], [], [3143, 3144, 1017, 3145], []]
def qp_Di_countPathsTo : List Nat := [0, 1, 4, 5, 8, 9, 12, 13, 14, 15, 16, 19, 20, 21, 22, 25, 26, 27, 28, 31, 33, 35, 36, 39, 40, 41, 43, 46, 49, 50, 51, 54, 56, 57, 58, 59, 60, 63, 65, 66, 67, 70, 73, 74, 77, 78, 79, 80, 81, 82, 85, 88]
def qh_Di_countPathsTo : List (List Nat) := [[], [1062], [], [3135, 3136], [], [1062], [], [], [], [], [1056], [], [], [], [], [], [], [], [1056], [], [], [], [], [], [], [], [2167, 2168, 2169], [], [], [], [1062], [], [], [], [], [], [1062], [], [], [], [], [], [], [1063], [], [], [], [], [], [], [], []]
def qp_J_fill2 : List Nat := [0, 1, 2, 3, 4, 6, 7, 9, 12, 13, 14, 15, 16, 19, 22]
def qh_J_fill2 : List (List Nat) := [[], [], [], [], [], [], [], [], [], [], [], [], [], [], []]
def qp_Di_expandRow : List Nat := [0, 1, 3, 5, 6, 9, 11, 12, 13, 14, 15, 18, 20, 23, 24, 27, 28, 29, 30, 32, 34, 35, 38, 41, 42, 44, 45, 46, 47, 49, 52, 55, 56, 59, 61, 62, 63, 66, 67, 68, 70, 71, 72, 74, 76, 78, 79, 82, 83, 84, 87, 88, 91, 92, 94, 95, 98, 100, 102, 105, 106, 107, 108, 110, 113, 115, 116, 119, 121, 122, 123, 126, 129, 132, 135]
def qh_Di_expandRow : List (List Nat) := [[], [], [], [], [], [], [], [], [], [], [], [], [3142, 2199], [], [], [], [], [], [], [], [], [1056], [], [], [], [], [], [], [], [2153, 2143], [], [], [1064], [], [], [], [1063], [], [], [], [], [], [], [], [], [], [3142, 2199], [], [], [], [], [], [], [], [], [1064], [], [], [2158, 2121], [], [], [], [], [], [], [], [], [], [], [], [], [], [], [], []]
def qp_J_abs : List Nat := [0, 1, 2, 3, 6, 7, 8, 11, 12]
def qh_J_abs : List (List Nat) := [[], [], [], [], [], [], [], [], []]
def qp_GC_cross : List Nat := [0, 1, 4, 5, 8, 11, 12, 15, 16, 19, 22, 23, 24, 25, 26, 27, 30, 33, 36, 39, 40, 43, 44]
def qh_GC_cross : List (List Nat) := [[], [2039], [], [3126, 3011, 3012], [], [], [2039], [], [3126, 3011, 3012], [], [], [], [], [], [], [2039], [1124], [3151, 3053], [], [], [], [], []]
def qp_GC_cluster : List Nat := [0, 1, 4, 7, 10, 11, 12, 15, 16, 17, 18, 19, 22, 23, 26, 29, 30, 31, 32, 35, 38, 41, 42, 45, 48, 49, 50, 53, 55]
def qh_GC_cluster : List (List Nat) := [[], [2039], [1124], [], [], [], [], [], [], [], [], [], [], [2040], [1181], [], [], [], [2040], [1181], [], [], [2040], [1179], [], [], [], [], []]
def qp_GC_square : List Nat := [0, 1, 4, 7, 10, 11, 12, 15, 16, 17, 18, 19, 20, 21, 22, 23, 26, 29, 32, 33, 36, 39, 40, 41, 43, 44, 47, 49, 50, 53, 56, 58, 61, 62, 63, 66, 68, 69, 72, 75, 78, 79, 80, 83, 84, 87, 89]
def qh_GC_square : List (List Nat) := [[], [2039], [1124], [], [], [], [], [], [], [], [], [], [], [], [], [2040], [1181], [], [], [2040], [1179], [], [], [], [], [2040], [], [], [2039], [3160, 3161, 3162], [], [], [], [], [], [], [], [], [], [], [], [], [], [], [], [], []]
def qp_Co_movedFrom : List Nat := [0, 1, 2, 5, 8, 9, 10, 13, 16, 18, 19, 20, 21, 22, 23, 26, 29, 30, 31, 32, 34, 36, 37, 40, 43, 44, 45, 48, 51, 52, 54, 57, 60, 61, 62, 63, 65, 66, 69, 72, 74, 76, 78, 81, 83, 84, 87, 90, 93, 96, 98]
def qh_Co_movedFrom : List (List Nat) := [[], [], [3044, 3046, 20], [], [], [], [3164, 3165, 3166], [], [], [], [], [], [], [], [1121], [], [], [], [], [], [], [], [1121], [], [], [], [3168, 2143], [], [], [], [3168, 2143], [], [], [], [], [], [], [1121], [3169, 3171, 25], [], [], [], [], [], [], [], [], [], [], [], []]
def qp_Ce_isOfNecklace : List Nat := [0, 1, 2, 3, 4, 7, 10, 11, 14, 15, 16, 17, 20, 21, 22, 25, 28, 29]
def qh_Ce_isOfNecklace : List (List Nat) := [[], [], [], [], [1119], [], [], [1141], [], [], [], [], [], [], [], [], [], []]
def qp_Co_movedAt : List Nat := [0, 1, 2, 5, 6, 7, 8, 9, 12, 13, 14, 15, 17, 18, 19, 20, 22, 24, 25, 28, 29, 31, 33, 35, 38, 40, 41, 44, 46, 47, 50, 51, 54, 55, 57, 59, 62, 63, 65, 68, 71, 72, 74, 77, 80, 81, 83, 84, 86, 87, 89, 92, 95, 97, 99, 102, 103, 105, 108, 109, 110, 113, 116, 119, 122, 124]
def qh_Co_movedAt : List (List Nat) := [[], [], [3173, 2121], [], [], [], [], [3173, 2121], [], [], [], [], [], [], [], [], [], [], [], [], [], [], [], [], [], [], [], [], [], [], [], [], [], [], [], [], [], [], [3168, 2143], [], [], [], [3168, 2143], [], [], [], [], [], [], [], [3174, 3176, 26], [], [], [], [3173, 2121], [], [], [3173, 2121], [], [], [], [], [], [], [], []]
def qp_Co_hasCorners : List Nat := [0, 1, 2, 3, 6, 7, 8, 11, 12, 15, 18, 19, 20, 21, 24, 25, 27, 30, 31, 34, 37, 38, 39, 41, 44, 45, 47, 50, 51, 54, 57, 58, 59, 60, 63, 64, 66, 69, 70, 73, 76, 77, 80, 81]
def qh_Co_hasCorners : List (List Nat) := [[], [], [], [3173, 2121], [], [], [3173, 2121], [], [3044, 3046, 20], [], [], [], [], [3173, 2121], [], [], [3173, 2121], [], [3044, 3046, 20], [], [], [], [], [3173, 2121], [], [], [3173, 2121], [], [3044, 3046, 20], [], [], [], [], [3173, 2121], [], [], [3173, 2121], [], [3044, 3046, 20], [], [], [], [], []]
def qp_GC_move : List Nat := [0, 1, 4, 7, 10, 11, 12, 13, 16, 17, 18, 21, 24, 25, 26, 28, 31, 33, 34, 35, 38, 39, 42, 43, 46, 49, 50, 53, 54, 57, 58, 61, 62, 65, 66]
def qh_GC_move : List (List Nat) := [[], [2039], [1124], [], [], [], [], [2040], [], [], [2039], [3160, 3161, 3162], [], [], [], [], [], [], [], [2042], [], [2039], [], [2040], [2225, 2226, 2227], [], [2040], [], [3182, 3183, 3184], [], [2040], [], [3186, 3041, 3042], [], []]
def qp_Co_remove : List Nat := [0, 1, 2, 3, 4, 5, 6, 9, 12, 13, 16, 17, 18, 19, 22, 23, 26, 27, 28, 31, 32, 33, 34, 37, 40, 43, 44, 45, 48]
def qh_Co_remove : List (List Nat) := [[], [], [], [], [], [], [1180], [], [], [1178], [], [], [], [], [], [1178], [], [], [1178], [], [], [], [], [], [], [], [], [1180], []]
def qp_GC_lower : List Nat := [0, 1, 2, 3, 4, 7]
def qh_GC_lower : List (List Nat) := [[], [], [], [], [3191, 3193, 27], []]
def qp_GC_valueOfNext : List Nat := [0, 1, 4, 7, 10, 11, 14, 15, 16, 19, 22, 25, 26, 27, 28, 31, 32, 35, 36, 39, 40, 43, 44, 45, 48, 49, 50, 51, 54, 55, 58, 59, 60, 63, 66, 67, 70, 73, 74, 75, 78, 80]
def qh_GC_valueOfNext : List (List Nat) := [[], [2039], [1124], [], [], [], [], [], [2039], [1124], [], [], [], [], [], [], [2041], [], [2039], [], [3195, 3196, 3197], [], [], [], [], [], [], [2041], [], [2039], [], [], [3208, 3200, 3201], [], [], [2041], [1194], [], [], [], [], []]
def qp_Ne_howManyFrom : List Nat := [0, 1, 2, 3, 4, 7, 8, 9, 12]
def qh_Ne_howManyFrom : List (List Nat) := [[], [], [], [], [3199, 3200, 3201], [], [], [1195], []]
def qp_Ne_seek : List Nat := [0, 1, 2, 5, 6, 8, 10, 11, 14, 17, 19, 20, 21, 23, 25, 27, 28, 31, 32, 35, 36, 37, 39, 41, 44, 47, 48, 51, 52, 55, 58, 59, 62, 63, 64, 67, 68, 71, 72, 75, 76, 77, 78, 79, 82, 83, 84, 87, 90, 93, 96, 99, 100]
def qh_Ne_seek : List (List Nat) := [[], [], [1195], [], [], [], [], [1123], [], [], [], [], [], [], [], [], [1123], [], [], [], [], [], [], [3203, 3205, 28], [], [], [1193], [], [1123], [3207, 3027], [], [1130], [], [], [], [], [1195], [], [], [], [], [], [], [1195], [], [], [1195], [], [], [], [], [], []]
def qp_Ne_swap : List Nat := [0, 1, 2, 5, 8, 9, 12, 15, 16, 18, 19, 21, 22, 24, 25, 28, 30, 31, 33, 34, 36, 37, 40, 41, 42, 44, 45, 47, 49, 50, 53, 55, 56, 57, 60, 61, 64, 66, 68, 71, 73, 75, 76, 79, 80, 83, 84, 85, 86, 88, 90, 91, 94, 97, 98, 101, 103, 104, 107, 109, 110, 111, 114, 117, 118, 121, 122, 124, 125, 126, 129, 131, 133, 134, 135]
def qh_Ne_swap : List (List Nat) := [[], [], [1123], [], [], [1123], [], [], [], [], [], [], [], [], [1138], [], [], [], [], [], [], [1138], [], [], [], [], [], [], [], [], [], [], [], [1123], [], [], [], [], [], [], [], [], [1123], [], [], [], [], [], [], [], [], [1123], [], [], [1193], [], [], [1138], [], [], [], [], [], [], [1193], [], [], [], [], [1193], [], [], [], [], []]
def qp_GC_upper : List Nat := [0, 1, 2, 3, 4, 7]
def qh_GC_upper : List (List Nat) := [[], [], [], [], [3191, 3193, 27], []]
def qp_GC_down : List Nat := [0, 1, 2, 3, 6]
def qh_GC_down : List (List Nat) := [[], [], [], [3217, 3219, 29], []]
def qp_GC_stepToNext : List Nat := [0, 1, 4, 7, 10, 11, 14, 15, 16, 17, 20, 21, 24, 25, 26, 29, 32, 34, 35, 36, 37, 40, 43, 44, 47, 50, 53, 54, 57, 60]
def qh_GC_stepToNext : List (List Nat) := [[], [2039], [1124], [], [], [], [], [], [], [2041], [], [2039], [], [], [3208, 3200, 3201], [], [], [], [], [], [2039], [1124], [], [2041], [1194], [2221, 2223, 16], [], [2039], [3221, 3222, 3223], []]
def qp_Ce_dimension : List Nat := [0, 1, 4, 7]
def qh_Ce_dimension : List (List Nat) := [[], [1149], [3225, 3226, 3227], []]
def qp_Di_plusCount : List Nat := [0, 1, 2, 3, 4, 5, 6, 9, 12, 13, 14, 17, 18, 19, 22, 23, 24, 27, 30, 31]
def qh_Di_plusCount : List (List Nat) := [[], [], [], [], [], [], [1056], [], [], [], [1059], [], [], [3142, 2199], [], [], [], [], [], []]
def qp_GC_up : List Nat := [0, 1, 2, 3, 6]
def qh_GC_up : List (List Nat) := [[], [], [], [3217, 3219, 29], []]
def qp_GC_turn : List Nat := [0, 1, 4, 7, 10, 11, 12, 13, 14, 15, 16, 19, 22, 25, 26, 29, 30, 31, 32, 33, 36, 39, 40, 41, 42, 43, 44, 47, 50, 51, 54, 55, 56, 59, 62, 63, 66, 69, 70, 71, 72, 73, 76, 79, 80, 81, 82, 83, 86, 89, 90, 93, 96, 97]
def qh_GC_turn : List (List Nat) := [[], [2039], [1124], [], [], [], [], [], [], [], [2039], [1124], [], [], [2045], [], [], [], [], [2039], [1139], [], [], [], [], [], [], [], [], [2045], [], [], [2039], [1139], [], [2039], [1124], [], [], [], [], [2039], [1124], [], [], [], [], [2039], [1124], [], [2045], [2221, 2223, 16], [], []]
def qp_GC_mirror : List Nat := [0, 1, 4, 7, 10, 11, 12, 13, 14, 15, 16, 19, 22, 25, 26, 29, 30, 33, 36, 37, 38, 39, 40, 41, 44, 47, 48, 49, 50, 53, 54, 57, 58, 59, 62, 65, 66, 67, 70, 73, 74, 77, 80, 81]
def qh_GC_mirror : List (List Nat) := [[], [2039], [1124], [], [], [], [], [], [], [], [2039], [1124], [], [], [2045], [], [2039], [1124], [], [], [], [], [], [2039], [1124], [], [], [], [2039], [], [4001, 4002, 4003], [], [], [], [], [], [], [2039], [1124], [], [2045], [2221, 2223, 16], [], []]
def qp_Ce_origin : List Nat := [0, 1, 2, 3, 4, 7, 10, 11, 14, 15, 16, 17, 20, 21, 22, 23, 26, 27, 28, 29, 30, 33, 34, 37, 38, 39, 42, 43, 44, 47, 50, 51]
def qh_Ce_origin : List (List Nat) := [[], [], [], [], [1119], [], [], [1136], [], [], [], [], [], [], [], [1136], [], [], [], [], [1119], [], [], [], [], [1119], [], [], [], [], [], []]
def qp_GC_complement : List Nat := [0, 1, 4, 7, 10, 11, 12, 13, 14, 15, 16, 19, 22, 25, 26, 29, 30, 31, 34, 35, 38, 39, 42, 45, 46, 47, 50, 53, 54, 55, 58, 61, 62, 65, 68, 69]
def qh_GC_complement : List (List Nat) := [[], [2039], [1124], [], [], [], [], [], [], [], [2039], [1124], [], [], [2045], [], [], [2039], [], [4001, 4002, 4003], [], [2039], [1124], [], [], [], [], [], [], [2039], [1124], [], [2045], [2221, 2223, 16], [], []]
def qp_GC_undo : List Nat := [0, 1, 4, 7, 10, 11, 12, 13, 16, 19, 20, 21, 24, 25, 28, 29, 32, 35, 36, 39, 40, 43, 46, 47, 50, 53]
def qh_GC_undo : List (List Nat) := [[], [2042], [1234], [], [], [], [], [2042], [4013, 4014, 4015], [], [], [2039], [], [1223], [], [1218], [2236, 2237, 2238], [], [2040], [], [1221], [4017, 2233, 2234], [], [2042], [1234], []]
def qp_Pa_takeLast : List Nat := [0, 1, 4, 5, 8, 9, 10, 11, 12, 15, 18, 19, 22, 23, 24, 27, 29, 32, 33, 34, 37, 38, 39, 42, 43]
def qh_Pa_takeLast : List (List Nat) := [[], [1231], [], [1232], [], [], [], [], [1232], [], [], [1232], [], [], [], [], [1232], [], [], [1233], [], [], [1233], [], []]
def qp_GC_howMany : List Nat := [0, 1, 2, 5, 6, 8, 11, 12, 15, 16, 17, 20, 21, 24, 25, 26, 27, 30, 31, 32, 33, 34, 35, 38, 39, 42]
def qh_GC_howMany : List (List Nat) := [[], [], [], [], [], [], [], [], [], [], [], [], [], [], [], [], [2043], [], [], [], [], [], [4022, 2230, 1017, 2231], [], [4023, 4024, 4025], []]
def qp_Cs_cells : List Nat := [0, 1, 3, 6, 7, 8, 9, 12, 13, 16, 17, 20, 21, 22, 23, 24, 25, 26, 27, 28, 30, 32, 33, 36, 37, 40, 41, 43, 45, 47, 50, 51, 53, 56, 57, 59, 62, 65, 68, 69, 72, 75, 78, 79, 82, 83, 84, 85, 86]
def qh_Cs_cells : List (List Nat) := [[], [], [], [], [], [], [4027, 4029, 30], [], [4032, 4034, 31], [], [2010], [], [], [], [], [], [], [], [], [], [], [], [], [], [4027, 4029, 30], [], [], [], [], [], [], [], [4036, 4038, 32], [], [], [4051, 4053, 34], [], [], [], [4032, 4034, 31], [], [], [], [2010], [], [], [], [], []]
def qp_Cs_clearThen : List Nat := [0, 1, 2, 3, 5, 8, 9, 12, 13, 14, 15, 18, 21, 24]
def qh_Cs_clearThen : List (List Nat) := [[], [], [], [], [], [], [2011], [], [], [], [4031, 2140], [], [], []]
def qp_Cs_flip : List Nat := [0, 1, 4, 5, 6, 7, 10, 13, 14, 15, 18]
def qh_Cs_flip : List (List Nat) := [[], [2010], [], [], [], [2011], [2010], [], [], [2011], []]
def qp_Cs_endLowestRow : List Nat := [0, 1, 4, 5, 6, 7, 10, 11, 12, 13, 14, 15, 16, 17, 18, 19, 20, 21, 22, 23, 24, 27]
def qh_Cs_endLowestRow : List (List Nat) := [[], [4040, 4041], [], [], [], [], [], [], [], [], [], [], [], [], [], [], [], [], [], [], [4047, 4049, 33], []]
def qp_J_highestOneBit : List Nat := [0, 1, 3, 4, 7, 8, 9]
def qh_J_highestOneBit : List (List Nat) := [[], [4043], [], [4044, 4045], [], [], []]
def qp_J_numberOfLeadingZeros : List Nat := [0, 1, 4, 5, 8, 10, 13, 14, 15, 17, 18, 19, 22, 25, 28, 29, 31, 32, 33, 34, 37, 40, 43, 44, 46, 47, 48, 49, 51, 54, 57, 58, 59, 60, 61, 62, 63, 66, 69, 70, 71, 72, 73, 74, 75, 76, 77, 78]
def qh_J_numberOfLeadingZeros : List (List Nat) := [[], [], [], [], [], [], [], [], [], [], [], [2220], [], [], [], [], [], [], [], [], [], [], [], [], [], [], [], [], [], [], [], [], [], [], [], [], [], [], [], [], [], [], [], [], [], [], [], []]
def qp_Cs_pass : List Nat := [0, 1, 3, 5, 6, 7, 9, 12, 13, 16, 17, 18, 20, 21, 22, 23, 24, 25, 28, 29, 30, 32, 33, 34, 35, 38, 41]
def qh_Cs_pass : List (List Nat) := [[], [], [], [], [], [], [], [], [2011], [], [], [], [], [], [], [], [], [2010], [], [], [], [], [], [], [], [], []]
def qp_Cs_addColumn : List Nat := [0, 1, 4, 5, 6, 7, 8, 9, 12, 13, 14, 15, 16, 17, 19, 20, 23, 24, 25, 26, 27, 28, 29, 30, 31, 32, 34, 35, 38, 39, 40, 41, 42, 43, 44, 47, 50, 53, 56]
def qh_Cs_addColumn : List (List Nat) := [[], [4040, 4041], [], [], [], [], [], [], [], [], [], [], [], [], [], [], [], [], [], [], [], [], [], [], [], [], [], [], [], [], [], [], [], [], [4055, 2199], [4047, 4049, 33], [], [], []]
def qp_GC_keep : List Nat := [0, 1, 4, 7, 10, 11, 14, 15, 16, 19, 20, 21, 22, 25, 26, 27, 28, 31, 34, 35, 38, 41]
def qh_GC_keep : List (List Nat) := [[], [2039], [1124], [], [], [], [], [], [], [], [], [], [2044], [], [], [], [2039], [4060, 4061, 4062], [], [2039], [3221, 3222, 3223], []]
def qp_Sh_put : List Nat := [0, 1, 2, 5, 8, 9, 10, 13, 16, 17, 18, 21, 24, 25, 26, 27, 28, 31, 34, 35, 38, 39, 40, 43, 44, 45, 46, 49, 52]
def qh_Sh_put : List (List Nat) := [[], [], [1120], [2024], [], [], [1126], [2026], [], [], [1132], [2027], [], [], [], [], [2027], [], [], [2028], [], [], [1146], [], [], [], [], [], []]
def qp_GC_has : List Nat := [0, 1, 4, 7, 10, 11, 14, 15, 16, 19, 20, 21, 22, 25, 26, 27, 30, 33, 35, 36, 37, 40, 41, 42, 43, 46, 49, 52, 53, 56, 57]
def qh_GC_has : List (List Nat) := [[], [2039], [1124], [], [], [], [], [], [], [], [], [], [2044], [], [], [2025], [], [], [], [], [2044], [], [], [], [2039], [4068, 4069, 4070], [], [], [], [], []]
def qp_Sh_isInClosureOf : List Nat := [0, 1, 4, 5, 8, 11, 12, 15, 16, 19, 22, 23, 24, 25, 26, 27, 28, 31, 34, 35, 36, 39, 40, 41, 44, 47, 48, 49, 52, 55, 56]
def qh_Sh_isInClosureOf : List (List Nat) := [[], [2024], [], [1120], [], [], [2026], [], [1126], [], [], [], [], [], [], [], [2027], [], [], [], [2028], [], [], [4072, 3098, 3099], [], [], [], [], [], [], []]
def qp_GC_count : List Nat := [0, 1, 28, 29, 32, 35, 36, 37, 40, 41, 42, 45, 48, 51, 52, 53, 56, 59, 62, 63, 64, 67, 70, 71]
def qh_GC_count : List (List Nat) := [[], [], [], [2042], [1234], [], [], [4077, 4079, 35], [], [], [2038], [1084], [1039], [], [], [2039], [1124], [], [], [], [4081, 4083, 36], [], [], []]
def qp_GC_filledShelves : List Nat := [0, 1, 2, 3, 4, 5, 6, 9, 10, 13, 14, 15, 18, 21, 22, 23, 24, 25, 26, 27, 30, 33, 34]
def qh_GC_filledShelves : List (List Nat) := [[], [], [], [], [], [], [], [], [2044], [], [], [2025], [], [], [], [], [], [], [], [], [], [], []]
def qp_GC_countOfLive : List Nat := [0, 1, 44, 45, 48, 51, 52, 53, 56, 59, 60, 61, 64, 67, 68, 69, 72, 75, 76, 77, 80, 81, 84, 85, 86, 89, 90, 93, 96, 99, 100, 101, 104, 107, 108, 109]
def qh_GC_countOfLive : List (List Nat) := [[], [], [], [2039], [1124], [], [], [2039], [1128], [], [], [2039], [3221, 3222, 3223], [], [], [2039], [1131], [], [], [2039], [], [4085, 4086, 4087], [], [], [2039], [], [2039], [1124], [4085, 4086, 4087], [], [], [2039], [4089, 4090, 4091], [], [], []]
def qp_Ce_fixedLabels : List Nat := [0, 1, 2, 3, 4, 5, 6, 9, 12, 13, 16, 17, 18, 19, 20, 21, 24, 25, 26, 29, 30, 31, 34, 37, 38]
def qh_Ce_fixedLabels : List (List Nat) := [[], [], [], [], [], [], [1119], [], [], [1136], [], [], [], [], [], [], [], [], [3004, 2121], [], [], [], [], [], []]
def qp_Ce_partCount : List Nat := [0, 1, 2, 3, 4, 5, 6, 7, 8, 11, 14, 15, 16, 19, 22, 23, 24, 25, 28, 29, 30, 33, 36, 39, 40]
def qh_Ce_partCount : List (List Nat) := [[], [], [], [], [], [], [], [], [1119], [], [], [], [3106, 2143], [], [], [], [], [4093, 3113, 3114], [], [], [], [], [], [], []]
def qp_Md_init : List Nat := [0, 1, 4, 5, 8, 10, 13, 14, 16, 18, 19, 20, 22, 23, 24, 25, 27, 28, 29, 30, 32, 33, 34, 35, 37, 38, 39, 40, 42, 43, 44, 45, 47, 48, 49, 51, 53, 54, 55, 57, 59, 60, 61, 63, 65, 66, 67, 69, 71, 72, 73, 75, 77, 78, 79, 81, 83, 84, 87, 88, 90, 92, 95, 96, 98, 100, 103, 104, 106, 108, 111, 112, 114, 116, 119, 120, 122, 124, 127, 128, 130, 132, 135, 136, 139, 141, 144, 145, 148, 150, 153, 154, 156, 158, 161, 162, 164, 166, 169, 170, 172, 174, 177, 178, 181, 183, 186, 187, 189, 191, 194, 195, 198, 200, 203, 204, 206, 208, 211, 212, 214, 216, 219, 220, 221, 223, 226, 227, 229, 231, 234, 235, 237, 239, 242, 243, 244, 245, 246, 249, 250, 253, 254, 255, 256, 259, 262]
def qh_Md_init : List (List Nat) := [[], [4099, 1024, 0], [], [], [4185], [4100], [], [], [4185], [], [], [], [], [], [], [], [], [], [], [], [], [], [], [], [], [], [], [], [], [], [], [], [], [], [], [], [], [], [], [], [], [], [], [], [], [], [], [], [], [], [], [], [], [], [], [], [], [4104], [], [], [1047], [4106], [], [], [1047], [4107], [], [], [1047], [4108], [], [], [1047], [4109], [], [], [1047], [4111], [], [], [1047], [4113], [], [], [1171], [4114], [], [], [1171], [4115], [], [], [1047], [4116], [], [], [1082], [4117], [], [], [1082], [4118], [], [], [1047], [4119], [], [], [1047], [4121], [], [], [1171], [4122], [], [], [1047], [4123], [], [], [1047], [4124], [], [], [1047], [4125], [], [], [1047], [4126], [], [], [1047], [4127], [], [], [], [], [], [], [4125], [], [], [], [], [], []]
def qp_Md_feed : List Nat := [0, 1, 4, 7, 10, 11, 12, 13, 15, 17, 19, 22, 24, 25, 28, 29, 32, 34, 36, 39, 40, 43, 45, 47, 50, 51, 54, 56, 58, 61, 63, 66, 68, 70, 71, 74, 75, 78, 80, 81, 83, 85, 87, 89, 90, 91, 92, 93, 94, 95, 96, 99, 102, 103, 104, 107, 109, 110, 113, 114, 117]
def qh_Md_feed : List (List Nat) := [[], [4101], [], [], [], [], [], [], [], [], [], [], [], [], [], [], [], [], [], [], [], [], [], [], [], [], [], [], [], [], [], [], [], [], [4100], [], [4101], [], [], [], [], [], [], [], [], [], [], [], [], [], [], [], [], [], [4101], [], [], [4101], [], [4101], []]
def qp_Md_end : List Nat := [0, 1, 2, 3, 4, 7, 8, 11, 14, 15, 16, 17, 18, 21, 22]
def qh_Md_end : List (List Nat) := [[], [], [], [], [4101], [], [4194, 4195], [], [], [], [], [], [4101], [], []]
def qp_Md_isIn : List Nat := [0, 1, 2, 3, 6, 7, 9, 10, 13, 14, 17, 18]
def qh_Md_isIn : List (List Nat) := [[], [], [], [], [], [], [], [], [], [], [], []]
def qp_Md_cell : List Nat := [0, 1, 2, 5, 6, 9, 10, 11, 14, 15, 16, 17, 20, 23, 26, 27, 28, 31, 32, 33, 34, 37, 38, 41, 42, 45, 48, 49, 52, 54, 55, 58, 59, 60, 61, 64, 65, 66, 69, 72, 73, 74, 75, 76, 79, 82, 83, 86, 87, 88, 91, 92, 93, 94, 97, 100, 101, 104, 105, 108]
def qh_Md_cell : List (List Nat) := [[], [], [4102], [], [4201, 4203, 37], [], [], [], [], [], [], [4102], [4216, 4218, 40], [], [], [], [4220, 4222, 41], [], [], [], [4101], [], [], [], [4110], [], [], [5061, 5063, 55], [], [], [4103], [], [], [], [5077, 5079, 59], [], [], [4105], [4110], [], [], [], [], [4110], [], [], [4111], [], [], [4106], [], [], [], [], [], [], [5081, 5083, 60], [], [4110], []]
def qp_Md_wordHere : List Nat := [0, 1, 4, 5, 6, 7, 8, 9, 12, 13, 14, 15, 16, 19, 20, 21, 24, 25, 26, 29, 30, 33, 34, 35, 36, 37, 38, 39, 42, 45, 48, 49, 50, 53, 54, 55, 58, 59, 60, 63, 66, 69, 70, 71, 74, 77, 78]
def qh_Md_wordHere : List (List Nat) := [[], [4205, 4207, 38], [], [], [], [], [], [], [], [], [], [], [], [], [], [4102], [], [], [4209, 4211, 39], [], [4104], [], [], [], [], [], [], [], [], [], [], [], [], [], [], [4102], [], [], [4209, 4211, 39], [4213, 4214], [], [], [], [], [], [], []]
def qp_Md_next : List Nat := [0, 1, 2, 5, 8, 10, 13, 14, 15, 18, 19, 20, 23, 26, 27, 28, 31, 34]
def qh_Md_next : List (List Nat) := [[], [], [4102], [4209, 4211, 39], [], [], [], [], [4102], [], [], [4102], [], [], [], [4102], [4209, 4211, 39], []]
def qp_Md_byteAt : List Nat := [0, 1, 2, 5, 8, 9, 12, 13, 14, 17, 18, 21, 22]
def qh_Md_byteAt : List (List Nat) := [[], [], [4101], [], [], [4100], [], [], [], [], [], [], []]
def qp_Md_isLetter : List Nat := [0, 1, 3, 6, 7, 9, 12, 13, 16, 17]
def qh_Md_isLetter : List (List Nat) := [[], [], [], [], [], [], [], [], [], []]
def qp_Md_fails : List Nat := [0, 1, 3, 4, 5, 6, 7, 10, 11]
def qh_Md_fails : List (List Nat) := [[], [], [], [], [], [], [4103], [], []]
def qp_Md_readsRest : List Nat := [0, 1, 2, 5, 6, 7, 10, 11, 14, 15, 18, 21, 22, 23, 26, 27, 30, 33, 34, 37]
def qh_Md_readsRest : List (List Nat) := [[], [], [4102], [], [], [4102], [], [], [], [4224, 4226, 42], [], [], [], [], [], [4236, 4238, 44], [], [], [5037, 5039, 52], []]
def qp_Md_readsPerm : List Nat := [0, 1, 2, 5, 6, 9, 12, 15, 16, 19, 20, 21, 22, 23, 24, 27, 30, 33, 36, 37, 40, 41, 42, 43, 46, 48, 49, 50, 51, 52, 55, 58, 59, 61, 62, 65, 66, 67, 68, 69, 72, 73, 74, 77, 80, 81, 84, 85, 86, 87, 90, 91, 94, 96, 99, 100, 101, 102, 105, 106, 107, 108, 111, 112, 113, 116, 117, 120, 121, 124, 125, 126, 127, 130, 131, 134, 135, 136, 139, 140, 143, 144, 147, 148, 151, 152, 155, 156, 157, 158, 161, 164, 165, 166, 167, 168, 169, 172, 175, 176, 179, 180, 181, 182, 183, 186, 189, 192, 193, 194, 195, 198, 199, 200, 203, 204, 207, 210, 211, 212, 213, 214, 217, 220, 221, 224, 225, 226, 227, 228, 229, 230, 231, 234, 235, 236, 239, 242, 243, 244, 247, 250, 251, 252, 253, 256, 257, 258, 261, 262, 265, 268, 269]
def qh_Md_readsPerm : List (List Nat) := [[], [], [4105], [], [4205, 4207, 38], [4228, 4229], [], [], [4102], [], [], [], [], [], [4102], [4209, 4211, 39], [4228, 4229], [], [], [4102], [], [], [], [], [], [], [], [], [], [4102], [4209, 4211, 39], [], [], [], [], [], [], [], [], [4102], [], [], [4102], [], [], [4102], [], [], [], [], [], [4105], [], [], [], [], [], [4216, 4218, 40], [], [], [], [4105], [], [], [4105], [], [4106], [], [4105], [], [], [], [4107], [], [4105], [], [], [], [], [4205, 4207, 38], [], [], [], [4105], [], [], [], [], [], [4102], [4216, 4218, 40], [], [], [], [], [], [4105], [], [], [4106], [], [], [], [], [4231], [4194, 4195], [], [], [], [], [4107], [], [], [4216, 4218, 40], [], [], [], [], [], [], [], [4105], [], [], [4106], [], [], [], [], [], [], [], [4105], [], [], [4194, 4195], [], [], [], [4232, 4234, 43], [], [], [], [], [4107], [], [], [4216, 4218, 40], [], [], [], [], []]
def qp_Md_isDigit : List Nat := [0, 1, 3, 6, 7, 9, 12, 13, 16, 17]
def qh_Md_isDigit : List (List Nat) := [[], [], [], [], [], [], [], [], [], []]
def qp_Md_isLikeAhead : List Nat := [0, 1, 2, 3, 4, 7, 8, 11, 12, 13, 14, 17, 18, 19, 20, 21, 24, 25, 28, 29, 30, 33, 36, 37]
def qh_Md_isLikeAhead : List (List Nat) := [[], [], [], [], [], [], [4106], [], [], [], [4106], [], [], [], [], [4105], [], [], [], [], [], [], [], []]
def qp_Md_readsFill : List Nat := [0, 1, 4, 5, 6, 7, 8, 9, 12, 13, 14, 17, 20, 23, 26, 27, 28, 31, 34, 36, 39, 40, 41, 44, 47, 49, 52, 53, 56, 58, 61, 62, 63, 64, 67, 70, 71, 72, 73, 76, 77, 78, 81, 82, 83, 86, 89, 91, 94, 95, 96, 99, 102, 105, 106, 107, 108, 109, 112, 113, 114, 117, 120, 121, 124, 125, 128, 129, 130, 131, 134, 137, 138, 139, 140, 141, 144, 147, 148, 149, 150, 151, 152, 153, 156, 159, 160, 161, 164, 167, 170, 171, 174, 176, 179, 180, 181, 182, 185, 188, 189, 190, 191, 194, 195, 196, 199, 200, 203, 204, 205, 208, 210, 212, 213, 216, 217, 218, 220, 223, 226, 229, 230, 231, 234, 237, 239, 242, 243, 244, 247, 250, 252, 255, 256, 257, 258, 261, 264, 265, 266, 267, 270, 273, 275, 278, 279, 282, 284, 285, 286, 288, 289, 290, 291, 294, 295, 298, 299, 300, 302, 303, 306, 309, 312, 313, 316, 317, 318, 319, 322, 323, 324, 327, 330, 333, 336, 339, 340, 343, 344, 347, 348, 349, 350, 353, 356, 357, 358, 361, 362, 363, 364, 367, 368, 369, 370, 371, 372, 375, 378, 379, 382, 383, 384, 385, 386, 387, 390, 393, 394, 397, 400, 401]
def qh_Md_readsFill : List (List Nat) := [[], [4205, 4207, 38], [], [], [], [], [], [4105], [], [], [4102], [4209, 4211, 39], [4213, 4214], [], [], [], [4102], [4209, 4211, 39], [], [], [], [], [4102], [4209, 4211, 39], [], [], [], [4105], [], [], [], [], [], [4102], [4216, 4218, 40], [], [], [], [4105], [], [], [4105], [], [], [4102], [4209, 4211, 39], [], [], [], [], [4105], [5000, 5001], [], [], [], [], [], [4102], [], [], [4102], [], [], [4105], [], [], [], [], [], [4102], [4216, 4218, 40], [], [], [], [], [4105], [5003, 5005, 45], [], [], [], [], [], [], [4105], [], [], [], [5007, 5008], [], [], [], [4205, 4207, 38], [], [], [], [], [], [4102], [4216, 4218, 40], [], [], [], [4102], [], [], [4102], [], [4205, 4207, 38], [], [], [4105], [], [], [], [], [], [], [], [5010, 5012, 46], [], [], [], [], [4102], [4209, 4211, 39], [], [], [], [], [4102], [4209, 4211, 39], [], [], [], [], [], [4102], [4216, 4218, 40], [], [], [], [4102], [4209, 4211, 39], [], [], [], [4109], [], [], [], [], [], [], [], [], [], [], [], [], [], [], [4105], [5014, 5016, 47], [], [], [4102], [], [], [], [4102], [], [], [4102], [], [], [], [], [], [4205, 4207, 38], [], [], [], [], [], [4102], [4216, 4218, 40], [], [], [], [], [], [], [4216, 4218, 40], [], [], [], [], [], [4105], [], [], [4106], [], [], [], [], [], [4105], [5022, 5024, 49], [], [], [], [], []]
def qp_Md_with : List Nat := [0, 1, 2, 3, 4, 5, 6, 7]
def qh_Md_with : List (List Nat) := [[], [], [], [], [], [], [], []]
def qp_Md_laysShape : List Nat := [0, 1, 2, 3, 5, 8, 9, 12, 13, 14, 15, 18, 21, 22, 23, 24, 25, 28, 29, 30, 31, 33, 35, 36, 39, 40, 41, 44, 47, 48, 50, 53, 56, 57, 60, 62, 63, 64, 66, 67, 68, 69, 72, 75, 78, 81]
def qh_Md_laysShape : List (List Nat) := [[], [], [], [], [], [], [4109], [], [], [], [], [], [], [], [], [], [], [], [], [], [], [], [], [], [], [], [5007, 5008], [], [], [], [5007, 5008], [], [], [4109], [], [], [], [], [], [], [], [], [], [], [], []]
def qp_Md_has : List Nat := [0, 1, 2, 3, 4, 5, 6, 7, 8, 11, 12, 15, 16]
def qh_Md_has : List (List Nat) := [[], [], [], [], [], [], [], [], [], [], [], [], []]
def qp_Md_isBox : List Nat := [0, 1, 4, 6, 7, 8, 9, 10, 11, 14, 15, 18, 19]
def qh_Md_isBox : List (List Nat) := [[], [4109], [], [], [], [], [], [], [], [], [], [], []]
def qp_Md_isLe : List Nat := [0, 1, 3, 4, 6, 7, 9, 11, 12, 15, 17, 20, 21, 23, 24, 27, 30, 31, 34, 35, 37, 40, 43, 44, 45, 46, 48, 50, 51, 54, 56, 59, 60, 61, 63, 66, 69, 70, 73, 74, 76, 79, 82, 84, 87, 89, 92, 93, 96, 97]
def qh_Md_isLe : List (List Nat) := [[], [], [], [], [], [], [], [], [], [], [], [], [], [], [5018, 5020, 48], [], [], [], [], [], [], [], [], [], [], [], [], [], [], [], [], [], [], [], [5018, 5020, 48], [], [], [], [], [], [], [], [], [], [], [], [], [], [], []]
def qp_Md_isPlus : List Nat := [0, 1, 4, 6, 7, 8, 9, 10, 11, 12, 15, 16, 19, 20]
def qh_Md_isPlus : List (List Nat) := [[], [4109], [], [], [], [], [], [], [], [], [], [], [], []]
def qp_Md_goesFrom : List Nat := [0, 1, 2, 5, 7, 9, 12, 13, 16, 17, 18, 19, 22, 24, 26, 29, 30, 31, 32, 33, 36, 39, 40, 42, 44, 47, 49, 52, 53, 55, 57, 60, 62, 65, 66, 69, 70, 72, 74, 77, 78, 80, 82, 83, 86, 88, 90, 93, 95, 96, 97, 98, 101, 102, 104, 106, 109, 110, 112, 114, 117, 119, 121, 124, 126, 127, 128, 129, 132, 133, 135, 137, 139, 141, 144, 145, 146, 147, 148, 151]
def qh_Md_goesFrom : List (List Nat) := [[], [], [5007, 5008], [], [], [], [], [], [], [], [], [5026, 5028, 50], [], [], [], [], [], [], [], [5030, 5032, 51], [], [], [], [], [], [], [], [], [], [], [5018, 5020, 48], [], [], [], [], [], [], [], [], [], [], [], [], [5030, 5032, 51], [], [], [], [], [], [], [], [5034, 5035], [], [], [], [], [], [], [], [5026, 5028, 50], [], [], [], [], [], [], [], [5034, 5035], [], [], [], [], [], [], [], [], [], [], [5034, 5035], []]
def qp_Md_rowAbove : List Nat := [0, 1, 2, 3, 4, 5, 8, 9, 10, 11, 14, 17, 20, 23, 24]
def qh_Md_rowAbove : List (List Nat) := [[], [], [], [], [], [], [], [], [], [5010, 5012, 46], [], [], [], [], []]
def qp_Md_columnLeft : List Nat := [0, 1, 2, 3, 5, 7, 8, 11, 12, 13, 15, 18, 21, 24, 27, 29, 30, 33, 34, 37, 39]
def qh_Md_columnLeft : List (List Nat) := [[], [], [], [], [], [], [], [], [], [], [5010, 5012, 46], [], [], [], [], [], [], [], [], [], []]
def qp_Md_outAt : List Nat := [0, 1, 2, 5, 6, 7, 10, 11, 12, 15, 18, 19, 20, 21, 24, 25]
def qh_Md_outAt : List (List Nat) := [[], [], [], [], [], [], [], [], [5007, 5008], [], [], [], [], [], [], []]
def qp_Md_readsNeck : List Nat := [0, 1, 2, 5, 6, 7, 8, 9, 10, 13, 16, 19, 20, 23, 25, 28, 29, 30, 31, 34, 37, 38, 39, 40, 43, 44, 45, 48, 49, 52, 53, 56, 57, 60, 61, 62, 65, 66, 69, 70, 71, 72, 73, 74, 76, 77, 78, 81, 84, 87, 90, 91, 92, 95, 98, 100, 101, 103, 105, 106, 109, 111, 113, 116, 117, 120, 121, 124, 126, 127, 130, 131, 132, 133, 136, 139, 140, 141, 144, 145, 148, 149, 152, 153, 156, 157, 159, 162, 163, 165, 166, 169, 170, 171, 174, 175, 176, 179, 182, 183, 186, 187, 190, 192, 193, 196, 198, 199, 202, 203, 204, 205, 208, 211, 212, 215, 216, 219, 220, 223, 224, 227, 228, 231, 232, 233, 234, 237, 240, 241, 242, 245, 248, 249, 252, 255, 256, 259, 260]
def qh_Md_readsNeck : List (List Nat) := [[], [], [4105], [], [], [], [], [], [4205, 4207, 38], [4228, 4229], [], [], [4105], [], [], [], [], [], [4102], [4216, 4218, 40], [], [], [], [4105], [], [], [4105], [], [4107], [], [4105], [], [4102], [], [], [4108], [], [4105], [], [], [], [], [], [], [], [], [4102], [4209, 4211, 39], [4228, 4229], [], [], [], [4102], [4209, 4211, 39], [], [], [], [], [], [], [], [], [], [], [4105], [], [], [], [], [], [], [], [], [4102], [4216, 4218, 40], [], [], [4108], [], [4105], [], [4108], [], [4105], [], [], [5000, 5001], [], [], [], [], [], [], [4102], [], [], [4102], [], [], [4105], [], [], [], [], [], [], [], [], [], [], [], [4102], [4216, 4218, 40], [], [], [], [4205, 4207, 38], [], [], [], [4105], [], [], [], [], [], [4102], [4216, 4218, 40], [], [], [5041, 5043, 53], [], [], [5054, 5056, 54], [], [], [], [], []]
def qp_Md_isNeck : List Nat := [0, 1, 2, 3, 4, 7, 10, 11, 14, 15, 16, 17, 18, 19, 20, 22, 25, 26, 29, 30, 31, 32, 35, 38, 41, 42, 43, 46, 49, 50, 51, 52, 55, 56, 59, 62, 65, 68, 71, 72, 73, 74, 75, 78, 81, 82, 85, 86, 87, 88, 91, 92, 93, 94, 95, 96, 97, 98, 101, 104, 105, 106, 107, 110, 111, 112, 115, 116, 119, 122, 123, 126, 127, 128, 129, 132, 133, 136, 137, 138, 141, 144, 147, 148, 149, 150, 153, 154, 157, 158, 161, 164, 165, 168, 169]
def qh_Md_isNeck : List (List Nat) := [[], [], [], [], [4105], [], [], [4107], [], [], [], [], [], [], [], [], [], [4108], [], [], [], [5007, 5008], [], [], [], [], [4105], [], [], [], [], [4216, 4218, 40], [], [], [], [], [], [], [], [], [], [], [4105], [], [], [4108], [], [], [], [4108], [], [], [], [], [], [], [], [5045, 5046], [], [], [], [], [4107], [], [], [4216, 4218, 40], [], [], [], [], [4108], [], [], [], [4108], [], [4105], [], [], [4105], [5045, 5046], [], [], [], [], [4107], [], [4105], [], [4216, 4218, 40], [], [], [], [], []]
def qp_Md_canStand : List Nat := [0, 1, 2, 5, 8, 9, 10, 13, 14, 17, 18, 19, 20, 21, 24, 25, 26, 27, 28, 29, 32, 33, 36, 37, 40, 43, 44, 47, 48]
def qh_Md_canStand : List (List Nat) := [[], [], [5007, 5008], [], [], [], [], [], [], [], [], [], [], [5048, 5049], [], [], [], [], [], [], [], [5051, 5052], [], [5051, 5052], [], [], [], [], []]
def qp_Md_without : List Nat := [0, 1, 2, 3, 4, 5, 6, 7, 8, 9]
def qh_Md_without : List (List Nat) := [[], [], [], [], [], [], [], [], [], []]
def qp_Md_sizeOf : List Nat := [0, 1, 2, 3, 4, 5, 7, 10, 11, 12, 13, 14, 15, 16, 17, 18, 21, 24, 25]
def qh_Md_sizeOf : List (List Nat) := [[], [], [], [], [], [], [], [], [], [], [], [], [], [], [], [], [], [], []]
def qp_Md_laysByNeck : List Nat := [0, 1, 2, 3, 4, 7, 10, 11, 14, 15, 16, 19, 20, 21, 22, 25, 26, 27, 30, 31, 32, 33, 34, 35, 36, 39, 42, 43, 46, 49, 50]
def qh_Md_laysByNeck : List (List Nat) := [[], [], [], [], [4105], [], [], [4106], [], [], [4108], [], [], [], [4108], [], [], [4105], [], [], [], [], [], [], [4105], [5058, 5059], [], [], [], [], []]
def qp_Md_stepOf : List Nat := [0, 1, 2, 5, 8, 9, 10, 11, 12, 13, 16, 17, 18, 19, 21, 22, 24, 26, 28, 31, 34, 37, 40, 42, 43, 46, 48, 51, 53, 54, 55]
def qh_Md_stepOf : List (List Nat) := [[], [], [5007, 5008], [], [], [], [], [], [], [5048, 5049], [], [], [], [], [], [], [], [], [5007, 5008], [], [], [], [], [], [], [], [], [], [], [], []]
def qp_Md_laysDiagram : List Nat := [0, 1, 2, 5, 6, 7, 8, 11, 14, 15, 16, 17, 18, 21, 24, 25, 28, 29, 30, 31, 34, 35, 36, 37, 38, 39, 40, 41, 44, 45, 46, 47, 50, 51, 52, 53, 54, 55, 56, 57, 59, 60, 63, 65, 67, 70, 71, 73, 76, 79, 82, 83, 85, 88, 91, 94, 97, 98, 100, 102, 105, 108, 109, 112, 114, 116, 117, 119, 120, 121, 122, 125, 128, 131, 134, 137, 138, 141, 144, 145, 148]
def qh_Md_laysDiagram : List (List Nat) := [[], [], [4113], [], [], [], [4110], [5003, 5005, 45], [], [], [], [], [4110], [], [], [4113], [], [], [], [4113], [], [], [], [], [], [], [], [4113], [], [], [], [4113], [], [], [], [], [], [], [], [], [], [4110], [], [], [], [], [], [5007, 5008], [], [], [], [], [5007, 5008], [], [], [], [], [], [], [5010, 5012, 46], [], [], [4109], [], [], [], [], [], [], [], [], [], [], [], [], [], [5065, 5067, 56], [], [], [5069, 5071, 57], []]
def qp_Md_isOwnDiagram : List Nat := [0, 1, 2, 3, 4, 7, 10, 11, 12, 13, 16, 17, 18, 19, 22, 25, 26, 29, 30, 31, 34, 35, 36, 39, 42, 43]
def qh_Md_isOwnDiagram : List (List Nat) := [[], [], [], [], [4110], [], [], [], [], [4113], [], [], [], [4110], [5022, 5024, 49], [], [4111], [], [], [], [], [], [], [], [], []]
def qp_Md_searchesDiagram : List Nat := [0, 1, 2, 3, 4, 5, 7, 10, 11, 12, 15, 16, 17, 20, 21, 24, 25, 26, 27, 30, 33, 34, 35, 36, 37, 38, 39, 42, 43, 44, 45, 47, 49, 51, 54, 55, 58, 60, 61, 64, 67, 68, 71, 73, 74, 75, 76, 77, 78, 79, 80, 81, 84, 87, 90, 91, 94, 97, 98, 101, 104, 105, 108, 111]
def qh_Md_searchesDiagram : List (List Nat) := [[], [], [], [], [], [], [], [], [], [4109], [], [], [], [], [], [], [], [], [], [], [], [], [], [], [], [], [], [], [], [], [], [], [], [], [], [4109], [], [], [], [], [], [4109], [], [], [], [], [], [], [], [], [], [], [], [], [], [5073, 5075, 58], [], [], [5065, 5067, 56], [], [], [], [], []]
def qp_Md_isAllLe : List Nat := [0, 1, 2, 3, 4, 7, 10, 11, 12, 13, 14, 15, 16, 19, 22, 23, 26, 28, 29, 30, 31, 32, 33, 34, 37, 38, 39, 40, 41, 44, 47, 50, 51, 52, 55, 58, 61, 64, 65]
def qh_Md_isAllLe : List (List Nat) := [[], [], [], [], [4110], [], [], [], [], [], [], [], [4110], [], [], [4109], [], [], [], [], [], [], [], [], [], [], [], [], [4110], [5014, 5016, 47], [], [], [], [], [], [], [], [], []]
def qp_Md_keepsAct : List Nat := [0, 1, 4, 6, 9, 11, 12, 13, 16, 19, 20, 23, 24, 26, 27, 28, 31, 32, 33, 34, 37, 40, 41, 42, 45, 46, 47, 50, 52, 53, 56, 57, 58, 59, 62, 63, 64, 67, 68, 69, 70, 71, 72, 75, 78, 79, 82, 83, 84, 85, 86, 89, 90, 91, 92, 95, 98, 99, 100, 101, 103, 106, 107, 110, 111, 113, 114, 115, 116, 117, 118, 121, 124, 125, 126, 127, 130, 133, 134, 137, 138, 139, 142, 143, 146, 147, 149, 150, 151, 153, 154, 155, 156, 157, 158, 159, 161, 162, 163, 164, 165, 168, 171, 172, 173, 176, 177, 178, 181]
def qh_Md_keepsAct : List (List Nat) := [[], [4120], [], [], [], [], [], [], [], [], [4119], [], [], [], [], [4119], [], [], [], [], [], [], [], [4120], [], [], [4120], [], [], [4120], [], [], [], [4119], [], [], [4110], [], [], [], [], [], [4110], [], [], [4119], [], [], [], [], [4111], [], [], [], [], [], [], [], [], [], [], [], [4119], [], [], [], [], [], [], [], [], [], [], [], [], [], [], [], [4115], [], [], [], [], [4119], [], [], [], [], [], [], [], [], [], [], [], [], [], [], [], [], [], [], [], [], [4120], [], [], [4120], []]
def qp_Md_changes : List Nat := [0, 1, 4, 5, 8]
def qh_Md_changes : List (List Nat) := [[], [5085, 5087, 61], [], [5101, 5103, 65], []]
def qp_Md_follows : List Nat := [0, 1, 4, 5, 8, 9, 12]
def qh_Md_follows : List (List Nat) := [[], [5089, 5091, 62], [], [5093, 5095, 63], [], [5061, 5063, 55], []]
def qp_Md_laysNeck : List Nat := [0, 1, 4, 5, 6, 7, 8, 9, 10, 11, 14, 17, 18, 21, 22, 23, 24, 27, 30, 31, 34, 35, 36, 39, 40, 41, 42, 45, 46, 47, 48, 51, 52, 55, 56, 59, 62, 63, 64, 65, 66, 69, 72, 73, 76, 77, 78, 79, 80, 83, 84, 85, 86, 89, 90, 93, 94, 95, 98, 99, 102, 103, 104, 105, 108, 109, 112, 113, 114, 115, 118, 121, 122, 125, 126, 127, 128, 131, 132, 135, 136, 139, 140, 141, 144, 145, 148, 151, 152, 153, 156, 157, 158, 161, 164]
def qh_Md_laysNeck : List (List Nat) := [[], [4113], [], [], [], [], [], [], [], [4110], [], [], [4111], [], [], [], [4110], [], [], [4113], [], [], [4113], [], [], [], [4111], [], [], [], [4110], [], [5000, 5001], [], [], [], [], [], [], [], [4110], [], [], [4113], [], [], [], [], [4111], [], [], [], [], [], [4113], [], [], [], [], [4113], [], [], [], [5048, 5049], [], [4111], [], [], [], [4110], [], [], [4111], [], [], [], [4110], [], [], [], [4111], [], [], [5000, 5001], [], [], [], [], [], [4113], [], [], [5051, 5052], [4112], []]
def qp_Md_laysBases : List Nat := [0, 1, 2, 3, 6, 9, 10, 11, 12, 15, 16, 19, 20, 23, 24, 27, 30, 31, 34, 35, 36, 37, 38, 39, 40, 43, 46, 47, 50, 51, 52, 53, 56, 57, 58, 59, 62, 63, 66, 69, 70, 73, 74, 75, 76, 79, 82]
def qh_Md_laysBases : List (List Nat) := [[], [], [], [], [], [], [], [], [4110], [], [], [], [5051, 5052], [], [4112], [], [], [], [], [], [], [], [], [], [4110], [], [], [], [], [], [], [4113], [], [], [], [5097, 5099, 64], [], [], [], [], [4114], [], [], [], [], [], []]
def qp_Md_isAtLeast : List Nat := [0, 1, 3, 4, 6, 8, 9, 12, 15, 16, 17, 18, 20, 21, 22, 25, 26, 27, 28, 30, 32, 33, 35, 38, 41, 42, 45, 46, 47, 49, 52, 55, 56, 59, 60, 61, 62, 64, 66, 69, 70, 71, 74, 77, 78]
def qh_Md_isAtLeast : List (List Nat) := [[], [], [], [], [], [], [4110], [], [], [], [], [], [], [], [4110], [], [], [], [], [], [], [], [5007, 5008], [], [], [], [], [], [], [5007, 5008], [], [], [], [], [], [], [], [], [], [], [], [], [], [], []]
def qp_Md_laysCluster : List Nat := [0, 1, 2, 3, 6, 9, 10, 13, 14, 15, 16, 19, 22, 23, 24, 25, 26, 29, 32, 33, 36, 37, 40, 41, 42, 43, 44, 47, 50, 51, 52, 53, 56, 59, 60, 63, 64, 65, 68, 69, 72, 73, 74, 77, 78, 79, 82, 85, 86, 89, 90, 91, 92, 95, 98]
def qh_Md_laysCluster : List (List Nat) := [[], [], [], [], [], [], [4115], [], [], [], [], [], [], [], [], [], [4110], [], [], [4115], [], [4113], [], [], [], [], [], [], [], [], [], [], [], [], [4114], [], [], [], [], [4115], [], [], [], [], [], [5105, 5107, 66], [], [], [4115], [], [], [], [], [], []]
def qp_Md_crossesNone : List Nat := [0, 1, 2, 3, 6, 9, 10, 13, 14, 15, 18, 19, 20, 21, 24, 27, 28, 29, 32, 35, 36]
def qh_Md_crossesNone : List (List Nat) := [[], [], [], [], [], [], [4115], [], [], [], [], [], [], [5109, 5111, 67], [], [], [], [], [], [], []]
def qp_Md_doCross : List Nat := [0, 1, 2, 3, 5, 6, 8, 9, 11, 13, 14, 17, 20, 21, 23, 26, 27, 29, 32, 35, 36, 39, 40, 42, 45, 48, 49, 52, 53, 55, 57, 60, 63, 64, 66, 69, 71, 73, 76, 77, 80, 81, 82, 83, 85, 88, 90, 93, 95, 97, 99, 101, 104, 107, 108, 110, 112, 115, 116, 119, 120, 121, 122, 123, 124, 127, 128, 131, 132]
def qh_Md_doCross : List (List Nat) := [[], [], [], [], [], [], [], [], [], [], [4110], [], [], [], [5007, 5008], [], [], [5007, 5008], [], [], [], [], [], [5007, 5008], [], [], [], [], [], [], [], [], [], [], [], [], [], [], [], [], [], [], [], [], [], [], [], [], [], [], [], [], [], [], [], [], [], [], [], [], [], [], [], [], [], [], [], [], []]
def qp_Md_f : List Nat := [0, 1, 2, 5, 8, 9, 12, 13, 14, 17, 18]
def qh_Md_f : List (List Nat) := [[], [], [5117, 5119, 68], [], [], [4111], [], [], [], [], []]
def qp_Md_isLabel : List Nat := [0, 1, 2, 5, 6, 7, 10, 13, 14, 17, 18]
def qh_Md_isLabel : List (List Nat) := [[], [], [], [], [], [4110], [], [], [], [], []]
def qp_Md_neck : List Nat := [0, 1, 2, 5, 8, 9, 12, 13, 14, 17, 18]
def qh_Md_neck : List (List Nat) := [[], [], [5117, 5119, 68], [], [], [4113], [], [], [], [], []]
def qp_Md_box : List Nat := [0, 1, 2, 5, 8, 9, 10, 13, 16, 17, 18, 19, 20, 21, 24, 27, 28, 31, 33, 34, 35, 36, 37, 38, 39, 40, 43, 45]
def qh_Md_box : List (List Nat) := [[], [], [5117, 5119, 68], [], [], [], [5117, 5119, 68], [], [], [], [], [], [], [5010, 5012, 46], [], [], [4109], [], [], [], [], [], [], [], [], [], [], []]
def qp_Md_bases : List Nat := [0, 1, 4, 7, 8, 9, 10, 11, 12, 13, 14, 17, 20, 21, 22, 25, 26, 27, 30, 31, 34, 35, 36, 37, 40, 43, 44]
def qh_Md_bases : List (List Nat) := [[], [5133, 5135, 69], [], [], [], [], [], [], [], [], [], [], [], [], [4114], [], [], [], [], [], [], [], [], [], [], [], []]
def qp_Md_isCell : List Nat := [0, 1, 4, 7, 8, 11, 12]
def qh_Md_isCell : List (List Nat) := [[], [4110], [], [], [], [], []]
def qp_Md_basis : List Nat := [0, 1, 4, 7, 8, 11, 12, 15, 16, 19, 22, 23]
def qh_Md_basis : List (List Nat) := [[], [5133, 5135, 69], [], [], [], [], [4114], [], [5141, 5142], [], [], []]
def qp_Md_kthOf : List Nat := [0, 1, 2, 3, 4, 5, 8, 11, 12, 13, 14, 17, 20, 21, 22, 25, 26, 27, 30, 33, 36, 37, 38, 41, 42, 45, 47]
def qh_Md_kthOf : List (List Nat) := [[], [], [], [], [], [], [], [], [], [], [], [], [], [], [], [], [], [], [], [], [], [], [], [], [], [], []]
def qp_Md_rank : List Nat := [0, 1, 4, 7, 8, 9, 10, 11, 12, 15, 16, 17, 18, 19, 22, 25, 26, 27, 28, 29, 30, 31, 32, 35, 38, 39, 42, 43, 44, 47, 48, 49, 50, 53, 54, 57, 58, 59, 60, 63, 64, 67, 70, 71]
def qh_Md_rank : List (List Nat) := [[], [5133, 5135, 69], [], [], [], [], [], [], [4110], [], [], [], [], [4194, 4195], [], [], [], [], [], [], [], [], [], [], [], [4114], [], [], [], [], [], [], [5051, 5052], [], [], [], [], [], [5051, 5052], [], [], [], [], []]
def qp_Md_exchange : List Nat := [0, 1, 2, 5, 8, 9, 10, 13, 16, 17, 18, 21, 24, 25, 26, 29, 32, 33, 34, 37, 40, 41, 42, 43, 45, 47, 48, 51, 54, 55, 57, 60, 63, 64, 66, 69, 72, 73, 76, 77, 78, 81, 83, 86, 87, 90, 92, 93, 96, 99, 101]
def qh_Md_exchange : List (List Nat) := [[], [], [5152, 5154, 70], [], [], [], [5152, 5154, 70], [], [], [], [5117, 5119, 68], [], [], [], [5007, 5008], [], [], [], [5007, 5008], [], [], [], [], [], [], [], [4110], [], [], [], [5007, 5008], [], [], [], [5007, 5008], [], [], [4114], [], [], [5048, 5049], [], [5000, 5001], [], [], [], [], [], [], [], []]
def qp_Md_isBasisHere : List Nat := [0, 1, 4, 7, 8, 9, 10, 13, 16, 19, 20, 23, 24, 25, 28, 29, 32, 33]
def qh_Md_isBasisHere : List (List Nat) := [[], [5133, 5135, 69], [], [], [], [], [5156], [4194, 4195], [], [], [4114], [], [], [], [], [], [], []]
def qp_Md_part : List Nat := [0, 1, 2, 5, 8, 9, 10, 11, 14, 15, 18, 19, 20]
def qh_Md_part : List (List Nat) := [[], [], [5117, 5119, 68], [], [], [], [], [5161, 5163, 71], [], [4116], [], [], []]
def qp_Md_laysParts : List Nat := [0, 1, 2, 3, 4, 7, 10, 11, 14, 15, 16, 17, 20, 23, 24, 25, 26, 27, 30, 33, 34, 35, 36, 37, 38, 39, 42, 45, 46, 49, 50, 51, 52, 55, 56, 57, 60, 61, 62, 63, 66, 69, 72, 73, 76, 77, 78, 79, 80, 83, 84, 85, 87, 88, 90, 92, 93, 96, 99, 100, 103, 105, 106, 107, 110, 111, 114, 116, 117, 119, 122, 123, 126, 128, 129, 131, 134, 135, 138, 140, 141, 144, 147, 150, 153, 156, 159]
def qh_Md_laysParts : List (List Nat) := [[], [], [], [], [4110], [], [], [4116], [], [], [], [], [], [], [], [], [], [4110], [], [], [], [], [], [], [], [4110], [], [], [4116], [], [], [], [4116], [], [], [], [], [], [], [5165, 5167, 72], [], [], [], [4116], [], [], [], [], [4116], [], [], [], [], [], [], [], [4110], [], [], [4116], [], [], [], [], [], [4116], [], [], [], [], [], [4116], [], [], [], [], [], [], [], [], [], [], [], [], [], [], []]
def qp_Md_hang : List Nat := [0, 1, 2, 3, 6, 9, 10, 13, 14, 15, 18, 19, 20, 23, 24, 25, 28, 31, 34, 35, 36, 39, 42, 43, 46, 47, 49, 50, 53, 54, 56, 59, 60, 61, 62, 64, 65, 68, 69, 72, 73, 74, 77, 80, 81]
def qh_Md_hang : List (List Nat) := [[], [], [], [], [], [], [4114], [], [], [], [], [], [5007, 5008], [], [], [5007, 5008], [], [], [], [], [5007, 5008], [], [], [], [], [], [], [4114], [], [], [5048, 5049], [], [], [], [], [], [5000, 5001], [], [], [], [], [], [], [], []]
def qp_Md_ways : List Nat := [0, 1, 2, 5, 8, 11, 12, 13, 16, 17, 18, 19, 20, 21, 22, 23, 24, 25, 28, 29, 30, 31, 32, 33, 34, 35, 38, 40, 41, 43, 44, 46, 48, 49, 52, 55, 56, 58, 61, 64, 67, 68, 70, 73, 74, 76, 77, 79, 81, 82, 85, 88, 89, 91, 94, 97, 100, 101, 104, 105, 107, 108, 110, 111, 112, 114, 117, 118, 121, 124, 127, 130, 133, 136, 137, 139, 142, 144, 146, 147, 148, 151, 153, 154, 157, 159]
def qh_Md_ways : List (List Nat) := [[], [], [5173, 5175, 73], [], [5177], [], [], [4113], [], [], [], [], [], [], [], [], [], [4113], [], [], [], [], [], [], [], [5051, 5052], [], [], [], [], [], [], [], [4110], [], [], [], [5007, 5008], [], [], [], [], [5178, 5180, 74], [], [], [], [], [], [], [4110], [], [], [], [5007, 5008], [], [], [], [4118], [], [], [], [], [], [], [], [5190, 5192, 77], [], [], [], [], [], [], [], [], [], [5194, 5196, 78], [], [], [], [], [], [], [], [], [], []]
def qp_Md_isSet : List Nat := [0, 1, 4, 7, 8, 9, 10, 11, 12, 15, 16, 17, 18, 19, 22, 25, 26, 29, 30, 33, 36, 37, 40, 41]
def qh_Md_isSet : List (List Nat) := [[], [5133, 5135, 69], [], [], [], [], [], [], [4110], [], [], [], [], [4194, 4195], [], [], [5051, 5052], [], [4112], [], [], [], [], []]
def qp_Md_laysPaths : List Nat := [0, 1, 2, 3, 5, 8, 9, 12, 13, 14, 15, 18, 21, 22, 23, 24, 25, 28, 31, 32, 33, 34, 35, 38, 41, 42, 43, 44, 47, 50, 53, 54, 55, 56, 59, 61, 62, 63, 64, 67, 69, 71, 74, 75, 78, 80, 81, 82, 84, 85, 86, 89, 90, 91, 94, 95, 98, 99, 101, 102, 105, 107, 108, 109, 110, 111, 113, 115, 118, 119, 122, 124, 126, 127, 128, 129, 130, 133, 134, 135, 136, 139, 142, 145, 148]
def qh_Md_laysPaths : List (List Nat) := [[], [], [], [], [], [], [4117], [], [], [], [], [], [], [], [], [], [4110], [], [], [], [], [], [4110], [], [], [], [], [5018, 5020, 48], [], [], [], [], [], [5182, 5184, 75], [], [], [], [], [5186, 5188, 76], [], [], [], [], [4117], [], [], [], [], [], [], [], [], [], [], [], [], [], [], [], [4117], [], [], [], [], [], [], [], [], [], [4117], [], [], [], [], [], [], [], [], [], [], [], [], [], [], []]
def qp_Md_plusToRight : List Nat := [0, 1, 2, 3, 4, 5, 8, 9, 10, 11, 14, 17, 20, 23, 24]
def qh_Md_plusToRight : List (List Nat) := [[], [], [], [], [], [], [], [], [], [5018, 5020, 48], [], [], [], [], []]
def qp_Md_plusAbove : List Nat := [0, 1, 2, 3, 4, 5, 8, 9, 10, 11, 14, 17, 20, 23, 24]
def qh_Md_plusAbove : List (List Nat) := [[], [], [], [], [], [], [], [], [], [5018, 5020, 48], [], [], [], [], []]
def qp_Md_endsAt : List Nat := [0, 1, 4, 5, 6, 9, 10, 11, 12, 15, 18, 21, 24, 25, 28, 29, 32, 33, 36, 38, 39, 40, 41, 42, 43]
def qh_Md_endsAt : List (List Nat) := [[], [4110], [], [], [], [], [], [], [5018, 5020, 48], [], [], [], [], [], [], [], [], [4117], [], [], [], [], [], [], []]
def qp_Md_determinant : List Nat := [0, 1, 32, 33, 34, 35, 36, 37, 40, 41, 42, 43, 44, 45, 46, 49, 50, 51, 52, 53, 54, 57, 58, 59, 60, 61, 64, 65, 66, 67, 68, 71, 72, 73, 74, 75, 78, 79, 80, 81, 82, 85, 86, 87, 88, 89, 90, 93, 94, 95, 96, 97, 100, 101, 102, 103, 104, 105, 108, 109, 110, 111, 112, 115, 116, 117]
def qh_Md_determinant : List (List Nat) := [[], [], [], [], [], [], [], [5198, 5200, 79], [], [], [], [], [], [], [5202, 5204, 80], [], [], [], [], [], [5206, 5208, 81], [], [], [], [], [5198, 5200, 79], [], [], [], [], [5206, 5208, 81], [], [], [], [], [5198, 5200, 79], [], [], [], [], [5206, 5208, 81], [], [], [], [], [], [5198, 5200, 79], [], [], [], [], [5206, 5208, 81], [], [], [], [], [], [5198, 5200, 79], [], [], [], [], [5206, 5208, 81], [], [], []]
def qp_Md_of : List Nat := [0, 1, 4, 5, 6, 7, 8, 9, 10]
def qh_Md_of : List (List Nat) := [[], [4118], [], [], [], [], [], [], []]
def qp_Md_two : List Nat := [0, 1, 2, 3, 6, 7, 8, 10, 13, 14, 15, 16, 18, 21, 22, 23, 24, 27, 28, 29]
def qh_Md_two : List (List Nat) := [[], [], [], [5198, 5200, 79], [], [], [], [5198, 5200, 79], [], [], [], [], [5198, 5200, 79], [], [], [], [5198, 5200, 79], [], [], []]
def qp_Md_three : List Nat := [0, 1, 2, 3, 6, 7, 8, 9, 10, 11, 14, 15, 16, 17, 18, 21, 22, 23, 24, 25, 26, 29, 30, 31, 32, 33, 34, 37, 38, 39, 40, 41, 42, 45, 46, 47]
def qh_Md_three : List (List Nat) := [[], [], [], [5198, 5200, 79], [], [], [], [], [], [5202, 5204, 80], [], [], [], [], [5198, 5200, 79], [], [], [], [], [], [5202, 5204, 80], [], [], [], [], [], [5198, 5200, 79], [], [], [], [], [], [5202, 5204, 80], [], [], []]
def qp_Md_cross : List Nat := [0, 1, 2, 5, 8, 9, 10, 13, 16, 17, 18, 19, 22, 25, 26, 29, 30, 33, 34]
def qh_Md_cross : List (List Nat) := [[], [], [5173, 5175, 73], [], [], [], [5173, 5175, 73], [], [], [], [], [5109, 5111, 67], [], [], [], [], [], [], []]
def qp_Md_cluster : List Nat := [0, 1, 4, 7, 8, 9, 12, 13, 16, 17, 20, 23, 24]
def qh_Md_cluster : List (List Nat) := [[], [5133, 5135, 69], [], [], [], [], [], [4115], [], [5141, 5142], [], [], []]
def qp_Md_square : List Nat := [0, 1, 4, 7, 8, 9, 12, 13, 14, 15, 16, 17, 18, 19, 22, 25, 26, 27, 30, 33, 36, 37, 38, 41, 42, 43, 46, 49, 52, 53, 54, 57, 58, 61, 63]
def qh_Md_square : List (List Nat) := [[], [5133, 5135, 69], [], [], [], [], [], [], [], [], [], [], [], [], [], [], [], [5222, 5224, 82], [], [], [], [], [], [], [], [], [], [], [], [], [], [], [], [], []]
def qp_Md_squareAt : List Nat := [0, 1, 2, 3, 6, 9, 12, 13, 16, 17, 18, 21, 22, 23, 26, 29, 30, 31, 32, 33, 34, 35, 38, 41, 42, 43, 44, 45, 46, 47, 50, 53, 54, 55, 58, 61, 62, 63, 66, 69, 72, 73, 74, 75, 76, 79, 81, 83, 86, 88, 89, 92, 95, 98, 101, 102]
def qh_Md_squareAt : List (List Nat) := [[], [], [], [5156], [4194, 4195], [], [], [4115], [], [], [], [], [], [5226, 5228, 83], [], [], [], [], [], [], [], [4110], [], [], [], [], [], [], [], [4110], [], [], [], [5007, 5008], [], [], [], [5007, 5008], [], [], [], [], [], [], [5230, 5232, 84], [], [], [], [], [], [], [], [], [], [], []]
def qp_Md_isOfNeck : List Nat := [0, 1, 2, 3, 4, 7, 10, 11, 14, 15, 16, 17, 20, 21, 22, 25, 28, 29]
def qh_Md_isOfNeck : List (List Nat) := [[], [], [], [], [4110], [], [], [4113], [], [], [], [], [], [], [], [], [], []]
def qp_Md_squareBy : List Nat := [0, 1, 2, 3, 5, 7, 8, 11, 12, 14, 17, 20, 21, 22, 23, 25, 28, 31, 32, 33, 34, 36, 39, 42, 45, 46, 48, 50, 51, 54, 57, 58, 60, 63, 66, 68, 69, 72, 74, 75, 78, 81, 82, 83, 84, 86, 89, 92, 93, 94, 95, 97, 100, 103, 104, 105, 108, 109, 112, 114, 117, 119, 122, 123, 126, 129, 132, 135, 136]
def qh_Md_squareBy : List (List Nat) := [[], [], [], [], [], [], [], [], [], [5007, 5008], [], [], [], [], [], [5234, 5236, 85], [], [], [], [], [], [5234, 5236, 85], [], [], [], [], [], [], [4110], [], [], [], [5007, 5008], [], [], [], [], [], [], [], [], [], [], [], [], [5234, 5236, 85], [], [], [], [], [], [5234, 5236, 85], [], [], [], [5048, 5049], [], [5048, 5049], [], [5000, 5001], [], [5000, 5001], [], [], [], [], [], [], []]
def qp_Md_isThere : List Nat := [0, 1, 4, 5, 6, 9, 10, 13, 14]
def qh_Md_isThere : List (List Nat) := [[], [4115], [], [], [5048, 5049], [], [5000, 5001], [], []]
def qp_Md_move : List Nat := [0, 1, 4, 7, 8, 9, 10, 11, 14, 15, 16, 19, 21, 22, 23, 26, 27, 30, 31, 32, 33, 34, 37, 38, 39, 40, 41]
def qh_Md_move : List (List Nat) := [[], [5133, 5135, 69], [], [], [], [], [], [5222, 5224, 82], [], [], [], [], [], [], [5077, 5079, 59], [], [4115], [], [], [], [], [4115], [], [], [], [], []]
def qp_Md_undo : List Nat := [0, 1, 4, 7, 8, 9, 10, 11, 14, 15, 16, 19, 21, 22, 25, 26, 27, 28, 29, 32, 33, 34, 37, 38, 39, 40, 41, 44, 47, 48, 51, 52, 53, 56, 57, 58, 59, 60, 61, 64, 67, 68, 71, 74, 75, 78, 79, 80, 81, 84, 87, 88, 91, 92, 93, 96, 97, 99, 100, 101, 103, 104, 105, 106, 107, 109, 110, 111, 112, 113, 114, 117, 118, 121, 122, 123, 126, 129, 130, 133]
def qh_Md_undo : List (List Nat) := [[], [4120], [], [], [], [], [], [4120], [], [], [4120], [], [], [4120], [], [], [], [], [4119], [], [], [4110], [], [], [], [], [4110], [], [], [4111], [], [], [4119], [], [], [], [], [], [], [], [], [4110], [], [], [5085, 5087, 61], [], [], [], [], [], [], [4115], [], [], [4119], [], [], [], [], [], [], [], [], [], [], [], [], [], [], [], [], [], [], [], [], [], [], [], [4120], []]
def qp_Md_lower : List Nat := [0, 1, 2, 3, 4, 7]
def qh_Md_lower : List (List Nat) := [[], [], [], [], [6010, 6012, 86], []]
def qp_Md_toldNext : List Nat := [0, 1, 4, 7, 8, 9, 10, 11, 14, 15, 18, 21, 22, 25, 26, 29, 30, 31, 32, 33, 36, 37, 40, 41, 42, 45, 47, 48, 51, 53, 54, 55, 56, 57, 60, 63, 64, 67, 68, 69, 72, 74]
def qh_Md_toldNext : List (List Nat) := [[], [5133, 5135, 69], [], [], [], [], [], [4110], [], [4194, 4195], [], [], [], [], [], [], [], [], [], [], [], [], [], [], [6014, 6016, 87], [], [], [], [], [], [], [], [], [6028, 6030, 89], [], [], [4121], [], [], [], [], []]
def qp_Md_nextOnes : List Nat := [0, 1, 2, 3, 6, 7, 10, 13, 14, 15, 17, 18, 20, 22, 23, 26, 29, 31, 32, 33, 35, 37, 39, 40, 43, 44, 47, 48, 50, 52, 55, 58, 59, 62, 63, 66, 69, 71, 74, 77, 78, 79, 82, 83, 84, 87, 90, 93, 96, 99, 100]
def qh_Md_nextOnes : List (List Nat) := [[], [], [], [4111], [], [4110], [6018, 6019], [], [], [], [], [], [], [], [4110], [], [], [], [], [], [], [], [], [4110], [], [], [], [], [], [6024, 6026, 88], [], [], [4121], [], [4110], [6018, 6019], [], [], [], [], [], [], [], [], [], [], [], [], [], [], []]
def qp_Md_inversionsOf : List Nat := [0, 1, 2, 3, 4, 5, 6, 9, 10, 11, 12, 14, 16, 17, 18, 19, 22, 23, 24, 25, 26, 27, 28, 30, 33, 36, 37, 40, 41, 42, 43, 46, 49, 52, 55, 56]
def qh_Md_inversionsOf : List (List Nat) := [[], [], [], [], [], [], [], [], [], [], [], [], [], [], [], [], [], [], [], [], [], [], [], [6021, 6022], [], [], [], [], [], [], [], [], [], [], [], []]
def qp_Md_at : List Nat := [0, 1, 2, 5, 6, 7, 8, 9, 10, 11, 12, 15, 16, 17, 18]
def qh_Md_at : List (List Nat) := [[], [], [], [], [], [], [], [], [], [], [], [], [], [], []]
def qp_Md_swaps : List Nat := [0, 1, 2, 3, 4, 7, 10, 11, 14, 15, 16, 19, 20, 21, 22, 25, 28, 29, 32, 33, 36, 37, 40, 41, 42, 43, 46, 49, 50, 53, 54, 55, 58, 59, 60, 63, 64, 65, 66, 69, 70, 71, 72, 75, 76, 77, 78, 81, 82, 85, 86, 87, 90, 91, 92, 93, 94, 97, 98, 99, 100, 101, 103, 105, 106, 109, 112, 113, 116, 118, 119, 120, 122, 123, 125, 126, 129, 130, 131, 134, 137, 138, 139, 142, 145, 146]
def qh_Md_swaps : List (List Nat) := [[], [], [], [], [4110], [], [], [4121], [], [], [4111], [], [], [], [], [], [], [4111], [], [4110], [], [6021, 6022], [], [], [], [4110], [], [], [4121], [], [], [4110], [], [], [4111], [], [], [], [4110], [], [], [], [4121], [], [], [], [], [], [4121], [], [], [4111], [], [], [], [], [4121], [], [], [], [], [], [], [], [4110], [], [], [4121], [], [], [], [], [], [], [], [4110], [], [], [4194, 4195], [], [], [], [], [], [], []]
def qp_Md_isNext : List Nat := [0, 1, 2, 3, 4, 7, 10, 11, 12, 13, 16, 17, 20, 21, 24, 25]
def qh_Md_isNext : List (List Nat) := [[], [], [], [], [6014, 6016, 87], [], [], [], [], [6014, 6016, 87], [], [], [], [], [], []]
def qp_Md_upper : List Nat := [0, 1, 2, 3, 4, 7]
def qh_Md_upper : List (List Nat) := [[], [], [], [], [6010, 6012, 86], []]
def qp_Md_down : List Nat := [0, 1, 2, 3, 6]
def qh_Md_down : List (List Nat) := [[], [], [], [6040, 6042, 90], []]
def qp_Md_goes : List Nat := [0, 1, 4, 7, 8, 11, 12, 13, 14, 15, 16, 19, 22, 24, 25, 26, 29, 30, 31, 32, 33, 36, 39, 40, 43, 44, 45, 48, 49, 50, 51, 54, 57, 58, 61, 62, 65]
def qh_Md_goes : List (List Nat) := [[], [5133, 5135, 69], [], [], [], [], [], [], [], [], [6028, 6030, 89], [], [], [], [], [5077, 5079, 59], [], [], [], [], [4110], [], [], [4111], [], [], [4121], [], [], [], [], [], [], [5081, 5083, 60], [], [6044, 6046, 91], []]
def qp_Md_dim : List Nat := [0, 1, 4, 5, 8, 9, 12, 13, 14, 15, 18, 19, 22, 25, 26]
def qh_Md_dim : List (List Nat) := [[], [4112], [], [4110], [], [4112], [], [], [], [4111], [], [4110], [6018, 6019], [], []]
def qp_Md_up : List Nat := [0, 1, 2, 3, 6]
def qh_Md_up : List (List Nat) := [[], [], [], [6040, 6042, 90], []]
def qp_Md_turn : List Nat := [0, 1, 4, 7, 8, 9, 10, 13, 14, 17, 18, 21, 22, 23, 24, 25, 28, 29, 30, 31, 34, 35, 36, 37, 40, 41, 44, 45, 46, 49, 50, 51, 52, 53, 54, 55, 56, 59, 62, 63, 66, 67, 68, 69, 70, 73, 74]
def qh_Md_turn : List (List Nat) := [[], [5133, 5135, 69], [], [], [], [], [5077, 5079, 59], [], [4111], [], [4110], [], [], [], [], [4110], [], [], [], [4110], [], [], [], [], [], [4111], [], [], [4111], [], [], [], [], [], [], [], [], [], [], [4111], [], [], [], [], [5081, 5083, 60], [], []]
def qp_Md_mirror : List Nat := [0, 1, 4, 7, 8, 9, 10, 13, 14, 15, 16, 19, 22, 23, 24, 25, 26, 27, 28, 31, 34, 35, 36, 39, 42, 43, 44, 47, 48, 49, 50, 51, 54, 55, 58, 61, 62, 65, 66, 67, 68, 69, 72, 73, 76, 77, 80, 81, 82, 85, 86, 89, 90, 91, 94, 97, 98, 101, 102]
def qh_Md_mirror : List (List Nat) := [[], [5133, 5135, 69], [], [], [], [], [5077, 5079, 59], [], [], [], [], [], [], [], [], [], [], [], [4110], [], [], [], [5007, 5008], [], [], [], [4110], [], [], [], [], [5000, 5001], [], [], [], [], [4122], [], [], [], [], [4110], [], [], [], [4114], [], [], [], [], [], [], [], [], [], [], [6060, 6062, 92], [], []]
def qp_Md_becomesNew : List Nat := [0, 1, 2, 3, 4, 7, 10, 11, 14, 15, 16, 17, 20, 21, 24, 27, 28, 29, 30, 31, 34, 37, 38, 41, 42, 43, 46, 47, 48, 49, 52, 53, 54, 57, 58, 59, 60, 61, 62, 63, 66, 69, 70, 73, 76, 77, 80]
def qh_Md_becomesNew : List (List Nat) := [[], [], [], [], [4110], [], [], [4123], [], [], [], [6064, 6066, 93], [], [], [], [], [], [], [], [4110], [], [], [4111], [], [], [4123], [], [], [], [4123], [], [], [4110], [], [], [], [], [], [], [4110], [5058, 5059], [], [], [], [], [5081, 5083, 60], []]
def qp_Md_leastFrom : List Nat := [0, 1, 2, 3, 6, 9, 10, 13, 14, 15, 18, 21, 22, 23, 24, 26, 28, 31, 34, 35, 38, 39, 42, 44, 45, 48, 49, 51, 52, 53, 56, 59, 60, 63, 64, 65, 68, 71, 72, 75, 76, 77, 80, 83, 84]
def qh_Md_leastFrom : List (List Nat) := [[], [], [], [], [], [], [4122], [], [], [], [], [], [], [], [], [], [], [], [], [], [], [4122], [], [], [], [], [], [], [], [5097, 5099, 64], [], [], [], [], [], [], [], [], [], [], [], [], [], [], []]
def qp_Md_complement : List Nat := [0, 1, 4, 7, 8, 9, 10, 13, 14, 15, 16, 19, 22, 23, 26, 27, 28, 29, 30, 33, 34, 37, 38, 41, 42, 43, 46, 47, 48, 49, 50, 51, 52, 53, 54, 57, 58, 61, 62, 63, 66, 69, 70, 73, 74]
def qh_Md_complement : List (List Nat) := [[], [5133, 5135, 69], [], [], [], [], [5077, 5079, 59], [], [], [], [], [], [], [4122], [], [], [], [], [4110], [], [], [], [4114], [], [], [4110], [], [], [], [], [], [], [], [], [], [], [], [], [], [], [], [], [6060, 6062, 92], [], []]
def qp_Md_howMany : List Nat := [0, 1, 2, 5, 8, 11, 14, 15, 16, 17, 18, 19, 22, 25, 26, 29, 30, 31, 32, 34, 35, 37, 38, 41, 42, 43, 44, 46, 49, 50, 53, 55, 56, 57, 58, 59, 60, 61, 64, 66, 67, 69, 70, 71, 74, 77, 80, 81, 83, 84, 87, 90, 93, 95, 96, 99, 101, 102, 103, 104, 105, 108, 111, 112, 115, 116, 117, 119, 122, 125, 126, 129, 131, 133, 134, 135, 136, 139, 141]
def qh_Md_howMany : List (List Nat) := [[], [], [6076], [6077], [4194, 4195], [], [], [], [], [], [], [4194, 4195], [], [], [], [], [], [], [], [], [], [], [4124], [], [], [], [], [], [], [4124], [], [], [], [], [], [], [], [4124], [], [], [], [], [], [], [], [], [], [], [], [6078, 6080, 94], [], [], [], [], [], [], [], [], [], [], [6082, 6084, 95], [], [], [], [], [], [], [], [], [], [4124], [], [], [], [], [], [], [], []]
def qp_Md_isFree : List Nat := [0, 1, 2, 3, 4, 7, 8, 11, 12, 13, 14, 17, 18, 19, 20, 21, 22, 25, 26, 27, 30, 33, 34]
def qh_Md_isFree : List (List Nat) := [[], [], [], [], [], [], [4124], [], [], [], [4124], [], [], [], [], [], [], [], [], [], [], [], []]
def qp_Md_isOne : List Nat := [0, 1, 3, 4, 6, 8, 9, 12, 14, 15, 18, 20, 21, 22, 25, 26, 29, 30, 31, 33, 36, 39, 41, 42, 45, 46, 47, 48, 49, 50, 51, 54, 55, 58, 59, 60, 63, 64, 67, 68]
def qh_Md_isOne : List (List Nat) := [[], [], [], [], [], [], [], [], [], [4124], [], [], [], [], [], [], [], [], [], [], [], [], [], [], [], [], [], [], [], [], [4124], [], [6018, 6019], [], [], [], [], [], [], []]
def qp_Md_keep : List Nat := [0, 1, 4, 7, 8, 9, 10, 13, 16, 19, 20, 21, 22, 25, 26, 27, 30, 31, 32, 33, 34, 35, 38, 41, 42, 45, 47, 48, 49, 50, 51, 52, 55, 56, 57, 58, 61, 64, 65, 68]
def qh_Md_keep : List (List Nat) := [[], [5133, 5135, 69], [], [], [], [], [6090], [4194, 4195], [], [], [], [], [4125], [], [], [4110], [], [], [], [], [], [4110], [], [], [4126], [], [], [], [], [], [], [4111], [], [], [], [], [], [], [6044, 6046, 91], []]
def qp_Md_has2 : List Nat := [0, 1, 4, 7, 8, 9, 10, 13, 16, 19, 20, 21, 22, 25, 26, 27, 30, 32, 33, 34, 37, 38, 39, 40, 43, 46, 47, 48, 49, 50, 53, 54, 57, 58, 59, 62, 63, 66, 69, 70, 71, 72, 73, 74, 75, 76, 79, 80, 83, 84, 87, 88, 91, 94, 95, 98, 99, 100, 101, 103, 105, 106, 109, 112, 113, 116, 117, 118, 119, 122, 124, 125, 127, 130, 131, 134, 137, 138, 141, 142, 145, 146, 147, 150, 151, 152, 155, 158, 159]
def qh_Md_has2 : List (List Nat) := [[], [5133, 5135, 69], [], [], [], [], [6090], [4194, 4195], [], [], [], [], [4125], [], [], [], [], [], [], [4125], [], [], [], [4110], [], [], [], [], [], [6095, 6097, 96], [], [4127], [], [], [5051, 5052], [], [4112], [], [], [], [], [], [], [], [], [4110], [], [], [], [5051, 5052], [], [4112], [], [], [], [], [], [], [], [], [], [4110], [], [], [], [], [], [], [4127], [], [], [], [5097, 5099, 64], [], [], [], [], [], [], [4114], [], [], [], [], [], [], [], [], []]
def qp_Md_laysItsNeck : List Nat := [0, 1, 4, 5, 6, 7, 8, 11, 12, 13, 14, 15, 16, 17, 18, 21, 22, 25, 27, 28, 29, 30, 31, 32, 33, 36, 37, 40, 41, 42, 45, 46, 47, 48, 51, 53, 54, 55, 56, 57, 58, 59, 60, 63, 64, 67, 70, 71, 72, 73, 74, 77, 78, 81, 83, 84, 85, 86, 87, 88, 90, 91, 94, 95, 96, 97, 99, 100, 103, 104, 107, 108, 109, 112, 113, 116, 117, 118, 119, 122, 124, 125, 128, 130, 131, 132, 135, 137, 140, 141, 144, 147]
def qh_Md_laysItsNeck : List (List Nat) := [[], [4125], [], [], [], [], [4127], [], [], [], [], [], [], [], [], [], [4126], [], [], [], [], [], [], [], [], [], [4127], [], [], [4127], [], [], [], [4126], [], [], [], [], [], [], [], [], [5000, 5001], [], [], [], [], [], [], [], [], [], [4126], [], [], [], [], [], [], [], [], [4127], [], [], [], [], [], [], [], [4127], [], [], [], [], [4127], [], [], [], [5048, 5049], [], [], [], [], [], [], [], [], [5000, 5001], [], [], [], []]
def qp_Md_count : List Nat := [0, 1, 2, 3, 6, 9, 12, 13, 16, 19, 20, 21, 22, 76, 77, 80, 81, 82, 85, 86, 87, 90, 91, 92, 95, 96, 99, 102, 103, 104, 105, 108, 109, 110, 111, 114, 115, 116, 119, 120, 121, 124, 125, 126, 129, 130, 131, 134, 135, 136]
def qh_Md_count : List (List Nat) := [[], [], [], [6103], [4194, 4195], [], [], [5133, 5135, 69], [], [], [], [], [], [], [4110], [], [], [4112], [], [], [6044, 6046, 91], [], [], [4111], [], [4110], [6018, 6019], [], [], [], [6104, 6106, 97], [], [], [], [6104, 6106, 97], [], [], [6108, 6110, 98], [], [], [4120], [], [], [6112, 6114, 99], [], [], [4101], [], [], []]
def qp_Md_loops : List Nat := [0, 1, 2, 3, 4, 5, 6, 9, 12, 13, 16, 17, 18, 19, 22, 23, 24, 27, 28, 31, 32, 35, 36, 37, 40, 41, 44, 47, 48]
def qh_Md_loops : List (List Nat) := [[], [], [], [], [], [], [4110], [], [], [4111], [], [], [], [], [], [], [4110], [], [], [], [], [], [], [5000, 5001], [], [], [], [], []]
def qp_Md_parts : List Nat := [0, 1, 4, 5, 6, 7, 8, 9, 10, 13, 16, 17, 18, 21, 22, 23, 24, 27, 28, 31, 32, 33, 34, 37, 40, 41]
def qh_Md_parts : List (List Nat) := [[], [5161, 5163, 71], [], [], [], [], [], [], [4110], [], [], [], [4116], [], [], [], [], [], [], [], [], [], [], [], [], []]
def qp_Md_kept : List Nat := [0, 1, 2, 3, 4, 5, 6, 9, 10, 11, 14, 15, 16, 19, 20, 21, 22, 25, 26, 27, 28, 31, 34, 35]
def qh_Md_kept : List (List Nat) := [[], [], [], [], [], [], [], [], [], [4125], [], [], [], [], [], [], [], [], [], [], [], [], [], []]
def q_y_0 : List MethodName := [⟨"GrassCellsLaw", "law", "([I)Z"⟩, ⟨"GrassCells", "<init>", "()V"⟩, ⟨"java/lang/Object", "<init>", "()V"⟩, ⟨"GrassCells$Reader", "<init>", "()V"⟩, ⟨"GrassCells$Tape", "<init>", "()V"⟩, ⟨"GrassCells$Diagram", "<init>", "()V"⟩, ⟨"GrassCells$Cell", "<init>", "()V"⟩, ⟨"GrassCells$Collection", "<init>", "()V"⟩, ⟨"GrassCells$Neighbours", "<init>", "()V"⟩, ⟨"GrassCells$Past", "<init>", "()V"⟩, ⟨"GrassCells$Moment", "<init>", "()V"⟩, ⟨"GrassCells$Census", "<init>", "()V"⟩, ⟨"GrassCells$Shelf", "<init>", "()V"⟩, ⟨"GrassCells", "feed", "(IIIII)I"⟩, ⟨"GrassCells$Tape", "append", "(I)V"⟩, ⟨"GrassCells", "end", "(I)I"⟩]
def q_y_1 : List MethodName := [⟨"GrassCells", "cell", "()I"⟩, ⟨"GrassCells$Reader", "read", "()I"⟩, ⟨"GrassCells$Reader", "skipBlanks", "()V"⟩, ⟨"GrassCells$Tape", "at", "(I)I"⟩, ⟨"GrassCells$Tape", "isSmallLetter", "(I)Z"⟩, ⟨"GrassCells$Tape", "fourBytes", "(I)I"⟩, ⟨"GrassCells$Reader", "readNumbers", "()I"⟩, ⟨"GrassCells$Reader", "readNumber", "(I)Z"⟩, ⟨"GrassCells$Tape", "isDigit", "(I)Z"⟩, ⟨"GrassCells$Reader", "fault", "(II)I"⟩, ⟨"GrassCells$Reader", "faultOfNumbers", "()I"⟩, ⟨"GrassCells$Sets", "only", "(I)I"⟩, ⟨"GrassCells$Reader", "readFilling", "()I"⟩, ⟨"GrassCells$Reader", "readPath", "()Z"⟩, ⟨"GrassCells$Reader", "isLetterOfPath", "()Z"⟩, ⟨"GrassCells$Diagram", "clear", "(II)V"⟩]
def q_y_2 : List MethodName := [⟨"java/util/Arrays", "fill", "([II)V"⟩, ⟨"GrassCells$Sets", "holds", "(II)Z"⟩, ⟨"GrassCells$Reader", "readRow", "(I)Z"⟩, ⟨"GrassCells$Diagram", "isBox", "(II)Z"⟩, ⟨"GrassCells$Diagram", "setPlus", "(II)V"⟩, ⟨"GrassCells$Reader", "faultOfBoxes", "()I"⟩, ⟨"GrassCells$Diagram", "breaksLe", "(II)Z"⟩, ⟨"GrassCells$Diagram", "isPlus", "(II)Z"⟩, ⟨"GrassCells$Diagram", "imageOf", "(I)I"⟩, ⟨"GrassCells$Diagram", "nextColumn", "(I)I"⟩, ⟨"GrassCells$Diagram", "rowAbove", "(I)I"⟩, ⟨"GrassCells$Reader", "readSets", "()I"⟩, ⟨"GrassCells$Reader", "readSet", "(I)Z"⟩, ⟨"GrassCells$Reader", "faultOfSets", "()I"⟩, ⟨"GrassCells$Sets", "upTo", "(I)I"⟩, ⟨"java/lang/Integer", "bitCount", "(I)I"⟩]
def q_y_3 : List MethodName := [⟨"GrassCells$Sets", "canStandBehind", "(III)Z"⟩, ⟨"GrassCells$Reader", "imageBetween", "(III)I"⟩, ⟨"GrassCells$Sets", "least", "(I)I"⟩, ⟨"java/lang/Integer", "numberOfTrailingZeros", "(I)I"⟩, ⟨"GrassCells", "become", "(I[I)V"⟩, ⟨"GrassCells$Past", "record", "(LGrassCells$Cell;LGrassCells$Collection;)V"⟩, ⟨"java/lang/Math", "min", "(II)I"⟩, ⟨"GrassCells$Collection", "copyFrom", "(LGrassCells$Collection;)V"⟩, ⟨"GrassCells$Cell", "take", "(I[I)V"⟩, ⟨"GrassCells$Cell", "layNecklace", "()V"⟩, ⟨"GrassCells$Cell", "layBases", "()V"⟩, ⟨"GrassCells$Cell", "isSet", "(I)Z"⟩, ⟨"GrassCells$Cell", "areLabels", "(I)Z"⟩, ⟨"GrassCells$Cell", "isAtLeastNecklace", "(I)Z"⟩, ⟨"GrassCells$Sets", "atLeast", "(IIII)Z"⟩, ⟨"GrassCells$Cell", "inversionsOf", "([II)I"⟩]
def q_y_4 : List MethodName := [⟨"GrassCells$Diagram", "drawFor", "(LGrassCells$Cell;)V"⟩, ⟨"GrassCells$Collection", "layFor", "(LGrassCells$Cell;)V"⟩, ⟨"GrassCells$Collection", "add", "(I)V"⟩, ⟨"GrassCells$Collection", "contains", "(I)Z"⟩, ⟨"GrassCells$Collection", "crossesNone", "(II)Z"⟩, ⟨"GrassCells$Sets", "crossing", "(III)Z"⟩, ⟨"GrassCells", "f", "(I)I"⟩, ⟨"GrassCells$Cell", "isLabel", "(I)Z"⟩, ⟨"GrassCells", "neck", "(I)I"⟩, ⟨"GrassCells", "box", "(II)I"⟩, ⟨"GrassCells", "bases", "()I"⟩, ⟨"GrassCells", "basis", "(I)I"⟩, ⟨"GrassCells", "rank", "(I)I"⟩, ⟨"GrassCells$Cell", "rankOf", "(I)I"⟩, ⟨"java/lang/Math", "max", "(II)I"⟩, ⟨"GrassCells", "exchange", "(III)I"⟩]
def q_y_5 : List MethodName := [⟨"GrassCells$Cell", "isBasis", "(I)Z"⟩, ⟨"GrassCells$Cell", "leastExchange", "(III)I"⟩, ⟨"GrassCells", "part", "(I)I"⟩, ⟨"GrassCells$Cell", "hangingTogether", "(I)I"⟩, ⟨"GrassCells$Cell", "exchangeable", "(I)I"⟩, ⟨"GrassCells", "ways", "(I)J"⟩, ⟨"GrassCells$Diagram", "waysTo", "(I)J"⟩, ⟨"GrassCells$Diagram", "countPathsTo", "(I)V"⟩, ⟨"java/util/Arrays", "fill", "([JJ)V"⟩, ⟨"GrassCells$Diagram", "expandRow", "(III)V"⟩, ⟨"java/lang/Math", "abs", "(J)J"⟩, ⟨"GrassCells", "cross", "(II)I"⟩, ⟨"GrassCells", "cluster", "(I)I"⟩, ⟨"GrassCells", "square", "(I)I"⟩, ⟨"GrassCells$Collection", "movedFrom", "(ILGrassCells$Cell;)I"⟩, ⟨"GrassCells$Cell", "isOfNecklace", "(I)Z"⟩]
def q_y_6 : List MethodName := [⟨"GrassCells$Collection", "movedAt", "(IIII)I"⟩, ⟨"GrassCells$Collection", "hasCorners", "(IIIII)Z"⟩, ⟨"GrassCells", "move", "(I)I"⟩, ⟨"GrassCells$Collection", "remove", "(I)V"⟩, ⟨"GrassCells", "lower", "(II)I"⟩, ⟨"GrassCells", "valueOfNext", "(III)I"⟩, ⟨"GrassCells$Neighbours", "howManyFrom", "(LGrassCells$Cell;I)I"⟩, ⟨"GrassCells$Neighbours", "seek", "(LGrassCells$Cell;II)Z"⟩, ⟨"GrassCells$Neighbours", "swap", "(LGrassCells$Cell;II)Z"⟩, ⟨"GrassCells", "upper", "(II)I"⟩, ⟨"GrassCells", "down", "(I)I"⟩, ⟨"GrassCells", "stepToNext", "(II)I"⟩, ⟨"GrassCells$Cell", "dimension", "()I"⟩, ⟨"GrassCells$Diagram", "plusCount", "()I"⟩, ⟨"GrassCells", "up", "(I)I"⟩, ⟨"GrassCells", "turn", "()Z"⟩]
def q_y_7 : List MethodName := [⟨"GrassCells", "mirror", "()Z"⟩, ⟨"GrassCells$Cell", "origin", "(I)I"⟩, ⟨"GrassCells", "complement", "()Z"⟩, ⟨"GrassCells", "undo", "()I"⟩, ⟨"GrassCells$Past", "takeLast", "()LGrassCells$Moment;"⟩, ⟨"GrassCells", "howMany", "(III)I"⟩, ⟨"GrassCells$Census", "cells", "(III)I"⟩, ⟨"GrassCells$Census", "clearThen", "()V"⟩, ⟨"GrassCells$Census", "flip", "()V"⟩, ⟨"GrassCells$Census", "endLowestRow", "(I)V"⟩, ⟨"java/lang/Integer", "highestOneBit", "(I)I"⟩, ⟨"java/lang/Integer", "numberOfLeadingZeros", "(I)I"⟩, ⟨"GrassCells$Census", "pass", "(III)V"⟩, ⟨"GrassCells$Census", "addColumn", "(I)V"⟩, ⟨"GrassCells", "keep", "(I)I"⟩, ⟨"GrassCells$Shelf", "put", "(LGrassCells$Cell;)V"⟩]
def q_y_8 : List MethodName := [⟨"GrassCells", "has", "(I)I"⟩, ⟨"GrassCells$Shelf", "isInClosureOf", "(LGrassCells$Cell;)Z"⟩, ⟨"GrassCells", "count", "(I)I"⟩, ⟨"GrassCells", "filledShelves", "()I"⟩, ⟨"GrassCells", "countOfLive", "(I)I"⟩, ⟨"GrassCells$Cell", "fixedLabels", "(I)I"⟩, ⟨"GrassCells$Cell", "partCount", "()I"⟩, ⟨"GrassCellsModel", "<init>", "()V"⟩, ⟨"GrassCellsModel", "feed", "(IIIII)I"⟩, ⟨"GrassCellsModel", "end", "(I)I"⟩, ⟨"GrassCellsModel", "isIn", "(JJJ)Z"⟩, ⟨"GrassCellsModel", "cell", "()I"⟩, ⟨"GrassCellsModel", "wordHere", "()I"⟩, ⟨"GrassCellsModel", "next", "()I"⟩, ⟨"GrassCellsModel", "byteAt", "(I)I"⟩, ⟨"GrassCellsModel", "isLetter", "(I)Z"⟩]
def q_y_9 : List MethodName := [⟨"GrassCellsModel", "fails", "(II)Z"⟩, ⟨"GrassCellsModel", "readsRest", "(I)Z"⟩, ⟨"GrassCellsModel", "readsPerm", "()Z"⟩, ⟨"GrassCellsModel", "isDigit", "(I)Z"⟩, ⟨"GrassCellsModel", "isLikeAhead", "(I)Z"⟩, ⟨"GrassCellsModel", "readsFill", "()Z"⟩, ⟨"GrassCellsModel", "with", "(II)I"⟩, ⟨"GrassCellsModel", "laysShape", "(II)V"⟩, ⟨"GrassCellsModel", "has", "(II)Z"⟩, ⟨"GrassCellsModel", "isBox", "(II)Z"⟩, ⟨"GrassCellsModel", "isLe", "(III)Z"⟩, ⟨"GrassCellsModel", "isPlus", "(II)Z"⟩, ⟨"GrassCellsModel", "goesFrom", "(III)I"⟩, ⟨"GrassCellsModel", "rowAbove", "(II)I"⟩, ⟨"GrassCellsModel", "columnLeft", "(III)I"⟩, ⟨"GrassCellsModel", "outAt", "(IIII)I"⟩]
def q_y_10 : List MethodName := [⟨"GrassCellsModel", "readsNeck", "()Z"⟩, ⟨"GrassCellsModel", "isNeck", "()Z"⟩, ⟨"GrassCellsModel", "canStand", "(III)Z"⟩, ⟨"GrassCellsModel", "without", "(II)I"⟩, ⟨"GrassCellsModel", "sizeOf", "(I)I"⟩, ⟨"GrassCellsModel", "laysByNeck", "()Z"⟩, ⟨"GrassCellsModel", "stepOf", "(IIII)I"⟩, ⟨"GrassCellsModel", "laysDiagram", "()V"⟩, ⟨"GrassCellsModel", "isOwnDiagram", "()Z"⟩, ⟨"GrassCellsModel", "searchesDiagram", "()V"⟩, ⟨"GrassCellsModel", "isAllLe", "()Z"⟩, ⟨"GrassCellsModel", "keepsAct", "()V"⟩, ⟨"GrassCellsModel", "changes", "()V"⟩, ⟨"GrassCellsModel", "follows", "()V"⟩, ⟨"GrassCellsModel", "laysNeck", "()V"⟩, ⟨"GrassCellsModel", "laysBases", "()V"⟩]
def q_y_11 : List MethodName := [⟨"GrassCellsModel", "isAtLeast", "(III)Z"⟩, ⟨"GrassCellsModel", "laysCluster", "()V"⟩, ⟨"GrassCellsModel", "crossesNone", "(I)Z"⟩, ⟨"GrassCellsModel", "doCross", "(II)Z"⟩, ⟨"GrassCellsModel", "f", "(I)I"⟩, ⟨"GrassCellsModel", "isLabel", "(I)Z"⟩, ⟨"GrassCellsModel", "neck", "(I)I"⟩, ⟨"GrassCellsModel", "box", "(II)I"⟩, ⟨"GrassCellsModel", "bases", "()I"⟩, ⟨"GrassCellsModel", "isCell", "()Z"⟩, ⟨"GrassCellsModel", "basis", "(I)I"⟩, ⟨"GrassCellsModel", "kthOf", "([ZI)I"⟩, ⟨"GrassCellsModel", "rank", "(I)I"⟩, ⟨"GrassCellsModel", "exchange", "(III)I"⟩, ⟨"GrassCellsModel", "isBasisHere", "(I)Z"⟩, ⟨"GrassCellsModel", "part", "(I)I"⟩]
def q_y_12 : List MethodName := [⟨"GrassCellsModel", "laysParts", "()V"⟩, ⟨"GrassCellsModel", "hang", "(II)Z"⟩, ⟨"GrassCellsModel", "ways", "(I)J"⟩, ⟨"GrassCellsModel", "isSet", "(I)Z"⟩, ⟨"GrassCellsModel", "laysPaths", "(I)V"⟩, ⟨"GrassCellsModel", "plusToRight", "(II)I"⟩, ⟨"GrassCellsModel", "plusAbove", "(II)I"⟩, ⟨"GrassCellsModel", "endsAt", "(I)J"⟩, ⟨"GrassCellsModel", "determinant", "(I)J"⟩, ⟨"GrassCellsModel", "of", "(II)J"⟩, ⟨"GrassCellsModel", "two", "(IIII)J"⟩, ⟨"GrassCellsModel", "three", "(III)J"⟩, ⟨"GrassCellsModel", "cross", "(II)I"⟩, ⟨"GrassCellsModel", "cluster", "(I)I"⟩, ⟨"GrassCellsModel", "square", "(I)I"⟩, ⟨"GrassCellsModel", "squareAt", "(I)I"⟩]
def q_y_13 : List MethodName := [⟨"GrassCellsModel", "isOfNeck", "(I)Z"⟩, ⟨"GrassCellsModel", "squareBy", "(III)I"⟩, ⟨"GrassCellsModel", "isThere", "(III)Z"⟩, ⟨"GrassCellsModel", "move", "(I)I"⟩, ⟨"GrassCellsModel", "undo", "()I"⟩, ⟨"GrassCellsModel", "lower", "(II)I"⟩, ⟨"GrassCellsModel", "toldNext", "(III)I"⟩, ⟨"GrassCellsModel", "nextOnes", "(II)I"⟩, ⟨"GrassCellsModel", "inversionsOf", "([II)I"⟩, ⟨"GrassCellsModel", "at", "([III)I"⟩, ⟨"GrassCellsModel", "swaps", "(II)Z"⟩, ⟨"GrassCellsModel", "isNext", "(II)Z"⟩, ⟨"GrassCellsModel", "upper", "(II)I"⟩, ⟨"GrassCellsModel", "down", "(I)I"⟩, ⟨"GrassCellsModel", "goes", "(II)I"⟩, ⟨"GrassCellsModel", "dim", "()I"⟩]
def q_y_14 : List MethodName := [⟨"GrassCellsModel", "up", "(I)I"⟩, ⟨"GrassCellsModel", "turn", "()Z"⟩, ⟨"GrassCellsModel", "mirror", "()Z"⟩, ⟨"GrassCellsModel", "becomesNew", "()V"⟩, ⟨"GrassCellsModel", "leastFrom", "(I)I"⟩, ⟨"GrassCellsModel", "complement", "()Z"⟩, ⟨"GrassCellsModel", "howMany", "(III)I"⟩, ⟨"GrassCellsModel", "isFree", "(II)Z"⟩, ⟨"GrassCellsModel", "isOne", "(III)Z"⟩, ⟨"GrassCellsModel", "keep", "(I)I"⟩, ⟨"GrassCellsModel", "has", "(I)I"⟩, ⟨"GrassCellsModel", "laysItsNeck", "(I)V"⟩, ⟨"GrassCellsModel", "count", "(I)I"⟩, ⟨"GrassCellsModel", "loops", "(Z)I"⟩, ⟨"GrassCellsModel", "parts", "()I"⟩, ⟨"GrassCellsModel", "kept", "()I"⟩]
def q_y_all : List (List MethodName) := [q_y_0, q_y_1, q_y_2, q_y_3, q_y_4, q_y_5, q_y_6, q_y_7, q_y_8, q_y_9, q_y_10, q_y_11, q_y_12, q_y_13, q_y_14]
def q_y (m : Nat) : MethodName := match q_y_all[m / 16]? with
  | some l => (match l[m % 16]? with
    | some c => c
    | none => ⟨"", "", ""⟩)
  | none => ⟨"", "", ""⟩
def q_cc_0 : List ByteArray := [code, prog_1_method_1_code, object_method_1_code, prog_9_method_1_code, prog_12_method_1_code, prog_5_method_1_code, prog_2_method_1_code, prog_4_method_1_code, prog_7_method_1_code, prog_8_method_1_code, prog_6_method_1_code, prog_3_method_1_code, prog_11_method_1_code, prog_1_method_2_code, prog_12_method_2_code, prog_1_method_3_code]
def q_cc_1 : List ByteArray := [prog_1_method_4_code, prog_9_method_2_code, prog_9_method_4_code, prog_12_method_3_code, prog_12_method_5_code, prog_12_method_6_code, prog_9_method_5_code, prog_9_method_6_code, prog_12_method_4_code, prog_9_method_3_code, prog_9_method_7_code, prog_10_method_2_code, prog_9_method_8_code, prog_9_method_10_code, prog_9_method_9_code, prog_5_method_2_code]
def q_cc_2 : List ByteArray := [prog_18_method_103_code, prog_10_method_4_code, prog_9_method_11_code, prog_5_method_3_code, prog_5_method_5_code, prog_9_method_12_code, prog_5_method_6_code, prog_5_method_4_code, prog_5_method_7_code, prog_5_method_8_code, prog_5_method_9_code, prog_9_method_13_code, prog_9_method_14_code, prog_9_method_15_code, prog_10_method_3_code, prog_15_method_49_code]
def q_cc_3 : List ByteArray := [prog_10_method_8_code, prog_9_method_16_code, prog_10_method_5_code, prog_15_method_48_code, prog_1_method_34_code, prog_8_method_2_code, prog_16_method_69_code, prog_4_method_3_code, prog_2_method_2_code, prog_2_method_3_code, prog_2_method_4_code, prog_2_method_10_code, prog_2_method_9_code, prog_2_method_5_code, prog_10_method_6_code, prog_2_method_6_code]
def q_cc_4 : List ByteArray := [prog_5_method_10_code, prog_4_method_2_code, prog_4_method_6_code, prog_4_method_5_code, prog_4_method_4_code, prog_10_method_7_code, prog_1_method_5_code, prog_2_method_8_code, prog_1_method_6_code, prog_1_method_7_code, prog_1_method_8_code, prog_1_method_9_code, prog_1_method_10_code, prog_2_method_13_code, prog_16_method_65_code, prog_1_method_11_code]
def q_cc_5 : List ByteArray := [prog_2_method_11_code, prog_2_method_14_code, prog_1_method_12_code, prog_2_method_15_code, prog_2_method_16_code, prog_1_method_13_code, prog_5_method_12_code, prog_5_method_14_code, prog_18_method_101_code, prog_5_method_13_code, prog_16_method_61_code, prog_1_method_14_code, prog_1_method_15_code, prog_1_method_16_code, prog_4_method_8_code, prog_2_method_12_code]
def q_cc_6 : List ByteArray := [prog_4_method_9_code, prog_4_method_10_code, prog_1_method_17_code, prog_4_method_7_code, prog_1_method_18_code, prog_1_method_32_code, prog_7_method_2_code, prog_7_method_3_code, prog_7_method_4_code, prog_1_method_19_code, prog_1_method_20_code, prog_1_method_33_code, prog_2_method_7_code, prog_5_method_11_code, prog_1_method_21_code, prog_1_method_22_code]
def q_cc_7 : List ByteArray := [prog_1_method_23_code, prog_2_method_19_code, prog_1_method_24_code, prog_1_method_25_code, prog_8_method_3_code, prog_1_method_26_code, prog_3_method_2_code, prog_3_method_4_code, prog_3_method_3_code, prog_3_method_5_code, prog_15_method_45_code, prog_15_method_47_code, prog_3_method_7_code, prog_3_method_6_code, prog_1_method_27_code, prog_11_method_2_code]
def q_cc_8 : List ByteArray := [prog_1_method_28_code, prog_11_method_3_code, prog_1_method_29_code, prog_1_method_31_code, prog_1_method_30_code, prog_2_method_18_code, prog_2_method_17_code, prog_14_method_1_code, prog_14_method_7_code, prog_14_method_8_code, prog_14_method_2_code, prog_14_method_31_code, prog_14_method_14_code, prog_14_method_11_code, prog_14_method_10_code, prog_14_method_12_code]
def q_cc_9 : List ByteArray := [prog_14_method_9_code, prog_14_method_32_code, prog_14_method_15_code, prog_14_method_13_code, prog_14_method_16_code, prog_14_method_25_code, prog_14_method_4_code, prog_14_method_24_code, prog_14_method_3_code, prog_14_method_23_code, prog_14_method_26_code, prog_14_method_22_code, prog_14_method_29_code, prog_14_method_27_code, prog_14_method_28_code, prog_14_method_30_code]
def q_cc_10 : List ByteArray := [prog_14_method_17_code, prog_14_method_18_code, prog_14_method_19_code, prog_14_method_5_code, prog_14_method_6_code, prog_14_method_20_code, prog_14_method_21_code, prog_14_method_39_code, prog_14_method_38_code, prog_14_method_40_code, prog_14_method_41_code, prog_14_method_77_code, prog_14_method_33_code, prog_14_method_34_code, prog_14_method_35_code, prog_14_method_37_code]
def q_cc_11 : List ByteArray := [prog_14_method_36_code, prog_14_method_69_code, prog_14_method_68_code, prog_14_method_66_code, prog_14_method_44_code, prog_14_method_43_code, prog_14_method_45_code, prog_14_method_46_code, prog_14_method_47_code, prog_14_method_42_code, prog_14_method_49_code, prog_14_method_48_code, prog_14_method_50_code, prog_14_method_52_code, prog_14_method_51_code, prog_14_method_55_code]
def q_cc_12 : List ByteArray := [prog_14_method_54_code, prog_14_method_53_code, prog_14_method_61_code, prog_14_method_56_code, prog_14_method_59_code, prog_14_method_58_code, prog_14_method_57_code, prog_14_method_60_code, prog_14_method_65_code, prog_14_method_62_code, prog_14_method_63_code, prog_14_method_64_code, prog_14_method_67_code, prog_14_method_70_code, prog_14_method_75_code, prog_14_method_73_code]
def q_cc_13 : List ByteArray := [prog_14_method_71_code, prog_14_method_74_code, prog_14_method_72_code, prog_14_method_76_code, prog_14_method_78_code, prog_14_method_86_code, prog_14_method_84_code, prog_14_method_83_code, prog_14_method_80_code, prog_14_method_79_code, prog_14_method_82_code, prog_14_method_85_code, prog_14_method_87_code, prog_14_method_89_code, prog_14_method_88_code, prog_14_method_81_code]
def q_cc_14 : List ByteArray := [prog_14_method_90_code, prog_14_method_91_code, prog_14_method_94_code, prog_14_method_93_code, prog_14_method_92_code, prog_14_method_95_code, prog_14_method_98_code, prog_14_method_96_code, prog_14_method_97_code, prog_14_method_99_code, prog_14_method_101_code, prog_14_method_100_code, prog_14_method_105_code, prog_14_method_102_code, prog_14_method_103_code, prog_14_method_104_code]
def q_cc_all : List (List ByteArray) := [q_cc_0, q_cc_1, q_cc_2, q_cc_3, q_cc_4, q_cc_5, q_cc_6, q_cc_7, q_cc_8, q_cc_9, q_cc_10, q_cc_11, q_cc_12, q_cc_13, q_cc_14]
def q_cc (m : Nat) : ByteArray := match q_cc_all[m / 16]? with
  | some l => (match l[m % 16]? with
    | some c => c
    | none => .empty)
  | none => .empty
def q_rtT_0 : List (Option FieldType) := [some .boolean, none, none, none, none, none, none, none, none, none, none, none, none, some .int, none, some .int]
def q_rtT_1 : List (Option FieldType) := [some .int, some .int, none, some .int, some .boolean, some .int, some .int, some .boolean, some .boolean, some .int, some .int, some .int, some .int, some .boolean, some .boolean, none]
def q_rtT_2 : List (Option FieldType) := [none, some .boolean, some .boolean, some .boolean, none, some .int, some .boolean, some .boolean, some .int, some .int, some .int, some .int, some .boolean, some .int, some .int, some .int]
def q_rtT_3 : List (Option FieldType) := [some .boolean, some .int, some .int, some .int, none, none, some .int, none, none, none, none, some .boolean, some .boolean, some .boolean, some .boolean, some .int]
def q_rtT_4 : List (Option FieldType) := [none, none, none, some .boolean, some .boolean, some .boolean, some .int, some .boolean, some .int, some .int, some .int, some .int, some .int, some .int, some .int, some .int]
def q_rtT_5 : List (Option FieldType) := [some .boolean, some .int, some .int, some .int, some .int, some .long, some .long, none, none, none, some .long, some .int, some .int, some .int, some .int, some .boolean]
def q_rtT_6 : List (Option FieldType) := [some .int, some .boolean, some .int, none, some .int, some .int, some .int, some .boolean, some .boolean, some .int, some .int, some .int, some .int, some .int, some .int, some .boolean]
def q_rtT_7 : List (Option FieldType) := [some .boolean, some .int, some .boolean, some .int, some (.object "GrassCells$Moment"), some .int, some .int, none, none, none, some .int, some .int, none, none, some .int, none]
def q_rtT_8 : List (Option FieldType) := [some .int, some .boolean, some .int, some .int, some .int, some .int, some .int, none, some .int, some .int, some .boolean, some .int, some .int, some .int, some .int, some .boolean]
def q_rtT_9 : List (Option FieldType) := [some .boolean, some .boolean, some .boolean, some .boolean, some .boolean, some .boolean, some .int, none, some .boolean, some .boolean, some .boolean, some .boolean, some .int, some .int, some .int, some .int]
def q_rtT_10 : List (Option FieldType) := [some .boolean, some .boolean, some .boolean, some .int, some .int, some .boolean, some .int, none, some .boolean, none, some .boolean, none, none, none, none, none]
def q_rtT_11 : List (Option FieldType) := [some .boolean, none, some .boolean, some .boolean, some .int, some .boolean, some .int, some .int, some .int, some .boolean, some .int, some .int, some .int, some .int, some .boolean, some .int]
def q_rtT_12 : List (Option FieldType) := [none, some .boolean, some .long, some .boolean, none, some .int, some .int, some .long, some .long, some .long, some .long, some .long, some .int, some .int, some .int, some .int]
def q_rtT_13 : List (Option FieldType) := [some .boolean, some .int, some .boolean, some .int, some .int, some .int, some .int, some .int, some .int, some .int, some .boolean, some .boolean, some .int, some .int, some .int, some .int]
def q_rtT_14 : List (Option FieldType) := [some .int, some .boolean, some .boolean, none, some .int, some .boolean, some .int, some .boolean, some .boolean, some .int, some .int, none, some .int, some .int, some .int, some .int]
def q_rtT_all : List (List (Option FieldType)) := [q_rtT_0, q_rtT_1, q_rtT_2, q_rtT_3, q_rtT_4, q_rtT_5, q_rtT_6, q_rtT_7, q_rtT_8, q_rtT_9, q_rtT_10, q_rtT_11, q_rtT_12, q_rtT_13, q_rtT_14]
def q_rtT (m : Nat) : Option FieldType := match q_rtT_all[m / 16]? with
  | some l => (match l[m % 16]? with
    | some c => c
    | none => none)
  | none => none
def q_fr_0 : List Nat := [10, 4, 0, 2, 1, 1, 2, 1, 1, 3, 2, 1, 1, 1, 0, 0]
def q_fr_1 : List Nat := [6, 5, 1, 0, 1, 1, 3, 2, 1, 0, 1, 0, 4, 2, 1, 1]
def q_fr_2 : List Nat := [0, 0, 2, 1, 1, 3, 2, 1, 2, 1, 1, 4, 2, 3, 0, 0]
def q_fr_3 : List Nat := [1, 2, 1, 0, 5, 1, 0, 0, 4, 1, 3, 2, 1, 1, 0, 0]
def q_fr_4 : List Nat := [2, 3, 1, 0, 2, 1, 1, 0, 1, 2, 0, 0, 2, 1, 0, 4]
def q_fr_5 : List Nat := [2, 3, 5, 4, 3, 4, 3, 2, 0, 1, 0, 3, 0, 4, 3, 0]
def q_fr_6 : List Nat := [2, 1, 4, 0, 4, 3, 2, 1, 0, 4, 7, 6, 2, 1, 7, 6]
def q_fr_7 : List Nat := [6, 0, 6, 5, 0, 4, 3, 1, 0, 2, 1, 0, 0, 2, 3, 0]
def q_fr_8 : List Nat := [4, 3, 7, 0, 6, 1, 5, 1, 0, 1, 0, 8, 2, 1, 0, 0]
def q_fr_9 : List Nat := [0, 4, 2, 0, 0, 3, 0, 1, 0, 0, 1, 0, 2, 1, 1, 1]
def q_fr_10 : List Nat := [3, 2, 1, 0, 0, 2, 1, 5, 3, 4, 2, 0, 7, 6, 1, 2]
def q_fr_11 : List Nat := [1, 3, 2, 1, 1, 0, 1, 1, 1, 0, 1, 0, 1, 2, 1, 3]
def q_fr_12 : List Nat := [2, 1, 4, 1, 2, 1, 1, 1, 3, 0, 1, 2, 2, 1, 4, 3]
def q_fr_13 : List Nat := [0, 2, 1, 4, 7, 5, 4, 2, 1, 0, 1, 3, 5, 9, 8, 2]
def q_fr_14 : List Nat := [9, 8, 9, 8, 2, 9, 3, 0, 2, 3, 2, 1, 4, 1, 3, 0]
def q_fr_all : List (List Nat) := [q_fr_0, q_fr_1, q_fr_2, q_fr_3, q_fr_4, q_fr_5, q_fr_6, q_fr_7, q_fr_8, q_fr_9, q_fr_10, q_fr_11, q_fr_12, q_fr_13, q_fr_14]
def q_fr (m : Nat) : Nat := match q_fr_all[m / 16]? with
  | some l => (match l[m % 16]? with
    | some c => c
    | none => 0)
  | none => 0
def q_lo_0 : List Nat := [228, 81, 0, 40, 20, 20, 40, 20, 20, 60, 40, 20, 20, 22, 0, 0]
def q_lo_1 : List Nat := [134, 112, 21, 0, 21, 21, 65, 42, 21, 0, 22, 0, 91, 45, 21, 23]
def q_lo_2 : List Nat := [0, 0, 43, 21, 20, 68, 43, 21, 43, 21, 21, 87, 42, 65, 0, 0]
def q_lo_3 : List Nat := [21, 41, 21, 0, 106, 22, 0, 0, 83, 20, 62, 41, 20, 26, 0, 0]
def q_lo_4 : List Nat := [45, 72, 22, 0, 49, 21, 21, 0, 21, 43, 0, 0, 44, 21, 0, 86]
def q_lo_5 : List Nat := [41, 62, 111, 86, 62, 93, 68, 43, 0, 21, 0, 62, 0, 100, 75, 0]
def q_lo_6 : List Nat := [47, 22, 100, 0, 98, 75, 53, 28, 0, 98, 150, 128, 42, 20, 150, 128]
def q_lo_7 : List Nat := [128, 0, 128, 106, 0, 90, 65, 23, 0, 41, 21, 0, 0, 41, 62, 0]
def q_lo_8 : List Nat := [84, 62, 155, 0, 134, 20, 111, 20, 0, 25, 0, 184, 41, 21, 0, 0]
def q_lo_9 : List Nat := [0, 98, 41, 0, 0, 74, 0, 21, 0, 0, 22, 0, 46, 22, 22, 21]
def q_lo_10 : List Nat := [68, 45, 22, 0, 0, 46, 21, 119, 74, 95, 48, 0, 164, 144, 22, 47]
def q_lo_11 : List Nat := [21, 70, 48, 21, 21, 0, 21, 22, 20, 0, 23, 0, 25, 46, 25, 70]
def q_lo_12 : List Nat := [45, 21, 90, 25, 45, 22, 22, 22, 69, 0, 22, 46, 48, 23, 93, 69]
def q_lo_13 : List Nat := [0, 44, 21, 93, 164, 121, 97, 49, 22, 0, 25, 75, 121, 207, 184, 46]
def q_lo_14 : List Nat := [207, 184, 205, 184, 47, 205, 71, 0, 46, 66, 47, 21, 92, 21, 70, 0]
def q_lo_all : List (List Nat) := [q_lo_0, q_lo_1, q_lo_2, q_lo_3, q_lo_4, q_lo_5, q_lo_6, q_lo_7, q_lo_8, q_lo_9, q_lo_10, q_lo_11, q_lo_12, q_lo_13, q_lo_14]
def q_lo (m : Nat) : Nat := match q_lo_all[m / 16]? with
  | some l => (match l[m % 16]? with
    | some c => c
    | none => 0)
  | none => 0
def q_pcs_0 : List (List Nat) := [qp_Law_law, qp_GC_init, qp_J_init, qp_Re_init, qp_Ta_init, qp_Di_init, qp_Ce_init, qp_Co_init, qp_Ne_init, qp_Pa_init, qp_Mo_init, qp_Cs_init, qp_Sh_init, qp_GC_feed, qp_Ta_append, qp_GC_end]
def q_pcs_1 : List (List Nat) := [qp_GC_cell, qp_Re_read, qp_Re_skipBlanks, qp_Ta_at, qp_Ta_isSmallLetter, qp_Ta_fourBytes, qp_Re_readNumbers, qp_Re_readNumber, qp_Ta_isDigit, qp_Re_fault, qp_Re_faultOfNumbers, qp_Se_only, qp_Re_readFilling, qp_Re_readPath, qp_Re_isLetterOfPath, qp_Di_clear]
def q_pcs_2 : List (List Nat) := [qp_J_fill, qp_Se_holds, qp_Re_readRow, qp_Di_isBox, qp_Di_setPlus, qp_Re_faultOfBoxes, qp_Di_breaksLe, qp_Di_isPlus, qp_Di_imageOf, qp_Di_nextColumn, qp_Di_rowAbove, qp_Re_readSets, qp_Re_readSet, qp_Re_faultOfSets, qp_Se_upTo, qp_J_bitCount]
def q_pcs_3 : List (List Nat) := [qp_Se_canStandBehind, qp_Re_imageBetween, qp_Se_least, qp_J_numberOfTrailingZeros, qp_GC_become, qp_Pa_record, qp_J_min, qp_Co_copyFrom, qp_Ce_take, qp_Ce_layNecklace, qp_Ce_layBases, qp_Ce_isSet, qp_Ce_areLabels, qp_Ce_isAtLeastNecklace, qp_Se_atLeast, qp_Ce_inversionsOf]
def q_pcs_4 : List (List Nat) := [qp_Di_drawFor, qp_Co_layFor, qp_Co_add, qp_Co_contains, qp_Co_crossesNone, qp_Se_crossing, qp_GC_f, qp_Ce_isLabel, qp_GC_neck, qp_GC_box, qp_GC_bases, qp_GC_basis, qp_GC_rank, qp_Ce_rankOf, qp_J_max, qp_GC_exchange]
def q_pcs_5 : List (List Nat) := [qp_Ce_isBasis, qp_Ce_leastExchange, qp_GC_part, qp_Ce_hangingTogether, qp_Ce_exchangeable, qp_GC_ways, qp_Di_waysTo, qp_Di_countPathsTo, qp_J_fill2, qp_Di_expandRow, qp_J_abs, qp_GC_cross, qp_GC_cluster, qp_GC_square, qp_Co_movedFrom, qp_Ce_isOfNecklace]
def q_pcs_6 : List (List Nat) := [qp_Co_movedAt, qp_Co_hasCorners, qp_GC_move, qp_Co_remove, qp_GC_lower, qp_GC_valueOfNext, qp_Ne_howManyFrom, qp_Ne_seek, qp_Ne_swap, qp_GC_upper, qp_GC_down, qp_GC_stepToNext, qp_Ce_dimension, qp_Di_plusCount, qp_GC_up, qp_GC_turn]
def q_pcs_7 : List (List Nat) := [qp_GC_mirror, qp_Ce_origin, qp_GC_complement, qp_GC_undo, qp_Pa_takeLast, qp_GC_howMany, qp_Cs_cells, qp_Cs_clearThen, qp_Cs_flip, qp_Cs_endLowestRow, qp_J_highestOneBit, qp_J_numberOfLeadingZeros, qp_Cs_pass, qp_Cs_addColumn, qp_GC_keep, qp_Sh_put]
def q_pcs_8 : List (List Nat) := [qp_GC_has, qp_Sh_isInClosureOf, qp_GC_count, qp_GC_filledShelves, qp_GC_countOfLive, qp_Ce_fixedLabels, qp_Ce_partCount, qp_Md_init, qp_Md_feed, qp_Md_end, qp_Md_isIn, qp_Md_cell, qp_Md_wordHere, qp_Md_next, qp_Md_byteAt, qp_Md_isLetter]
def q_pcs_9 : List (List Nat) := [qp_Md_fails, qp_Md_readsRest, qp_Md_readsPerm, qp_Md_isDigit, qp_Md_isLikeAhead, qp_Md_readsFill, qp_Md_with, qp_Md_laysShape, qp_Md_has, qp_Md_isBox, qp_Md_isLe, qp_Md_isPlus, qp_Md_goesFrom, qp_Md_rowAbove, qp_Md_columnLeft, qp_Md_outAt]
def q_pcs_10 : List (List Nat) := [qp_Md_readsNeck, qp_Md_isNeck, qp_Md_canStand, qp_Md_without, qp_Md_sizeOf, qp_Md_laysByNeck, qp_Md_stepOf, qp_Md_laysDiagram, qp_Md_isOwnDiagram, qp_Md_searchesDiagram, qp_Md_isAllLe, qp_Md_keepsAct, qp_Md_changes, qp_Md_follows, qp_Md_laysNeck, qp_Md_laysBases]
def q_pcs_11 : List (List Nat) := [qp_Md_isAtLeast, qp_Md_laysCluster, qp_Md_crossesNone, qp_Md_doCross, qp_Md_f, qp_Md_isLabel, qp_Md_neck, qp_Md_box, qp_Md_bases, qp_Md_isCell, qp_Md_basis, qp_Md_kthOf, qp_Md_rank, qp_Md_exchange, qp_Md_isBasisHere, qp_Md_part]
def q_pcs_12 : List (List Nat) := [qp_Md_laysParts, qp_Md_hang, qp_Md_ways, qp_Md_isSet, qp_Md_laysPaths, qp_Md_plusToRight, qp_Md_plusAbove, qp_Md_endsAt, qp_Md_determinant, qp_Md_of, qp_Md_two, qp_Md_three, qp_Md_cross, qp_Md_cluster, qp_Md_square, qp_Md_squareAt]
def q_pcs_13 : List (List Nat) := [qp_Md_isOfNeck, qp_Md_squareBy, qp_Md_isThere, qp_Md_move, qp_Md_undo, qp_Md_lower, qp_Md_toldNext, qp_Md_nextOnes, qp_Md_inversionsOf, qp_Md_at, qp_Md_swaps, qp_Md_isNext, qp_Md_upper, qp_Md_down, qp_Md_goes, qp_Md_dim]
def q_pcs_14 : List (List Nat) := [qp_Md_up, qp_Md_turn, qp_Md_mirror, qp_Md_becomesNew, qp_Md_leastFrom, qp_Md_complement, qp_Md_howMany, qp_Md_isFree, qp_Md_isOne, qp_Md_keep, qp_Md_has2, qp_Md_laysItsNeck, qp_Md_count, qp_Md_loops, qp_Md_parts, qp_Md_kept]
def q_pcs_all : List (List (List Nat)) := [q_pcs_0, q_pcs_1, q_pcs_2, q_pcs_3, q_pcs_4, q_pcs_5, q_pcs_6, q_pcs_7, q_pcs_8, q_pcs_9, q_pcs_10, q_pcs_11, q_pcs_12, q_pcs_13, q_pcs_14]
def q_pcs (m : Nat) : List Nat := match q_pcs_all[m / 16]? with
  | some l => (match l[m % 16]? with
    | some c => c
    | none => [])
  | none => []
def q_hints_0 : List (List (List Nat)) := [qh_Law_law, qh_GC_init, qh_J_init, qh_Re_init, qh_Ta_init, qh_Di_init, qh_Ce_init, qh_Co_init, qh_Ne_init, qh_Pa_init, qh_Mo_init, qh_Cs_init, qh_Sh_init, qh_GC_feed, qh_Ta_append, qh_GC_end]
def q_hints_1 : List (List (List Nat)) := [qh_GC_cell, qh_Re_read, qh_Re_skipBlanks, qh_Ta_at, qh_Ta_isSmallLetter, qh_Ta_fourBytes, qh_Re_readNumbers, qh_Re_readNumber, qh_Ta_isDigit, qh_Re_fault, qh_Re_faultOfNumbers, qh_Se_only, qh_Re_readFilling, qh_Re_readPath, qh_Re_isLetterOfPath, qh_Di_clear]
def q_hints_2 : List (List (List Nat)) := [qh_J_fill, qh_Se_holds, qh_Re_readRow, qh_Di_isBox, qh_Di_setPlus, qh_Re_faultOfBoxes, qh_Di_breaksLe, qh_Di_isPlus, qh_Di_imageOf, qh_Di_nextColumn, qh_Di_rowAbove, qh_Re_readSets, qh_Re_readSet, qh_Re_faultOfSets, qh_Se_upTo, qh_J_bitCount]
def q_hints_3 : List (List (List Nat)) := [qh_Se_canStandBehind, qh_Re_imageBetween, qh_Se_least, qh_J_numberOfTrailingZeros, qh_GC_become, qh_Pa_record, qh_J_min, qh_Co_copyFrom, qh_Ce_take, qh_Ce_layNecklace, qh_Ce_layBases, qh_Ce_isSet, qh_Ce_areLabels, qh_Ce_isAtLeastNecklace, qh_Se_atLeast, qh_Ce_inversionsOf]
def q_hints_4 : List (List (List Nat)) := [qh_Di_drawFor, qh_Co_layFor, qh_Co_add, qh_Co_contains, qh_Co_crossesNone, qh_Se_crossing, qh_GC_f, qh_Ce_isLabel, qh_GC_neck, qh_GC_box, qh_GC_bases, qh_GC_basis, qh_GC_rank, qh_Ce_rankOf, qh_J_max, qh_GC_exchange]
def q_hints_5 : List (List (List Nat)) := [qh_Ce_isBasis, qh_Ce_leastExchange, qh_GC_part, qh_Ce_hangingTogether, qh_Ce_exchangeable, qh_GC_ways, qh_Di_waysTo, qh_Di_countPathsTo, qh_J_fill2, qh_Di_expandRow, qh_J_abs, qh_GC_cross, qh_GC_cluster, qh_GC_square, qh_Co_movedFrom, qh_Ce_isOfNecklace]
def q_hints_6 : List (List (List Nat)) := [qh_Co_movedAt, qh_Co_hasCorners, qh_GC_move, qh_Co_remove, qh_GC_lower, qh_GC_valueOfNext, qh_Ne_howManyFrom, qh_Ne_seek, qh_Ne_swap, qh_GC_upper, qh_GC_down, qh_GC_stepToNext, qh_Ce_dimension, qh_Di_plusCount, qh_GC_up, qh_GC_turn]
def q_hints_7 : List (List (List Nat)) := [qh_GC_mirror, qh_Ce_origin, qh_GC_complement, qh_GC_undo, qh_Pa_takeLast, qh_GC_howMany, qh_Cs_cells, qh_Cs_clearThen, qh_Cs_flip, qh_Cs_endLowestRow, qh_J_highestOneBit, qh_J_numberOfLeadingZeros, qh_Cs_pass, qh_Cs_addColumn, qh_GC_keep, qh_Sh_put]
def q_hints_8 : List (List (List Nat)) := [qh_GC_has, qh_Sh_isInClosureOf, qh_GC_count, qh_GC_filledShelves, qh_GC_countOfLive, qh_Ce_fixedLabels, qh_Ce_partCount, qh_Md_init, qh_Md_feed, qh_Md_end, qh_Md_isIn, qh_Md_cell, qh_Md_wordHere, qh_Md_next, qh_Md_byteAt, qh_Md_isLetter]
def q_hints_9 : List (List (List Nat)) := [qh_Md_fails, qh_Md_readsRest, qh_Md_readsPerm, qh_Md_isDigit, qh_Md_isLikeAhead, qh_Md_readsFill, qh_Md_with, qh_Md_laysShape, qh_Md_has, qh_Md_isBox, qh_Md_isLe, qh_Md_isPlus, qh_Md_goesFrom, qh_Md_rowAbove, qh_Md_columnLeft, qh_Md_outAt]
def q_hints_10 : List (List (List Nat)) := [qh_Md_readsNeck, qh_Md_isNeck, qh_Md_canStand, qh_Md_without, qh_Md_sizeOf, qh_Md_laysByNeck, qh_Md_stepOf, qh_Md_laysDiagram, qh_Md_isOwnDiagram, qh_Md_searchesDiagram, qh_Md_isAllLe, qh_Md_keepsAct, qh_Md_changes, qh_Md_follows, qh_Md_laysNeck, qh_Md_laysBases]
def q_hints_11 : List (List (List Nat)) := [qh_Md_isAtLeast, qh_Md_laysCluster, qh_Md_crossesNone, qh_Md_doCross, qh_Md_f, qh_Md_isLabel, qh_Md_neck, qh_Md_box, qh_Md_bases, qh_Md_isCell, qh_Md_basis, qh_Md_kthOf, qh_Md_rank, qh_Md_exchange, qh_Md_isBasisHere, qh_Md_part]
def q_hints_12 : List (List (List Nat)) := [qh_Md_laysParts, qh_Md_hang, qh_Md_ways, qh_Md_isSet, qh_Md_laysPaths, qh_Md_plusToRight, qh_Md_plusAbove, qh_Md_endsAt, qh_Md_determinant, qh_Md_of, qh_Md_two, qh_Md_three, qh_Md_cross, qh_Md_cluster, qh_Md_square, qh_Md_squareAt]
def q_hints_13 : List (List (List Nat)) := [qh_Md_isOfNeck, qh_Md_squareBy, qh_Md_isThere, qh_Md_move, qh_Md_undo, qh_Md_lower, qh_Md_toldNext, qh_Md_nextOnes, qh_Md_inversionsOf, qh_Md_at, qh_Md_swaps, qh_Md_isNext, qh_Md_upper, qh_Md_down, qh_Md_goes, qh_Md_dim]
def q_hints_14 : List (List (List Nat)) := [qh_Md_up, qh_Md_turn, qh_Md_mirror, qh_Md_becomesNew, qh_Md_leastFrom, qh_Md_complement, qh_Md_howMany, qh_Md_isFree, qh_Md_isOne, qh_Md_keep, qh_Md_has2, qh_Md_laysItsNeck, qh_Md_count, qh_Md_loops, qh_Md_parts, qh_Md_kept]
def q_hints_all : List (List (List (List Nat))) := [q_hints_0, q_hints_1, q_hints_2, q_hints_3, q_hints_4, q_hints_5, q_hints_6, q_hints_7, q_hints_8, q_hints_9, q_hints_10, q_hints_11, q_hints_12, q_hints_13, q_hints_14]
def q_hints (m : Nat) : List (List Nat) := match q_hints_all[m / 16]? with
  | some l => (match l[m % 16]? with
    | some c => c
    | none => [])
  | none => []
def q_np_0 : List Nat := [1, 0, 0, 0, 0, 0, 0, 0, 0, 0, 0, 0, 0, 5, 1, 1]
def q_np_1 : List Nat := [0, 0, 0, 1, 1, 1, 0, 1, 1, 2, 0, 1, 0, 0, 0, 2]
def q_np_2 : List Nat := [2, 2, 1, 2, 2, 0, 2, 2, 1, 1, 1, 0, 1, 0, 1, 1]
def q_np_3 : List Nat := [3, 3, 1, 1, 2, 2, 2, 1, 2, 0, 0, 1, 1, 1, 4, 2]
def q_np_4 : List Nat := [1, 1, 1, 1, 2, 3, 1, 1, 1, 2, 0, 1, 1, 1, 2, 3]
def q_np_5 : List Nat := [1, 3, 1, 1, 1, 1, 1, 1, 2, 3, 1, 2, 1, 1, 2, 1]
def q_np_6 : List Nat := [4, 5, 1, 1, 2, 3, 2, 3, 3, 2, 1, 2, 0, 0, 1, 0]
def q_np_7 : List Nat := [0, 1, 0, 0, 0, 3, 3, 0, 0, 1, 1, 1, 3, 1, 1, 1]
def q_np_8 : List Nat := [1, 1, 1, 0, 1, 1, 0, 0, 5, 1, 3, 0, 0, 0, 1, 1]
def q_np_9 : List Nat := [2, 1, 0, 1, 1, 0, 2, 2, 2, 2, 3, 2, 3, 2, 3, 4]
def q_np_10 : List Nat := [0, 0, 3, 2, 1, 0, 4, 0, 0, 0, 0, 0, 0, 0, 0, 0]
def q_np_11 : List Nat := [3, 0, 1, 2, 1, 1, 1, 2, 0, 0, 1, 2, 1, 3, 1, 1]
def q_np_12 : List Nat := [0, 2, 1, 1, 1, 2, 2, 1, 1, 2, 4, 3, 2, 1, 1, 1]
def q_np_13 : List Nat := [1, 3, 3, 1, 0, 2, 3, 2, 2, 3, 2, 2, 2, 1, 2, 0]
def q_np_14 : List Nat := [1, 0, 0, 0, 1, 0, 3, 2, 3, 1, 1, 1, 1, 1, 0, 0]
def q_np_all : List (List Nat) := [q_np_0, q_np_1, q_np_2, q_np_3, q_np_4, q_np_5, q_np_6, q_np_7, q_np_8, q_np_9, q_np_10, q_np_11, q_np_12, q_np_13, q_np_14]
def q_np (m : Nat) : Nat := match q_np_all[m / 16]? with
  | some l => (match l[m % 16]? with
    | some c => c
    | none => 0)
  | none => 0
def q_mh_0 : List (List Nat) := [[], [1022, 1001], [], [1030, 1002], [1036, 1003], [1052, 1004], [1115, 1005], [1176, 1006], [1191, 1007], [1205, 1008], [1212, 1009], [2006, 1010], [2022, 1011], [2066, 1001], [2070, 1003], [2074, 1001]]
def q_mh_1 : List (List Nat) := [[2078, 1001], [2082, 1002], [2086, 1002], [2090, 1003], [2094, 1003], [2099, 1003], [2103, 1002], [2107, 1002], [2111, 1003], [2115, 1002], [2119, 1002], [2122, 1013], [2126, 1002], [2130, 1002], [2134, 1002], [2138, 1004]]
def q_mh_2 : List (List Nat) := [[2141, 1014], [2144, 1013], [2148, 1002], [2152, 1004], [2157, 1004], [2162, 1002], [2166, 1004], [2170, 1004], [2174, 1004], [2178, 1004], [2182, 1004], [2186, 1002], [2190, 1002], [2194, 1002], [2197, 1013], [2200, 1016]]
def q_mh_3 : List (List Nat) := [[2206, 1013], [2213, 1002], [2216, 1013], [2219, 1016], [2224, 1001], [2228, 1008], [2231, 1017], [2235, 1006], [2239, 1005], [3003, 1005], [3009, 1005], [3013, 1005], [3017, 1005], [3022, 1005], [3025, 1013], [3028, 1005]]
def q_mh_4 : List (List Nat) := [[3032, 1004], [3039, 1006], [3043, 1006], [3047, 1006], [3051, 1006], [3054, 1013], [3058, 1001], [3062, 1005], [3066, 1001], [3070, 1001], [3076, 1001], [3080, 1001], [3084, 1001], [3089, 1005], [3092, 1017], [3096, 1001]]
def q_mh_5 : List (List Nat) := [[3100, 1005], [3105, 1005], [3111, 1001], [3115, 1005], [3120, 1005], [3125, 1001], [3130, 1004], [3134, 1004], [3137, 1014], [3141, 1004], [3145, 1017], [3150, 1001], [3155, 1001], [3159, 1001], [3163, 1006], [3167, 1005]]
def q_mh_6 : List (List Nat) := [[3172, 1006], [3177, 1006], [3181, 1001], [3185, 1006], [3190, 1001], [3194, 1001], [3198, 1007], [3202, 1007], [3206, 1007], [3212, 1001], [3216, 1001], [3220, 1001], [3224, 1005], [3228, 1004], [3232, 1001], [3236, 1001]]
def q_mh_7 : List (List Nat) := [[4000, 1001], [4004, 1005], [4008, 1001], [4012, 1001], [4016, 1008], [4021, 1001], [4026, 1010], [4030, 1010], [4035, 1010], [4039, 1010], [4042, 1016], [4046, 1016], [4050, 1010], [4054, 1010], [4059, 1001], [4063, 1011]]
def q_mh_8 : List (List Nat) := [[4067, 1001], [4071, 1011], [4076, 1001], [4080, 1001], [4084, 1001], [4088, 1005], [4092, 1005], [4098, 1012], [4189, 1012], [4193, 1012], [4196, 1012], [4200, 1012], [4204, 1012], [4208, 1012], [4212, 1012], [4215, 1012]]
def q_mh_9 : List (List Nat) := [[4219, 1012], [4223, 1012], [4227, 1012], [4230, 1012], [4235, 1012], [4239, 1012], [5002, 1012], [5006, 1012], [5009, 1012], [5013, 1012], [5017, 1012], [5021, 1012], [5025, 1012], [5029, 1012], [5033, 1012], [5036, 1012]]
def q_mh_10 : List (List Nat) := [[5040, 1012], [5044, 1012], [5047, 1012], [5050, 1012], [5053, 1012], [5057, 1012], [5060, 1012], [5064, 1012], [5068, 1012], [5072, 1012], [5076, 1012], [5080, 1012], [5084, 1012], [5088, 1012], [5092, 1012], [5096, 1012]]
def q_mh_11 : List (List Nat) := [[5100, 1012], [5104, 1012], [5108, 1012], [5112, 1012], [5116, 1012], [5120, 1012], [5124, 1012], [5128, 1012], [5132, 1012], [5136, 1012], [5140, 1012], [5143, 1012], [5147, 1012], [5151, 1012], [5155, 1012], [5160, 1012]]
def q_mh_12 : List (List Nat) := [[5164, 1012], [5168, 1012], [5172, 1012], [5176, 1012], [5181, 1012], [5185, 1012], [5189, 1012], [5193, 1012], [5197, 1012], [5201, 1012], [5205, 1012], [5209, 1012], [5213, 1012], [5217, 1012], [5221, 1012], [5225, 1012]]
def q_mh_13 : List (List Nat) := [[5229, 1012], [5233, 1012], [5237, 1012], [6001, 1012], [6005, 1012], [6009, 1012], [6013, 1012], [6017, 1012], [6020, 1012], [6023, 1012], [6027, 1012], [6031, 1012], [6035, 1012], [6039, 1012], [6043, 1012], [6047, 1012]]
def q_mh_14 : List (List Nat) := [[6051, 1012], [6055, 1012], [6059, 1012], [6063, 1012], [6067, 1012], [6071, 1012], [6075, 1012], [6081, 1012], [6085, 1012], [6089, 1012], [6094, 1012], [6098, 1012], [6102, 1012], [6107, 1012], [6111, 1012], [6115, 1012]]
def q_mh_all : List (List (List Nat)) := [q_mh_0, q_mh_1, q_mh_2, q_mh_3, q_mh_4, q_mh_5, q_mh_6, q_mh_7, q_mh_8, q_mh_9, q_mh_10, q_mh_11, q_mh_12, q_mh_13, q_mh_14]
def q_mh (m : Nat) : List Nat := match q_mh_all[m / 16]? with
  | some l => (match l[m % 16]? with
    | some c => c
    | none => [])
  | none => []
